/-! THE CLASS: ties, widths, settings of a book. -/
def bTieAdd (B : BK) (p q w : Nat) : BK := (bNp B, bNw B, bLn B, bWd B, bSe B, bNt B + 1, fun z i => if i = bNt B then (if z = 0 then p else if z = 1 then q else w) else bTi B z i)
noncomputable def aTie (B : BK) (p q w : Int32) : Int32 × BK :=
  bif isPa B (nI 0) p && isPa B (nI 1) q && decide (nI 1 ≤ w ∧ w ≤ nI 9) then
    (bif pB (∃ i, i < bNt B ∧ nI (bTi B 0 i) = p ∧ nI (bTi B 1 i) = q) then (mI 3, B) else bif decide (10 ≤ bNt B) then (mI 4, B) else (nI (bNt B), bTieAdd B p.toNatClampNeg q.toNatClampNeg w.toNatClampNeg)) else (mI 2, B)
theorem hs_b (f : Nat → Nat → Int32) (b i j k : Nat) (x : Int32) (h : j ≠ i) : hset f (b + i) k x (b + j) = f (b + j) := hset_ne (by omega)
theorem hs_b0 (f : Nat → Nat → Int32) (b i k : Nat) (x : Int32) (h : 0 < i) : hset f (b + i) k x b = f b := hset_ne (by omega)
theorem hs_0b (f : Nat → Nat → Int32) (b j k : Nat) (x : Int32) (h : 0 < j) : hset f b k x (b + j) = f (b + j) := hset_ne (by omega)
theorem hs_s (f : Nat → Nat → Int32) (o k : Nat) (x : Int32) : hset f o k x o = upd (f o) k x := by simp [hset]
theorem bkR_tieAdd {f : Nat → Nat → Int32} {b p q w : Nat} {B : BK} (hR : bkR f b B) : bkR (hset (hset (hset (hset f (b + 6) (bNt B) (nI p)) (b + 7) (bNt B) (nI q)) (b + 8) (bNt B) (nI w)) b 8 (nI (bNt B + 1))) b (bTieAdd B p q w) := by
  obtain ⟨h1, h2, h3, h4, h5, h6⟩ := hR
  refine ⟨fun s hs => ?_, fun s p hs hp => ?_, fun s hs => ?_, fun i hi3 => ?_, ?_, fun i hit => ?_⟩
  · simpa [hset, bTieAdd] using h1 s hs
  · simpa [hset, bTieAdd] using h2 s p hs hp
  · simpa [hset, bTieAdd] using h3 s hs
  · simpa [hset, bTieAdd] using h4 i hi3
  · simp [hset, upd, bTieAdd]
  · have hit : i < bNt B + 1 := hit
    by_cases hi : i = bNt B
    · subst hi
      simp [hset, upd, bTieAdd, bTi]
    · have := h6 i (by omega)
      simpa [hset, upd, bTieAdd, hi, bTi] using this
theorem s_addTie {b n : Nat} {kf : Nat → Nat} {f : Nat → Nat → Int32} {B : BK} (hb : isBk b) (hR : bkR f b B) (hV : VB0 B) (p q w : Int32) :
    ∃ f2, Run n_X0_addTie 110 0 (ini n_X0_addTie [.ref b, .int p, .int q, .int w]) [] (HH n kf f) (Ret (some (.int (aTie B p q w).1)) (HH n kf f2)) ∧ bkR f2 b (aTie B p q w).2 ∧ ∀ c, c < b ∨ b + 8 < c → f2 c = f c := by
  have hT : mT n_X0_addTie = tb_X0_addTie := rfl
  obtain ⟨k0, k1, k2, k3, k4, k5, k6, k7, k8⟩ := bk_kd hb
  have hlt := bk_lt hb
  have h10 := hV.2.2.2.2.1
  have h81 := hV.1 0 (by omega)
  have h82 := hV.1 1 (by omega)
  by_cases hA : isPa B (nI 0) p = true ∧ isPa B (nI 1) q = true ∧ nI 1 ≤ w ∧ w ≤ nI 9
  · obtain ⟨hp, hq, hw⟩ := hA
    have hdw : decide (nI 1 ≤ w ∧ w ≤ nI 9) = true := decide_eq_true hw
    have hto : aTie B p q w = bif pB (∃ i, i < bNt B ∧ nI (bTi B 0 i) = p ∧ nI (bTi B 1 i) = q) then (mI 3, B) else bif decide (10 ≤ bNt B) then (mI 4, B) else (nI (bNt B), bTieAdd B p.toNatClampNeg q.toNatClampNeg w.toNatClampNeg) := by unfold aTie; rw [hp, hq, hdw]; rfl
    obtain ⟨z0, p2, hz0, hp2, ez0, ep⟩ := isPa_of hp
    obtain ⟨z1, q2, hz1, hq2, ez1, eq⟩ := isPa_of hq
    have ez0' : 0 = z0 := (nI_eq (by omega) (by omega)).mp ez0
    have ez1' : 1 = z1 := (nI_eq (by omega) (by omega)).mp ez1
    subst ez0'
    subst ez1'
    obtain ⟨w2, hw1, hw9, ew⟩ := in_range w (by omega) hw (by omega)
    have ti : ∀ i, i < bNt B → bTi B 0 i < 8 ∧ bTi B 1 i < 8 := fun i hi => by have := hV.2.2.2.2.2 i hi; omega
    have hstart : ∀ Φ, Run n_X0_addTie 110 40 [some (.ref b), some (.int p), some (.int q), some (.int w), some (.int (nI 0))] [.int (nI (bNt B)), .int (nI 0)] (HH n kf f) Φ → Run n_X0_addTie 110 0 (ini n_X0_addTie [.ref b, .int p, .int q, .int w]) [] (HH n kf f) Φ := by
      intro Φ hΦ
      refine v_p hT rfl rfl ?_
      refine v_call hT [.int (nI 0), .int p] rfl rfl (by first | rfl | assumption) (by omega) rfl rfl (Nat.le_of_ble_eq_true rfl) (Nat.le_of_ble_eq_true rfl) (s_hasParagraph hb hR hV (nI 0) p) ?_
      rw [hp]
      refine g_if hT rfl (fun cq => ?_) (fun cq => ?_)
      · exact absurd (show (1 : Int32) = 0 from cq) (by decide)
      · refine v_p hT rfl rfl ?_
        refine v_call hT [.int (nI 1), .int q] rfl rfl (by first | rfl | assumption) (by omega) rfl rfl (Nat.le_of_ble_eq_true rfl) (Nat.le_of_ble_eq_true rfl) (s_hasParagraph hb hR hV (nI 1) q) ?_
        rw [hq]
        refine g_if hT rfl (fun cq => ?_) (fun cq => ?_)
        · exact absurd (show (1 : Int32) = 0 from cq) (by decide)
        · refine v_p hT rfl rfl ?_
          refine v_scall hT [.int w, .int (nI 1), .int (nI 9)] rfl rfl rfl rfl (Nat.le_of_ble_eq_true rfl) (Nat.le_of_ble_eq_true rfl) (s_within w (nI 1) (nI 9)) ?_
          rw [hdw]
          refine g_if hT rfl (fun cq => ?_) (fun cq => ?_)
          · refine v_p hT rfl rfl ?_
            refine v_geti hT rfl (by first | rfl | assumption) (by omega) ?_
            rw [hR.2.2.2.2.1]
            exact hΦ
          · exact absurd (show ¬ (1 : Int32) = 0 by decide) cq
    by_cases hex : ∃ i, i < bNt B ∧ nI (bTi B 0 i) = p ∧ nI (bTi B 1 i) = q
    · rw [hto, pB_t hex]
      refine ⟨f, hstart _ ?_, hR, fun _ _ => rfl⟩
      have loop : ∀ dd i : Nat, i + dd = bNt B → (∀ j, j < i → ¬ (nI (bTi B 0 j) = p ∧ nI (bTi B 1 j) = q)) → Run n_X0_addTie 110 40 [some (.ref b), some (.int p), some (.int q), some (.int w), some (.int (nI i))] [.int (nI (bNt B)), .int (nI i)] (HH n kf f) (Ret (some (.int (mI 3))) (HH n kf f)) := by
        intro dd
        induction dd with
        | zero =>
          intro i hi hno
          obtain ⟨j, hj, hj2⟩ := hex
          exact absurd hj2 (hno j (by omega))
        | succ dd ih =>
          intro i hi hno
          refine g_cmp hT rfl (fun cq => ?_) (fun cq => ?_)
          · exact absurd ((cj_ge (by omega) (by omega)).mp cq) (by omega)
          · have hit := hR.2.2.2.2.2 i (by omega)
            repeat (first | refine v_p hT rfl rfl ?_ | refine v_getr hT rfl rfl (by omega) rfl ?_ | refine v_getr hT rfl k0 (by omega) (bk_rr hb _ _ _ (by decide)) ?_ | refine v_geti hT rfl (by first | rfl | assumption) (by omega) ?_ | refine v_ald hT rfl (by first | assumption | rfl) (by omega) (by decide) (by omega) ?_ | simp only [nI_add, pk_mul, hit.1])
            have back : ¬ (nI (bTi B 0 i) = p ∧ nI (bTi B 1 i) = q) → Run n_X0_addTie 110 68 [some (.ref b), some (.int p), some (.int q), some (.int w), some (.int (nI i))] [] (HH n kf f) (Ret (some (.int (mI 3))) (HH n kf f)) := by
              intro hne
              repeat (first | refine v_p hT rfl rfl ?_ | refine v_getr hT rfl rfl (by omega) rfl ?_ | refine v_getr hT rfl k0 (by omega) (bk_rr hb _ _ _ (by decide)) ?_ | refine v_geti hT rfl (by first | rfl | assumption) (by omega) ?_ | refine v_ald hT rfl (by first | assumption | rfl) (by omega) (by decide) (by omega) ?_ | simp only [nI_add, pk_mul, hR.2.2.2.2.1])
              exact ih (i + 1) (by omega) (fun j hj => by
                by_cases hji : j = i
                · subst hji; exact hne
                · exact hno j (by omega))
            refine g_cmp hT rfl (fun q1 => ?_) (fun q1 => ?_)
            · exact back (fun z => q1 z.1)
            · have q1 : nI (bTi B 0 i) = p := Classical.byContradiction q1
              repeat (first | refine v_p hT rfl rfl ?_ | refine v_getr hT rfl rfl (by omega) rfl ?_ | refine v_getr hT rfl k0 (by omega) (bk_rr hb _ _ _ (by decide)) ?_ | refine v_geti hT rfl (by first | rfl | assumption) (by omega) ?_ | refine v_ald hT rfl (by first | assumption | rfl) (by omega) (by decide) (by omega) ?_ | simp only [nI_add, pk_mul, hit.2.1])
              refine g_cmp hT rfl (fun q2 => ?_) (fun q2 => ?_)
              · exact back (fun z => q2 z.2)
              · refine v_p hT rfl rfl ?_
                refine v_ret hT rfl (fun z => by cases z) rfl ⟨rfl, rfl⟩
      exact loop (bNt B) 0 (by omega) (fun j hj => by omega)
    · rw [hto, pB_f hex]
      have loop : ∀ Φ, Run n_X0_addTie 110 74 [some (.ref b), some (.int p), some (.int q), some (.int w), none] [] (HH n kf f) Φ → ∀ dd i : Nat, i + dd = bNt B → Run n_X0_addTie 110 40 [some (.ref b), some (.int p), some (.int q), some (.int w), some (.int (nI i))] [.int (nI (bNt B)), .int (nI i)] (HH n kf f) Φ := by
        intro Φ hΦ dd
        induction dd with
        | zero =>
          intro i hi
          refine g_cmp hT rfl (fun cq => ?_) (fun cq => ?_)
          · exact v_cv hΦ ⟨rfl, rfl, rfl, rfl, trivial⟩ rfl rfl
          · exact absurd ((cj_ge (by omega) (by omega)).mpr (by omega)) cq
        | succ dd ih =>
          intro i hi
          refine g_cmp hT rfl (fun cq => ?_) (fun cq => ?_)
          · exact absurd ((cj_ge (by omega) (by omega)).mp cq) (by omega)
          · have hit := hR.2.2.2.2.2 i (by omega)
            repeat (first | refine v_p hT rfl rfl ?_ | refine v_getr hT rfl rfl (by omega) rfl ?_ | refine v_getr hT rfl k0 (by omega) (bk_rr hb _ _ _ (by decide)) ?_ | refine v_geti hT rfl (by first | rfl | assumption) (by omega) ?_ | refine v_ald hT rfl (by first | assumption | rfl) (by omega) (by decide) (by omega) ?_ | simp only [nI_add, pk_mul, hit.1])
            have back : Run n_X0_addTie 110 68 [some (.ref b), some (.int p), some (.int q), some (.int w), some (.int (nI i))] [] (HH n kf f) Φ := by
              repeat (first | refine v_p hT rfl rfl ?_ | refine v_getr hT rfl rfl (by omega) rfl ?_ | refine v_getr hT rfl k0 (by omega) (bk_rr hb _ _ _ (by decide)) ?_ | refine v_geti hT rfl (by first | rfl | assumption) (by omega) ?_ | refine v_ald hT rfl (by first | assumption | rfl) (by omega) (by decide) (by omega) ?_ | simp only [nI_add, pk_mul, hR.2.2.2.2.1])
              exact ih (i + 1) (by omega)
            refine g_cmp hT rfl (fun q1 => ?_) (fun q1 => ?_)
            · exact back
            · have q1 : nI (bTi B 0 i) = p := Classical.byContradiction q1
              repeat (first | refine v_p hT rfl rfl ?_ | refine v_getr hT rfl rfl (by omega) rfl ?_ | refine v_getr hT rfl k0 (by omega) (bk_rr hb _ _ _ (by decide)) ?_ | refine v_geti hT rfl (by first | rfl | assumption) (by omega) ?_ | refine v_ald hT rfl (by first | assumption | rfl) (by omega) (by decide) (by omega) ?_ | simp only [nI_add, pk_mul, hit.2.1])
              refine g_cmp hT rfl (fun q2 => ?_) (fun q2 => ?_)
              · exact back
              · exact absurd ⟨i, by omega, q1, Classical.byContradiction q2⟩ hex
      by_cases h10b : 10 ≤ bNt B
      · rw [decide_eq_true h10b]
        refine ⟨f, hstart _ (loop _ ?_ (bNt B) 0 (by omega)), hR, fun _ _ => rfl⟩
        repeat (first | refine v_p hT rfl rfl ?_ | refine v_getr hT rfl rfl (by omega) rfl ?_ | refine v_getr hT rfl k0 (by omega) (bk_rr hb _ _ _ (by decide)) ?_ | refine v_geti hT rfl (by first | rfl | assumption) (by omega) ?_ | refine v_ald hT rfl (by first | assumption | rfl) (by omega) (by decide) (by omega) ?_ | simp only [nI_add, pk_mul, hR.2.2.2.2.1])
        refine g_cmp hT rfl (fun q1 => ?_) (fun q1 => ?_)
        · exact absurd ((cj_lt (by omega) (by omega)).mp q1) (by omega)
        · refine v_p hT rfl rfl ?_
          refine v_ret hT rfl (fun z => by cases z) rfl ⟨rfl, rfl⟩
      · rw [decide_eq_false h10b]
        subst ep
        subst eq
        subst ew
        refine ⟨hset (hset (hset (hset f (b + 6) (bNt B) (nI p2)) (b + 7) (bNt B) (nI q2)) (b + 8) (bNt B) (nI w2)) b 8 (nI (bNt B + 1)), hstart _ (loop _ ?_ (bNt B) 0 (by omega)), ?_, fun c hc => ?_⟩
        · have hn := hR.2.2.2.2.1
          repeat (first | refine v_p hT rfl rfl ?_ | refine v_getr hT rfl rfl (by omega) rfl ?_ | refine v_getr hT rfl k0 (by omega) (bk_rr hb _ _ _ (by decide)) ?_ | refine v_geti hT rfl (by first | rfl | assumption) (by omega) ?_ | refine v_ald hT rfl (by first | assumption | rfl) (by omega) (by decide) (by omega) ?_ | simp only [nI_add, pk_mul, hn])
          refine g_cmp hT rfl (fun q1 => ?_) (fun q1 => ?_)
          · repeat (first | refine v_p hT rfl rfl ?_ | refine v_getr hT rfl rfl (by omega) rfl ?_ | refine v_getr hT rfl k0 (by omega) (bk_rr hb _ _ _ (by decide)) ?_ | refine v_geti hT rfl (by first | rfl | assumption) (by omega) ?_ | refine v_ald hT rfl (by first | assumption | rfl) (by omega) (by decide) (by omega) ?_ | simp only [nI_add, pk_mul, hn])
            refine v_ast hT rfl k6 (by omega) (by decide) (by omega) ?_
            repeat (first | refine v_p hT rfl rfl ?_ | refine v_getr hT rfl rfl (by omega) rfl ?_ | refine v_getr hT rfl k0 (by omega) (bk_rr hb _ _ _ (by decide)) ?_ | refine v_geti hT rfl (by first | rfl | assumption) (by omega) ?_ | refine v_ald hT rfl (by first | assumption | rfl) (by omega) (by decide) (by omega) ?_ | simp only [nI_add, pk_mul, hn, hs_b0 _ b 6 _ _ (by decide)])
            refine v_ast hT rfl k7 (by omega) (by decide) (by omega) ?_
            repeat (first | refine v_p hT rfl rfl ?_ | refine v_getr hT rfl rfl (by omega) rfl ?_ | refine v_getr hT rfl k0 (by omega) (bk_rr hb _ _ _ (by decide)) ?_ | refine v_geti hT rfl (by first | rfl | assumption) (by omega) ?_ | refine v_ald hT rfl (by first | assumption | rfl) (by omega) (by decide) (by omega) ?_ | simp only [nI_add, pk_mul, hn, hs_b0 _ b 6 _ _ (by decide), hs_b0 _ b 7 _ _ (by decide)])
            refine v_ast hT rfl k8 (by omega) (by decide) (by omega) ?_
            repeat (first | refine v_p hT rfl rfl ?_ | refine v_getr hT rfl rfl (by omega) rfl ?_ | refine v_getr hT rfl k0 (by omega) (bk_rr hb _ _ _ (by decide)) ?_ | refine v_geti hT rfl (by first | rfl | assumption) (by omega) ?_ | refine v_ald hT rfl (by first | assumption | rfl) (by omega) (by decide) (by omega) ?_ | simp only [nI_add, pk_mul, hn, hs_b0 _ b 6 _ _ (by decide), hs_b0 _ b 7 _ _ (by decide), hs_b0 _ b 8 _ _ (by decide)])
            refine v_puti hT rfl k0 (by omega) (fun z => by cases z) ?_
            repeat (first | refine v_p hT rfl rfl ?_ | refine v_getr hT rfl rfl (by omega) rfl ?_ | refine v_getr hT rfl k0 (by omega) (bk_rr hb _ _ _ (by decide)) ?_ | refine v_geti hT rfl (by first | rfl | assumption) (by omega) ?_ | refine v_ald hT rfl (by first | assumption | rfl) (by omega) (by decide) (by omega) ?_ | simp only [nI_add, pk_mul, hs_s, upd])
            refine v_ret hT rfl (fun z => by cases z) rfl ⟨?_, rfl⟩
            rw [if_pos trivial, pk_sub (by omega)]
            rfl
          · exact absurd ((cj_lt (by omega) (by omega)).mpr (by omega)) q1
        · show bkR _ b (bTieAdd B (nI p2).toNatClampNeg (nI q2).toNatClampNeg (nI w2).toNatClampNeg)
          rw [nI_clamp (by omega), nI_clamp (by omega), nI_clamp (by omega)]
          exact bkR_tieAdd hR
        · rw [hset_ne (by omega), hset_ne (by omega), hset_ne (by omega), hset_ne (by omega)]
  · have hto : aTie B p q w = (mI 2, B) := by
      unfold aTie
      have hz : (isPa B (nI 0) p && isPa B (nI 1) q && decide (nI 1 ≤ w ∧ w ≤ nI 9)) = false := by
        rw [← Bool.not_eq_true]
        intro hz
        simp only [Bool.and_eq_true, decide_eq_true_eq] at hz
        exact hA ⟨hz.1.1, hz.1.2, hz.2⟩
      rw [hz]
      rfl
    rw [hto]
    refine ⟨f, ?_, hR, fun _ _ => rfl⟩
    have bad : Run n_X0_addTie 110 28 [some (.ref b), some (.int p), some (.int q), some (.int w), none] [] (HH n kf f) (Ret (some (.int (mI 2))) (HH n kf f)) := by
      refine v_p hT rfl rfl ?_
      refine v_ret hT rfl (fun z => by cases z) rfl ⟨rfl, rfl⟩
    refine v_p hT rfl rfl ?_
    refine v_call hT [.int (nI 0), .int p] rfl rfl (by first | rfl | assumption) (by omega) rfl rfl (Nat.le_of_ble_eq_true rfl) (Nat.le_of_ble_eq_true rfl) (s_hasParagraph hb hR hV (nI 0) p) ?_
    refine g_if hT rfl (fun q1 => ?_) (fun q1 => ?_)
    · exact bad
    · have q1 : isPa B (nI 0) p = true := by rw [← Bool.not_eq_false]; exact fun z => q1 ((bI_z _).mpr z)
      refine v_p hT rfl rfl ?_
      refine v_call hT [.int (nI 1), .int q] rfl rfl (by first | rfl | assumption) (by omega) rfl rfl (Nat.le_of_ble_eq_true rfl) (Nat.le_of_ble_eq_true rfl) (s_hasParagraph hb hR hV (nI 1) q) ?_
      refine g_if hT rfl (fun q2 => ?_) (fun q2 => ?_)
      · exact bad
      · have q2 : isPa B (nI 1) q = true := by rw [← Bool.not_eq_false]; exact fun z => q2 ((bI_z _).mpr z)
        refine v_p hT rfl rfl ?_
        refine v_scall hT [.int w, .int (nI 1), .int (nI 9)] rfl rfl rfl rfl (Nat.le_of_ble_eq_true rfl) (Nat.le_of_ble_eq_true rfl) (s_within w (nI 1) (nI 9)) ?_
        refine g_if hT rfl (fun q3 => ?_) (fun q3 => ?_)
        · have q3 : ¬ bI (decide (nI 1 ≤ w ∧ w ≤ nI 9)) = 0 := q3
          rw [bI_z, decide_eq_false_iff_not] at q3
          exact absurd ⟨q1, q2, Classical.not_not.mp q3⟩ hA
        · exact bad

def bTieGo (B : BK) (i : Nat) : BK := (bNp B, bNw B, bLn B, bWd B, bSe B, bNt B - 1, fun z j => if j < i then bTi B z j else bTi B z (j + 1))
theorem s_dropTie {b n i : Nat} {kf : Nat → Nat} {f : Nat → Nat → Int32} {B : BK} (hb : isBk b) (hn : f b 8 = nI (bNt B)) (h10 : bNt B ≤ 10) (hi : i < bNt B) :
    Run n_X0_dropTie 110 0 (ini n_X0_dropTie [.ref b, .int (nI i)]) [] (HH n kf f) (Ret (some (.int (nI (bNt B - 1)))) (HH n kf (hset (hputs (hputs (hputs f (b + 6) (va_cpy (f (b + 6)) (f (b + 6)) (i + 1) i (bNt B - i - 1))) (b + 7) (va_cpy (f (b + 7)) (f (b + 7)) (i + 1) i (bNt B - i - 1))) (b + 8) (va_cpy (f (b + 8)) (f (b + 8)) (i + 1) i (bNt B - i - 1))) b 8 (nI (bNt B - 1))))) := by
  have hT : mT n_X0_dropTie = tb_X0_dropTie := rfl
  obtain ⟨k0, k1, k2, k3, k4, k5, k6, k7, k8⟩ := bk_kd hb
  have hlt := bk_lt hb
  refine v_p hT rfl rfl ?_
  refine v_call hT [.int (nI i)] rfl rfl (by first | rfl | assumption) (by omega) rfl rfl (Nat.le_of_ble_eq_true rfl) (Nat.le_of_ble_eq_true rfl) (s_hasTie hb hn h10 (nI i)) ?_
  rw [pB_t ⟨i, hi, rfl⟩]
  refine g_if hT rfl (fun cq => ?_) (fun cq => ?_)
  · refine v_p hT rfl rfl ?_
    refine v_geti hT rfl (by first | rfl | assumption) (by omega) ?_
    rw [hn]
    refine v_p hT rfl rfl ?_
    rw [pk_sub (by omega), pk_sub (by omega)]
    repeat (first | refine v_p hT rfl rfl ?_ | refine v_getr hT rfl rfl (by omega) rfl ?_ | refine v_getr hT rfl k0 (by omega) (bk_rr hb _ _ _ (by decide)) ?_ | refine v_geti hT rfl (by first | rfl | assumption) (by omega) ?_ | refine v_ald hT rfl (by first | assumption | rfl) (by omega) (by decide) (by omega) ?_ | simp only [nI_add, pk_mul])
    refine v_cpy hT rfl k6 k6 (by omega) (by omega) (by omega) (by omega) (Nat.le_of_ble_eq_true rfl) ?_
    repeat (first | refine v_p hT rfl rfl ?_ | refine v_getr hT rfl rfl (by omega) rfl ?_ | refine v_getr hT rfl k0 (by omega) (bk_rr hb _ _ _ (by decide)) ?_ | refine v_geti hT rfl (by first | rfl | assumption) (by omega) ?_ | refine v_ald hT rfl (by first | assumption | rfl) (by omega) (by decide) (by omega) ?_ | simp only [nI_add, pk_mul])
    refine v_cpy hT rfl k7 k7 (by omega) (by omega) (by omega) (by omega) (Nat.le_of_ble_eq_true rfl) ?_
    repeat (first | refine v_p hT rfl rfl ?_ | refine v_getr hT rfl rfl (by omega) rfl ?_ | refine v_getr hT rfl k0 (by omega) (bk_rr hb _ _ _ (by decide)) ?_ | refine v_geti hT rfl (by first | rfl | assumption) (by omega) ?_ | refine v_ald hT rfl (by first | assumption | rfl) (by omega) (by decide) (by omega) ?_ | simp only [nI_add, pk_mul])
    refine v_cpy hT rfl k8 k8 (by omega) (by omega) (by omega) (by omega) (Nat.le_of_ble_eq_true rfl) ?_
    rw [hputs_ne (show b + 7 ≠ b + 6 by omega), hputs_ne (show b + 8 ≠ b + 7 by omega), hputs_ne (show b + 8 ≠ b + 6 by omega)]
    repeat (first | refine v_p hT rfl rfl ?_ | refine v_getr hT rfl rfl (by omega) rfl ?_ | refine v_getr hT rfl k0 (by omega) (bk_rr hb _ _ _ (by decide)) ?_ | refine v_geti hT rfl (by first | rfl | assumption) (by omega) ?_ | refine v_ald hT rfl (by first | assumption | rfl) (by omega) (by decide) (by omega) ?_ | simp only [nI_add, pk_mul])
    rw [hputs_ne (show b ≠ b + 8 by omega), hputs_ne (show b ≠ b + 7 by omega), hputs_ne (show b ≠ b + 6 by omega), hn, pk_sub (by omega)]
    refine v_puti hT rfl k0 (by omega) (fun z => by cases z) ?_
    repeat (first | refine v_p hT rfl rfl ?_ | refine v_getr hT rfl rfl (by omega) rfl ?_ | refine v_getr hT rfl k0 (by omega) (bk_rr hb _ _ _ (by decide)) ?_ | refine v_geti hT rfl (by first | rfl | assumption) (by omega) ?_ | refine v_ald hT rfl (by first | assumption | rfl) (by omega) (by decide) (by omega) ?_ | simp only [nI_add, pk_mul, hs_s, upd])
    refine v_ret hT rfl (fun z => by cases z) rfl ⟨rfl, rfl⟩
  · exact absurd (show ¬ (1 : Int32) = 0 by decide) cq
theorem s_dropTieBad {b n : Nat} {kf : Nat → Nat} {f : Nat → Nat → Int32} {B : BK} (hb : isBk b) (hn : f b 8 = nI (bNt B)) (h10 : bNt B ≤ 10) {i : Int32} (hi : ¬ ∃ k, k < bNt B ∧ i = nI k) :
    Run n_X0_dropTie 110 0 (ini n_X0_dropTie [.ref b, .int i]) [] (HH n kf f) (Ret (some (.int (mI 2))) (HH n kf f)) := by
  have hT : mT n_X0_dropTie = tb_X0_dropTie := rfl
  obtain ⟨k0, k1, k2, k3, k4, k5, k6, k7, k8⟩ := bk_kd hb
  have hlt := bk_lt hb
  refine v_p hT rfl rfl ?_
  refine v_call hT [.int i] rfl rfl (by first | rfl | assumption) (by omega) rfl rfl (Nat.le_of_ble_eq_true rfl) (Nat.le_of_ble_eq_true rfl) (s_hasTie hb hn h10 i) ?_
  rw [pB_f hi]
  refine g_if hT rfl (fun cq => ?_) (fun cq => ?_)
  · exact absurd rfl (show ¬ (0 : Int32) = 0 from cq)
  · refine v_p hT rfl rfl ?_
    refine v_ret hT rfl (fun z => by cases z) rfl ⟨rfl, rfl⟩
/-- the tie rows behind a removal -/
theorem tieGo_at {g : Nat → Int32} {i nt j z : Nat} {ti : Nat → Nat → Nat} (hi : i < nt) (hg : ∀ j, j < nt → g j = nI (ti z j)) (hj : j < nt - 1) : va_cpy g g (i + 1) i (nt - i - 1) j = nI (if j < i then ti z j else ti z (j + 1)) := by
  by_cases h : j < i
  · rw [pk_cpy_out (by omega), if_pos h]
    exact hg j (by omega)
  · rw [pk_cpy_in (by omega) (by omega), if_neg h, show i + 1 + (j - i) = j + 1 by omega]
    exact hg (j + 1) (by omega)
theorem bkR_tieGo {f : Nat → Nat → Int32} {b i : Nat} {B : BK} (hR : bkR f b B) (hi : i < bNt B) : bkR (hset (hputs (hputs (hputs f (b + 6) (va_cpy (f (b + 6)) (f (b + 6)) (i + 1) i (bNt B - i - 1))) (b + 7) (va_cpy (f (b + 7)) (f (b + 7)) (i + 1) i (bNt B - i - 1))) (b + 8) (va_cpy (f (b + 8)) (f (b + 8)) (i + 1) i (bNt B - i - 1))) b 8 (nI (bNt B - 1))) b (bTieGo B i) := by
  obtain ⟨h1, h2, h3, h4, h5, h6⟩ := hR
  refine ⟨fun s hs => ?_, fun s p hs hp => ?_, fun s hs => ?_, fun i hi3 => ?_, ?_, fun j hj => ?_⟩
  · simpa [hset, hputs, bTieGo] using h1 s hs
  · simpa [hset, hputs, bTieGo] using h2 s p hs hp
  · simpa [hset, hputs, bTieGo] using h3 s hs
  · simpa [hset, hputs, bTieGo] using h4 i hi3
  · simp [hset, hputs, upd, bTieGo]
  · have hj : j < bNt B - 1 := hj
    refine ⟨?_, ?_, ?_⟩
    · simp only [hset, hputs, bTieGo, bTi]
      simp only [show ¬ b + 6 = b by omega, show ¬ b + 6 = b + 8 by omega, show ¬ b + 6 = b + 7 by omega, if_false, if_true]
      exact tieGo_at (z := 0) hi (fun j hj => (h6 j hj).1) hj
    · simp only [hset, hputs, bTieGo, bTi]
      simp only [show ¬ b + 7 = b by omega, show ¬ b + 7 = b + 8 by omega, show ¬ b + 7 = b + 6 by omega, if_false, if_true]
      exact tieGo_at (z := 1) hi (fun j hj => (h6 j hj).2.1) hj
    · simp only [hset, hputs, bTieGo, bTi]
      simp only [show ¬ b + 8 = b by omega, show ¬ b + 8 = b + 7 by omega, show ¬ b + 8 = b + 6 by omega, if_false, if_true]
      exact tieGo_at (z := 2) hi (fun j hj => (h6 j hj).2.2) hj
