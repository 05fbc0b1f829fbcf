theorem s_within (x y z : Int32) (h : HP) : Run n_X6_within h.1 0 (ini n_X6_within [.int x, .int y, .int z]) [] h (Ret (some (.int (if y ≤ x ∧ x ≤ z then 1 else 0))) h) := by
  have hT : mT n_X6_within = tb_X6_within := rfl
  refine v_p hT rfl rfl ?_
  refine g_cmp hT rfl (fun q => ?_) (fun q => ?_)
  · have q : x < y := q
    refine v_p hT rfl rfl ?_
    refine g_ret hT rfl (fun _ => Or.inl rfl) rfl ⟨?_, rfl⟩
    rw [if_neg (fun z => Int32.not_le.mpr q z.1)]
    rfl
  · have q : ¬ x < y := q
    refine v_p hT rfl rfl ?_
    refine g_cmp hT rfl (fun q2 => ?_) (fun q2 => ?_)
    · have q2 : z < x := q2
      refine v_p hT rfl rfl ?_
      refine g_ret hT rfl (fun _ => Or.inl rfl) rfl ⟨?_, rfl⟩
      rw [if_neg (fun z => Int32.not_le.mpr q2 z.2)]
      rfl
    · have q2 : ¬ z < x := q2
      refine v_p hT rfl rfl ?_
      refine g_ret hT rfl (fun _ => Or.inr rfl) rfl ⟨?_, rfl⟩
      rw [if_pos ⟨Int32.not_lt.mp q, Int32.not_lt.mp q2⟩]
      rfl
/-- the filling of lines: line and what is used of it, at word k -/
def lineF (w : Nat) (ln : Nat → Nat) : Nat → Nat × Nat
  | 0 => (0, ln 0)
  | k + 1 => if (lineF w ln k).2 + 1 + ln (k + 1) ≤ w then ((lineF w ln k).1, (lineF w ln k).2 + 1 + ln (k + 1)) else ((lineF w ln k).1 + 1, ln (k + 1))
theorem lineF_le (w : Nat) (ln : Nat → Nat) (k : Nat) : (lineF w ln k).1 ≤ k := by
  induction k with
  | zero => exact Nat.le_refl _
  | succ k ih => unfold lineF; split <;> (dsimp only; omega)
theorem lineF_used (w c : Nat) (ln : Nat → Nat) (k : Nat) (hc : w ≤ c) (h : ∀ i, i ≤ k → ln i ≤ c) : (lineF w ln k).2 ≤ c := by
  induction k with
  | zero => exact h 0 (Nat.le_refl _)
  | succ k ih =>
    unfold lineF
    split
    · dsimp only; omega
    · exact h (k + 1) (Nat.le_refl _)
set_option maxHeartbeats 1000000 in
theorem s_lineOf {b n sl k w : Nat} {kf : Nat → Nat} {f : Nat → Nat → Int32} {ln : Nat → Nat} (hb : isBk b) (hs : sl < 16) (hk : k < 12) (hw : f (b + 4) (sl / 8) = nI w) (hw2 : w ≤ 1000) (hln : ∀ i, i ≤ k → f (b + 3) (sl * 12 + i) = nI (ln i)) (hl2 : ∀ i, i ≤ k → ln i ≤ 1000) :
    Run n_X0_lineOf 110 0 (ini n_X0_lineOf [.ref b, .int (nI sl), .int (nI k)]) [] (HH n kf f) (Ret (some (.int (nI (lineF w ln k).1))) (HH n kf f)) := by
  have hT : mT n_X0_lineOf = tb_X0_lineOf := rfl
  obtain ⟨k0, k1, k2, k3, k4, k5, k6, k7, k8⟩ := bk_kd hb
  have hlt := bk_lt hb
  have loop : ∀ dd i : Nat, i + dd = k + 1 → 1 ≤ i → Run n_X0_lineOf 110 34 [some (.ref b), some (.int (nI sl)), some (.int (nI k)), some (.int (nI w)), some (.int (nI (sl * 12))), some (.int (nI (lineF w ln (i - 1)).1)), some (.int (nI (lineF w ln (i - 1)).2)), some (.int (nI i)), none] [.int (nI k), .int (nI i)] (HH n kf f) (Ret (some (.int (nI (lineF w ln k).1))) (HH n kf f)) := by
    intro dd
    induction dd with
    | zero =>
      intro i hi h1
      refine g_cmp hT rfl (fun q => ?_) (fun q => ?_)
      · refine v_p hT rfl rfl ?_
        refine v_ret hT rfl (fun z => by cases z) rfl ⟨?_, rfl⟩
        rw [show i - 1 = k by omega]
      · exact absurd ((cj_gt (by omega) (by omega)).mpr (by omega)) q
    | succ dd ih =>
      intro i hi h1
      refine g_cmp hT rfl (fun q => ?_) (fun q => ?_)
      · exact absurd ((cj_gt (by omega) (by omega)).mp q) (by omega)
      · refine v_p hT rfl rfl ?_
        refine v_getr hT rfl k0 (by omega) (bk_rr hb n kf _ (by decide)) ?_
        refine v_p hT rfl rfl ?_
        simp only [nI_add]
        refine v_ald hT rfl k3 (by omega) (by decide) (by omega) ?_
        rw [hln i (by omega)]
        refine v_p hT rfl rfl ?_
        simp only [nI_1, nI_add]
        have hu := lineF_used w 1000 ln (i - 1) hw2 (fun z hz => hl2 z (by omega))
        have hli := hl2 i (by omega)
        obtain ⟨i', rfl⟩ : ∃ i', i = i' + 1 := ⟨i - 1, by omega⟩
        refine g_cmp hT rfl (fun q => ?_) (fun q => ?_)
        · have q := (cj_gt (by omega) (by omega)).mp q
          have e : lineF w ln (i' + 1) = ((lineF w ln i').1 + 1, ln (i' + 1)) := by
            show (if _ then _ else _) = _
            rw [if_neg (by simp at q; omega)]
          refine v_p hT rfl rfl ?_
          refine v_cv (ih (i' + 1 + 1) (by omega) (by omega)) ⟨rfl, rfl, rfl, rfl, rfl, ?_, ?_, ?_, trivial⟩ ?_ rfl <;> simp [e, nI_add]
        · have q := fun z => q ((cj_gt (by omega) (by omega)).mpr z)
          have e : lineF w ln (i' + 1) = ((lineF w ln i').1, (lineF w ln i').2 + 1 + ln (i' + 1)) := by
            show (if _ then _ else _) = _
            rw [if_pos (by simp at q; omega)]
          refine v_p hT rfl rfl ?_
          refine v_cv (ih (i' + 1 + 1) (by omega) (by omega)) ⟨rfl, rfl, rfl, rfl, rfl, ?_, ?_, ?_, trivial⟩ ?_ rfl <;> simp [e, nI_add, Nat.add_assoc]
  refine v_p hT rfl rfl ?_
  refine v_getr hT rfl k0 (by omega) (bk_rr hb n kf _ (by decide)) ?_
  refine v_p hT rfl rfl ?_
  refine g_divN hT rfl (by omega) (by omega) (by omega) ?_
  refine v_ald hT rfl k4 (by omega) (by decide) (by omega) ?_
  rw [hw]
  refine v_p hT rfl rfl ?_
  simp only [pk_mul]
  refine v_getr hT rfl k0 (by omega) (bk_rr hb n kf _ (by decide)) ?_
  refine v_p hT rfl rfl ?_
  refine v_ald hT rfl k3 (by omega) (by decide) (by omega) ?_
  rw [show f (b + 3) (sl * 12) = nI (ln 0) from hln 0 (by omega)]
  refine v_p hT rfl rfl ?_
  exact loop k 1 (by omega) (by omega)
