/-! THE CLASS: the states. -/
theorem rset_RR (n : Nat) (kf : Nat → Nat) (i v : Nat) : rset (RR n kf) 20 i v = RR n (fun q => if q = i then v else kf q) := by
  funext c q
  unfold rset RR
  by_cases hc : c = 20
  · subst hc
    by_cases hq : q = i
    · rw [if_pos ⟨rfl, hq⟩, if_pos rfl]
      show v = if q = i then v else kf q
      rw [if_pos hq]
    · rw [if_neg (fun z => hq z.2), if_pos rfl, if_pos rfl]
      show kf q = if q = i then v else kf q
      rw [if_neg hq]
  · rw [if_neg (fun z => hc z.1), if_neg hc, if_neg hc]
theorem v_rst {μ pc : Nat} {L : LT} {st : List Value} {Φ : PT} {T : Tab} {m : Nat} {kf : Nat → Nat} {f : Nat → Nat → Int32} (hT : mT μ = T) {n a b c d j i : Nat} (e : lk T pc = some (n, 55, a, b, c, d)) (hk : kd j = (0, 0)) (hj : j < 110) (hi : i < 6) (k : Run μ 110 (pc + n) L st (HH m (fun q => if q = i then j + 1 else kf q) f) Φ) : Run μ 110 pc L (.ref j :: .int (nI i) :: .ref 20 :: st) (HH m kf f) Φ := by
  refine g_rst (h := HH m kf f) (o := 20) (g := 4) (N := 6) hT e rfl (Or.inl ⟨rfl, hk⟩) (Nat.le_of_ble_eq_true rfl) hj (by omega) hi ?_
  show Run μ 110 (pc + n) L st (110, rset (RR m kf) 20 i (j + 1), f) Φ
  rw [rset_RR]
  exact k
def kfOk (kf : Nat → Nat) : Prop := (∀ i, i < 6 → ∃ b, kf i = b + 1 ∧ isBk b ∧ 21 ≤ b) ∧ ∀ i j, i < 6 → j < 6 → kf i = kf j → i = j
def rot (kf : Nat → Nat) (k i : Nat) : Nat := if i + 1 < k then kf (i + 1) else kf i
def rotF (kf : Nat → Nat) (i : Nat) : Nat := if i = 5 then kf 0 else rot kf 6 i
theorem kfOk_rot {kf : Nat → Nat} (h : kfOk kf) : kfOk (rotF kf) := by
  refine ⟨fun i hi => ?_, fun i j hi hj he => ?_⟩
  · unfold rotF rot
    by_cases h5 : i = 5
    · rw [if_pos h5]; exact h.1 0 (by omega)
    · rw [if_neg h5, if_pos (by omega)]; exact h.1 (i + 1) (by omega)
  · unfold rotF rot at he
    by_cases h5 : i = 5
    · by_cases h6 : j = 5
      · omega
      · rw [if_pos h5, if_neg h6, if_pos (by omega)] at he
        have := h.2 0 (j + 1) (by omega) (by omega) he
        omega
    · by_cases h6 : j = 5
      · rw [if_neg h5, if_pos (by omega), if_pos h6] at he
        have := h.2 (i + 1) 0 (by omega) (by omega) he
        omega
      · rw [if_neg h5, if_pos (by omega), if_neg h6, if_pos (by omega)] at he
        have := h.2 (i + 1) (j + 1) (by omega) (by omega) he
        omega
theorem s_loseOldest {n : Nat} {kf : Nat → Nat} {f : Nat → Nat → Int32} (hk : kfOk kf) :
    Run n_X5_loseOldest 110 0 (ini n_X5_loseOldest [.ref 19]) [] (HH n kf f) (Ret none (HH n (rotF kf) (hset f 19 1 (nI 5)))) := by
  have hT : mT n_X5_loseOldest = tb_X5_loseOldest := rfl
  obtain ⟨b0, e0, i0, l0⟩ := hk.1 0 (by omega)
  have hb0 := bk_lt i0
  have loop : ∀ d k, k + d = 6 → 1 ≤ k → Run n_X5_loseOldest 110 12 [some (.ref 19), some (.ref b0), some (.int (nI k))] [.int (nI 6), .int (nI k)] (HH n (rot kf k) f) (Ret none (HH n (rotF kf) (hset f 19 1 (nI 5)))) := by
    intro d
    induction d with
    | zero =>
      intro k hk6 h1
      have e : k = 6 := by omega
      subst e
      refine g_cmp hT rfl (fun cq => ?_) (fun cq => ?_)
      · refine v_p hT rfl rfl ?_
        refine v_getr hT rfl rfl (by omega) rfl ?_
        refine v_p hT rfl rfl ?_
        refine v_rst hT rfl (bk_kd i0).1 (by omega) (by omega) ?_
        refine v_p hT rfl rfl ?_
        refine v_puti hT rfl rfl (by omega) (fun z => by cases z) ?_
        have hq : (fun q => if q = 5 then b0 + 1 else rot kf 6 q) = rotF kf := by
          funext q
          unfold rotF
          rw [e0]
        rw [hq]
        refine v_vret hT rfl rfl ⟨rfl, rfl⟩
      · exact absurd ((cj_ge (by omega) (by omega)).mpr (by omega)) cq
    | succ d ih =>
      intro k hk6 h1
      obtain ⟨b1, e1, i1, l1⟩ := hk.1 k (by omega)
      have hb1 := bk_lt i1
      refine g_cmp hT rfl (fun cq => ?_) (fun cq => ?_)
      · exact absurd ((cj_ge (by omega) (by omega)).mp cq) (by omega)
      · refine v_p hT rfl rfl ?_
        refine v_getr hT rfl rfl (by omega) rfl ?_
        refine v_p hT rfl rfl ?_
        refine v_getr hT rfl rfl (by omega) rfl ?_
        refine v_p hT rfl rfl ?_
        refine v_rld hT rfl rfl (Or.inl rfl) (by omega) (by omega) (show k < 6 by omega) (j := b1) ?_ ?_
        · show rot kf k k = b1 + 1
          unfold rot
          rw [if_neg (by omega), e1]
        rw [pk_sub (by omega)]
        refine v_rst hT rfl (bk_kd i1).1 (by omega) (by omega) ?_
        have hq : (fun q => if q = k - 1 then b1 + 1 else rot kf k q) = rot kf (k + 1) := by
          funext q
          unfold rot
          by_cases hqk : q = k - 1
          · rw [if_pos hqk, if_pos (by omega), ← e1]
            congr 1
            omega
          · rw [if_neg hqk]
            by_cases h2 : q + 1 < k
            · rw [if_pos h2, if_pos (by omega)]
            · rw [if_neg h2, if_neg (by omega)]
        rw [hq]
        refine v_p hT rfl rfl ?_
        refine v_cv (ih (k + 1) (by omega) (by omega)) ⟨rfl, rfl, ?_, trivial⟩ ?_ rfl
        · rw [nI_add]
        · rw [nI_add]
  have hrot : rot kf 1 = kf := by
    funext q
    unfold rot
    rw [if_neg (by omega)]
  have hl := loop 5 1 (by omega) (by omega)
  rw [hrot] at hl
  refine v_p hT rfl rfl ?_
  refine v_getr hT rfl rfl (by omega) rfl ?_
  refine v_p hT rfl rfl ?_
  refine v_rld hT rfl rfl (Or.inl rfl) (by omega) (by omega) (show 0 < 6 by omega) (j := b0) ?_ ?_
  · show kf 0 = b0 + 1
    exact e0
  refine v_p hT rfl rfl ?_
  exact hl
abbrev HS : Type := Nat × (Nat → BK)
def hPush (H : HS) (B : BK) : HS := if H.1 = 6 then (6, fun i => if i = 5 then B else H.2 (i + 1)) else (H.1 + 1, fun i => if i = H.1 then B else H.2 i)
def stR (kf : Nat → Nat) (f : Nat → Nat → Int32) (H : HS) : Prop := f 19 1 = nI H.1 ∧ ∀ i, i < H.1 → bkR f (kf i - 1) (H.2 i)
def VH (H : HS) : Prop := H.1 ≤ 6 ∧ ∀ i, i < H.1 → VB (H.2 i)
theorem VH_push {H : HS} {B : BK} (h : VH H) (hB : VB B) : VH (hPush H B) := by
  unfold hPush
  by_cases h6 : H.1 = 6
  · rw [if_pos h6]
    refine ⟨Nat.le_refl _, fun i hi => ?_⟩
    show VB (if i = 5 then B else H.2 (i + 1))
    by_cases h5 : i = 5
    · rw [if_pos h5]; exact hB
    · rw [if_neg h5]; exact h.2 _ (by omega)
  · rw [if_neg h6]
    have := h.1
    refine ⟨by show H.1 + 1 ≤ 6; omega, fun i hi => ?_⟩
    show VB (if i = H.1 then B else H.2 i)
    by_cases h5 : i = H.1
    · rw [if_pos h5]; exact hB
    · rw [if_neg h5]; exact h.2 _ (by have : i < H.1 + 1 := hi; omega)
theorem s_keep {n : Nat} {kf : Nat → Nat} {f : Nat → Nat → Int32} {H : HS} {B : BK} (hk : kfOk kf) (hS : stR kf f H) (hH : VH H) (hR : bkR f 1 B) (hV : VB B) :
    ∃ kf2 f2, Run n_X5_keep 110 0 (ini n_X5_keep [.ref 19, .ref 1]) [] (HH n kf f) (Ret none (HH n kf2 f2)) ∧ kfOk kf2 ∧ stR kf2 f2 (hPush H B) ∧ ∀ c, c < 19 ∨ 74 < c → f2 c = f c := by
  have hT : mT n_X5_keep = tb_X5_keep := rfl
  have key : ∀ (kg : Nat → Nat) (g : Nat → Nat → Int32) (m : Nat), kfOk kg → m < 6 → g 19 1 = nI m → (∀ c, c ≠ 19 → g c = f c) → Run n_X5_keep 110 13 [some (.ref 19), some (.ref 1)] [] (HH n kg g) (Ret none (HH n kg (hset (TF g (kg m - 1) 1) 19 1 (nI (m + 1))))) := by
    intro kg g m hkg hm h19 hg
    obtain ⟨b, e, ib, lb⟩ := hkg.1 m hm
    have hbl := bk_lo ib
    rw [e]
    refine v_p hT rfl rfl ?_
    refine v_getr hT rfl rfl (by omega) rfl ?_
    refine v_p hT rfl rfl ?_
    refine v_geti hT rfl (by first | rfl | assumption) (by omega) ?_
    rw [h19]
    refine v_rld hT rfl rfl (Or.inl rfl) (by omega) (by omega) (show m < 6 by omega) (j := b) ?_ ?_
    · show kg m = b + 1
      exact e
    refine v_p hT rfl rfl ?_
    refine v_call hT [.ref 1] rfl rfl (bk_kd ib).1 (by omega) rfl rfl (Nat.le_of_ble_eq_true rfl) (Nat.le_of_ble_eq_true rfl) (s_takeFrom ib (Or.inl rfl)) ?_
    refine v_p hT rfl rfl ?_
    refine v_geti hT rfl (by first | rfl | assumption) (by omega) ?_
    rw [TF_out (by omega), h19]
    refine v_p hT rfl rfl ?_
    rw [nI_add]
    refine v_puti hT rfl rfl (by omega) (fun z => by cases z) ?_
    refine v_vret hT rfl rfl ⟨rfl, rfl⟩
  have hframe : ∀ (kg : Nat → Nat) (g : Nat → Nat → Int32) (m : Nat), kfOk kg → m < 6 → g 19 1 = nI m → (∀ c, c ≠ 19 → g c = f c) → ∀ c, c < 19 ∨ 74 < c → hset (TF g (kg m - 1) 1) 19 1 (nI (m + 1)) c = f c := by
    intro kg g m hkg hm h19 hg c hc
    obtain ⟨b, e, ib, lb⟩ := hkg.1 m hm
    have hbl := bk_lo ib
    rw [hset_ne (by omega), TF_out (by omega), hg c (by omega)]
  have hbooks : ∀ (kg : Nat → Nat) (g : Nat → Nat → Int32) (m : Nat) (h' : Nat → BK), kfOk kg → m < 6 → g 19 1 = nI m → (∀ c, c ≠ 19 → g c = f c) → (∀ i, i < m → bkR f (kg i - 1) (h' i)) → (∀ i, i < m → VB (h' i)) → stR kg (hset (TF g (kg m - 1) 1) 19 1 (nI (m + 1))) (m + 1, fun i => if i = m then B else h' i) := by
    intro kg g m h' hkg hm h19 hg hb hv
    obtain ⟨b, e, ib, lb⟩ := hkg.1 m hm
    have hbl := bk_lo ib
    refine ⟨by rw [hs_s]; simp [upd], fun i hi => ?_⟩
    have hi : i < m + 1 := hi
    obtain ⟨bi, ei, ibi, lbi⟩ := hkg.1 i (by omega)
    have hbil := bk_lo ibi
    show bkR _ _ (if i = m then B else h' i)
    by_cases him : i = m
    · subst him
      rw [if_pos rfl]
      refine bkR_eq hV.1 (f := TF g (kg i - 1) 1) ?_ (fun c h1 h2 => hset_ne (by omega))
      refine bkR_TF (by omega) hV.1 (bkR_eq hV.1 hR (fun c h1 h2 => hg c (by omega)))
    · rw [if_neg him]
      have hne : bi ≠ b := by
        intro hbe
        have := hkg.2 i m (by omega) hm (by omega)
        exact him this
      have hd := bk_dis ibi ib hne
      refine bkR_eq (hv i (by omega)).1 (f := f) (hb i (by omega)) (fun c h1 h2 => ?_)
      rw [hset_ne (by omega), TF_out (by omega), hg c (by omega)]
  unfold hPush
  obtain ⟨s1, s2⟩ := hS
  obtain ⟨v1, v2⟩ := hH
  by_cases h6 : H.1 = 6
  · rw [if_pos h6]
    have hro := kfOk_rot hk
    have hg : ∀ c, c ≠ 19 → hset f 19 1 (nI 5) c = f c := fun c hc => hset_ne hc
    have h19 : hset f 19 1 (nI 5) 19 1 = nI 5 := by rw [hs_s]; simp [upd]
    refine ⟨rotF kf, hset (TF (hset f 19 1 (nI 5)) (rotF kf 5 - 1) 1) 19 1 (nI (5 + 1)), ?_, hro, ?_, hframe _ _ 5 hro (by omega) h19 hg⟩
    · refine v_p hT rfl rfl ?_
      refine v_geti hT rfl (by first | rfl | assumption) (by omega) ?_
      rw [s1, h6]
      refine v_p hT rfl rfl ?_
      refine g_cmp hT rfl (fun cq => ?_) (fun cq => ?_)
      · exact absurd ((cj_lt (by omega) (by omega)).mp cq) (by omega)
      · refine v_p hT rfl rfl ?_
        refine v_call hT [] rfl rfl (by first | rfl | assumption) (by omega) rfl rfl (Nat.le_of_ble_eq_true rfl) (Nat.le_of_ble_eq_true rfl) (s_loseOldest hk) ?_
        exact key (rotF kf) _ 5 hro (by omega) h19 hg
    · refine hbooks (rotF kf) _ 5 (fun i => H.2 (i + 1)) hro (by omega) h19 hg (fun i hi => ?_) (fun i hi => v2 _ (by omega))
      have : rotF kf i = kf (i + 1) := by
        unfold rotF rot
        rw [if_neg (by omega), if_pos (by omega)]
      rw [this]
      exact s2 _ (by omega)
  · rw [if_neg h6]
    refine ⟨kf, hset (TF f (kf H.1 - 1) 1) 19 1 (nI (H.1 + 1)), ?_, hk, ?_, hframe kf f H.1 hk (by omega) s1 (fun _ _ => rfl)⟩
    · refine v_p hT rfl rfl ?_
      refine v_geti hT rfl (by first | rfl | assumption) (by omega) ?_
      rw [s1]
      refine v_p hT rfl rfl ?_
      refine g_cmp hT rfl (fun cq => ?_) (fun cq => ?_)
      · exact key kf f H.1 hk (by omega) s1 (fun _ _ => rfl)
      · exact absurd ((cj_lt (by omega) (by omega)).mpr (by omega)) cq
    · exact hbooks kf f H.1 H.2 hk (by omega) s1 (fun _ _ => rfl) s2 v2
theorem s_giveBack {n : Nat} {kf : Nat → Nat} {f : Nat → Nat → Int32} {H : HS} (hk : kfOk kf) (hS : stR kf f H) (hH : VH H) :
    ∃ f2, Run n_X5_giveBack 110 0 (ini n_X5_giveBack [.ref 19, .ref 1]) [] (HH n kf f) (Ret (some (.int (bI (decide (0 < H.1))))) (HH n kf f2)) ∧ (0 < H.1 → bkR f2 1 (H.2 (H.1 - 1))) ∧ (H.1 = 0 → f2 = f) ∧ stR kf f2 (H.1 - 1, H.2) ∧ ∀ c, c = 0 ∨ (9 < c ∧ c < 19) ∨ 19 < c → f2 c = f c := by
  have hT : mT n_X5_giveBack = tb_X5_giveBack := rfl
  obtain ⟨s1, s2⟩ := hS
  obtain ⟨v1, v2⟩ := hH
  by_cases h0 : 0 < H.1
  · obtain ⟨b, e, ib, lb⟩ := hk.1 (H.1 - 1) (by omega)
    have hbl := bk_lo ib
    have hbR : bkR f b (H.2 (H.1 - 1)) := by
      have := s2 (H.1 - 1) (by omega)
      rw [e] at this
      exact this
    refine ⟨TF (hset f 19 1 (nI (H.1 - 1))) 1 b, ?_, fun _ => ?_, fun z => by omega, ⟨?_, fun i hi => ?_⟩, fun c hc => ?_⟩
    · rw [decide_eq_true h0]
      refine v_p hT rfl rfl ?_
      refine v_geti hT rfl (by first | rfl | assumption) (by omega) ?_
      rw [s1]
      refine g_if hT rfl (fun cq => ?_) (fun cq => ?_)
      · refine v_p hT rfl rfl ?_
        refine v_geti hT rfl (by first | rfl | assumption) (by omega) ?_
        rw [s1]
        refine v_p hT rfl rfl ?_
        rw [pk_sub (by omega)]
        refine v_puti hT rfl rfl (by omega) (fun z => by cases z) ?_
        refine v_p hT rfl rfl ?_
        refine v_getr hT rfl rfl (by omega) rfl ?_
        refine v_p hT rfl rfl ?_
        refine v_geti hT rfl (by first | rfl | assumption) (by omega) ?_
        rw [hs_s]
        simp only [upd, if_pos]
        refine v_rld hT rfl rfl (Or.inl rfl) (by omega) (by omega) (show H.1 - 1 < 6 by omega) (j := b) ?_ ?_
        · show kf (H.1 - 1) = b + 1
          exact e
        refine v_call hT [.ref b] rfl rfl (by first | rfl | assumption) (by omega) rfl rfl (Nat.le_of_ble_eq_true rfl) (Nat.le_of_ble_eq_true rfl) (s_takeFrom (Or.inl rfl) ib) ?_
        refine v_p hT rfl rfl ?_
        refine v_ret hT rfl (fun _ => Or.inr rfl) rfl ⟨rfl, rfl⟩
      · exact absurd ((cj_gt (a := H.1) (b := 0) (by omega) (by omega)).mpr h0) cq
    · exact bkR_TF (by omega) (v2 (H.1 - 1) (by omega)).1 (bkR_eq (v2 (H.1 - 1) (by omega)).1 hbR (fun c x1 x2 => hset_ne (by omega)))
    · rw [TF_out (by omega), hs_s]; simp [upd]
    · have hi : i < H.1 - 1 := hi
      obtain ⟨bi, ei, ibi, lbi⟩ := hk.1 i (by omega)
      have hbil := bk_lo ibi
      refine bkR_eq (v2 i (by omega)).1 (s2 i (by omega)) (fun c x1 x2 => ?_)
      rw [TF_out (by omega), hset_ne (by omega)]
    · rw [TF_out (by omega), hset_ne (by omega)]
  · refine ⟨f, ?_, fun z => absurd z h0, fun _ => rfl, ⟨by rw [s1]; congr 1; show H.1 = H.1 - 1; omega, fun i hi => by have hi : i < H.1 - 1 := hi; omega⟩, fun c _ => rfl⟩
    rw [decide_eq_false h0]
    refine v_p hT rfl rfl ?_
    refine v_geti hT rfl (by first | rfl | assumption) (by omega) ?_
    rw [s1]
    refine g_if hT rfl (fun cq => ?_) (fun cq => ?_)
    · exact absurd ((cj_gt (a := H.1) (b := 0) (by omega) (by omega)).mp cq) h0
    · refine v_p hT rfl rfl ?_
      refine v_ret hT rfl (fun _ => Or.inl rfl) rfl ⟨rfl, rfl⟩
