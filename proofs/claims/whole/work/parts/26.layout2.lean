/-! THE CLASS: the layout as a whole. -/
noncomputable def okF (B : BK) (i j : Nat) : Bool := lawF B 0 i && lawF B 1 j && decide (mkB (bgB (keptF B) (fun t => fstF B 0 (bTi B 0 t)) i) 10 = mkB (bgB (keptF B) (fun t => fstF B 1 (bTi B 1 t)) j) 10)
noncomputable def lyP (B : BK) : LYP := (totF B 0, totF B 1, bSe B 0, bSe B 2, okF B)
theorem lyP_bd {B : BK} (hV : VB B) : PBd (lyP B) := ⟨hV.1.2.2.2.1.1.2, hV.1.2.2.2.1.2.2, hV.2 0 (by omega), hV.2 1 (by omega)⟩
theorem kept_lt {B : BK} (h10 : bNt B ≤ 10) : keptF B < 1024 := by
  have h1 := kpS_le B (2 ^ bNt B - 1)
  have h2 : 2 ^ bNt B ≤ 2 ^ 10 := Nat.pow_le_pow_right (by omega) h10
  have h3 : 0 < 2 ^ bNt B := Nat.two_pow_pos _
  unfold keptF
  omega
theorem kept_bit {B : BK} {t : Nat} (h : (keptF B).testBit t = true) : t < bNt B := by
  have h1 := kpS_le B (2 ^ bNt B - 1)
  have h3 : 0 < 2 ^ bNt B := Nat.two_pow_pos _
  by_cases ht : t < bNt B
  · exact ht
  · have h4 : keptF B < 2 ^ t := Nat.lt_of_lt_of_le (show keptF B < 2 ^ bNt B by unfold keptF; omega) (Nat.pow_le_pow_right (by omega) (by omega))
    rw [Nat.testBit_lt_two_pow h4] at h
    cases h
theorem lawF_end (B : BK) (s : Nat) : lawF B s (totF B s) = true := by unfold lawF; rw [if_pos rfl]
theorem okF_end {B : BK} (hV : VB0 B) : okF B (totF B 0) (totF B 1) = true := by
  unfold okF
  rw [lawF_end, lawF_end, decide_eq_true]
  · rfl
  · refine mkB_eq.mpr (fun t _ => ?_)
    unfold bgB
    cases hk : (keptF B).testBit t with
    | false => rfl
    | true =>
      have h1 := kept_bit hk
      obtain ⟨q1, q2, _⟩ := hV.2.2.2.2.2 t h1
      rw [decide_eq_true (show fstF B 0 (bTi B 0 t) < totF B 0 from fstF_lt B 0 q1), decide_eq_true (show fstF B 1 (bTi B 1 t) < totF B 1 from fstF_lt B 1 q2)]
def layR (f : Nat → Nat → Int32) (B : BK) : Prop := LCx f (lyP B) ∧ f 89 9 = opI (lyP B) ∧ f 89 10 = coI (lyP B) ∧ ∀ k, k ≤ opN (lyP B) → f 94 k = nI (posF (lyP B) k).1 ∧ f 95 k = nI (posF (lyP B) k).2
theorem s_layout {n : Nat} {kf : Nat → Nat} {f : Nat → Nat → Int32} {B : BK} (hR : bkR f 1 B) (hV : VB B) (h0 : lnR f 81 B 0) (h1 : lnR f 84 B 1) :
    ∃ f2, Run n_X2_follow 110 0 (ini n_X2_follow [.ref 89, .ref 1, .ref 81, .ref 84, .int (nI (keptF B))]) [] (HH n kf f) (Ret none (HH n kf f2)) ∧ layR f2 B ∧ ∀ c, c < 89 ∨ 95 < c → f2 c = f c := by
  have hT : mT n_X2_follow = tb_X2_follow := rfl
  have hP := lyP_bd hV
  have hs0 : f 6 0 = nI (bSe B 0) := hR.2.2.2.1 0 (by omega)
  have hs2 : f 6 2 = nI (bSe B 2) := hR.2.2.2.1 2 (by omega)
  have hse := hV.1.2.2.2.1
  have hk := kept_lt hV.1.2.2.2.2.1
  obtain ⟨l1, l2, l3⟩ := h0
  obtain ⟨m1, m2, m3⟩ := h1
  obtain ⟨f1, r1, t1, k1⟩ := s_setTolls (n := n) (kf := kf) (f := hset (hset (hset f 89 6 (nI (bSe B 0))) 89 7 (nI (totF B 0))) 89 8 (nI (totF B 1))) (hi := bSe B 0) (sh := bSe B 2) (by simp [hset, upd]) hse.1.2 hse.2.2
  have k1' : ∀ c, c ≠ 90 → c ≠ 89 → f1 c = f c := fun c x1 x2 => by rw [k1 c x1, hset_ne x2, hset_ne x2, hset_ne x2]
  obtain ⟨f2, r2, t2, k2⟩ := s_markBegun (n := n) (kf := kf) (f := f1) (q := 92) (e := 7) (o := 81) (tot := totF B 0) (kept := keptF B) (fa := fun t => fstF B 0 (bTi B 0 t)) (pa := fun t => bTi B 0 t) (Or.inl rfl) rfl (by omega) (Or.inl rfl) (by rw [k1' 81 (by omega) (by omega)]; exact l1) (hV.2 0 (by omega)) hk (fun i hi hb => by
    have h5 := kept_bit hb
    obtain ⟨q1, q2, _⟩ := hV.1.2.2.2.2.2 i h5
    have q3 := hV.1.1 0 (by omega)
    have q4 := fstF_le hV.1 (s := 0) (by omega) (bTi B 0 i) (by omega)
    refine ⟨?_, by omega, ?_, by omega⟩
    · rw [k1' 7 (by omega) (by omega)]; exact (hR.2.2.2.2.2 i h5).1
    · rw [k1' 82 (by omega) (by omega)]; exact l2 _ (by omega))
  obtain ⟨f3, r3, t3, k3⟩ := s_markBegun (n := n) (kf := kf) (f := f2) (q := 93) (e := 8) (o := 84) (tot := totF B 1) (kept := keptF B) (fa := fun t => fstF B 1 (bTi B 1 t)) (pa := fun t => bTi B 1 t) (Or.inr rfl) rfl (by omega) (Or.inr rfl) (by rw [k2 84 (by omega), k1' 84 (by omega) (by omega)]; exact m1) (hV.2 1 (by omega)) hk (fun i hi hb => by
    have h5 := kept_bit hb
    obtain ⟨q1, q2, _⟩ := hV.1.2.2.2.2.2 i h5
    have q3 := hV.1.1 1 (by omega)
    have q4 := fstF_le hV.1 (s := 1) (by omega) (bTi B 1 i) (by omega)
    refine ⟨?_, by omega, ?_, by omega⟩
    · rw [k2 8 (by omega), k1' 8 (by omega) (by omega)]; exact (hR.2.2.2.2.2 i h5).2.1
    · rw [k2 85 (by omega), k1' 85 (by omega) (by omega)]; exact m2 _ (by omega))
  have hL3 : LCx f3 (lyP B) := by
    refine ⟨?_, ?_, ?_, fun x y hx hy => ?_⟩
    · rw [k3 89 (by omega), k2 89 (by omega), k1 89 (by omega)]; simp [hset, upd]; rfl
    · rw [k3 89 (by omega), k2 89 (by omega), k1 89 (by omega)]; simp [hset, upd]; rfl
    · rw [k3 89 (by omega), k2 89 (by omega), k1 89 (by omega)]; simp [hset, upd]; rfl
    · rw [k3 90 (by omega), k2 90 (by omega)]; exact t1 x y hx hy
  obtain ⟨f4, r4, t4, k4⟩ := s_rankAll (n := n) (kf := kf) (f := f3) (P := lyP B) (a0 := 83) (a1 := 86) (law0 := lawF B 0) (law1 := lawF B 1) (m0 := fun i => mkB (bgB (keptF B) (fun t => fstF B 0 (bTi B 0 t)) i) 10) (m1 := fun i => mkB (bgB (keptF B) (fun t => fstF B 1 (bTi B 1 t)) i) 10) hP hL3 rfl rfl (by omega) (by omega) (fun a ha => by rw [k3 83 (by omega), k2 83 (by omega), k1' 83 (by omega) (by omega)]; exact l3 a ha) (fun a ha => by rw [k3 86 (by omega), k2 86 (by omega), k1' 86 (by omega) (by omega)]; exact m3 a ha) (fun a ha => ⟨by rw [k3 92 (by omega)]; exact t2 a ha, Nat.lt_trans (mkB_lt _ 10) (by omega)⟩) (fun a ha => ⟨t3 a ha, Nat.lt_trans (mkB_lt _ 10) (by omega)⟩) (fun i j => rfl) (okF_end hV.1)
  have hL4 : LCx f4 (lyP B) := by
    obtain ⟨x1, x2, x3, x4⟩ := hL3
    exact ⟨by rw [k4 89 (by omega)]; exact x1, by rw [k4 89 (by omega)]; exact x2, by rw [k4 89 (by omega)]; exact x3, fun x y hx hy => by rw [k4 90 (by omega)]; exact x4 x y hx hy⟩
  obtain ⟨f5, r5, t5, t6, t7, t8, k5⟩ := s_walk (n := n) (kf := kf) (f := f4) (P := lyP B) hP hL4 t4
  have hL5 : LCx f5 (lyP B) := by
    obtain ⟨x1, x2, x3, x4⟩ := hL4
    exact ⟨by rw [t8 6 (by omega)]; exact x1, by rw [t8 7 (by omega)]; exact x2, by rw [t8 8 (by omega)]; exact x3, fun x y hx hy => by rw [k5 90 (by omega) (by omega) (by omega)]; exact x4 x y hx hy⟩
  refine ⟨f5, ?_, ⟨hL5, t5, t6, t7⟩, fun c hc => by rw [k5 c (by omega) (by omega) (by omega), k4 c (by omega), k3 c (by omega), k2 c (by omega), k1' c (by omega) (by omega)]⟩
  refine v_p hT rfl rfl ?_
  refine v_getr hT rfl rfl (by omega) rfl ?_
  refine v_p hT rfl rfl ?_
  refine v_ald hT rfl (by first | assumption | rfl) (by omega) (by decide) (by omega) ?_
  rw [hs0]
  refine v_p hT rfl rfl ?_
  refine g_minN hT rfl (Nat.le_of_ble_eq_true rfl) (by omega) (by omega) ?_
  rw [Nat.min_eq_left hse.1.2]
  refine v_puti hT rfl rfl (by omega) (fun z => by cases z) ?_
  refine v_p hT rfl rfl ?_
  refine v_geti hT rfl (by first | rfl | assumption) (by omega) ?_
  rw [hset_ne (by omega), l1]
  refine v_puti hT rfl rfl (by omega) (fun z => by cases z) ?_
  refine v_p hT rfl rfl ?_
  refine v_geti hT rfl (by first | rfl | assumption) (by omega) ?_
  rw [hset_ne (by omega), hset_ne (by omega), m1]
  refine v_puti hT rfl rfl (by omega) (fun z => by cases z) ?_
  refine v_p hT rfl rfl ?_
  refine v_getr hT rfl rfl (by omega) rfl ?_
  refine v_p hT rfl rfl ?_
  refine v_ald hT rfl (by first | assumption | rfl) (by omega) (by decide) (by omega) ?_
  rw [hset_ne (by omega), hset_ne (by omega), hset_ne (by omega), hs2]
  refine v_call hT [.int (nI (bSe B 2))] rfl rfl (by first | rfl | assumption) (by omega) rfl rfl (Nat.le_of_ble_eq_true rfl) (Nat.le_of_ble_eq_true rfl) (r1) ?_
  refine v_p hT rfl rfl ?_
  refine v_getr hT rfl rfl (by omega) rfl ?_
  refine v_p hT rfl rfl ?_
  refine v_getr hT rfl rfl (by omega) rfl ?_
  refine v_p hT rfl rfl ?_
  refine v_scall hT [.ref 92, .ref 7, .ref 81, .int (nI (keptF B))] rfl rfl rfl rfl (Nat.le_of_ble_eq_true rfl) (Nat.le_of_ble_eq_true rfl) (r2) ?_
  refine v_p hT rfl rfl ?_
  refine v_getr hT rfl rfl (by omega) rfl ?_
  refine v_p hT rfl rfl ?_
  refine v_getr hT rfl rfl (by omega) rfl ?_
  refine v_p hT rfl rfl ?_
  refine v_scall hT [.ref 93, .ref 8, .ref 84, .int (nI (keptF B))] rfl rfl rfl rfl (Nat.le_of_ble_eq_true rfl) (Nat.le_of_ble_eq_true rfl) (r3) ?_
  refine v_p hT rfl rfl ?_
  refine v_getr hT rfl rfl (by omega) rfl ?_
  refine v_p hT rfl rfl ?_
  refine v_getr hT rfl rfl (by omega) rfl ?_
  refine v_call hT [.ref 83, .ref 86] rfl rfl (by first | rfl | assumption) (by omega) rfl rfl (Nat.le_of_ble_eq_true rfl) (Nat.le_of_ble_eq_true rfl) (r4) ?_
  refine v_p hT rfl rfl ?_
  refine v_call hT [] rfl rfl (by first | rfl | assumption) (by omega) rfl rfl (Nat.le_of_ble_eq_true rfl) (Nat.le_of_ble_eq_true rfl) (r5) ?_
  refine v_vret hT rfl rfl ⟨rfl, rfl⟩
theorem s_taken0 {n k : Nat} {kf : Nat → Nat} {f : Nat → Nat → Int32} {a b : Nat} (hk : k < 120) (h0 : f 94 k = nI a) (h1 : f 94 (k + 1) = nI b) (hab : a ≤ b) :
    Run n_X2_taken0 110 0 (ini n_X2_taken0 [.ref 89, .int (nI k)]) [] (HH n kf f) (Ret (some (.int (nI (b - a)))) (HH n kf f)) := by
  have hT : mT n_X2_taken0 = tb_X2_taken0 := rfl
  repeat (first | refine v_p hT rfl rfl ?_ | refine v_getr hT rfl rfl (by omega) rfl ?_ | refine v_geti hT rfl (by first | rfl | assumption) (by omega) ?_ | refine v_ald hT rfl (by first | assumption | rfl) (by omega) (by decide) (by omega) ?_ | simp only [nI_add, pk_mul, h0, h1])
  rw [pk_sub hab]
  refine v_ret hT rfl (fun z => by cases z) rfl ⟨rfl, rfl⟩
theorem s_taken1 {n k : Nat} {kf : Nat → Nat} {f : Nat → Nat → Int32} {a b : Nat} (hk : k < 120) (h0 : f 95 k = nI a) (h1 : f 95 (k + 1) = nI b) (hab : a ≤ b) :
    Run n_X2_taken1 110 0 (ini n_X2_taken1 [.ref 89, .int (nI k)]) [] (HH n kf f) (Ret (some (.int (nI (b - a)))) (HH n kf f)) := by
  have hT : mT n_X2_taken1 = tb_X2_taken1 := rfl
  repeat (first | refine v_p hT rfl rfl ?_ | refine v_getr hT rfl rfl (by omega) rfl ?_ | refine v_geti hT rfl (by first | rfl | assumption) (by omega) ?_ | refine v_ald hT rfl (by first | assumption | rfl) (by omega) (by decide) (by omega) ?_ | simp only [nI_add, pk_mul, h0, h1])
  rw [pk_sub hab]
  refine v_ret hT rfl (fun z => by cases z) rfl ⟨rfl, rfl⟩
