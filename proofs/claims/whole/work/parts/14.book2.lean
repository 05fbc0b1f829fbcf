/-! THE CLASS: a book's changes. -/
theorem s_copyRow {o o2 N n : Nat} {kf : Nat → Nat} {F : Nat → Nat → Int32} (hk : kd o = (1, N)) (hk2 : kd o2 = (1, N)) (ho : o < 110) (ho2 : o2 < 110) (hN : N < 2 ^ 31) :
    Run n_X0_copyRow 110 0 (ini n_X0_copyRow [.ref o, .ref o2]) [] (HH n kf F) (Ret none (HH n kf (hputs F o2 (va_cpy (F o) (F o2) 0 0 N)))) := by
  have hT : mT n_X0_copyRow = tb_X0_copyRow := rfl
  refine v_p hT rfl rfl ?_
  refine v_len hT rfl hk ho ?_
  refine v_p hT rfl rfl ?_
  refine v_len hT rfl hk2 ho2 ?_
  refine g_minN hT rfl (Nat.le_of_ble_eq_true rfl) hN hN ?_
  rw [Nat.min_self]
  refine v_cpy hT rfl hk hk2 ho ho2 (by omega) (by omega) (Nat.le_of_ble_eq_true rfl) ?_
  refine v_vret hT rfl rfl ⟨rfl, rfl⟩
def bsz (i : Nat) : Nat := match i with
  | 0 => 2 | 1 => 16 | 2 => 192 | 3 => 2 | 4 => 3 | _ => 10
def TFk (f : Nat → Nat → Int32) (b b2 : Nat) : Nat → Nat → Nat → Int32
  | 0 => f
  | i + 1 => hputs (TFk f b b2 i) (b + 1 + i) (va_cpy (TFk f b b2 i (b2 + 1 + i)) (TFk f b b2 i (b + 1 + i)) 0 0 (bsz i))
/-- the heap behind b.takeFrom(b2) -/
def TF (f : Nat → Nat → Int32) (b b2 : Nat) : Nat → Nat → Int32 := hset (TFk f b b2 8) b 8 (TFk f b b2 8 b2 8)
theorem TFk_out {f : Nat → Nat → Int32} {b b2 c : Nat} : ∀ i, (∀ j, j < i → c ≠ b + 1 + j) → TFk f b b2 i c = f c := by
  intro i
  induction i with
  | zero => intro _; rfl
  | succ i ih =>
    intro h
    show hputs _ _ _ c = _
    rw [hputs_ne (h i (by omega)), ih (fun j hj => h j (by omega))]
theorem TFk_in {f : Nat → Nat → Int32} {b b2 : Nat} (hd : b + 9 ≤ b2 ∨ b2 + 9 ≤ b) : ∀ i, i ≤ 8 → ∀ j, j < i → ∀ x, x < bsz j → TFk f b b2 i (b + 1 + j) x = f (b2 + 1 + j) x := by
  intro i
  induction i with
  | zero => intro _ j hj; omega
  | succ i ih =>
    intro hi j hj x hx
    show hputs _ _ _ _ x = _
    by_cases hji : j = i
    · subst hji
      simp only [hputs, if_pos]
      rw [pk_cpy_in (by omega) (by omega), TFk_out (c := b2 + 1 + j) _ (fun z hz => by omega)]
      congr 1
      omega
    · rw [hputs_ne (by omega)]
      exact ih (by omega) j (by omega) x hx
theorem TF_out {f : Nat → Nat → Int32} {b b2 c : Nat} (h : c < b ∨ b + 8 < c) : TF f b b2 c = f c := by
  unfold TF
  rw [hset_ne (by omega), TFk_out _ (fun j hj => by omega)]
theorem TF_in {f : Nat → Nat → Int32} {b b2 : Nat} (hd : b + 9 ≤ b2 ∨ b2 + 9 ≤ b) {i x : Nat} (hi : 1 ≤ i) (hi8 : i ≤ 8) (hx : x < bsz (i - 1)) : TF f b b2 (b + i) x = f (b2 + i) x := by
  unfold TF
  rw [hset_ne (by omega)]
  have h1 := TFk_in (f := f) hd 8 (by omega) (i - 1) (by omega) x hx
  rw [show b + 1 + (i - 1) = b + i by omega, show b2 + 1 + (i - 1) = b2 + i by omega] at h1
  exact h1
theorem TF_cnt {f : Nat → Nat → Int32} {b b2 : Nat} (hd : b + 9 ≤ b2 ∨ b2 + 9 ≤ b) : TF f b b2 b 8 = f b2 8 := by
  unfold TF
  simp only [hset, if_pos, upd]
  rw [TFk_out (c := b2) _ (fun j hj => by omega)]
theorem bk_dis {b b2 : Nat} (h : isBk b) (h2 : isBk b2) (hn : b ≠ b2) : b + 9 ≤ b2 ∨ b2 + 9 ≤ b := by
  rcases h with rfl | rfl | rfl | rfl | rfl | rfl | rfl | rfl <;> rcases h2 with rfl | rfl | rfl | rfl | rfl | rfl | rfl | rfl <;> omega
/-- what a book's cells hold, told of another heap that has the same there -/
theorem bkR_to {f f2 : Nat → Nat → Int32} {b b2 : Nat} {B : BK} (hV : VB0 B) (h : bkR f b B) (hc : f2 b2 8 = f b 8) (hi : ∀ i x, 1 ≤ i → i ≤ 8 → x < bsz (i - 1) → f2 (b2 + i) x = f (b + i) x) : bkR f2 b2 B := by
  obtain ⟨h1, h2, h3, h4, h5, h6⟩ := h
  refine ⟨fun s hs => ?_, fun s p hs hp => ?_, fun s hs => ?_, fun i hi3 => ?_, ?_, fun i hit => ?_⟩
  · rw [hi 1 s (by omega) (by omega) hs]; exact h1 s hs
  · have h8 := hV.1 s hs
    have hw := (hV.2.1 s p hs hp).2.1
    refine ⟨?_, fun k hk => ?_⟩
    · rw [hi 2 _ (by omega) (by omega) (by show s * 8 + p < 16; omega)]; exact (h2 s p hs hp).1
    · rw [hi 3 _ (by omega) (by omega) (by show _ < 192; omega)]; exact (h2 s p hs hp).2 k hk
  · rw [hi 4 s (by omega) (by omega) hs]; exact h3 s hs
  · rw [hi 5 i (by omega) (by omega) hi3]; exact h4 i hi3
  · rw [hc]; exact h5
  · have h10 := hV.2.2.2.2.1
    rw [hi 6 i (by omega) (by omega) (by show i < 10; omega), hi 7 i (by omega) (by omega) (by show i < 10; omega), hi 8 i (by omega) (by omega) (by show i < 10; omega)]
    exact h6 i hit
theorem bkR_TF {f : Nat → Nat → Int32} {b b2 : Nat} {B : BK} (hd : b + 9 ≤ b2 ∨ b2 + 9 ≤ b) (hV : VB0 B) (h : bkR f b2 B) : bkR (TF f b b2) b B := bkR_to hV h (TF_cnt hd) (fun i x h1 h2 h3 => TF_in hd h1 h2 h3)
theorem bkR_eq {f f2 : Nat → Nat → Int32} {b : Nat} {B : BK} (hV : VB0 B) (h : bkR f b B) (hc : ∀ c, b ≤ c → c ≤ b + 8 → f2 c = f c) : bkR f2 b B := bkR_to hV h (by rw [hc b (by omega) (by omega)]) (fun i x h1 h2 _ => by rw [hc (b + i) (by omega) (by omega)])
theorem s_takeFrom {b b2 n : Nat} {kf : Nat → Nat} {f : Nat → Nat → Int32} (hb : isBk b) (hb2 : isBk b2) :
    Run n_X0_takeFrom 110 0 (ini n_X0_takeFrom [.ref b, .ref b2]) [] (HH n kf f) (Ret none (HH n kf (TF f b b2))) := by
  have hT : mT n_X0_takeFrom = tb_X0_takeFrom := rfl
  obtain ⟨k0, k1, k2, k3, k4, k5, k6, k7, k8⟩ := bk_kd hb
  have hlt := bk_lt hb
  obtain ⟨l0, l1, l2, l3, l4, l5, l6, l7, l8⟩ := bk_kd hb2
  have hlt2 := bk_lt hb2
  refine v_p hT rfl rfl ?_
  refine v_getr hT rfl l0 (by omega) (bk_rr hb2 _ _ _ (by decide)) ?_
  refine v_p hT rfl rfl ?_
  refine v_getr hT rfl k0 (by omega) (bk_rr hb _ _ _ (by decide)) ?_
  refine v_scall hT [.ref (b2 + 1), .ref (b + 1)] rfl rfl rfl rfl (Nat.le_of_ble_eq_true rfl) (Nat.le_of_ble_eq_true rfl) (s_copyRow l1 k1 (by omega) (by omega) (by decide)) ?_
  refine v_p hT rfl rfl ?_
  refine v_getr hT rfl l0 (by omega) (bk_rr hb2 _ _ _ (by decide)) ?_
  refine v_p hT rfl rfl ?_
  refine v_getr hT rfl k0 (by omega) (bk_rr hb _ _ _ (by decide)) ?_
  refine v_scall hT [.ref (b2 + 2), .ref (b + 2)] rfl rfl rfl rfl (Nat.le_of_ble_eq_true rfl) (Nat.le_of_ble_eq_true rfl) (s_copyRow l2 k2 (by omega) (by omega) (by decide)) ?_
  refine v_p hT rfl rfl ?_
  refine v_getr hT rfl l0 (by omega) (bk_rr hb2 _ _ _ (by decide)) ?_
  refine v_p hT rfl rfl ?_
  refine v_getr hT rfl k0 (by omega) (bk_rr hb _ _ _ (by decide)) ?_
  refine v_scall hT [.ref (b2 + 3), .ref (b + 3)] rfl rfl rfl rfl (Nat.le_of_ble_eq_true rfl) (Nat.le_of_ble_eq_true rfl) (s_copyRow l3 k3 (by omega) (by omega) (by decide)) ?_
  refine v_p hT rfl rfl ?_
  refine v_getr hT rfl l0 (by omega) (bk_rr hb2 _ _ _ (by decide)) ?_
  refine v_p hT rfl rfl ?_
  refine v_getr hT rfl k0 (by omega) (bk_rr hb _ _ _ (by decide)) ?_
  refine v_scall hT [.ref (b2 + 4), .ref (b + 4)] rfl rfl rfl rfl (Nat.le_of_ble_eq_true rfl) (Nat.le_of_ble_eq_true rfl) (s_copyRow l4 k4 (by omega) (by omega) (by decide)) ?_
  refine v_p hT rfl rfl ?_
  refine v_getr hT rfl l0 (by omega) (bk_rr hb2 _ _ _ (by decide)) ?_
  refine v_p hT rfl rfl ?_
  refine v_getr hT rfl k0 (by omega) (bk_rr hb _ _ _ (by decide)) ?_
  refine v_scall hT [.ref (b2 + 5), .ref (b + 5)] rfl rfl rfl rfl (Nat.le_of_ble_eq_true rfl) (Nat.le_of_ble_eq_true rfl) (s_copyRow l5 k5 (by omega) (by omega) (by decide)) ?_
  refine v_p hT rfl rfl ?_
  refine v_getr hT rfl l0 (by omega) (bk_rr hb2 _ _ _ (by decide)) ?_
  refine v_p hT rfl rfl ?_
  refine v_getr hT rfl k0 (by omega) (bk_rr hb _ _ _ (by decide)) ?_
  refine v_scall hT [.ref (b2 + 6), .ref (b + 6)] rfl rfl rfl rfl (Nat.le_of_ble_eq_true rfl) (Nat.le_of_ble_eq_true rfl) (s_copyRow l6 k6 (by omega) (by omega) (by decide)) ?_
  refine v_p hT rfl rfl ?_
  refine v_getr hT rfl l0 (by omega) (bk_rr hb2 _ _ _ (by decide)) ?_
  refine v_p hT rfl rfl ?_
  refine v_getr hT rfl k0 (by omega) (bk_rr hb _ _ _ (by decide)) ?_
  refine v_scall hT [.ref (b2 + 7), .ref (b + 7)] rfl rfl rfl rfl (Nat.le_of_ble_eq_true rfl) (Nat.le_of_ble_eq_true rfl) (s_copyRow l7 k7 (by omega) (by omega) (by decide)) ?_
  refine v_p hT rfl rfl ?_
  refine v_getr hT rfl l0 (by omega) (bk_rr hb2 _ _ _ (by decide)) ?_
  refine v_p hT rfl rfl ?_
  refine v_getr hT rfl k0 (by omega) (bk_rr hb _ _ _ (by decide)) ?_
  refine v_scall hT [.ref (b2 + 8), .ref (b + 8)] rfl rfl rfl rfl (Nat.le_of_ble_eq_true rfl) (Nat.le_of_ble_eq_true rfl) (s_copyRow l8 k8 (by omega) (by omega) (by decide)) ?_
  refine v_p hT rfl rfl ?_
  refine v_geti hT rfl (by first | rfl | assumption) (by omega) ?_
  refine v_puti hT rfl k0 (by omega) (fun z => by cases z) ?_
  refine v_vret hT rfl rfl ⟨rfl, rfl⟩
