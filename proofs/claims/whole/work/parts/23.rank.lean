/-! THE CLASS: ranks. -/
def PBd (P : LYP) : Prop := P.2.2.1 ≤ 12 ∧ P.2.2.2.1 ≤ 9 ∧ P.1 ≤ 60 ∧ P.2.1 ≤ 60
def LCx (f : Nat → Nat → Int32) (P : LYP) : Prop := f 89 6 = nI P.2.2.1 ∧ f 89 7 = nI P.1 ∧ f 89 8 = nI P.2.1 ∧ ∀ x y, x ≤ P.2.2.1 → y ≤ P.2.2.1 → f 90 (x * 13 + y) = nI (tollF P.2.2.1 P.2.2.2.1 x y)
theorem prI_lt : ∀ k, ¬ prI (k + 1) < 0 ∨ 2 ^ 31 ≤ k := by
  intro k
  by_cases h : k < 2 ^ 31
  · exact Or.inl (nI_pos h)
  · exact Or.inr (by omega)
theorem prI_ok {k : Nat} (h : k < 2 ^ 31) : ¬ prI (k + 1) < 0 := nI_pos h
theorem prI_0 : prI 0 < 0 := by decide
theorem s_rankBy {n i j x y : Nat} {kf : Nat → Nat} {f : Nat → Nat → Int32} {P : LYP} (hP : PBd P) (hL : LCx f P) (hx : x ≤ P.2.2.1) (hy : y ≤ P.2.2.1) (hi : i + x ≤ P.1) (hj : j + y ≤ P.2.1) (hr : f 91 ((i + x) * 61 + j + y) = nI (rkF P (i + x) (j + y))) :
    Run n_X2_rankBy 110 0 (ini n_X2_rankBy [.ref 89, .int (nI i), .int (nI j), .int (nI x), .int (nI y)]) [] (HH n kf f) (Ret (some (.int (nI (byF P (rkF P) i j x y)))) (HH n kf f)) := by
  have hT : mT n_X2_rankBy = tb_X2_rankBy := rfl
  obtain ⟨p1, p2, p3, p4⟩ := hP
  obtain ⟨c1, c2, c3, c4⟩ := hL
  have hle := rkF_le p1 p2 p3 p4 hi hj
  have hlt := rkF_lt p1 p2 p3 p4 hi hj
  have hnv : nvr < 2 ^ 31 := by unfold nvr; omega
  have ht := tollF_le (hi := P.2.2.1) (sh := P.2.2.2.1) (x := x) (y := y) p1 p2
  repeat (first | refine v_p hT rfl rfl ?_ | refine v_getr hT rfl rfl (by omega) rfl ?_ | refine v_geti hT rfl (by first | rfl | assumption) (by omega) ?_ | refine v_ald hT rfl (by first | assumption | rfl) (by omega) (by decide) (by omega) ?_ | simp only [nI_add, pk_mul, hr])
  refine g_cmp hT rfl (fun cq => ?_) (fun cq => ?_)
  · have cq : ¬ rkF P (i + x) (j + y) = nvr := (cj_ne (b := nvr) (by omega) (by omega)).mp cq
    have hlt : rkF P (i + x) (j + y) < 30000000 := by
      rcases hlt with h | h
      · exact absurd h cq
      · exact h.2
    have hby : byF P (rkF P) i j x y = rkF P (i + x) (j + y) + 1 + (if i + x = P.1 ∧ j + y = P.2.1 then 0 else tollF P.2.2.1 P.2.2.2.1 x y * 128) := if_neg cq
    rw [hby]
    have notlast : ¬ (i + x = P.1 ∧ j + y = P.2.1) → Run n_X2_rankBy 110 53 [some (.ref 89), some (.int (nI i)), some (.int (nI j)), some (.int (nI x)), some (.int (nI y)), some (.int (nI (rkF P (i + x) (j + y)))), none] [] (HH n kf f) (Ret (some (.int (nI (rkF P (i + x) (j + y) + 1 + (if i + x = P.1 ∧ j + y = P.2.1 then 0 else tollF P.2.2.1 P.2.2.2.1 x y * 128))))) (HH n kf f)) := by
      intro hnl
      rw [if_neg hnl]
      refine v_p hT rfl rfl ?_
      simp only [nI_add]
      refine g_if hT rfl (fun cq2 => ?_) (fun cq2 => ?_)
      · repeat (first | refine v_p hT rfl rfl ?_ | refine v_getr hT rfl rfl (by omega) rfl ?_ | refine v_geti hT rfl (by first | rfl | assumption) (by omega) ?_ | refine v_ald hT rfl (by first | assumption | rfl) (by omega) (by decide) (by omega) ?_ | simp only [nI_add, pk_mul, c4 x y hx hy])
        refine v_ret hT rfl (fun z => by cases z) rfl ⟨rfl, rfl⟩
      · exact absurd rfl cq2
    repeat (first | refine v_p hT rfl rfl ?_ | refine v_getr hT rfl rfl (by omega) rfl ?_ | refine v_geti hT rfl (by first | rfl | assumption) (by omega) ?_ | refine v_ald hT rfl (by first | assumption | rfl) (by omega) (by decide) (by omega) ?_ | simp only [nI_add, pk_mul, c2])
    refine g_cmp hT rfl (fun cq2 => ?_) (fun cq2 => ?_)
    · have cq2 := (cj_ne (by omega) (by omega)).mp cq2
      exact v_cv (notlast (by omega)) ⟨rfl, rfl, rfl, rfl, rfl, rfl, trivial⟩ rfl rfl
    · have cq2 := (not_congr (cj_ne (by omega) (by omega))).mp cq2
      repeat (first | refine v_p hT rfl rfl ?_ | refine v_getr hT rfl rfl (by omega) rfl ?_ | refine v_geti hT rfl (by first | rfl | assumption) (by omega) ?_ | refine v_ald hT rfl (by first | assumption | rfl) (by omega) (by decide) (by omega) ?_ | simp only [nI_add, pk_mul, c3])
      refine g_cmp hT rfl (fun cq3 => ?_) (fun cq3 => ?_)
      · have cq3 := (cj_ne (by omega) (by omega)).mp cq3
        exact v_cv (notlast (by omega)) ⟨rfl, rfl, rfl, rfl, rfl, rfl, trivial⟩ rfl rfl
      · have cq3 := (not_congr (cj_ne (by omega) (by omega))).mp cq3
        rw [if_pos (by omega)]
        refine v_p hT rfl rfl ?_
        simp only [nI_add]
        refine g_if hT rfl (fun cq4 => ?_) (fun cq4 => ?_)
        · exact absurd cq4 (by show ¬ (nI 1 = 0); decide)
        · refine v_p hT rfl rfl ?_
          simp only [nI_add]
          refine v_ret hT rfl (fun z => by cases z) rfl ⟨rfl, rfl⟩
  · have cq : rkF P (i + x) (j + y) = nvr := Classical.not_not.mp ((not_congr (cj_ne (b := nvr) (by omega) (by omega))).mp cq)
    have hby : byF P (rkF P) i j x y = nvr := if_pos cq
    rw [hby]
    refine v_p hT rfl rfl ?_
    refine v_ret hT rfl (fun z => by cases z) rfl ⟨rfl, rfl⟩
/-- the ranks from i, j on (but there) stand in the row -/
def rkR (f : Nat → Nat → Int32) (P : LYP) (i j : Nat) : Prop := ∀ a b, i ≤ a → a ≤ P.1 → j ≤ b → b ≤ P.2.1 → i + j < a + b → f 91 (a * 61 + b) = nI (rkF P a b)
theorem s_leastRank {n i j al : Nat} {kf : Nat → Nat} {f : Nat → Nat → Int32} {P : LYP} {law : Nat → Bool} (hP : PBd P) (hL : LCx f P) (hi : i ≤ P.1) (hj : j ≤ P.2.1) (hR : rkR f P i j) (hok : P.2.2.2.2 i j = true) (hal : kd al = (2, 61)) (hal2 : al < 110) (hlw : ∀ a, a ≤ P.1 → f al a = bI (law a)) (hl1 : ∀ a b, P.2.2.2.2 a b = true → law a = true) (hl2 : law P.1 = true) :
    Run n_X2_leastRank 110 0 (ini n_X2_leastRank [.ref 89, .int (nI i), .int (nI j), .ref al]) [] (HH n kf f) (Ret (some (.int (nI (rkF P i j)))) (HH n kf f)) := by
  have hT : mT n_X2_leastRank = tb_X2_leastRank := rfl
  obtain ⟨p1, p2, p3, p4⟩ := id hP
  obtain ⟨c1, c2, c3, c4⟩ := id hL
  have hnv : nvr < 2 ^ 31 := by unfold nvr; omega
  have search : ¬ (i = P.1 ∧ j = P.2.1) → Run n_X2_leastRank 110 18 [some (.ref 89), some (.int (nI i)), some (.int (nI j)), some (.ref al), none, none, none, none] [] (HH n kf f) (Ret (some (.int (nI (rkF P i j)))) (HH n kf f)) := by
    intro hend
    have hmn := rkF_mn hi hj hend hok
    generalize hX : min P.2.2.1 (P.1 - i) = X at hmn
    generalize hY : min P.2.2.1 (P.2.1 - j) = Y at hmn
    have hXb : X ≤ P.2.2.1 ∧ i + X ≤ P.1 := by omega
    have hYb : Y ≤ P.2.2.1 ∧ j + Y ≤ P.2.1 := by omega
    have inner : ∀ Φ x, x ≤ X → ∀ Yp v : Nat, Yp ≤ Y + 1 → v ≤ nvr → (∀ w, w ≤ nvr → w ≤ v → (∀ y, y ≤ Y → 0 < x + y → y < Yp → w ≤ byF P (rkF P) i j x y) → (w = v ∨ ∃ y, y < Yp ∧ 0 < x + y ∧ w = byF P (rkF P) i j x y) → Run n_X2_leastRank 110 131 [some (.ref 89), some (.int (nI i)), some (.int (nI j)), some (.ref al), some (.int (nI w)), some (.int (nI x)), none, none] [] (HH n kf f) Φ) →
        Run n_X2_leastRank 110 85 [some (.ref 89), some (.int (nI i)), some (.int (nI j)), some (.ref al), some (.int (nI v)), some (.int (nI x)), some (.int (nI ((i + x) * 61 + j))), some (.int (prI Yp))] [.int (nI x + prI Yp)] (HH n kf f) Φ := by
      intro Φ x hx Yp
      induction Yp with
      | zero =>
        intro v _ hv hΦ
        have out := hΦ v hv (Nat.le_refl _) (fun y _ _ h => by omega) (Or.inl rfl)
        refine g_if hT rfl (fun cq => ?_) (fun cq => ?_)
        · exact v_cv out ⟨rfl, rfl, rfl, rfl, rfl, rfl, trivial⟩ rfl rfl
        · refine v_p hT rfl rfl ?_
          refine g_if hT rfl (fun cq2 => ?_) (fun cq2 => ?_)
          · exact v_cv out ⟨rfl, rfl, rfl, rfl, rfl, rfl, trivial⟩ rfl rfl
          · exact absurd prI_0 cq2
      | succ y ih =>
        intro v hyY hv hΦ
        have e1 : nI x + prI (y + 1) = nI (x + y) := nI_add x y
        rw [e1]
        refine g_if hT rfl (fun cq => ?_) (fun cq => ?_)
        · have cq : x + y ≤ 0 := (cj_le (a := x + y) (b := 0) (by omega) (by omega)).mp cq
          exact v_cv (hΦ v hv (Nat.le_refl _) (fun y2 _ _ h => by omega) (Or.inl rfl)) ⟨rfl, rfl, rfl, rfl, rfl, rfl, trivial⟩ rfl rfl
        · have cq : ¬ x + y ≤ 0 := (not_congr (cj_le (a := x + y) (b := 0) (by omega) (by omega))).mp cq
          have hr := hR (i + x) (j + y) (by omega) (by omega) (by omega) (by omega) (by omega)
          rw [show (i + x) * 61 + (j + y) = (i + x) * 61 + j + y by omega] at hr
          have hle := rkF_le p1 p2 p3 p4 (show i + x ≤ P.1 by omega) (show j + y ≤ P.2.1 by omega)
          have hby := byF_bd p1 p2 p3 p4 (i := i) (j := j) (x := x) (y := y) (by omega) (by omega)
          have next : ∀ v2, v2 ≤ nvr → v2 ≤ v → v2 ≤ byF P (rkF P) i j x y → (v2 = v ∨ v2 = byF P (rkF P) i j x y) → Run n_X2_leastRank 110 125 [some (.ref 89), some (.int (nI i)), some (.int (nI j)), some (.ref al), some (.int (nI v2)), some (.int (nI x)), some (.int (nI ((i + x) * 61 + j))), some (.int (nI y))] [] (HH n kf f) Φ := by
            intro v2 hv2 hv2v hv2b hv2e
            refine v_p hT rfl rfl ?_
            rw [prI_add]
            refine ih v2 (by omega) hv2 (fun w hw hwv hwb hwe => hΦ w hw (by omega) (fun y2 h1 h2 h3 => ?_) ?_)
            · by_cases hy2 : y2 = y
              · subst hy2; omega
              · exact hwb y2 h1 h2 (by omega)
            · rcases hwe with hwe | ⟨y2, a1, a2, a3⟩
              · rcases hv2e with hv2e | hv2e
                · exact Or.inl (by omega)
                · exact Or.inr ⟨y, by omega, by omega, by omega⟩
              · exact Or.inr ⟨y2, by omega, a2, a3⟩
          refine v_p hT rfl rfl ?_
          refine g_if hT rfl (fun cq2 => ?_) (fun cq2 => ?_)
          · exact absurd cq2 (prI_ok (show y < 2 ^ 31 by omega))
          · refine v_p hT rfl rfl ?_
            refine v_getr hT rfl rfl (by omega) rfl ?_
            refine v_p hT rfl rfl ?_
            rw [show nI ((i + x) * 61 + j) + prI (y + 1) = nI ((i + x) * 61 + j + y) from nI_add _ _]
            refine v_ald hT rfl (by first | assumption | rfl) (by omega) (by decide) (by omega) ?_
            rw [hr]
            refine v_p hT rfl rfl ?_
            refine g_cmp hT rfl (fun cq3 => ?_) (fun cq3 => ?_)
            · have cq3 := (cj_ge (by omega) (by omega)).mp cq3
              exact next v hv (Nat.le_refl _) (by omega) (Or.inl rfl)
            · refine v_p hT rfl rfl ?_
              refine v_call hT [.int (nI i), .int (nI j), .int (nI x), .int (nI y)] rfl rfl (by first | rfl | assumption) (by omega) rfl rfl (Nat.le_of_ble_eq_true rfl) (Nat.le_of_ble_eq_true rfl) (s_rankBy hP hL (by omega) (by omega) (by omega) (by omega) hr) ?_
              refine g_minN hT rfl (Nat.le_of_ble_eq_true rfl) (by omega) (by omega) ?_
              refine g_ps 1 hT rfl ?_
              exact next (min v (byF P (rkF P) i j x y)) (by omega) (by omega) (by omega) (by omega)
    have outer : ∀ Xp v : Nat, Xp ≤ X + 1 → v ≤ nvr → (∀ x y, Xp ≤ x → x ≤ X → y ≤ Y → 0 < x + y → v ≤ byF P (rkF P) i j x y) → (v = nvr ∨ ∃ x y, x ≤ X ∧ y ≤ Y ∧ 0 < x + y ∧ v = byF P (rkF P) i j x y) →
        Run n_X2_leastRank 110 39 [some (.ref 89), some (.int (nI i)), some (.int (nI j)), some (.ref al), some (.int (nI v)), some (.int (prI Xp)), none, none] [.int (prI Xp)] (HH n kf f) (Ret (some (.int (nI (rkF P i j)))) (HH n kf f)) := by
      intro Xp
      induction Xp with
      | zero =>
        intro v _ hv h1 h2
        have e : v = rkF P i j := isMn_eq ⟨fun x y hx hy hp => h1 x y (by omega) hx hy hp, hv, h2⟩ hmn
        refine g_if hT rfl (fun cq => ?_) (fun cq => ?_)
        · refine v_p hT rfl rfl ?_
          refine v_ret hT rfl (fun z => by cases z) rfl ⟨?_, rfl⟩
          rw [e]
        · exact absurd prI_0 cq
      | succ x ih =>
        intro v hxX hv h1 h2
        have next : ∀ w, w ≤ nvr → w ≤ v → (∀ y, y ≤ Y → 0 < x + y → w ≤ byF P (rkF P) i j x y) → (w = v ∨ ∃ y, y ≤ Y ∧ 0 < x + y ∧ w = byF P (rkF P) i j x y) → Run n_X2_leastRank 110 131 [some (.ref 89), some (.int (nI i)), some (.int (nI j)), some (.ref al), some (.int (nI w)), some (.int (nI x)), none, none] [] (HH n kf f) (Ret (some (.int (nI (rkF P i j)))) (HH n kf f)) := by
          intro w hw hwv hwb hwe
          refine v_p hT rfl rfl ?_
          rw [prI_add]
          refine ih w (by omega) hw (fun x2 y2 a1 a2 a3 a4 => ?_) ?_
          · by_cases hx2 : x2 = x
            · subst hx2; exact hwb y2 a3 a4
            · exact Nat.le_trans hwv (h1 x2 y2 (by omega) a2 a3 a4)
          · rcases hwe with hwe | ⟨y2, a1, a2, a3⟩
            · rw [hwe]; exact h2
            · exact Or.inr ⟨x, y2, by omega, a1, a2, a3⟩
        refine g_if hT rfl (fun cq => ?_) (fun cq => ?_)
        · exact absurd cq (prI_ok (show x < 2 ^ 31 by omega))
        · refine v_p hT rfl rfl ?_
          rw [show nI i + prI (x + 1) = nI (i + x) from nI_add _ _]
          refine v_bld hT rfl hal (Or.inl rfl) hal2 (by decide) (by omega) ?_
          rw [hlw (i + x) (by omega)]
          refine g_if hT rfl (fun cq2 => ?_) (fun cq2 => ?_)
          · have cq2 := bt_of cq2
            repeat (first | refine v_p hT rfl rfl ?_ | refine v_getr hT rfl rfl (by omega) rfl ?_ | refine v_geti hT rfl (by first | rfl | assumption) (by omega) ?_ | refine v_ald hT rfl (by first | assumption | rfl) (by omega) (by decide) (by omega) ?_ | simp only [nI_add, pk_mul, c1, c3])
            rw [show nI i + prI (x + 1) = nI (i + x) from nI_add _ _]
            simp only [nI_add, pk_mul]
            rw [pk_sub (by omega)]
            refine g_minN hT rfl (Nat.le_of_ble_eq_true rfl) (by omega) (by omega) ?_
            rw [hY]
            refine v_p hT rfl rfl ?_
            exact inner _ x (by omega) (Y + 1) v (by omega) hv (fun w hw hwv hwb hwe => next w hw hwv (fun y a1 a2 => hwb y a1 a2 (by omega)) (hwe.elim Or.inl (fun ⟨y, a1, a2, a3⟩ => Or.inr ⟨y, by omega, a2, a3⟩)))
          · have cq2 : law (i + x) = false := bf_of (Classical.not_not.mp cq2)
            refine v_p hT rfl rfl ?_
            rw [show prI (x + 1) + mI 1 = prI x from prI_add x]
            have hnv2 : ∀ y, y ≤ Y → 0 < x + y → v ≤ byF P (rkF P) i j x y := by
              intro y hy hp
              have h5 : ¬ (i + x = P.1 ∧ j + y = P.2.1) := fun z => by rw [z.1, hl2] at cq2; cases cq2
              have h6 : rkF P (i + x) (j + y) = nvr := rkF_no (by omega) (by omega) h5 (fun z => by rw [hl1 _ _ z] at cq2; cases cq2)
              have h7 : byF P (rkF P) i j x y = nvr := if_pos h6
              omega
            refine ih v (by omega) hv (fun x2 y2 a1 a2 a3 a4 => ?_) h2
            by_cases hx2 : x2 = x
            · subst hx2; exact hnv2 y2 a3 a4
            · exact h1 x2 y2 (by omega) a2 a3 a4
    repeat (first | refine v_p hT rfl rfl ?_ | refine v_getr hT rfl rfl (by omega) rfl ?_ | refine v_geti hT rfl (by first | rfl | assumption) (by omega) ?_ | refine v_ald hT rfl (by first | assumption | rfl) (by omega) (by decide) (by omega) ?_ | simp only [nI_add, pk_mul, c1, c2])
    rw [pk_sub (by omega)]
    refine g_minN hT rfl (Nat.le_of_ble_eq_true rfl) (by omega) (by omega) ?_
    rw [hX]
    refine v_p hT rfl rfl ?_
    exact outer (X + 1) nvr (Nat.le_refl _) (Nat.le_refl _) (fun x y a1 a2 => by omega) (Or.inl rfl)
  repeat (first | refine v_p hT rfl rfl ?_ | refine v_getr hT rfl rfl (by omega) rfl ?_ | refine v_geti hT rfl (by first | rfl | assumption) (by omega) ?_ | refine v_ald hT rfl (by first | assumption | rfl) (by omega) (by decide) (by omega) ?_ | simp only [nI_add, pk_mul, c2])
  refine g_cmp hT rfl (fun cq => ?_) (fun cq => ?_)
  · have cq := (cj_ne (by omega) (by omega)).mp cq
    exact search (by omega)
  · have cq := (not_congr (cj_ne (by omega) (by omega))).mp cq
    repeat (first | refine v_p hT rfl rfl ?_ | refine v_getr hT rfl rfl (by omega) rfl ?_ | refine v_geti hT rfl (by first | rfl | assumption) (by omega) ?_ | refine v_ald hT rfl (by first | assumption | rfl) (by omega) (by decide) (by omega) ?_ | simp only [nI_add, pk_mul, c3])
    refine g_cmp hT rfl (fun cq2 => ?_) (fun cq2 => ?_)
    · have cq2 := (cj_ne (by omega) (by omega)).mp cq2
      exact search (by omega)
    · have cq2 := (not_congr (cj_ne (by omega) (by omega))).mp cq2
      refine v_p hT rfl rfl ?_
      refine v_ret hT rfl (fun z => by cases z) rfl ⟨?_, rfl⟩
      rw [show i = P.1 by omega, show j = P.2.1 by omega, rkF_end]
