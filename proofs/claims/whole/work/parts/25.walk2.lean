/-! THE CLASS: the walk. -/
theorem s_takeMost {n k i j : Nat} {kf : Nat → Nat} {f : Nat → Nat → Int32} {P : LYP} (hP : PBd P) (hL : LCx f P) (hR : ∀ a b, a ≤ P.1 → b ≤ P.2.1 → f 91 (a * 61 + b) = nI (rkF P a b)) (hk : k < 120) (h0 : f 94 k = nI i) (h1 : f 95 k = nI j) (hi : i ≤ P.1) (hj : j ≤ P.2.1) {px py : Nat} (hpk : isPk P i j px py) :
    Run n_X2_takeMost 110 0 (ini n_X2_takeMost [.ref 89, .int (nI k)]) [] (HH n kf f) (Ret none (HH n kf (hset (hset f 94 (k + 1) (nI (i + px))) 95 (k + 1) (nI (j + py))))) := by
  have hT : mT n_X2_takeMost = tb_X2_takeMost := rfl
  obtain ⟨p1, p2, p3, p4⟩ := id hP
  obtain ⟨c1, c2, c3, c4⟩ := id hL
  have hnv : nvr < 2 ^ 31 := by unfold nvr; omega
  have hdle := rkF_le p1 p2 p3 p4 hi hj
  obtain ⟨a1, a2, a3, a4, a5⟩ := hpk
  generalize hX : min P.2.2.1 (P.1 - i) = X at a1 a5
  generalize hY : min P.2.2.1 (P.2.1 - j) = Y at a2 a5
  have found : Run n_X2_takeMost 110 90 [some (.ref 89), some (.int (nI k)), some (.int (nI i)), some (.int (nI j)), some (.int (nI (rkF P i j))), some (.int (nI px)), some (.int (nI py))] [] (HH n kf f) (Ret none (HH n kf (hset (hset f 94 (k + 1) (nI (i + px))) 95 (k + 1) (nI (j + py))))) := by
    repeat (first | refine v_p hT rfl rfl ?_ | refine v_getr hT rfl rfl (by omega) rfl ?_ | refine v_geti hT rfl (by first | rfl | assumption) (by omega) ?_ | refine v_ald hT rfl (by first | assumption | rfl) (by omega) (by decide) (by omega) ?_ | simp only [nI_add, pk_mul])
    refine v_ast hT rfl rfl (by omega) (by decide) (by omega) ?_
    repeat (first | refine v_p hT rfl rfl ?_ | refine v_getr hT rfl rfl (by omega) rfl ?_ | refine v_geti hT rfl (by first | rfl | assumption) (by omega) ?_ | refine v_ald hT rfl (by first | assumption | rfl) (by omega) (by decide) (by omega) ?_ | simp only [nI_add, pk_mul])
    refine v_ast hT rfl rfl (by omega) (by decide) (by omega) ?_
    refine v_vret hT rfl rfl ⟨rfl, rfl⟩
  have inner : ∀ Φ x, px ≤ x → x ≤ X → (x = px → Run n_X2_takeMost 110 90 [some (.ref 89), some (.int (nI k)), some (.int (nI i)), some (.int (nI j)), some (.int (nI (rkF P i j))), some (.int (nI px)), some (.int (nI py))] [] (HH n kf f) Φ) → (px < x → Run n_X2_takeMost 110 121 [some (.ref 89), some (.int (nI k)), some (.int (nI i)), some (.int (nI j)), some (.int (nI (rkF P i j))), some (.int (nI x)), none] [] (HH n kf f) Φ) → ∀ Yp : Nat, Yp ≤ Y + 1 → (x = px → py < Yp) →
      Run n_X2_takeMost 110 67 [some (.ref 89), some (.int (nI k)), some (.int (nI i)), some (.int (nI j)), some (.int (nI (rkF P i j))), some (.int (nI x)), some (.int (prI Yp))] [.int (nI x + prI Yp)] (HH n kf f) Φ := by
    intro Φ x hpx hx hfd hnx Yp
    induction Yp with
    | zero =>
      intro _ hpy
      have hlt : px < x := by
        by_cases e : x = px
        · have := hpy e; omega
        · omega
      have out := hnx hlt
      refine g_if hT rfl (fun cq => ?_) (fun cq => ?_)
      · exact v_cv out ⟨rfl, rfl, rfl, rfl, rfl, rfl, trivial⟩ rfl rfl
      · refine v_p hT rfl rfl ?_
        refine g_if hT rfl (fun cq2 => ?_) (fun cq2 => ?_)
        · exact v_cv out ⟨rfl, rfl, rfl, rfl, rfl, rfl, trivial⟩ rfl rfl
        · exact absurd prI_0 cq2
    | succ y ih =>
      intro hyY hpy
      rw [show nI x + prI (y + 1) = nI (x + y) from nI_add x y]
      have hr := hR (i + x) (j + y) (by omega) (by omega)
      rw [show (i + x) * 61 + (j + y) = (i + x) * 61 + j + y by omega] at hr
      have hby := byF_bd p1 p2 p3 p4 (i := i) (j := j) (x := x) (y := y) (by omega) (by omega)
      refine g_if hT rfl (fun cq => ?_) (fun cq => ?_)
      · have cq : x + y ≤ 0 := (cj_le (a := x + y) (b := 0) (by omega) (by omega)).mp cq
        by_cases e : x = px
        · have := hpy e; omega
        · exact v_cv (hnx (by omega)) ⟨rfl, rfl, rfl, rfl, rfl, rfl, trivial⟩ rfl rfl
      · have cq : ¬ x + y ≤ 0 := (not_congr (cj_le (a := x + y) (b := 0) (by omega) (by omega))).mp cq
        refine v_p hT rfl rfl ?_
        refine g_if hT rfl (fun cq2 => ?_) (fun cq2 => ?_)
        · exact absurd cq2 (prI_ok (show y < 2 ^ 31 by omega))
        · refine v_p hT rfl rfl ?_
          refine v_call hT [.int (nI i), .int (nI j), .int (nI x), .int (nI y)] rfl rfl (by first | rfl | assumption) (by omega) rfl rfl (Nat.le_of_ble_eq_true rfl) (Nat.le_of_ble_eq_true rfl) (s_rankBy hP hL (by omega) (by omega) (by omega) (by omega) hr) ?_
          refine v_p hT rfl rfl ?_
          refine g_cmp hT rfl (fun cq3 => ?_) (fun cq3 => ?_)
          · have cq3 := (cj_ne (by omega) (by omega)).mp cq3
            refine v_p hT rfl rfl ?_
            rw [show prI (y + 1) + mI 1 = prI y from prI_add y]
            refine ih (by omega) (fun e => ?_)
            have h5 := hpy e
            by_cases e2 : py = y
            · subst e; subst e2; exact absurd a4 cq3
            · omega
          · have cq3 := Classical.not_not.mp ((not_congr (cj_ne (by omega) (by omega))).mp cq3)
            have h6 := a5 x y hx (by omega) (by omega) cq3
            have e : x = px := by omega
            have h7 := hpy e
            have e2 : y = py := by omega
            subst e
            subst e2
            exact hfd rfl
  have outer : ∀ Xp : Nat, px < Xp → Xp ≤ X + 1 → Run n_X2_takeMost 110 44 [some (.ref 89), some (.int (nI k)), some (.int (nI i)), some (.int (nI j)), some (.int (nI (rkF P i j))), some (.int (prI Xp)), none] [.int (prI Xp)] (HH n kf f) (Ret none (HH n kf (hset (hset f 94 (k + 1) (nI (i + px))) 95 (k + 1) (nI (j + py))))) := by
    intro Xp
    induction Xp with
    | zero => intro h; omega
    | succ x ih =>
      intro hpx hxX
      refine g_if hT rfl (fun cq => ?_) (fun cq => ?_)
      · exact absurd cq (prI_ok (show x < 2 ^ 31 by omega))
      · repeat (first | refine v_p hT rfl rfl ?_ | refine v_getr hT rfl rfl (by omega) rfl ?_ | refine v_geti hT rfl (by first | rfl | assumption) (by omega) ?_ | refine v_ald hT rfl (by first | assumption | rfl) (by omega) (by decide) (by omega) ?_ | simp only [nI_add, pk_mul, c1, c3])
        rw [pk_sub (by omega)]
        refine g_minN hT rfl (Nat.le_of_ble_eq_true rfl) (by omega) (by omega) ?_
        rw [hY]
        refine v_p hT rfl rfl ?_
        refine inner _ x (by omega) (by omega) (fun _ => found) (fun hlt => ?_) (Y + 1) (Nat.le_refl _) (fun _ => by omega)
        refine v_p hT rfl rfl ?_
        rw [prI_add]
        exact ih (by omega) (by omega)
  have hrij := hR i j hi hj
  repeat (first | refine v_p hT rfl rfl ?_ | refine v_getr hT rfl rfl (by omega) rfl ?_ | refine v_geti hT rfl (by first | rfl | assumption) (by omega) ?_ | refine v_ald hT rfl (by first | assumption | rfl) (by omega) (by decide) (by omega) ?_ | simp only [nI_add, pk_mul, h0, h1, hrij, c1, c2])
  rw [pk_sub (by omega)]
  refine g_minN hT rfl (Nat.le_of_ble_eq_true rfl) (by omega) (by omega) ?_
  rw [hX]
  refine v_p hT rfl rfl ?_
  exact outer (X + 1) (by omega) (Nat.le_refl _)
/-- openings and cost as the class holds them: none is -1 -/
noncomputable def opI (P : LYP) : Int32 := bif decide (rkF P 0 0 = nvr) then mI 1 else nI (rkF P 0 0 % 128)
noncomputable def coI (P : LYP) : Int32 := bif decide (rkF P 0 0 = nvr) then mI 1 else nI (rkF P 0 0 / 128)
noncomputable def opN (P : LYP) : Nat := bif decide (rkF P 0 0 = nvr) then 0 else rkF P 0 0 % 128
theorem s_walk {n : Nat} {kf : Nat → Nat} {f : Nat → Nat → Int32} {P : LYP} (hP : PBd P) (hL : LCx f P) (hR : ∀ a b, a ≤ P.1 → b ≤ P.2.1 → f 91 (a * 61 + b) = nI (rkF P a b)) :
    ∃ f2, Run n_X2_walk 110 0 (ini n_X2_walk [.ref 89]) [] (HH n kf f) (Ret none (HH n kf f2)) ∧ f2 89 9 = opI P ∧ f2 89 10 = coI P ∧ (∀ k, k ≤ opN P → f2 94 k = nI (posF P k).1 ∧ f2 95 k = nI (posF P k).2) ∧ (∀ i, i < 9 → f2 89 i = f 89 i) ∧ ∀ c, c ≠ 89 → c ≠ 94 → c ≠ 95 → f2 c = f c := by
  have hT : mT n_X2_walk = tb_X2_walk := rfl
  obtain ⟨p1, p2, p3, p4⟩ := id hP
  have hnv : nvr < 2 ^ 31 := by unfold nvr; omega
  have hle := rkF_le p1 p2 p3 p4 (Nat.zero_le P.1) (Nat.zero_le P.2.1)
  have h00 : f 91 0 = nI (rkF P 0 0) := hR 0 0 (Nat.zero_le _) (Nat.zero_le _)
  have hstart : ∀ Φ, Run n_X2_walk 110 32 [some (.ref 89), none] [.int (nI nvr), .int (nI (rkF P 0 0))] (HH n kf (hset (hset (hset (hset f 94 0 (nI 0)) 95 0 (nI 0)) 89 9 (mI 1)) 89 10 (mI 1))) Φ → Run n_X2_walk 110 0 (ini n_X2_walk [.ref 89]) [] (HH n kf f) Φ := by
    intro Φ hΦ
    refine v_p hT rfl rfl ?_
    refine v_getr hT rfl rfl (by omega) rfl ?_
    refine v_p hT rfl rfl ?_
    refine v_ast hT rfl rfl (by omega) (by decide) (by omega) ?_
    refine v_p hT rfl rfl ?_
    refine v_getr hT rfl rfl (by omega) rfl ?_
    refine v_p hT rfl rfl ?_
    refine v_ast hT rfl rfl (by omega) (by decide) (by omega) ?_
    refine v_p hT rfl rfl ?_
    refine v_puti hT rfl rfl (by omega) (fun z => by cases z) ?_
    refine v_p hT rfl rfl ?_
    refine v_puti hT rfl rfl (by omega) (fun z => by cases z) ?_
    refine v_p hT rfl rfl ?_
    refine v_getr hT rfl rfl (by omega) rfl ?_
    refine v_p hT rfl rfl ?_
    refine v_ald hT rfl (by first | assumption | rfl) (by omega) (by decide) (by omega) ?_
    rw [hset_ne (by omega), hset_ne (by omega), hset_ne (by omega), hset_ne (by omega), h00]
    refine v_p hT rfl rfl ?_
    exact v_cv hΦ ⟨rfl, trivial⟩ rfl rfl
  by_cases hn : rkF P 0 0 = nvr
  · refine ⟨hset (hset (hset (hset f 94 0 (nI 0)) 95 0 (nI 0)) 89 9 (mI 1)) 89 10 (mI 1), hstart _ ?_, ?_, ?_, fun k hk => ?_, fun i hi => ?_, fun c h1 h2 h3 => ?_⟩
    · refine g_cmp hT rfl (fun cq => ?_) (fun cq => ?_)
      · exact absurd hn ((cj_ne (by omega) (by omega)).mp cq)
      · refine v_vret hT rfl rfl ⟨rfl, rfl⟩
    · unfold opI; rw [decide_eq_true hn]; simp [hset, upd]
    · unfold coI; rw [decide_eq_true hn]; simp [hset, upd]
    · have h5 : k = 0 := by
        unfold opN at hk
        rw [decide_eq_true hn] at hk
        exact Nat.le_zero.mp hk
      subst h5
      exact ⟨by simp [hset, upd, posF], by simp [hset, upd, posF]⟩
    · rw [hs_s]
      simp only [upd, if_neg (show i ≠ 10 by omega)]
      rw [hs_s]
      simp only [upd, if_neg (show i ≠ 9 by omega)]
      rw [hset_ne (by omega), hset_ne (by omega)]
    · rw [hset_ne h1, hset_ne h1, hset_ne h3, hset_ne h2]
  · have hopn : opN P = rkF P 0 0 % 128 := by unfold opN; rw [decide_eq_false hn]; rfl
    have hlt : rkF P 0 0 % 128 ≤ 120 ∧ rkF P 0 0 < 30000000 := by
      rcases rkF_lt p1 p2 p3 p4 (Nat.zero_le P.1) (Nat.zero_le P.2.1) with h | h
      · exact absurd h hn
      · omega
    have loop : ∀ dd k : Nat, k + dd = rkF P 0 0 % 128 → ∀ F : Nat → Nat → Int32, (∀ c, c ≠ 94 → c ≠ 95 → c ≠ 89 → F c = f c) → (∀ i, i < 9 → F 89 i = f 89 i) → F 89 9 = nI (rkF P 0 0 % 128) → F 89 10 = nI (rkF P 0 0 / 128) → (∀ q, q ≤ k → F 94 q = nI (posF P q).1 ∧ F 95 q = nI (posF P q).2) →
        ∃ f2, Run n_X2_walk 110 71 [some (.ref 89), some (.int (nI k))] [.int (nI (rkF P 0 0 % 128)), .int (nI k)] (HH n kf F) (Ret none (HH n kf f2)) ∧ f2 89 9 = nI (rkF P 0 0 % 128) ∧ f2 89 10 = nI (rkF P 0 0 / 128) ∧ (∀ q, q ≤ rkF P 0 0 % 128 → f2 94 q = nI (posF P q).1 ∧ f2 95 q = nI (posF P q).2) ∧ (∀ i, i < 9 → f2 89 i = f 89 i) ∧ ∀ c, c ≠ 89 → c ≠ 94 → c ≠ 95 → f2 c = f c := by
      intro dd
      induction dd with
      | zero =>
        intro k hk F hF h8 h9 h10 hq
        refine ⟨F, ?_, h9, h10, fun q hq2 => hq q (by omega), h8, fun c x1 x2 x3 => hF c x2 x3 x1⟩
        refine g_cmp hT rfl (fun cq => ?_) (fun cq => ?_)
        · refine v_vret hT rfl rfl ⟨rfl, rfl⟩
        · exact absurd ((cj_ge (by omega) (by omega)).mpr (by omega)) cq
      | succ dd ih =>
        intro k hk F hF h8 h9 h10 hq
        obtain ⟨b1, b2, b3, b4⟩ := pos_ok hP hn k (by omega)
        have hpk := pos_pk hP hn (k := k) (by omega)
        have hLF : LCx F P := by
          obtain ⟨c1, c2, c3, c4⟩ := hL
          exact ⟨by rw [h8 6 (by omega)]; exact c1, by rw [h8 7 (by omega)]; exact c2, by rw [h8 8 (by omega)]; exact c3, fun x y hx hy => by rw [hF 90 (by omega) (by omega) (by omega)]; exact c4 x y hx hy⟩
        have hcall := s_takeMost (n := n) (kf := kf) (k := k) hP hLF (fun a b x1 x2 => by rw [hF 91 (by omega) (by omega) (by omega)]; exact hR a b x1 x2) (by omega) (hq k (Nat.le_refl _)).1 (hq k (Nat.le_refl _)).2 b1 b2 hpk
        obtain ⟨f2, r1, r2⟩ := ih (k + 1) (by omega) (hset (hset F 94 (k + 1) (nI (posF P (k + 1)).1)) 95 (k + 1) (nI (posF P (k + 1)).2)) (fun c x1 x2 x3 => by rw [hset_ne x2, hset_ne x1]; exact hF c x1 x2 x3) (fun i hi => by rw [hset_ne (by omega), hset_ne (by omega)]; exact h8 i hi) (by rw [hset_ne (by omega), hset_ne (by omega)]; exact h9) (by rw [hset_ne (by omega), hset_ne (by omega)]; exact h10) (fun q hqk => by
          by_cases hqe : q = k + 1
          · subst hqe
            exact ⟨by rw [hset_ne (by omega), hs_s]; simp [upd], by rw [hs_s]; simp [upd]⟩
          · refine ⟨?_, ?_⟩
            · rw [hset_ne (by omega), hs_s]; simp only [upd, if_neg hqe]; exact (hq q (by omega)).1
            · rw [hs_s]; simp only [upd, if_neg hqe]; rw [hset_ne (by omega)]; exact (hq q (by omega)).2)
        refine ⟨f2, ?_, r2⟩
        refine g_cmp hT rfl (fun cq => ?_) (fun cq => ?_)
        · exact absurd ((cj_ge (by omega) (by omega)).mp cq) (by omega)
        · refine v_p hT rfl rfl ?_
          refine g_cmp hT rfl (fun cq2 => ?_) (fun cq2 => ?_)
          · exact absurd ((cj_ge (by omega) (by omega)).mp cq2) (by omega)
          · refine v_p hT rfl rfl ?_
            refine v_call hT [.int (nI k)] rfl rfl (by first | rfl | assumption) (by omega) rfl rfl (Nat.le_of_ble_eq_true rfl) (Nat.le_of_ble_eq_true rfl) (hcall) ?_
            refine v_p hT rfl rfl ?_
            refine v_geti hT rfl rfl (by omega) ?_
            rw [hset_ne (by omega), hset_ne (by omega), h9]
            refine v_cv r1 ⟨rfl, ?_, trivial⟩ ?_ rfl
            · rw [nI_add]
            · rw [nI_add]; rfl
    obtain ⟨f2, r1, r2, r3, r4, r5, r6⟩ := loop (rkF P 0 0 % 128) 0 (by omega) (hset (hset (hset (hset (hset (hset f 94 0 (nI 0)) 95 0 (nI 0)) 89 9 (mI 1)) 89 10 (mI 1)) 89 9 (nI (rkF P 0 0 % 128))) 89 10 (nI (rkF P 0 0 / 128))) (fun c x1 x2 x3 => by rw [hset_ne x3, hset_ne x3, hset_ne x3, hset_ne x3, hset_ne x2, hset_ne x1]) (fun i hi => by simp [hset, upd, show i ≠ 10 by omega, show i ≠ 9 by omega]) (by simp [hset, upd]) (by simp [hset, upd]) (fun q hq => by rw [Nat.le_zero.mp hq]; exact ⟨by simp [hset, upd, posF], by simp [hset, upd, posF]⟩)
    refine ⟨f2, hstart _ ?_, ?_, ?_, fun k hk => r4 k (by omega), r5, r6⟩
    · refine g_cmp hT rfl (fun cq => ?_) (fun cq => ?_)
      · refine v_p hT rfl rfl ?_
        refine v_getr hT rfl rfl (by omega) rfl ?_
        refine v_p hT rfl rfl ?_
        refine v_ald hT rfl (by first | assumption | rfl) (by omega) (by decide) (by omega) ?_
        rw [hset_ne (by omega), hset_ne (by omega), hset_ne (by omega), hset_ne (by omega), h00]
        refine v_p hT rfl rfl ?_
        refine g_remN hT rfl (by omega) (by omega) (by omega) ?_
        refine v_puti hT rfl rfl (by omega) (fun z => by cases z) ?_
        refine v_p hT rfl rfl ?_
        refine v_getr hT rfl rfl (by omega) rfl ?_
        refine v_p hT rfl rfl ?_
        refine v_ald hT rfl (by first | assumption | rfl) (by omega) (by decide) (by omega) ?_
        rw [hset_ne (by omega), hset_ne (by omega), hset_ne (by omega), hset_ne (by omega), hset_ne (by omega), h00]
        refine v_p hT rfl rfl ?_
        refine g_divN hT rfl (by omega) (by omega) (by omega) ?_
        refine v_puti hT rfl rfl (by omega) (fun z => by cases z) ?_
        refine v_p hT rfl rfl ?_
        refine v_geti hT rfl (by first | rfl | assumption) (by omega) ?_
        rw [hs_s]
        simp only [upd, if_neg (show (9 : Nat) ≠ 10 by omega)]
        rw [hs_s]
        simp only [upd, if_pos]
        exact r1
      · exact absurd ((cj_ne (by omega) (by omega)).mpr hn) cq
    · rw [r2]; unfold opI; rw [decide_eq_false hn]; rfl
    · rw [r3]; unfold coI; rw [decide_eq_false hn]; rfl
