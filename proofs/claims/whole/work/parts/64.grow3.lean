/-! CONSTRUCTORS: the states, the class. -/
theorem st_bk {i : Nat} (h : i < 6) : isBk (21 + 9 * i) := by
  rcases (show i = 0 ∨ i = 1 ∨ i = 2 ∨ i = 3 ∨ i = 4 ∨ i = 5 by omega) with e | e | e | e | e | e <;> subst e <;> unfold isBk <;> omega
theorem st_slt : ∀ i, i < 6 → slt (21 + 9 * i + 1) ≤ slt 20 + 1530 ∧ slt (21 + 9 * i + 1) + 245 = slt (21 + 9 * i + 1 + 8) ∧ slt (21 + 9 * i + 1 + 8) ≤ slt 20 + 1530 := by decide +kernel
theorem i_stLoop : ∀ d i, i + d = 6 → ∀ (R : Nat → Nat → Nat) (F : Nat → Nat → Int32), Zr (21 + 9 * i) R F → R 19 0 = 21 →
    ∃ R2 F2, Run n_X5_init 20 18 [some (.ref 19), some (.int (nI i))] [.int (nI 6), .int (nI i)] (21 + 9 * i, R, F) (Ret none (75, R2, F2)) ∧ (∀ c j, 21 + 9 * i ≤ c → c < 75 → R2 c j = RR 0 kf0 c j) ∧ (∀ j, R2 20 j = if i ≤ j ∧ j < 6 then 22 + 9 * j else R 20 j) ∧ (∀ c, c ≠ 20 → c < 21 + 9 * i ∨ 75 ≤ c → R2 c = R c) ∧ ∀ c, c < 21 + 9 * i ∨ 75 ≤ c → F2 c = F c := by
  have hT : mT n_X5_init = tb_X5_init := rfl
  intro d
  induction d with
  | zero =>
    intro i hi R F hz h19
    obtain rfl : i = 6 := by omega
    refine ⟨R, F, ?_, fun c j h1 h2 => by omega, fun j => by rw [if_neg (by omega)], fun _ _ _ => rfl, fun _ _ => rfl⟩
    refine g_cmp hT rfl (fun cq => ?_) (fun cq => ?_)
    · exact g_vret hT rfl rfl ⟨rfl, rfl⟩
    · exact absurd ((cj_ge (by omega) (by omega)).mpr (by omega)) cq
  | succ d ih =>
    intro i hi R F hz h19
    have h6 : i < 6 := by omega
    have hb := st_bk h6
    obtain ⟨k0, -⟩ := bk_kd hb
    obtain ⟨s1, s2, s3⟩ := st_slt i h6
    obtain ⟨R1, F1, r1, a1, a2, a3, a4⟩ := i_book hb hz
    have hm := mk_book hb hz a1 a2
    have hz1 := zr_mk hz hm (fun c hc => a4 c (by omega) (by omega)) (by omega)
    have hz2 := Zr_r (i := i) (j := 21 + 9 * i + 1) hz1 (show 20 < 21 + 9 * i + 9 by omega)
    rw [show 21 + 9 * i + 9 = 21 + 9 * (i + 1) by omega] at hz2
    obtain ⟨R2, F2, g1, g2, g3, g4, g5⟩ := ih (i + 1) (by omega) (rset R1 20 i (21 + 9 * i + 1)) F1 hz2 (by rw [rset_ne (by omega), a2 19 (by omega)]; exact h19)
    refine ⟨R2, F2, ?_, fun c j h1 h2 => ?_, fun j => ?_, fun c h20 hc => by rw [g4 c h20 (by omega), rset_ne h20, a2 c (by omega)], fun c hc => by rw [g5 c (by omega), a4 c (by omega) (by omega)]⟩
    · refine g_cmp hT rfl (fun cq => ?_) (fun cq => ?_)
      · exact absurd ((cj_ge (by omega) (by omega)).mp cq) (by omega)
      · refine v_p hT rfl rfl ?_
        refine g_getr hT rfl rfl (show 19 < 21 + 9 * i by omega) h19 ?_
        refine v_p hT rfl rfl ?_
        refine g_new hT rfl k0 (show 21 + 9 * i + 1 ≤ 20 + 55 by omega) s1 hz (by omega) ?_
        refine v_p hT rfl rfl ?_
        refine g_icall hT rfl (by omega) rfl (Nat.le_of_ble_eq_true rfl) (Nat.le_of_ble_eq_true rfl) (show 21 + 9 * i + 1 + 8 ≤ 20 + 55 by omega) s2 s3 r1 ?_
        refine g_rst hT rfl rfl (Or.inl ⟨rfl, k0⟩) (show 20 < 21 + 9 * i + 9 by omega) (show 21 + 9 * i < 21 + 9 * i + 9 by omega) (by decide) h6 ?_
        refine v_p hT rfl rfl ?_
        rw [nI_add]
        exact g1
    · by_cases hc : c < 21 + 9 * (i + 1)
      · rw [g4 c (by omega) (Or.inl hc), rset_ne (by omega)]
        exact hm.1 c j h1 (by omega)
      · exact g2 c j (by omega) h2
    · rw [g3, rset_eq, a2 20 (by omega)]
      by_cases h1 : i + 1 ≤ j ∧ j < 6
      · rw [if_pos h1, if_pos (by omega)]
      · rw [if_neg h1]
        by_cases h2 : j = i
        · rw [if_pos h2, if_pos (by omega), h2]
          omega
        · rw [if_neg h2, if_neg (by omega)]
theorem i_states {R : Nat → Nat → Nat} {F : Nat → Nat → Int32} (hz : Zr 19 R F) :
    ∃ R2 F2, Run n_X5_init 20 0 (ini n_X5_init [.ref 19]) [] (20, R, F) (Ret none (75, R2, F2)) ∧ Mk 19 75 R R2 ∧ ∀ c, c < 21 ∨ 75 ≤ c → F2 c = F c := by
  have hT : mT n_X5_init = tb_X5_init := rfl
  have z1 : Zr 21 (rset R 19 0 21) F := Zr_r (Zr_s hz (by omega)) (by omega)
  obtain ⟨R2, F2, g1, g2, g3, g4, g5⟩ := i_stLoop 6 0 (by omega) (rset R 19 0 21) F z1 (by rw [rset_eq]; rfl)
  refine ⟨R2, F2, ?_, ⟨fun c i q1 q2 => ?_, fun c q => by rw [g4 c (by omega) (by omega), rset_ne (by omega)]⟩, fun c hc => g5 c (by omega)⟩
  · refine v_p hT rfl rfl ?_
    refine g_oin hT rfl (Nat.le_of_ble_eq_true rfl) ?_
    refine v_p hT rfl rfl ?_
    refine g_newa hT rfl (Or.inr rfl) (show kd 20 = (4, 6) from rfl) (by decide) (by decide +kernel) (Zr_s hz (by omega)) (by omega) ?_
    refine g_putr hT rfl rfl (by omega) ?_
    refine v_p hT rfl rfl ?_
    exact g1
  · rcases (show c = 19 ∨ c = 20 ∨ 21 ≤ c by omega) with e | e | e
    · subst e
      rw [g4 19 (by omega) (by omega), rset_eq, hz.1 19 i (by omega) (by omega)]
      by_cases h : i = 0
      · subst h; rfl
      · obtain ⟨j, rfl⟩ : ∃ j, i = j + 1 := ⟨i - 1, by omega⟩
        rw [if_neg h]; rfl
    · subst e
      rw [g3, rset_ne (by omega), hz.1 20 i (by omega) (by omega)]
      show _ = kf0 i
      unfold kf0
      by_cases h : i < 6
      · rw [if_pos (by omega), if_pos h]
      · rw [if_neg (by omega), if_neg h]
    · exact g2 c i (by omega) q2
theorem mk_one {k : Nat} {R : Nat → Nat → Nat} {F : Nat → Nat → Int32} (hz : Zr k R F) (h : k < 110) (h20 : k ≠ 20) (hn : ¬ k ∈ [0, 1, 10, 19, 21, 30, 39, 48, 57, 66, 75, 80, 81, 84, 87, 89, 98]) : Mk k (k + 1) R R := by
  refine ⟨fun c i q1 q2 => ?_, fun _ _ => rfl⟩
  obtain rfl : c = k := by omega
  rw [hz.1 c i q1 (by omega), rr_no i h h20 hn]
/-- the class's own row has j places, cells 1 .. k - 1 are made -/
def G6 (R0 : Nat → Nat → Nat) (k j : Nat) (R : Nat → Nat → Nat) : Prop := (∀ c i, 1 ≤ c → c < k → R c i = RR 0 kf0 c i) ∧ (∀ i, R 0 i = if i < j then RR 0 kf0 0 i else 0) ∧ ∀ c, k ≤ c → R c = R0 c
theorem g6_mk {R0 R R2 : Nat → Nat → Nat} {k j e : Nat} (h : G6 R0 k j R) (hk : 1 ≤ k) (hm : Mk k e R R2) (he : k ≤ e) : G6 R0 e j R2 := by
  refine ⟨fun c i h1 h2 => ?_, fun i => by rw [hm.2 0 (by omega)]; exact h.2.1 i, fun c hc => by rw [hm.2 c (by omega), h.2.2 c (by omega)]⟩
  by_cases hc : c < k
  · rw [hm.2 c (by omega)]; exact h.1 c i h1 hc
  · exact hm.1 c i (by omega) h2
theorem g6_set {R0 R : Nat → Nat → Nat} {k j v : Nat} (h : G6 R0 k j R) (hk : 1 ≤ k) (hv : v = RR 0 kf0 0 j) : G6 R0 k (j + 1) (rset R 0 j v) := by
  refine ⟨fun c i h1 h2 => by rw [rset_ne (by omega)]; exact h.1 c i h1 h2, fun i => ?_, fun c hc => by rw [rset_ne (by omega)]; exact h.2.2 c hc⟩
  rw [rset_eq, h.2.1 i]
  by_cases e : i = j
  · rw [if_pos e, if_pos (by omega), e, hv]
  · rw [if_neg e]
    by_cases e2 : i < j
    · rw [if_pos e2, if_pos (by omega)]
    · rw [if_neg e2, if_neg (by omega)]
theorem i_forget {R : Nat → Nat → Nat} {F : Nat → Nat → Int32} : Run n_X6_forgetPlans 98 0 (ini n_X6_forgetPlans [.ref 0]) [] (98, R, F) (Ret none (98, R, hset (hset F 0 9 (nI 0)) 0 10 (nI 0))) := by
  have hT : mT n_X6_forgetPlans = tb_X6_forgetPlans := rfl
  refine v_p hT rfl rfl ?_
  refine g_puti hT rfl rfl (Nat.le_of_ble_eq_true rfl) (fun _ => Or.inl rfl) ?_
  refine v_p hT rfl rfl ?_
  refine g_puti hT rfl rfl (Nat.le_of_ble_eq_true rfl) (fun _ => Or.inl rfl) ?_
  exact g_vret hT rfl rfl ⟨rfl, rfl⟩
set_option maxHeartbeats 1000000 in
theorem i_class {R0 : Nat → Nat → Nat} {F0 : Nat → Nat → Int32} (hz : Zr 0 R0 F0) :
    ∃ R2 F2, Run n_X6_init 1 0 (ini n_X6_init [.ref 0]) [] (1, R0, F0) (Ret none (98, R2, F2)) ∧ G6 R0 98 9 R2 ∧ (F2 0 9 = nI 0 ∧ F2 0 10 = nI 0) ∧ bkW F2 1 ∧ (∀ c i, c = 1 ∨ c = 2 ∨ c = 19 ∨ c = 75 ∨ c = 96 → F2 c i = 0) ∧ ∀ c, 98 ≤ c → F2 c = F0 c := by
  have hT : mT n_X6_init = tb_X6_init := rfl
  have z0 : Zr 1 R0 F0 := Zr_s hz (by omega)
  have g0 : G6 R0 1 0 R0 := ⟨fun c i h1 h2 => by omega, fun i => by rw [if_neg (by omega)]; exact hz.1 0 i (by omega) (by omega), fun _ _ => rfl⟩
  -- book
  obtain ⟨Ra, Fa, ra, a1, a2, a3, a4⟩ := i_book (b := 1) (Or.inl rfl) z0
  have ma := mk_book (Or.inl rfl) z0 a1 a2
  have ga := g6_set (v := 2) (g6_mk g0 (by omega) ma (by omega)) (by omega) rfl
  have za := Zr_r (i := 0) (j := 2) (zr_mk z0 ma (fun c hc => a4 c (by omega) (by omega)) (by omega)) (show 0 < 1 + 9 by omega)
  -- trial
  obtain ⟨Rb, Fb, rb, b1, b2, b3, b4⟩ := i_book (b := 10) (Or.inr (Or.inl rfl)) za
  have mb := mk_book (Or.inr (Or.inl rfl)) za b1 b2
  have gb := g6_set (v := 11) (g6_mk ga (by omega) mb (by omega)) (by omega) rfl
  have zb := Zr_r (i := 1) (j := 11) (zr_mk za mb (fun c hc => b4 c (by omega) (by omega)) (by omega)) (show 0 < 10 + 9 by omega)
  -- states
  obtain ⟨Rc, Fc, rc, mc, c4⟩ := i_states zb
  have gc := g6_set (v := 20) (g6_mk gb (by omega) mc (by omega)) (by omega) rfl
  have zc := Zr_r (i := 2) (j := 20) (zr_mk zb mc (fun c hc => c4 c (by omega)) (by omega)) (show 0 < 75 by omega)
  -- script
  obtain ⟨Rd, rd, md⟩ := i_script zc
  have gd := g6_set (v := 76) (g6_mk gc (by omega) md (by omega)) (by omega) rfl
  have zd := Zr_r (i := 3) (j := 76) (zr_mk zc md (fun c hc => rfl) (by omega)) (show 0 < 80 by omega)
  -- lines
  obtain ⟨Re, re, me⟩ := i_lines (b := 81) (Or.inl rfl) (Zr_s zd (by omega))
  have ze0 := zr_mk (Zr_s zd (show 80 ≤ 81 by omega)) me (fun c hc => rfl) (by omega)
  have ze := Zr_r (i := 0) (j := 82) ze0 (show 80 < 81 + 3 by omega)
  obtain ⟨Rf, rf, mf⟩ := i_lines (b := 84) (Or.inr rfl) ze
  have zf0 := zr_mk ze mf (fun c hc => rfl) (by omega)
  have zf1 := Zr_r (i := 1) (j := 85) zf0 (show 80 < 84 + 3 by omega)
  have mef : Mk 80 87 (rset Rd 0 3 76) (rset Rf 80 1 85) := by
    refine ⟨fun c i q1 q2 => ?_, fun c q => by rw [rset_ne (by omega), mf.2 c (by omega), rset_ne (by omega), me.2 c (by omega)]⟩
    rcases (show c = 80 ∨ (81 ≤ c ∧ c < 84) ∨ 84 ≤ c by omega) with e | e | e
    · subst e
      rw [rset_eq, mf.2 80 (by omega), rset_eq, me.2 80 (by omega), zd.1 80 i (by omega) (by omega)]
      rcases (show i = 0 ∨ i = 1 ∨ 2 ≤ i by omega) with e | e | e
      · subst e; rfl
      · subst e; rfl
      · rw [if_neg (by omega), if_neg (by omega)]
        obtain ⟨j, rfl⟩ : ∃ j, i = j + 2 := ⟨i - 2, by omega⟩
        rfl
    · rw [rset_ne (by omega), mf.2 c (by omega), rset_ne (by omega)]
      exact me.1 c i e.1 e.2
    · rw [rset_ne (by omega)]
      exact mf.1 c i e q2
  have gf := g6_set (v := 81) (g6_mk gd (by omega) mef (by omega)) (by omega) rfl
  have zf := Zr_r (i := 4) (j := 81) zf1 (show 0 < 84 + 3 by omega)
  -- choice
  obtain ⟨Rg, rg, mg⟩ := i_choice zf
  have gg := g6_set (v := 88) (g6_mk gf (by omega) mg (by omega)) (by omega) rfl
  have zg := Zr_r (i := 5) (j := 88) (zr_mk zf mg (fun c hc => rfl) (by omega)) (show 0 < 89 by omega)
  -- layout
  obtain ⟨Rh, rh, mh⟩ := i_layout zg
  have gh := g6_set (v := 90) (g6_mk gg (by omega) mh (by omega)) (by omega) rfl
  have zh := Zr_r (i := 6) (j := 90) (zr_mk zg mh (fun c hc => rfl) (by omega)) (show 0 < 96 by omega)
  -- refused, seeded
  have gi := g6_set (v := 97) (g6_mk gh (by omega) (mk_one zh (by omega) (by omega) (by decide)) (by omega)) (by omega) rfl
  have zi := Zr_r (i := 7) (j := 97) (Zr_s zh (show 96 ≤ 97 by omega)) (show 0 < 97 by omega)
  have gj := g6_set (v := 98) (g6_mk gi (by omega) (mk_one zi (by omega) (by omega) (by decide)) (by omega)) (by omega) rfl
  refine ⟨_, hset (hset Fc 0 9 (nI 0)) 0 10 (nI 0), ?_, gj, ⟨by rw [hs_s, pk_un (by omega), hs_s, pk_us], by rw [hs_s, pk_us]⟩, ?_, ?_, ?_⟩
  · refine v_p hT rfl rfl ?_
    refine g_oin hT rfl (Nat.le_of_ble_eq_true rfl) ?_
    refine v_p hT rfl rfl ?_
    refine g_new hT rfl rfl (by decide) (by decide +kernel) z0 (by omega) ?_
    refine v_p hT rfl rfl ?_
    refine g_icall hT rfl (by omega) rfl (Nat.le_of_ble_eq_true rfl) (Nat.le_of_ble_eq_true rfl) (by decide) (by decide +kernel) (by decide +kernel) ra ?_
    refine g_putr hT rfl rfl (by omega) ?_
    refine v_p hT rfl rfl ?_
    refine g_new hT rfl rfl (by decide) (by decide +kernel) za (by omega) ?_
    refine v_p hT rfl rfl ?_
    refine g_icall hT rfl (by omega) rfl (Nat.le_of_ble_eq_true rfl) (Nat.le_of_ble_eq_true rfl) (by decide) (by decide +kernel) (by decide +kernel) rb ?_
    refine g_putr hT rfl rfl (by omega) ?_
    refine v_p hT rfl rfl ?_
    refine g_new hT rfl rfl (by decide) (by decide +kernel) zb (by omega) ?_
    refine v_p hT rfl rfl ?_
    refine g_icall hT rfl (by omega) rfl (Nat.le_of_ble_eq_true rfl) (Nat.le_of_ble_eq_true rfl) (by decide) (by decide +kernel) (by decide +kernel) rc ?_
    refine g_putr hT rfl rfl (by omega) ?_
    refine v_p hT rfl rfl ?_
    refine g_new hT rfl rfl (by decide) (by decide +kernel) zc (by omega) ?_
    refine v_p hT rfl rfl ?_
    refine g_icall hT rfl (by omega) rfl (Nat.le_of_ble_eq_true rfl) (Nat.le_of_ble_eq_true rfl) (by decide) (by decide +kernel) (by decide +kernel) rd ?_
    refine g_putr hT rfl rfl (by omega) ?_
    refine v_p hT rfl rfl ?_
    refine g_newa hT rfl (Or.inr rfl) (show kd 80 = (5, 2) from rfl) (by decide) (by decide +kernel) zd (by omega) ?_
    refine v_p hT rfl rfl ?_
    refine g_new hT rfl rfl (by decide) (by decide +kernel) (Zr_s zd (show 80 ≤ 81 by omega)) (by omega) ?_
    refine v_p hT rfl rfl ?_
    refine g_icall hT rfl (by omega) rfl (Nat.le_of_ble_eq_true rfl) (Nat.le_of_ble_eq_true rfl) (by decide) (by decide +kernel) (by decide +kernel) re ?_
    refine g_rst hT rfl rfl (Or.inr ⟨rfl, rfl⟩) (show 80 < 84 by omega) (show 81 < 84 by omega) (by decide) (by decide) ?_
    show Run n_X6_init 1 63 _ _ (84, rset Re 80 0 82, Fc) _
    refine v_p hT rfl rfl ?_
    refine g_new hT rfl rfl (by decide) (by decide +kernel) ze (by omega) ?_
    refine v_p hT rfl rfl ?_
    refine g_icall hT rfl (by omega) rfl (Nat.le_of_ble_eq_true rfl) (Nat.le_of_ble_eq_true rfl) (by decide) (by decide +kernel) (by decide +kernel) rf ?_
    refine g_rst hT rfl rfl (Or.inr ⟨rfl, rfl⟩) (show 80 < 87 by omega) (show 84 < 87 by omega) (by decide) (by decide) ?_
    show Run n_X6_init 1 73 _ _ (87, rset Rf 80 1 85, Fc) _
    refine g_putr hT rfl rfl (by omega) ?_
    refine v_p hT rfl rfl ?_
    refine g_new hT rfl rfl (by decide) (by decide +kernel) zf (by omega) ?_
    refine v_p hT rfl rfl ?_
    refine g_icall hT rfl (by omega) rfl (Nat.le_of_ble_eq_true rfl) (Nat.le_of_ble_eq_true rfl) (by decide) (by decide +kernel) (by decide +kernel) rg ?_
    refine g_putr hT rfl rfl (by omega) ?_
    refine v_p hT rfl rfl ?_
    refine g_new hT rfl rfl (by decide) (by decide +kernel) zg (by omega) ?_
    refine v_p hT rfl rfl ?_
    refine g_icall hT rfl (by omega) rfl (Nat.le_of_ble_eq_true rfl) (Nat.le_of_ble_eq_true rfl) (by decide) (by decide +kernel) (by decide +kernel) rh ?_
    refine g_putr hT rfl rfl (by omega) ?_
    refine v_p hT rfl rfl ?_
    refine g_newa hT rfl (Or.inl rfl) (show kd 96 = (1, 3) from rfl) (by decide) (by decide +kernel) zh (by omega) ?_
    refine g_putr hT rfl rfl (by omega) ?_
    refine v_p hT rfl rfl ?_
    refine g_newa hT rfl (Or.inl rfl) (show kd 97 = (1, 12) from rfl) (by decide) (by decide +kernel) zi (by omega) ?_
    refine g_putr hT rfl rfl (by omega) ?_
    refine v_p hT rfl rfl ?_
    refine g_call hT [] rfl rfl rfl (Nat.le_of_ble_eq_true rfl) rfl rfl (Nat.le_of_ble_eq_true rfl) (Nat.le_of_ble_eq_true rfl) i_forget ?_
    exact g_vret hT rfl rfl ⟨rfl, rfl⟩
  · obtain ⟨w1, w2, w3, w4, w5⟩ := a3
    have e5 : Fc 5 = Fa 5 := by rw [c4 5 (by omega), b4 5 (by omega) (by omega)]
    have e6 : Fc 6 = Fa 6 := by rw [c4 6 (by omega), b4 6 (by omega) (by omega)]
    refine ⟨?_, ?_, ?_, ?_, ?_⟩
    · rw [hset_ne (by omega), hset_ne (by omega), e5]; exact w1
    · rw [hset_ne (by omega), hset_ne (by omega), e5]; exact w2
    · rw [hset_ne (by omega), hset_ne (by omega), e6]; exact w3
    · rw [hset_ne (by omega), hset_ne (by omega), e6]; exact w4
    · rw [hset_ne (by omega), hset_ne (by omega), e6]; exact w5
  · intro c i hc
    rw [hset_ne (by omega), hset_ne (by omega), c4 c (by omega), b4 c (by omega) (by omega), a4 c (by omega) (by omega)]
    exact hz.2 c i (by omega) (by omega)
  · intro c hc
    rw [hset_ne (by omega), hset_ne (by omega), c4 c (by omega), b4 c (by omega) (by omega), a4 c (by omega) (by omega)]
