/-! CONSTRUCTORS: the reference; the start. -/
theorem i_model {R : Nat → Nat → Nat} {F : Nat → Nat → Int32} (hz : Zr 98 R F) :
    ∃ R2 F2, Run n_X7_init 99 0 (ini n_X7_init [.ref 98]) [] (99, R, F) (Ret none (110, R2, F2)) ∧ Mk 98 110 R R2 ∧ (F2 100 0 = nI 20 ∧ F2 100 1 = nI 20 ∧ F2 100 2 = nI 8 ∧ F2 100 3 = nI 2 ∧ F2 100 4 = nI 1) ∧ (∀ i, 5 ≤ i → F2 100 i = 0) ∧ ∀ c, c ≠ 100 → F2 c = F c := by
  have hT : mT n_X7_init = tb_X7_init := rfl
  refine ⟨rset (rset (rset (rset (rset (rset (rset (rset (rset (rset (rset R 98 0 100) 98 1 101) 98 2 102) 98 5 103) 98 7 104) 98 8 105) 98 9 106) 98 10 107) 98 13 108) 98 14 109) 98 15 110, hset (hset (hset (hset (hset F 100 0 (nI 20)) 100 1 (nI 20)) 100 2 (nI 8)) 100 3 (nI 2)) 100 4 (nI 1), ?_, ⟨fun c i q1 q2 => ?_, fun c q => by rw [rset_ne (by omega), rset_ne (by omega), rset_ne (by omega), rset_ne (by omega), rset_ne (by omega), rset_ne (by omega), rset_ne (by omega), rset_ne (by omega), rset_ne (by omega), rset_ne (by omega), rset_ne (by omega)]⟩, ⟨?_, ?_, ?_, ?_, ?_⟩, ?_, ?_⟩
  · have z1 : Zr 99 R F := Zr_s hz (by omega)
    have z2 := Zr_r (i := 0) (j := 100) (Zr_s z1 (show 99 ≤ 100 by omega)) (show 98 < 100 by omega)
    have z3 := Zr_r (i := 1) (j := 101) (Zr_s z2 (show 100 ≤ 101 by omega)) (show 98 < 101 by omega)
    have z4 := Zr_r (i := 2) (j := 102) (Zr_s z3 (show 101 ≤ 102 by omega)) (show 98 < 102 by omega)
    have z5 := Zr_r (i := 5) (j := 103) (Zr_s z4 (show 102 ≤ 103 by omega)) (show 98 < 103 by omega)
    have z6 := Zr_r (i := 7) (j := 104) (Zr_s z5 (show 103 ≤ 104 by omega)) (show 98 < 104 by omega)
    have z7 := Zr_r (i := 8) (j := 105) (Zr_s z6 (show 104 ≤ 105 by omega)) (show 98 < 105 by omega)
    have z8 := Zr_r (i := 9) (j := 106) (Zr_s z7 (show 105 ≤ 106 by omega)) (show 98 < 106 by omega)
    have z9 := Zr_r (i := 10) (j := 107) (Zr_s z8 (show 106 ≤ 107 by omega)) (show 98 < 107 by omega)
    have za := Zr_r (i := 13) (j := 108) (Zr_s z9 (show 107 ≤ 108 by omega)) (show 98 < 108 by omega)
    have zb := Zr_r (i := 14) (j := 109) (Zr_s za (show 108 ≤ 109 by omega)) (show 98 < 109 by omega)
    refine v_p hT rfl rfl ?_
    refine g_oin hT rfl (Nat.le_of_ble_eq_true rfl) ?_
    refine v_p hT rfl rfl ?_
    refine g_newa hT rfl (Or.inl rfl) (show kd 99 = (1, 3) from rfl) (by decide) (by decide +kernel) z1 (by omega) ?_
    refine g_putr hT rfl rfl (by omega) ?_
    refine v_p hT rfl rfl ?_
    refine g_newa hT rfl (Or.inl rfl) (show kd 100 = (1, 260) from rfl) (by decide) (by decide +kernel) z2 (by omega) ?_
    refine g_putr hT rfl rfl (by omega) ?_
    refine v_p hT rfl rfl ?_
    refine g_newa hT rfl (Or.inl rfl) (show kd 101 = (1, 1820) from rfl) (by decide) (by decide +kernel) z3 (by omega) ?_
    refine g_putr hT rfl rfl (by omega) ?_
    refine v_p hT rfl rfl ?_
    refine g_newa hT rfl (Or.inl rfl) (show kd 102 = (1, 12) from rfl) (by decide) (by decide +kernel) z4 (by omega) ?_
    refine g_putr hT rfl rfl (by omega) ?_
    refine v_p hT rfl rfl ?_
    refine g_newa hT rfl (Or.inl rfl) (show kd 103 = (2, 122) from rfl) (by decide) (by decide +kernel) z5 (by omega) ?_
    refine g_putr hT rfl rfl (by omega) ?_
    refine v_p hT rfl rfl ?_
    refine g_newa hT rfl (Or.inl rfl) (show kd 104 = (1, 18) from rfl) (by decide) (by decide +kernel) z6 (by omega) ?_
    refine g_putr hT rfl rfl (by omega) ?_
    refine v_p hT rfl rfl ?_
    refine g_newa hT rfl (Or.inl rfl) (show kd 105 = (1, 3721) from rfl) (by decide) (by decide +kernel) z7 (by omega) ?_
    refine g_putr hT rfl rfl (by omega) ?_
    refine v_p hT rfl rfl ?_
    refine g_newa hT rfl (Or.inl rfl) (show kd 106 = (1, 3721) from rfl) (by decide) (by decide +kernel) z8 (by omega) ?_
    refine g_putr hT rfl rfl (by omega) ?_
    refine v_p hT rfl rfl ?_
    refine g_newa hT rfl (Or.inl rfl) (show kd 107 = (1, 121) from rfl) (by decide) (by decide +kernel) z9 (by omega) ?_
    refine g_putr hT rfl rfl (by omega) ?_
    refine v_p hT rfl rfl ?_
    refine g_newa hT rfl (Or.inl rfl) (show kd 108 = (1, 121) from rfl) (by decide) (by decide +kernel) za (by omega) ?_
    refine g_putr hT rfl rfl (by omega) ?_
    refine v_p hT rfl rfl ?_
    refine g_newa hT rfl (Or.inl rfl) (show kd 109 = (1, 120) from rfl) (by decide) (by decide +kernel) zb (by omega) ?_
    refine g_putr hT rfl rfl (by omega) ?_
    refine v_p hT rfl rfl ?_
    refine g_getr (j := 100) hT rfl rfl (Nat.le_of_ble_eq_true rfl) rfl ?_
    refine v_p hT rfl rfl ?_
    refine g_ast hT rfl (show kd 100 = (1, 260) from rfl) (Nat.le_of_ble_eq_true rfl) (by decide) (by decide) ?_
    refine v_p hT rfl rfl ?_
    refine g_getr (j := 100) hT rfl rfl (Nat.le_of_ble_eq_true rfl) rfl ?_
    refine v_p hT rfl rfl ?_
    refine g_ast hT rfl (show kd 100 = (1, 260) from rfl) (Nat.le_of_ble_eq_true rfl) (by decide) (by decide) ?_
    refine v_p hT rfl rfl ?_
    refine g_getr (j := 100) hT rfl rfl (Nat.le_of_ble_eq_true rfl) rfl ?_
    refine v_p hT rfl rfl ?_
    refine g_ast hT rfl (show kd 100 = (1, 260) from rfl) (Nat.le_of_ble_eq_true rfl) (by decide) (by decide) ?_
    refine v_p hT rfl rfl ?_
    refine g_getr (j := 100) hT rfl rfl (Nat.le_of_ble_eq_true rfl) rfl ?_
    refine v_p hT rfl rfl ?_
    refine g_ast hT rfl (show kd 100 = (1, 260) from rfl) (Nat.le_of_ble_eq_true rfl) (by decide) (by decide) ?_
    refine v_p hT rfl rfl ?_
    refine g_getr (j := 100) hT rfl rfl (Nat.le_of_ble_eq_true rfl) rfl ?_
    refine v_p hT rfl rfl ?_
    refine g_ast hT rfl (show kd 100 = (1, 260) from rfl) (Nat.le_of_ble_eq_true rfl) (by decide) (by decide) ?_
    exact g_vret hT rfl rfl ⟨rfl, rfl⟩
  · by_cases hc : c = 98
    · subst hc
      simp only [rset_eq, hz.1 98 i (by omega) (by omega)]
      rcases (show i = 0 ∨ i = 1 ∨ i = 2 ∨ i = 3 ∨ i = 4 ∨ i = 5 ∨ i = 6 ∨ i = 7 ∨ i = 8 ∨ i = 9 ∨ i = 10 ∨ i = 11 ∨ i = 12 ∨ i = 13 ∨ i = 14 ∨ i = 15 ∨ 16 ≤ i by omega) with e | e | e | e | e | e | e | e | e | e | e | e | e | e | e | e | e
      iterate 16 (subst e; rfl)
      rw [if_neg (by omega), if_neg (by omega), if_neg (by omega), if_neg (by omega), if_neg (by omega), if_neg (by omega), if_neg (by omega), if_neg (by omega), if_neg (by omega), if_neg (by omega), if_neg (by omega)]
      obtain ⟨j, rfl⟩ : ∃ j, i = j + 16 := ⟨i - 16, by omega⟩
      rfl
    · rw [rset_ne hc, rset_ne hc, rset_ne hc, rset_ne hc, rset_ne hc, rset_ne hc, rset_ne hc, rset_ne hc, rset_ne hc, rset_ne hc, rset_ne hc, hz.1 c i (by omega) (by omega)]
      exact (rr_no i (by omega) (by omega) (by simp; omega)).symm
  · rw [hs_s, pk_un (by omega), hs_s, pk_un (by omega), hs_s, pk_un (by omega), hs_s, pk_un (by omega), hs_s, pk_us]
  · rw [hs_s, pk_un (by omega), hs_s, pk_un (by omega), hs_s, pk_un (by omega), hs_s, pk_us]
  · rw [hs_s, pk_un (by omega), hs_s, pk_un (by omega), hs_s, pk_us]
  · rw [hs_s, pk_un (by omega), hs_s, pk_us]
  · rw [hs_s, pk_us]
  · intro i hi
    rw [hs_s, pk_un (by omega), hs_s, pk_un (by omega), hs_s, pk_un (by omega), hs_s, pk_un (by omega), hs_s, pk_un (by omega)]
    exact hz.2 100 i (by omega) (by omega)
  · intro c hc
    rw [hset_ne hc, hset_ne hc, hset_ne hc, hset_ne hc, hset_ne hc]
/-- a new object -/
def B0 : BK := (fun _ => 0, fun _ _ => 0, fun _ _ _ => 0, fun _ => 20, fun i => if i = 0 then 8 else if i = 1 then 2 else 1, 0, fun _ _ => 0)
def S0 : ST := (B0, (0, fun _ => B0), (0, fun _ => 0), fun _ => 0)
theorem VS_0 : VS S0 := by
  refine ⟨⟨⟨fun _ _ => Nat.zero_le _, fun s p _ hp => absurd hp (Nat.not_lt_zero _), fun _ _ => ⟨show 9 ≤ 20 by decide, show 20 ≤ 40 by decide⟩, ⟨⟨by decide, by decide⟩, ⟨by decide, by decide⟩, by decide⟩, Nat.zero_le _, fun i hi => absurd hi (Nat.not_lt_zero _)⟩, fun s _ => Nat.zero_le _⟩, ⟨Nat.zero_le _, fun i hi => absurd hi (Nat.not_lt_zero _)⟩, Nat.zero_le _, fun k hk => absurd hk (Nat.not_lt_zero _)⟩
theorem kf0_ok : kfOk kf0 := by
  refine ⟨fun i hi => ⟨21 + 9 * i, by unfold kf0; rw [if_pos hi]; omega, st_bk hi, by omega⟩, fun i j hi hj e => ?_⟩
  unfold kf0 at e
  rw [if_pos hi, if_pos hj] at e
  omega
theorem s_or {s : Nat} (h : s < 2) : s = 0 ∨ s = 1 := by omega
theorem RepC_0 {F : Nat → Nat → Int32} (h0 : F 0 9 = nI 0) (h1 : F 0 10 = nI 0) (hw : bkW F 1) (hz : ∀ c i, c = 1 ∨ c = 2 ∨ c = 19 ∨ c = 75 ∨ c = 96 → F c i = 0) (hf1 : F 1001 = sf1) (hf2 : F 1002 = sf2) : RepC kf0 F S0 := by
  obtain ⟨w1, w2, w3, w4, w5⟩ := hw
  refine ⟨kf0_ok, ⟨fun s _ => hz 2 s (by omega), fun s p _ hp => absurd hp (Nat.not_lt_zero _), fun s hs => ?_, fun i hi => ?_, hz 1 8 (by omega), fun i hi => absurd hi (Nat.not_lt_zero _)⟩, ⟨hz 19 1 (by omega), fun i hi => absurd hi (Nat.not_lt_zero _)⟩, ⟨hz 75 1 (by omega), fun k hk => absurd hk (Nat.not_lt_zero _)⟩, fun i _ => hz 96 i (by omega), ⟨hf1, hf2⟩, false, false, h0, h1, fun z => (by cases z), fun z => (by cases z)⟩
  · rcases s_or hs with e | e <;> subst e
    · exact w1
    · exact w2
  · rcases (show i = 0 ∨ i = 1 ∨ i = 2 by omega) with e | e | e <;> subst e
    · exact w3
    · exact w4
    · exact w5
theorem RepM_0 {F : Nat → Nat → Int32} (hw : F 100 0 = nI 20 ∧ F 100 1 = nI 20 ∧ F 100 2 = nI 8 ∧ F 100 3 = nI 2 ∧ F 100 4 = nI 1) (hn : ∀ i, 5 ≤ i → F 100 i = 0) (hz : ∀ c i, c = 98 ∨ c = 99 → F c i = 0) : RepM F S0 := by
  obtain ⟨w1, w2, w3, w4, w5⟩ := hw
  refine ⟨⟨fun s hs => ?_, fun i hi => ?_, fun s _ => hn (5 + s) (by omega), hn 7 (by omega), fun s p _ hp => absurd hp (Nat.not_lt_zero _), fun i hi => absurd hi (Nat.not_lt_zero _)⟩, ⟨hz 98 3 (by omega), fun i hi => absurd hi (Nat.not_lt_zero _)⟩, ⟨hz 98 16 (by omega), fun k hk => absurd hk (Nat.not_lt_zero _)⟩, fun i _ => hz 99 i (by omega), false, hz 98 4 (by omega), fun z => (by cases z)⟩
  · rcases s_or hs with e | e <;> subst e
    · exact w1
    · exact w2
  · rcases (show i = 0 ∨ i = 1 ∨ i = 2 by omega) with e | e | e <;> subst e
    · exact w3
    · exact w4
    · exact w5
theorem law_start (L : Nat) (xs : Nat → Int32) : ∃ F, RepC kf0 F S0 ∧ RepM F S0 ∧ F 1000 = xs ∧ ∀ Φ, Run n_L_law 0 20 [some (.ref 1000), some (.ref 0), some (.ref 98), some (.int (nI 0))] [.ref 1000, .int (nI 0)] (HH L kf0 F) Φ → Run n_L_law 0 0 (ini n_L_law [.ref 1000]) [] (hp0 L xs) Φ := by
  have hT : mT n_L_law = tb_L_law := rfl
  let R0 : Nat → Nat → Nat := fun c _ => if c = 1000 then L else if c = 1001 then 3 else if c = 1002 then 3 else 0
  let F0 : Nat → Nat → Int32 := fun c => if c = 1000 then xs else if c = 1001 then sf1 else if c = 1002 then sf2 else fun _ => 0
  have eR : ∀ c i, R0 c i = if c = 1000 then L else if c = 1001 then 3 else if c = 1002 then 3 else 0 := fun _ _ => rfl
  have eF : ∀ c, F0 c = if c = 1000 then xs else if c = 1001 then sf1 else if c = 1002 then sf2 else fun _ => 0 := fun _ => rfl
  have hz : Zr 0 R0 F0 := ⟨fun c i _ h => by rw [eR c i, if_neg (by omega), if_neg (by omega), if_neg (by omega)], fun c i _ h => by rw [eF, if_neg (by omega), if_neg (by omega), if_neg (by omega)]⟩
  obtain ⟨R1, F1, r1, a1, a2, a3, a4, a5⟩ := i_class hz
  have hz1 : Zr 98 R1 F1 := ⟨fun c i h1 h2 => by rw [a1.2.2 c h1]; exact hz.1 c i (by omega) h2, fun c i h1 h2 => by rw [a5 c h1]; exact hz.2 c i (by omega) h2⟩
  obtain ⟨R2, F2, r2, b1, b2, b3, b4⟩ := i_model hz1
  have hR : R2 = RR L kf0 := by
    funext c i
    have hlow : c < 1000 → RR L kf0 c i = RR 0 kf0 c i := fun h => by
      unfold RR
      by_cases h20 : c = 20
      · rw [if_pos h20, if_pos h20]
      · rw [if_neg h20, if_neg h20, if_neg (by omega), if_neg (by omega), if_neg (by omega), if_neg (by omega)]
    rcases (show c = 0 ∨ (1 ≤ c ∧ c < 98) ∨ (98 ≤ c ∧ c < 110) ∨ 110 ≤ c by omega) with e | e | e | e
    · subst e
      rw [hlow (by omega), b1.2 0 (by omega), a1.2.1 i]
      by_cases h9 : i < 9
      · rw [if_pos h9]
      · rw [if_neg h9]
        obtain ⟨j, rfl⟩ : ∃ j, i = j + 9 := ⟨i - 9, by omega⟩
        rfl
    · rw [hlow (by omega), b1.2 c (by omega)]
      exact a1.1 c i e.1 e.2
    · rw [hlow (by omega)]
      exact b1.1 c i e.1 e.2
    · rw [b1.2 c (by omega), a1.2.2 c (by omega), eR c i]
      unfold RR
      rw [if_neg (by omega : ¬ c = 20)]
      by_cases h0 : c = 1000
      · rw [if_pos h0, if_pos h0]
      · rw [if_neg h0, if_neg h0]
        by_cases h1 : c = 1001
        · rw [if_pos h1, if_pos h1]
        · rw [if_neg h1, if_neg h1]
          by_cases h2 : c = 1002
          · rw [if_pos h2, if_pos h2]
          · rw [if_neg h2, if_neg h2]
            have hl : rts.length = 110 := by decide
            rw [show rts.getD c [] = [] by rw [List.getD_eq_getElem?_getD, List.getElem?_eq_none (by omega)]; rfl]
            rfl
  subst hR
  have c1000 : ∀ c, 1000 ≤ c → F2 c = F0 c := fun c hc => by rw [b4 c (by omega), a5 c (by omega)]
  refine ⟨F2, RepC_0 (by rw [b4 0 (by omega)]; exact a2.1) (by rw [b4 0 (by omega)]; exact a2.2) ?_ (fun c i hc => by rw [b4 c (by omega)]; exact a4 c i hc) (by rw [c1000 1001 (by omega)]; rfl) (by rw [c1000 1002 (by omega)]; rfl), RepM_0 b2 b3 (fun c i hc => by rw [b4 c (by omega)]; exact hz1.2 c i (by omega) (by omega)), by rw [c1000 1000 (by omega)]; rfl, fun Φ hΦ => ?_⟩
  · obtain ⟨w1, w2, w3, w4, w5⟩ := a3
    exact ⟨by rw [b4 _ (by omega)]; exact w1, by rw [b4 _ (by omega)]; exact w2, by rw [b4 _ (by omega)]; exact w3, by rw [b4 _ (by omega)]; exact w4, by rw [b4 _ (by omega)]; exact w5⟩
  · show Run n_L_law 0 0 _ _ (0, R0, F0) Φ
    refine g_new hT rfl rfl (by decide) (by decide +kernel) hz (by omega) ?_
    refine v_p hT rfl rfl ?_
    refine g_icall hT rfl (by omega) rfl (Nat.le_of_ble_eq_true rfl) (Nat.le_of_ble_eq_true rfl) (by decide) (by decide +kernel) (by decide +kernel) r1 ?_
    refine v_p hT rfl rfl ?_
    refine g_new hT rfl rfl (by decide) (by decide +kernel) hz1 (by omega) ?_
    refine v_p hT rfl rfl ?_
    refine g_icall hT rfl (by omega) rfl (Nat.le_of_ble_eq_true rfl) (Nat.le_of_ble_eq_true rfl) (by decide) (by decide +kernel) (by decide +kernel) r2 ?_
    refine v_p hT rfl rfl ?_
    exact hΦ
