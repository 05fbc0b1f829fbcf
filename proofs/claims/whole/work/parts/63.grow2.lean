/-! CONSTRUCTORS: the others of the class. -/
def kf0 (i : Nat) : Nat := if i < 6 then 22 + 9 * i else 0
/-- cells b .. e - 1 are made: their places hold what they should, the others stand -/
def Mk (b e : Nat) (R R2 : Nat → Nat → Nat) : Prop := (∀ c i, b ≤ c → c < e → R2 c i = RR 0 kf0 c i) ∧ ∀ c, c < b ∨ e ≤ c → R2 c = R c
theorem rts_no : ∀ c, c < 110 → ¬ c ∈ [0, 1, 10, 19, 21, 30, 39, 48, 57, 66, 75, 80, 81, 84, 87, 89, 98] → rts.getD c [] = [] := by decide +kernel
theorem rr_no {c : Nat} (i : Nat) (hc : c < 110) (h20 : c ≠ 20) (hn : ¬ c ∈ [0, 1, 10, 19, 21, 30, 39, 48, 57, 66, 75, 80, 81, 84, 87, 89, 98]) : RR 0 kf0 c i = 0 := by
  unfold RR
  rw [if_neg h20, if_neg (by omega), if_neg (by omega), if_neg (by omega), rts_no c hc hn]
  rfl
theorem rr_bk {b : Nat} (hb : isBk b) (i : Nat) : RR 0 kf0 b i = if i < 8 then b + 2 + i else 0 := by
  by_cases h : i < 8
  · rw [if_pos h, bk_rr hb 0 kf0 i h]
    omega
  · rw [if_neg h]
    obtain ⟨j, rfl⟩ : ∃ j, i = j + 8 := ⟨i - 8, by omega⟩
    rcases hb with e | e | e | e | e | e | e | e <;> subst e <;> rfl
theorem bk_in {b c : Nat} (hb : isBk b) (h1 : b < c) (h2 : c < b + 9) : c ≠ 20 ∧ c < 110 ∧ ¬ c ∈ [0, 1, 10, 19, 21, 30, 39, 48, 57, 66, 75, 80, 81, 84, 87, 89, 98] := by
  obtain ⟨j, rfl⟩ : ∃ j, c = b + 1 + j := ⟨c - b - 1, by omega⟩
  have hj : j < 8 := by omega
  have key : ∀ b ∈ [1, 10, 21, 30, 39, 48, 57, 66], ∀ j, j < 8 → b + 1 + j ≠ 20 ∧ b + 1 + j < 110 ∧ ¬ (b + 1 + j) ∈ [0, 1, 10, 19, 21, 30, 39, 48, 57, 66, 75, 80, 81, 84, 87, 89, 98] := by decide +kernel
  exact key b (by rcases hb with e | e | e | e | e | e | e | e <;> subst e <;> decide) j hj
theorem mk_book {b : Nat} {R R2 : Nat → Nat → Nat} {F : Nat → Nat → Int32} (hb : isBk b) (hz : Zr b R F) (h1 : ∀ i, R2 b i = if i < 8 then b + 2 + i else 0) (h2 : ∀ c, c ≠ b → R2 c = R c) : Mk b (b + 9) R R2 := by
  refine ⟨fun c i q1 q2 => ?_, fun c q => h2 c (by omega)⟩
  by_cases hc : c = b
  · subst hc
    rw [h1, rr_bk hb]
  · obtain ⟨k1, k2, k3⟩ := bk_in hb (show b < c by omega) q2
    rw [h2 c hc, hz.1 c i q1 (by omega), rr_no i k2 k1 k3]
theorem mk_trans {b m e : Nat} {R R2 R3 : Nat → Nat → Nat} (h1 : Mk b m R R2) (h2 : Mk m e R2 R3) (hb : b ≤ m) (he : m ≤ e) : Mk b e R R3 := by
  refine ⟨fun c i q1 q2 => ?_, fun c q => by rw [h2.2 c (by omega), h1.2 c (by omega)]⟩
  by_cases hc : c < m
  · rw [h2.2 c (Or.inl hc)]
    exact h1.1 c i q1 hc
  · exact h2.1 c i (by omega) q2
theorem zr_mk {b e : Nat} {R R2 : Nat → Nat → Nat} {F F2 : Nat → Nat → Int32} (hz : Zr b R F) (h : Mk b e R R2) (hF : ∀ c, e ≤ c → F2 c = F c) (he : b ≤ e) : Zr e R2 F2 := ⟨fun c i h1 h2 => by rw [h.2 c (Or.inr h1)]; exact hz.1 c i (by omega) h2, fun c i h1 h2 => by rw [hF c h1]; exact hz.2 c i (by omega) h2⟩
theorem i_choice {R : Nat → Nat → Nat} {F : Nat → Nat → Int32} (hz : Zr 87 R F) :
    ∃ R2, Run n_X1_init 88 0 (ini n_X1_init [.ref 87]) [] (88, R, F) (Ret none (89, R2, F)) ∧ Mk 87 89 R R2 := by
  have hT : mT n_X1_init = tb_X1_init := rfl
  refine ⟨rset R 87 0 89, ?_, fun c i q1 q2 => ?_, fun c q => rset_ne (by omega)⟩
  · refine v_p hT rfl rfl ?_
    refine g_oin hT rfl (Nat.le_of_ble_eq_true rfl) ?_
    refine v_p hT rfl rfl ?_
    refine g_newa hT rfl (Or.inl rfl) (show kd 88 = (1, 10) from rfl) (by decide) (by decide +kernel) (Zr_s hz (by omega)) (by omega) ?_
    refine g_putr hT rfl rfl (by omega) ?_
    exact g_vret hT rfl rfl ⟨rfl, rfl⟩
  · rcases (show c = 87 ∨ c = 88 by omega) with e | e
    · subst e
      rw [rset_eq, hz.1 87 i (by omega) (by omega)]
      by_cases h : i = 0
      · subst h; rfl
      · obtain ⟨j, rfl⟩ : ∃ j, i = j + 1 := ⟨i - 1, by omega⟩
        rw [if_neg h]; rfl
    · subst e
      rw [rset_ne (by omega), hz.1 88 i (by omega) (by omega)]
      rfl
theorem i_lines {b : Nat} {R : Nat → Nat → Nat} {F : Nat → Nat → Int32} (hb : b = 81 ∨ b = 84) (hz : Zr b R F) :
    ∃ R2, Run n_X3_init (b + 1) 0 (ini n_X3_init [.ref b]) [] (b + 1, R, F) (Ret none (b + 3, R2, F)) ∧ Mk b (b + 3) R R2 := by
  have hT : mT n_X3_init = tb_X3_init := rfl
  have k0 : kd b = (0, 3) := by rcases hb with e | e <;> subst e <;> rfl
  have k1 : kd (b + 1) = (1, 9) := by rcases hb with e | e <;> subst e <;> rfl
  have k2 : kd (b + 2) = (2, 61) := by rcases hb with e | e <;> subst e <;> rfl
  have s1 : slt (b + 1 + 1) ≤ slt (b + 1) + 70 := by rcases hb with e | e <;> subst e <;> decide +kernel
  have s2 : slt (b + 2 + 1) ≤ slt (b + 1) + 70 := by rcases hb with e | e <;> subst e <;> decide +kernel
  refine ⟨rset (rset R b 0 (b + 2)) b 1 (b + 3), ?_, fun c i q1 q2 => ?_, fun c q => by rw [rset_ne (by omega), rset_ne (by omega)]⟩
  · refine v_p hT rfl rfl ?_
    refine g_oin hT rfl (Nat.le_of_ble_eq_true rfl) ?_
    refine v_p hT rfl rfl ?_
    refine g_newa hT rfl (Or.inl rfl) k1 (show b + 1 + 1 ≤ b + 1 + 2 by omega) s1 (Zr_s hz (by omega)) (by omega) ?_
    refine g_putr hT rfl k0 (by omega) ?_
    refine v_p hT rfl rfl ?_
    refine g_newa hT rfl (Or.inl rfl) k2 (show b + 2 + 1 ≤ b + 1 + 2 by omega) s2 (Zr_r (Zr_s hz (show b ≤ b + 1 + 1 by omega)) (by omega)) (by omega) ?_
    refine g_putr hT rfl k0 (by omega) ?_
    exact g_vret hT rfl rfl ⟨rfl, rfl⟩
  · rcases (show c = b ∨ c = b + 1 ∨ c = b + 2 by omega) with e | e | e
    · subst e
      rw [rset_eq, rset_eq, hz.1 c i (by omega) (by omega)]
      rcases (show i = 0 ∨ i = 1 ∨ 2 ≤ i by omega) with e | e | e
      · subst e; rcases hb with e | e <;> subst e <;> rfl
      · subst e; rcases hb with e | e <;> subst e <;> rfl
      · rw [if_neg (by omega), if_neg (by omega)]
        obtain ⟨j, rfl⟩ : ∃ j, i = j + 2 := ⟨i - 2, by omega⟩
        rcases hb with e | e <;> subst e <;> rfl
    · subst e
      rw [rset_ne (by omega), rset_ne (by omega), hz.1 _ i (by omega) (by omega)]
      rcases hb with e | e <;> subst e <;> rfl
    · subst e
      rw [rset_ne (by omega), rset_ne (by omega), hz.1 _ i (by omega) (by omega)]
      rcases hb with e | e <;> subst e <;> rfl
theorem i_layout {R : Nat → Nat → Nat} {F : Nat → Nat → Int32} (hz : Zr 89 R F) :
    ∃ R2, Run n_X2_init 90 0 (ini n_X2_init [.ref 89]) [] (90, R, F) (Ret none (96, R2, F)) ∧ Mk 89 96 R R2 := by
  have hT : mT n_X2_init = tb_X2_init := rfl
  refine ⟨rset (rset (rset (rset (rset (rset R 89 0 91) 89 1 92) 89 2 93) 89 3 94) 89 4 95) 89 5 96, ?_, fun c i q1 q2 => ?_, fun c q => by rw [rset_ne (by omega), rset_ne (by omega), rset_ne (by omega), rset_ne (by omega), rset_ne (by omega), rset_ne (by omega)]⟩
  · have z1 : Zr 90 R F := Zr_s hz (by omega)
    have z2 := Zr_r (i := 0) (j := 91) (Zr_s z1 (show 90 ≤ 91 by omega)) (show 89 < 91 by omega)
    have z3 := Zr_r (i := 1) (j := 92) (Zr_s z2 (show 91 ≤ 92 by omega)) (show 89 < 92 by omega)
    have z4 := Zr_r (i := 2) (j := 93) (Zr_s z3 (show 92 ≤ 93 by omega)) (show 89 < 93 by omega)
    have z5 := Zr_r (i := 3) (j := 94) (Zr_s z4 (show 93 ≤ 94 by omega)) (show 89 < 94 by omega)
    have z6 := Zr_r (i := 4) (j := 95) (Zr_s z5 (show 94 ≤ 95 by omega)) (show 89 < 95 by omega)
    refine v_p hT rfl rfl ?_
    refine g_oin hT rfl (Nat.le_of_ble_eq_true rfl) ?_
    refine v_p hT rfl rfl ?_
    refine g_newa hT rfl (Or.inl rfl) (show kd 90 = (1, 169) from rfl) (by decide) (by decide +kernel) z1 (by omega) ?_
    refine g_putr hT rfl rfl (by omega) ?_
    refine v_p hT rfl rfl ?_
    refine g_newa hT rfl (Or.inl rfl) (show kd 91 = (1, 3721) from rfl) (by decide) (by decide +kernel) z2 (by omega) ?_
    refine g_putr hT rfl rfl (by omega) ?_
    refine v_p hT rfl rfl ?_
    refine g_newa hT rfl (Or.inl rfl) (show kd 92 = (1, 61) from rfl) (by decide) (by decide +kernel) z3 (by omega) ?_
    refine g_putr hT rfl rfl (by omega) ?_
    refine v_p hT rfl rfl ?_
    refine g_newa hT rfl (Or.inl rfl) (show kd 93 = (1, 61) from rfl) (by decide) (by decide +kernel) z4 (by omega) ?_
    refine g_putr hT rfl rfl (by omega) ?_
    refine v_p hT rfl rfl ?_
    refine g_newa hT rfl (Or.inl rfl) (show kd 94 = (1, 121) from rfl) (by decide) (by decide +kernel) z5 (by omega) ?_
    refine g_putr hT rfl rfl (by omega) ?_
    refine v_p hT rfl rfl ?_
    refine g_newa hT rfl (Or.inl rfl) (show kd 95 = (1, 121) from rfl) (by decide) (by decide +kernel) z6 (by omega) ?_
    refine g_putr hT rfl rfl (by omega) ?_
    exact g_vret hT rfl rfl ⟨rfl, rfl⟩
  · by_cases hc : c = 89
    · subst hc
      simp only [rset_eq, hz.1 89 i (by omega) (by omega)]
      rcases (show i = 0 ∨ i = 1 ∨ i = 2 ∨ i = 3 ∨ i = 4 ∨ i = 5 ∨ 6 ≤ i by omega) with e | e | e | e | e | e | e
      iterate 6 (subst e; rfl)
      rw [if_neg (by omega), if_neg (by omega), if_neg (by omega), if_neg (by omega), if_neg (by omega), if_neg (by omega)]
      obtain ⟨j, rfl⟩ : ∃ j, i = j + 6 := ⟨i - 6, by omega⟩
      rfl
    · rw [rset_ne hc, rset_ne hc, rset_ne hc, rset_ne hc, rset_ne hc, rset_ne hc, hz.1 c i (by omega) (by omega)]
      exact (rr_no i (by omega) (by omega) (by simp; omega)).symm
theorem i_script {R : Nat → Nat → Nat} {F : Nat → Nat → Int32} (hz : Zr 75 R F) :
    ∃ R2, Run n_X4_init 76 0 (ini n_X4_init [.ref 75]) [] (76, R, F) (Ret none (80, R2, F)) ∧ Mk 75 80 R R2 := by
  have hT : mT n_X4_init = tb_X4_init := rfl
  refine ⟨rset (rset (rset (rset R 75 0 77) 75 2 78) 75 3 79) 75 4 80, ?_, fun c i q1 q2 => ?_, fun c q => by rw [rset_ne (by omega), rset_ne (by omega), rset_ne (by omega), rset_ne (by omega)]⟩
  · have z1 : Zr 76 R F := Zr_s hz (by omega)
    have z2 := Zr_r (i := 0) (j := 77) (Zr_s z1 (show 76 ≤ 77 by omega)) (show 75 < 77 by omega)
    have z3 := Zr_r (i := 2) (j := 78) (Zr_s z2 (show 77 ≤ 78 by omega)) (show 75 < 78 by omega)
    have z4 := Zr_r (i := 3) (j := 79) (Zr_s z3 (show 78 ≤ 79 by omega)) (show 75 < 79 by omega)
    refine v_p hT rfl rfl ?_
    refine g_oin hT rfl (Nat.le_of_ble_eq_true rfl) ?_
    refine v_p hT rfl rfl ?_
    refine g_newa hT rfl (Or.inl rfl) (show kd 76 = (3, 120) from rfl) (by decide) (by decide +kernel) z1 (by omega) ?_
    refine g_putr hT rfl rfl (by omega) ?_
    refine v_p hT rfl rfl ?_
    refine g_newa hT rfl (Or.inl rfl) (show kd 77 = (1, 120) from rfl) (by decide) (by decide +kernel) z2 (by omega) ?_
    refine g_putr hT rfl rfl (by omega) ?_
    refine v_p hT rfl rfl ?_
    refine g_newa hT rfl (Or.inl rfl) (show kd 78 = (1, 121) from rfl) (by decide) (by decide +kernel) z3 (by omega) ?_
    refine g_putr hT rfl rfl (by omega) ?_
    refine v_p hT rfl rfl ?_
    refine g_newa hT rfl (Or.inl rfl) (show kd 79 = (1, 120) from rfl) (by decide) (by decide +kernel) z4 (by omega) ?_
    refine g_putr hT rfl rfl (by omega) ?_
    exact g_vret hT rfl rfl ⟨rfl, rfl⟩
  · by_cases hc : c = 75
    · subst hc
      simp only [rset_eq, hz.1 75 i (by omega) (by omega)]
      rcases (show i = 0 ∨ i = 1 ∨ i = 2 ∨ i = 3 ∨ i = 4 ∨ 5 ≤ i by omega) with e | e | e | e | e | e
      iterate 5 (subst e; rfl)
      rw [if_neg (by omega), if_neg (by omega), if_neg (by omega), if_neg (by omega)]
      obtain ⟨j, rfl⟩ : ∃ j, i = j + 5 := ⟨i - 5, by omega⟩
      rfl
    · rw [rset_ne hc, rset_ne hc, rset_ne hc, rset_ne hc, hz.1 c i (by omega) (by omega)]
      exact (rr_no i (by omega) (by omega) (by simp; omega)).symm
