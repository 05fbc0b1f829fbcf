/-! SOUNDNESS: arrays -/
theorem tys_get {g : GP} {t : Nat} (ht : t = 1 ∨ t = 2 ∨ t = 3 ∨ t = 4 ∨ t = 5) : (tysL g)[t]? = some (g.2.2.2 t, fty t) := by
  rcases ht with rfl | rfl | rfl | rfl | rfl <;> rfl
theorem sim_ald (l : Launch) (g : GP) : R_ald (Sim l g) := by
  intro μ n0 pc L st h Φ n a b cc d o N i hlk hk ho hin hK p e R s m args below meth c H locs cells slots Q ls C hW hS hl hC hret
  have hc := tab_ok hlk
  simp only [cE] at hc
  obtain ⟨hd, rfl⟩ := dI_spec hc
  have he := wsh_get (g := g) ho
  rw [cel_arr hk (Or.inl rfl)] at he
  exact va_iald C.1 C.2.1 C.2.2.2.2.2.2.1.1 hW.1 o 1 he rfl hin hd (hK p e R s m args below meth c H locs cells slots Q ls C hW hS hl hC hret)
set_option maxRecDepth 20000 in
theorem kd_in : ∀ c, c < 110 → (kd c).1 ≠ 6 := by decide +kernel
theorem kd_six {o : Nat} (h : kd o = (6, 0)) : o = 1000 ∨ o = 1001 ∨ o = 1002 := by
  by_cases h1 : o < 110
  · exact absurd (by rw [h]) (kd_in o h1)
  · unfold kd at h
    rw [getD_big _ _ _ (Nat.le_trans (Nat.le_of_eq (by decide)) (Nat.not_lt.mp h1))] at h
    split at h
    · rename_i h2; exact h2
    · cases h
theorem sim_aldx (l : Launch) (g : GP) : R_aldx (Sim l g) := by
  intro μ n0 pc L st h Φ n a b cc d o i hlk hk hin hK p e R s m args below meth c H locs cells slots Q ls C hW hS hl hC hret
  have hc := tab_ok hlk
  simp only [cE] at hc
  obtain ⟨hd, rfl⟩ := dI_spec hc
  have kk := hK p e R s m args below meth c H locs cells slots Q ls C hW hS hl hC hret
  obtain ⟨⟨q1, q2, q3⟩, X1, X2, X3, -, -⟩ := C.2.2.2.2.2.2.2.1
  have hz := C.2.2.2.2.2.2.2.2.1
  obtain ⟨a1, a2, a3, a4, a5, a6⟩ := hW.2.2
  have hna : ∀ q, q < g.1.1 → ¬ AG g q := fun q hq => Nat.not_le.mpr hq
  rcases kd_six hk with rfl | rfl | rfl
  · rw [a1] at hin
    rw [a2] at kk
    exact va_sld C.1 C.2.1 X1 (by omega) (hna _ q1) hS hin hd kk
  · rw [a3] at hin
    rw [a4] at kk
    exact va_ti C.1 C.2.1 X2 hS hin rfl hd kk
  · rw [a5] at hin
    rw [a6] at kk
    exact va_ti C.1 C.2.1 X3 hS hin rfl hd kk
theorem sim_ast (l : Launch) (g : GP) : R_ast (Sim l g) := by
  intro μ n0 pc L st h Φ n a b cc d o N i x hlk hk ho hin hK p e R s m args below meth c H locs cells slots Q ls C hW hS hl hC hret
  have hc := tab_ok hlk
  simp only [cE] at hc
  obtain ⟨hd, rfl⟩ := dI_spec hc
  have he := wsh_get (g := g) ho
  rw [cel_arr hk (Or.inl rfl)] at he
  refine va_iast C.1 C.2.1 C.2.2.2.2.2.2.1.1 hW.1 (wsh_D hW.2.1) hS o 1 he rfl hin hd (fun H1 locs1 q1 _ q3 => ?_)
  exact hK p e R s m args below meth c H1 locs1 cells slots Q ls C (WH.seti ho hW.2.1 hW.2.2 q1 (by rw [cel_arr hk (Or.inl rfl)]; simp [hset]) (fun q hq => hset_ne hq)) q3 hl hC hret
theorem sim_bld (l : Launch) (g : GP) : R_bld (Sim l g) := by
  intro μ n0 pc L st h Φ n a b cc d o t N i hlk hk ht ho hin hK p e R s m args below meth c H locs cells slots Q ls C hW hS hl hC hret
  have hc := tab_ok hlk
  simp only [cE] at hc
  obtain ⟨hd, rfl⟩ := dI_spec hc
  have he := wsh_get (g := g) ho
  have kk := hK p e R s m args below meth c H locs cells slots Q ls C hW hS hl hC hret
  rcases ht with rfl | rfl
  · rw [cel_arr hk (Or.inr (Or.inl rfl))] at he
    exact va_zald C.1 C.2.1 C.2.2.2.2.2.2.1.1 hW.1 o 2 he rfl hin hd kk
  · rw [cel_arr hk (Or.inr (Or.inr rfl))] at he
    exact va_bald C.1 C.2.1 C.2.2.2.2.2.2.1.1 hW.1 o 3 he rfl hin hd kk
theorem sim_zst (l : Launch) (g : GP) : R_zst (Sim l g) := by
  intro μ n0 pc L st h Φ n a b cc d o N i x hlk hk ho hin hK p e R s m args below meth c H locs cells slots Q ls C hW hS hl hC hret
  have hc := tab_ok hlk
  simp only [cE] at hc
  obtain ⟨hd, rfl⟩ := dI_spec hc
  have he := wsh_get (g := g) ho
  rw [cel_arr hk (Or.inr (Or.inl rfl))] at he
  refine va_zast C.1 C.2.1 C.2.2.2.2.2.2.1.1 hW.1 (wsh_D hW.2.1) hS o 2 he rfl hin hd (fun H1 locs1 q1 _ q3 => ?_)
  exact hK p e R s m args below meth c H1 locs1 cells slots Q ls C (WH.seti ho hW.2.1 hW.2.2 q1 (by rw [cel_arr hk (Or.inr (Or.inl rfl))]; simp [hset]) (fun q hq => hset_ne hq)) q3 hl hC hret
theorem sim_bst (l : Launch) (g : GP) : R_bst (Sim l g) := by
  intro μ n0 pc L st h Φ n a b cc d o N i x hlk hk ho hin hK p e R s m args below meth c H locs cells slots Q ls C hW hS hl hC hret
  have hc := tab_ok hlk
  simp only [cE] at hc
  obtain ⟨hd, rfl⟩ := dI_spec hc
  have he := wsh_get (g := g) ho
  rw [cel_arr hk (Or.inr (Or.inr rfl))] at he
  refine va_bast C.1 C.2.1 C.2.2.2.2.2.2.1.1 hW.1 (wsh_D hW.2.1) hS o 3 he rfl hin hd (fun H1 locs1 q1 _ q3 => ?_)
  exact hK p e R s m args below meth c H1 locs1 cells slots Q ls C (WH.seti ho hW.2.1 hW.2.2 q1 (by rw [cel_arr hk (Or.inr (Or.inr rfl))]; simp [hset]) (fun q hq => hset_ne hq)) q3 hl hC hret
theorem sim_rld (l : Launch) (g : GP) : R_rld (Sim l g) := by
  intro μ n0 pc L st h Φ n a b cc d o t N j i hlk hk ht ho hin hj hK p e R s m args below meth c H locs cells slots Q ls C hW hS hl hC hret
  have hc := tab_ok hlk
  simp only [cE] at hc
  obtain ⟨hd, rfl⟩ := dI_spec hc
  have he := wsh_get (g := g) ho
  rw [cel_ref hk ht] at he
  have kk := hK p e R s m args below meth c H locs cells slots Q ls C hW hS hl hC hret
  rcases ht with rfl | rfl
  · refine va_aldq C.1 C.2.1 C.2.2.2.2.2.2.1.1 hW.1 o 4 he rfl hin hd ?_
    rw [hj]
    exact kk
  · refine va_aldq C.1 C.2.1 C.2.2.2.2.2.2.1.1 hW.1 o 5 he rfl hin hd ?_
    rw [hj]
    exact kk
theorem cel_ref_set {g : GP} {h : HP} {o k j : Nat} : (fun i => rv g (rset h.2.1 o k (j + 1) o i)) = va_up (fun i => rv g (h.2.1 o i)) k (some (ad g j)) := by
  funext i
  by_cases hi : i = k
  · subst hi
    simp [rset, rv, va_up]
  · simp [rset, va_up, hi]
theorem sim_rst (l : Launch) (g : GP) : R_rst (Sim l g) := by
  intro μ n0 pc L st h Φ n a b cc d o t N j i hlk hk ht ho hj hin hK p e R s m args below meth c H locs cells slots Q ls C hW hS hl hC hret
  have hc := tab_ok hlk
  simp only [cE] at hc
  obtain ⟨hd, rfl⟩ := dI_spec hc
  have he := wsh_get (g := g) ho
  have hv := wsh_get (g := g) hj
  rcases ht with ⟨rfl, hkj⟩ | ⟨rfl, hkj⟩
  · rw [cel_ref hk (Or.inl rfl)] at he
    rw [cel_obj hkj] at hv
    refine va_astq (r := (RX0, TX0, 9)) C.1 C.2.1 C.2.2.2.2.2.2.1.1 hW.1 (wsh_D hW.2.1) hS o 4 j 0 he rfl hv rfl hin hd (fun H1 locs1 q1 _ q3 => ?_)
    exact hK p e R s m args below meth c H1 locs1 cells slots Q ls C (WH.setr ho hW.2.1 hW.2.2 q1 (by rw [cel_ref hk (Or.inl rfl), cel_ref_set]) (fun q hq => rset_ne hq)) q3 hl hC hret
  · rw [cel_ref hk (Or.inr rfl)] at he
    rw [cel_obj hkj] at hv
    refine va_astq (r := (RX3, TX3, 3)) C.1 C.2.1 C.2.2.2.2.2.2.1.1 hW.1 (wsh_D hW.2.1) hS o 5 j 3 he rfl hv rfl hin hd (fun H1 locs1 q1 _ q3 => ?_)
    exact hK p e R s m args below meth c H1 locs1 cells slots Q ls C (WH.setr ho hW.2.1 hW.2.2 q1 (by rw [cel_ref hk (Or.inr rfl), cel_ref_set]) (fun q hq => rset_ne hq)) q3 hl hC hret
theorem sim_len (l : Launch) (g : GP) : R_len (Sim l g) := by
  intro μ n0 pc L st h Φ n a b cc d o N hlk hk ho hK p e R s m args below meth c H locs cells slots Q ls C hW hS hl hC hret
  have hc := tab_ok hlk
  simp only [cE] at hc
  obtain ⟨hd, rfl⟩ := dI_spec hc
  have he := wsh_get (g := g) ho
  rw [cel_arr hk (Or.inl rfl)] at he
  exact va_alen C.1 C.2.1 C.2.2.2.2.2.2.1.1 hW.1 o 1 he (ty := .int) rfl rfl hd (hK p e R s m args below meth c H locs cells slots Q ls C hW hS hl hC hret)
theorem sim_lenx (l : Launch) (g : GP) : R_lenx (Sim l g) := by
  intro μ n0 pc L st h Φ n a b cc d o hlk hk hK p e R s m args below meth c H locs cells slots Q ls C hW hS hl hC hret
  have hc := tab_ok hlk
  simp only [cE] at hc
  obtain ⟨hd, rfl⟩ := dI_spec hc
  have kk := hK p e R s m args below meth c H locs cells slots Q ls C hW hS hl hC hret
  obtain ⟨⟨q1, q2, q3⟩, X1, X2, X3, -, -⟩ := C.2.2.2.2.2.2.2.1
  have hz := C.2.2.2.2.2.2.2.2.1
  obtain ⟨a1, a2, a3, a4, a5, a6⟩ := hW.2.2
  have hna : ∀ q, q < g.1.1 → ¬ AG g q := fun q hq => Nat.not_le.mpr hq
  subst hk
  rw [a1] at kk
  exact va_slen C.1 C.2.1 X1 (by show g.1.2.1 < _; omega) (hna _ q1) hS hd kk
theorem mn_st : Jvm.Cond.static Lib.Math.min.name ∈ CW := CW_in (List.mem_of_getElem? (i := 383) (by decide +kernel)) rfl
theorem mn_in : Jvm.Cond.initialized "java/lang/Math" ∈ CW := CW_in (List.mem_of_getElem? (i := 111) (by decide +kernel)) rfl
theorem mn_co : Jvm.Cond.code Lib.Math.min.name Lib.Math.min.code 2 (some .int) ∈ CW := CW_in (List.mem_of_getElem? (i := 384) (by decide +kernel)) rfl
theorem sim_min (l : Launch) (g : GP) : R_min (Sim l g) := by
  intro μ n0 pc L st h Φ n a b cc d x y hlk hst hK p e R s m args below meth c H locs cells slots Q ls C hW hS hl hC hret
  have hc := tab_ok hlk
  have kk := hK p e R s m args below meth c H locs cells slots Q ls C hW hS hl hC hret
  simp only [cE, Bool.and_eq_true, decide_eq_true_eq] at hc
  obtain ⟨⟨⟨hd, hw⟩, hf⟩, hlo⟩ := hc
  replace hd := dI_spec hd
  obtain ⟨hd, rfl⟩ := hd
  obtain ⟨hx, hb, hml, hown, hts, hnm, hK0, hX0, hsz, hRf, hRl, hRc, hRs⟩ := C
  have hcat : ((st.map (cv g)).map fun v => v.category).sum ≤ 8 := by
    rw [List.map_map]
    refine Nat.le_trans (Nat.le_of_eq ?_) hst
    congr 1
    exact List.map_congr_left (fun v _ => cv_cat g v)
  obtain ⟨c1, c2, c3, c4, c5, c6⟩ := hC
  exact va_mmin hx hb (by rw [hml, hl.1]) hown (hts _ (CW_in (wA_spec hw) rfl)) (hts _ mn_st) (hts _ mn_in) (hts _ mn_co) (by omega) (by omega) (by omega) (by omega) hd kk
