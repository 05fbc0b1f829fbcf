/-! SOUNDNESS, the rest: branches, heap, calls. -/
theorem sim_div (l : Launch) (g : GP) : R_div (Sim l g) := by
  intro μ n0 pc L st h Φ n a b cc d x y hlk hy hK p e R s m args below meth c H locs cells slots Q ls C hW hS hl hC hret
  have hc := tab_ok hlk
  simp only [cE] at hc
  obtain ⟨hd, rfl⟩ := dI_spec hc
  exact lv_idiv C.1 C.2.1 hd hy (hK p e R s m args below meth c H locs cells slots Q ls C hW hS hl hC hret)
theorem sim_rem (l : Launch) (g : GP) : R_rem (Sim l g) := by
  intro μ n0 pc L st h Φ n a b cc d x y hlk hy hK p e R s m args below meth c H locs cells slots Q ls C hW hS hl hC hret
  have hc := tab_ok hlk
  simp only [cE] at hc
  obtain ⟨hd, rfl⟩ := dI_spec hc
  exact lv_irem C.1 C.2.1 hd hy (hK p e R s m args below meth c H locs cells slots Q ls C hW hS hl hC hret)
theorem sim_if (l : Launch) (g : GP) : R_if (Sim l g) := by
  intro μ n0 pc L st h Φ n a b cc d x hlk k1 k2 p e R s m args below meth c H locs cells slots Q ls C hW hS hl hC hret
  have hc := tab_ok hlk
  simp only [cE] at hc
  obtain ⟨hd, rfl⟩ := dI_spec hc
  have kt := fun q => k1 q p e R s m args below meth c H locs cells slots Q ls C hW hS hl hC hret
  have kf := fun q => k2 q p e R s m args below meth c H locs cells slots Q ls C hW hS hl hC hret
  match b, hd, kt, kf with
  | 0, hd, kt, kf => exact lv_if_eq C.1 C.2.1 hd (by omega) kt kf
  | 1, hd, kt, kf => exact lv_if_ne C.1 C.2.1 hd (by omega) kt (fun q => kf (fun z => z q))
  | 2, hd, kt, kf => exact lv_if_lt C.1 C.2.1 hd (by omega) kt kf
  | 3, hd, kt, kf => exact lv_if_ge C.1 C.2.1 hd (by omega) kt kf
  | 4, hd, kt, kf => exact lv_if_gt C.1 C.2.1 hd (by omega) kt kf
  | k + 5, hd, kt, kf => exact lv_if_le C.1 C.2.1 hd (by omega) kt kf
theorem sim_cmp (l : Launch) (g : GP) : R_cmp (Sim l g) := by
  intro μ n0 pc L st h Φ n a b cc d x y hlk k1 k2 p e R s m args below meth c H locs cells slots Q ls C hW hS hl hC hret
  have hc := tab_ok hlk
  simp only [cE] at hc
  obtain ⟨hd, rfl⟩ := dI_spec hc
  have kt := fun q => k1 q p e R s m args below meth c H locs cells slots Q ls C hW hS hl hC hret
  have kf := fun q => k2 q p e R s m args below meth c H locs cells slots Q ls C hW hS hl hC hret
  match b, hd, kt, kf with
  | 0, hd, kt, kf => exact lv_icmp_eq C.1 C.2.1 hd (by omega) kt kf
  | 1, hd, kt, kf => exact lv_icmp_ne C.1 C.2.1 hd (by omega) kt (fun q => kf (fun z => z q))
  | 2, hd, kt, kf => exact lv_icmp_lt C.1 C.2.1 hd (by omega) kt kf
  | 3, hd, kt, kf => exact lv_icmp_ge C.1 C.2.1 hd (by omega) kt kf
  | 4, hd, kt, kf => exact lv_icmp_gt C.1 C.2.1 hd (by omega) kt kf
  | k + 5, hd, kt, kf => exact lv_icmp_le C.1 C.2.1 hd (by omega) kt kf
theorem kc_out : ∀ (l : List (Int × Nat)) (lo : Int) (d : Nat) (x : Int), kc lo l = true → (x < lo ∨ lo + l.length ≤ x) → swf l d x = d := by
  intro l
  induction l with
  | nil => intro lo d x _ _; rfl
  | cons q r ih =>
    intro lo d x hk hx
    simp only [kc, Bool.and_eq_true, beq_iff_eq] at hk
    simp only [List.length_cons] at hx
    unfold swf
    rw [if_neg (by omega)]
    exact ih (lo + 1) d x hk.2 (by omega)
theorem kc_in : ∀ (l : List (Int × Nat)) (lo : Int) (d j : Nat), kc lo l = true → j < l.length → ∃ q, l[j]? = some q ∧ swf l d (lo + j) = q.2 := by
  intro l
  induction l with
  | nil => intro lo d j _ h; simp at h
  | cons q r ih =>
    intro lo d j hk hj
    simp only [kc, Bool.and_eq_true, beq_iff_eq] at hk
    cases j with
    | zero => exact ⟨q, rfl, by unfold swf; rw [if_pos (by omega)]⟩
    | succ j =>
      simp only [List.length_cons] at hj
      obtain ⟨z, h1, h2⟩ := ih (lo + 1) d j hk.2 (by omega)
      refine ⟨z, by simpa using h1, ?_⟩
      unfold swf
      rw [if_neg (by omega), show lo + ((j + 1 : Nat) : Int) = lo + 1 + (j : Int) by omega]
      exact h2
theorem lks_off : ∀ (l : List (Int × Nat)) (d pc : Nat) (x : Int), (pc : Int) + Op.lookupswitch.offset (l.map (fun z => (z.1, (z.2 : Int) - pc))) ((d : Int) - pc) x = (swf l d x : Int) := by
  intro l
  induction l with
  | nil => intro d pc x; simp [Op.lookupswitch.offset, swf]; omega
  | cons q r ih =>
    intro d pc x
    simp only [List.map_cons, Op.lookupswitch.offset_cons, swf]
    by_cases hq : q.1 = x
    · rw [if_pos hq, if_pos hq.symm]; omega
    · rw [if_neg hq, if_neg (fun z => hq z.symm)]; exact ih d pc x
theorem sim_sw (l : Launch) (g : GP) : R_sw (Sim l g) := by
  intro μ n0 pc L st h Φ n t a b cc d x hlk ht hK p e R s m args below meth c H locs cells slots Q ls C hW hS hl hC hret
  have hc := tab_ok hlk
  have kk := hK p e R s m args below meth c H locs cells slots Q ls C hW hS hl hC hret
  rcases ht with rfl | rfl
  · simp only [cE] at hc
    split at hc
    · rename_i q r en hs
      simp only [Bool.and_eq_true] at hc
      obtain ⟨hk, hd⟩ := hc
      obtain ⟨hd, -⟩ := dI_spec hd
      have hsw : swt a x = swf (q :: r) en x.toInt := by unfold swt; rw [hs]
      by_cases h1 : x.toInt < q.1 ∨ q.1 + r.length < x.toInt
      · refine lv_tableOut (tgt := swt a x) C.1 C.2.1 hd h1 ?_ kk
        rw [hsw, kc_out (q :: r) q.1 en _ hk (by simp only [List.length_cons]; omega)]
        omega
      · obtain ⟨z, h2, h3⟩ := kc_in (q :: r) q.1 en (x.toInt - q.1).toNat hk (by simp only [List.length_cons]; omega)
        rw [show q.1 + ((x.toInt - q.1).toNat : Int) = x.toInt by omega] at h3
        refine lv_tableIn (off := (z.2 : Int) - pc) (tgt := swt a x) C.1 C.2.1 hd (by omega) (by omega) ?_ ?_ kk
        · rw [List.getElem?_toArray, List.getElem?_map, h2]; rfl
        · rw [hsw, h3]; omega
    · cases hc
  · simp only [cE] at hc
    split at hc
    · rename_i lst en hs
      simp only [Bool.and_eq_true] at hc
      obtain ⟨hd, hp⟩ := hc
      obtain ⟨hd, -⟩ := dI_spec hd
      refine lv_lookup (tgt := swt a x) C.1 C.2.1 hd (by simpa using hp) rfl ?_ kk
      unfold swt
      rw [hs]
      exact lks_off lst en pc x.toInt
    · cases hc
/-! the classes -/
set_option maxRecDepth 100000 in
theorem uws_tbl : ∀ b, b < 8 → (u_ws (cN b) (cT b) (cF b)).all (fun w => decide (w ∈ lw_tbl) && goodWord w) = true := by decide +kernel
theorem cls_get {b : Nat} (h : b < 8) : vwCl[b]? = some (cN b, cT b, cF b) := by
  match b, h with
  | 0, _ => rfl
  | 1, _ => rfl
  | 2, _ => rfl
  | 3, _ => rfl
  | 4, _ => rfl
  | 5, _ => rfl
  | 6, _ => rfl
  | 7, _ => rfl
theorem cls_ws {b : Nat} (h : b < 8) : ∀ w ∈ u_ws (cN b) (cT b) (cF b), w ∈ CW := by
  intro w hw
  have h1 := List.all_eq_true.mp (uws_tbl b h) w hw
  simp only [Bool.and_eq_true, decide_eq_true_eq] at h1
  exact CW_in h1.1 h1.2
theorem cls_ty {b : Nat} (h : b < 8) : ∀ k, k < cF b → parseFieldDescriptor (cT b k).2.2.1 = some (cTy b k) := by
  match b, h with
  | 0, _ => exact tyX0_ok
  | 1, _ => exact tyX1_ok
  | 2, _ => exact tyX2_ok
  | 3, _ => exact tyX3_ok
  | 4, _ => exact tyX4_ok
  | 5, _ => exact tyX5_ok
  | 6, _ => exact tyX6_ok
  | 7, _ => exact tyX7_ok
theorem cls_nm {b : Nat} (h : b < 8) : ∀ x, x < cF b → ∀ y, y < cF b → x ≠ y → (cT b x).2.1 ≠ (cT b y).2.1 := by
  match b, h with
  | 0, _ => exact nmX0
  | 1, _ => exact nmX1
  | 2, _ => exact nmX2
  | 3, _ => exact nmX3
  | 4, _ => exact nmX4
  | 5, _ => exact nmX5
  | 6, _ => exact nmX6
  | 7, _ => exact nmX7
theorem cls_own : ∀ b, b < 8 → ∀ k, k < cF b → (cT b k).1 = cN b := by decide +kernel
/-! the world of a heap -/
theorem wsh_get {g : GP} {h : HP} {c : Nat} (hc : c < h.1) : (wsh g h)[c]? = some (ad g c, cel g h c) := by
  unfold wsh
  rw [List.getElem?_map, List.getElem?_range hc]
  rfl
theorem wsh_set {g : GP} {h h' : HP} {o : Nat} {e : va_E} (hn : h'.1 = h.1) (he : cel g h' o = e) (ho : ∀ c, c ≠ o → cel g h' c = cel g h c) : (wsh g h).set o (ad g o, e) = wsh g h' := by
  refine List.ext_getElem? fun i => ?_
  rw [List.getElem?_set]
  by_cases hi : i < h.1
  · rw [wsh_get (h := h') (by omega)]
    split
    · rename_i h1
      subst h1
      rw [if_pos (by simp [wsh]; exact hi), he]
    · rename_i h1
      rw [wsh_get hi, ho i (fun z => h1 z.symm)]
  · have h1 : (wsh g h')[i]? = none := by simp [wsh]; omega
    have h2 : (wsh g h)[i]? = none := by simp [wsh]; omega
    rw [h1, h2]
    split
    · rw [if_neg (by simp [wsh]; omega)]
    · rfl
theorem cel_congr {g : GP} {h h' : HP} {c : Nat} (h1 : h'.2.1 c = h.2.1 c) (h2 : h'.2.2 c = h.2.2 c) : cel g h' c = cel g h c := by
  unfold cel fvs
  rw [h1, h2]
theorem cel_obj {g : GP} {h : HP} {o b : Nat} (hk : kd o = (0, b)) : cel g h o = .inr (b, fvs g h b o) := by
  unfold cel
  rw [hk]
  rfl
theorem cel_arr {g : GP} {h : HP} {o t N : Nat} (hk : kd o = (t, N)) (ht : t = 1 ∨ t = 2 ∨ t = 3) : cel g h o = .inl (g.2.2.2 t, N, .inl (h.2.2 o)) := by
  unfold cel
  rw [hk]
  rcases ht with rfl | rfl | rfl <;> rfl
theorem cel_ref {g : GP} {h : HP} {o t N : Nat} (hk : kd o = (t, N)) (ht : t = 4 ∨ t = 5) : cel g h o = .inl (g.2.2.2 t, N, .inr (.inr (.inr (.inr (fun j => rv g (h.2.1 o j)))))) := by
  unfold cel
  rw [hk]
  rcases ht with rfl | rfl <;> rfl
theorem fvs_get {g : GP} {h : HP} {ci o k : Nat} (hk : k < cF ci) : (fvs g h ci o)[k]? = some (if isr ci k = true then va_rf (rv g (h.2.1 o k)) else .int (h.2.2 o k)) := by
  unfold fvs
  rw [List.getElem?_map, List.getElem?_range hk]
  rfl
theorem fvs_len {g : GP} {h : HP} {ci o : Nat} : (fvs g h ci o).length = cF ci := by simp [fvs]
theorem fvs_seti {g : GP} {h : HP} {ci o k : Nat} {x : Int32} (hk : k < cF ci) (hi : isr ci k = false) : (fvs g h ci o).set k (.int x) = fvs g (h.1, h.2.1, hset h.2.2 o k x) ci o := by
  refine List.ext_getElem? fun i => ?_
  rw [List.getElem?_set]
  by_cases hl : i < cF ci
  · rw [fvs_get (h := (h.1, h.2.1, hset h.2.2 o k x)) hl]
    by_cases hik : k = i
    · subst hik
      rw [if_pos rfl, if_pos (by rw [fvs_len]; exact hk)]
      simp [hi, hset, upd]
    · rw [if_neg hik, fvs_get hl]
      simp [hset, upd, Ne.symm hik]
  · have h1 : (fvs g (h.1, h.2.1, hset h.2.2 o k x) ci o)[i]? = none := by simp [fvs]; omega
    have h2 : (fvs g h ci o)[i]? = none := by simp [fvs]; omega
    rw [if_neg (by omega), h1, h2]
theorem fvs_setr {g : GP} {h : HP} {ci o k j : Nat} (hk : k < cF ci) (hi : isr ci k = true) : (fvs g h ci o).set k (.ref (ad g j)) = fvs g (h.1, rset h.2.1 o k (j + 1), h.2.2) ci o := by
  refine List.ext_getElem? fun i => ?_
  rw [List.getElem?_set]
  by_cases hl : i < cF ci
  · rw [fvs_get (h := (h.1, rset h.2.1 o k (j + 1), h.2.2)) hl]
    by_cases hik : k = i
    · subst hik
      rw [if_pos rfl, if_pos (by rw [fvs_len]; exact hk)]
      simp [hi, rset, rv, va_rf]
    · rw [if_neg hik, fvs_get hl]
      simp [rset, Ne.symm hik]
  · have h1 : (fvs g (h.1, rset h.2.1 o k (j + 1), h.2.2) ci o)[i]? = none := by simp [fvs]; omega
    have h2 : (fvs g h ci o)[i]? = none := by simp [fvs]; omega
    rw [if_neg (by omega), h1, h2]
theorem hset_ne {f : Nat → Nat → Int32} {o k c : Nat} {x : Int32} (h : c ≠ o) : hset f o k x c = f c := by simp [hset, h]
theorem rset_ne {f : Nat → Nat → Nat} {o k c j : Nat} (h : c ≠ o) : rset f o k j c = f c := by funext i; simp [rset, h]
theorem hputs_ne {f : Nat → Nat → Int32} {o c : Nat} {x : Nat → Int32} (h : c ≠ o) : hputs f o x c = f c := by simp [hputs, h]
theorem ad_in {g : GP} {c : Nat} (h : c < 1000) : ad g c = g.1.1 + c := by simp [ad, h]
theorem wsh_D {g : GP} {h : HP} (hn : h.1 ≤ NT) : va_D (AG g) (wsh g h) := by
  have at' : ∀ (i : Nat) (p : Nat × va_E), (wsh g h)[i]? = some p → i < h.1 ∧ p.1 = g.1.1 + i := by
    intro i p hp
    have hi : i < h.1 := by
      have := (List.getElem?_eq_some_iff.mp hp).1
      simpa [wsh] using this
    rw [wsh_get hi] at hp
    cases hp
    exact ⟨hi, ad_in (by unfold NT at hn; omega)⟩
  refine ⟨fun i j p q hp hq he => ?_, fun k q hq => ?_⟩
  · have h1 := (at' i p hp).2
    have h2 := (at' j q hq).2
    omega
  · have h1 := (at' k q hq).2
    unfold AG
    omega
theorem SP.i {g : GP} {h : HP} {f : Nat → Nat → Int32} (hs : SP g h) (h0 : f 1000 = h.2.2 1000) (h1 : f 1001 = h.2.2 1001) (h2 : f 1002 = h.2.2 1002) : SP g (h.1, h.2.1, f) := by
  obtain ⟨a1, a2, a3, a4, a5, a6⟩ := hs
  exact ⟨a1, h0.trans a2, a3, h1.trans a4, a5, h2.trans a6⟩
theorem SP.r {g : GP} {h : HP} {f : Nat → Nat → Nat} (hs : SP g h) (h0 : f 1000 = h.2.1 1000) (h1 : f 1001 = h.2.1 1001) (h2 : f 1002 = h.2.1 1002) : SP g (h.1, f, h.2.2) := by
  obtain ⟨a1, a2, a3, a4, a5, a6⟩ := hs
  exact ⟨by show f 1000 0 = _; rw [h0]; exact a1, a2, by show f 1001 0 = _; rw [h1]; exact a3, a4, by show f 1002 0 = _; rw [h2]; exact a5, a6⟩
theorem sim_geti (l : Launch) (g : GP) : R_geti (Sim l g) := by
  intro μ n0 pc L st h Φ n a b cc d o hlk hk ho hK p e R s m args below meth c H locs cells slots Q ls C hW hS hl hC hret
  have hc := tab_ok hlk
  have kk := hK p e R s m args below meth c H locs cells slots Q ls C hW hS hl hC hret
  simp only [cE, Bool.or_eq_true, Bool.and_eq_true, decide_eq_true_eq, beq_iff_eq] at hc
  obtain ⟨⟨⟨⟨hd, hb⟩, ha⟩, hi⟩, hw⟩ := hc
  replace hd := dI_spec hd
  obtain ⟨hd, rfl⟩ := hd
  have he := wsh_get (g := g) ho
  rw [cel_obj hk] at he
  have hv : (fvs g h b o)[a]? = some (.int (h.2.2 o a)) := by rw [fvs_get ha, hi]; rfl
  have hK0 := C.2.2.2.2.2.2.1
  rcases hw with hw | hw
  · exact va_get C.1 C.2.1 C.2.2.2.2.1 (cls_ws hb) C.2.2.2.1 hK0.1 hW.1 o he (cls_get hb) a ha (C.2.2.2.2.1 _ (CW_in (wA_spec hw) rfl)) (fun x hx => by rw [cls_own b hb a ha] at hx; exact hx) hv hd kk
  · exact va_getN C.1 C.2.1 C.2.2.2.2.1 (cls_ws hb) C.2.2.2.1 hK0.1 hW.1 o he (cls_get hb) a ha (va_Nw.use rfl (hK0.2.1 _ (wA_spec hw) rfl)) (fun x hx => by rw [cls_own b hb a ha] at hx; exact hx) hv hd kk
theorem sim_getr (l : Launch) (g : GP) : R_getr (Sim l g) := by
  intro μ n0 pc L st h Φ n a b cc d o j hlk hk ho hj hK p e R s m args below meth c H locs cells slots Q ls C hW hS hl hC hret
  have hc := tab_ok hlk
  have kk := hK p e R s m args below meth c H locs cells slots Q ls C hW hS hl hC hret
  simp only [cE, Bool.or_eq_true, Bool.and_eq_true, decide_eq_true_eq, beq_iff_eq] at hc
  obtain ⟨⟨⟨⟨hd, hb⟩, ha⟩, hi⟩, hw⟩ := hc
  replace hd := dI_spec hd
  obtain ⟨hd, rfl⟩ := hd
  have he := wsh_get (g := g) ho
  rw [cel_obj hk] at he
  have hv : (fvs g h b o)[a]? = some (.ref (ad g j)) := by rw [fvs_get ha, hi, hj]; rfl
  have hK0 := C.2.2.2.2.2.2.1
  rcases hw with hw | hw
  · exact va_get C.1 C.2.1 C.2.2.2.2.1 (cls_ws hb) C.2.2.2.1 hK0.1 hW.1 o he (cls_get hb) a ha (C.2.2.2.2.1 _ (CW_in (wA_spec hw) rfl)) (fun x hx => by rw [cls_own b hb a ha] at hx; exact hx) hv hd kk
  · exact va_getN C.1 C.2.1 C.2.2.2.2.1 (cls_ws hb) C.2.2.2.1 hK0.1 hW.1 o he (cls_get hb) a ha (va_Nw.use rfl (hK0.2.1 _ (wA_spec hw) rfl)) (fun x hx => by rw [cls_own b hb a ha] at hx; exact hx) hv hd kk
theorem WH.seti {g : GP} {h : HP} {H1 : Heap} {o : Nat} {e : va_E} {f : Nat → Nat → Int32} (ho : o < h.1) (hn : h.1 ≤ NT) (hs : SP g h) (hP : va_P g.2.2.1 vwCl ((wsh g h).set o (ad g o, e)) H1) (he : cel g (h.1, h.2.1, f) o = e) (hf : ∀ c, c ≠ o → f c = h.2.2 c) : WH g (h.1, h.2.1, f) H1 := by
  rw [wsh_set (h := h) (h' := (h.1, h.2.1, f)) rfl he (fun c hc => cel_congr rfl (hf c hc))] at hP
  refine ⟨hP, hn, hs.i (hf _ ?_) (hf _ ?_) (hf _ ?_)⟩ <;> (unfold NT at hn; omega)
theorem WH.setr {g : GP} {h : HP} {H1 : Heap} {o : Nat} {e : va_E} {f : Nat → Nat → Nat} (ho : o < h.1) (hn : h.1 ≤ NT) (hs : SP g h) (hP : va_P g.2.2.1 vwCl ((wsh g h).set o (ad g o, e)) H1) (he : cel g (h.1, f, h.2.2) o = e) (hf : ∀ c, c ≠ o → f c = h.2.1 c) : WH g (h.1, f, h.2.2) H1 := by
  rw [wsh_set (h := h) (h' := (h.1, f, h.2.2)) rfl he (fun c hc => cel_congr (hf c hc) rfl)] at hP
  refine ⟨hP, hn, hs.r (hf _ ?_) (hf _ ?_) (hf _ ?_)⟩ <;> (unfold NT at hn; omega)
theorem sim_puti (l : Launch) (g : GP) : R_puti (Sim l g) := by
  intro μ n0 pc L st h Φ n a b cc d o x hlk hk ho hbx hK p e R s m args below meth c H locs cells slots Q ls C hW hS hl hC hret
  have hc := tab_ok hlk
  simp only [cE, Bool.or_eq_true, Bool.and_eq_true, decide_eq_true_eq, beq_iff_eq] at hc
  obtain ⟨⟨⟨⟨⟨⟨hd, hb⟩, ha⟩, hi⟩, hf⟩, hty⟩, hw⟩ := hc
  replace hd := dI_spec hd
  obtain ⟨hd, rfl⟩ := hd
  have he := wsh_get (g := g) ho
  rw [cel_obj hk] at he
  have hK0 := C.2.2.2.2.2.2.1
  have hn : narrow (cTy b a) (.int x) = .int x ∧ fits (cTy b a) (.int x) = true := by
    rw [hty]
    by_cases hz : bfl b a = true
    · rw [if_pos hz]
      rcases hbx hz with rfl | rfl <;> decide
    · rw [if_neg hz]
      exact ⟨rfl, rfl⟩
  have kk := fun (H1 : Heap) (locs1 : List Loc) (hP : va_P g.2.2.1 vwCl ((wsh g h).set o (ad g o, .inr (b, (fvs g h b o).set a (.int x)))) H1) (hS1 : va_S (AG g) s.heap H1 locs1) => hK p e R s m args below meth c H1 locs1 cells slots Q ls C (WH.seti ho hW.2.1 hW.2.2 hP (by rw [cel_obj hk, fvs_seti ha hi]) (fun q hq => hset_ne hq)) hS1 hl hC hret
  rcases hw with hw | hw
  · exact va_put C.1 C.2.1 C.2.2.2.2.1 (cls_ws hb) (cTy b) (cls_ty hb) (cls_nm hb) C.2.2.2.1 hK0.1 hW.1 (wsh_D hW.2.1) hS o he (cls_get hb) a ha (C.2.2.2.2.1 _ (CW_in (wA_spec hw) rfl)) (fun x hx => by rw [cls_own b hb a ha] at hx; exact hx) hf (cls_ty hb a ha) hn.1 hn.2 (by rw [fvs_len]; exact ha) hd (fun H1 locs1 q1 _ q3 => kk H1 locs1 q1 q3)
  · exact va_putN C.1 C.2.1 C.2.2.2.2.1 (cls_ws hb) (cTy b) (cls_ty hb) (cls_nm hb) C.2.2.2.1 hK0.1 hW.1 (wsh_D hW.2.1) hS o he (cls_get hb) a ha (va_Nw.use rfl (hK0.2.1 _ (wA_spec hw) rfl)) (fun x hx => by rw [cls_own b hb a ha] at hx; exact hx) hf (cls_ty hb a ha) hn.1 hn.2 (by rw [fvs_len]; exact ha) hd (fun H1 locs1 q1 _ q3 => kk H1 locs1 q1 q3)
theorem sim_putr (l : Launch) (g : GP) : R_putr (Sim l g) := by
  intro μ n0 pc L st h Φ n a b cc d o j hlk hk ho hK p e R s m args below meth c H locs cells slots Q ls C hW hS hl hC hret
  have hc := tab_ok hlk
  simp only [cE, Bool.and_eq_true, decide_eq_true_eq, beq_iff_eq] at hc
  obtain ⟨⟨⟨⟨⟨⟨⟨hd, hb⟩, ha⟩, hi⟩, hf⟩, hin⟩, hm⟩, hw⟩ := hc
  replace hd := dI_spec hd
  obtain ⟨hd, rfl⟩ := hd
  subst hm
  have he := wsh_get (g := g) ho
  rw [cel_obj hk] at he
  have hK0 := C.2.2.2.2.2.2.1
  have hn : narrow (cTy (mC μ) a) (.ref (ad g j)) = .ref (ad g j) ∧ fits (cTy (mC μ) a) (.ref (ad g j)) = true := by
    unfold isr at hi
    cases hz : cTy (mC μ) a <;> rw [hz] at hi <;> first | (cases hi; done) | exact ⟨rfl, rfl⟩
  refine va_putF C.1 C.2.1 C.2.2.2.2.1 (cls_ws hb) (cTy _) (cls_ty hb) (cls_nm hb) C.2.2.2.1 hK0.1 hW.1 (wsh_D hW.2.1) hS o he (cls_get hb) a ha (C.2.2.2.2.1 _ (CW_in (wA_spec hw) rfl)) (fun x hx => by rw [cls_own _ hb a ha] at hx; exact hx) hf (C.2.2.2.2.2.1 hin) (cls_own _ hb a ha) (cls_ty hb a ha) hn.1 hn.2 (by rw [fvs_len]; exact ha) hd (fun H1 locs1 q1 _ q3 => ?_)
  exact hK p e R s m args below meth c H1 locs1 cells slots Q ls C (WH.setr ho hW.2.1 hW.2.2 q1 (by rw [cel_obj hk]; show _ = Sum.inr (mC μ, (fvs g h (mC μ) o).set a (.ref (ad g j))); rw [fvs_setr ha hi]) (fun q hq => rset_ne hq)) q3 hl hC hret
