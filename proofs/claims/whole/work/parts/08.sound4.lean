/-! SOUNDNESS: making cells, copying, calls, returns; the theorem. -/
section SZ
variable {l : Launch} {g : GP} {μ n0 : Nat} {p : Program} {e : Env} {R : Room} {s : State} {m : MethodId} {args : Array Value} {below : List Frame} {meth : Method} {c : Code} {H : Heap} {locs : List Loc} {cells slots : Nat} {Q : State → Prop} {h : HP}
theorem sz_eq {T : State} (C : CX g μ n0 p R s m args meth c) (hW : WH g h H) (hS : va_S (AG g) s.heap H locs) (hn : n0 ≤ h.1) (hc : cells ≤ h.1 - n0) (hT : T.heap = H) (X : Stand p l e R s m args below meth c T locs cells slots) : H.size = g.1.1 + h.1 := by
  have h1 := X.heapSize
  rw [hT, C.2.2.2.2.2.2.2.2.1] at h1
  have h2 := hS.1
  rw [C.2.2.2.2.2.2.2.2.1] at h2
  have h4 := hW.2.1
  unfold NT at h4
  by_cases h0 : h.1 = 0
  · omega
  · have h3 := (hW.1 (h.1 - 1) _ (wsh_get (by omega))).lt
    rw [ad_in (by omega)] at h3
    omega
theorem szW {f : JFrame} (C : CX g μ n0 p R s m args meth c) (hW : WH g h H) (hS : va_S (AG g) s.heap H locs) (hC : CN μ n0 h cells slots) (kk : H.size = g.1.1 + h.1 → W p l e R s m args below meth c H locs cells slots Q f) : W p l e R s m args below meth c H locs cells slots Q f := by
  intro T hT X
  exact kk (sz_eq C hW hS hC.1 (by rw [hC.2.2.1]; omega) hT X) T hT X
end SZ
theorem mkc_cel {g : GP} {h : HP} {c : Nat} (hc : c ≠ h.1) : cel g (mkc h) c = cel g h c := by
  refine cel_congr ?_ ?_
  · funext i; simp [mkc, hc]
  · funext i; simp [mkc, hc]
theorem mkc_wsh {g : GP} {h : HP} : wsh g (mkc h) = wsh g h ++ [(ad g h.1, cel g (mkc h) h.1)] := by
  unfold wsh
  show (List.range (h.1 + 1)).map _ = _
  rw [List.range_succ, List.map_append]
  congr 1
  refine List.map_congr_left (fun c hc => ?_)
  rw [mkc_cel (Nat.ne_of_lt (List.mem_range.mp hc))]
set_option maxRecDepth 20000 in
theorem kds_len : ∀ c, 110 ≤ c → c < 1000 → (kd c) = (9, 0) := by
  intro c h1 h2
  unfold kd
  rw [getD_big _ _ _ (Nat.le_trans (Nat.le_of_eq (by decide)) h1), if_neg (by omega)]
theorem mkc_SP {g : GP} {h : HP} (hn : h.1 < 1000) (hs : SP g h) : SP g (mkc h) := by
  have n0 : (1000 : Nat) ≠ h.1 := by omega
  have n1 : (1001 : Nat) ≠ h.1 := by omega
  have n2 : (1002 : Nat) ≠ h.1 := by omega
  obtain ⟨a1, a2, a3, a4, a5, a6⟩ := hs
  refine ⟨?_, ?_, ?_, ?_, ?_, ?_⟩
  · simp only [mkc, if_neg n0]; exact a1
  · funext i; simp only [mkc, if_neg n0]; rw [a2]
  · simp only [mkc, if_neg n1]; exact a3
  · funext i; simp only [mkc, if_neg n1]; rw [a4]
  · simp only [mkc, if_neg n2]; exact a5
  · funext i; simp only [mkc, if_neg n2]; rw [a6]
/-- a new cell's address is the next -/
theorem new_ad {g : GP} {h : HP} {e : va_E} {q : Nat} {H1 : Heap} (hn : h.1 ≤ NT) (hD : va_D (AG g) (wsh g h ++ [(q, e)])) (hz : q < H1.size) (hs : H1.size ≤ g.1.1 + h.1 + 1) : q = ad g h.1 := by
  unfold NT at hn
  rw [ad_in (by omega)]
  have hl : (wsh g h).length = h.1 := by simp [wsh]
  have hq : (wsh g h ++ [(q, e)])[h.1]? = some (q, e) := by
    rw [List.getElem?_append_right (by omega), hl]
    simp
  have h1 : g.1.1 ≤ q := hD.2 _ _ hq
  by_cases h2 : q < g.1.1 + h.1
  · have h3 : (wsh g h ++ [(q, e)])[q - g.1.1]? = some (ad g (q - g.1.1), cel g h (q - g.1.1)) := by
      rw [List.getElem?_append_left (by omega), wsh_get (by omega)]
    have h4 := hD.1 _ _ _ _ h3 hq (by rw [ad_in (by omega)]; show g.1.1 + (q - g.1.1) = q; omega)
    omega
  · omega
theorem szs_step : ∀ c, c < 110 → slt (c + 1) = slt c + (if (kd c).1 = 0 then cF (kd c).2 else (kd c).2) := by decide +kernel
theorem kd_small {c : Nat} {t N : Nat} (h : kd c = (t, N)) (ht : t < 6) (hc : c ≤ NT) : c < 110 := by
  unfold NT at hc
  by_cases h1 : c < 110
  · exact h1
  · rw [kds_len c (by omega) (by omega)] at h
    cases h
    omega
theorem dflt_ok : ∀ a, a < 8 → ∀ j, j < cF a → (match cTy a j with | .int => true | .boolean => true | .array _ => true | .object _ => true | _ => false) = true := by decide +kernel
set_option maxRecDepth 100000 in
theorem ini_tbl : ∀ ci, ci < 11 → Jvm.Cond.initialized (cN ci) ∈ lw_tbl := by decide +kernel
theorem ini_in (ci : Nat) (h : ci < 11) : Jvm.Cond.initialized (cN ci) ∈ CW := CW_in (ini_tbl ci h) rfl
theorem sim_new (l : Launch) (g : GP) : R_new (Sim l g) := by
  intro μ n0 pc L st h Φ n a b cc d hlk hk hn1 hn2 hK p e R s m args below meth c H locs cells slots Q ls C hW hS hl hC hret
  have hc := tab_ok hlk
  simp only [cE, Bool.and_eq_true, decide_eq_true_eq] at hc
  obtain ⟨⟨⟨hd, ha⟩, hw⟩, hw2⟩ := hc
  replace hd := dI_spec hd
  obtain ⟨hd, rfl⟩ := hd
  obtain ⟨hx, hb, hml, hown, hts, hnm, hK0, hX0, hsz, hRf, hRl, hRc, hRs⟩ := id C
  obtain ⟨c1, c2, c3, c4, c5, c6⟩ := hC
  have hlt := kd_small hk (by omega) hW.2.1
  have hstep := szs_step h.1 hlt
  rw [hk, if_pos rfl] at hstep
  dsimp only at hstep
  have hfs : ∀ j, j < cF a → defaultValue (cTy a j) = vp_V (fvs g (mkc h) a h.1) j := by
    intro j hj
    unfold vp_V
    rw [List.getD_eq_getElem?_getD, fvs_get hj]
    cases hz : cTy a j <;> simp [isr, hz, FieldType.isReference, defaultValue, mkc, rv, va_rf]
    all_goals exact absurd (dflt_ok a ha j hj) (by rw [hz]; decide)
  have hin : (Jvm.Cond.initialized (cN a)).before args s = true := hts _ (ini_in a (by omega))
  refine va_new hx hb hts (cls_ws ha) (cTy a) (cls_ty ha) hown (hts _ (CW_in (wA_spec hw) rfl)) (hts _ (CW_in (wA_spec hw2) rfl)) hin hK0.1 hW.1 (wsh_D hW.2.1) hS (fun q hq => by unfold AG; omega) (cls_get ha) hfs (by omega) (by omega) hd (fun q H1 hP1 hD1 hS1 => ?_)
  intro T hT X
  have hz := X.heapSize
  rw [hT, hsz] at hz
  have hlq : q < H1.size := by
    have h3 := hP1 h.1 (q, .inr (a, fvs g (mkc h) a h.1)) (by rw [List.getElem?_append_right (by simp [wsh])]; simp [wsh])
    exact h3.lt
  have hq := new_ad hW.2.1 hD1 hlq (by omega)
  subst hq
  have hcel : cel g (mkc h) h.1 = .inr (a, fvs g (mkc h) a h.1) := cel_obj hk
  rw [← hcel, ← mkc_wsh] at hP1
  have hn1' : (mkc h).1 = h.1 + 1 := rfl
  have hW' : WH g (mkc h) H1 := ⟨hP1, by show h.1 + 1 ≤ NT; unfold NT; omega, mkc_SP (by omega) hW.2.2⟩
  exact hK p e R s m args below meth c H1 locs (cells + 1) (slots + cF a) Q ls C hW' hS1 hl ⟨by omega, by omega, by omega, by rw [hn1']; omega, by rw [hn1']; omega, by rw [hn1']; omega⟩ hret T hT X
theorem sim_newa (l : Launch) (g : GP) : R_newa (Sim l g) := by
  intro μ n0 pc L st h Φ n t a b cc d N hlk ht hk hn1 hn2 hK p e R s m args below meth c H locs cells slots Q ls C hW hS hl hC hret
  have hc := tab_ok hlk
  obtain ⟨hx, hb, hml, hown, hts, hnm, hK0, hX0, hsz, hRf, hRl, hRc, hRs⟩ := id C
  obtain ⟨c1, c2, c3, c4, c5, c6⟩ := hC
  have hn1' : (mkc h).1 = h.1 + 1 := rfl
  have hNb : ∀ c, c < 110 → (kd c).1 = 0 ∨ (kd c).2 < 100000 := by decide +kernel
  rcases ht with rfl | rfl
  · simp only [cE, Bool.or_eq_true, Bool.and_eq_true, beq_iff_eq] at hc
    obtain ⟨⟨hd, ha⟩, hw⟩ := hc
    replace hd := dI_spec hd
    obtain ⟨hd, rfl⟩ := hd
    have hlt := kd_small hk (by omega) hW.2.1
    have hstep := szs_step h.1 hlt
    rw [hk, if_neg (by show ¬ a = 0; omega)] at hstep
    have hN : N < 100000 := by
      rcases hNb h.1 hlt with h1 | h1
      · rw [hk] at h1; simp at h1; omega
      · rw [hk] at h1; exact h1
    have hcl : (nI N).toNatClampNeg = N := nI_clamp (by omega)
    have go : ∀ (q : Nat) (cA : ClassId) (H1 : Heap), va_K g.2.2.1 vwCl (tysL g ++ [(cA, fty a)]) s → va_P g.2.2.1 vwCl (wsh g h ++ [(q, .inl (cA, N, .inl (fun _ => 0)))]) H1 → va_D (AG g) (wsh g h ++ [(q, .inl (cA, N, .inl (fun _ => 0)))]) → va_S (AG g) s.heap H1 locs →
        W p l e R s m args below meth c H1 locs (cells + 1) (slots + N) Q (F0 m (pc + 2) ls (.ref q :: st.map (cv g))) := by
      intro q cA H1 hKa hP1 hD1 hS1 T hT X
      have hz := X.heapSize
      rw [hT, hsz] at hz
      have hlq : q < H1.size := by
        have h3 := hP1 h.1 (q, .inl (cA, N, .inl (fun _ => 0))) (by rw [List.getElem?_append_right (by simp [wsh])]; simp [wsh])
        exact h3.lt
      have hq := new_ad hW.2.1 hD1 hlq (by omega)
      subst hq
      have hsame : cA = g.2.2.2 a := by
        have k1 := (hKa.2 6 (cA, fty a) rfl).2
        have k2 := (hK0.1.2 a (g.2.2.2 a, fty a) (tys_get (by omega))).2
        rcases ha with (rfl | rfl) | rfl <;> exact Option.some.inj (k1.symm.trans k2)
      subst hsame
      have hcel : cel g (mkc h) h.1 = .inl (g.2.2.2 a, N, .inl (fun _ => 0)) := by
        rw [cel_arr hk (by omega)]
        congr 3
        simp [mkc]
      rw [← hcel, ← mkc_wsh] at hP1
      have hW' : WH g (mkc h) H1 := ⟨hP1, by show h.1 + 1 ≤ NT; unfold NT; omega, mkc_SP (by omega) hW.2.2⟩
      exact hK p e R s m args below meth c H1 locs (cells + 1) (slots + N) Q ls C hW' hS1 hl ⟨by omega, by omega, by omega, by rw [hn1']; omega, by rw [hn1']; omega, by rw [hn1']; omega⟩ hret T hT X
    rcases ha with (rfl | rfl) | rfl
    · exact va_newa (atype := .int) hx hb (hts _ (CW_in (wA_spec hw) rfl)) rfl hK0.1 hW.1 (wsh_D hW.2.1) hS (fun q hq => by unfold AG; omega) (a0 := (N, .inl (fun _ => 0))) (fun cA => rfl) (nI_pos (by omega)) hcl (by show N * 4 ≤ _; omega) (by omega) (by omega) hd go
    · exact va_newa (atype := .boolean) hx hb (hts _ (CW_in (wA_spec hw) rfl)) rfl hK0.1 hW.1 (wsh_D hW.2.1) hS (fun q hq => by unfold AG; omega) (a0 := (N, .inl (fun _ => 0))) (fun cA => rfl) (nI_pos (by omega)) hcl (by show N * 1 ≤ _; omega) (by omega) (by omega) hd go
    · exact va_newa (atype := .byte) hx hb (hts _ (CW_in (wA_spec hw) rfl)) rfl hK0.1 hW.1 (wsh_D hW.2.1) hS (fun q hq => by unfold AG; omega) (a0 := (N, .inl (fun _ => 0))) (fun cA => rfl) (nI_pos (by omega)) hcl (by show N * 1 ≤ _; omega) (by omega) (by omega) hd go
  · simp only [cE, Bool.or_eq_true, Bool.and_eq_true, beq_iff_eq] at hc
    obtain ⟨hd, ha⟩ := hc
    replace hd := dI_spec hd
    obtain ⟨hd, rfl⟩ := hd
    have ha' : a = 4 ∨ a = 5 := ha.elim (fun z => Or.inl z.1) (fun z => Or.inr z.1)
    have hlt := kd_small hk (by omega) hW.2.1
    have hstep := szs_step h.1 hlt
    rw [hk, if_neg (by show ¬ a = 0; omega)] at hstep
    have hN : N < 100000 := by
      rcases hNb h.1 hlt with h1 | h1
      · rw [hk] at h1; simp at h1; omega
      · rw [hk] at h1; exact h1
    have hcl : (nI N).toNatClampNeg = N := nI_clamp (by omega)
    have go : ∀ (q : Nat) (cA : ClassId) (H1 : Heap), va_K g.2.2.1 vwCl (tysL g ++ [(cA, fty a)]) s → va_P g.2.2.1 vwCl (wsh g h ++ [(q, .inl (cA, N, .inr (.inr (.inr (.inr (fun _ => none))))))]) H1 → va_D (AG g) (wsh g h ++ [(q, .inl (cA, N, .inr (.inr (.inr (.inr (fun _ => none))))))]) → va_S (AG g) s.heap H1 locs →
        W p l e R s m args below meth c H1 locs (cells + 1) (slots + N) Q (F0 m (pc + 3) ls (.ref q :: st.map (cv g))) := by
      intro q cA H1 hKa hP1 hD1 hS1 T hT X
      have hz := X.heapSize
      rw [hT, hsz] at hz
      have hlq : q < H1.size := by
        have h3 := hP1 h.1 (q, .inl (cA, N, .inr (.inr (.inr (.inr (fun _ => none)))))) (by rw [List.getElem?_append_right (by simp [wsh])]; simp [wsh])
        exact h3.lt
      have hq := new_ad hW.2.1 hD1 hlq (by omega)
      subst hq
      have hsame : cA = g.2.2.2 a := by
        have k1 := (hKa.2 6 (cA, fty a) rfl).2
        have k2 := (hK0.1.2 a (g.2.2.2 a, fty a) (tys_get (by omega))).2
        rcases ha' with rfl | rfl <;> (obtain ⟨_, _, _, _, _, k1⟩ := k1; obtain ⟨_, _, _, _, _, k2⟩ := k2; exact Option.some.inj (k1.symm.trans k2))
      subst hsame
      have hcel : cel g (mkc h) h.1 = .inl (g.2.2.2 a, N, .inr (.inr (.inr (.inr (fun _ => none))))) := by
        rw [cel_ref hk ha']
        congr 6
        simp [mkc, rv]
      rw [← hcel, ← mkc_wsh] at hP1
      have hW' : WH g (mkc h) H1 := ⟨hP1, by show h.1 + 1 ≤ NT; unfold NT; omega, mkc_SP (by omega) hW.2.2⟩
      exact hK p e R s m args below meth c H1 locs (cells + 1) (slots + N) Q ls C hW' hS1 hl ⟨by omega, by omega, by omega, by rw [hn1']; omega, by rw [hn1']; omega, by rw [hn1']; omega⟩ hret T hT X
    rcases ha with ⟨rfl, hw⟩ | ⟨rfl, hw⟩
    · exact va_newq hx hb hown (hts _ (CW_in (wA_spec hw) rfl)) hK0.2.2.1 hK0.1 hW.1 (wsh_D hW.2.1) hS (fun q hq => by unfold AG; omega) (nI_pos (by omega)) hcl (by omega) (by omega) (by omega) hd go
    · exact va_newq hx hb hown (hts _ (CW_in (wA_spec hw) rfl)) hK0.2.2.2 hK0.1 hW.1 (wsh_D hW.2.1) hS (fun q hq => by unfold AG; omega) (nI_pos (by omega)) hcl (by omega) (by omega) (by omega) hd go
