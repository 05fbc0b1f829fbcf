/-! THE LAW: its loop; the whole run. -/
theorem l5_neg : ∀ L, L < 5 → ∀ i, i < 5 → nI L - nI 5 < nI i := by decide
theorem sw_out : ∀ k, k < 32 → 19 ≤ k → swt 12 (nI k) = 682 := by decide
set_option maxRecDepth 100000 in
theorem law_loop {L : Nat} {xs : Nat → Int32} (hL : L ≤ 2560) : ∀ d i, L ≤ i + d → i ≤ L → ∀ (kf : Nat → Nat) (F : Nat → Nat → Int32) (S : ST), VS S → RepC kf F S → RepM F S → F 1000 = xs →
    Run n_L_law 0 20 [some (.ref 1000), some (.ref 0), some (.ref 98), some (.int (nI i))] [.ref 1000, .int (nI i)] (HH L kf F) (fun v _ => v = some (.int 1)) := by
  have hT : mT n_L_law = tb_L_law := rfl
  have ends : ∀ i, i ≤ L → L < i + 5 → ∀ (kf : Nat → Nat) (F : Nat → Nat → Int32), Run n_L_law 0 20 [some (.ref 1000), some (.ref 0), some (.ref 98), some (.int (nI i))] [.ref 1000, .int (nI i)] (HH L kf F) (fun v _ => v = some (.int 1)) := by
    intro i h1 h2 kf F
    refine g_lenx hT rfl ?_
    refine v_p hT rfl rfl ?_
    have hc : nI L - nI 5 < nI i := by
      by_cases h5 : L < 5
      · exact l5_neg L h5 i (by omega)
      · rw [pk_sub (by omega)]
        exact (cj_gt (a := i) (b := L - 5) (by omega) (by omega)).mpr (by omega)
    refine g_cmp hT rfl (fun cq => ?_) (fun cq => ?_)
    · refine v_p hT rfl rfl ?_
      exact g_ret hT rfl (fun _ => Or.inr rfl) rfl rfl
    · exact absurd hc cq
  intro d
  induction d with
  | zero =>
    intro i h1 h2 kf F S hV hC hM hx
    exact ends i h2 (by omega) kf F
  | succ d ih =>
    intro i h1 h2 kf F S hV hC hM hx
    by_cases h5 : L < i + 5
    · exact ends i h2 h5 kf F
    · have hi : i + 5 ≤ L := by omega
      have nx : Nx L i xs (fun v _ => v = some (.int 1)) := by
        intro kf2 F2 S2 hV2 hC2 hM2 hx2
        have g := ih (i + 5) (by omega) hi kf2 F2 S2 hV2 hC2 hM2 hx2
        refine v_p hT rfl rfl ?_
        rw [nI_add]
        exact g
      refine g_lenx hT rfl ?_
      refine v_p hT rfl rfl ?_
      rw [pk_sub (by omega)]
      refine g_cmp hT rfl (fun cq => ?_) (fun cq => ?_)
      · exact absurd ((cj_gt (by omega) (by omega)).mp cq) (by omega)
      · refine v_p hT rfl rfl ?_
        refine g_aldx hT rfl hL (by omega) ?_
        rw [hx]
        refine v_p hT rfl rfl ?_
        obtain ⟨k, hk, e⟩ := pk_andE (xs i) (m := nI 31) 5 (by decide)
        rw [e]
        by_cases hb : 19 ≤ k
        · refine g_sw hT rfl (Or.inl rfl) (sw_out k hk hb) ?_
          exact nx kf F S hV hC hM hx
        · rcases (show k = 0 ∨ k = 1 ∨ k = 2 ∨ k = 3 ∨ k = 4 ∨ k = 5 ∨ k = 6 ∨ k = 7 ∨ k = 8 ∨ k = 9 ∨ k = 10 ∨ k = 11 ∨ k = 12 ∨ k = 13 ∨ k = 14 ∨ k = 15 ∨ k = 16 ∨ k = 17 ∨ k = 18 by omega) with q | q | q | q | q | q | q | q | q | q | q | q | q | q | q | q | q | q | q <;> subst q
          · exact g_sw hT rfl (Or.inl rfl) (pc' := 124) rfl (law_para hL hi hV hC hM hx nx)
          · exact g_sw hT rfl (Or.inl rfl) (pc' := 167) rfl (law_drops hL hi hV hC hM hx nx)
          · exact g_sw hT rfl (Or.inl rfl) (pc' := 200) rfl (law_widths hL hi hV hC hM hx nx)
          · exact g_sw hT rfl (Or.inl rfl) (pc' := 233) rfl (law_sets hL hi hV hC hM hx nx)
          · exact g_sw hT rfl (Or.inl rfl) (pc' := 266) rfl (law_ties hL hi hV hC hM hx nx)
          · exact g_sw hT rfl (Or.inl rfl) (pc' := 309) rfl (law_unties hL hi hV hC hM hx nx)
          · exact g_sw hT rfl (Or.inl rfl) (pc' := 332) rfl (law_of hL hi hV hC hM hx nx)
          · exact g_sw hT rfl (Or.inl rfl) (pc' := 375) rfl (law_word hL hi hV hC hM hx nx)
          · exact g_sw hT rfl (Or.inl rfl) (pc' := 428) rfl (law_tie hL hi hV hC hM hx nx)
          · exact g_sw hT rfl (Or.inl rfl) (pc' := 461) rfl (law_crossing hL hi hV hC hM hx nx)
          · exact g_sw hT rfl (Or.inl rfl) (pc' := 494) rfl (law_lawful hL hi hV hC hM hx nx)
          · exact g_sw hT rfl (Or.inl rfl) (pc' := 527) rfl (law_opening hL hi hV hC hM hx nx)
          · exact g_sw hT rfl (Or.inl rfl) (pc' := 560) rfl (law_count hL hi hV hC hM hx nx)
          · exact g_sw hT rfl (Or.inl rfl) (pc' := 583) rfl (law_type hL hi hV hC hM hx nx)
          · exact g_sw hT rfl (Or.inl rfl) (pc' := 606) rfl (law_clear hL hi hV hC hM hx nx)
          · exact g_sw hT rfl (Or.inl rfl) (pc' := 619) rfl (law_does hL hi hV hC hM hx nx)
          · exact g_sw hT rfl (Or.inl rfl) (pc' := 632) rfl (law_back hL hi hV hC hM hx nx)
          · exact g_sw hT rfl (Or.inl rfl) (pc' := 645) rfl (law_told hL hi hV hC hM hx nx)
          · exact g_sw hT rfl (Or.inl rfl) (pc' := 668) rfl (law_digest hV hC hM hx nx)
theorem whole_run (L : Nat) (xs : Nat → Int32) (hL : L ≤ 2560) : Run n_L_law 0 0 (ini n_L_law [.ref 1000]) [] (hp0 L xs) (fun v _ => v = some (.int 1)) := by
  obtain ⟨F, hC, hM, hx, hs⟩ := law_start L xs
  exact hs _ (law_loop hL L 0 (by omega) (by omega) kf0 F S0 VS_0 hC hM hx)
