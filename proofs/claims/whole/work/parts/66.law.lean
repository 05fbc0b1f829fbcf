/-! THE LAW: its calls. -/
section LAWROWS
variable {μ n0 pc m : Nat} {kf : Nat → Nat} {f : Nat → Nat → Int32} {L : LT} {st : List Value} {Φ : PT} {T : Tab}
theorem g_aldx (hT : mT μ = T) {n a b c d j : Nat} (e : lk T pc = some (n, 50, a, b, c, d)) (hm : m ≤ 2560) (hj : j < m) (k : Run μ n0 (pc + n) L (.int (f 1000 j) :: st) (HH m kf f) Φ) : Run μ n0 pc L (.int (nI j) :: .ref 1000 :: st) (HH m kf f) Φ := r_aldx _ _ _ _ _ _ _ _ _ _ _ _ _ _ (by rw [hT]; exact e) rfl (vp_in_nI (show j < RR m kf 1000 0 from hj) (show RR m kf 1000 0 < 2 ^ 31 from Nat.lt_of_le_of_lt hm (by decide))) (by rw [nI_clamp (show j < 2 ^ 31 by omega)]; exact k)
theorem g_lenx (hT : mT μ = T) {n a b c d : Nat} (e : lk T pc = some (n, 56, a, b, c, d)) (k : Run μ n0 (pc + n) L (.int (nI m) :: st) (HH m kf f) Φ) : Run μ n0 pc L (.ref 1000 :: st) (HH m kf f) Φ := r_lenx _ _ _ _ _ _ _ _ _ _ _ _ _ (by rw [hT]; exact e) rfl k
end LAWROWS
theorem RepM_ot {f F : Nat → Nat → Int32} {S : ST} (h : RepM f S) (hc : ∀ c, 97 < c → F c = f c) : RepM F S := by
  obtain ⟨a1, a2, a3, a4, kn, a5, a6⟩ := h
  exact ⟨by rw [hc 100 (by omega)]; exact a1, stM_fr a2 (by rw [hc 98 (by omega)]) (hc 101 (by omega)), ⟨by rw [hc 98 (by omega)]; exact a3.1, fun k hk => by rw [hc 109 (by omega)]; exact a3.2 k hk⟩, fun i hi => by rw [hc 99 (by omega)]; exact a4 i hi, kn, by rw [hc 98 (by omega)]; exact a5, fun z => knR_fr (a6 z) (fun i _ => by rw [hc 98 (by omega)]) (fun c _ => hc c (by omega))⟩
theorem VS_q {S : ST} (hV : VS S) {c : Bool} {x : Int32} : VS (bif c then (x, S) else (mI 2, refu S 0)).2 := by
  cases c
  · exact VS_refu hV
  · exact hV
theorem VS_para {S : ST} (hV : VS S) (s n sd : Int32) : VS (oPara S s n sd).2 := by
  unfold oPara
  cases hall : (decide (0 ≤ s ∧ s ≤ 1) && decide (nI 1 ≤ n ∧ n ≤ nI 12) && decide (nI 0 ≤ sd ∧ sd ≤ nI 99)) with
  | false => exact VS_refu hV
  | true =>
    rw [Bool.and_eq_true, Bool.and_eq_true] at hall
    obtain ⟨⟨c1, c2⟩, c3⟩ := hall
    obtain ⟨N, n1, n2, n3⟩ := in_range n (by omega) (of_decide_eq_true c2) (by omega)
    obtain ⟨Z, z1, z2⟩ : ∃ Z, Z < 2 ∧ s = nI Z := by
      rcases int_lo (of_decide_eq_true c1) with e | e
      · exact ⟨0, by omega, e⟩
      · exact ⟨1, by omega, e⟩
    subst n3; subst z2
    rw [nI_tn (show N < 2 ^ 31 by omega), nI_tn (show Z < 2 ^ 31 by omega)]
    have h := aPar_ok hV.1 z1 n1 n2 (fun k => nI (sdN sd.toNatClampNeg k))
    exact VS_chg hV h.1 h.2
theorem VS_clear {S : ST} (hV : VS S) : VS (oClear S).2 := ⟨hV.1, hV.2.1, Nat.zero_le _, fun k hk => absurd hk (Nat.not_lt_zero _)⟩
theorem VS_does {S : ST} (hV : VS S) : VS (oDoes S).2 := by
  unfold oDoes
  have hok := fun Q => readF_ok hV.2.2 (Q := Q)
  generalize readF S.2.2.1 = R at hok
  obtain ⟨i, oq⟩ := R
  cases oq with
  | none => exact hV
  | some Q =>
    obtain ⟨hI, hW⟩ := hok Q rfl
    have h120 := hV.2.2.1
    have hno : qNo Q < 1000 := by have := hI.1; omega
    have hd := doS_ok hW (qNo Q) 0 S.1 (by omega) hV.1
    show VS (match doS Q (qNo Q) 0 S.1 with | (o, none) => (mI 1000 - nI o, S) | (_, some B) => chg S (nI (qNo Q), B) : Int32 × ST).2
    generalize doS Q (qNo Q) 0 S.1 = D at hd
    obtain ⟨o, ob⟩ := D
    cases ob with
    | none => exact hV
    | some B => exact VS_chg (r := (nI (qNo Q), B)) hV (hd B rfl) (Or.inr (Or.inr (Or.inr ⟨qNo Q, hno, rfl⟩)))
/-- behind a call: both hold the same state, the script stands -/
def Nx (L i : Nat) (xs : Nat → Int32) (Φ : PT) : Prop := ∀ (kf : Nat → Nat) (F : Nat → Nat → Int32) (S : ST), VS S → RepC kf F S → RepM F S → F 1000 = xs → Run n_L_law 0 682 [some (.ref 1000), some (.ref 0), some (.ref 98), some (.int (nI i))] [] (HH L kf F) Φ
section LAW
variable {L i : Nat} {xs : Nat → Int32} {Φ : PT} {kf : Nat → Nat} {F : Nat → Nat → Int32} {S : ST}
set_option maxRecDepth 100000 in
theorem law_para (hL : L ≤ 2560) (hi : i + 5 ≤ L) (hV : VS S) (hC : RepC kf F S) (hM : RepM F S) (hx : F 1000 = xs) (nx : Nx L i xs Φ) : Run n_L_law 0 124 [some (.ref 1000), some (.ref 0), some (.ref 98), some (.int (nI i))] [] (HH L kf F) Φ := by
  have hT : mT n_L_law = tb_L_law := rfl
  obtain ⟨kf2, F2, c1, c2, c3⟩ := C_para hV (xs (i + 1)) (xs (i + 2)) (xs (i + 3)) L kf F hC
  obtain ⟨F3, m1, m2, m3⟩ := M_para hV (xs (i + 1)) (xs (i + 2)) (xs (i + 3)) L kf2 F2 (RepM_ot hM c3)
  have hx2 : F2 1000 = xs := by rw [c3 1000 (by omega)]; exact hx
  have hx3 : F3 1000 = xs := by rw [m3 1000 (by omega)]; exact hx2
  have hV2 : VS (oPara S (xs (i + 1)) (xs (i + 2)) (xs (i + 3))).2 := VS_para hV (xs (i + 1)) (xs (i + 2)) (xs (i + 3))
  have hC3 : RepC kf2 F3 (oPara S (xs (i + 1)) (xs (i + 2)) (xs (i + 3))).2 := RepC_fr hV2 c2 (fun c hc => m3 c (by omega)) (by rw [m3 75 (by omega)])
  refine v_p hT rfl rfl ?_
  rw [nI_add]
  refine g_aldx hT rfl hL (by omega) ?_
  rw [hx]
  refine v_p hT rfl rfl ?_
  rw [nI_add]
  refine g_aldx hT rfl hL (by omega) ?_
  rw [hx]
  refine v_p hT rfl rfl ?_
  rw [nI_add]
  refine g_aldx hT rfl hL (by omega) ?_
  rw [hx]
  refine g_call hT [.int (xs (i + 1)), .int (xs (i + 2)), .int (xs (i + 3))] rfl rfl rfl (Nat.le_of_ble_eq_true rfl) rfl rfl (Nat.le_of_ble_eq_true rfl) (Nat.le_of_ble_eq_true rfl) c1 ?_
  refine v_p hT rfl rfl ?_
  rw [nI_add]
  refine g_aldx hT rfl hL (by omega) ?_
  rw [hx2]
  refine v_p hT rfl rfl ?_
  rw [nI_add]
  refine g_aldx hT rfl hL (by omega) ?_
  rw [hx2]
  refine v_p hT rfl rfl ?_
  rw [nI_add]
  refine g_aldx hT rfl hL (by omega) ?_
  rw [hx2]
  refine g_call hT [.int (xs (i + 1)), .int (xs (i + 2)), .int (xs (i + 3))] rfl rfl rfl (Nat.le_of_ble_eq_true rfl) rfl rfl (Nat.le_of_ble_eq_true rfl) (Nat.le_of_ble_eq_true rfl) m1 ?_
  refine g_cmp hT rfl (fun cq => ?_) (fun cq => ?_)
  · exact nx kf2 F3 _ hV2 hC3 m2 hx3
  · exact absurd rfl cq
set_option maxRecDepth 100000 in
theorem law_drops (hL : L ≤ 2560) (hi : i + 5 ≤ L) (hV : VS S) (hC : RepC kf F S) (hM : RepM F S) (hx : F 1000 = xs) (nx : Nx L i xs Φ) : Run n_L_law 0 167 [some (.ref 1000), some (.ref 0), some (.ref 98), some (.int (nI i))] [] (HH L kf F) Φ := by
  have hT : mT n_L_law = tb_L_law := rfl
  obtain ⟨kf2, F2, c1, c2, c3⟩ := C_drops hV (xs (i + 1)) (xs (i + 2)) L kf F hC
  obtain ⟨F3, m1, m2, m3⟩ := M_drops hV (xs (i + 1)) (xs (i + 2)) L kf2 F2 (RepM_ot hM c3)
  have hx2 : F2 1000 = xs := by rw [c3 1000 (by omega)]; exact hx
  have hx3 : F3 1000 = xs := by rw [m3 1000 (by omega)]; exact hx2
  have hV2 : VS (chg S (aDrop S.1 (xs (i + 1)) (xs (i + 2)))).2 := VS_chg hV (aDrop_ok hV.1 (xs (i + 1)) (xs (i + 2))).1 (aDrop_ok hV.1 (xs (i + 1)) (xs (i + 2))).2
  have hC3 : RepC kf2 F3 (chg S (aDrop S.1 (xs (i + 1)) (xs (i + 2)))).2 := RepC_fr hV2 c2 (fun c hc => m3 c (by omega)) (by rw [m3 75 (by omega)])
  refine v_p hT rfl rfl ?_
  rw [nI_add]
  refine g_aldx hT rfl hL (by omega) ?_
  rw [hx]
  refine v_p hT rfl rfl ?_
  rw [nI_add]
  refine g_aldx hT rfl hL (by omega) ?_
  rw [hx]
  refine g_call hT [.int (xs (i + 1)), .int (xs (i + 2))] rfl rfl rfl (Nat.le_of_ble_eq_true rfl) rfl rfl (Nat.le_of_ble_eq_true rfl) (Nat.le_of_ble_eq_true rfl) c1 ?_
  refine v_p hT rfl rfl ?_
  rw [nI_add]
  refine g_aldx hT rfl hL (by omega) ?_
  rw [hx2]
  refine v_p hT rfl rfl ?_
  rw [nI_add]
  refine g_aldx hT rfl hL (by omega) ?_
  rw [hx2]
  refine g_call hT [.int (xs (i + 1)), .int (xs (i + 2))] rfl rfl rfl (Nat.le_of_ble_eq_true rfl) rfl rfl (Nat.le_of_ble_eq_true rfl) (Nat.le_of_ble_eq_true rfl) m1 ?_
  refine g_cmp hT rfl (fun cq => ?_) (fun cq => ?_)
  · exact nx kf2 F3 _ hV2 hC3 m2 hx3
  · exact absurd rfl cq
set_option maxRecDepth 100000 in
theorem law_widths (hL : L ≤ 2560) (hi : i + 5 ≤ L) (hV : VS S) (hC : RepC kf F S) (hM : RepM F S) (hx : F 1000 = xs) (nx : Nx L i xs Φ) : Run n_L_law 0 200 [some (.ref 1000), some (.ref 0), some (.ref 98), some (.int (nI i))] [] (HH L kf F) Φ := by
  have hT : mT n_L_law = tb_L_law := rfl
  obtain ⟨kf2, F2, c1, c2, c3⟩ := C_widths hV (xs (i + 1)) (xs (i + 2)) L kf F hC
  obtain ⟨F3, m1, m2, m3⟩ := M_widths hV (xs (i + 1)) (xs (i + 2)) L kf2 F2 (RepM_ot hM c3)
  have hx2 : F2 1000 = xs := by rw [c3 1000 (by omega)]; exact hx
  have hx3 : F3 1000 = xs := by rw [m3 1000 (by omega)]; exact hx2
  have hV2 : VS (chg S (aWid S.1 (xs (i + 1)) (xs (i + 2)))).2 := VS_chg hV (aWid_ok hV.1 (xs (i + 1)) (xs (i + 2))).1 (aWid_ok hV.1 (xs (i + 1)) (xs (i + 2))).2
  have hC3 : RepC kf2 F3 (chg S (aWid S.1 (xs (i + 1)) (xs (i + 2)))).2 := RepC_fr hV2 c2 (fun c hc => m3 c (by omega)) (by rw [m3 75 (by omega)])
  refine v_p hT rfl rfl ?_
  rw [nI_add]
  refine g_aldx hT rfl hL (by omega) ?_
  rw [hx]
  refine v_p hT rfl rfl ?_
  rw [nI_add]
  refine g_aldx hT rfl hL (by omega) ?_
  rw [hx]
  refine g_call hT [.int (xs (i + 1)), .int (xs (i + 2))] rfl rfl rfl (Nat.le_of_ble_eq_true rfl) rfl rfl (Nat.le_of_ble_eq_true rfl) (Nat.le_of_ble_eq_true rfl) c1 ?_
  refine v_p hT rfl rfl ?_
  rw [nI_add]
  refine g_aldx hT rfl hL (by omega) ?_
  rw [hx2]
  refine v_p hT rfl rfl ?_
  rw [nI_add]
  refine g_aldx hT rfl hL (by omega) ?_
  rw [hx2]
  refine g_call hT [.int (xs (i + 1)), .int (xs (i + 2))] rfl rfl rfl (Nat.le_of_ble_eq_true rfl) rfl rfl (Nat.le_of_ble_eq_true rfl) (Nat.le_of_ble_eq_true rfl) m1 ?_
  refine g_cmp hT rfl (fun cq => ?_) (fun cq => ?_)
  · exact nx kf2 F3 _ hV2 hC3 m2 hx3
  · exact absurd rfl cq
set_option maxRecDepth 100000 in
theorem law_sets (hL : L ≤ 2560) (hi : i + 5 ≤ L) (hV : VS S) (hC : RepC kf F S) (hM : RepM F S) (hx : F 1000 = xs) (nx : Nx L i xs Φ) : Run n_L_law 0 233 [some (.ref 1000), some (.ref 0), some (.ref 98), some (.int (nI i))] [] (HH L kf F) Φ := by
  have hT : mT n_L_law = tb_L_law := rfl
  obtain ⟨kf2, F2, c1, c2, c3⟩ := C_sets hV (xs (i + 1)) (xs (i + 2)) L kf F hC
  obtain ⟨F3, m1, m2, m3⟩ := M_sets hV (xs (i + 1)) (xs (i + 2)) L kf2 F2 (RepM_ot hM c3)
  have hx2 : F2 1000 = xs := by rw [c3 1000 (by omega)]; exact hx
  have hx3 : F3 1000 = xs := by rw [m3 1000 (by omega)]; exact hx2
  have hV2 : VS (chg S (aSet S.1 (xs (i + 1)) (xs (i + 2)))).2 := VS_chg hV (aSet_ok hV.1 (xs (i + 1)) (xs (i + 2))).1 (aSet_ok hV.1 (xs (i + 1)) (xs (i + 2))).2
  have hC3 : RepC kf2 F3 (chg S (aSet S.1 (xs (i + 1)) (xs (i + 2)))).2 := RepC_fr hV2 c2 (fun c hc => m3 c (by omega)) (by rw [m3 75 (by omega)])
  refine v_p hT rfl rfl ?_
  rw [nI_add]
  refine g_aldx hT rfl hL (by omega) ?_
  rw [hx]
  refine v_p hT rfl rfl ?_
  rw [nI_add]
  refine g_aldx hT rfl hL (by omega) ?_
  rw [hx]
  refine g_call hT [.int (xs (i + 1)), .int (xs (i + 2))] rfl rfl rfl (Nat.le_of_ble_eq_true rfl) rfl rfl (Nat.le_of_ble_eq_true rfl) (Nat.le_of_ble_eq_true rfl) c1 ?_
  refine v_p hT rfl rfl ?_
  rw [nI_add]
  refine g_aldx hT rfl hL (by omega) ?_
  rw [hx2]
  refine v_p hT rfl rfl ?_
  rw [nI_add]
  refine g_aldx hT rfl hL (by omega) ?_
  rw [hx2]
  refine g_call hT [.int (xs (i + 1)), .int (xs (i + 2))] rfl rfl rfl (Nat.le_of_ble_eq_true rfl) rfl rfl (Nat.le_of_ble_eq_true rfl) (Nat.le_of_ble_eq_true rfl) m1 ?_
  refine g_cmp hT rfl (fun cq => ?_) (fun cq => ?_)
  · exact nx kf2 F3 _ hV2 hC3 m2 hx3
  · exact absurd rfl cq
set_option maxRecDepth 100000 in
theorem law_ties (hL : L ≤ 2560) (hi : i + 5 ≤ L) (hV : VS S) (hC : RepC kf F S) (hM : RepM F S) (hx : F 1000 = xs) (nx : Nx L i xs Φ) : Run n_L_law 0 266 [some (.ref 1000), some (.ref 0), some (.ref 98), some (.int (nI i))] [] (HH L kf F) Φ := by
  have hT : mT n_L_law = tb_L_law := rfl
  obtain ⟨kf2, F2, c1, c2, c3⟩ := C_ties hV (xs (i + 1)) (xs (i + 2)) (xs (i + 3)) L kf F hC
  obtain ⟨F3, m1, m2, m3⟩ := M_ties hV (xs (i + 1)) (xs (i + 2)) (xs (i + 3)) L kf2 F2 (RepM_ot hM c3)
  have hx2 : F2 1000 = xs := by rw [c3 1000 (by omega)]; exact hx
  have hx3 : F3 1000 = xs := by rw [m3 1000 (by omega)]; exact hx2
  have hV2 : VS (chg S (aTie S.1 (xs (i + 1)) (xs (i + 2)) (xs (i + 3)))).2 := VS_chg hV (aTie_ok hV.1 (xs (i + 1)) (xs (i + 2)) (xs (i + 3))).1 (aTie_ok hV.1 (xs (i + 1)) (xs (i + 2)) (xs (i + 3))).2
  have hC3 : RepC kf2 F3 (chg S (aTie S.1 (xs (i + 1)) (xs (i + 2)) (xs (i + 3)))).2 := RepC_fr hV2 c2 (fun c hc => m3 c (by omega)) (by rw [m3 75 (by omega)])
  refine v_p hT rfl rfl ?_
  rw [nI_add]
  refine g_aldx hT rfl hL (by omega) ?_
  rw [hx]
  refine v_p hT rfl rfl ?_
  rw [nI_add]
  refine g_aldx hT rfl hL (by omega) ?_
  rw [hx]
  refine v_p hT rfl rfl ?_
  rw [nI_add]
  refine g_aldx hT rfl hL (by omega) ?_
  rw [hx]
  refine g_call hT [.int (xs (i + 1)), .int (xs (i + 2)), .int (xs (i + 3))] rfl rfl rfl (Nat.le_of_ble_eq_true rfl) rfl rfl (Nat.le_of_ble_eq_true rfl) (Nat.le_of_ble_eq_true rfl) c1 ?_
  refine v_p hT rfl rfl ?_
  rw [nI_add]
  refine g_aldx hT rfl hL (by omega) ?_
  rw [hx2]
  refine v_p hT rfl rfl ?_
  rw [nI_add]
  refine g_aldx hT rfl hL (by omega) ?_
  rw [hx2]
  refine v_p hT rfl rfl ?_
  rw [nI_add]
  refine g_aldx hT rfl hL (by omega) ?_
  rw [hx2]
  refine g_call hT [.int (xs (i + 1)), .int (xs (i + 2)), .int (xs (i + 3))] rfl rfl rfl (Nat.le_of_ble_eq_true rfl) rfl rfl (Nat.le_of_ble_eq_true rfl) (Nat.le_of_ble_eq_true rfl) m1 ?_
  refine g_cmp hT rfl (fun cq => ?_) (fun cq => ?_)
  · exact nx kf2 F3 _ hV2 hC3 m2 hx3
  · exact absurd rfl cq
set_option maxRecDepth 100000 in
theorem law_unties (hL : L ≤ 2560) (hi : i + 5 ≤ L) (hV : VS S) (hC : RepC kf F S) (hM : RepM F S) (hx : F 1000 = xs) (nx : Nx L i xs Φ) : Run n_L_law 0 309 [some (.ref 1000), some (.ref 0), some (.ref 98), some (.int (nI i))] [] (HH L kf F) Φ := by
  have hT : mT n_L_law = tb_L_law := rfl
  obtain ⟨kf2, F2, c1, c2, c3⟩ := C_unties hV (xs (i + 1)) L kf F hC
  obtain ⟨F3, m1, m2, m3⟩ := M_unties hV (xs (i + 1)) L kf2 F2 (RepM_ot hM c3)
  have hx2 : F2 1000 = xs := by rw [c3 1000 (by omega)]; exact hx
  have hx3 : F3 1000 = xs := by rw [m3 1000 (by omega)]; exact hx2
  have hV2 : VS (chg S (aUnt S.1 (xs (i + 1)))).2 := VS_chg hV (aUnt_ok hV.1 (xs (i + 1))).1 (aUnt_ok hV.1 (xs (i + 1))).2
  have hC3 : RepC kf2 F3 (chg S (aUnt S.1 (xs (i + 1)))).2 := RepC_fr hV2 c2 (fun c hc => m3 c (by omega)) (by rw [m3 75 (by omega)])
  refine v_p hT rfl rfl ?_
  rw [nI_add]
  refine g_aldx hT rfl hL (by omega) ?_
  rw [hx]
  refine g_call hT [.int (xs (i + 1))] rfl rfl rfl (Nat.le_of_ble_eq_true rfl) rfl rfl (Nat.le_of_ble_eq_true rfl) (Nat.le_of_ble_eq_true rfl) c1 ?_
  refine v_p hT rfl rfl ?_
  rw [nI_add]
  refine g_aldx hT rfl hL (by omega) ?_
  rw [hx2]
  refine g_call hT [.int (xs (i + 1))] rfl rfl rfl (Nat.le_of_ble_eq_true rfl) rfl rfl (Nat.le_of_ble_eq_true rfl) (Nat.le_of_ble_eq_true rfl) m1 ?_
  refine g_cmp hT rfl (fun cq => ?_) (fun cq => ?_)
  · exact nx kf2 F3 _ hV2 hC3 m2 hx3
  · exact absurd rfl cq
set_option maxRecDepth 100000 in
theorem law_of (hL : L ≤ 2560) (hi : i + 5 ≤ L) (hV : VS S) (hC : RepC kf F S) (hM : RepM F S) (hx : F 1000 = xs) (nx : Nx L i xs Φ) : Run n_L_law 0 332 [some (.ref 1000), some (.ref 0), some (.ref 98), some (.int (nI i))] [] (HH L kf F) Φ := by
  have hT : mT n_L_law = tb_L_law := rfl
  obtain ⟨kf2, F2, c1, c2, c3⟩ := C_of hV (xs (i + 1)) (xs (i + 2)) (xs (i + 3)) L kf F hC
  obtain ⟨F3, m1, m2, m3⟩ := M_of hV (xs (i + 1)) (xs (i + 2)) (xs (i + 3)) L kf2 F2 (RepM_ot hM c3)
  have hx2 : F2 1000 = xs := by rw [c3 1000 (by omega)]; exact hx
  have hx3 : F3 1000 = xs := by rw [m3 1000 (by omega)]; exact hx2
  have hV2 : VS (oOf S (xs (i + 1)) (xs (i + 2)) (xs (i + 3))).2 := VS_q hV
  have hC3 : RepC kf2 F3 (oOf S (xs (i + 1)) (xs (i + 2)) (xs (i + 3))).2 := RepC_fr hV2 c2 (fun c hc => m3 c (by omega)) (by rw [m3 75 (by omega)])
  refine v_p hT rfl rfl ?_
  rw [nI_add]
  refine g_aldx hT rfl hL (by omega) ?_
  rw [hx]
  refine v_p hT rfl rfl ?_
  rw [nI_add]
  refine g_aldx hT rfl hL (by omega) ?_
  rw [hx]
  refine v_p hT rfl rfl ?_
  rw [nI_add]
  refine g_aldx hT rfl hL (by omega) ?_
  rw [hx]
  refine g_call hT [.int (xs (i + 1)), .int (xs (i + 2)), .int (xs (i + 3))] rfl rfl rfl (Nat.le_of_ble_eq_true rfl) rfl rfl (Nat.le_of_ble_eq_true rfl) (Nat.le_of_ble_eq_true rfl) c1 ?_
  refine v_p hT rfl rfl ?_
  rw [nI_add]
  refine g_aldx hT rfl hL (by omega) ?_
  rw [hx2]
  refine v_p hT rfl rfl ?_
  rw [nI_add]
  refine g_aldx hT rfl hL (by omega) ?_
  rw [hx2]
  refine v_p hT rfl rfl ?_
  rw [nI_add]
  refine g_aldx hT rfl hL (by omega) ?_
  rw [hx2]
  refine g_call hT [.int (xs (i + 1)), .int (xs (i + 2)), .int (xs (i + 3))] rfl rfl rfl (Nat.le_of_ble_eq_true rfl) rfl rfl (Nat.le_of_ble_eq_true rfl) (Nat.le_of_ble_eq_true rfl) m1 ?_
  refine g_cmp hT rfl (fun cq => ?_) (fun cq => ?_)
  · exact nx kf2 F3 _ hV2 hC3 m2 hx3
  · exact absurd rfl cq
set_option maxRecDepth 100000 in
theorem law_word (hL : L ≤ 2560) (hi : i + 5 ≤ L) (hV : VS S) (hC : RepC kf F S) (hM : RepM F S) (hx : F 1000 = xs) (nx : Nx L i xs Φ) : Run n_L_law 0 375 [some (.ref 1000), some (.ref 0), some (.ref 98), some (.int (nI i))] [] (HH L kf F) Φ := by
  have hT : mT n_L_law = tb_L_law := rfl
  obtain ⟨kf2, F2, c1, c2, c3⟩ := C_word hV (xs (i + 1)) (xs (i + 2)) (xs (i + 3)) (xs (i + 4)) L kf F hC
  obtain ⟨F3, m1, m2, m3⟩ := M_word hV (xs (i + 1)) (xs (i + 2)) (xs (i + 3)) (xs (i + 4)) L kf2 F2 (RepM_ot hM c3)
  have hx2 : F2 1000 = xs := by rw [c3 1000 (by omega)]; exact hx
  have hx3 : F3 1000 = xs := by rw [m3 1000 (by omega)]; exact hx2
  have hV2 : VS (oWord S (xs (i + 1)) (xs (i + 2)) (xs (i + 3)) (xs (i + 4))).2 := VS_q hV
  have hC3 : RepC kf2 F3 (oWord S (xs (i + 1)) (xs (i + 2)) (xs (i + 3)) (xs (i + 4))).2 := RepC_fr hV2 c2 (fun c hc => m3 c (by omega)) (by rw [m3 75 (by omega)])
  refine v_p hT rfl rfl ?_
  rw [nI_add]
  refine g_aldx hT rfl hL (by omega) ?_
  rw [hx]
  refine v_p hT rfl rfl ?_
  rw [nI_add]
  refine g_aldx hT rfl hL (by omega) ?_
  rw [hx]
  refine v_p hT rfl rfl ?_
  rw [nI_add]
  refine g_aldx hT rfl hL (by omega) ?_
  rw [hx]
  refine v_p hT rfl rfl ?_
  rw [nI_add]
  refine g_aldx hT rfl hL (by omega) ?_
  rw [hx]
  refine g_call hT [.int (xs (i + 1)), .int (xs (i + 2)), .int (xs (i + 3)), .int (xs (i + 4))] rfl rfl rfl (Nat.le_of_ble_eq_true rfl) rfl rfl (Nat.le_of_ble_eq_true rfl) (Nat.le_of_ble_eq_true rfl) c1 ?_
  refine v_p hT rfl rfl ?_
  rw [nI_add]
  refine g_aldx hT rfl hL (by omega) ?_
  rw [hx2]
  refine v_p hT rfl rfl ?_
  rw [nI_add]
  refine g_aldx hT rfl hL (by omega) ?_
  rw [hx2]
  refine v_p hT rfl rfl ?_
  rw [nI_add]
  refine g_aldx hT rfl hL (by omega) ?_
  rw [hx2]
  refine v_p hT rfl rfl ?_
  rw [nI_add]
  refine g_aldx hT rfl hL (by omega) ?_
  rw [hx2]
  refine g_call hT [.int (xs (i + 1)), .int (xs (i + 2)), .int (xs (i + 3)), .int (xs (i + 4))] rfl rfl rfl (Nat.le_of_ble_eq_true rfl) rfl rfl (Nat.le_of_ble_eq_true rfl) (Nat.le_of_ble_eq_true rfl) m1 ?_
  refine g_cmp hT rfl (fun cq => ?_) (fun cq => ?_)
  · exact nx kf2 F3 _ hV2 hC3 m2 hx3
  · exact absurd rfl cq
set_option maxRecDepth 100000 in
theorem law_tie (hL : L ≤ 2560) (hi : i + 5 ≤ L) (hV : VS S) (hC : RepC kf F S) (hM : RepM F S) (hx : F 1000 = xs) (nx : Nx L i xs Φ) : Run n_L_law 0 428 [some (.ref 1000), some (.ref 0), some (.ref 98), some (.int (nI i))] [] (HH L kf F) Φ := by
  have hT : mT n_L_law = tb_L_law := rfl
  obtain ⟨kf2, F2, c1, c2, c3⟩ := C_tie hV (xs (i + 1)) (xs (i + 2)) L kf F hC
  obtain ⟨F3, m1, m2, m3⟩ := M_tie hV (xs (i + 1)) (xs (i + 2)) L kf2 F2 (RepM_ot hM c3)
  have hx2 : F2 1000 = xs := by rw [c3 1000 (by omega)]; exact hx
  have hx3 : F3 1000 = xs := by rw [m3 1000 (by omega)]; exact hx2
  have hV2 : VS (oTie S (xs (i + 1)) (xs (i + 2))).2 := VS_q hV
  have hC3 : RepC kf2 F3 (oTie S (xs (i + 1)) (xs (i + 2))).2 := RepC_fr hV2 c2 (fun c hc => m3 c (by omega)) (by rw [m3 75 (by omega)])
  refine v_p hT rfl rfl ?_
  rw [nI_add]
  refine g_aldx hT rfl hL (by omega) ?_
  rw [hx]
  refine v_p hT rfl rfl ?_
  rw [nI_add]
  refine g_aldx hT rfl hL (by omega) ?_
  rw [hx]
  refine g_call hT [.int (xs (i + 1)), .int (xs (i + 2))] rfl rfl rfl (Nat.le_of_ble_eq_true rfl) rfl rfl (Nat.le_of_ble_eq_true rfl) (Nat.le_of_ble_eq_true rfl) c1 ?_
  refine v_p hT rfl rfl ?_
  rw [nI_add]
  refine g_aldx hT rfl hL (by omega) ?_
  rw [hx2]
  refine v_p hT rfl rfl ?_
  rw [nI_add]
  refine g_aldx hT rfl hL (by omega) ?_
  rw [hx2]
  refine g_call hT [.int (xs (i + 1)), .int (xs (i + 2))] rfl rfl rfl (Nat.le_of_ble_eq_true rfl) rfl rfl (Nat.le_of_ble_eq_true rfl) (Nat.le_of_ble_eq_true rfl) m1 ?_
  refine g_cmp hT rfl (fun cq => ?_) (fun cq => ?_)
  · exact nx kf2 F3 _ hV2 hC3 m2 hx3
  · exact absurd rfl cq
set_option maxRecDepth 100000 in
theorem law_crossing (hL : L ≤ 2560) (hi : i + 5 ≤ L) (hV : VS S) (hC : RepC kf F S) (hM : RepM F S) (hx : F 1000 = xs) (nx : Nx L i xs Φ) : Run n_L_law 0 461 [some (.ref 1000), some (.ref 0), some (.ref 98), some (.int (nI i))] [] (HH L kf F) Φ := by
  have hT : mT n_L_law = tb_L_law := rfl
  obtain ⟨kf2, F2, c1, c2, c3⟩ := C_crossing hV (xs (i + 1)) (xs (i + 2)) L kf F hC
  obtain ⟨F3, m1, m2, m3⟩ := M_crossing hV (xs (i + 1)) (xs (i + 2)) L kf2 F2 (RepM_ot hM c3)
  have hx2 : F2 1000 = xs := by rw [c3 1000 (by omega)]; exact hx
  have hx3 : F3 1000 = xs := by rw [m3 1000 (by omega)]; exact hx2
  have hV2 : VS (oCross S (xs (i + 1)) (xs (i + 2))).2 := VS_q hV
  have hC3 : RepC kf2 F3 (oCross S (xs (i + 1)) (xs (i + 2))).2 := RepC_fr hV2 c2 (fun c hc => m3 c (by omega)) (by rw [m3 75 (by omega)])
  refine v_p hT rfl rfl ?_
  rw [nI_add]
  refine g_aldx hT rfl hL (by omega) ?_
  rw [hx]
  refine v_p hT rfl rfl ?_
  rw [nI_add]
  refine g_aldx hT rfl hL (by omega) ?_
  rw [hx]
  refine g_call hT [.int (xs (i + 1)), .int (xs (i + 2))] rfl rfl rfl (Nat.le_of_ble_eq_true rfl) rfl rfl (Nat.le_of_ble_eq_true rfl) (Nat.le_of_ble_eq_true rfl) c1 ?_
  refine v_p hT rfl rfl ?_
  rw [nI_add]
  refine g_aldx hT rfl hL (by omega) ?_
  rw [hx2]
  refine v_p hT rfl rfl ?_
  rw [nI_add]
  refine g_aldx hT rfl hL (by omega) ?_
  rw [hx2]
  refine g_call hT [.int (xs (i + 1)), .int (xs (i + 2))] rfl rfl rfl (Nat.le_of_ble_eq_true rfl) rfl rfl (Nat.le_of_ble_eq_true rfl) (Nat.le_of_ble_eq_true rfl) m1 ?_
  refine g_cmp hT rfl (fun cq => ?_) (fun cq => ?_)
  · exact nx kf2 F3 _ hV2 hC3 m2 hx3
  · exact absurd rfl cq
set_option maxRecDepth 100000 in
theorem law_lawful (hL : L ≤ 2560) (hi : i + 5 ≤ L) (hV : VS S) (hC : RepC kf F S) (hM : RepM F S) (hx : F 1000 = xs) (nx : Nx L i xs Φ) : Run n_L_law 0 494 [some (.ref 1000), some (.ref 0), some (.ref 98), some (.int (nI i))] [] (HH L kf F) Φ := by
  have hT : mT n_L_law = tb_L_law := rfl
  obtain ⟨kf2, F2, c1, c2, c3⟩ := C_lawful hV (xs (i + 1)) (xs (i + 2)) L kf F hC
  obtain ⟨F3, m1, m2, m3⟩ := M_lawful hV (xs (i + 1)) (xs (i + 2)) L kf2 F2 (RepM_ot hM c3)
  have hx2 : F2 1000 = xs := by rw [c3 1000 (by omega)]; exact hx
  have hx3 : F3 1000 = xs := by rw [m3 1000 (by omega)]; exact hx2
  have hV2 : VS (oLaw S (xs (i + 1)) (xs (i + 2))).2 := VS_q hV
  have hC3 : RepC kf2 F3 (oLaw S (xs (i + 1)) (xs (i + 2))).2 := RepC_fr hV2 c2 (fun c hc => m3 c (by omega)) (by rw [m3 75 (by omega)])
  refine v_p hT rfl rfl ?_
  rw [nI_add]
  refine g_aldx hT rfl hL (by omega) ?_
  rw [hx]
  refine v_p hT rfl rfl ?_
  rw [nI_add]
  refine g_aldx hT rfl hL (by omega) ?_
  rw [hx]
  refine g_call hT [.int (xs (i + 1)), .int (xs (i + 2))] rfl rfl rfl (Nat.le_of_ble_eq_true rfl) rfl rfl (Nat.le_of_ble_eq_true rfl) (Nat.le_of_ble_eq_true rfl) c1 ?_
  refine v_p hT rfl rfl ?_
  rw [nI_add]
  refine g_aldx hT rfl hL (by omega) ?_
  rw [hx2]
  refine v_p hT rfl rfl ?_
  rw [nI_add]
  refine g_aldx hT rfl hL (by omega) ?_
  rw [hx2]
  refine g_call hT [.int (xs (i + 1)), .int (xs (i + 2))] rfl rfl rfl (Nat.le_of_ble_eq_true rfl) rfl rfl (Nat.le_of_ble_eq_true rfl) (Nat.le_of_ble_eq_true rfl) m1 ?_
  refine g_cmp hT rfl (fun cq => ?_) (fun cq => ?_)
  · exact nx kf2 F3 _ hV2 hC3 m2 hx3
  · exact absurd rfl cq
set_option maxRecDepth 100000 in
theorem law_opening (hL : L ≤ 2560) (hi : i + 5 ≤ L) (hV : VS S) (hC : RepC kf F S) (hM : RepM F S) (hx : F 1000 = xs) (nx : Nx L i xs Φ) : Run n_L_law 0 527 [some (.ref 1000), some (.ref 0), some (.ref 98), some (.int (nI i))] [] (HH L kf F) Φ := by
  have hT : mT n_L_law = tb_L_law := rfl
  obtain ⟨kf2, F2, c1, c2, c3⟩ := C_opening hV (xs (i + 1)) (xs (i + 2)) L kf F hC
  obtain ⟨F3, m1, m2, m3⟩ := M_opening hV (xs (i + 1)) (xs (i + 2)) L kf2 F2 (RepM_ot hM c3)
  have hx2 : F2 1000 = xs := by rw [c3 1000 (by omega)]; exact hx
  have hx3 : F3 1000 = xs := by rw [m3 1000 (by omega)]; exact hx2
  have hV2 : VS (oOpen S (xs (i + 1)) (xs (i + 2))).2 := VS_q hV
  have hC3 : RepC kf2 F3 (oOpen S (xs (i + 1)) (xs (i + 2))).2 := RepC_fr hV2 c2 (fun c hc => m3 c (by omega)) (by rw [m3 75 (by omega)])
  refine v_p hT rfl rfl ?_
  rw [nI_add]
  refine g_aldx hT rfl hL (by omega) ?_
  rw [hx]
  refine v_p hT rfl rfl ?_
  rw [nI_add]
  refine g_aldx hT rfl hL (by omega) ?_
  rw [hx]
  refine g_call hT [.int (xs (i + 1)), .int (xs (i + 2))] rfl rfl rfl (Nat.le_of_ble_eq_true rfl) rfl rfl (Nat.le_of_ble_eq_true rfl) (Nat.le_of_ble_eq_true rfl) c1 ?_
  refine v_p hT rfl rfl ?_
  rw [nI_add]
  refine g_aldx hT rfl hL (by omega) ?_
  rw [hx2]
  refine v_p hT rfl rfl ?_
  rw [nI_add]
  refine g_aldx hT rfl hL (by omega) ?_
  rw [hx2]
  refine g_call hT [.int (xs (i + 1)), .int (xs (i + 2))] rfl rfl rfl (Nat.le_of_ble_eq_true rfl) rfl rfl (Nat.le_of_ble_eq_true rfl) (Nat.le_of_ble_eq_true rfl) m1 ?_
  refine g_cmp hT rfl (fun cq => ?_) (fun cq => ?_)
  · exact nx kf2 F3 _ hV2 hC3 m2 hx3
  · exact absurd rfl cq
set_option maxRecDepth 100000 in
theorem law_count (hL : L ≤ 2560) (hi : i + 5 ≤ L) (hV : VS S) (hC : RepC kf F S) (hM : RepM F S) (hx : F 1000 = xs) (nx : Nx L i xs Φ) : Run n_L_law 0 560 [some (.ref 1000), some (.ref 0), some (.ref 98), some (.int (nI i))] [] (HH L kf F) Φ := by
  have hT : mT n_L_law = tb_L_law := rfl
  obtain ⟨kf2, F2, c1, c2, c3⟩ := C_count hV (xs (i + 1)) L kf F hC
  obtain ⟨F3, m1, m2, m3⟩ := M_count hV (xs (i + 1)) L kf2 F2 (RepM_ot hM c3)
  have hx2 : F2 1000 = xs := by rw [c3 1000 (by omega)]; exact hx
  have hx3 : F3 1000 = xs := by rw [m3 1000 (by omega)]; exact hx2
  have hV2 : VS (oCount S (xs (i + 1))).2 := VS_q hV
  have hC3 : RepC kf2 F3 (oCount S (xs (i + 1))).2 := RepC_fr hV2 c2 (fun c hc => m3 c (by omega)) (by rw [m3 75 (by omega)])
  refine v_p hT rfl rfl ?_
  rw [nI_add]
  refine g_aldx hT rfl hL (by omega) ?_
  rw [hx]
  refine g_call hT [.int (xs (i + 1))] rfl rfl rfl (Nat.le_of_ble_eq_true rfl) rfl rfl (Nat.le_of_ble_eq_true rfl) (Nat.le_of_ble_eq_true rfl) c1 ?_
  refine v_p hT rfl rfl ?_
  rw [nI_add]
  refine g_aldx hT rfl hL (by omega) ?_
  rw [hx2]
  refine g_call hT [.int (xs (i + 1))] rfl rfl rfl (Nat.le_of_ble_eq_true rfl) rfl rfl (Nat.le_of_ble_eq_true rfl) (Nat.le_of_ble_eq_true rfl) m1 ?_
  refine g_cmp hT rfl (fun cq => ?_) (fun cq => ?_)
  · exact nx kf2 F3 _ hV2 hC3 m2 hx3
  · exact absurd rfl cq
set_option maxRecDepth 100000 in
theorem law_type (hL : L ≤ 2560) (hi : i + 5 ≤ L) (hV : VS S) (hC : RepC kf F S) (hM : RepM F S) (hx : F 1000 = xs) (nx : Nx L i xs Φ) : Run n_L_law 0 583 [some (.ref 1000), some (.ref 0), some (.ref 98), some (.int (nI i))] [] (HH L kf F) Φ := by
  have hT : mT n_L_law = tb_L_law := rfl
  obtain ⟨kf2, F2, c1, c2, c3⟩ := C_type hV (xs (i + 1)) L kf F hC
  obtain ⟨F3, m1, m2, m3⟩ := M_type hV (xs (i + 1)) L kf2 F2 (RepM_ot hM c3)
  have hx2 : F2 1000 = xs := by rw [c3 1000 (by omega)]; exact hx
  have hx3 : F3 1000 = xs := by rw [m3 1000 (by omega)]; exact hx2
  have hV2 : VS (oType S (xs (i + 1))).2 := VS_type hV (xs (i + 1))
  have hC3 : RepC kf2 F3 (oType S (xs (i + 1))).2 := RepC_fr hV2 c2 (fun c hc => m3 c (by omega)) (by rw [m3 75 (by omega)])
  refine v_p hT rfl rfl ?_
  rw [nI_add]
  refine g_aldx hT rfl hL (by omega) ?_
  rw [hx]
  refine g_call hT [.int (xs (i + 1))] rfl rfl rfl (Nat.le_of_ble_eq_true rfl) rfl rfl (Nat.le_of_ble_eq_true rfl) (Nat.le_of_ble_eq_true rfl) c1 ?_
  refine v_p hT rfl rfl ?_
  rw [nI_add]
  refine g_aldx hT rfl hL (by omega) ?_
  rw [hx2]
  refine g_call hT [.int (xs (i + 1))] rfl rfl rfl (Nat.le_of_ble_eq_true rfl) rfl rfl (Nat.le_of_ble_eq_true rfl) (Nat.le_of_ble_eq_true rfl) m1 ?_
  refine g_cmp hT rfl (fun cq => ?_) (fun cq => ?_)
  · exact nx kf2 F3 _ hV2 hC3 m2 hx3
  · exact absurd rfl cq
set_option maxRecDepth 100000 in
theorem law_clear (hL : L ≤ 2560) (hi : i + 5 ≤ L) (hV : VS S) (hC : RepC kf F S) (hM : RepM F S) (hx : F 1000 = xs) (nx : Nx L i xs Φ) : Run n_L_law 0 606 [some (.ref 1000), some (.ref 0), some (.ref 98), some (.int (nI i))] [] (HH L kf F) Φ := by
  have hT : mT n_L_law = tb_L_law := rfl
  obtain ⟨kf2, F2, c1, c2, c3⟩ := C_clear hV  L kf F hC
  obtain ⟨F3, m1, m2, m3⟩ := M_clear hV  L kf2 F2 (RepM_ot hM c3)
  have hx2 : F2 1000 = xs := by rw [c3 1000 (by omega)]; exact hx
  have hx3 : F3 1000 = xs := by rw [m3 1000 (by omega)]; exact hx2
  have hV2 : VS (oClear S).2 := VS_clear hV
  have hC3 : RepC kf2 F3 (oClear S).2 := RepC_fr hV2 c2 (fun c hc => m3 c (by omega)) (by rw [m3 75 (by omega)])
  refine v_p hT rfl rfl ?_
  refine g_call hT [] rfl rfl rfl (Nat.le_of_ble_eq_true rfl) rfl rfl (Nat.le_of_ble_eq_true rfl) (Nat.le_of_ble_eq_true rfl) c1 ?_
  refine v_p hT rfl rfl ?_
  refine g_call hT [] rfl rfl rfl (Nat.le_of_ble_eq_true rfl) rfl rfl (Nat.le_of_ble_eq_true rfl) (Nat.le_of_ble_eq_true rfl) m1 ?_
  refine g_cmp hT rfl (fun cq => ?_) (fun cq => ?_)
  · exact nx kf2 F3 _ hV2 hC3 m2 hx3
  · exact absurd rfl cq
set_option maxRecDepth 100000 in
theorem law_does (hL : L ≤ 2560) (hi : i + 5 ≤ L) (hV : VS S) (hC : RepC kf F S) (hM : RepM F S) (hx : F 1000 = xs) (nx : Nx L i xs Φ) : Run n_L_law 0 619 [some (.ref 1000), some (.ref 0), some (.ref 98), some (.int (nI i))] [] (HH L kf F) Φ := by
  have hT : mT n_L_law = tb_L_law := rfl
  obtain ⟨kf2, F2, c1, c2, c3⟩ := C_does hV  L kf F hC
  obtain ⟨F3, m1, m2, m3⟩ := M_does hV  L kf2 F2 (RepM_ot hM c3)
  have hx2 : F2 1000 = xs := by rw [c3 1000 (by omega)]; exact hx
  have hx3 : F3 1000 = xs := by rw [m3 1000 (by omega)]; exact hx2
  have hV2 : VS (oDoes S).2 := VS_does hV
  have hC3 : RepC kf2 F3 (oDoes S).2 := RepC_fr hV2 c2 (fun c hc => m3 c (by omega)) (by rw [m3 75 (by omega)])
  refine v_p hT rfl rfl ?_
  refine g_call hT [] rfl rfl rfl (Nat.le_of_ble_eq_true rfl) rfl rfl (Nat.le_of_ble_eq_true rfl) (Nat.le_of_ble_eq_true rfl) c1 ?_
  refine v_p hT rfl rfl ?_
  refine g_call hT [] rfl rfl rfl (Nat.le_of_ble_eq_true rfl) rfl rfl (Nat.le_of_ble_eq_true rfl) (Nat.le_of_ble_eq_true rfl) m1 ?_
  refine g_cmp hT rfl (fun cq => ?_) (fun cq => ?_)
  · exact nx kf2 F3 _ hV2 hC3 m2 hx3
  · exact absurd rfl cq
set_option maxRecDepth 100000 in
theorem law_back (hL : L ≤ 2560) (hi : i + 5 ≤ L) (hV : VS S) (hC : RepC kf F S) (hM : RepM F S) (hx : F 1000 = xs) (nx : Nx L i xs Φ) : Run n_L_law 0 632 [some (.ref 1000), some (.ref 0), some (.ref 98), some (.int (nI i))] [] (HH L kf F) Φ := by
  have hT : mT n_L_law = tb_L_law := rfl
  obtain ⟨kf2, F2, c1, c2, c3⟩ := C_back hV  L kf F hC
  obtain ⟨F3, m1, m2, m3⟩ := M_back hV  L kf2 F2 (RepM_ot hM c3)
  have hx2 : F2 1000 = xs := by rw [c3 1000 (by omega)]; exact hx
  have hx3 : F3 1000 = xs := by rw [m3 1000 (by omega)]; exact hx2
  have hV2 : VS (oBack S).2 := VS_back hV
  have hC3 : RepC kf2 F3 (oBack S).2 := RepC_fr hV2 c2 (fun c hc => m3 c (by omega)) (by rw [m3 75 (by omega)])
  refine v_p hT rfl rfl ?_
  refine g_call hT [] rfl rfl rfl (Nat.le_of_ble_eq_true rfl) rfl rfl (Nat.le_of_ble_eq_true rfl) (Nat.le_of_ble_eq_true rfl) c1 ?_
  refine v_p hT rfl rfl ?_
  refine g_call hT [] rfl rfl rfl (Nat.le_of_ble_eq_true rfl) rfl rfl (Nat.le_of_ble_eq_true rfl) (Nat.le_of_ble_eq_true rfl) m1 ?_
  refine g_cmp hT rfl (fun cq => ?_) (fun cq => ?_)
  · exact nx kf2 F3 _ hV2 hC3 m2 hx3
  · exact absurd rfl cq
set_option maxRecDepth 100000 in
theorem law_told (hL : L ≤ 2560) (hi : i + 5 ≤ L) (hV : VS S) (hC : RepC kf F S) (hM : RepM F S) (hx : F 1000 = xs) (nx : Nx L i xs Φ) : Run n_L_law 0 645 [some (.ref 1000), some (.ref 0), some (.ref 98), some (.int (nI i))] [] (HH L kf F) Φ := by
  have hT : mT n_L_law = tb_L_law := rfl
  obtain ⟨kf2, F2, c1, c2, c3⟩ := C_told hV (xs (i + 1)) L kf F hC
  obtain ⟨F3, m1, m2, m3⟩ := M_told hV (xs (i + 1)) L kf2 F2 (RepM_ot hM c3)
  have hx2 : F2 1000 = xs := by rw [c3 1000 (by omega)]; exact hx
  have hx3 : F3 1000 = xs := by rw [m3 1000 (by omega)]; exact hx2
  have hV2 : VS (oTold S (xs (i + 1))).2 := VS_q hV
  have hC3 : RepC kf2 F3 (oTold S (xs (i + 1))).2 := RepC_fr hV2 c2 (fun c hc => m3 c (by omega)) (by rw [m3 75 (by omega)])
  refine v_p hT rfl rfl ?_
  rw [nI_add]
  refine g_aldx hT rfl hL (by omega) ?_
  rw [hx]
  refine g_call hT [.int (xs (i + 1))] rfl rfl rfl (Nat.le_of_ble_eq_true rfl) rfl rfl (Nat.le_of_ble_eq_true rfl) (Nat.le_of_ble_eq_true rfl) c1 ?_
  refine v_p hT rfl rfl ?_
  rw [nI_add]
  refine g_aldx hT rfl hL (by omega) ?_
  rw [hx2]
  refine g_call hT [.int (xs (i + 1))] rfl rfl rfl (Nat.le_of_ble_eq_true rfl) rfl rfl (Nat.le_of_ble_eq_true rfl) (Nat.le_of_ble_eq_true rfl) m1 ?_
  refine g_cmp hT rfl (fun cq => ?_) (fun cq => ?_)
  · exact nx kf2 F3 _ hV2 hC3 m2 hx3
  · exact absurd rfl cq
theorem cmp_self (x : Int64) : lg_cmp x x = 0 := by
  unfold lg_cmp
  rw [if_neg (show ¬ x > x from Int64.lt_irrefl), if_pos rfl]
set_option maxRecDepth 100000 in
theorem law_digest (hV : VS S) (hC : RepC kf F S) (hM : RepM F S) (hx : F 1000 = xs) (nx : Nx L i xs Φ) : Run n_L_law 0 668 [some (.ref 1000), some (.ref 0), some (.ref 98), some (.int (nI i))] [] (HH L kf F) Φ := by
  have hT : mT n_L_law = tb_L_law := rfl
  obtain ⟨F2, c1, c2, c3⟩ := c_digest hV L kf F hC
  obtain ⟨F3, m1, m2, m3⟩ := M_digest hV L kf F2 (RepM_ot hM c3)
  have hx2 : F2 1000 = xs := by rw [c3 1000 (by omega)]; exact hx
  have hx3 : F3 1000 = xs := by rw [m3 1000 (by omega)]; exact hx2
  have hC3 : RepC kf F3 S := RepC_fr hV c2 (fun c hc => m3 c (by omega)) (by rw [m3 75 (by omega)])
  refine v_p hT rfl rfl ?_
  refine g_call hT [] rfl rfl rfl (Nat.le_of_ble_eq_true rfl) rfl rfl (Nat.le_of_ble_eq_true rfl) (Nat.le_of_ble_eq_true rfl) c1 ?_
  refine v_p hT rfl rfl ?_
  refine g_call hT [] rfl rfl rfl (Nat.le_of_ble_eq_true rfl) rfl rfl (Nat.le_of_ble_eq_true rfl) (Nat.le_of_ble_eq_true rfl) m1 ?_
  refine v_p hT rfl rfl ?_
  rw [cmp_self]
  refine g_if hT rfl (fun cq => ?_) (fun cq => ?_)
  · exact nx kf F3 S hV hC3 m2 hx3
  · exact absurd rfl cq
end LAW
