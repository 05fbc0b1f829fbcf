/-! THE CLASS as a whole: what its cells hold. -/
abbrev ST : Type := BK × HS × TX × (Nat → Int32)
def VS (S : ST) : Prop := VB S.1 ∧ VH S.2.1 ∧ VT S.2.2.1
def msR (f : Nat → Nat → Int32) (B : BK) : Prop := lnR f 81 B 0 ∧ lnR f 84 B 1 ∧ (∀ i, i < bNt B → f 88 i = nI (crM B i (bNt B))) ∧ f 87 1 = nI (endN B (bNt B) (bNt B) / 2) ∧ f 87 2 = nI (keptF B) ∧ f 87 3 = nI (wtF B (keptF B) (bNt B))
def RepC (kf : Nat → Nat) (f : Nat → Nat → Int32) (S : ST) : Prop := kfOk kf ∧ bkR f 1 S.1 ∧ stR kf f S.2.1 ∧ txR f S.2.2.1 ∧ (∀ i, i < 3 → f 96 i = S.2.2.2 i) ∧ (f 1001 = sf1 ∧ f 1002 = sf2) ∧ ∃ me la : Bool, f 0 9 = bI me ∧ f 0 10 = bI la ∧ (me = true → msR f S.1) ∧ (la = true → me = true ∧ layR f S.1)
theorem lnR_fr {f f2 : Nat → Nat → Int32} {o s : Nat} {B : BK} (h : lnR f o B s) (h0 : f2 o = f o) (h1 : f2 (o + 1) = f (o + 1)) (h2 : f2 (o + 2) = f (o + 2)) : lnR f2 o B s := by
  obtain ⟨a, b, c⟩ := h
  exact ⟨by rw [h0]; exact a, fun p hp => by rw [h1]; exact b p hp, fun b hb => by rw [h2]; exact c b hb⟩
theorem msR_fr {f f2 : Nat → Nat → Int32} {B : BK} (h : msR f B) (hc : ∀ c, 81 ≤ c → c ≤ 88 → f2 c = f c) : msR f2 B := by
  obtain ⟨h1, h2, h3, h4, h5, h6⟩ := h
  refine ⟨lnR_fr h1 (hc _ (by omega) (by omega)) (hc _ (by omega) (by omega)) (hc _ (by omega) (by omega)), lnR_fr h2 (hc _ (by omega) (by omega)) (hc _ (by omega) (by omega)) (hc _ (by omega) (by omega)), fun i hi => by rw [hc 88 (by omega) (by omega)]; exact h3 i hi, by rw [hc 87 (by omega) (by omega)]; exact h4, by rw [hc 87 (by omega) (by omega)]; exact h5, by rw [hc 87 (by omega) (by omega)]; exact h6⟩
theorem layR_fr {f f2 : Nat → Nat → Int32} {B : BK} (h : layR f B) (hc : ∀ c, 89 ≤ c → c ≤ 95 → f2 c = f c) : layR f2 B := by
  obtain ⟨⟨a1, a2, a3, a4⟩, h2, h3, h4⟩ := h
  refine ⟨⟨by rw [hc 89 (by omega) (by omega)]; exact a1, by rw [hc 89 (by omega) (by omega)]; exact a2, by rw [hc 89 (by omega) (by omega)]; exact a3, fun x y hx hy => by rw [hc 90 (by omega) (by omega)]; exact a4 x y hx hy⟩, by rw [hc 89 (by omega) (by omega)]; exact h2, by rw [hc 89 (by omega) (by omega)]; exact h3, fun k hk => by rw [hc 94 (by omega) (by omega), hc 95 (by omega) (by omega)]; exact h4 k hk⟩
theorem stR_fr {kf : Nat → Nat} {f f2 : Nat → Nat → Int32} {H : HS} (hk : kfOk kf) (h6 : H.1 ≤ 6) (h : stR kf f H) (hc : ∀ c, 19 ≤ c → c < 75 → f2 c = f c) : stR kf f2 H := by
  obtain ⟨a, b⟩ := h
  refine ⟨by rw [hc 19 (by omega) (by omega)]; exact a, fun i hi => ?_⟩
  obtain ⟨bb, e, ib, lb⟩ := hk.1 i (by omega)
  have hlo := bk_lo ib
  exact bkR_fr (b i hi) (fun c h1 h2 => hc c (by omega) (by omega))
theorem RepC_fr {kf : Nat → Nat} {f f2 : Nat → Nat → Int32} {S : ST} (hV : VS S) (h : RepC kf f S) (hc : ∀ c, c < 10 ∨ (18 < c ∧ c < 75) ∨ c = 76 ∨ (79 < c ∧ c < 97) ∨ c = 1001 ∨ c = 1002 → f2 c = f c) (h75 : f2 75 1 = f 75 1) : RepC kf f2 S := by
  obtain ⟨a1, a2, a3, a4, a5, a6, me, la, a7, a8, a9, a10⟩ := h
  refine ⟨a1, bkR_fr a2 (fun c _ _ => hc c (by omega)), stR_fr a1 hV.2.1.1 a3 (fun c _ _ => hc c (by omega)), ⟨by rw [h75]; exact a4.1, fun k hk => by rw [hc 76 (by omega)]; exact a4.2 k hk⟩, fun i hi => by rw [hc 96 (by omega)]; exact a5 i hi, ⟨by rw [hc 1001 (by omega)]; exact a6.1, by rw [hc 1002 (by omega)]; exact a6.2⟩, me, la, by rw [hc 0 (by omega)]; exact a7, by rw [hc 0 (by omega)]; exact a8, fun z => msR_fr (a9 z) (fun c _ _ => hc c (by omega)), fun z => ⟨(a10 z).1, layR_fr (a10 z).2 (fun c _ _ => hc c (by omega))⟩⟩
theorem s_measure {n : Nat} {kf : Nat → Nat} {f : Nat → Nat → Int32} {S : ST} (hV : VS S) (hR : RepC kf f S) :
    ∃ f2, Run n_X6_measure 110 0 (ini n_X6_measure [.ref 0]) [] (HH n kf f) (Ret none (HH n kf f2)) ∧ RepC kf f2 S ∧ msR f2 S.1 ∧ f2 0 9 = bI true ∧ ∀ c, 97 < c → f2 c = f c := by
  have hT : mT n_X6_measure = tb_X6_measure := rfl
  have hR0 := hR
  obtain ⟨a1, a2, a3, a4, a5, a6, me, la, a7, a8, a9, a10⟩ := hR
  cases me with
  | true =>
    refine ⟨f, ?_, hR0, a9 rfl, a7, fun _ _ => rfl⟩
    refine v_p hT rfl rfl ?_
    refine v_geti hT rfl (by first | rfl | assumption) (by omega) ?_
    rw [a7]
    refine g_if hT rfl (fun cq => ?_) (fun cq => ?_)
    · cases bf_of cq
    · refine v_vret hT rfl rfl ⟨rfl, rfl⟩
  | false =>
    have hla : la = false := by
      cases la with
      | false => rfl
      | true => cases (a10 rfl).1
    obtain ⟨f1, r1, t1, k1⟩ := s_lines (n := n) (kf := kf) (o := 81) (s := 0) (Or.inl rfl) (Or.inl rfl) a2 hV.1 (by omega)
    have b1 : bkR f1 1 S.1 := bkR_fr a2 (fun c _ _ => k1 c (by omega))
    obtain ⟨f2, r2, t2, k2⟩ := s_lines (n := n) (kf := kf) (o := 84) (s := 1) (Or.inl rfl) (Or.inr rfl) b1 hV.1 (by omega)
    have b2 : bkR f2 1 S.1 := bkR_fr b1 (fun c _ _ => k2 c (by omega))
    obtain ⟨f3, r3, t3, t4, t5, t6, k3⟩ := s_choice (n := n) (kf := kf) (Or.inl rfl) b2 ⟨hV.1.1.2.2.2.2.1, fun z i hz hi => by
      have h5 := hV.1.1.2.2.2.2.2 i hi
      have h6 := hV.1.1.1 0 (by omega)
      have h7 := hV.1.1.1 1 (by omega)
      rcases (show z = 0 ∨ z = 1 by omega) with e | e
      · subst e; have := h5.1; show bTi S.1 0 i < 100; omega
      · subst e; have := h5.2.1; show bTi S.1 1 i < 100; omega⟩ (fun i hi => (hV.1.1.2.2.2.2.2 i hi).2.2.2)
    have k13 : ∀ c, c < 81 ∨ 88 < c → f3 c = f c := fun c hc => by rw [k3 c (by omega) (by omega), k2 c (by omega), k1 c (by omega)]
    have hms : msR (hset f3 0 9 (nI 1)) S.1 := by
      refine ⟨?_, ?_, fun i hi => by rw [hset_ne (by omega)]; exact t3 i hi, by rw [hset_ne (by omega)]; exact t4, by rw [hset_ne (by omega)]; exact t5, by rw [hset_ne (by omega)]; exact t6⟩
      · refine lnR_fr t1 ?_ ?_ ?_
        · rw [hset_ne (by omega), k3 _ (by omega) (by omega), k2 _ (by omega)]
        · rw [hset_ne (by omega), k3 _ (by omega) (by omega), k2 _ (by omega)]
        · rw [hset_ne (by omega), k3 _ (by omega) (by omega), k2 _ (by omega)]
      · refine lnR_fr t2 ?_ ?_ ?_
        · rw [hset_ne (by omega), k3 _ (by omega) (by omega)]
        · rw [hset_ne (by omega), k3 _ (by omega) (by omega)]
        · rw [hset_ne (by omega), k3 _ (by omega) (by omega)]
    have h09 : hset f3 0 9 (nI 1) 0 9 = bI true := by rw [hs_s]; simp [upd]; rfl
    refine ⟨hset f3 0 9 (nI 1), ?_, ?_, hms, h09, fun c hc => by rw [hset_ne (by omega), k13 c (by omega)]⟩
    · refine v_p hT rfl rfl ?_
      refine v_geti hT rfl (by first | rfl | assumption) (by omega) ?_
      rw [a7]
      refine g_if hT rfl (fun cq => ?_) (fun cq => ?_)
      · refine v_p hT rfl rfl ?_
        refine g_cmp hT rfl (fun cq2 => ?_) (fun cq2 => ?_)
        · exact absurd ((cj_ge (a := 0) (b := 2) (by omega) (by omega)).mp cq2) (by omega)
        · refine v_p hT rfl rfl ?_
          refine v_getr hT rfl rfl (by omega) rfl ?_
          refine v_p hT rfl rfl ?_
          refine v_rld hT rfl rfl (Or.inr rfl) (by omega) (by omega) (show 0 < 2 by omega) (j := 81) rfl ?_
          refine v_p hT rfl rfl ?_
          refine v_getr hT rfl rfl (by omega) rfl ?_
          refine v_p hT rfl rfl ?_
          refine v_call hT [.ref 1, .int (nI 0)] rfl rfl (by first | rfl | assumption) (by omega) rfl rfl (Nat.le_of_ble_eq_true rfl) (Nat.le_of_ble_eq_true rfl) (r1) ?_
          refine v_p hT rfl rfl ?_
          refine g_cmp hT rfl (fun cq3 => ?_) (fun cq3 => ?_)
          · exact absurd ((cj_ge (a := 1) (b := 2) (by omega) (by omega)).mp cq3) (by omega)
          · refine v_p hT rfl rfl ?_
            refine v_getr hT rfl rfl (by omega) rfl ?_
            refine v_p hT rfl rfl ?_
            refine v_rld hT rfl rfl (Or.inr rfl) (by omega) (by omega) (show 1 < 2 by omega) (j := 84) rfl ?_
            refine v_p hT rfl rfl ?_
            refine v_getr hT rfl rfl (by omega) rfl ?_
            refine v_p hT rfl rfl ?_
            refine v_call hT [.ref 1, .int (nI 1)] rfl rfl (by first | rfl | assumption) (by omega) rfl rfl (Nat.le_of_ble_eq_true rfl) (Nat.le_of_ble_eq_true rfl) (r2) ?_
            refine v_p hT rfl rfl ?_
            refine g_cmp hT rfl (fun cq4 => ?_) (fun cq4 => ?_)
            · refine v_p hT rfl rfl ?_
              refine v_getr hT rfl rfl (by omega) rfl ?_
              refine v_p hT rfl rfl ?_
              refine v_getr hT rfl rfl (by omega) rfl ?_
              refine v_call hT [.ref 1] rfl rfl (by first | rfl | assumption) (by omega) rfl rfl (Nat.le_of_ble_eq_true rfl) (Nat.le_of_ble_eq_true rfl) (r3) ?_
              refine v_p hT rfl rfl ?_
              refine v_puti hT rfl rfl (by omega) (fun _ => Or.inr rfl) ?_
              refine v_vret hT rfl rfl ⟨rfl, rfl⟩
            · exact absurd ((cj_ge (a := 2) (b := 2) (by omega) (by omega)).mpr (by omega)) cq4
      · exact absurd rfl cq
    · refine ⟨a1, bkR_fr a2 (fun c _ _ => by rw [hset_ne (by omega), k13 c (by omega)]), stR_fr a1 hV.2.1.1 a3 (fun c _ _ => by rw [hset_ne (by omega), k13 c (by omega)]), ⟨by rw [hset_ne (by omega), k13 75 (by omega)]; exact a4.1, fun k hk => by rw [hset_ne (by omega), k13 76 (by omega)]; exact a4.2 k hk⟩, fun i hi => by rw [hset_ne (by omega), k13 96 (by omega)]; exact a5 i hi, ⟨by rw [hset_ne (by omega), k13 1001 (by omega)]; exact a6.1, by rw [hset_ne (by omega), k13 1002 (by omega)]; exact a6.2⟩, true, la, h09, ?_, fun _ => hms, fun z => ?_⟩
      · rw [hs_s]
        simp only [upd, if_neg (show (10 : Nat) ≠ 9 by omega)]
        rw [k13 0 (by omega)]
        exact a8
      · rw [hla] at z; cases z
theorem s_layOut {n : Nat} {kf : Nat → Nat} {f : Nat → Nat → Int32} {S : ST} (hV : VS S) (hR : RepC kf f S) :
    ∃ f2, Run n_X6_layOut 110 0 (ini n_X6_layOut [.ref 0]) [] (HH n kf f) (Ret (some (.ref 89)) (HH n kf f2)) ∧ RepC kf f2 S ∧ msR f2 S.1 ∧ layR f2 S.1 ∧ ∀ c, 97 < c → f2 c = f c := by
  have hT : mT n_X6_layOut = tb_X6_layOut := rfl
  obtain ⟨f1, r1, hR1, hm, h09, k1⟩ := s_measure (n := n) hV hR
  have hR0 := hR1
  obtain ⟨a1, a2, a3, a4, a5, a6, me, la, a7, a8, a9, a10⟩ := hR1
  cases la with
  | true =>
    refine ⟨f1, ?_, hR0, hm, (a10 rfl).2, k1⟩
    refine v_p hT rfl rfl ?_
    refine v_call hT [] rfl rfl (by first | rfl | assumption) (by omega) rfl rfl (Nat.le_of_ble_eq_true rfl) (Nat.le_of_ble_eq_true rfl) (r1) ?_
    refine v_p hT rfl rfl ?_
    refine v_geti hT rfl (by first | rfl | assumption) (by omega) ?_
    rw [a8]
    refine g_if hT rfl (fun cq => ?_) (fun cq => ?_)
    · refine v_p hT rfl rfl ?_
      refine v_getr hT rfl rfl (by omega) rfl ?_
      refine v_rret hT rfl rfl ⟨rfl, rfl⟩
    · exact absurd (show ¬ (1 : Int32) = 0 by decide) cq
  | false =>
    obtain ⟨f2, r2, t2, k2⟩ := s_layout (n := n) (kf := kf) a2 hV.1 hm.1 hm.2.1
    have hme : me = true := by
      cases me with
      | true => rfl
      | false => rw [h09] at a7; cases a7
    have hms : msR (hset f2 0 10 (nI 1)) S.1 := msR_fr hm (fun c _ _ => by rw [hset_ne (by omega), k2 c (by omega)])
    have hly : layR (hset f2 0 10 (nI 1)) S.1 := layR_fr t2 (fun c _ _ => hset_ne (by omega))
    refine ⟨hset f2 0 10 (nI 1), ?_, ?_, hms, hly, fun c hc => by rw [hset_ne (by omega), k2 c (by omega), k1 c hc]⟩
    · refine v_p hT rfl rfl ?_
      refine v_call hT [] rfl rfl (by first | rfl | assumption) (by omega) rfl rfl (Nat.le_of_ble_eq_true rfl) (Nat.le_of_ble_eq_true rfl) (r1) ?_
      refine v_p hT rfl rfl ?_
      refine v_geti hT rfl (by first | rfl | assumption) (by omega) ?_
      rw [a8]
      refine g_if hT rfl (fun cq => ?_) (fun cq => ?_)
      · exact absurd rfl cq
      · refine v_p hT rfl rfl ?_
        refine v_getr hT rfl rfl (by omega) rfl ?_
        refine v_p hT rfl rfl ?_
        refine v_getr hT rfl rfl (by omega) rfl ?_
        refine v_p hT rfl rfl ?_
        refine v_getr hT rfl rfl (by omega) rfl ?_
        refine v_p hT rfl rfl ?_
        refine v_rld hT rfl rfl (Or.inr rfl) (by omega) (by omega) (show 0 < 2 by omega) (j := 81) rfl ?_
        refine v_p hT rfl rfl ?_
        refine v_getr hT rfl rfl (by omega) rfl ?_
        refine v_p hT rfl rfl ?_
        refine v_rld hT rfl rfl (Or.inr rfl) (by omega) (by omega) (show 1 < 2 by omega) (j := 84) rfl ?_
        refine v_p hT rfl rfl ?_
        refine v_getr hT rfl rfl (by omega) rfl ?_
        refine v_geti hT rfl (by first | rfl | assumption) (by omega) ?_
        rw [hm.2.2.2.2.1]
        refine v_call hT [.ref 1, .ref 81, .ref 84, .int (nI (keptF S.1))] rfl rfl (by first | rfl | assumption) (by omega) rfl rfl (Nat.le_of_ble_eq_true rfl) (Nat.le_of_ble_eq_true rfl) (r2) ?_
        refine v_p hT rfl rfl ?_
        refine v_puti hT rfl rfl (by omega) (fun _ => Or.inr rfl) ?_
        refine v_p hT rfl rfl ?_
        refine v_getr hT rfl rfl (by omega) rfl ?_
        refine v_rret hT rfl rfl ⟨rfl, rfl⟩
    · refine ⟨a1, bkR_fr a2 (fun c _ _ => by rw [hset_ne (by omega), k2 c (by omega)]), stR_fr a1 hV.2.1.1 a3 (fun c _ _ => by rw [hset_ne (by omega), k2 c (by omega)]), ⟨by rw [hset_ne (by omega), k2 75 (by omega)]; exact a4.1, fun k hk => by rw [hset_ne (by omega), k2 76 (by omega)]; exact a4.2 k hk⟩, fun i hi => by rw [hset_ne (by omega), k2 96 (by omega)]; exact a5 i hi, ⟨by rw [hset_ne (by omega), k2 1001 (by omega)]; exact a6.1, by rw [hset_ne (by omega), k2 1002 (by omega)]; exact a6.2⟩, me, true, ?_, ?_, fun _ => hms, fun z => ⟨hme, hly⟩⟩
      · rw [hs_s]
        simp only [upd, if_neg (show (9 : Nat) ≠ 10 by omega)]
        rw [k2 0 (by omega)]
        exact a7
      · rw [hs_s]; simp [upd]; rfl
/-- a refusal -/
def refu (S : ST) (j : Nat) : ST := (S.1, S.2.1, S.2.2.1, fun i => if i = j then S.2.2.2 i + 1 else S.2.2.2 i)
theorem VS_refu {S : ST} {j : Nat} (h : VS S) : VS (refu S j) := h
theorem s_refuse {n j : Nat} {kf : Nat → Nat} {f : Nat → Nat → Int32} (hj : j < 3) : Run n_X6_refuse 110 0 (ini n_X6_refuse [.ref 0, .int (mI (2 + j))]) [] (HH n kf f) (Ret (some (.int (mI (2 + j)))) (HH n kf (hset f 96 j (f 96 j + nI 1)))) := by
  have hT : mT n_X6_refuse = tb_X6_refuse := rfl
  have hd : mI 2 - mI (2 + j) = nI j := by
    rcases (show j = 0 ∨ j = 1 ∨ j = 2 by omega) with e | e | e <;> subst e <;> decide
  have hw : decide (nI 0 ≤ nI j ∧ nI j ≤ nI 2) = true := by
    rcases (show j = 0 ∨ j = 1 ∨ j = 2 by omega) with e | e | e <;> subst e <;> decide
  refine v_p hT rfl rfl ?_
  rw [hd]
  refine v_scall hT [.int (nI j), .int (nI 0), .int (nI 2)] rfl rfl rfl rfl (Nat.le_of_ble_eq_true rfl) (Nat.le_of_ble_eq_true rfl) (s_within (nI j) (nI 0) (nI 2)) ?_
  rw [hw]
  refine g_if hT rfl (fun cq => ?_) (fun cq => ?_)
  · cases bf_of cq
  · refine v_p hT rfl rfl ?_
    refine v_getr hT rfl rfl (by omega) rfl ?_
    refine v_p hT rfl rfl ?_
    refine v_ald hT rfl (by first | assumption | rfl) (by omega) (by decide) (by omega) ?_
    refine v_p hT rfl rfl ?_
    refine v_ast hT rfl rfl (by omega) (by decide) (by omega) ?_
    refine v_p hT rfl rfl ?_
    refine v_ret hT rfl (fun z => by cases z) rfl ⟨rfl, rfl⟩
theorem RepC_refu {kf : Nat → Nat} {f f2 : Nat → Nat → Int32} {S : ST} {j : Nat} (hV : VS S) (h : RepC kf f S) (hc : ∀ c, c ≠ 96 → f2 c = f c) (h96 : f2 96 = upd (f 96) j (f 96 j + nI 1)) : RepC kf f2 (refu S j) := by
  obtain ⟨a1, a2, a3, a4, a5, a6, me, la, a7, a8, a9, a10⟩ := h
  refine ⟨a1, bkR_fr a2 (fun c _ _ => hc c (by omega)), stR_fr a1 hV.2.1.1 a3 (fun c _ _ => hc c (by omega)), ⟨by rw [hc 75 (by omega)]; exact a4.1, fun k hk => by rw [hc 76 (by omega)]; exact a4.2 k hk⟩, fun i hi => ?_, ⟨by rw [hc 1001 (by omega)]; exact a6.1, by rw [hc 1002 (by omega)]; exact a6.2⟩, me, la, by rw [hc 0 (by omega)]; exact a7, by rw [hc 0 (by omega)]; exact a8, fun z => msR_fr (a9 z) (fun c _ _ => hc c (by omega)), fun z => ⟨(a10 z).1, layR_fr (a10 z).2 (fun c _ _ => hc c (by omega))⟩⟩
  rw [h96]
  show upd (f 96) j (f 96 j + nI 1) i = (if i = j then S.2.2.2 i + 1 else S.2.2.2 i)
  unfold upd
  by_cases e : i = j
  · subst e
    rw [if_pos rfl, if_pos rfl, a5 i hi]
    rfl
  · rw [if_neg e, if_neg e]; exact a5 i hi
theorem s_refu {n j : Nat} {kf : Nat → Nat} {f : Nat → Nat → Int32} {S : ST} (hj : j < 3) (hV : VS S) (hR : RepC kf f S) : ∃ f2, Run n_X6_refuse 110 0 (ini n_X6_refuse [.ref 0, .int (mI (2 + j))]) [] (HH n kf f) (Ret (some (.int (mI (2 + j)))) (HH n kf f2)) ∧ RepC kf f2 (refu S j) ∧ ∀ c, 97 < c → f2 c = f c := ⟨_, s_refuse hj, RepC_refu hV hR (fun c hc => hset_ne hc) (hs_s _ _ _ _), fun c hc => hset_ne (by omega)⟩
theorem s_copyToTry {n : Nat} {kf : Nat → Nat} {f : Nat → Nat → Int32} {S : ST} (hV : VS S) (hR : RepC kf f S) : ∃ f2, Run n_X6_copyToTry 110 0 (ini n_X6_copyToTry [.ref 0]) [] (HH n kf f) (Ret (some (.ref 10)) (HH n kf f2)) ∧ RepC kf f2 S ∧ bkR f2 10 S.1 ∧ ∀ c, c < 10 ∨ 18 < c → f2 c = f c := by
  have hT : mT n_X6_copyToTry = tb_X6_copyToTry := rfl
  have hfr : ∀ c, c < 10 ∨ 18 < c → TF f 10 1 c = f c := fun c hc => TF_out (by omega)
  refine ⟨TF f 10 1, ?_, RepC_fr hV hR (fun c hc => hfr c (by omega)) (by rw [hfr 75 (by omega)]), bkR_TF (by omega) hV.1.1 hR.2.1, hfr⟩
  refine v_p hT rfl rfl ?_
  refine v_getr hT rfl rfl (by omega) rfl ?_
  refine v_p hT rfl rfl ?_
  refine v_getr hT rfl rfl (by omega) rfl ?_
  refine v_call hT [.ref 1] rfl rfl (by first | rfl | assumption) (by omega) rfl rfl (Nat.le_of_ble_eq_true rfl) (Nat.le_of_ble_eq_true rfl) (s_takeFrom (Or.inr (Or.inl rfl)) (Or.inl rfl)) ?_
  refine v_p hT rfl rfl ?_
  refine v_getr hT rfl rfl (by omega) rfl ?_
  refine v_rret hT rfl rfl ⟨rfl, rfl⟩
theorem s_forgetPlans {n : Nat} {kf : Nat → Nat} {f : Nat → Nat → Int32} : Run n_X6_forgetPlans 110 0 (ini n_X6_forgetPlans [.ref 0]) [] (HH n kf f) (Ret none (HH n kf (hset (hset f 0 9 (nI 0)) 0 10 (nI 0)))) := by
  have hT : mT n_X6_forgetPlans = tb_X6_forgetPlans := rfl
  refine v_p hT rfl rfl ?_
  refine v_puti hT rfl rfl (by omega) (fun _ => Or.inl rfl) ?_
  refine v_p hT rfl rfl ?_
  refine v_puti hT rfl rfl (by omega) (fun _ => Or.inl rfl) ?_
  refine v_vret hT rfl rfl ⟨rfl, rfl⟩
/-- a change that is tried, and what becomes of it -/
noncomputable def chg (S : ST) (r : Int32 × BK) : Int32 × ST := bif pB (r.1 = mI 2) then (mI 2, refu S 0) else bif pB (r.1 = mI 3) then (mI 3, refu S 1) else bif pB (r.1 = mI 4) then (mI 4, refu S 2) else (r.1, (r.2, hPush S.2.1 S.1, S.2.2.1, S.2.2.2))
theorem nI_nmI {k j : Nat} (hk : k < 1000) (hj : j < 3) : ¬ nI k = mI (2 + j) := by
  intro h
  have h2 : nI 0 ≤ nI k := (cj_ge (a := k) (b := 0) (by omega) (by omega)).mpr (by omega)
  rw [h] at h2
  rcases (show j = 0 ∨ j = 1 ∨ j = 2 by omega) with e | e | e <;> subst e <;> revert h2 <;> decide
theorem chg_ok {S : ST} {k : Nat} {B : BK} (hk : k < 1000) : chg S (nI k, B) = (nI k, (B, hPush S.2.1 S.1, S.2.2.1, S.2.2.2)) := by
  unfold chg
  rw [pB_f (nI_nmI (j := 0) hk (by omega)), pB_f (nI_nmI (j := 1) hk (by omega)), pB_f (nI_nmI (j := 2) hk (by omega))]
  rfl
theorem chg_no {S : ST} {j : Nat} {B : BK} (hj : j < 3) : chg S (mI (2 + j), B) = (mI (2 + j), refu S j) := by
  unfold chg
  rcases (show j = 0 ∨ j = 1 ∨ j = 2 by omega) with e | e | e
  · subst e; rw [pB_t (show mI (2 + 0) = mI 2 from rfl)]; rfl
  · subst e; rw [pB_f (show ¬ mI (2 + 1) = mI 2 by decide), pB_t (show mI (2 + 1) = mI 3 from rfl)]; rfl
  · subst e; rw [pB_f (show ¬ mI (2 + 2) = mI 2 by decide), pB_f (show ¬ mI (2 + 2) = mI 3 by decide), pB_t (show mI (2 + 2) = mI 4 from rfl)]; rfl
theorem okA_or {x : Int32} (h : okA x) : (∃ j, j < 3 ∧ x = mI (2 + j)) ∨ ∃ k : Nat, k < 1000 ∧ x = nI k := by
  rcases h with h | h | h | h
  · exact Or.inl ⟨0, by omega, h⟩
  · exact Or.inl ⟨1, by omega, h⟩
  · exact Or.inl ⟨2, by omega, h⟩
  · exact Or.inr h
theorem VS_chg {S : ST} {r : Int32 × BK} (hV : VS S) (hB : VB r.2) (hx : okA r.1) : VS (chg S r).2 := by
  rcases okA_or hx with ⟨j, hj, e⟩ | ⟨k, hk, e⟩
  · rw [show r = (mI (2 + j), r.2) from Prod.ext e rfl, chg_no hj]; exact hV
  · rw [show r = (nI k, r.2) from Prod.ext e rfl, chg_ok hk]
    exact ⟨hB, VH_push hV.2.1 hV.1, hV.2.2⟩
theorem s_settle {n : Nat} {kf : Nat → Nat} {f : Nat → Nat → Int32} {S : ST} {r : Int32 × BK} (hV : VS S) (hR : RepC kf f S) (hB : VB r.2) (hb : bkR f 10 r.2) (hx : okA r.1) :
    ∃ kf2 f2, Run n_X6_settle 110 0 (ini n_X6_settle [.ref 0, .int r.1]) [] (HH n kf f) (Ret (some (.int (chg S r).1)) (HH n kf2 f2)) ∧ RepC kf2 f2 (chg S r).2 ∧ ∀ c, 97 < c → f2 c = f c := by
  have hT : mT n_X6_settle = tb_X6_settle := rfl
  rcases okA_or hx with ⟨j, hj, e⟩ | ⟨k, hk, e⟩
  · rw [show r = (mI (2 + j), r.2) from Prod.ext e rfl, chg_no hj]
    obtain ⟨f2, r1, r2, r3⟩ := s_refu (n := n) hj hV hR
    refine ⟨kf, f2, ?_, r2, r3⟩
    refine v_p hT rfl rfl ?_
    refine g_if hT rfl (fun cq => ?_) (fun cq => ?_)
    · exfalso
      have cq : (0 : Int32) ≤ mI (2 + j) := cq
      rcases (show j = 0 ∨ j = 1 ∨ j = 2 by omega) with e | e | e <;> subst e <;> revert cq <;> decide
    · refine v_p hT rfl rfl ?_
      refine v_call hT [.int (mI (2 + j))] rfl rfl (by first | rfl | assumption) (by omega) rfl rfl (Nat.le_of_ble_eq_true rfl) (Nat.le_of_ble_eq_true rfl) (r1) ?_
      refine v_ret hT rfl (fun z => by cases z) rfl ⟨rfl, rfl⟩
  · rw [show r = (nI k, r.2) from Prod.ext e rfl, chg_ok hk]
    obtain ⟨a1, a2, a3, a4, a5, a6, me, la, a7, a8, a9, a10⟩ := hR
    obtain ⟨kf2, f1, r1, b1, b2, b3⟩ := s_keep (n := n) a1 a3 hV.2.1 a2 hV.1
    have hH := VH_push hV.2.1 hV.1
    have hfr : ∀ c, (18 < c ∧ c ≠ 0) → hset (hset (TF f1 1 10) 0 9 (nI 0)) 0 10 (nI 0) c = f1 c := fun c hc => by rw [hset_ne hc.2, hset_ne hc.2, TF_out (by omega)]
    refine ⟨kf2, hset (hset (TF f1 1 10) 0 9 (nI 0)) 0 10 (nI 0), ?_, ⟨b1, ?_, ?_, ?_, fun i hi => ?_, ?_, false, false, ?_, ?_, fun z => (by cases z), fun z => (by cases z)⟩, fun c hc => by rw [hfr c (by omega), b3 c (by omega)]⟩
    · refine v_p hT rfl rfl ?_
      refine g_if hT rfl (fun cq => ?_) (fun cq => ?_)
      · refine v_p hT rfl rfl ?_
        refine v_getr hT rfl rfl (by omega) rfl ?_
        refine v_p hT rfl rfl ?_
        refine v_getr hT rfl rfl (by omega) rfl ?_
        refine v_call hT [.ref 1] rfl rfl (by first | rfl | assumption) (by omega) rfl rfl (Nat.le_of_ble_eq_true rfl) (Nat.le_of_ble_eq_true rfl) (r1) ?_
        refine v_p hT rfl rfl ?_
        refine v_getr hT rfl rfl (by omega) rfl ?_
        refine v_p hT rfl rfl ?_
        refine v_getr hT rfl rfl (by omega) rfl ?_
        refine v_call hT [.ref 10] rfl rfl (by first | rfl | assumption) (by omega) rfl rfl (Nat.le_of_ble_eq_true rfl) (Nat.le_of_ble_eq_true rfl) (s_takeFrom (Or.inl rfl) (Or.inr (Or.inl rfl))) ?_
        refine v_p hT rfl rfl ?_
        refine v_call hT [] rfl rfl (by first | rfl | assumption) (by omega) rfl rfl (Nat.le_of_ble_eq_true rfl) (Nat.le_of_ble_eq_true rfl) (s_forgetPlans) ?_
        refine v_p hT rfl rfl ?_
        refine v_ret hT rfl (fun z => by cases z) rfl ⟨rfl, rfl⟩
      · exact absurd ((cj_ge (a := k) (b := 0) (by omega) (by omega)).mpr (by omega)) cq
    · refine bkR_fr (bkR_TF (f := f1) (b := 1) (b2 := 10) (by omega) hB.1 (bkR_fr hb (fun c h1 h2 => b3 c (by omega)))) (fun c h1 h2 => by rw [hset_ne (by omega), hset_ne (by omega)])
    · exact stR_fr b1 hH.1 b2 (fun c h1 h2 => hfr c (by omega))
    · exact ⟨by rw [hfr 75 (by omega), b3 75 (by omega)]; exact a4.1, fun q hq => by rw [hfr 76 (by omega), b3 76 (by omega)]; exact a4.2 q hq⟩
    · rw [hfr 96 (by omega), b3 96 (by omega)]; exact a5 i hi
    · exact ⟨by rw [hfr 1001 (by omega), b3 1001 (by omega)]; exact a6.1, by rw [hfr 1002 (by omega), b3 1002 (by omega)]; exact a6.2⟩
    · rw [hs_s]
      simp only [upd, if_neg (show (9 : Nat) ≠ 10 by omega)]
      rw [hs_s]
      simp [upd]
      rfl
    · rw [hs_s]; simp [upd]; rfl
