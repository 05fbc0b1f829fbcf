/-! THE CLASS: lines of a side, lawful breaks. -/
def alF (B : BK) (s : Nat) : Nat → Nat → Bool
  | 0, _ => false
  | p + 1, b => if fstF B s p ≤ b ∧ b < fstF B s p + linF B s p then decide (b = fstF B s p ∨ (bSe B 1 ≤ b - fstF B s p ∧ bSe B 1 ≤ linF B s p - (b - fstF B s p))) else alF B s p b
def lawF (B : BK) (s b : Nat) : Bool := if b = totF B s then true else alF B s (bNp B s) b
def isLn (o : Nat) : Prop := o = 81 ∨ o = 84
theorem ln_kd {o : Nat} (h : isLn o) : kd o = (0, 3) ∧ kd (o + 1) = (1, 9) ∧ kd (o + 2) = (2, 61) := by
  rcases h with rfl | rfl <;> decide
theorem ln_rr {o : Nat} (h : isLn o) (n : Nat) (kf : Nat → Nat) : RR n kf o 0 = o + 1 + 1 ∧ RR n kf o 1 = o + 2 + 1 := by
  rcases h with rfl | rfl <;> exact ⟨rfl, rfl⟩
theorem ln_lt {o : Nat} (h : isLn o) : 81 ≤ o ∧ o + 2 < 87 := by
  rcases h with rfl | rfl <;> omega
theorem bI_01 (b : Bool) : bI b = 0 ∨ bI b = 1 := bI_or b
theorem s_allowBreaks {o n t own le : Nat} {kf : Nat → Nat} {f : Nat → Nat → Int32} (ho : isLn o) (ht : f o 2 = nI t) (hto : t + own ≤ 61) (hle : le ≤ 100) :
    ∃ f2, Run n_X3_allowBreaks 110 0 (ini n_X3_allowBreaks [.ref o, .int (nI own), .int (nI le)]) [] (HH n kf f) (Ret none (HH n kf f2)) ∧ (∀ a, a < own → f2 (o + 2) (t + a) = bI (decide (a = 0 ∨ (le ≤ a ∧ le ≤ own - a)))) ∧ (∀ x, x < t → f2 (o + 2) x = f (o + 2) x) ∧ ∀ c, c ≠ o + 2 → f2 c = f c := by
  have hT : mT n_X3_allowBreaks = tb_X3_allowBreaks := rfl
  obtain ⟨l0, l1, l2⟩ := ln_kd ho
  have hlo := ln_lt ho
  have loop : ∀ dd a : Nat, a + dd = own → ∀ F : Nat → Nat → Int32, (∀ c, c ≠ o + 2 → F c = f c) → (∀ x, x < t → F (o + 2) x = f (o + 2) x) → (∀ k, k < a → F (o + 2) (t + k) = bI (decide (k = 0 ∨ (le ≤ k ∧ le ≤ own - k)))) →
      ∃ f2, Run n_X3_allowBreaks 110 4 [some (.ref o), some (.int (nI own)), some (.int (nI le)), some (.int (nI a))] [.int (nI own), .int (nI a)] (HH n kf F) (Ret none (HH n kf f2)) ∧ (∀ a, a < own → f2 (o + 2) (t + a) = bI (decide (a = 0 ∨ (le ≤ a ∧ le ≤ own - a)))) ∧ (∀ x, x < t → f2 (o + 2) x = f (o + 2) x) ∧ ∀ c, c ≠ o + 2 → f2 c = f c := by
    intro dd
    induction dd with
    | zero =>
      intro a ha F hF hx hk
      obtain rfl : a = own := by omega
      refine ⟨F, ?_, hk, hx, hF⟩
      refine g_cmp hT rfl (fun cq => ?_) (fun cq => ?_)
      · refine v_vret hT rfl rfl ⟨rfl, rfl⟩
      · exact absurd ((cj_ge (by omega) (by omega)).mpr (by omega)) cq
    | succ dd ih =>
      intro a ha F hF hx hk
      generalize hv : decide (a = 0 ∨ (le ≤ a ∧ le ≤ own - a)) = v
      obtain ⟨f2, q1, q2⟩ := ih (a + 1) (by omega) (hset F (o + 2) (t + a) (bI v)) (fun c hc => by rw [hset_ne hc]; exact hF c hc) (fun x hxt => by rw [hs_s]; simp only [upd, if_neg (show x ≠ t + a by omega)]; exact hx x hxt) (fun k hka => by
        rw [hs_s]
        by_cases hke : k = a
        · subst hke; simp [upd, hv]
        · simp only [upd, if_neg (show t + k ≠ t + a by omega)]; exact hk k (by omega))
      refine ⟨f2, ?_, q2⟩
      have fin : Run n_X3_allowBreaks 110 38 [some (.ref o), some (.int (nI own)), some (.int (nI le)), some (.int (nI a))] [.int (bI v), .int (nI (t + a)), .ref (o + 2)] (HH n kf F) (Ret none (HH n kf f2)) := by
        refine v_zst hT rfl l2 (by omega) (by decide) (by omega) (bI_01 v) ?_
        refine v_p hT rfl rfl ?_
        simp only [nI_add]
        exact q1
      refine g_cmp hT rfl (fun cq => ?_) (fun cq => ?_)
      · exact absurd ((cj_ge (by omega) (by omega)).mp cq) (by omega)
      · refine v_p hT rfl rfl ?_
        refine v_getr hT rfl l0 (by omega) (ln_rr ho n kf).2 ?_
        refine v_p hT rfl rfl ?_
        refine v_geti hT rfl l0 (by omega) ?_
        rw [hF o (by omega), ht]
        refine v_p hT rfl rfl ?_
        simp only [nI_add]
        refine g_if hT rfl (fun cq2 => ?_) (fun cq2 => ?_)
        · have cq2 := (cj_eq (a := a) (b := 0) (by omega) (by omega)).mp cq2
          rw [decide_eq_true (Or.inl cq2)] at hv
          subst hv
          refine v_p hT rfl rfl ?_
          exact fin
        · have cq2 := (not_congr (cj_eq (a := a) (b := 0) (by omega) (by omega))).mp cq2
          refine v_p hT rfl rfl ?_
          refine g_cmp hT rfl (fun cq3 => ?_) (fun cq3 => ?_)
          · have cq3 := (cj_lt (by omega) (by omega)).mp cq3
            rw [decide_eq_false (by omega)] at hv
            subst hv
            refine v_p hT rfl rfl ?_
            exact fin
          · have cq3 := (not_congr (cj_lt (by omega) (by omega))).mp cq3
            refine v_p hT rfl rfl ?_
            rw [pk_sub (by omega)]
            refine g_cmp hT rfl (fun cq4 => ?_) (fun cq4 => ?_)
            · have cq4 := (cj_lt (by omega) (by omega)).mp cq4
              rw [decide_eq_false (by omega)] at hv
              subst hv
              refine v_p hT rfl rfl ?_
              exact fin
            · have cq4 := (not_congr (cj_lt (by omega) (by omega))).mp cq4
              rw [decide_eq_true (by omega)] at hv
              subst hv
              refine v_p hT rfl rfl ?_
              exact fin
  obtain ⟨f2, q1, q2⟩ := loop own 0 (by omega) f (fun _ _ => rfl) (fun _ _ => rfl) (fun k hk => by omega)
  refine ⟨f2, ?_, q2⟩
  refine v_p hT rfl rfl ?_
  exact q1
theorem alF_old {B : BK} {s p b : Nat} (h : b < fstF B s p) : alF B s (p + 1) b = alF B s p b := by
  show (if _ then _ else _) = _
  rw [if_neg (by omega)]
theorem alF_new {B : BK} {s p a : Nat} (h : a < linF B s p) : alF B s (p + 1) (fstF B s p + a) = decide (a = 0 ∨ (bSe B 1 ≤ a ∧ bSe B 1 ≤ linF B s p - a)) := by
  show (if _ then _ else _) = _
  rw [if_pos (by omega), show fstF B s p + a - fstF B s p = a by omega]
  congr 1
  simp only [eq_iff_iff]
  omega
/-- the cells of a side's lines hold them -/
def lnR (f : Nat → Nat → Int32) (o : Nat) (B : BK) (s : Nat) : Prop := f o 2 = nI (totF B s) ∧ (∀ p, p ≤ bNp B s → f (o + 1) p = nI (fstF B s p)) ∧ ∀ b, b ≤ totF B s → f (o + 2) b = bI (lawF B s b)
theorem s_lines {b o n s : Nat} {kf : Nat → Nat} {f : Nat → Nat → Int32} {B : BK} (hb : isBk b) (ho : isLn o) (hR : bkR f b B) (hV : VB B) (hs : s < 2) :
    ∃ f2, Run n_X3_follow 110 0 (ini n_X3_follow [.ref o, .ref b, .int (nI s)]) [] (HH n kf f) (Ret none (HH n kf f2)) ∧ lnR f2 o B s ∧ ∀ c, c < o ∨ o + 2 < c → f2 c = f c := by
  have hT : mT n_X3_follow = tb_X3_follow := rfl
  obtain ⟨k0, k1, k2, k3, k4, k5, k6, k7, k8⟩ := bk_kd hb
  have hlt := bk_lt hb
  have hblo := bk_lo hb
  obtain ⟨l0, l1, l2⟩ := ln_kd ho
  have hlo := ln_lt ho
  have h8 := hV.1.1 s hs
  have h60 := hV.2 s hs
  have hse := hV.1.2.2.2.1
  have loop : ∀ dd p : Nat, p + dd = bNp B s → ∀ F : Nat → Nat → Int32, (∀ c, c < o ∨ o + 2 < c → F c = f c) → F o 2 = nI (fstF B s p) → (∀ q, q ≤ p → F (o + 1) q = nI (fstF B s q)) → (∀ x, x < fstF B s p → F (o + 2) x = bI (alF B s p x)) →
      ∃ f2, Run n_X3_follow 110 21 [some (.ref o), some (.ref b), some (.int (nI s)), some (.int (nI p)), none] [.int (nI (bNp B s)), .int (nI p)] (HH n kf F) (Ret none (HH n kf f2)) ∧ lnR f2 o B s ∧ ∀ c, c < o ∨ o + 2 < c → f2 c = f c := by
    intro dd
    induction dd with
    | zero =>
      intro p hp F hF h2 h3 h4
      obtain rfl : p = bNp B s := by omega
      have h2 : F o 2 = nI (totF B s) := h2
      refine ⟨hset F (o + 2) (totF B s) (nI 1), ?_, ⟨?_, ?_, ?_⟩, fun c hc => by rw [hset_ne (by omega)]; exact hF c hc⟩
      · refine g_cmp hT rfl (fun cq => ?_) (fun cq => ?_)
        · refine v_p hT rfl rfl ?_
          refine v_getr hT rfl l0 (by omega) (ln_rr ho n kf).2 ?_
          refine v_p hT rfl rfl ?_
          refine v_geti hT rfl l0 (by omega) ?_
          rw [h2]
          refine v_p hT rfl rfl ?_
          refine v_zst hT rfl l2 (by omega) (by decide) (by omega) (Or.inr rfl) ?_
          refine v_vret hT rfl rfl ⟨rfl, rfl⟩
        · exact absurd ((cj_ge (by omega) (by omega)).mpr (by omega)) cq
      · rw [hset_ne (by omega)]; exact h2
      · intro q hq; rw [hset_ne (by omega)]; exact h3 q hq
      · intro x hx
        rw [hs_s]
        unfold lawF
        by_cases hxt : x = totF B s
        · subst hxt; simp [upd]; rfl
        · simp only [upd, if_neg hxt]
          exact h4 x (by unfold totF at hx hxt; omega)
    | succ dd ih =>
      intro p hp F hF h2 h3 h4
      have hRF : bkR F b B := bkR_fr hR (fun c hc1 hc2 => hF c (by omega))
      have hf1 : fstF B s p + linF B s p = fstF B s (p + 1) := rfl
      have hmon : fstF B s (p + 1) ≤ totF B s := fstF_mono B s (show p + 1 ≤ bNp B s by omega)
      obtain ⟨f1, r1, r2, r3, r4⟩ := s_allowBreaks (n := n) (kf := kf) (own := linF B s p) (le := bSe B 1) ho h2 (by omega) (by omega)
      obtain ⟨f2, q1, q2⟩ := ih (p + 1) (by omega) (hset (hset f1 o 2 (nI (fstF B s (p + 1)))) (o + 1) (p + 1) (nI (fstF B s (p + 1)))) (fun c hc => by rw [hset_ne (by omega), hset_ne (by omega), r4 c (by omega)]; exact hF c hc) (by rw [hset_ne (by omega), hs_s]; simp [upd]) (fun q hq => by
        rw [hs_s]
        by_cases hqe : q = p + 1
        · subst hqe; simp [upd]
        · simp only [upd, if_neg hqe]
          rw [hset_ne (by omega), r4 _ (by omega)]
          exact h3 q (by omega)) (fun x hx => by
        rw [hset_ne (by omega), hset_ne (by omega)]
        by_cases hxl : x < fstF B s p
        · rw [r3 x hxl, alF_old hxl]
          exact h4 x hxl
        · have h9 := r2 (x - fstF B s p) (by omega)
          have h10 := alF_new (B := B) (s := s) (p := p) (a := x - fstF B s p) (by omega)
          rw [show fstF B s p + (x - fstF B s p) = x by omega] at h9 h10
          rw [h9, h10])
      refine ⟨f2, ?_, q2⟩
      refine g_cmp hT rfl (fun cq => ?_) (fun cq => ?_)
      · exact absurd ((cj_ge (by omega) (by omega)).mp cq) (by omega)
      · refine v_p hT rfl rfl ?_
        refine v_scall hT [.int (nI s), .int (nI p)] rfl rfl rfl rfl (Nat.le_of_ble_eq_true rfl) (Nat.le_of_ble_eq_true rfl) (s_slot s p) ?_
        refine v_call hT [.int (nI (s * 8 + p))] rfl rfl (by first | rfl | assumption) (by omega) rfl rfl (Nat.le_of_ble_eq_true rfl) (Nat.le_of_ble_eq_true rfl) (s_linesInB hb hRF hV.1 hs (show p < bNp B s by omega)) ?_
        repeat (first | refine v_p hT rfl rfl ?_ | refine v_getr hT rfl rfl (by omega) rfl ?_ | refine v_getr hT rfl k0 (by omega) (bk_rr hb _ _ _ (by decide)) ?_ | refine v_geti hT rfl (by first | rfl | assumption) (by omega) ?_ | refine v_ald hT rfl (by first | assumption | rfl) (by omega) (by decide) (by omega) ?_ | simp only [nI_add, pk_mul, hRF.2.2.2.1 1 (by omega)])
        refine v_call hT [.int (nI (linF B s p)), .int (nI (bSe B 1))] rfl rfl l0 (by omega) rfl rfl (Nat.le_of_ble_eq_true rfl) (Nat.le_of_ble_eq_true rfl) r1 ?_
        refine v_p hT rfl rfl ?_
        refine v_geti hT rfl l0 (by omega) ?_
        rw [r4 o (by omega), h2]
        refine v_p hT rfl rfl ?_
        rw [nI_add, hf1]
        refine v_puti hT rfl l0 (by omega) (fun z => by cases z) ?_
        refine v_p hT rfl rfl ?_
        refine v_getr hT rfl l0 (by omega) (ln_rr ho n kf).1 ?_
        refine v_p hT rfl rfl ?_
        refine v_geti hT rfl l0 (by omega) ?_
        rw [hs_s]
        simp only [upd, if_pos, nI_add]
        refine v_ast hT rfl l1 (by omega) (by decide) (by omega) ?_
        refine v_p hT rfl rfl ?_
        refine v_getr hT rfl k0 (by omega) (bk_rr hb _ _ _ (by decide)) ?_
        refine v_p hT rfl rfl ?_
        refine v_ald hT rfl k1 (by omega) (by decide) (by omega) ?_
        rw [hset_ne (by omega), hset_ne (by omega), r4 _ (by omega), hRF.1 s hs]
        refine v_cv q1 ⟨rfl, rfl, rfl, ?_, trivial⟩ ?_ rfl
        · rw [nI_add]
        · rw [nI_add]; rfl
  obtain ⟨f2, q1, q2⟩ := loop (bNp B s) 0 (by omega) (hset (hset f o 2 (nI 0)) (o + 1) 0 (nI 0)) (fun c hc => by rw [hset_ne (by omega), hset_ne (by omega)]) (by rw [hset_ne (by omega), hs_s]; simp [upd, fstF]) (fun q hq => by rw [Nat.le_zero.mp hq, hs_s]; simp [upd, fstF]) (fun x hx => by simp [fstF] at hx)
  refine ⟨f2, ?_, q2⟩
  refine v_p hT rfl rfl ?_
  refine v_puti hT rfl l0 (by omega) (fun z => by cases z) ?_
  refine v_p hT rfl rfl ?_
  refine v_getr hT rfl l0 (by omega) (ln_rr ho n kf).1 ?_
  refine v_p hT rfl rfl ?_
  refine v_ast hT rfl l1 (by omega) (by decide) (by omega) ?_
  refine v_p hT rfl rfl ?_
  refine v_getr hT rfl k0 (by omega) (bk_rr hb _ _ _ (by decide)) ?_
  refine v_p hT rfl rfl ?_
  refine v_ald hT rfl k1 (by omega) (by decide) (by omega) ?_
  rw [hset_ne (by omega), hset_ne (by omega), hR.1 s hs]
  exact q1
