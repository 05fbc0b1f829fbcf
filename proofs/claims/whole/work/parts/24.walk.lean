/-! THE CLASS: all ranks, the walk. -/
theorem s_rankAll {n a0 a1 : Nat} {kf : Nat → Nat} {f : Nat → Nat → Int32} {P : LYP} {law0 law1 : Nat → Bool} {m0 m1 : Nat → Nat} (hP : PBd P) (hL : LCx f P) (hk0 : kd a0 = (2, 61)) (hk1 : kd a1 = (2, 61)) (ha0 : a0 < 87) (ha1 : a1 < 87) (hl0 : ∀ a, a ≤ P.1 → f a0 a = bI (law0 a)) (hl1 : ∀ a, a ≤ P.2.1 → f a1 a = bI (law1 a)) (hm0 : ∀ a, a ≤ P.1 → f 92 a = nI (m0 a) ∧ m0 a < 2 ^ 31) (hm1 : ∀ a, a ≤ P.2.1 → f 93 a = nI (m1 a) ∧ m1 a < 2 ^ 31) (hok : ∀ i j, P.2.2.2.2 i j = (law0 i && law1 j && decide (m0 i = m1 j))) (hen : P.2.2.2.2 P.1 P.2.1 = true) :
    ∃ f2, Run n_X2_rankAll 110 0 (ini n_X2_rankAll [.ref 89, .ref a0, .ref a1]) [] (HH n kf f) (Ret none (HH n kf f2)) ∧ (∀ a b, a ≤ P.1 → b ≤ P.2.1 → f2 91 (a * 61 + b) = nI (rkF P a b)) ∧ ∀ c, c ≠ 91 → f2 c = f c := by
  have hT : mT n_X2_rankAll = tb_X2_rankAll := rfl
  obtain ⟨p1, p2, p3, p4⟩ := id hP
  have hLF : ∀ F : Nat → Nat → Int32, (∀ c, c ≠ 91 → F c = f c) → LCx F P := by
    intro F hF
    obtain ⟨c1, c2, c3, c4⟩ := hL
    exact ⟨by rw [hF 89 (by omega)]; exact c1, by rw [hF 89 (by omega)]; exact c2, by rw [hF 89 (by omega)]; exact c3, fun x y hx hy => by rw [hF 90 (by omega)]; exact c4 x y hx hy⟩
  have hlend : law0 P.1 = true := by
    have h1 := hok P.1 P.2.1
    rw [hen] at h1
    simp only [Bool.true_eq, Bool.and_eq_true] at h1
    exact h1.1.1
  have inner : ∀ i, i ≤ P.1 → ∀ Jp : Nat, Jp ≤ P.2.1 + 1 → ∀ F : Nat → Nat → Int32, (∀ c, c ≠ 91 → F c = f c) → (∀ a b, i < a → a ≤ P.1 → b ≤ P.2.1 → F 91 (a * 61 + b) = nI (rkF P a b)) → (∀ b, Jp ≤ b → b ≤ P.2.1 → F 91 (i * 61 + b) = nI (rkF P i b)) →
      ∃ F2 : Nat → Nat → Int32, (∀ c, c ≠ 91 → F2 c = f c) ∧ (∀ a b, i ≤ a → a ≤ P.1 → b ≤ P.2.1 → F2 91 (a * 61 + b) = nI (rkF P a b)) ∧ ∀ Φ, Run n_X2_rankAll 110 92 [some (.ref 89), some (.ref a0), some (.ref a1), some (.int (nI i)), none, none] [] (HH n kf F2) Φ →
      Run n_X2_rankAll 110 17 [some (.ref 89), some (.ref a0), some (.ref a1), some (.int (nI i)), some (.int (prI Jp)), none] [.int (prI Jp)] (HH n kf F) Φ := by
    intro i hi Jp
    induction Jp with
    | zero =>
      intro _ F hF h1 h2
      refine ⟨F, hF, fun a b x1 x2 x3 => ?_, fun Φ hΦ => ?_⟩
      · by_cases hai : a = i
        · subst hai; exact h2 b (by omega) x3
        · exact h1 a b (by omega) x2 x3
      · refine g_if hT rfl (fun cq => ?_) (fun cq => ?_)
        · exact v_cv hΦ ⟨rfl, rfl, rfl, rfl, trivial⟩ rfl rfl
        · exact absurd prI_0 cq
    | succ j ih =>
      intro hj F hF h1 h2
      have hj : j ≤ P.2.1 := by omega
      obtain ⟨F2, q1, q2, q3⟩ := ih (by omega) (hset F 91 (i * 61 + j) (nI (rkF P i j))) (fun c hc => by rw [hset_ne hc]; exact hF c hc) (fun a b x1 x2 x3 => by
          rw [hs_s]; simp only [upd, if_neg (show a * 61 + b ≠ i * 61 + j by omega)]; exact h1 a b x1 x2 x3) (fun b x1 x2 => by
          rw [hs_s]
          by_cases hbj : b = j
          · subst hbj; simp [upd]
          · simp only [upd, if_neg (show i * 61 + b ≠ i * 61 + j by omega)]; exact h2 b (by omega) x2)
      refine ⟨F2, q1, q2, fun Φ hΦ => ?_⟩
      have hrk : rkR F P i j := by
        intro a b x1 x2 x3 x4 x5
        by_cases hai : a = i
        · subst hai; exact h2 b (by omega) x4
        · exact h1 a b (by omega) x2 x4
      have store : ∀ L, lle [some (.ref 89), some (.ref a0), some (.ref a1), some (.int (nI i)), some (.int (nI j)), none] L → Run n_X2_rankAll 110 85 L [.int (nI (rkF P i j)), .int (nI (i * 61 + j)), .ref 91] (HH n kf F) Φ := by
        intro L hle
        refine v_fgt hle ?_
        refine v_ast hT rfl rfl (by omega) (by decide) (by omega) ?_
        refine v_p hT rfl rfl ?_
        rw [prI_add]
        exact q3 Φ hΦ
      have hokij := hok i j
      have hno : P.2.2.2.2 i j = false → ∀ L, lle [some (.ref 89), some (.ref a0), some (.ref a1), some (.int (nI i)), some (.int (nI j)), none] L → Run n_X2_rankAll 110 53 L [] (HH n kf F) Φ := by
        intro hf L hle
        refine v_fgt hle ?_
        have h5 : rkF P i j = nvr := rkF_no hi hj (fun z => by rw [z.1, z.2, hen] at hf; cases hf) (fun z => by rw [hf] at z; cases z)
        refine v_p hT rfl rfl ?_
        refine v_getr hT rfl rfl (by omega) rfl ?_
        refine v_p hT rfl rfl ?_
        simp only [nI_add, pk_mul]
        refine g_if hT rfl (fun cq9 => ?_) (fun cq9 => ?_)
        · refine v_p hT rfl rfl ?_
          have h6 := store [some (.ref 89), some (.ref a0), some (.ref a1), some (.int (nI i)), some (.int (nI j)), none] ⟨rfl, rfl, rfl, rfl, rfl, trivial⟩
          rw [h5] at h6
          exact v_cv h6 ⟨rfl, rfl, rfl, rfl, rfl, trivial⟩ rfl rfl
        · exact absurd rfl cq9
      refine g_if hT rfl (fun cq => ?_) (fun cq => ?_)
      · exact absurd cq (prI_ok (show j < 2 ^ 31 by omega))
      · refine v_p hT rfl rfl ?_
        refine v_bld hT rfl hk0 (Or.inl rfl) (by omega) (by decide) (by omega) ?_
        rw [hF a0 (by omega), hl0 i hi]
        refine g_if hT rfl (fun cq1 => ?_) (fun cq1 => ?_)
        · rw [bf_of cq1] at hokij
          exact hno hokij _ ⟨rfl, rfl, rfl, rfl, rfl, trivial⟩
        · have b1 := bt_of cq1
          refine v_p hT rfl rfl ?_
          refine v_bld (i := j) hT rfl hk1 (Or.inl rfl) (by omega) (by decide) (by omega) ?_
          rw [hF a1 (by omega), hl1 j hj]
          refine g_if hT rfl (fun cq2 => ?_) (fun cq2 => ?_)
          · rw [b1, bf_of cq2] at hokij
            exact hno hokij _ ⟨rfl, rfl, rfl, rfl, rfl, trivial⟩
          · have b2 := bt_of cq2
            refine v_p hT rfl rfl ?_
            refine v_getr hT rfl rfl (by omega) rfl ?_
            refine v_p hT rfl rfl ?_
            refine v_ald (i := i) hT rfl rfl (by omega) (by decide) (by omega) ?_
            rw [hF 92 (by omega), (hm0 i hi).1]
            refine v_p hT rfl rfl ?_
            refine v_getr hT rfl rfl (by omega) rfl ?_
            refine v_p hT rfl rfl ?_
            refine v_ald (i := j) hT rfl rfl (by omega) (by decide) (by omega) ?_
            rw [hF 93 (by omega), (hm1 j hj).1]
            refine g_cmp hT rfl (fun cq3 => ?_) (fun cq3 => ?_)
            · have cq3 := (cj_ne (hm0 i hi).2 (hm1 j hj).2).mp cq3
              rw [b1, b2, decide_eq_false cq3] at hokij
              exact hno hokij _ ⟨rfl, rfl, rfl, rfl, rfl, trivial⟩
            · have cq3 := Classical.not_not.mp ((not_congr (cj_ne (hm0 i hi).2 (hm1 j hj).2)).mp cq3)
              rw [b1, b2, decide_eq_true cq3] at hokij
              refine v_p hT rfl rfl ?_
              refine v_getr hT rfl rfl (by omega) rfl ?_
              refine v_p hT rfl rfl ?_
              rw [show prI (j + 1) = nI j from rfl]
              simp only [nI_add, pk_mul]
              refine g_if hT rfl (fun cq9 => ?_) (fun cq9 => ?_)
              · exact absurd cq9 (by show ¬ (nI 1 = 0); decide)
              · refine v_p hT rfl rfl ?_
                refine v_call hT [.int (nI i), .int (nI j), .ref a0] rfl rfl (by first | rfl | assumption) (by omega) rfl rfl (Nat.le_of_ble_eq_true rfl) (Nat.le_of_ble_eq_true rfl) (s_leastRank (law := law0) hP (hLF F hF) hi hj hrk hokij hk0 (by omega) (fun a ha => by rw [hF a0 (by omega)]; exact hl0 a ha) (fun a b hab => by rw [hok a b] at hab; simp only [Bool.and_eq_true] at hab; exact hab.1.1) hlend) ?_
                refine v_p hT rfl rfl ?_
                exact v_cv (store [some (.ref 89), some (.ref a0), some (.ref a1), some (.int (nI i)), some (.int (nI j)), none] ⟨rfl, rfl, rfl, rfl, rfl, trivial⟩) ⟨rfl, rfl, rfl, rfl, rfl, trivial⟩ rfl rfl
  have outer : ∀ Ip : Nat, Ip ≤ P.1 + 1 → ∀ F : Nat → Nat → Int32, (∀ c, c ≠ 91 → F c = f c) → (∀ a b, Ip ≤ a → a ≤ P.1 → b ≤ P.2.1 → F 91 (a * 61 + b) = nI (rkF P a b)) →
      ∃ f2, Run n_X2_rankAll 110 6 [some (.ref 89), some (.ref a0), some (.ref a1), some (.int (prI Ip)), none, none] [.int (prI Ip)] (HH n kf F) (Ret none (HH n kf f2)) ∧ (∀ a b, a ≤ P.1 → b ≤ P.2.1 → f2 91 (a * 61 + b) = nI (rkF P a b)) ∧ ∀ c, c ≠ 91 → f2 c = f c := by
    intro Ip
    induction Ip with
    | zero =>
      intro _ F hF h1
      refine ⟨F, ?_, fun a b x1 x2 => h1 a b (by omega) x1 x2, hF⟩
      refine g_if hT rfl (fun cq => ?_) (fun cq => ?_)
      · refine v_vret hT rfl rfl ⟨rfl, rfl⟩
      · exact absurd prI_0 cq
    | succ i ih =>
      intro hi F hF h1
      have c3 := (hLF F hF).2.2.1
      obtain ⟨F2, q1, q2, q3⟩ := inner i (by omega) (P.2.1 + 1) (Nat.le_refl _) F hF (fun a b x1 x2 x3 => h1 a b (by omega) x2 x3) (fun b x1 x2 => by omega)
      obtain ⟨f2, r1, r2⟩ := ih (by omega) F2 q1 q2
      refine ⟨f2, ?_, r2⟩
      refine g_if hT rfl (fun cq => ?_) (fun cq => ?_)
      · exact absurd cq (prI_ok (show i < 2 ^ 31 by omega))
      · repeat (first | refine v_p hT rfl rfl ?_ | refine v_getr hT rfl rfl (by omega) rfl ?_ | refine v_geti hT rfl (by first | rfl | assumption) (by omega) ?_ | refine v_ald hT rfl (by first | assumption | rfl) (by omega) (by decide) (by omega) ?_ | simp only [nI_add, pk_mul, c3])
        refine v_cv (q3 _ ?_) ⟨rfl, rfl, rfl, rfl, rfl, trivial⟩ rfl rfl
        refine v_p hT rfl rfl ?_
        rw [prI_add]
        exact v_cv r1 ⟨rfl, rfl, rfl, rfl, trivial⟩ rfl rfl
  obtain ⟨f2, r1, r2⟩ := outer (P.1 + 1) (Nat.le_refl _) f (fun _ _ => rfl) (fun a b x1 x2 => by omega)
  refine ⟨f2, ?_, r2⟩
  have c2 := hL.2.1
  repeat (first | refine v_p hT rfl rfl ?_ | refine v_getr hT rfl rfl (by omega) rfl ?_ | refine v_geti hT rfl (by first | rfl | assumption) (by omega) ?_ | refine v_ald hT rfl (by first | assumption | rfl) (by omega) (by decide) (by omega) ?_ | simp only [nI_add, pk_mul, c2])
  exact r1
/-! the most taken -/
def isPk (P : LYP) (i j x y : Nat) : Prop := x ≤ min P.2.2.1 (P.1 - i) ∧ y ≤ min P.2.2.1 (P.2.1 - j) ∧ 0 < x + y ∧ byF P (rkF P) i j x y = rkF P i j ∧ ∀ a b, a ≤ min P.2.2.1 (P.1 - i) → b ≤ min P.2.2.1 (P.2.1 - j) → 0 < a + b → byF P (rkF P) i j a b = rkF P i j → a < x ∨ (a = x ∧ b ≤ y)
theorem ex_max (Q : Nat → Prop) : ∀ X, (∃ x, x ≤ X ∧ Q x) → ∃ x, x ≤ X ∧ Q x ∧ ∀ a, a ≤ X → Q a → a ≤ x := by
  intro X
  induction X with
  | zero => intro ⟨x, h1, h2⟩; exact ⟨x, h1, h2, fun a ha _ => by omega⟩
  | succ X ih =>
    intro ⟨x, h1, h2⟩
    by_cases hq : Q (X + 1)
    · exact ⟨X + 1, Nat.le_refl _, hq, fun a ha _ => ha⟩
    · have hx : x ≠ X + 1 := fun e => hq (e ▸ h2)
      obtain ⟨z, a1, a2, a3⟩ := ih ⟨x, by omega, h2⟩
      refine ⟨z, by omega, a2, fun a ha hQ => ?_⟩
      have : a ≠ X + 1 := fun e => hq (e ▸ hQ)
      exact a3 a (by omega) hQ
theorem ex_pk {P : LYP} {i j : Nat} (hi : i ≤ P.1) (hj : j ≤ P.2.1) (hend : ¬ (i = P.1 ∧ j = P.2.1)) (hr : rkF P i j ≠ nvr) : ∃ q : Nat × Nat, isPk P i j q.1 q.2 := by
  have hok : P.2.2.2.2 i j = true := Classical.byContradiction (fun z => hr (rkF_no hi hj hend z))
  have hm := rkF_mn hi hj hend hok
  rcases hm.2.2 with e | ⟨x0, y0, q1, q2, q3, q4⟩
  · exact absurd e hr
  · obtain ⟨x, a1, ⟨y1, a2, a3, a4⟩, a5⟩ := ex_max (fun x => ∃ y, y ≤ min P.2.2.1 (P.2.1 - j) ∧ 0 < x + y ∧ byF P (rkF P) i j x y = rkF P i j) _ ⟨x0, q1, y0, q2, q3, q4.symm⟩
    obtain ⟨y, b1, ⟨b2, b3⟩, b4⟩ := ex_max (fun y => 0 < x + y ∧ byF P (rkF P) i j x y = rkF P i j) _ ⟨y1, a2, a3, a4⟩
    refine ⟨(x, y), a1, b1, b2, b3, fun a b h1 h2 h3 h4 => ?_⟩
    have h5 := a5 a h1 ⟨b, h2, h3, h4⟩
    by_cases hax : a = x
    · subst hax; exact Or.inr ⟨rfl, b4 b h2 ⟨h3, h4⟩⟩
    · exact Or.inl (by omega)
theorem pk_uq {P : LYP} {i j x y a b : Nat} (h1 : isPk P i j x y) (h2 : isPk P i j a b) : x = a ∧ y = b := by
  have h3 := h1.2.2.2.2 a b h2.1 h2.2.1 h2.2.2.1 h2.2.2.2.1
  have h4 := h2.2.2.2.2 x y h1.1 h1.2.1 h1.2.2.1 h1.2.2.2.1
  omega
noncomputable def pkF (P : LYP) (i j : Nat) : Nat × Nat := @dite _ (∃ q : Nat × Nat, isPk P i j q.1 q.2) (Classical.propDecidable _) (fun h => Classical.choose h) (fun _ => (0, 0))
theorem pkF_ok {P : LYP} {i j : Nat} (h : ∃ q : Nat × Nat, isPk P i j q.1 q.2) : isPk P i j (pkF P i j).1 (pkF P i j).2 := by
  unfold pkF
  rw [dif_pos h]
  exact Classical.choose_spec h
noncomputable def posF (P : LYP) : Nat → Nat × Nat
  | 0 => (0, 0)
  | k + 1 => ((posF P k).1 + (pkF P (posF P k).1 (posF P k).2).1, (posF P k).2 + (pkF P (posF P k).1 (posF P k).2).2)
/-- how the walk goes on -/
theorem rk_step {P : LYP} (hP : PBd P) {i j x y : Nat} (hi : i ≤ P.1) (hj : j ≤ P.2.1) (hr : rkF P i j ≠ nvr) (hk : isPk P i j x y) : i + x ≤ P.1 ∧ j + y ≤ P.2.1 ∧ rkF P (i + x) (j + y) ≠ nvr ∧ rkF P i j % 128 = rkF P (i + x) (j + y) % 128 + 1 := by
  obtain ⟨p1, p2, p3, p4⟩ := hP
  obtain ⟨a1, a2, a3, a4, -⟩ := hk
  have hx : i + x ≤ P.1 := by omega
  have hy : j + y ≤ P.2.1 := by omega
  have hn : rkF P (i + x) (j + y) ≠ nvr := by
    intro e
    rw [← a4] at hr
    exact hr (if_pos e)
  have hb : byF P (rkF P) i j x y = rkF P (i + x) (j + y) + 1 + (if i + x = P.1 ∧ j + y = P.2.1 then 0 else tollF P.2.2.1 P.2.2.2.1 x y * 128) := if_neg hn
  refine ⟨hx, hy, hn, ?_⟩
  rw [← a4, hb]
  rcases rkF_lt p1 p2 p3 p4 hx hy with h | h
  · exact absurd h hn
  · have h1 := h.1
    generalize rkF P (i + x) (j + y) = r at h1
    generalize tollF P.2.2.1 P.2.2.2.1 x y = t
    split <;> omega
theorem pos_ok {P : LYP} (hP : PBd P) (hr : rkF P 0 0 ≠ nvr) : ∀ k, k ≤ rkF P 0 0 % 128 → (posF P k).1 ≤ P.1 ∧ (posF P k).2 ≤ P.2.1 ∧ rkF P (posF P k).1 (posF P k).2 ≠ nvr ∧ rkF P (posF P k).1 (posF P k).2 % 128 + k = rkF P 0 0 % 128 := by
  intro k
  induction k with
  | zero => intro _; exact ⟨Nat.zero_le _, Nat.zero_le _, hr, rfl⟩
  | succ k ih =>
    intro hk
    obtain ⟨a1, a2, a3, a4⟩ := ih (by omega)
    have hend : ¬ ((posF P k).1 = P.1 ∧ (posF P k).2 = P.2.1) := by
      intro e
      rw [e.1, e.2, rkF_end] at a4
      omega
    have hpk := pkF_ok (ex_pk a1 a2 hend a3)
    obtain ⟨b1, b2, b3, b4⟩ := rk_step hP a1 a2 a3 hpk
    exact ⟨b1, b2, b3, by show rkF P ((posF P k).1 + _) ((posF P k).2 + _) % 128 + (k + 1) = _; omega⟩
theorem pos_end {P : LYP} (hP : PBd P) (hr : rkF P 0 0 ≠ nvr) : (posF P (rkF P 0 0 % 128)).1 = P.1 ∧ (posF P (rkF P 0 0 % 128)).2 = P.2.1 := by
  obtain ⟨a1, a2, a3, a4⟩ := pos_ok hP hr _ (Nat.le_refl _)
  refine Classical.byContradiction (fun hend => ?_)
  obtain ⟨b1, b2, b3, b4⟩ := rk_step hP a1 a2 a3 (pkF_ok (ex_pk a1 a2 hend a3))
  omega
theorem pos_pk {P : LYP} (hP : PBd P) (hr : rkF P 0 0 ≠ nvr) {k : Nat} (hk : k < rkF P 0 0 % 128) : isPk P (posF P k).1 (posF P k).2 (pkF P (posF P k).1 (posF P k).2).1 (pkF P (posF P k).1 (posF P k).2).2 := by
  obtain ⟨a1, a2, a3, a4⟩ := pos_ok hP hr k (by omega)
  refine pkF_ok (ex_pk a1 a2 (fun e => ?_) a3)
  rw [e.1, e.2, rkF_end] at a4
  omega
