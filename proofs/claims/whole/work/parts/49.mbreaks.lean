/-! THE REFERENCE: lawful breaks; what an opening may take. -/
theorem m_findsBreaks {n s : Nat} {kf : Nat → Nat} {f : Nat → Nat → Int32} {B : BK} (hR : nowR (f 100) B) (hV : VB B) (hs : s < 2) :
    ∃ F, Run n_X7_findsBreaks 110 0 (ini n_X7_findsBreaks [.ref 98, .int (nI s)]) [] (HH n kf f) (Ret none (HH n kf F)) ∧ (∀ b, b ≤ totF B s → F 103 (61 * s + b) = bI (lawF B s b)) ∧ (∀ x, x < 61 * s ∨ 61 * s + 61 ≤ x → F 103 x = f 103 x) ∧ (∀ p, p ≤ bNp B s → F 104 (9 * s + p) = nI (fstF B s p)) ∧ (∀ x, x < 9 * s ∨ 9 * s + 9 ≤ x → F 104 x = f 104 x) ∧ ∀ c, c ≠ 103 → c ≠ 104 → F c = f c := by
  have hT : mT n_X7_findsBreaks = tb_X7_findsBreaks := rfl
  have h8 := hV.1.1 s hs
  have h60 := hV.2 s hs
  have hse := hV.1.2.2.2.1
  have h3 : f 100 3 = nI (bSe B 1) := hR.2.1 1 (by omega)
  have lp2 : ∀ d p, p + d = bNp B s → ∀ F : Nat → Nat → Int32, (∀ c, c ≠ 103 → c ≠ 104 → F c = f c) → (∀ x, x < 61 * s ∨ 61 * s + 61 ≤ x → F 103 x = f 103 x) → (∀ x, x < 9 * s ∨ 9 * s + 9 ≤ x → F 104 x = f 104 x) → (∀ q, q < p → F 104 (9 * s + q) = nI (fstF B s q)) → (∀ x, x < fstF B s p → F 103 (61 * s + x) = bI (alF B s p x)) →
      ∃ F2, Run n_X7_findsBreaks 110 36 [some (.ref 98), some (.int (nI s)), some (.int (nI (fstF B s p))), some (.int (nI p)), none, none] [.int (nI (bNp B s)), .int (nI p)] (HH n kf F) (Ret none (HH n kf F2)) ∧ (∀ b, b ≤ totF B s → F2 103 (61 * s + b) = bI (lawF B s b)) ∧ (∀ x, x < 61 * s ∨ 61 * s + 61 ≤ x → F2 103 x = f 103 x) ∧ (∀ p, p ≤ bNp B s → F2 104 (9 * s + p) = nI (fstF B s p)) ∧ (∀ x, x < 9 * s ∨ 9 * s + 9 ≤ x → F2 104 x = f 104 x) ∧ ∀ c, c ≠ 103 → c ≠ 104 → F2 c = f c := by
    intro d
    induction d with
    | zero =>
      intro p hp F hF x3 x4 h4 hl
      obtain rfl : p = bNp B s := by omega
      have hm : F 100 (5 + s) = nI (bNp B s) := by rw [hF 100 (by omega) (by omega)]; exact hR.2.2.1 s hs
      have ht : fstF B s (bNp B s) = totF B s := rfl
      refine ⟨hset (hset F 104 (9 * s + bNp B s) (nI (totF B s))) 103 (61 * s + totF B s) (nI 1), ?_, fun b hb => ?_, fun x hx => ?_, fun p hp => ?_, fun x hx => ?_, fun c c1 c2 => by rw [hset_ne c1, hset_ne c2]; exact hF c c1 c2⟩
      · refine g_cmp hT rfl (fun cq => ?_) (fun cq => ?_)
        · refine v_p hT rfl rfl ?_
          refine v_getr hT rfl rfl (by omega) rfl ?_
          refine v_p hT rfl rfl ?_
          refine v_call hT [.int (nI s)] rfl rfl (by first | rfl | assumption) (by omega) rfl rfl (Nat.le_of_ble_eq_true rfl) (Nat.le_of_ble_eq_true rfl) (m_many hs) ?_
          rw [hm]
          refine v_p hT rfl rfl ?_
          rw [pk_mul, nI_add, ht]
          refine v_ast hT rfl rfl (by omega) (by decide) (by omega) ?_
          refine v_p hT rfl rfl ?_
          refine v_getr hT rfl rfl (by omega) rfl ?_
          refine v_p hT rfl rfl ?_
          rw [pk_mul, nI_add]
          refine v_zst hT rfl rfl (by omega) (by decide) (by omega) (Or.inr rfl) ?_
          refine v_vret hT rfl rfl ⟨rfl, rfl⟩
        · exact absurd ((cj_ge (by omega) (by omega)).mpr (by omega)) cq
      · rw [hs_s]
        unfold lawF
        by_cases e : b = totF B s
        · subst e; rw [if_pos rfl]; exact pk_us
        · rw [if_neg e, pk_un (by omega), hset_ne (by omega)]
          exact hl b (by omega)
      · rw [hs_s, pk_un (by omega), hset_ne (by omega)]; exact x3 x hx
      · rw [hset_ne (by omega), hs_s]
        by_cases e : p = bNp B s
        · subst e; rw [pk_us]; rfl
        · rw [pk_un (by omega)]; exact h4 p (by omega)
      · rw [hset_ne (by omega), hs_s, pk_un (by omega)]; exact x4 x hx
    | succ d ih =>
      intro p hp F hF x3 x4 h4 hl
      have hRF : nowR (F 100) B := by rw [hF 100 (by omega) (by omega)]; exact hR
      have hf1 : fstF B s p + linF B s p = fstF B s (p + 1) := rfl
      have hmon : fstF B s (p + 1) ≤ totF B s := fstF_mono B s (show p + 1 ≤ bNp B s by omega)
      have inner : ∀ e k, k + e = linF B s p → ∀ G : Nat → Nat → Int32, (∀ c, c ≠ 103 → c ≠ 104 → G c = f c) → (∀ x, x < 61 * s ∨ 61 * s + 61 ≤ x → G 103 x = f 103 x) → (∀ x, x < 9 * s ∨ 9 * s + 9 ≤ x → G 104 x = f 104 x) → (∀ q, q < p + 1 → G 104 (9 * s + q) = nI (fstF B s q)) → (∀ x, x < fstF B s p + k → G 103 (61 * s + x) = bI (alF B s (p + 1) x)) →
          ∃ F2, Run n_X7_findsBreaks 110 66 [some (.ref 98), some (.int (nI s)), some (.int (nI (fstF B s p))), some (.int (nI p)), some (.int (nI (linF B s p))), some (.int (nI k))] [.int (nI (linF B s p)), .int (nI k)] (HH n kf G) (Ret none (HH n kf F2)) ∧ (∀ b, b ≤ totF B s → F2 103 (61 * s + b) = bI (lawF B s b)) ∧ (∀ x, x < 61 * s ∨ 61 * s + 61 ≤ x → F2 103 x = f 103 x) ∧ (∀ p, p ≤ bNp B s → F2 104 (9 * s + p) = nI (fstF B s p)) ∧ (∀ x, x < 9 * s ∨ 9 * s + 9 ≤ x → F2 104 x = f 104 x) ∧ ∀ c, c ≠ 103 → c ≠ 104 → F2 c = f c := by
        intro e
        induction e with
        | zero =>
          intro k hk G g0 g3 g4 gf gl
          obtain ⟨F2, r1, r2⟩ := ih (p + 1) (by omega) G g0 g3 g4 gf (fun x hx => gl x (by omega))
          refine ⟨F2, ?_, r2⟩
          have hm : G 100 (5 + s) = nI (bNp B s) := by rw [g0 100 (by omega) (by omega)]; exact hR.2.2.1 s hs
          refine g_cmp hT rfl (fun cq => ?_) (fun cq => ?_)
          · refine v_p hT rfl rfl ?_
            refine v_call hT [.int (nI s)] rfl rfl (by first | rfl | assumption) (by omega) rfl rfl (Nat.le_of_ble_eq_true rfl) (Nat.le_of_ble_eq_true rfl) (m_many hs) ?_
            rw [hm]
            refine v_cv r1 ⟨rfl, rfl, ?_, ?_, trivial⟩ ?_ rfl
            · rw [nI_add]; rfl
            · rw [nI_add]
            · rw [nI_add]; rfl
          · exact absurd ((cj_ge (by omega) (by omega)).mpr (by omega)) cq
        | succ e ih2 =>
          intro k hk G g0 g3 g4 gf gl
          have hG3 : G 100 3 = nI (bSe B 1) := by rw [g0 100 (by omega) (by omega)]; exact h3
          generalize hv : decide (k = 0 ∨ (bSe B 1 ≤ k ∧ bSe B 1 ≤ linF B s p - k)) = v
          obtain ⟨F2, r1, r2⟩ := ih2 (k + 1) (by omega) (hset G 103 (61 * s + fstF B s p + k) (bI v)) (fun c c1 c2 => by rw [hset_ne c1]; exact g0 c c1 c2) (fun x hx => by rw [hs_s, pk_un (by omega)]; exact g3 x hx) (fun x hx => by rw [hset_ne (by omega)]; exact g4 x hx) (fun q hq => by rw [hset_ne (by omega)]; exact gf q hq) (fun x hx => by
            rw [hs_s]
            by_cases e : x = fstF B s p + k
            · rw [e, show 61 * s + (fstF B s p + k) = 61 * s + fstF B s p + k by omega, pk_us, alF_new (by omega), hv]
            · rw [pk_un (by omega)]
              exact gl x (by omega))
          refine ⟨F2, ?_, r2⟩
          have fin : Run n_X7_findsBreaks 110 117 [some (.ref 98), some (.int (nI s)), some (.int (nI (fstF B s p))), some (.int (nI p)), some (.int (nI (linF B s p))), some (.int (nI k))] [.int (bI v), .int (nI (61 * s + fstF B s p + k)), .ref 103] (HH n kf G) (Ret none (HH n kf F2)) := by
            refine v_zst hT rfl rfl (by omega) (by decide) (by omega) (bI_01 v) ?_
            refine v_p hT rfl rfl ?_
            simp only [nI_add]
            exact r1
          refine g_cmp hT rfl (fun cq => ?_) (fun cq => ?_)
          · exact absurd ((cj_ge (by omega) (by omega)).mp cq) (by omega)
          · refine v_p hT rfl rfl ?_
            refine v_getr hT rfl rfl (by omega) rfl ?_
            refine v_p hT rfl rfl ?_
            simp only [pk_mul, nI_add]
            refine g_if hT rfl (fun cq2 => ?_) (fun cq2 => ?_)
            · have cq2 := (cj_eq (a := k) (b := 0) (by omega) (by omega)).mp cq2
              rw [decide_eq_true (Or.inl cq2)] at hv
              subst hv
              refine v_p hT rfl rfl ?_
              exact fin
            · have cq2 := (not_congr (cj_eq (a := k) (b := 0) (by omega) (by omega))).mp cq2
              refine v_p hT rfl rfl ?_
              refine v_getr hT rfl rfl (by omega) rfl ?_
              refine v_p hT rfl rfl ?_
              refine v_ald hT rfl (by first | assumption | rfl) (by omega) (by decide) (by omega) ?_
              rw [hG3]
              refine g_cmp hT rfl (fun cq3 => ?_) (fun cq3 => ?_)
              · have cq3 := (cj_lt (by omega) (by omega)).mp cq3
                rw [decide_eq_false (by omega)] at hv
                subst hv
                refine v_p hT rfl rfl ?_
                exact fin
              · have cq3 := (not_congr (cj_lt (by omega) (by omega))).mp cq3
                refine v_p hT rfl rfl ?_
                rw [pk_sub (by omega)]
                refine v_getr hT rfl rfl (by omega) rfl ?_
                refine v_p hT rfl rfl ?_
                refine v_ald hT rfl (by first | assumption | rfl) (by omega) (by decide) (by omega) ?_
                rw [hG3]
                refine g_cmp hT rfl (fun cq4 => ?_) (fun cq4 => ?_)
                · have cq4 := (cj_lt (by omega) (by omega)).mp cq4
                  rw [decide_eq_false (by omega)] at hv
                  subst hv
                  refine v_p hT rfl rfl ?_
                  exact fin
                · have cq4 := (not_congr (cj_lt (by omega) (by omega))).mp cq4
                  rw [decide_eq_true (by omega)] at hv
                  subst hv
                  refine v_p hT rfl rfl ?_
                  exact fin
      obtain ⟨F2, r1, r2⟩ := inner (linF B s p) 0 (by omega) (hset F 104 (9 * s + p) (nI (fstF B s p))) (fun c c1 c2 => by rw [hset_ne c2]; exact hF c c1 c2) (fun x hx => by rw [hset_ne (by omega)]; exact x3 x hx) (fun x hx => by rw [hs_s, pk_un (by omega)]; exact x4 x hx) (fun q hq => by
        rw [hs_s]
        by_cases e : q = p
        · subst e; rw [pk_us]
        · rw [pk_un (by omega)]; exact h4 q (by omega)) (fun x hx => by rw [hset_ne (by omega), hl x (by omega), alF_old (by omega)])
      refine ⟨F2, ?_, r2⟩
      refine g_cmp hT rfl (fun cq => ?_) (fun cq => ?_)
      · exact absurd ((cj_ge (by omega) (by omega)).mp cq) (by omega)
      · refine v_p hT rfl rfl ?_
        refine v_call hT [.int (nI s), .int (nI p)] rfl rfl (by first | rfl | assumption) (by omega) rfl rfl (Nat.le_of_ble_eq_true rfl) (Nat.le_of_ble_eq_true rfl) (m_linesOf hRF hV.1 hs (show p < bNp B s by omega)) ?_
        refine v_p hT rfl rfl ?_
        refine v_getr hT rfl rfl (by omega) rfl ?_
        refine v_p hT rfl rfl ?_
        rw [pk_mul, nI_add]
        refine v_ast hT rfl rfl (by omega) (by decide) (by omega) ?_
        refine v_p hT rfl rfl ?_
        exact r1
  have lp1 : ∀ d b, b + d = 61 → ∀ F : Nat → Nat → Int32, (∀ c, c ≠ 103 → F c = f c) → (∀ x, x < 61 * s ∨ 61 * s + 61 ≤ x → F 103 x = f 103 x) →
      ∃ F2, (∀ Φ, Run n_X7_findsBreaks 110 28 [some (.ref 98), some (.int (nI s)), some (.int (nI 0)), none, none, none] [] (HH n kf F2) Φ → Run n_X7_findsBreaks 110 7 [some (.ref 98), some (.int (nI s)), some (.int (nI 0)), some (.int (nI b)), none, none] [.int (nI 60), .int (nI b)] (HH n kf F) Φ) ∧ (∀ c, c ≠ 103 → F2 c = f c) ∧ (∀ x, x < 61 * s ∨ 61 * s + 61 ≤ x → F2 103 x = f 103 x) := by
    intro d
    induction d with
    | zero =>
      intro b hb F hF hx
      refine ⟨F, fun Φ hΦ => ?_, hF, hx⟩
      refine g_cmp hT rfl (fun cq => ?_) (fun cq => ?_)
      · exact v_cv hΦ ⟨rfl, rfl, rfl, trivial⟩ rfl rfl
      · exact absurd ((cj_gt (by omega) (by omega)).mpr (by omega)) cq
    | succ d ih =>
      intro b hb F hF hx
      obtain ⟨F2, r1, r2⟩ := ih (b + 1) (by omega) (hset F 103 (61 * s + b) (nI 0)) (fun c hc => by rw [hset_ne hc]; exact hF c hc) (fun x hx2 => by rw [hs_s, pk_un (by omega)]; exact hx x hx2)
      refine ⟨F2, fun Φ hΦ => ?_, r2⟩
      refine g_cmp hT rfl (fun cq => ?_) (fun cq => ?_)
      · exact absurd ((cj_gt (by omega) (by omega)).mp cq) (by omega)
      · refine v_p hT rfl rfl ?_
        refine v_getr hT rfl rfl (by omega) rfl ?_
        refine v_p hT rfl rfl ?_
        rw [pk_mul, nI_add]
        refine v_zst hT rfl rfl (by omega) (by decide) (by omega) (Or.inl rfl) ?_
        refine v_p hT rfl rfl ?_
        refine v_cv (r1 Φ hΦ) ⟨rfl, rfl, rfl, ?_, trivial⟩ ?_ rfl
        · rw [nI_add]
        · rw [nI_add]
  obtain ⟨F1, r1, r2, r3⟩ := lp1 61 0 (by omega) f (fun _ _ => rfl) (fun _ _ => rfl)
  obtain ⟨F2, q1, q2⟩ := lp2 (bNp B s) 0 (by omega) F1 (fun c c1 _ => r2 c c1) r3 (fun x _ => by rw [r2 104 (by omega)]) (fun q hq => absurd hq (Nat.not_lt_zero _)) (fun x hx => absurd hx (Nat.not_lt_zero _))
  refine ⟨F2, ?_, q2⟩
  have hm : F1 100 (5 + s) = nI (bNp B s) := by rw [r2 100 (by omega)]; exact hR.2.2.1 s hs
  refine v_p hT rfl rfl ?_
  refine r1 _ ?_
  refine v_p hT rfl rfl ?_
  refine v_call hT [.int (nI s)] rfl rfl (by first | rfl | assumption) (by omega) rfl rfl (Nat.le_of_ble_eq_true rfl) (Nat.le_of_ble_eq_true rfl) (m_many hs) ?_
  rw [hm]
  exact q1
/-- what the layout rests on -/
def MC (f : Nat → Nat → Int32) (B : BK) : Prop := nowR (f 100) B ∧ f 98 6 = nI (keptF B) ∧ (∀ s b, s < 2 → b ≤ totF B s → f 103 (61 * s + b) = bI (lawF B s b)) ∧ ∀ s p, s < 2 → p ≤ bNp B s → f 104 (9 * s + p) = nI (fstF B s p)
theorem MC_fr {f F : Nat → Nat → Int32} {B : BK} (h : MC f B) (h6 : F 98 6 = f 98 6) (hc : ∀ c, c = 100 ∨ c = 103 ∨ c = 104 → F c = f c) : MC F B := by
  obtain ⟨a1, a2, a3, a4⟩ := h
  refine ⟨by rw [hc 100 (by omega)]; exact a1, by rw [h6]; exact a2, by rw [hc 103 (by omega)]; exact a3, by rw [hc 104 (by omega)]; exact a4⟩
theorem m_all {n s : Nat} {kf : Nat → Nat} {f : Nat → Nat → Int32} {B : BK} (hM : MC f B) (hV : VB B) (hs : s < 2) :
    Run n_X7_all 110 0 (ini n_X7_all [.ref 98, .int (nI s)]) [] (HH n kf f) (Ret (some (.int (nI (totF B s)))) (HH n kf f)) := by
  have hT : mT n_X7_all = tb_X7_all := rfl
  have h8 := hV.1.1 s hs
  refine v_p hT rfl rfl ?_
  refine v_getr hT rfl rfl (by omega) rfl ?_
  refine v_p hT rfl rfl ?_
  refine v_call hT [.int (nI s)] rfl rfl (by first | rfl | assumption) (by omega) rfl rfl (Nat.le_of_ble_eq_true rfl) (Nat.le_of_ble_eq_true rfl) (m_many hs) ?_
  rw [hM.1.2.2.1 s hs]
  refine v_p hT rfl rfl ?_
  rw [pk_mul, nI_add]
  refine v_ald hT rfl (by first | assumption | rfl) (by omega) (by decide) (by omega) ?_
  rw [hM.2.2.2 s (bNp B s) hs (Nat.le_refl _)]
  refine v_ret hT rfl (fun z => by cases z) rfl ⟨rfl, rfl⟩
theorem m_costOf {n x y : Nat} {kf : Nat → Nat} {f : Nat → Nat → Int32} {B : BK} (hR : nowR (f 100) B) (hx : x ≤ bSe B 0) (hy : y ≤ bSe B 0) :
    Run n_X7_costOf 110 0 (ini n_X7_costOf [.ref 98, .int (nI x), .int (nI y)]) [] (HH n kf f) (Ret (some (.int (nI (tollF (bSe B 0) (bSe B 2) x y)))) (HH n kf f)) := by
  have hT : mT n_X7_costOf = tb_X7_costOf := rfl
  have h0 : f 100 2 = nI (bSe B 0) := hR.2.1 0 (by omega)
  have h2 : f 100 4 = nI (bSe B 2) := hR.2.1 2 (by omega)
  refine v_p hT rfl rfl ?_
  refine v_getr hT rfl rfl (by omega) rfl ?_
  refine v_p hT rfl rfl ?_
  refine v_ald hT rfl (by first | assumption | rfl) (by omega) (by decide) (by omega) ?_
  rw [h0]
  refine v_p hT rfl rfl ?_
  refine v_getr hT rfl rfl (by omega) rfl ?_
  refine v_p hT rfl rfl ?_
  refine v_ald hT rfl (by first | assumption | rfl) (by omega) (by decide) (by omega) ?_
  rw [h0]
  refine v_p hT rfl rfl ?_
  refine v_getr hT rfl rfl (by omega) rfl ?_
  refine v_p hT rfl rfl ?_
  refine v_ald hT rfl (by first | assumption | rfl) (by omega) (by decide) (by omega) ?_
  rw [h2]
  refine v_p hT rfl rfl ?_
  rw [toll_i hx hy]
  refine v_ret hT rfl (fun z => by cases z) rfl ⟨rfl, rfl⟩
def fpN (B : BK) (s i : Nat) : Nat := fstF B s (bTi B s i)
noncomputable def tiB (B : BK) (a x b y : Nat) : Nat → Bool
  | 0 => true
  | i + 1 => tiB B a x b y i && (!((keptF B).testBit i) || (decide (a ≤ fpN B 0 i ∧ fpN B 0 i < a + x) == decide (b ≤ fpN B 1 i ∧ fpN B 1 i < b + y)))
theorem in_less {a x v : Nat} (ha : a + x < 2 ^ 31) (hv : v < 2 ^ 31) : decide (nI a ≤ nI v ∧ nI v ≤ nI (a + x) - nI 1) = decide (a ≤ v ∧ v < a + x) := by
  congr 1
  simp only [eq_iff_iff]
  by_cases hz : a + x = 0
  · rw [hz]
    constructor
    · intro ⟨_, h2⟩
      exact absurd (Int32.le_trans (nI_pos' hv) h2) (by decide)
    · intro h; omega
  · rw [pk_sub (by omega), nI_leI (by omega) hv, nI_leI hv (by omega)]
    omega
theorem bI_cmp (p q : Bool) : cnd 1 (bI p) (bI q) ↔ ¬ p = q := by
  cases p <;> cases q <;> simp [cnd, bI]
theorem m_areTied {n a x b y : Nat} {kf : Nat → Nat} {f : Nat → Nat → Int32} {B : BK} (hM : MC f B) (hV : VB B) (ha : a + x < 1000) (hb : b + y < 1000) :
    Run n_X7_areTied 110 0 (ini n_X7_areTied [.ref 98, .int (nI a), .int (nI x), .int (nI b), .int (nI y)]) [] (HH n kf f) (Ret (some (.int (bI (tiB B a x b y (bNt B))))) (HH n kf f)) := by
  have hT : mT n_X7_areTied = tb_X7_areTied := rfl
  have h10 := hV.1.2.2.2.2.1
  have n0 := hV.1.1 0 (by omega)
  have n1 := hV.1.1 1 (by omega)
  have h7 : f 100 7 = nI (bNt B) := hM.1.2.2.2.1
  have hkl := kept_lt h10
  have loop : ∀ d i, i + d = bNt B → Run n_X7_areTied 110 15 [some (.ref 98), some (.int (nI a)), some (.int (nI x)), some (.int (nI b)), some (.int (nI y)), some (.int (bI (tiB B a x b y i))), some (.int (nI i)), none, none] [.int (nI (bNt B)), .int (nI i)] (HH n kf f) (Ret (some (.int (bI (tiB B a x b y (bNt B))))) (HH n kf f)) := by
    intro d
    induction d with
    | zero =>
      intro i hi
      obtain rfl : i = bNt B := by omega
      refine g_cmp hT rfl (fun cq => ?_) (fun cq => ?_)
      · refine v_p hT rfl rfl ?_
        refine v_ret hT rfl (fun _ => bI_or _) rfl ⟨rfl, rfl⟩
      · exact absurd ((cj_ge (by omega) (by omega)).mpr (by omega)) cq
    | succ d ih =>
      intro i hi
      have ti := hM.1.2.2.2.2.2 i (by omega)
      have vi := hV.1.2.2.2.2.2 i (by omega)
      have p0 : fpN B 0 i ≤ 60 := Nat.le_trans (fstF_mono B 0 (Nat.le_of_lt vi.1)) (hV.2 0 (by omega))
      have p1 : fpN B 1 i ≤ 60 := Nat.le_trans (fstF_mono B 1 (Nat.le_of_lt vi.2.1)) (hV.2 1 (by omega))
      have e0 : f 104 (bTi B 0 i) = nI (fpN B 0 i) := by have := hM.2.2.2 0 (bTi B 0 i) (by omega) (by omega); rw [show 9 * 0 + bTi B 0 i = bTi B 0 i by omega] at this; exact this
      have e1 : f 104 (9 + bTi B 1 i) = nI (fpN B 1 i) := hM.2.2.2 1 (bTi B 1 i) (by omega) (by omega)
      generalize hp : decide (a ≤ fpN B 0 i ∧ fpN B 0 i < a + x) = pv
      generalize hq : decide (b ≤ fpN B 1 i ∧ fpN B 1 i < b + y) = qv
      have nxt : ∀ v2 : Bool, v2 = tiB B a x b y (i + 1) → Run n_X7_areTied 110 9 [some (.ref 98), some (.int (nI a)), some (.int (nI x)), some (.int (nI b)), some (.int (nI y)), some (.int (bI v2)), some (.int (nI i + nI 1)), some (.int (bI pv)), some (.int (bI qv))] [.ref 98, .int (nI i + nI 1)] (HH n kf f) (Ret (some (.int (bI (tiB B a x b y (bNt B))))) (HH n kf f)) := by
        intro v2 e2
        subst e2
        refine v_getr hT rfl rfl (by omega) rfl ?_
        refine v_p hT rfl rfl ?_
        refine v_ald hT rfl (by first | assumption | rfl) (by omega) (by decide) (by omega) ?_
        rw [h7]
        refine v_cv (ih (i + 1) (by omega)) ⟨rfl, rfl, rfl, rfl, rfl, rfl, ?_, trivial⟩ ?_ rfl
        · rw [nI_add]
        · rw [nI_add]
      have hst : tiB B a x b y (i + 1) = (tiB B a x b y i && (!((keptF B).testBit i) || (pv == qv))) := by rw [← hp, ← hq]; rfl
      refine g_cmp hT rfl (fun cq => ?_) (fun cq => ?_)
      · exact absurd ((cj_ge (by omega) (by omega)).mp cq) (by omega)
      · refine v_p hT rfl rfl ?_
        refine v_getr hT rfl rfl (by omega) rfl ?_
        refine v_p hT rfl rfl ?_
        refine v_call hT [.int (nI i), .int (nI 0)] rfl rfl (by first | rfl | assumption) (by omega) rfl rfl (Nat.le_of_ble_eq_true rfl) (Nat.le_of_ble_eq_true rfl) (m_ofTie (by omega) (by omega)) ?_
        rw [ti 0 (by omega)]
        refine v_ald hT rfl rfl (by omega) (by decide) (show bTi B 0 i < 18 by omega) ?_
        rw [e0]
        refine v_p hT rfl rfl ?_
        rw [nI_add]
        refine v_scall hT [.int (nI (fpN B 0 i)), .int (nI a), .int (nI (a + x) - nI 1)] rfl rfl rfl rfl (Nat.le_of_ble_eq_true rfl) (Nat.le_of_ble_eq_true rfl) (m_in _ _ _) ?_
        rw [in_less (by omega) (by omega), hp]
        refine v_p hT rfl rfl ?_
        refine v_getr hT rfl rfl (by omega) rfl ?_
        refine v_p hT rfl rfl ?_
        refine v_call hT [.int (nI i), .int (nI 1)] rfl rfl (by first | rfl | assumption) (by omega) rfl rfl (Nat.le_of_ble_eq_true rfl) (Nat.le_of_ble_eq_true rfl) (m_ofTie (by omega) (by omega)) ?_
        rw [ti 1 (by omega)]
        refine v_p hT rfl rfl ?_
        rw [nI_add]
        refine v_ald hT rfl rfl (by omega) (by decide) (show 9 + bTi B 1 i < 18 by omega) ?_
        rw [e1]
        refine v_p hT rfl rfl ?_
        rw [nI_add]
        refine v_scall hT [.int (nI (fpN B 1 i)), .int (nI b), .int (nI (b + y) - nI 1)] rfl rfl rfl rfl (Nat.le_of_ble_eq_true rfl) (Nat.le_of_ble_eq_true rfl) (m_in _ _ _) ?_
        rw [in_less (by omega) (by omega), hq]
        refine v_p hT rfl rfl ?_
        refine g_if hT rfl (fun cq2 => ?_) (fun cq2 => ?_)
        · have hv := bf_of cq2
          refine v_p hT rfl rfl ?_
          exact nxt false (by rw [hst, hv]; rfl)
        · have hv := bt_of cq2
          refine v_p hT rfl rfl ?_
          refine v_geti hT rfl (by first | rfl | assumption) (by omega) ?_
          rw [hM.2.1]
          refine v_p hT rfl rfl ?_
          refine g_if hT rfl (fun cq3 => ?_) (fun cq3 => ?_)
          · have cq3 := (tb_z (by omega) (by omega)).mp cq3
            have b1 : (keptF B).testBit i = false := by cases hz : (keptF B).testBit i with
              | false => rfl
              | true => exact absurd hz cq3
            refine v_p hT rfl rfl ?_
            exact nxt true (by rw [hst, hv, b1]; rfl)
          · have b1 : (keptF B).testBit i = true := Classical.byContradiction (fun z => cq3 ((tb_z (by omega) (by omega)).mpr z))
            refine v_p hT rfl rfl ?_
            refine g_cmp hT rfl (fun cq4 => ?_) (fun cq4 => ?_)
            · have cq4 := (bI_cmp pv qv).mp cq4
              refine v_p hT rfl rfl ?_
              exact nxt false (by rw [hst, hv, b1, show (pv == qv) = false from beq_false_of_ne cq4]; rfl)
            · have cq4 : pv = qv := Classical.byContradiction (fun z => cq4 ((bI_cmp pv qv).mpr z))
              refine v_p hT rfl rfl ?_
              exact nxt true (by rw [hst, hv, b1, cq4]; simp)
  refine v_p hT rfl rfl ?_
  refine v_getr hT rfl rfl (by omega) rfl ?_
  refine v_p hT rfl rfl ?_
  refine v_ald hT rfl (by first | assumption | rfl) (by omega) (by decide) (by omega) ?_
  rw [h7]
  exact loop (bNt B) 0 (by omega)
