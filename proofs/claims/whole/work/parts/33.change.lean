/-! THE CLASS: the calls that change. -/
def CSp (m : Nat) (as : List Value) (S : ST) (r : Int32 × ST) : Prop := ∀ (n : Nat) (kf : Nat → Nat) (f : Nat → Nat → Int32), RepC kf f S → ∃ kf2 f2, Run m 110 0 (ini m (.ref 0 :: as)) [] (HH n kf f) (Ret (some (.int r.1)) (HH n kf2 f2)) ∧ RepC kf2 f2 r.2 ∧ ∀ c, 97 < c → f2 c = f c
noncomputable def aUnt (B : BK) (i : Int32) : Int32 × BK := bif pB (∃ k, k < bNt B ∧ i = nI k) then (nI (bNt B - 1), bTieGo B i.toNatClampNeg) else (mI 2, B)
theorem aUnt_ok {B : BK} (hV : VB B) (i : Int32) : VB (aUnt B i).2 ∧ okA (aUnt B i).1 := by
  unfold aUnt
  have h10 := hV.1.2.2.2.2.1
  cases hc : pB (∃ k, k < bNt B ∧ i = nI k) with
  | false => exact ⟨hV, Or.inl rfl⟩
  | true =>
    obtain ⟨k, hk, e⟩ := pB_of hc
    refine ⟨?_, Or.inr (Or.inr (Or.inr ⟨bNt B - 1, by omega, rfl⟩))⟩
    subst e
    show VB (bTieGo B _)
    rw [nI_tn (by omega)]
    exact VB_tieGo hV hk
/-- from the trial on -/
theorem C_try {m : Nat} {as : List Value} {S : ST} {r : Int32 × BK} (hV : VS S) (hB : VB r.2) (hx : okA r.1) (h : ∀ (n : Nat) (kf : Nat → Nat) (f : Nat → Nat → Int32), RepC kf f S → bkR f 10 S.1 → ∃ f2, bkR f2 10 r.2 ∧ (∀ c, c < 10 ∨ 18 < c → f2 c = f c) ∧ ∀ a kf2 f3 f0, Run n_X6_copyToTry 110 0 (ini n_X6_copyToTry [.ref 0]) [] (HH n kf f0) (Ret (some (.ref 10)) (HH n kf f)) → Run n_X6_settle 110 0 (ini n_X6_settle [.ref 0, .int r.1]) [] (HH n kf f2) (Ret (some (.int a)) (HH n kf2 f3)) → Run m 110 0 (ini m (.ref 0 :: as)) [] (HH n kf f0) (Ret (some (.int a)) (HH n kf2 f3))) : CSp m as S (chg S r) := by
  intro n kf f hR
  obtain ⟨f1, r1, hR1, b1, k1⟩ := s_copyToTry (n := n) hV hR
  obtain ⟨f2, b2, k2, hgo⟩ := h n kf f1 hR1 b1
  obtain ⟨kf2, f3, r3, hR3, k3⟩ := s_settle (n := n) (kf := kf) (f := f2) (S := S) (r := r) hV (RepC_fr hV hR1 (fun c hc => k2 c (by omega)) (by rw [k2 75 (by omega)])) hB b2 hx
  exact ⟨kf2, f3, hgo _ _ _ _ r1 r3, hR3, fun c hc => by rw [k3 c hc, k2 c (by omega), k1 c (by omega)]⟩
theorem s_dropTieB {b n : Nat} {kf : Nat → Nat} {f : Nat → Nat → Int32} {B : BK} (hb : isBk b) (hR : bkR f b B) (hV : VB0 B) (i : Int32) :
    ∃ f2, Run n_X0_dropTie 110 0 (ini n_X0_dropTie [.ref b, .int i]) [] (HH n kf f) (Ret (some (.int (aUnt B i).1)) (HH n kf f2)) ∧ bkR f2 b (aUnt B i).2 ∧ ∀ c, c < b ∨ b + 8 < c → f2 c = f c := by
  have h10 := hV.2.2.2.2.1
  unfold aUnt
  by_cases hc : ∃ k, k < bNt B ∧ i = nI k
  · rw [pB_t hc]
    obtain ⟨k, hk, e⟩ := hc
    subst e
    refine ⟨_, s_dropTie hb hR.2.2.2.2.1 h10 hk, ?_, fun c hc => ?_⟩
    · show bkR _ b (bTieGo B _)
      rw [nI_tn (by omega)]
      exact bkR_tieGo hR hk
    · rw [hset_ne (by omega)]
      unfold hputs
      simp only [if_neg (show ¬ c = b + 8 by omega), if_neg (show ¬ c = b + 7 by omega), if_neg (show ¬ c = b + 6 by omega)]
  · rw [pB_f hc]
    exact ⟨f, s_dropTieBad hb hR.2.2.2.2.1 h10 hc, hR, fun _ _ => rfl⟩
theorem C_drops {S : ST} (hV : VS S) (s p : Int32) : CSp n_X6_drops [.int s, .int p] S (chg S (aDrop S.1 s p)) := by
  have hT : mT n_X6_drops = tb_X6_drops := rfl
  obtain ⟨o1, o2⟩ := aDrop_ok hV.1 s p
  refine C_try hV o1 o2 (fun n kf f hR hb => ?_)
  obtain ⟨f2, e1, e2, e3⟩ := s_dropParagraph (n := n) (kf := kf) (b := 10) (Or.inr (Or.inl rfl)) hb hV.1.1 s p
  refine ⟨f2, e2, e3, fun a kf2 f3 f0 q1 q2 => ?_⟩
  refine v_p hT rfl rfl ?_
  refine v_call hT [] rfl rfl (by first | rfl | assumption) (by omega) rfl rfl (Nat.le_of_ble_eq_true rfl) (Nat.le_of_ble_eq_true rfl) (q1) ?_
  refine v_p hT rfl rfl ?_
  refine v_call hT [.int s, .int p] rfl rfl (by first | rfl | assumption) (by omega) rfl rfl (Nat.le_of_ble_eq_true rfl) (Nat.le_of_ble_eq_true rfl) (e1) ?_
  refine v_call hT [.int (aDrop S.1 s p).1] rfl rfl (by first | rfl | assumption) (by omega) rfl rfl (Nat.le_of_ble_eq_true rfl) (Nat.le_of_ble_eq_true rfl) (q2) ?_
  refine v_ret hT rfl (fun z => by cases z) rfl ⟨rfl, rfl⟩
theorem C_widths {S : ST} (hV : VS S) (s v : Int32) : CSp n_X6_widths [.int s, .int v] S (chg S (aWid S.1 s v)) := by
  have hT : mT n_X6_widths = tb_X6_widths := rfl
  obtain ⟨o1, o2⟩ := aWid_ok hV.1 s v
  refine C_try hV o1 o2 (fun n kf f hR hb => ?_)
  obtain ⟨f2, e1, e2, e3⟩ := s_changeWidth (n := n) (kf := kf) (b := 10) (Or.inr (Or.inl rfl)) hb hV.1.1 s v
  refine ⟨f2, e2, e3, fun a kf2 f3 f0 q1 q2 => ?_⟩
  refine v_p hT rfl rfl ?_
  refine v_call hT [] rfl rfl (by first | rfl | assumption) (by omega) rfl rfl (Nat.le_of_ble_eq_true rfl) (Nat.le_of_ble_eq_true rfl) (q1) ?_
  refine v_p hT rfl rfl ?_
  refine v_call hT [.int s, .int v] rfl rfl (by first | rfl | assumption) (by omega) rfl rfl (Nat.le_of_ble_eq_true rfl) (Nat.le_of_ble_eq_true rfl) (e1) ?_
  refine v_call hT [.int (aWid S.1 s v).1] rfl rfl (by first | rfl | assumption) (by omega) rfl rfl (Nat.le_of_ble_eq_true rfl) (Nat.le_of_ble_eq_true rfl) (q2) ?_
  refine v_ret hT rfl (fun z => by cases z) rfl ⟨rfl, rfl⟩
theorem C_sets {S : ST} (hV : VS S) (w v : Int32) : CSp n_X6_sets [.int w, .int v] S (chg S (aSet S.1 w v)) := by
  have hT : mT n_X6_sets = tb_X6_sets := rfl
  obtain ⟨o1, o2⟩ := aSet_ok hV.1 w v
  refine C_try hV o1 o2 (fun n kf f hR hb => ?_)
  obtain ⟨f2, e1, e2, e3⟩ := s_changeSetting (n := n) (kf := kf) (b := 10) (Or.inr (Or.inl rfl)) hb hR.2.2.2.2.2.1.1 hR.2.2.2.2.2.1.2 w v
  refine ⟨f2, e2, e3, fun a kf2 f3 f0 q1 q2 => ?_⟩
  refine v_p hT rfl rfl ?_
  refine v_call hT [] rfl rfl (by first | rfl | assumption) (by omega) rfl rfl (Nat.le_of_ble_eq_true rfl) (Nat.le_of_ble_eq_true rfl) (q1) ?_
  refine v_p hT rfl rfl ?_
  refine v_call hT [.int w, .int v] rfl rfl (by first | rfl | assumption) (by omega) rfl rfl (Nat.le_of_ble_eq_true rfl) (Nat.le_of_ble_eq_true rfl) (e1) ?_
  refine v_call hT [.int (aSet S.1 w v).1] rfl rfl (by first | rfl | assumption) (by omega) rfl rfl (Nat.le_of_ble_eq_true rfl) (Nat.le_of_ble_eq_true rfl) (q2) ?_
  refine v_ret hT rfl (fun z => by cases z) rfl ⟨rfl, rfl⟩
theorem C_ties {S : ST} (hV : VS S) (p q w : Int32) : CSp n_X6_ties [.int p, .int q, .int w] S (chg S (aTie S.1 p q w)) := by
  have hT : mT n_X6_ties = tb_X6_ties := rfl
  obtain ⟨o1, o2⟩ := aTie_ok hV.1 p q w
  refine C_try hV o1 o2 (fun n kf f hR hb => ?_)
  obtain ⟨f2, e1, e2, e3⟩ := s_addTie (n := n) (kf := kf) (b := 10) (Or.inr (Or.inl rfl)) hb hV.1.1 p q w
  refine ⟨f2, e2, e3, fun a kf2 f3 f0 q1 q2 => ?_⟩
  refine v_p hT rfl rfl ?_
  refine v_call hT [] rfl rfl (by first | rfl | assumption) (by omega) rfl rfl (Nat.le_of_ble_eq_true rfl) (Nat.le_of_ble_eq_true rfl) (q1) ?_
  refine v_p hT rfl rfl ?_
  refine v_call hT [.int p, .int q, .int w] rfl rfl (by first | rfl | assumption) (by omega) rfl rfl (Nat.le_of_ble_eq_true rfl) (Nat.le_of_ble_eq_true rfl) (e1) ?_
  refine v_call hT [.int (aTie S.1 p q w).1] rfl rfl (by first | rfl | assumption) (by omega) rfl rfl (Nat.le_of_ble_eq_true rfl) (Nat.le_of_ble_eq_true rfl) (q2) ?_
  refine v_ret hT rfl (fun z => by cases z) rfl ⟨rfl, rfl⟩
theorem C_unties {S : ST} (hV : VS S) (i : Int32) : CSp n_X6_unties [.int i] S (chg S (aUnt S.1 i)) := by
  have hT : mT n_X6_unties = tb_X6_unties := rfl
  obtain ⟨o1, o2⟩ := aUnt_ok hV.1 i
  refine C_try hV o1 o2 (fun n kf f hR hb => ?_)
  obtain ⟨f2, e1, e2, e3⟩ := s_dropTieB (n := n) (kf := kf) (b := 10) (Or.inr (Or.inl rfl)) hb hV.1.1 i
  refine ⟨f2, e2, e3, fun a kf2 f3 f0 q1 q2 => ?_⟩
  refine v_p hT rfl rfl ?_
  refine v_call hT [] rfl rfl (by first | rfl | assumption) (by omega) rfl rfl (Nat.le_of_ble_eq_true rfl) (Nat.le_of_ble_eq_true rfl) (q1) ?_
  refine v_p hT rfl rfl ?_
  refine v_call hT [.int i] rfl rfl (by first | rfl | assumption) (by omega) rfl rfl (Nat.le_of_ble_eq_true rfl) (Nat.le_of_ble_eq_true rfl) (e1) ?_
  refine v_call hT [.int (aUnt S.1 i).1] rfl rfl (by first | rfl | assumption) (by omega) rfl rfl (Nat.le_of_ble_eq_true rfl) (Nat.le_of_ble_eq_true rfl) (q2) ?_
  refine v_ret hT rfl (fun z => by cases z) rfl ⟨rfl, rfl⟩
theorem lin_add {B : BK} {s n : Nat} {l : Nat → Nat} : linF (bParAdd B s n l) s (bNp B s) = (lineF (bWd B s) l (n - 1)).1 + 1 := by
  unfold linF
  simp only [bParAdd, bNw, bLn, bWd, and_self, if_true]
theorem tot_add_cg {B : BK} {s n : Nat} {l l' : Nat → Nat} (h : ∀ k, k ≤ n - 1 → l k = l' k) : totF (bParAdd B s n l) s = totF (bParAdd B s n l') s := by
  rw [totF_add, totF_add, lin_add, lin_add, lineF_congr (n - 1) h]
theorem bkR_addcg {B : BK} {s n : Nat} {l l' : Nat → Nat} (h : ∀ k, k < n → l k = l' k) {f : Nat → Nat → Int32} {b : Nat} (q : bkR f b (bParAdd B s n l)) : bkR f b (bParAdd B s n l') := by
  obtain ⟨a1, a2, a3, a4, a5, a6⟩ := q
  refine ⟨a1, fun z p hz hp => ⟨(a2 z p hz hp).1, fun k hk => ?_⟩, a3, a4, a5, a6⟩
  have h5 := (a2 z p hz hp).2 k hk
  refine h5.trans ?_
  by_cases e : z = s ∧ p = bNp B s
  · have hk : k < (if z = s ∧ p = bNp B s then n else bNw B z p) := hk
    rw [if_pos e] at hk
    show nI (if z = s ∧ p = bNp B s then l k else bLn B z p k) = nI (if z = s ∧ p = bNp B s then l' k else bLn B z p k)
    rw [if_pos e, if_pos e, h k hk]
  · show nI (if z = s ∧ p = bNp B s then l k else bLn B z p k) = nI (if z = s ∧ p = bNp B s then l' k else bLn B z p k)
    rw [if_neg e, if_neg e]
def aParX (X Y : Bool) (a : Int32) (B C : BK) : Int32 × BK := bif X then (bif Y then (mI 4, B) else (a, C)) else (mI 2, B)
theorem aParX_cg {X Y : Bool} {a : Int32} {B C C2 : BK} (e3 : ∀ f b, bkR f b C → bkR f b C2) : (aParX X Y a B C).1 = (aParX X Y a B C2).1 ∧ ∀ f b, bkR f b (aParX X Y a B C).2 → bkR f b (aParX X Y a B C2).2 := by
  cases X with
  | false => exact ⟨rfl, fun f b q => q⟩
  | true =>
    cases Y with
    | true => exact ⟨rfl, fun f b q => q⟩
    | false => exact ⟨rfl, e3⟩
theorem aPar_X (B : BK) (s n : Nat) (ws : Nat → Int32) : aPar B s n ws = aParX (pB (∀ k, k < n → nI 1 ≤ ws k ∧ ws k ≤ nI 9)) (decide (8 ≤ bNp B s) || decide (60 < totF (bParAdd B s n (fun k => (ws k).toNatClampNeg)) s)) (nI (bNp B s)) B (bParAdd B s n (fun k => (ws k).toNatClampNeg)) := by unfold aPar aParX; rfl
theorem aPar_e1 {n : Nat} {ws ws' : Nat → Int32} (h : ∀ k, k < n → ws k = ws' k) : pB (∀ k, k < n → nI 1 ≤ ws k ∧ ws k ≤ nI 9) = pB (∀ k, k < n → nI 1 ≤ ws' k ∧ ws' k ≤ nI 9) := by
  have e1 : (∀ k, k < n → nI 1 ≤ ws k ∧ ws k ≤ nI 9) = (∀ k, k < n → nI 1 ≤ ws' k ∧ ws' k ≤ nI 9) := propext ⟨fun q k hk => by rw [← h k hk]; exact q k hk, fun q k hk => by rw [h k hk]; exact q k hk⟩
  rw [e1]
theorem aPar_e2 {B : BK} {s n : Nat} {ws ws' : Nat → Int32} (h1 : 1 ≤ n) (h : ∀ k, k < n → ws k = ws' k) : totF (bParAdd B s n (fun k => (ws k).toNatClampNeg)) s = totF (bParAdd B s n (fun k => (ws' k).toNatClampNeg)) s := tot_add_cg (fun k hk => congrArg Int32.toNatClampNeg (h k (by omega)))
theorem aPar_cg {B : BK} {s n : Nat} {ws ws' : Nat → Int32} (h1 : 1 ≤ n) (h : ∀ k, k < n → ws k = ws' k) : (aPar B s n ws).1 = (aPar B s n ws').1 ∧ ∀ f b, bkR f b (aPar B s n ws).2 → bkR f b (aPar B s n ws').2 := by
  rw [aPar_X, aPar_X, aPar_e1 h, aPar_e2 h1 h]
  exact aParX_cg (fun f b q => bkR_addcg (fun k hk => congrArg Int32.toNatClampNeg (h k hk)) q)
def sdN (sd k : Nat) : Nat := (sd * 7 + k * k * 3 + k * 5) % 9 + 1
noncomputable def oPara (S : ST) (s n sd : Int32) : Int32 × ST := bif decide (0 ≤ s ∧ s ≤ 1) && decide (nI 1 ≤ n ∧ n ≤ nI 12) && decide (nI 0 ≤ sd ∧ sd ≤ nI 99) then chg S (aPar S.1 s.toNatClampNeg n.toNatClampNeg (fun k => nI (sdN sd.toNatClampNeg k))) else (mI 2, refu S 0)
theorem C_para {S : ST} (hV : VS S) (s n sd : Int32) : CSp n_X6_para [.int s, .int n, .int sd] S (oPara S s n sd) := by
  have hT : mT n_X6_para = tb_X6_para := rfl
  intro m kf f hR
  obtain ⟨fr, q1, q2, q3⟩ := s_refu (n := m) (j := 0) (by omega) hV hR
  have hbad : Run n_X6_para 110 27 [some (.ref 0), some (.int s), some (.int n), some (.int sd), none] [] (HH m kf f) (Ret (some (.int (mI 2))) (HH m kf fr)) := by
    refine v_p hT rfl rfl ?_
    refine v_call hT [.int (mI 2)] rfl rfl (by first | rfl | assumption) (by omega) rfl rfl (Nat.le_of_ble_eq_true rfl) (Nat.le_of_ble_eq_true rfl) (q1) ?_
    refine v_ret hT rfl (fun z => by cases z) rfl ⟨rfl, rfl⟩
  unfold oPara
  by_cases c1 : 0 ≤ s ∧ s ≤ 1
  · by_cases c2 : nI 1 ≤ n ∧ n ≤ nI 12
    · by_cases c3 : nI 0 ≤ sd ∧ sd ≤ nI 99
      · rw [decide_eq_true c1, decide_eq_true c2, decide_eq_true c3]
        obtain ⟨N, n1, n2, n3⟩ := in_range n (by omega) c2 (by omega)
        obtain ⟨D, d1, d2, d3⟩ := in_range sd (by omega) c3 (by omega)
        obtain ⟨Z, z1, z2⟩ : ∃ Z, Z < 2 ∧ s = nI Z := by
          rcases int_lo c1 with e | e
          · exact ⟨0, by omega, e⟩
          · exact ⟨1, by omega, e⟩
        subst n3; subst d3; subst z2
        show ∃ kf2 f2, Run n_X6_para 110 0 _ [] (HH m kf f) (Ret (some (.int (chg S (aPar S.1 _ _ _)).1)) (HH m kf2 f2)) ∧ RepC kf2 f2 (chg S (aPar S.1 _ _ _)).2 ∧ _
        rw [nI_tn (show Z < 2 ^ 31 by omega), nI_tn (show N < 2 ^ 31 by omega), nI_tn (show D < 2 ^ 31 by omega)]
        obtain ⟨o1, o2⟩ := aPar_ok hV.1 z1 n1 n2 (fun k => nI (sdN D k))
        have loop : ∀ d k, k + d = N → ∀ F : Nat → Nat → Int32, (∀ c, c ≠ 97 → F c = f c) → (∀ j, j < k → F 97 j = nI (sdN D j)) → ∃ F2 : Nat → Nat → Int32, (∀ c, c ≠ 97 → F2 c = f c) ∧ (∀ j, j < N → F2 97 j = nI (sdN D j)) ∧ ∀ Φ, Run n_X6_para 110 78 [some (.ref 0), some (.int (nI Z)), some (.int (nI N)), some (.int (nI D)), none] [] (HH m kf F2) Φ → Run n_X6_para 110 40 [some (.ref 0), some (.int (nI Z)), some (.int (nI N)), some (.int (nI D)), some (.int (nI k))] [.int (nI N), .int (nI k)] (HH m kf F) Φ := by
          intro d
          induction d with
          | zero =>
            intro k hk F hF hj
            refine ⟨F, hF, fun j hj2 => hj j (by omega), fun Φ hΦ => ?_⟩
            refine g_cmp hT rfl (fun cq => ?_) (fun cq => ?_)
            · exact v_cv hΦ ⟨rfl, rfl, rfl, rfl, trivial⟩ rfl rfl
            · exact absurd ((cj_ge (by omega) (by omega)).mpr (by omega)) cq
          | succ d ih =>
            intro k hk F hF hj
            obtain ⟨F2, g1, g2, g3⟩ := ih (k + 1) (by omega) (hset F 97 k (nI (sdN D k))) (fun c hc => by rw [hset_ne hc]; exact hF c hc) (fun j hj2 => by
              rw [hs_s]
              unfold upd
              by_cases e : j = k
              · rw [if_pos e, e]
              · rw [if_neg e]; exact hj j (by omega))
            refine ⟨F2, g1, g2, fun Φ hΦ => ?_⟩
            refine g_cmp hT rfl (fun cq => ?_) (fun cq => ?_)
            · exact absurd ((cj_ge (by omega) (by omega)).mp cq) (by omega)
            · refine v_p hT rfl rfl ?_
              refine v_getr hT rfl rfl (by omega) rfl ?_
              refine v_p hT rfl rfl ?_
              rw [pk_mul, pk_mul, pk_mul, pk_mul, nI_add, nI_add]
              have hb1 : k * k ≤ 12 * 12 := Nat.mul_le_mul (by omega) (by omega)
              refine g_remN hT rfl (by omega) (by omega) (by omega) ?_
              refine v_p hT rfl rfl ?_
              rw [nI_add]
              refine v_ast hT rfl rfl (by omega) (by decide) (by omega) ?_
              refine v_p hT rfl rfl ?_
              refine v_cv (g3 Φ hΦ) ⟨rfl, rfl, rfl, rfl, ?_, trivial⟩ ?_ rfl
              · rw [nI_add]
              · rw [nI_add]
        obtain ⟨F2, g1, g2, g3⟩ := loop N 0 (by omega) f (fun _ _ => rfl) (fun j hj => absurd hj (Nat.not_lt_zero _))
        have hRF : RepC kf F2 S := RepC_fr hV hR (fun c hc => g1 c (by omega)) (by rw [g1 75 (by omega)])
        obtain ⟨f1, r1, hR1, b1, k1⟩ := s_copyToTry (n := m) hV hRF
        obtain ⟨f2, e1, e2, e3⟩ := s_addParagraph (m := m) (kf := kf) (f := f1) (b := 10) (r := 97) (at_ := 0) (s := Z) (n := N) (Or.inr (Or.inl rfl)) b1 hV.1.1 z1 n1 n2 rfl (by omega) (by omega) (by omega) (by omega)
        obtain ⟨p1, p2⟩ := aPar_cg (B := S.1) (s := Z) (n := N) (ws := fun k => f1 97 (0 + k)) (ws' := fun k => nI (sdN D k)) n1 (fun k hk => by
          show f1 97 (0 + k) = nI (sdN D k)
          rw [k1 97 (by omega), Nat.zero_add]
          exact g2 k hk)
        rw [p1] at e1
        obtain ⟨kf2, f3, r3, hR3, k3⟩ := s_settle (n := m) (kf := kf) (f := f2) (S := S) (r := aPar S.1 Z N (fun k => nI (sdN D k))) hV (RepC_fr hV hR1 (fun c hc => e3 c (by omega)) (by rw [e3 75 (by omega)])) o1 (p2 _ _ e2) o2
        refine ⟨kf2, f3, ?_, hR3, fun c hc => by rw [k3 c hc, e3 c (by omega), k1 c (by omega), g1 c (by omega)]⟩
        refine v_p hT rfl rfl ?_
        refine v_scall hT [.int (nI Z)] rfl rfl rfl rfl (Nat.le_of_ble_eq_true rfl) (Nat.le_of_ble_eq_true rfl) (s_isSide (nI Z)) ?_
        rw [decide_eq_true c1]
        refine g_if hT rfl (fun cq => ?_) (fun cq => ?_)
        · cases bf_of cq
        · refine v_p hT rfl rfl ?_
          refine v_scall hT [.int (nI N), .int (nI 1), .int (nI 12)] rfl rfl rfl rfl (Nat.le_of_ble_eq_true rfl) (Nat.le_of_ble_eq_true rfl) (s_within (nI N) (nI 1) (nI 12)) ?_
          rw [decide_eq_true c2]
          refine g_if hT rfl (fun cq2 => ?_) (fun cq2 => ?_)
          · cases bf_of cq2
          · refine v_p hT rfl rfl ?_
            refine v_scall hT [.int (nI D), .int (nI 0), .int (nI 99)] rfl rfl rfl rfl (Nat.le_of_ble_eq_true rfl) (Nat.le_of_ble_eq_true rfl) (s_within (nI D) (nI 0) (nI 99)) ?_
            rw [decide_eq_true c3]
            refine g_if hT rfl (fun cq3 => ?_) (fun cq3 => ?_)
            · refine v_p hT rfl rfl ?_
              refine g3 _ ?_
              refine v_p hT rfl rfl ?_
              refine v_call hT [] rfl rfl (by first | rfl | assumption) (by omega) rfl rfl (Nat.le_of_ble_eq_true rfl) (Nat.le_of_ble_eq_true rfl) (r1) ?_
              refine v_p hT rfl rfl ?_
              refine v_getr hT rfl rfl (by omega) rfl ?_
              refine v_p hT rfl rfl ?_
              refine v_call hT [.int (nI Z), .ref 97, .int (nI 0), .int (nI N)] rfl rfl (by first | rfl | assumption) (by omega) rfl rfl (Nat.le_of_ble_eq_true rfl) (Nat.le_of_ble_eq_true rfl) (e1) ?_
              refine v_call hT [.int (aPar S.1 Z N (fun k => nI (sdN D k))).1] rfl rfl (by first | rfl | assumption) (by omega) rfl rfl (Nat.le_of_ble_eq_true rfl) (Nat.le_of_ble_eq_true rfl) (r3) ?_
              refine v_ret hT rfl (fun z => by cases z) rfl ⟨rfl, rfl⟩
            · exact absurd (show ¬ (1 : Int32) = 0 by decide) cq3
      · rw [decide_eq_false c3, Bool.and_false]
        refine ⟨kf, fr, ?_, q2, q3⟩
        refine v_p hT rfl rfl ?_
        refine v_scall hT [.int s] rfl rfl rfl rfl (Nat.le_of_ble_eq_true rfl) (Nat.le_of_ble_eq_true rfl) (s_isSide s) ?_
        refine g_if hT rfl (fun cq => ?_) (fun cq => ?_)
        · exact hbad
        · refine v_p hT rfl rfl ?_
          refine v_scall hT [.int n, .int (nI 1), .int (nI 12)] rfl rfl rfl rfl (Nat.le_of_ble_eq_true rfl) (Nat.le_of_ble_eq_true rfl) (s_within n (nI 1) (nI 12)) ?_
          refine g_if hT rfl (fun cq2 => ?_) (fun cq2 => ?_)
          · exact hbad
          · refine v_p hT rfl rfl ?_
            refine v_scall hT [.int sd, .int (nI 0), .int (nI 99)] rfl rfl rfl rfl (Nat.le_of_ble_eq_true rfl) (Nat.le_of_ble_eq_true rfl) (s_within sd (nI 0) (nI 99)) ?_
            rw [decide_eq_false c3]
            refine g_if hT rfl (fun cq3 => ?_) (fun cq3 => ?_)
            · exact absurd rfl cq3
            · exact hbad
    · rw [decide_eq_false c2, Bool.and_false, Bool.false_and]
      refine ⟨kf, fr, ?_, q2, q3⟩
      refine v_p hT rfl rfl ?_
      refine v_scall hT [.int s] rfl rfl rfl rfl (Nat.le_of_ble_eq_true rfl) (Nat.le_of_ble_eq_true rfl) (s_isSide s) ?_
      refine g_if hT rfl (fun cq => ?_) (fun cq => ?_)
      · exact hbad
      · refine v_p hT rfl rfl ?_
        refine v_scall hT [.int n, .int (nI 1), .int (nI 12)] rfl rfl rfl rfl (Nat.le_of_ble_eq_true rfl) (Nat.le_of_ble_eq_true rfl) (s_within n (nI 1) (nI 12)) ?_
        rw [decide_eq_false c2]
        refine g_if hT rfl (fun cq2 => ?_) (fun cq2 => ?_)
        · exact hbad
        · exact absurd rfl cq2
  · rw [decide_eq_false c1, Bool.false_and, Bool.false_and]
    refine ⟨kf, fr, ?_, q2, q3⟩
    refine v_p hT rfl rfl ?_
    refine v_scall hT [.int s] rfl rfl rfl rfl (Nat.le_of_ble_eq_true rfl) (Nat.le_of_ble_eq_true rfl) (s_isSide s) ?_
    rw [decide_eq_false c1]
    refine g_if hT rfl (fun cq => ?_) (fun cq => ?_)
    · exact hbad
    · exact absurd rfl cq
