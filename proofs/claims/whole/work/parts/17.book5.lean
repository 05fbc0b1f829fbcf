/-! THE CLASS: paragraphs of a book. -/
abbrev TS : Type := Nat × (Nat → Nat → Nat)
def tsGo (t : TS) (i : Nat) : TS := (t.1 - 1, fun z j => if j < i then t.2 z j else t.2 z (j + 1))
def tsStep (t : TS) (z p i : Nat) : TS := if t.2 z i = p then tsGo t i else if p < t.2 z i then (t.1, fun y j => if y = z ∧ j = i then t.2 z i - 1 else t.2 y j) else t
def tsOf (z p : Nat) : Nat → TS → TS
  | 0, t => t
  | i + 1, t => tsOf z p i (tsStep t z p i)
def bT (B : BK) : TS := (bNt B, bTi B)
def bWT (B : BK) (t : TS) : BK := (bNp B, bNw B, bLn B, bWd B, bSe B, t.1, t.2)
def prI : Nat → Int32
  | 0 => mI 1
  | k + 1 => nI k
theorem prI_sub (k : Nat) : nI k - nI 1 = prI k := by
  cases k with
  | zero => decide
  | succ k => rw [pk_sub (by omega)]; rfl
theorem prI_add (k : Nat) : nI k + mI 1 = prI k := by
  cases k with
  | zero => decide
  | succ k => exact pk_m1 k
theorem bkR_tieMod {f : Nat → Nat → Int32} {b z i v : Nat} {B : BK} (hz : z < 2) (hR : bkR f b B) : bkR (hset f (b + 6 + z) i (nI v)) b (bWT B (bNt B, fun y j => if y = z ∧ j = i then v else bTi B y j)) := by
  obtain ⟨h1, h2, h3, h4, h5, h6⟩ := hR
  have e : ∀ c, c ≠ b + 6 + z → hset f (b + 6 + z) i (nI v) c = f c := fun c hc => hset_ne hc
  refine ⟨fun s hs => ?_, fun s p hs hp => ?_, fun s hs => ?_, fun k hi3 => ?_, ?_, fun j hj => ?_⟩
  · rw [e _ (by omega)]; exact h1 s hs
  · rw [e _ (by omega), e _ (by omega)]; exact h2 s p hs hp
  · rw [e _ (by omega)]; exact h3 s hs
  · rw [e _ (by omega)]; exact h4 k hi3
  · rw [e _ (by omega)]; exact h5
  · have h7 := h6 j hj
    have hz' : z = 0 ∨ z = 1 := by omega
    rw [e (b + 8) (by omega)]
    rcases hz' with rfl | rfl
    · rw [e (b + 7) (by omega)]
      refine ⟨?_, by simpa [bWT, bTi] using h7.2.1, by simpa [bWT, bTi] using h7.2.2⟩
      by_cases hji : j = i
      · subst hji; simp [hset, upd, bWT, bTi]
      · simpa [hset, upd, bWT, bTi, hji] using h7.1
    · rw [e (b + 6) (by omega)]
      refine ⟨by simpa [bWT, bTi] using h7.1, ?_, by simpa [bWT, bTi] using h7.2.2⟩
      by_cases hji : j = i
      · subst hji; simp [hset, upd, bWT, bTi]
      · simpa [hset, upd, bWT, bTi, hji] using h7.2.1
/-- the tie rows stay small -/
def tsOk (t : TS) : Prop := t.1 ≤ 10 ∧ ∀ z i, z < 2 → i < t.1 → t.2 z i < 100
theorem tsOk_step {t : TS} {z p i : Nat} (h : tsOk t) (hi : i < t.1) : tsOk (tsStep t z p i) ∧ i ≤ (tsStep t z p i).1 := by
  unfold tsStep
  split
  · refine ⟨⟨by show t.1 - 1 ≤ 10; have := h.1; omega, fun y j hy hj => ?_⟩, by show i ≤ t.1 - 1; omega⟩
    have hj : j < t.1 - 1 := hj
    show (if j < i then t.2 y j else t.2 y (j + 1)) < 100
    split
    · exact h.2 y j hy (by omega)
    · exact h.2 y (j + 1) hy (by omega)
  · split
    · refine ⟨⟨h.1, fun y j hy hj => ?_⟩, by show i ≤ t.1; omega⟩
      have hj : j < t.1 := hj
      show (if y = z ∧ j = i then t.2 z i - 1 else t.2 y j) < 100
      split
      · rename_i hq
        have := h.2 y j hy hj
        rw [hq.1, hq.2] at this
        omega
      · exact h.2 y j hy hj
    · exact ⟨h, by omega⟩
theorem s_dropTiesOf {b n z p nb : Nat} {kf : Nat → Nat} (hb : isBk b) (hz : z < 2) (hp : p < 100) (hnb : nb ≤ 10) :
    ∀ (j : Nat) (f : Nat → Nat → Int32) (B : BK), bkR f b B → tsOk (bT B) → j ≤ bNt B →
    ∃ f2, Run n_X0_dropTiesOf 110 12 [some (.ref b), some (.ref (b + 6 + z)), some (.int (nI p)), some (.int (nI nb)), some (.int (prI j))] [.int (prI j)] (HH n kf f) (Ret (some (.int (nI nb - nI (tsOf z p j (bT B)).1))) (HH n kf f2)) ∧ bkR f2 b (bWT B (tsOf z p j (bT B))) ∧ ∀ c, c < b ∨ b + 8 < c → f2 c = f c := by
  have hT : mT n_X0_dropTiesOf = tb_X0_dropTiesOf := rfl
  obtain ⟨k0, k1, k2, k3, k4, k5, k6, k7, k8⟩ := bk_kd hb
  have hlt := bk_lt hb
  have ke : kd (b + 6 + z) = (1, 10) := by
    rcases (show z = 0 ∨ z = 1 by omega) with rfl | rfl
    · exact k6
    · exact k7
  intro j
  induction j with
  | zero =>
    intro f B hR hok hj
    refine ⟨f, ?_, hR, fun _ _ => rfl⟩
    refine g_if hT rfl (fun cq => ?_) (fun cq => ?_)
    · refine v_p hT rfl rfl ?_
      refine v_geti hT rfl (by first | rfl | assumption) (by omega) ?_
      rw [hR.2.2.2.2.1]
      refine v_p hT rfl rfl ?_
      refine v_ret hT rfl (fun z => by cases z) rfl ⟨rfl, rfl⟩
    · exact absurd (show prI 0 < 0 by decide) cq
  | succ i ih =>
    intro f B hR hok hj
    have h10 : bNt B ≤ 10 := hok.1
    have hi : i < bNt B := by omega
    have ht : f (b + 6 + z) i = nI (bTi B z i) := by
      rcases (show z = 0 ∨ z = 1 by omega) with rfl | rfl
      · exact (hR.2.2.2.2.2 i hi).1
      · exact (hR.2.2.2.2.2 i hi).2.1
    have h100 : bTi B z i < 100 := hok.2 z i hz hi
    have hst := tsOk_step (z := z) (p := p) hok hi
    have back : ∀ (F : Nat → Nat → Int32), bkR F b (bWT B (tsStep (bT B) z p i)) → (∀ c, c < b ∨ b + 8 < c → F c = f c) → ∃ f2, Run n_X0_dropTiesOf 110 49 [some (.ref b), some (.ref (b + 6 + z)), some (.int (nI p)), some (.int (nI nb)), some (.int (nI i))] [] (HH n kf F) (Ret (some (.int (nI nb - nI (tsOf z p (i + 1) (bT B)).1))) (HH n kf f2)) ∧ bkR f2 b (bWT B (tsOf z p (i + 1) (bT B))) ∧ ∀ c, c < b ∨ b + 8 < c → f2 c = f c := by
      intro F hF hfr
      obtain ⟨f2, r1, r2, r3⟩ := ih F (bWT B (tsStep (bT B) z p i)) hF hst.1 hst.2
      refine ⟨f2, ?_, r2, fun c hc => by rw [r3 c hc, hfr c hc]⟩
      refine v_p hT rfl rfl ?_
      rw [prI_add]
      exact r1
    have hstart : ∀ Φ, Run n_X0_dropTiesOf 110 20 [some (.ref b), some (.ref (b + 6 + z)), some (.int (nI p)), some (.int (nI nb)), some (.int (nI i))] [.int (nI p), .int (nI (bTi B z i))] (HH n kf f) Φ → Run n_X0_dropTiesOf 110 12 [some (.ref b), some (.ref (b + 6 + z)), some (.int (nI p)), some (.int (nI nb)), some (.int (prI (i + 1)))] [.int (prI (i + 1))] (HH n kf f) Φ := by
      intro Φ hΦ
      refine g_if hT rfl (fun cq => ?_) (fun cq => ?_)
      · exact absurd (show nI i < 0 from cq) (nI_pos (by omega))
      · refine v_p hT rfl rfl ?_
        refine v_ald (i := i) hT rfl ke (by omega) (by decide) (by omega) ?_
        rw [ht]
        refine v_p hT rfl rfl ?_
        exact hΦ
    by_cases he : bTi B z i = p
    · have hs : tsStep (bT B) z p i = tsGo (bT B) i := if_pos he
      obtain ⟨f2, r1, r2, r3⟩ := back _ (by rw [hs]; exact bkR_tieGo hR hi) (fun c hc => by rw [hset_ne (by omega), hputs_ne (by omega), hputs_ne (by omega), hputs_ne (by omega)])
      refine ⟨f2, hstart _ ?_, r2, r3⟩
      refine g_cmp hT rfl (fun cq => ?_) (fun cq => ?_)
      · exact absurd ((cj_ne (by omega) (by omega)).mp cq) (by omega)
      · refine v_p hT rfl rfl ?_
        refine v_call hT [.int (nI i)] rfl rfl (by first | rfl | assumption) (by omega) rfl rfl (Nat.le_of_ble_eq_true rfl) (Nat.le_of_ble_eq_true rfl) (s_dropTie hb hR.2.2.2.2.1 h10 hi) ?_
        refine g_ps 2 hT rfl ?_
        exact r1
    · by_cases hgt : p < bTi B z i
      · have hs : tsStep (bT B) z p i = (bNt B, fun y j => if y = z ∧ j = i then bTi B z i - 1 else bTi B y j) := (if_neg he).trans (if_pos hgt)
        obtain ⟨f2, r1, r2, r3⟩ := back (hset f (b + 6 + z) i (nI (bTi B z i - 1))) (by rw [hs]; exact bkR_tieMod hz hR) (fun c hc => hset_ne (by omega))
        refine ⟨f2, hstart _ ?_, r2, r3⟩
        refine g_cmp hT rfl (fun cq => ?_) (fun cq => ?_)
        · refine v_p hT rfl rfl ?_
          refine v_ald hT rfl ke (by omega) (by decide) (by omega) ?_
          rw [ht]
          refine v_p hT rfl rfl ?_
          refine g_cmp hT rfl (fun cq2 => ?_) (fun cq2 => ?_)
          · exact absurd ((cj_le (by omega) (by omega)).mp cq2) (by omega)
          · refine v_p hT rfl rfl ?_
            refine v_ald hT rfl ke (by omega) (by decide) (by omega) ?_
            rw [ht]
            refine v_p hT rfl rfl ?_
            rw [pk_sub (by omega)]
            refine v_ast hT rfl ke (by omega) (by decide) (by omega) ?_
            exact r1
        · exact absurd ((cj_ne (by omega) (by omega)).mpr he) cq
      · have hs : tsStep (bT B) z p i = bT B := (if_neg he).trans (if_neg hgt)
        obtain ⟨f2, r1, r2, r3⟩ := back f (by rw [hs]; exact hR) (fun c hc => rfl)
        refine ⟨f2, hstart _ ?_, r2, r3⟩
        refine g_cmp hT rfl (fun cq => ?_) (fun cq => ?_)
        · refine v_p hT rfl rfl ?_
          refine v_ald hT rfl ke (by omega) (by decide) (by omega) ?_
          rw [ht]
          refine v_p hT rfl rfl ?_
          refine g_cmp hT rfl (fun cq2 => ?_) (fun cq2 => ?_)
          · exact r1
          · exact absurd ((cj_le (by omega) (by omega)).mpr (by omega)) cq2
        · exact absurd ((cj_ne (by omega) (by omega)).mpr he) cq

def bParGo (B : BK) (s p : Nat) : BK := ((fun z => if z = s then bNp B s - 1 else bNp B z), (fun z j => if z = s ∧ p ≤ j then bNw B z (j + 1) else bNw B z j), (fun z j k => if z = s ∧ p ≤ j then bLn B z (j + 1) k else bLn B z j k), bWd B, bSe B, bNt B, bTi B)
theorem bkR_parGo {f : Nat → Nat → Int32} {b s p : Nat} {B : BK} (hV : VB0 B) (hs : s < 2) (hp : p < bNp B s) (hR : bkR f b B) : bkR (hset (hputs (hputs f (b + 2) (va_cpy (f (b + 2)) (f (b + 2)) (s * 8 + p + 1) (s * 8 + p) (bNp B s - p - 1))) (b + 3) (va_cpy (f (b + 3)) (f (b + 3)) ((s * 8 + p + 1) * 12) ((s * 8 + p) * 12) ((bNp B s - p - 1) * 12))) (b + 1) s (nI (bNp B s - 1))) b (bParGo B s p) := by
  obtain ⟨h1, h2, h3, h4, h5, h6⟩ := hR
  have h8 := hV.1
  have hv2 := hV.2.1
  have hs8 := h8 s hs
  refine ⟨fun z hz => ?_, fun z q hz hq => ?_, fun z hz => ?_, fun i hi3 => ?_, ?_, fun j hj => ?_⟩
  · by_cases hzs : z = s
    · subst hzs; simp [hset, upd, bParGo, bNp]
    · simpa [hset, hputs, upd, bParGo, bNp, hzs] using h1 z hz
  · have hz8 := h8 z hz
    rw [hset_ne (show b + 2 ≠ b + 1 by omega), hset_ne (show b + 3 ≠ b + 1 by omega), hputs_ne (show b + 2 ≠ b + 3 by omega)]
    simp only [hputs, if_pos]
    by_cases hzs : z = s
    · subst hzs
      have hq : q < bNp B z - 1 := by simpa [bParGo, bNp] using hq
      by_cases hqp : p ≤ q
      · have h7 := h2 z (q + 1) hz (by omega)
        have h9 := (hv2 z (q + 1) hz (by omega)).2.1
        refine ⟨?_, fun k hk => ?_⟩
        · rw [pk_cpy_in (by omega) (by omega), show z * 8 + p + 1 + (z * 8 + q - (z * 8 + p)) = z * 8 + (q + 1) by omega, h7.1]
          simp [bParGo, bNw, hqp]
        · have hk : k < bNw B z (q + 1) := by simpa [bParGo, bNw, hqp] using hk
          rw [pk_cpy_in (by omega) (by omega), show (z * 8 + p + 1) * 12 + ((z * 8 + q) * 12 + k - (z * 8 + p) * 12) = (z * 8 + (q + 1)) * 12 + k by omega, h7.2 k hk]
          simp [bParGo, bLn, hqp]
      · have h7 := h2 z q hz (by omega)
        have h9 := (hv2 z q hz (by omega)).2.1
        refine ⟨?_, fun k hk => ?_⟩
        · rw [pk_cpy_out (by omega), h7.1]
          simp [bParGo, bNw, hqp]
        · have hk : k < bNw B z q := by simpa [bParGo, bNw, hqp] using hk
          rw [pk_cpy_out (by omega), h7.2 k hk]
          simp [bParGo, bLn, hqp]
    · have hq : q < bNp B z := by simpa [bParGo, bNp, hzs] using hq
      have h7 := h2 z q hz hq
      have h9 := (hv2 z q hz hq).2.1
      refine ⟨?_, fun k hk => ?_⟩
      · rw [pk_cpy_out (by omega), h7.1]
        simp [bParGo, bNw, hzs]
      · have hk : k < bNw B z q := by simpa [bParGo, bNw, hzs] using hk
        rw [pk_cpy_out (by omega), h7.2 k hk]
        simp [bParGo, bLn, hzs]
  · rw [hset_ne (by omega), hputs_ne (by omega), hputs_ne (by omega)]; exact h3 z hz
  · rw [hset_ne (by omega), hputs_ne (by omega), hputs_ne (by omega)]; exact h4 i hi3
  · rw [hset_ne (by omega), hputs_ne (by omega), hputs_ne (by omega)]; exact h5
  · rw [hset_ne (show b + 6 ≠ b + 1 by omega), hputs_ne (show b + 6 ≠ b + 3 by omega), hputs_ne (show b + 6 ≠ b + 2 by omega), hset_ne (show b + 7 ≠ b + 1 by omega), hputs_ne (show b + 7 ≠ b + 3 by omega), hputs_ne (show b + 7 ≠ b + 2 by omega), hset_ne (show b + 8 ≠ b + 1 by omega), hputs_ne (show b + 8 ≠ b + 3 by omega), hputs_ne (show b + 8 ≠ b + 2 by omega)]
    exact h6 j hj
/-- a paragraph goes: how many ties go with it, and the book -/
noncomputable def aDrop (B : BK) (s p : Int32) : Int32 × BK :=
  bif isPa B s p then (nI (bNt B) - nI (tsOf s.toNatClampNeg p.toNatClampNeg (bNt B) (bT B)).1, bWT (bParGo B s.toNatClampNeg p.toNatClampNeg) (tsOf s.toNatClampNeg p.toNatClampNeg (bNt B) (bT B))) else (mI 2, B)
theorem s_dropParagraph {b n : Nat} {kf : Nat → Nat} {f : Nat → Nat → Int32} {B : BK} (hb : isBk b) (hR : bkR f b B) (hV : VB0 B) (s p : Int32) :
    ∃ f2, Run n_X0_dropParagraph 110 0 (ini n_X0_dropParagraph [.ref b, .int s, .int p]) [] (HH n kf f) (Ret (some (.int (aDrop B s p).1)) (HH n kf f2)) ∧ bkR f2 b (aDrop B s p).2 ∧ ∀ c, c < b ∨ b + 8 < c → f2 c = f c := by
  have hT : mT n_X0_dropParagraph = tb_X0_dropParagraph := rfl
  obtain ⟨k0, k1, k2, k3, k4, k5, k6, k7, k8⟩ := bk_kd hb
  have hlt := bk_lt hb
  cases hA : isPa B s p with
  | false =>
    have hto : aDrop B s p = (mI 2, B) := by unfold aDrop; rw [hA]; rfl
    rw [hto]
    refine ⟨f, ?_, hR, fun _ _ => rfl⟩
    refine v_p hT rfl rfl ?_
    refine v_call hT [.int s, .int p] rfl rfl (by first | rfl | assumption) (by omega) rfl rfl (Nat.le_of_ble_eq_true rfl) (Nat.le_of_ble_eq_true rfl) (s_hasParagraph hb hR hV s p) ?_
    rw [hA]
    refine g_if hT rfl (fun cq => ?_) (fun cq => ?_)
    · exact absurd rfl (show ¬ (0 : Int32) = 0 from cq)
    · refine v_p hT rfl rfl ?_
      refine v_ret hT rfl (fun z => by cases z) rfl ⟨rfl, rfl⟩
  | true =>
    obtain ⟨s2, p2, hs2, hp2, rfl, rfl⟩ := isPa_of hA
    have h8 := hV.1 s2 hs2
    have h10 := hV.2.2.2.2.1
    have e1 : (nI s2).toNatClampNeg = s2 := nI_clamp (by omega)
    have e2 : (nI p2).toNatClampNeg = p2 := nI_clamp (by omega)
    have hto : aDrop B (nI s2) (nI p2) = (nI (bNt B) - nI (tsOf s2 p2 (bNt B) (bT B)).1, bWT (bParGo B s2 p2) (tsOf s2 p2 (bNt B) (bT B))) := by unfold aDrop; rw [hA, e1, e2]; rfl
    rw [hto]
    have hRG := bkR_parGo hV hs2 hp2 hR
    have hok : tsOk (bT (bParGo B s2 p2)) := ⟨h10, fun z i hz hi => by
      have h11 := hV.2.2.2.2.2 i hi
      have h12 := hV.1 0 (by omega)
      have h13 := hV.1 1 (by omega)
      show bTi B z i < 100
      rcases (show z = 0 ∨ z = 1 by omega) with rfl | rfl <;> omega⟩
    obtain ⟨f2, r1, r2, r3⟩ := s_dropTiesOf (n := n) (kf := kf) (z := s2) (p := p2) (nb := bNt B) hb hs2 (by omega) h10 (bNt B) _ _ hRG hok (Nat.le_refl _)
    refine ⟨f2, ?_, r2, fun c hc => by rw [r3 c hc, hset_ne (by omega), hputs_ne (by omega), hputs_ne (by omega)]⟩
    have hnt := hRG.2.2.2.2.1
    have call : Run n_X0_dropTiesOf 110 0 (ini n_X0_dropTiesOf [.ref b, .ref (b + 6 + s2), .int (nI p2)]) [] (HH n kf (hset (hputs (hputs f (b + 2) (va_cpy (f (b + 2)) (f (b + 2)) (s2 * 8 + p2 + 1) (s2 * 8 + p2) (bNp B s2 - p2 - 1))) (b + 3) (va_cpy (f (b + 3)) (f (b + 3)) ((s2 * 8 + p2 + 1) * 12) ((s2 * 8 + p2) * 12) ((bNp B s2 - p2 - 1) * 12))) (b + 1) s2 (nI (bNp B s2 - 1)))) (Ret (some (.int (nI (bNt B) - nI (tsOf s2 p2 (bNt B) (bT B)).1))) (HH n kf f2)) := by
      have hT : mT n_X0_dropTiesOf = tb_X0_dropTiesOf := rfl
      refine v_p hT rfl rfl ?_
      refine v_geti hT rfl (by first | rfl | assumption) (by omega) ?_
      rw [hnt]
      refine v_p hT rfl rfl ?_
      refine v_cv r1 ⟨rfl, rfl, rfl, rfl, (prI_sub _).symm ▸ rfl, trivial⟩ (by rw [← prI_sub]; rfl) rfl
    refine v_p hT rfl rfl ?_
    refine v_call hT [.int (nI s2), .int (nI p2)] rfl rfl (by first | rfl | assumption) (by omega) rfl rfl (Nat.le_of_ble_eq_true rfl) (Nat.le_of_ble_eq_true rfl) (s_hasParagraph hb hR hV (nI s2) (nI p2)) ?_
    rw [hA]
    refine g_if hT rfl (fun cq => ?_) (fun cq => ?_)
    · repeat (first | refine v_p hT rfl rfl ?_ | refine v_getr hT rfl rfl (by omega) rfl ?_ | refine v_getr hT rfl k0 (by omega) (bk_rr hb _ _ _ (by decide)) ?_ | refine v_geti hT rfl (by first | rfl | assumption) (by omega) ?_ | refine v_ald hT rfl (by first | assumption | rfl) (by omega) (by decide) (by omega) ?_ | simp only [nI_add, pk_mul, hR.1 s2 hs2])
      rw [pk_sub (by omega), pk_sub (by omega)]
      refine v_scall hT [.int (nI s2), .int (nI p2)] rfl rfl rfl rfl (Nat.le_of_ble_eq_true rfl) (Nat.le_of_ble_eq_true rfl) (s_slot s2 p2) ?_
      repeat (first | refine v_p hT rfl rfl ?_ | refine v_getr hT rfl rfl (by omega) rfl ?_ | refine v_getr hT rfl k0 (by omega) (bk_rr hb _ _ _ (by decide)) ?_ | refine v_geti hT rfl (by first | rfl | assumption) (by omega) ?_ | refine v_ald hT rfl (by first | assumption | rfl) (by omega) (by decide) (by omega) ?_ | simp only [nI_add, pk_mul])
      refine v_cpy hT rfl k2 k2 (by omega) (by omega) (by omega) (by omega) (Nat.le_of_ble_eq_true rfl) ?_
      repeat (first | refine v_p hT rfl rfl ?_ | refine v_getr hT rfl rfl (by omega) rfl ?_ | refine v_getr hT rfl k0 (by omega) (bk_rr hb _ _ _ (by decide)) ?_ | refine v_geti hT rfl (by first | rfl | assumption) (by omega) ?_ | refine v_ald hT rfl (by first | assumption | rfl) (by omega) (by decide) (by omega) ?_ | simp only [nI_add, pk_mul])
      refine v_cpy hT rfl k3 k3 (by omega) (by omega) (by omega) (by omega) (Nat.le_of_ble_eq_true rfl) ?_
      repeat (first | refine v_p hT rfl rfl ?_ | refine v_getr hT rfl rfl (by omega) rfl ?_ | refine v_getr hT rfl k0 (by omega) (bk_rr hb _ _ _ (by decide)) ?_ | refine v_geti hT rfl (by first | rfl | assumption) (by omega) ?_ | refine v_ald hT rfl (by first | assumption | rfl) (by omega) (by decide) (by omega) ?_ | simp only [nI_add, pk_mul])
      rw [hputs_ne (show b + 1 ≠ b + 3 by omega), hputs_ne (show b + 1 ≠ b + 2 by omega), hputs_ne (show b + 3 ≠ b + 2 by omega), hR.1 s2 hs2, pk_sub (by omega)]
      refine v_ast hT rfl k1 (by omega) (by decide) (by omega) ?_
      refine v_p hT rfl rfl ?_
      refine g_if hT rfl (fun cq2 => ?_) (fun cq2 => ?_)
      · have cq2 := (cj_ne (a := s2) (b := 0) (by omega) (by omega)).mp cq2
        obtain rfl : s2 = 1 := by omega
        refine v_p hT rfl rfl ?_
        refine v_getr hT rfl k0 (by omega) (bk_rr hb _ _ _ (by decide)) ?_
        refine v_p hT rfl rfl ?_
        refine v_call hT [.ref (b + 7), .int (nI p2)] rfl rfl (by first | rfl | assumption) (by omega) rfl rfl (Nat.le_of_ble_eq_true rfl) (Nat.le_of_ble_eq_true rfl) (call) ?_
        refine v_ret hT rfl (fun z => by cases z) rfl ⟨rfl, rfl⟩
      · have cq2 := (not_congr (cj_ne (a := s2) (b := 0) (by omega) (by omega))).mp cq2
        obtain rfl : s2 = 0 := by omega
        refine v_p hT rfl rfl ?_
        refine v_getr hT rfl k0 (by omega) (bk_rr hb _ _ _ (by decide)) ?_
        refine v_p hT rfl rfl ?_
        refine v_call hT [.ref (b + 6), .int (nI p2)] rfl rfl (by first | rfl | assumption) (by omega) rfl rfl (Nat.le_of_ble_eq_true rfl) (Nat.le_of_ble_eq_true rfl) (call) ?_
        refine v_ret hT rfl (fun z => by cases z) rfl ⟨rfl, rfl⟩
    · exact absurd (show ¬ (1 : Int32) = 0 by decide) cq
