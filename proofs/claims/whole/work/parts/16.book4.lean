/-! THE CLASS: widths and settings of a book. -/
def bWidTo (B : BK) (s v : Nat) : BK := (bNp B, bNw B, bLn B, (fun z => if z = s then v else bWd B z), bSe B, bNt B, bTi B)
def bSetTo (B : BK) (i v : Nat) : BK := (bNp B, bNw B, bLn B, bWd B, (fun z => if z = i then v else bSe B z), bNt B, bTi B)
noncomputable def aWid (B : BK) (s v : Int32) : Int32 × BK :=
  bif decide (0 ≤ s ∧ s ≤ 1) && decide (nI 9 ≤ v ∧ v ≤ nI 40) then
    (bif decide (60 < totF (bWidTo B s.toNatClampNeg v.toNatClampNeg) s.toNatClampNeg) then (mI 4, B) else (nI (bWd B s.toNatClampNeg), bWidTo B s.toNatClampNeg v.toNatClampNeg)) else (mI 2, B)
def seLo (i : Nat) : Nat := if i = 0 then 2 else if i = 1 then 1 else 0
def seHi (i : Nat) : Nat := if i = 0 then 12 else if i = 1 then 3 else 9
noncomputable def aSet (B : BK) (w v : Int32) : Int32 × BK :=
  bif decide (nI 0 ≤ w ∧ w ≤ nI 2) && decide (nI (seLo w.toNatClampNeg) ≤ v ∧ v ≤ nI (seHi w.toNatClampNeg)) then (nI (bSe B w.toNatClampNeg), bSetTo B w.toNatClampNeg v.toNatClampNeg) else (mI 2, B)
theorem VB0_wid {B : BK} (hV : VB0 B) {s v : Nat} (h1 : 9 ≤ v) (h2 : v ≤ 40) : VB0 (bWidTo B s v) := by
  obtain ⟨a1, a2, a3, a4, a5, a6⟩ := hV
  refine ⟨a1, a2, fun z hz => ?_, a4, a5, a6⟩
  show 9 ≤ (if z = s then v else bWd B z) ∧ (if z = s then v else bWd B z) ≤ 40
  split
  · exact ⟨h1, h2⟩
  · exact a3 z hz
theorem VB0_set {B : BK} (hV : VB0 B) {i v : Nat} (h1 : seLo i ≤ v) (h2 : v ≤ seHi i) : VB0 (bSetTo B i v) := by
  obtain ⟨a1, a2, a3, a4, a5, a6⟩ := hV
  refine ⟨a1, a2, a3, ?_, a5, a6⟩
  simp only [bSetTo, bSe]
  unfold seLo at h1
  unfold seHi at h2
  by_cases e0 : i = 0
  · subst e0; simp at h1 h2 ⊢; exact ⟨⟨h1, h2⟩, a4.2⟩
  · by_cases e1 : i = 1
    · subst e1; simp at h1 h2 ⊢; exact ⟨a4.1, ⟨h1, h2⟩, a4.2.2⟩
    · rw [if_neg e0, if_neg e1] at h2
      rw [if_neg (fun z => e0 z.symm), if_neg (fun z => e1 z.symm)]
      refine ⟨a4.1, a4.2.1, ?_⟩
      split
      · exact h2
      · exact a4.2.2
theorem bkR_wid {f : Nat → Nat → Int32} {b s v : Nat} {B : BK} (hR : bkR f b B) : bkR (hset f (b + 4) s (nI v)) b (bWidTo B s v) := by
  obtain ⟨h1, h2, h3, h4, h5, h6⟩ := hR
  refine ⟨fun s hs => ?_, fun s p hs hp => ?_, fun z hs => ?_, fun i hi3 => ?_, ?_, fun j hj => ?_⟩
  · simpa [hset, bWidTo] using h1 s hs
  · simpa [hset, bWidTo] using h2 s p hs hp
  · by_cases hz : z = s
    · subst hz; simp [hset, upd, bWidTo, bWd]
    · simpa [hset, upd, bWidTo, bWd, hz] using h3 z hs
  · simpa [hset, bWidTo] using h4 i hi3
  · simpa [hset, bWidTo] using h5
  · simpa [hset, bWidTo] using h6 j hj
theorem bkR_set {f : Nat → Nat → Int32} {b s v : Nat} {B : BK} (hR : bkR f b B) : bkR (hset f (b + 5) s (nI v)) b (bSetTo B s v) := by
  obtain ⟨h1, h2, h3, h4, h5, h6⟩ := hR
  refine ⟨fun s hs => ?_, fun s p hs hp => ?_, fun z hs => ?_, fun z hi3 => ?_, ?_, fun j hj => ?_⟩
  · simpa [hset, bSetTo] using h1 s hs
  · simpa [hset, bSetTo] using h2 s p hs hp
  · simpa [hset, bSetTo] using h3 z hs
  · by_cases hz : z = s
    · subst hz; simp [hset, upd, bSetTo, bSe]
    · simpa [hset, upd, bSetTo, bSe, hz] using h4 z hi3
  · simpa [hset, bSetTo] using h5
  · simpa [hset, bSetTo] using h6 j hj
theorem hset_hset (f : Nat → Nat → Int32) (o k : Nat) (x y : Int32) : hset (hset f o k x) o k y = hset f o k y := by
  funext c i
  by_cases hc : c = o
  · subst hc
    by_cases hi : i = k <;> simp [hset, upd, hi]
  · simp [hset, hc]
theorem hset_same (f : Nat → Nat → Int32) (o k : Nat) : hset f o k (f o k) = f := by
  funext c i
  by_cases hc : c = o
  · subst hc
    by_cases hi : i = k
    · subst hi; simp [hset, upd]
    · simp [hset, upd, hi]
  · simp [hset, hc]
theorem bt_of {b : Bool} (h : ¬ bI b = 0) : b = true := by rw [← Bool.not_eq_false]; exact fun z => h ((bI_z _).mpr z)
theorem bf_of {b : Bool} (h : bI b = 0) : b = false := (bI_z _).mp h
theorem totF_le {B : BK} (h : VB0 B) {s : Nat} (hs : s < 2) : totF B s ≤ 96 := by
  have h1 := fstF_le h hs (bNp B s) (Nat.le_refl _)
  have h2 := h.1 s hs
  unfold totF
  omega
theorem s_changeWidth {b n : Nat} {kf : Nat → Nat} {f : Nat → Nat → Int32} {B : BK} (hb : isBk b) (hR : bkR f b B) (hV : VB0 B) (s v : Int32) :
    ∃ f2, Run n_X0_changeWidth 110 0 (ini n_X0_changeWidth [.ref b, .int s, .int v]) [] (HH n kf f) (Ret (some (.int (aWid B s v).1)) (HH n kf f2)) ∧ bkR f2 b (aWid B s v).2 ∧ ∀ c, c < b ∨ b + 8 < c → f2 c = f c := by
  have hT : mT n_X0_changeWidth = tb_X0_changeWidth := rfl
  obtain ⟨k0, k1, k2, k3, k4, k5, k6, k7, k8⟩ := bk_kd hb
  have hlt := bk_lt hb
  have bad : Run n_X0_changeWidth 110 18 [some (.ref b), some (.int s), some (.int v), none] [] (HH n kf f) (Ret (some (.int (mI 2))) (HH n kf f)) := by
    refine v_p hT rfl rfl ?_
    refine v_ret hT rfl (fun z => by cases z) rfl ⟨rfl, rfl⟩
  by_cases hA : (0 ≤ s ∧ s ≤ 1) ∧ nI 9 ≤ v ∧ v ≤ nI 40
  · obtain ⟨hs, hv⟩ := hA
    obtain ⟨s2, hs2, rfl⟩ : ∃ s2 : Nat, s2 < 2 ∧ s = nI s2 := by rcases int_lo hs with e | e <;> exact ⟨_, by omega, e⟩
    obtain ⟨v2, hv9, hv40, rfl⟩ := in_range v (by omega) hv (by omega)
    have e1 : (nI s2).toNatClampNeg = s2 := nI_clamp (by omega)
    have e2 : (nI v2).toNatClampNeg = v2 := nI_clamp (by omega)
    have hto : aWid B (nI s2) (nI v2) = bif decide (60 < totF (bWidTo B s2 v2) s2) then (mI 4, B) else (nI (bWd B s2), bWidTo B s2 v2) := by
      unfold aWid
      rw [decide_eq_true hs, decide_eq_true hv, e1, e2]
      rfl
    rw [hto]
    have hw := hR.2.2.1 s2 hs2
    have hR2 := bkR_wid (s := s2) (v := v2) hR
    have hV2 := VB0_wid (s := s2) hV hv9 hv40
    have ht := totF_le hV2 hs2
    have hstart : ∀ Φ, Run n_X0_changeWidth 110 42 [some (.ref b), some (.int (nI s2)), some (.int (nI v2)), some (.int (nI (bWd B s2)))] [.int (nI 60), .int (nI (totF (bWidTo B s2 v2) s2))] (HH n kf (hset f (b + 4) s2 (nI v2))) Φ → Run n_X0_changeWidth 110 0 (ini n_X0_changeWidth [.ref b, .int (nI s2), .int (nI v2)]) [] (HH n kf f) Φ := by
      intro Φ hΦ
      refine v_p hT rfl rfl ?_
      refine v_scall hT [.int (nI s2)] rfl rfl rfl rfl (Nat.le_of_ble_eq_true rfl) (Nat.le_of_ble_eq_true rfl) (s_isSide (nI s2)) ?_
      rw [decide_eq_true hs]
      refine g_if hT rfl (fun cq => ?_) (fun cq => ?_)
      · exact absurd (show (1 : Int32) = 0 from cq) (by decide)
      · refine v_p hT rfl rfl ?_
        refine v_scall hT [.int (nI v2), .int (nI 9), .int (nI 40)] rfl rfl rfl rfl (Nat.le_of_ble_eq_true rfl) (Nat.le_of_ble_eq_true rfl) (s_within (nI v2) (nI 9) (nI 40)) ?_
        rw [decide_eq_true hv]
        refine g_if hT rfl (fun cq2 => ?_) (fun cq2 => ?_)
        · repeat (first | refine v_p hT rfl rfl ?_ | refine v_getr hT rfl rfl (by omega) rfl ?_ | refine v_getr hT rfl k0 (by omega) (bk_rr hb _ _ _ (by decide)) ?_ | refine v_geti hT rfl (by first | rfl | assumption) (by omega) ?_ | refine v_ald hT rfl (by first | assumption | rfl) (by omega) (by decide) (by omega) ?_ | simp only [nI_add, pk_mul, hw])
          refine v_ast hT rfl k4 (by omega) (by decide) (by omega) ?_
          refine v_p hT rfl rfl ?_
          refine v_call hT [.int (nI s2)] rfl rfl (by first | rfl | assumption) (by omega) rfl rfl (Nat.le_of_ble_eq_true rfl) (Nat.le_of_ble_eq_true rfl) (s_linesOfSide hb hR2 hV2 hs2) ?_
          refine v_p hT rfl rfl ?_
          exact hΦ
        · exact absurd (show ¬ (1 : Int32) = 0 by decide) cq2
    by_cases h60 : 60 < totF (bWidTo B s2 v2) s2
    · rw [decide_eq_true h60]
      refine ⟨f, hstart _ ?_, hR, fun _ _ => rfl⟩
      refine g_cmp hT rfl (fun cq => ?_) (fun cq => ?_)
      · exact absurd ((cj_le (by omega) (by omega)).mp cq) (by omega)
      · repeat (first | refine v_p hT rfl rfl ?_ | refine v_getr hT rfl rfl (by omega) rfl ?_ | refine v_getr hT rfl k0 (by omega) (bk_rr hb _ _ _ (by decide)) ?_ | refine v_geti hT rfl (by first | rfl | assumption) (by omega) ?_ | refine v_ald hT rfl (by first | assumption | rfl) (by omega) (by decide) (by omega) ?_ | simp only [nI_add, pk_mul])
        refine v_ast hT rfl k4 (by omega) (by decide) (by omega) ?_
        rw [hset_hset, ← hw, hset_same]
        refine v_p hT rfl rfl ?_
        refine v_ret hT rfl (fun z => by cases z) rfl ⟨rfl, rfl⟩
    · rw [decide_eq_false h60]
      refine ⟨_, hstart _ ?_, hR2, fun c hc => hset_ne (by omega)⟩
      refine g_cmp hT rfl (fun cq => ?_) (fun cq => ?_)
      · refine v_p hT rfl rfl ?_
        refine v_ret hT rfl (fun z => by cases z) rfl ⟨rfl, rfl⟩
      · exact absurd ((cj_le (by omega) (by omega)).mpr (by omega)) cq
  · have hto : aWid B s v = (mI 2, B) := by
      unfold aWid
      have hz : (decide (0 ≤ s ∧ s ≤ 1) && decide (nI 9 ≤ v ∧ v ≤ nI 40)) = false := by
        rw [← Bool.not_eq_true]
        intro hz
        simp only [Bool.and_eq_true, decide_eq_true_eq] at hz
        exact hA hz
      rw [hz]
      rfl
    rw [hto]
    refine ⟨f, ?_, hR, fun _ _ => rfl⟩
    refine v_p hT rfl rfl ?_
    refine v_scall hT [.int s] rfl rfl rfl rfl (Nat.le_of_ble_eq_true rfl) (Nat.le_of_ble_eq_true rfl) (s_isSide s) ?_
    refine g_if hT rfl (fun cq => ?_) (fun cq => ?_)
    · exact bad
    · have cq := of_decide_eq_true (bt_of cq)
      refine v_p hT rfl rfl ?_
      refine v_scall hT [.int v, .int (nI 9), .int (nI 40)] rfl rfl rfl rfl (Nat.le_of_ble_eq_true rfl) (Nat.le_of_ble_eq_true rfl) (s_within v (nI 9) (nI 40)) ?_
      refine g_if hT rfl (fun cq2 => ?_) (fun cq2 => ?_)
      · exact absurd ⟨cq, of_decide_eq_true (bt_of cq2)⟩ hA
      · exact bad
theorem sf1_lo : ∀ i, i < 3 → sf1 i = nI (seLo i) := by decide
theorem sf2_hi : ∀ i, i < 3 → sf2 i = nI (seHi i) := by decide
theorem seHi_le : ∀ i, seHi i ≤ 12 := by intro i; unfold seHi; split <;> (try split) <;> omega
theorem seLo_hi : ∀ i, seLo i ≤ seHi i := by intro i; unfold seLo seHi; split <;> (try split) <;> omega
theorem s_changeSetting {b n : Nat} {kf : Nat → Nat} {f : Nat → Nat → Int32} {B : BK} (hb : isBk b) (hR : bkR f b B) (hf1 : f 1001 = sf1) (hf2 : f 1002 = sf2) (w v : Int32) :
    ∃ f2, Run n_X0_changeSetting 110 0 (ini n_X0_changeSetting [.ref b, .int w, .int v]) [] (HH n kf f) (Ret (some (.int (aSet B w v).1)) (HH n kf f2)) ∧ bkR f2 b (aSet B w v).2 ∧ ∀ c, c < b ∨ b + 8 < c → f2 c = f c := by
  have hT : mT n_X0_changeSetting = tb_X0_changeSetting := rfl
  obtain ⟨k0, k1, k2, k3, k4, k5, k6, k7, k8⟩ := bk_kd hb
  have hlt := bk_lt hb
  have bad : ∀ L, lle [some (.ref b), some (.int w), some (.int v), none] L → Run n_X0_changeSetting 110 26 L [] (HH n kf f) (Ret (some (.int (mI 2))) (HH n kf f)) := by
    intro L hL
    refine v_fgt hL ?_
    refine v_p hT rfl rfl ?_
    refine v_ret hT rfl (fun z => by cases z) rfl ⟨rfl, rfl⟩
  by_cases hA : nI 0 ≤ w ∧ w ≤ nI 2
  · obtain ⟨w2, -, hw2, rfl⟩ := in_range w (by omega) hA (by omega)
    have e1 : (nI w2).toNatClampNeg = w2 := nI_clamp (by omega)
    have hstart : ∀ Φ, Run n_X0_changeSetting 110 23 [some (.ref b), some (.int (nI w2)), some (.int v), none] [.int (bI (decide (nI (seLo w2) ≤ v ∧ v ≤ nI (seHi w2))))] (HH n kf f) Φ → Run n_X0_changeSetting 110 0 (ini n_X0_changeSetting [.ref b, .int (nI w2), .int v]) [] (HH n kf f) Φ := by
      intro Φ hΦ
      refine v_p hT rfl rfl ?_
      refine v_scall hT [.int (nI w2), .int (nI 0), .int (nI 2)] rfl rfl rfl rfl (Nat.le_of_ble_eq_true rfl) (Nat.le_of_ble_eq_true rfl) (s_within (nI w2) (nI 0) (nI 2)) ?_
      rw [decide_eq_true hA]
      refine g_if hT rfl (fun cq => ?_) (fun cq => ?_)
      · exact absurd (show (1 : Int32) = 0 from cq) (by decide)
      · refine v_p hT rfl rfl ?_
        refine v_aldx hT rfl rfl (by show 3 < 2 ^ 31; omega) (by show w2 < 3; omega) ?_
        refine v_p hT rfl rfl ?_
        refine v_aldx hT rfl rfl (by show 3 < 2 ^ 31; omega) (by show w2 < 3; omega) ?_
        rw [hf1, hf2, sf1_lo w2 (by omega), sf2_hi w2 (by omega)]
        refine v_scall hT [.int v, .int (nI (seLo w2)), .int (nI (seHi w2))] rfl rfl rfl rfl (Nat.le_of_ble_eq_true rfl) (Nat.le_of_ble_eq_true rfl) (s_within v (nI (seLo w2)) (nI (seHi w2))) ?_
        exact hΦ
    by_cases hB : nI (seLo w2) ≤ v ∧ v ≤ nI (seHi w2)
    · have h12 := seHi_le w2
      obtain ⟨v2, hv1, hv2, rfl⟩ := in_range v (by omega) hB (seLo_hi w2)
      have e2 : (nI v2).toNatClampNeg = v2 := nI_clamp (by omega)
      have hto : aSet B (nI w2) (nI v2) = (nI (bSe B w2), bSetTo B w2 v2) := by
        unfold aSet
        rw [e1, e2, decide_eq_true hA, decide_eq_true hB]
        rfl
      rw [hto]
      have hse := hR.2.2.2.1 w2 (by omega)
      refine ⟨_, hstart _ ?_, bkR_set hR, fun c hc => hset_ne (by omega)⟩
      rw [decide_eq_true hB]
      refine g_if hT rfl (fun cq => ?_) (fun cq => ?_)
      · repeat (first | refine v_p hT rfl rfl ?_ | refine v_getr hT rfl rfl (by omega) rfl ?_ | refine v_getr hT rfl k0 (by omega) (bk_rr hb _ _ _ (by decide)) ?_ | refine v_geti hT rfl (by first | rfl | assumption) (by omega) ?_ | refine v_ald hT rfl (by first | assumption | rfl) (by omega) (by decide) (by omega) ?_ | simp only [nI_add, pk_mul, hse])
        refine v_ast hT rfl k5 (by omega) (by decide) (by omega) ?_
        refine v_p hT rfl rfl ?_
        refine v_ret hT rfl (fun z => by cases z) rfl ⟨rfl, rfl⟩
      · exact absurd (show ¬ (1 : Int32) = 0 by decide) cq
    · have hto : aSet B (nI w2) v = (mI 2, B) := by
        unfold aSet
        rw [e1, decide_eq_true hA, decide_eq_false hB]
        rfl
      rw [hto]
      refine ⟨f, hstart _ ?_, hR, fun _ _ => rfl⟩
      rw [decide_eq_false hB]
      refine g_if hT rfl (fun cq => ?_) (fun cq => ?_)
      · exact absurd rfl (show ¬ (0 : Int32) = 0 from cq)
      · exact bad _ ⟨rfl, rfl, rfl, trivial⟩
  · have hto : aSet B w v = (mI 2, B) := by
      unfold aSet
      rw [decide_eq_false hA]
      rfl
    rw [hto]
    refine ⟨f, ?_, hR, fun _ _ => rfl⟩
    refine v_p hT rfl rfl ?_
    refine v_scall hT [.int w, .int (nI 0), .int (nI 2)] rfl rfl rfl rfl (Nat.le_of_ble_eq_true rfl) (Nat.le_of_ble_eq_true rfl) (s_within w (nI 0) (nI 2)) ?_
    rw [decide_eq_false hA]
    refine g_if hT rfl (fun cq => ?_) (fun cq => ?_)
    · exact bad _ ⟨rfl, rfl, rfl, trivial⟩
    · exact absurd rfl (show ¬ (0 : Int32) = 0 from cq)
