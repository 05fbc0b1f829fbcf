/-! THE REFERENCE: its calls that change. -/
def knR (f : Nat → Nat → Int32) (B : BK) : Prop := f 98 6 = nI (keptF B) ∧ (∀ s b, s < 2 → b ≤ totF B s → f 103 (61 * s + b) = bI (lawF B s b)) ∧ f 98 11 = opI (lyP B) ∧ f 98 12 = coI (lyP B) ∧ ∀ k, k < opN (lyP B) → f 107 k = nI ((posF (lyP B) (k + 1)).1 - (posF (lyP B) k).1) ∧ f 108 k = nI ((posF (lyP B) (k + 1)).2 - (posF (lyP B) k).2)
def txM (f : Nat → Nat → Int32) (t : TX) : Prop := f 98 16 = nI t.1 ∧ ∀ k, k < t.1 → f 109 k = nI (t.2 k)
def RepM (f : Nat → Nat → Int32) (S : ST) : Prop := nowR (f 100) S.1 ∧ stM f S.2.1 ∧ txM f S.2.2.1 ∧ (∀ i, i < 3 → f 99 i = S.2.2.2 i) ∧ ∃ kn : Bool, f 98 4 = bI kn ∧ (kn = true → knR f S.1)
def MSp (m : Nat) (as : List Value) (S : ST) (r : Int32 × ST) : Prop := ∀ (n : Nat) (kf : Nat → Nat) (f : Nat → Nat → Int32), RepM f S → ∃ f2, Run m 110 0 (ini m (.ref 98 :: as)) [] (HH n kf f) (Ret (some (.int r.1)) (HH n kf f2)) ∧ RepM f2 r.2 ∧ ∀ c, c < 98 ∨ 110 ≤ c → f2 c = f c
theorem RepM_mk {f F : Nat → Nat → Int32} {S : ST} {B : BK} {H : HS} (h : RepM f S) (h1 : nowR (F 100) B) (h2 : stM F H) (h4 : F 98 4 = nI 0) (h16 : F 98 16 = f 98 16) (h99 : F 99 = f 99) (h109 : F 109 = f 109) : RepM F (B, H, S.2.2.1, S.2.2.2) := by
  obtain ⟨a1, a2, a3, a4, a5⟩ := h
  exact ⟨h1, h2, ⟨by rw [h16]; exact a3.1, fun k hk => by rw [h109]; exact a3.2 k hk⟩, fun i hi => by rw [h99]; exact a4 i hi, false, h4, fun z => (by cases z)⟩
theorem stM_fr {f F : Nat → Nat → Int32} {H : HS} (h : stM f H) (h3 : F 98 3 = f 98 3) (h101 : F 101 = f 101) : stM F H := by
  obtain ⟨a, b⟩ := h
  exact ⟨by rw [h3]; exact a, fun i hi => by rw [h101]; exact b i hi⟩
theorem knR_fr {f F : Nat → Nat → Int32} {B : BK} (h : knR f B) (h98 : ∀ i, i = 6 ∨ i = 11 ∨ i = 12 → F 98 i = f 98 i) (hc : ∀ c, c = 103 ∨ c = 107 ∨ c = 108 → F c = f c) : knR F B := by
  obtain ⟨a1, a2, a3, a4, a5⟩ := h
  exact ⟨by rw [h98 6 (by omega)]; exact a1, fun s b hs hb => by rw [hc 103 (by omega)]; exact a2 s b hs hb, by rw [h98 11 (by omega)]; exact a3, by rw [h98 12 (by omega)]; exact a4, fun k hk => by rw [hc 107 (by omega), hc 108 (by omega)]; exact a5 k hk⟩
theorem RepM_refu {f : Nat → Nat → Int32} {S : ST} {j : Nat} (h : RepM f S) : RepM (hset f 99 j (f 99 j + nI 1)) (refu S j) := by
  obtain ⟨a1, a2, a3, a4, kn, a5, a6⟩ := h
  refine ⟨by rw [hset_ne (by omega)]; exact a1, stM_fr a2 (by rw [hset_ne (by omega)]) (by rw [hset_ne (by omega)]), ⟨by rw [hset_ne (by omega)]; exact a3.1, fun k hk => by rw [hset_ne (by omega)]; exact a3.2 k hk⟩, fun i hi => ?_, kn, by rw [hset_ne (by omega)]; exact a5, fun z => knR_fr (a6 z) (fun i _ => by rw [hset_ne (by omega)]) (fun c _ => hset_ne (by omega))⟩
  rw [hs_s]
  show upd (f 99) j (f 99 j + nI 1) i = (if i = j then S.2.2.2 i + 1 else S.2.2.2 i)
  by_cases e : i = j
  · subst e; rw [upd_eq, if_pos rfl, a4 i hi]; rfl
  · rw [upd_ne e, if_neg e]; exact a4 i hi
theorem m_bad2 {n : Nat} {kf : Nat → Nat} {f : Nat → Nat → Int32} {S : ST} (h : RepM f S) : ∃ f2, Run n_X7_bad 110 0 (ini n_X7_bad [.ref 98]) [] (HH n kf f) (Ret (some (.int (mI 2))) (HH n kf f2)) ∧ RepM f2 (refu S 0) ∧ ∀ c, c < 98 ∨ 110 ≤ c → f2 c = f c := ⟨_, m_bad, RepM_refu h, fun c hc => hset_ne (by omega)⟩
/-- an order that is tried: whether it can be, and what it leaves -/
def canR (can : Int32) (r : Int32 × BK) : Prop := (∃ j, j < 3 ∧ can = mI (2 + j) ∧ r.1 = mI (2 + j)) ∨ can = nI 0
def comR (f F : Nat → Nat → Int32) (r : Int32 × BK) : Prop := (r.1 = mI 4 ∨ ((∃ k, k < 1000 ∧ r.1 = nI k) ∧ nowR (F 100) r.2)) ∧ F 98 = upd (f 98) 4 (nI 0) ∧ ∀ c, c ≠ 98 → c ≠ 100 → F c = f c
theorem tot_other {B : BK} (hV : VB B) {s n : Nat} {l : Nat → Nat} (hs : s < 2) : (60 < totF (bParAdd B s n l) 0 ∨ 60 < totF (bParAdd B s n l) 1) ↔ 60 < totF (bParAdd B s n l) s := by
  have ho : ∀ z, z < 2 → z ≠ s → totF (bParAdd B s n l) z ≤ 60 := by
    intro z hz e
    have h5 : totF (bParAdd B s n l) z = totF B z := by
      unfold totF
      rw [show bNp (bParAdd B s n l) z = bNp B z by show (if z = s then bNp B s + 1 else bNp B z) = bNp B z; rw [if_neg e]]
      exact fstF_add_old _ (fun h => absurd h e)
    rw [h5]
    exact hV.2 z hz
  have h0 := ho 0 (by omega)
  have h1 := ho 1 (by omega)
  rcases (show s = 0 ∨ s = 1 by omega) with e | e
  · subst e
    have := h1 (by omega)
    omega
  · subst e
    have := h0 (by omega)
    omega
theorem tot_otherW {B : BK} (hV : VB B) {s v : Nat} (hs : s < 2) : (60 < totF (bWidTo B s v) 0 ∨ 60 < totF (bWidTo B s v) 1) ↔ 60 < totF (bWidTo B s v) s := by
  have ho : ∀ z, z < 2 → z ≠ s → totF (bWidTo B s v) z ≤ 60 := by
    intro z hz e
    rw [show totF (bWidTo B s v) z = totF B z from totF_cg rfl (fun _ _ => linF_cg (by show (if z = s then v else bWd B z) = bWd B z; rw [if_neg e]) rfl rfl)]
    exact hV.2 z hz
  have h0 := ho 0 (by omega)
  have h1 := ho 1 (by omega)
  rcases (show s = 0 ∨ s = 1 by omega) with e | e
  · subst e
    have := h1 (by omega)
    omega
  · subst e
    have := h0 (by omega)
    omega
theorem canP_nat {B : BK} {s n : Nat} {w : Nat → Int32} (hs : s < 2) (h1 : 1 ≤ n) (h12 : n ≤ 12) : canP B (nI s) (nI n) w = bif pB (∀ k, k < n → nI 1 ≤ w k ∧ w k ≤ nI 9) then (bif decide (8 ≤ bNp B s) then mI 4 else nI 0) else mI 2 := by
  unfold canP
  have c1 : (0 : Int32) ≤ nI s ∧ nI s ≤ 1 := by
    rcases (show s = 0 ∨ s = 1 by omega) with e | e
    · subst e; decide
    · subst e; decide
  have c2 : nI 1 ≤ nI n ∧ nI n ≤ nI 12 := ⟨(cj_le (a := 1) (b := n) (by omega) (by omega)).mpr h1, (cj_le (a := n) (b := 12) (by omega) (by omega)).mpr h12⟩
  rw [decide_eq_true c1, decide_eq_true c2, nI_tn (by omega), nI_tn (by omega)]
  rfl
theorem o_par {m s n : Nat} {kf : Nat → Nat} {f : Nat → Nat → Int32} {B : BK} {ws : Nat → Int32} (hR : nowR (f 100) B) (hV : VB B) (hs : s < 2) (h1 : 1 ≤ n) (h12 : n ≤ 12) (hf : ∀ k, k < n → f 102 k = ws k) :
    canR (canP B (nI s) (nI n) (f 102)) (aPar B s n ws) ∧ (canP B (nI s) (nI n) (f 102) = nI 0 → ∃ F, Run n_X7_paraComes 110 0 (ini n_X7_paraComes [.ref 98, .int (nI s), .int (nI n)]) [] (HH m kf f) (Ret (some (.int (aPar B s n ws).1)) (HH m kf F)) ∧ comR f F (aPar B s n ws)) := by
  rw [canP_nat hs h1 h12, aPar_e1 hf, aPar_X]
  by_cases c1 : ∀ k, k < n → nI 1 ≤ ws k ∧ ws k ≤ nI 9
  · rw [pB_t c1]
    by_cases c2 : 8 ≤ bNp B s
    · rw [decide_eq_true c2]
      exact ⟨Or.inl ⟨2, by omega, rfl, rfl⟩, fun z => absurd z (show ¬ mI 4 = nI 0 by decide)⟩
    · rw [decide_eq_false c2]
      refine ⟨Or.inr rfl, fun _ => ?_⟩
      obtain ⟨F, e1, e2, e3, e4⟩ := m_paraComes (m := m) (kf := kf) (f := f) (l := fun k => (ws k).toNatClampNeg) hR hV.1 hs (by omega) h1 h12 (fun k hk => by
        obtain ⟨j, j1, j2, j3⟩ := in_range (ws k) (by omega) (c1 k hk) (by omega)
        show f 102 k = nI (ws k).toNatClampNeg
        rw [hf k hk, j3, nI_tn (by omega)]) (fun k hk => by
        obtain ⟨j, j1, j2, j3⟩ := in_range (ws k) (by omega) (c1 k hk) (by omega)
        show 1 ≤ (ws k).toNatClampNeg ∧ (ws k).toNatClampNeg ≤ 9
        rw [j3, nI_tn (by omega)]
        exact ⟨j1, j2⟩)
      refine ⟨F, ?_, ?_, e3, e4⟩
      · by_cases c3 : 60 < totF (bParAdd B s n (fun k => (ws k).toNatClampNeg)) s
        · rw [decide_eq_true ((tot_other hV hs).mpr c3)] at e1
          rw [decide_eq_true c3]
          exact e1
        · rw [decide_eq_false (fun z => c3 ((tot_other hV hs).mp z))] at e1
          rw [decide_eq_false c3]
          exact e1
      · by_cases c3 : 60 < totF (bParAdd B s n (fun k => (ws k).toNatClampNeg)) s
        · rw [decide_eq_true c3]
          exact Or.inl rfl
        · rw [decide_eq_false c3]
          exact Or.inr ⟨⟨bNp B s, by omega, rfl⟩, e2⟩
  · rw [pB_f c1]
    exact ⟨Or.inl ⟨0, by omega, rfl, rfl⟩, fun z => absurd z (show ¬ mI 2 = nI 0 by decide)⟩
def canW (s v : Int32) : Int32 := bif decide (0 ≤ s ∧ s ≤ 1) && decide (nI 9 ≤ v ∧ v ≤ nI 40) then nI 0 else mI 2
theorem o_wid {m : Nat} {kf : Nat → Nat} {f : Nat → Nat → Int32} {B : BK} (hR : nowR (f 100) B) (hV : VB B) (s v : Int32) :
    canR (canW s v) (aWid B s v) ∧ (canW s v = nI 0 → ∃ F, Run n_X7_widthBecomes 110 0 (ini n_X7_widthBecomes [.ref 98, .int s, .int v]) [] (HH m kf f) (Ret (some (.int (aWid B s v).1)) (HH m kf F)) ∧ comR f F (aWid B s v)) := by
  unfold canW aWid
  cases hc : (decide (0 ≤ s ∧ s ≤ 1) && decide (nI 9 ≤ v ∧ v ≤ nI 40)) with
  | false => exact ⟨Or.inl ⟨0, by omega, rfl, rfl⟩, fun z => absurd z (show ¬ mI 2 = nI 0 by decide)⟩
  | true =>
    rw [Bool.and_eq_true] at hc
    obtain ⟨k, k1, k2, k3⟩ := in_range v (by omega) (of_decide_eq_true hc.2) (by omega)
    obtain ⟨Z, z1, z2⟩ : ∃ Z, Z < 2 ∧ s = nI Z := by
      rcases int_lo (of_decide_eq_true hc.1) with e | e
      · exact ⟨0, by omega, e⟩
      · exact ⟨1, by omega, e⟩
    subst k3; subst z2
    rw [nI_tn (show Z < 2 ^ 31 by omega), nI_tn (show k < 2 ^ 31 by omega)]
    refine ⟨Or.inr rfl, fun _ => ?_⟩
    have e1 := m_widthBecomes (n := m) (kf := kf) (f := f) hR hV.1 z1 k1 k2
    have hw := (hV.1.2.2.1 Z z1).2
    refine ⟨hset (hset f 100 Z (nI k)) 98 4 (nI 0), ?_, ?_, ?_, ?_⟩
    · by_cases c3 : 60 < totF (bWidTo B Z k) Z
      · rw [decide_eq_true ((tot_otherW hV z1).mpr c3)] at e1
        rw [decide_eq_true c3]
        exact e1
      · rw [decide_eq_false (fun z => c3 ((tot_otherW hV z1).mp z))] at e1
        rw [decide_eq_false c3]
        exact e1
    · by_cases c3 : 60 < totF (bWidTo B Z k) Z
      · rw [decide_eq_true c3]
        exact Or.inl rfl
      · rw [decide_eq_false c3]
        refine Or.inr ⟨⟨bWd B Z, by omega, rfl⟩, ?_⟩
        rw [hset_ne (by omega), hs_s]
        exact nowR_wid hV.1 z1 hR
    · rw [hs_s, hset_ne (by omega)]
    · intro c x1 x2
      rw [hset_ne x1, hset_ne x2]
noncomputable def canS (w v : Int32) : Int32 := bif decide (nI 0 ≤ w ∧ w ≤ nI 2) && decide (nI (seLo w.toNatClampNeg) ≤ v ∧ v ≤ nI (seHi w.toNatClampNeg)) then nI 0 else mI 2
theorem o_set {m : Nat} {kf : Nat → Nat} {f : Nat → Nat → Int32} {B : BK} (hR : nowR (f 100) B) (hV : VB B) (w v : Int32) :
    canR (canS w v) (aSet B w v) ∧ (canS w v = nI 0 → ∃ F, Run n_X7_setBecomes 110 0 (ini n_X7_setBecomes [.ref 98, .int w, .int v]) [] (HH m kf f) (Ret (some (.int (aSet B w v).1)) (HH m kf F)) ∧ comR f F (aSet B w v)) := by
  unfold canS aSet
  cases hc : (decide (nI 0 ≤ w ∧ w ≤ nI 2) && decide (nI (seLo w.toNatClampNeg) ≤ v ∧ v ≤ nI (seHi w.toNatClampNeg))) with
  | false => exact ⟨Or.inl ⟨0, by omega, rfl, rfl⟩, fun z => absurd z (show ¬ mI 2 = nI 0 by decide)⟩
  | true =>
    rw [Bool.and_eq_true] at hc
    have hh := seHi_le w.toNatClampNeg
    obtain ⟨k, k1, k2, k3⟩ := in_range v (by omega) (of_decide_eq_true hc.2) (seLo_hi _)
    obtain ⟨j, j1, j2, j3⟩ := in_range w (by omega) (of_decide_eq_true hc.1) (by omega)
    subst k3; subst j3
    rw [nI_tn (show j < 2 ^ 31 by omega)] at hh k1 k2 ⊢
    rw [nI_tn (show k < 2 ^ 31 by omega)]
    refine ⟨Or.inr rfl, fun _ => ?_⟩
    have hse := hV.1.2.2.2.1
    have hb : bSe B j < 1000 := by
      rcases (show j = 0 ∨ j = 1 ∨ j = 2 by omega) with e | e | e <;> subst e <;> omega
    refine ⟨_, m_setBecomes hR (show j < 3 by omega), Or.inr ⟨⟨bSe B j, hb, rfl⟩, ?_⟩, ?_, ?_⟩
    · rw [hset_ne (by omega), hs_s]
      exact nowR_set (by omega) hR
    · rw [hs_s, hset_ne (by omega)]
    · intro c x1 x2
      rw [hset_ne x1, hset_ne x2]
theorem o_tie {m : Nat} {kf : Nat → Nat} {f : Nat → Nat → Int32} {B : BK} (hR : nowR (f 100) B) (hV : VB B) (p q w : Int32) :
    canR (canT B p q w) (aTie B p q w) ∧ (canT B p q w = nI 0 → ∃ F, Run n_X7_tieComes 110 0 (ini n_X7_tieComes [.ref 98, .int p, .int q, .int w]) [] (HH m kf f) (Ret (some (.int (aTie B p q w).1)) (HH m kf F)) ∧ comR f F (aTie B p q w)) := by
  unfold canT aTie
  cases hc : (isPa B (nI 0) p && isPa B (nI 1) q && decide (nI 1 ≤ w ∧ w ≤ nI 9)) with
  | false => exact ⟨Or.inl ⟨0, by omega, rfl, rfl⟩, fun z => absurd z (show ¬ mI 2 = nI 0 by decide)⟩
  | true =>
    rw [Bool.and_eq_true, Bool.and_eq_true] at hc
    obtain ⟨⟨h1, h2⟩, h3⟩ := hc
    simp only [cond_true]
    cases hd : pB (∃ i, i < bNt B ∧ nI (bTi B 0 i) = p ∧ nI (bTi B 1 i) = q) with
    | true => exact ⟨Or.inl ⟨1, by omega, rfl, rfl⟩, fun z => absurd z (show ¬ mI 3 = nI 0 by decide)⟩
    | false =>
      simp only [cond_false]
      by_cases ht : 10 ≤ bNt B
      · rw [decide_eq_true ht]
        exact ⟨Or.inl ⟨2, by omega, rfl, rfl⟩, fun z => absurd z (show ¬ mI 4 = nI 0 by decide)⟩
      · rw [decide_eq_false ht]
        refine ⟨Or.inr rfl, fun _ => ?_⟩
        obtain ⟨s0, p0, q1, q2, q3, q4⟩ := isPa_of h1
        obtain ⟨s1, p1, y1, y2, y3, y4⟩ := isPa_of h2
        obtain ⟨k, k1, k2, k3⟩ := in_range w (by omega) (of_decide_eq_true h3) (by omega)
        have hn0 := hV.1.1 s0 q1
        have hn1 := hV.1.1 s1 y1
        subst q4; subst y4; subst k3
        rw [nI_tn (show p0 < 2 ^ 31 by omega), nI_tn (show p1 < 2 ^ 31 by omega), nI_tn (show k < 2 ^ 31 by omega)]
        obtain ⟨F, e1, e2, e3, e4⟩ := m_tieComes (n := m) (kf := kf) (p := p0) (q := p1) (w := k) hR hV.1 (by omega)
        exact ⟨F, e1, Or.inr ⟨⟨bNt B, by omega, rfl⟩, e2⟩, e3, e4⟩
