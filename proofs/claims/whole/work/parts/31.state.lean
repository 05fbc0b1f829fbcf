/-! The state of all, and that changes keep it sound. -/
theorem linF_cg {B C : BK} {s p : Nat} (h1 : bWd C s = bWd B s) (h2 : bNw C s p = bNw B s p) (h3 : bLn C s p = bLn B s p) : linF C s p = linF B s p := by
  unfold linF
  rw [h1, h2, h3]
theorem fstF_cg {B C : BK} {s : Nat} : ∀ p, (∀ q, q < p → linF C s q = linF B s q) → fstF C s p = fstF B s p := by
  intro p
  induction p with
  | zero => intro _; rfl
  | succ p ih =>
    intro h
    show fstF C s p + linF C s p = fstF B s p + linF B s p
    rw [ih (fun q hq => h q (by omega)), h p (by omega)]
theorem totF_cg {B C : BK} {s : Nat} (h0 : bNp C s = bNp B s) (h : ∀ q, q < bNp B s → linF C s q = linF B s q) : totF C s = totF B s := by
  unfold totF
  rw [h0]
  exact fstF_cg _ h
theorem VB_set {B : BK} (hV : VB B) {i v : Nat} (h1 : seLo i ≤ v) (h2 : v ≤ seHi i) : VB (bSetTo B i v) := ⟨VB0_set hV.1 h1 h2, fun s hs => by rw [show totF (bSetTo B i v) s = totF B s from totF_cg rfl (fun _ _ => linF_cg rfl rfl rfl)]; exact hV.2 s hs⟩
theorem VB_wid {B : BK} (hV : VB B) {s v : Nat} (h1 : 9 ≤ v) (h2 : v ≤ 40) (ht : totF (bWidTo B s v) s ≤ 60) : VB (bWidTo B s v) := ⟨VB0_wid hV.1 h1 h2, fun z hz => by
  by_cases e : z = s
  · rw [e]; exact ht
  · rw [show totF (bWidTo B s v) z = totF B z from totF_cg rfl (fun _ _ => linF_cg (by show (if z = s then v else bWd B z) = bWd B z; rw [if_neg e]) rfl rfl)]
    exact hV.2 z hz⟩
theorem VB_add {B : BK} (hV : VB B) {s n : Nat} {l : Nat → Nat} (hs : bNp B s < 8) (h1 : 1 ≤ n) (h12 : n ≤ 12) (hl : ∀ k, k < n → 1 ≤ l k ∧ l k ≤ 9) (ht : totF (bParAdd B s n l) s ≤ 60) : VB (bParAdd B s n l) := ⟨VB0_add hV.1 hs h1 h12 hl, fun z hz => by
  by_cases e : z = s
  · rw [e]; exact ht
  · have h5 : totF (bParAdd B s n l) z = totF B z := by
      unfold totF
      rw [show bNp (bParAdd B s n l) z = bNp B z by show (if z = s then bNp B s + 1 else bNp B z) = bNp B z; rw [if_neg e]]
      exact fstF_add_old _ (fun h => absurd h e)
    rw [h5]
    exact hV.2 z hz⟩
theorem VB_tieAdd {B : BK} (hV : VB B) {p q w : Nat} (hp : p < bNp B 0) (hq : q < bNp B 1) (h1 : 1 ≤ w) (h9 : w ≤ 9) (hn : bNt B < 10) : VB (bTieAdd B p q w) := by
  obtain ⟨⟨a1, a2, a3, a4, a5, a6⟩, a7⟩ := hV
  refine ⟨⟨a1, a2, a3, a4, by show bNt B + 1 ≤ 10; omega, fun i hi => ?_⟩, fun s hs => by rw [show totF (bTieAdd B p q w) s = totF B s from totF_cg rfl (fun _ _ => linF_cg rfl rfl rfl)]; exact a7 s hs⟩
  have hi : i < bNt B + 1 := hi
  by_cases e : i = bNt B
  · subst e
    simp only [bTieAdd, bTi, if_pos]
    exact ⟨hp, hq, h1, h9⟩
  · have := a6 i (by omega)
    simp only [bTieAdd, bTi, if_neg e]
    exact this
theorem VB_tieGo {B : BK} (hV : VB B) {i : Nat} (hi : i < bNt B) : VB (bTieGo B i) := by
  obtain ⟨⟨a1, a2, a3, a4, a5, a6⟩, a7⟩ := hV
  refine ⟨⟨a1, a2, a3, a4, by show bNt B - 1 ≤ 10; omega, fun j hj => ?_⟩, fun s hs => by rw [show totF (bTieGo B i) s = totF B s from totF_cg rfl (fun _ _ => linF_cg rfl rfl rfl)]; exact a7 s hs⟩
  have hj : j < bNt B - 1 := hj
  by_cases e : j < i
  · have := a6 j (by omega)
    simp only [bTieGo, bTi, if_pos e]
    exact this
  · have := a6 (j + 1) (by omega)
    simp only [bTieGo, bTi, if_neg e]
    exact this
def tVal (m0 m1 : Nat) (t : Nat → Nat → Nat) (i : Nat) : Prop := t 0 i < m0 ∧ t 1 i < m1 ∧ 1 ≤ t 2 i ∧ t 2 i ≤ 9
def lss (z y m : Nat) : Nat := if y = z then m - 1 else m
theorem tsOf_ok {z p m0 m1 : Nat} (hz : z < 2) (hp : p < (if z = 0 then m0 else m1)) : ∀ j (t : TS), j ≤ t.1 → (∀ i, i < j → tVal m0 m1 t.2 i) → (∀ i, j ≤ i → i < t.1 → tVal (lss z 0 m0) (lss z 1 m1) t.2 i) → (tsOf z p j t).1 ≤ t.1 ∧ ∀ i, i < (tsOf z p j t).1 → tVal (lss z 0 m0) (lss z 1 m1) (tsOf z p j t).2 i := by
  intro j
  induction j with
  | zero => intro t _ _ h; exact ⟨Nat.le_refl _, fun i hi => h i (by omega) hi⟩
  | succ j ih =>
    intro t hj hold hnew
    have hlt : j < t.1 := by omega
    show (tsOf z p j (tsStep t z p j)).1 ≤ t.1 ∧ ∀ i, i < (tsOf z p j (tsStep t z p j)).1 → tVal (lss z 0 m0) (lss z 1 m1) (tsOf z p j (tsStep t z p j)).2 i
    unfold tsStep
    by_cases c1 : t.2 z j = p
    · rw [if_pos c1]
      have h := ih (tsGo t j) (by show j ≤ t.1 - 1; omega) (fun i hi => by
        have := hold i (by omega)
        unfold tVal tsGo
        simp only [if_pos hi]
        exact this) (fun i h1 h2 => by
        have h2 : i < t.1 - 1 := h2
        have := hnew (i + 1) (by omega) (by omega)
        unfold tVal tsGo
        simp only [if_neg (show ¬ i < j by omega)]
        exact this)
      refine ⟨Nat.le_trans h.1 (by show t.1 - 1 ≤ t.1; omega), h.2⟩
    · rw [if_neg c1]
      have hj0 := hold j (by omega)
      obtain ⟨x1, x2, x3, x4⟩ := id hj0
      by_cases c2 : p < t.2 z j
      · rw [if_pos c2]
        refine ih _ (by show j ≤ t.1; omega) (fun i hi => ?_) (fun i h1 h2 => ?_)
        · have := hold i (by omega)
          unfold tVal
          simp only [show ∀ y : Nat, ¬ (y = z ∧ i = j) from fun y q => by omega, if_false]
          exact this
        · by_cases e : i = j
          · subst e
            unfold tVal lss
            rcases (show z = 0 ∨ z = 1 by omega) with e0 | e0
            · subst e0
              simp only [and_self, if_true, and_true, show ¬ (1 : Nat) = 0 by omega, show ¬ (2 : Nat) = 0 by omega, if_false]
              omega
            · subst e0
              simp only [and_self, if_true, and_true, show ¬ (0 : Nat) = 1 by omega, show ¬ (2 : Nat) = 1 by omega, if_false]
              omega
          · have := hnew i (by omega) h2
            unfold tVal
            simp only [show ∀ y : Nat, ¬ (y = z ∧ i = j) from fun y q => by omega, if_false]
            exact this
      · rw [if_neg c2]
        refine ih t (by omega) (fun i hi => hold i (by omega)) (fun i h1 h2 => ?_)
        by_cases e : i = j
        · subst e
          unfold tVal lss
          rcases (show z = 0 ∨ z = 1 by omega) with e0 | e0
          · subst e0
            simp only [if_true, show ¬ (1 : Nat) = 0 by omega, if_false] at hp ⊢
            omega
          · subst e0
            simp only [if_true, show ¬ (0 : Nat) = 1 by omega, show ¬ (1 : Nat) = 0 by omega, if_false] at hp ⊢
            omega
        · exact hnew i (by omega) h2
theorem linF_parGo {B : BK} {s p z j : Nat} : linF (bParGo B s p) z j = linF B z (if z = s ∧ p ≤ j then j + 1 else j) := by
  unfold linF
  by_cases e : z = s ∧ p ≤ j
  · rw [if_pos e]
    simp only [bParGo, bNw, bLn, bWd, if_pos e]
  · rw [if_neg e]
    simp only [bParGo, bNw, bLn, bWd, if_neg e]
theorem fstF_parGo {B : BK} {s p : Nat} : ∀ j, fstF (bParGo B s p) s j ≤ fstF B s (j + 1) := by
  intro j
  induction j with
  | zero => exact Nat.zero_le _
  | succ j ih =>
    show fstF (bParGo B s p) s j + linF (bParGo B s p) s j ≤ fstF B s (j + 1) + linF B s (j + 1)
    by_cases e : p ≤ j
    · rw [linF_parGo, if_pos ⟨rfl, e⟩]; omega
    · have : ∀ i, i ≤ j → fstF (bParGo B s p) s i = fstF B s i := fun i hi => fstF_cg i (fun q hq => by rw [linF_parGo, if_neg (by omega)])
      rw [this j (Nat.le_refl _), linF_parGo, if_neg (by omega)]
      exact Nat.le_trans (Nat.le_refl (fstF B s (j + 1))) (Nat.le_add_right _ _)
theorem VB_drop {B : BK} (hV : VB B) {s p : Nat} (hs : s < 2) (hp : p < bNp B s) : VB (bWT (bParGo B s p) (tsOf s p (bNt B) (bT B))) ∧ (tsOf s p (bNt B) (bT B)).1 ≤ bNt B := by
  obtain ⟨⟨a1, a2, a3, a4, a5, a6⟩, a7⟩ := id hV
  have hts := tsOf_ok (z := s) (p := p) (m0 := bNp B 0) (m1 := bNp B 1) hs (by
    rcases (show s = 0 ∨ s = 1 by omega) with e0 | e0
    · subst e0; rw [if_pos rfl]; exact hp
    · subst e0; rw [if_neg (by omega)]; exact hp) (bNt B) (bT B) (Nat.le_refl _) (fun i hi => a6 i hi) (fun i h1 h2 => by have h2 : i < bNt B := h2; omega)
  refine ⟨⟨⟨fun z hz => ?_, fun z q hz hq => ?_, a3, a4, ?_, fun i hi => ?_⟩, fun z hz => ?_⟩, hts.1⟩
  · show (if z = s then bNp B s - 1 else bNp B z) ≤ 8
    have := a1 s hs
    have := a1 z hz
    split <;> omega
  · have hq : q < (if z = s then bNp B s - 1 else bNp B z) := hq
    by_cases e : z = s ∧ p ≤ q
    · rw [if_pos e.1] at hq
      have := a2 z (q + 1) hz (by rw [e.1]; omega)
      simp only [bWT, bParGo, bNw, bLn, if_pos e]
      exact this
    · have hq2 : q < bNp B z := by
        by_cases e2 : z = s
        · rw [if_pos e2] at hq; rw [e2]; omega
        · rw [if_neg e2] at hq; exact hq
      have := a2 z q hz hq2
      simp only [bWT, bParGo, bNw, bLn, if_neg e]
      exact this
  · exact Nat.le_trans hts.1 a5
  · have h5 := hts.2 i hi
    obtain ⟨y1, y2, y3, y4⟩ := h5
    refine ⟨?_, ?_, y3, y4⟩
    · show _ < (if 0 = s then bNp B s - 1 else bNp B 0)
      refine Nat.lt_of_lt_of_le y1 (Nat.le_of_eq ?_)
      unfold lss
      split
      · next h => subst h; rfl
      · rfl
    · show _ < (if 1 = s then bNp B s - 1 else bNp B 1)
      refine Nat.lt_of_lt_of_le y2 (Nat.le_of_eq ?_)
      unfold lss
      split
      · next h => subst h; rfl
      · rfl
  · have h6 : totF (bWT (bParGo B s p) (tsOf s p (bNt B) (bT B))) z = totF (bParGo B s p) z := totF_cg rfl (fun _ _ => linF_cg rfl rfl rfl)
    rw [h6]
    have h7 : totF (bParGo B s p) z ≤ totF B z := by
      by_cases e : z = s
      · subst e
        unfold totF
        rw [show bNp (bParGo B z p) z = bNp B z - 1 by show (if z = z then bNp B z - 1 else bNp B z) = _; rw [if_pos rfl]]
        have h8 := fstF_parGo (B := B) (s := z) (p := p) (bNp B z - 1)
        rw [show bNp B z - 1 + 1 = bNp B z by omega] at h8
        exact h8
      · refine Nat.le_of_eq (totF_cg ?_ (fun q _ => ?_))
        · show (if z = s then bNp B s - 1 else bNp B z) = _; rw [if_neg e]
        · rw [linF_parGo, if_neg (fun q => e q.1)]
    exact Nat.le_trans h7 (hV.2 z hz)
/-- answers as they come -/
def okA (x : Int32) : Prop := x = mI 2 ∨ x = mI 3 ∨ x = mI 4 ∨ ∃ k : Nat, k < 1000 ∧ x = nI k
theorem nI_tn {k : Nat} (h : k < 2 ^ 31) : (nI k).toNatClampNeg = k := by
  unfold nI
  rw [Int32.toNatClampNeg_ofNat_of_lt h]
theorem aTie_ok {B : BK} (hV : VB B) (p q w : Int32) : VB (aTie B p q w).2 ∧ okA (aTie B p q w).1 := by
  unfold aTie
  cases hc : (isPa B (nI 0) p && isPa B (nI 1) q && decide (nI 1 ≤ w ∧ w ≤ nI 9)) with
  | false => exact ⟨hV, Or.inl rfl⟩
  | true =>
    rw [Bool.and_eq_true, Bool.and_eq_true] at hc
    obtain ⟨⟨h1, h2⟩, h3⟩ := hc
    simp only [cond_true]
    cases hd : pB (∃ i, i < bNt B ∧ nI (bTi B 0 i) = p ∧ nI (bTi B 1 i) = q) with
    | true => exact ⟨hV, Or.inr (Or.inl rfl)⟩
    | false =>
      simp only [cond_false]
      by_cases ht : 10 ≤ bNt B
      · rw [decide_eq_true ht]; exact ⟨hV, Or.inr (Or.inr (Or.inl rfl))⟩
      · rw [decide_eq_false ht]
        obtain ⟨s0, p0, q1, q2, q3, q4⟩ := isPa_of h1
        obtain ⟨s1, p1, y1, y2, y3, y4⟩ := isPa_of h2
        obtain ⟨k, k1, k2, k3⟩ := in_range w (by omega) (of_decide_eq_true h3) (by omega)
        have e0 : s0 = 0 := by
          have : nI s0 = nI 0 := q3.symm
          exact (cj_eq (a := s0) (b := 0) (by omega) (by omega)).mp this
        have e1 : s1 = 1 := by
          have : nI s1 = nI 1 := y3.symm
          exact (cj_eq (a := s1) (b := 1) (by omega) (by omega)).mp this
        subst e0; subst e1
        have hn0 := hV.1.1 0 (by omega)
        have hn1 := hV.1.1 1 (by omega)
        refine ⟨?_, Or.inr (Or.inr (Or.inr ⟨bNt B, by omega, rfl⟩))⟩
        subst q4; subst y4; subst k3
        show VB (bTieAdd B _ _ _)
        rw [nI_tn (by omega), nI_tn (by omega), nI_tn (by omega)]
        exact VB_tieAdd hV q2 y2 k1 k2 (by omega)
theorem aWid_ok {B : BK} (hV : VB B) (s v : Int32) : VB (aWid B s v).2 ∧ okA (aWid B s v).1 := by
  unfold aWid
  cases hc : (decide (0 ≤ s ∧ s ≤ 1) && decide (nI 9 ≤ v ∧ v ≤ nI 40)) with
  | false => exact ⟨hV, Or.inl rfl⟩
  | true =>
    rw [Bool.and_eq_true] at hc
    obtain ⟨h1, h2⟩ := hc
    obtain ⟨k, k1, k2, k3⟩ := in_range v (by omega) (of_decide_eq_true h2) (by omega)
    simp only [cond_true]
    by_cases ht : 60 < totF (bWidTo B s.toNatClampNeg v.toNatClampNeg) s.toNatClampNeg
    · rw [decide_eq_true ht]; exact ⟨hV, Or.inr (Or.inr (Or.inl rfl))⟩
    · rw [decide_eq_false ht]
      have hs2 : s.toNatClampNeg < 2 := by
        rcases int_lo (of_decide_eq_true h1) with e | e
        · rw [e, nI_tn (by omega)]; omega
        · rw [e, nI_tn (by omega)]; omega
      have := (hV.1.2.2.1 _ hs2).2
      refine ⟨?_, Or.inr (Or.inr (Or.inr ⟨_, by omega, rfl⟩))⟩
      refine VB_wid hV ?_ ?_ (by omega)
      · rw [k3, nI_tn (by omega)]; omega
      · rw [k3, nI_tn (by omega)]; omega
theorem aSet_ok {B : BK} (hV : VB B) (w v : Int32) : VB (aSet B w v).2 ∧ okA (aSet B w v).1 := by
  unfold aSet
  cases hc : (decide (nI 0 ≤ w ∧ w ≤ nI 2) && decide (nI (seLo w.toNatClampNeg) ≤ v ∧ v ≤ nI (seHi w.toNatClampNeg))) with
  | false => exact ⟨hV, Or.inl rfl⟩
  | true =>
    rw [Bool.and_eq_true] at hc
    obtain ⟨h1, h2⟩ := hc
    have hh := seHi_le w.toNatClampNeg
    obtain ⟨k, k1, k2, k3⟩ := in_range v (by omega) (of_decide_eq_true h2) (seLo_hi _)
    obtain ⟨j, j1, j2, j3⟩ := in_range w (by omega) (of_decide_eq_true h1) (by omega)
    simp only [cond_true]
    have hw : w.toNatClampNeg = j := by rw [j3, nI_tn (by omega)]
    have hv : v.toNatClampNeg = k := by rw [k3, nI_tn (by omega)]
    have hse := hV.1.2.2.2.1
    refine ⟨?_, Or.inr (Or.inr (Or.inr ⟨_, ?_, rfl⟩))⟩
    · exact VB_set hV (by omega) (by omega)
    · rw [hw]
      rcases (show j = 0 ∨ j = 1 ∨ j = 2 by omega) with e | e | e <;> subst e <;> omega
theorem aDrop_ok {B : BK} (hV : VB B) (s p : Int32) : VB (aDrop B s p).2 ∧ okA (aDrop B s p).1 := by
  unfold aDrop
  cases hc : isPa B s p with
  | false => exact ⟨hV, Or.inl rfl⟩
  | true =>
    obtain ⟨s0, p0, q1, q2, q3, q4⟩ := isPa_of hc
    have hn := hV.1.1 s0 q1
    simp only [cond_true]
    subst q3; subst q4
    rw [nI_tn (by omega), nI_tn (by omega)]
    obtain ⟨x1, x2⟩ := VB_drop hV q1 q2
    have h10 := hV.1.2.2.2.2.1
    refine ⟨x1, Or.inr (Or.inr (Or.inr ⟨bNt B - (tsOf s0 p0 (bNt B) (bT B)).1, by omega, ?_⟩))⟩
    rw [pk_sub x2]
theorem aPar_ok {B : BK} (hV : VB B) {s n : Nat} (hs : s < 2) (h1 : 1 ≤ n) (h12 : n ≤ 12) (ws : Nat → Int32) : VB (aPar B s n ws).2 ∧ okA (aPar B s n ws).1 := by
  unfold aPar
  cases hc : pB (∀ k, k < n → nI 1 ≤ ws k ∧ ws k ≤ nI 9) with
  | false => exact ⟨hV, Or.inl rfl⟩
  | true =>
    have hw := pB_of hc
    simp only [cond_true]
    cases hd : (decide (8 ≤ bNp B s) || decide (60 < totF (bParAdd B s n (fun k => (ws k).toNatClampNeg)) s)) with
    | true => exact ⟨hV, Or.inr (Or.inr (Or.inl rfl))⟩
    | false =>
      rw [Bool.or_eq_false_iff] at hd
      have d1 := of_decide_eq_false hd.1
      have d2 := of_decide_eq_false hd.2
      refine ⟨?_, Or.inr (Or.inr (Or.inr ⟨bNp B s, by omega, rfl⟩))⟩
      refine VB_add hV (by omega) h1 h12 (fun k hk => ?_) (by omega)
      obtain ⟨j, j1, j2, j3⟩ := in_range (ws k) (by omega) (hw k hk) (by omega)
      rw [j3, nI_tn (by omega)]
      exact ⟨j1, j2⟩
