/-! THE REFERENCE: its least costs are the ranks. -/
theorem tiB_t {B : BK} {a x b y : Nat} : ∀ n, tiB B a x b y n = true ↔ ∀ t, t < n → (keptF B).testBit t = true → ((a ≤ fpN B 0 t ∧ fpN B 0 t < a + x) ↔ (b ≤ fpN B 1 t ∧ fpN B 1 t < b + y)) := by
  intro n
  induction n with
  | zero => exact ⟨fun _ t ht => absurd ht (Nat.not_lt_zero _), fun _ => rfl⟩
  | succ n ih =>
    show (tiB B a x b y n && _) = true ↔ _
    rw [Bool.and_eq_true, ih]
    have hb : (decide (a ≤ fpN B 0 n ∧ fpN B 0 n < a + x) == decide (b ≤ fpN B 1 n ∧ fpN B 1 n < b + y)) = true ↔ ((a ≤ fpN B 0 n ∧ fpN B 0 n < a + x) ↔ (b ≤ fpN B 1 n ∧ fpN B 1 n < b + y)) := by
      rw [beq_iff_eq, decide_eq_decide]
    constructor
    · intro ⟨h1, h2⟩ t ht hk
      by_cases e : t = n
      · subst e
        rw [hk] at h2
        exact hb.mp (by simpa using h2)
      · exact h1 t (by omega) hk
    · intro h
      refine ⟨fun t ht => h t (by omega), ?_⟩
      cases hk : (keptF B).testBit n with
      | false => rfl
      | true =>
        rw [hb.mpr (h n (by omega) hk)]
        rfl
theorem bg_iff {B : BK} (h10 : bNt B ≤ 10) (i j : Nat) : mkB (bgB (keptF B) (fun t => fstF B 0 (bTi B 0 t)) i) 10 = mkB (bgB (keptF B) (fun t => fstF B 1 (bTi B 1 t)) j) 10 ↔ ∀ t, t < bNt B → (keptF B).testBit t = true → (fpN B 0 t < i ↔ fpN B 1 t < j) := by
  rw [mkB_eq]
  constructor
  · intro h t ht hk
    have h1 := h t (by omega)
    unfold bgB at h1
    rw [hk, Bool.true_and, Bool.true_and, decide_eq_decide] at h1
    exact h1
  · intro h t ht
    unfold bgB
    cases hk : (keptF B).testBit t with
    | false => rfl
    | true =>
      rw [Bool.true_and, Bool.true_and, decide_eq_decide]
      exact h t (kept_bit hk) hk
theorem okF_t {B : BK} (h10 : bNt B ≤ 10) (i j : Nat) : okF B i j = true ↔ lawF B 0 i = true ∧ lawF B 1 j = true ∧ ∀ t, t < bNt B → (keptF B).testBit t = true → (fpN B 0 t < i ↔ fpN B 1 t < j) := by
  unfold okF
  rw [Bool.and_eq_true, Bool.and_eq_true, decide_eq_true_eq, bg_iff h10, and_assoc]
theorem ok_step {B : BK} (h10 : bNt B ≤ 10) {a b x y : Nat} (h : okF B a b = true) : okF B (a + x) (b + y) = true ↔ lawF B 0 (a + x) = true ∧ lawF B 1 (b + y) = true ∧ tiB B a x b y (bNt B) = true := by
  rw [okF_t h10, tiB_t]
  have h0 := ((okF_t h10 a b).mp h).2.2
  refine and_congr_right (fun _ => and_congr_right (fun _ => ?_))
  constructor
  · intro g t ht hk
    have g1 := g t ht hk
    have g0 := h0 t ht hk
    omega
  · intro g t ht hk
    have g1 := g t ht hk
    have g0 := h0 t ht hk
    omega
theorem lawF_0 (B : BK) (s : Nat) : lawF B s 0 = true := by
  have h : ∀ n, 0 < n → alF B s n 0 = true := by
    intro n
    induction n with
    | zero => intro z; exact absurd z (Nat.lt_irrefl _)
    | succ p ih =>
      intro _
      have hp := linF_pos B s p
      show (if _ then _ else _) = true
      by_cases e : fstF B s p = 0
      · rw [if_pos (by omega)]
        exact decide_eq_true (Or.inl e.symm)
      · rw [if_neg (by omega)]
        refine ih ?_
        cases p with
        | zero => exact absurd rfl e
        | succ q => exact Nat.succ_pos q
  unfold lawF
  split
  · rfl
  · next e =>
    refine h _ ?_
    cases hn : bNp B s with
    | zero => exact absurd (by unfold totF; rw [hn]; rfl) e
    | succ q => exact Nat.succ_pos q
theorem okF_0 {B : BK} (h10 : bNt B ≤ 10) : okF B 0 0 = true := (okF_t h10 0 0).mpr ⟨lawF_0 B 0, lawF_0 B 1, fun _ _ _ => by omega⟩
/-- a pair of cost and openings stands for a rank -/
def rpF (q : Int32 × Int32) (v : Nat) : Prop := (v = nvr ∧ q = (nI farN, nI farN)) ∨ (v < 40000000 ∧ q = (nI (v / 128), nI (v % 128)))
theorem rp_le {q : Int32 × Int32} {v : Nat} (h : rpF q v) : v ≤ nvr := by
  have : nvr = 1073741824 := rfl
  rcases h with h | h <;> omega
theorem rp_no {q : Int32 × Int32} {v : Nat} {c m : Int32} (h : rpF q v) : rpF (stpF q false c m) v := by
  unfold stpF
  rw [if_neg (fun z => by cases z.1)]
  exact h
theorem rp_yes {q : Int32 × Int32} {v w : Nat} (h : rpF q v) (hw : w < 40000000) : rpF (stpF q true (nI (w / 128)) (nI (w % 128))) (min v w) := by
  have e1 : nvr = 1073741824 := rfl
  have e2 : farN = 1000000000 := rfl
  unfold stpF
  rcases h with ⟨h1, h2⟩ | ⟨h1, h2⟩
  · subst h2
    rw [if_pos ⟨rfl, Or.inl ((nI_ltI (by omega) (by omega)).mpr (by omega))⟩, Nat.min_eq_right (by omega)]
    exact Or.inr ⟨hw, rfl⟩
  · subst h2
    by_cases hlt : w < v
    · rw [if_pos ⟨rfl, by
        by_cases z : w / 128 < v / 128
        · exact Or.inl ((nI_ltI (by omega) (by omega)).mpr z)
        · have z2 : w / 128 = v / 128 := by omega
          exact Or.inr ⟨by show nI (w / 128) = nI (v / 128); rw [z2], (nI_ltI (by omega) (by omega)).mpr (by omega)⟩⟩, Nat.min_eq_right (by omega)]
      exact Or.inr ⟨hw, rfl⟩
    · rw [if_neg (fun ⟨_, z⟩ => by
        rcases z with z | ⟨z1, z2⟩
        · have := (nI_ltI (by omega) (by omega)).mp z
          omega
        · have z1 : nI (w / 128) = nI (v / 128) := z1
          have := (nI_eq (by omega) (by omega)).mp z1
          have := (nI_ltI (by omega) (by omega)).mp z2
          omega), Nat.min_eq_left (by omega)]
      exact Or.inr ⟨h1, rfl⟩
/-- the reference's cells at a place that an opening may end at -/
def ckR (c m : Nat → Int32) (B : BK) (a b : Nat) : Prop := okF B a b = true → (rkF (lyP B) a b = nvr ∧ c (61 * a + b) = nI farN) ∨ (rkF (lyP B) a b ≠ nvr ∧ c (61 * a + b) = nI (rkF (lyP B) a b / 128) ∧ m (61 * a + b) = nI (rkF (lyP B) a b % 128))
theorem can_yes {B : BK} (hV : VB B) {c m : Nat → Int32} {a b x y : Nat} (ha : a ≤ totF B 0) (hb : b ≤ totF B 1) (hok : okF B a b = true) (hx : x ≤ bSe B 0) (hy : y ≤ bSe B 0) (hc : ∀ p q, a ≤ p → p ≤ totF B 0 → b ≤ q → q ≤ totF B 1 → a + b < p + q → ckR c m B p q) (h : canM B c a x b y = true) :
    byF (lyP B) (rkF (lyP B)) a b x y < 40000000 ∧ cwM B c a x b y = nI (byF (lyP B) (rkF (lyP B)) a b x y / 128) ∧ m (61 * (a + x) + b + y) + nI 1 = nI (byF (lyP B) (rkF (lyP B)) a b x y % 128) := by
  have e1 : nvr = 1073741824 := rfl
  obtain ⟨b0, b1, b2⟩ := canM_b h
  have h10 := hV.1.2.2.2.2.1
  have hPb := lyP_bd hV
  have hs2 : bSe B 2 ≤ 9 := hV.1.2.2.2.1.2.2
  have hs0 : bSe B 0 ≤ 12 := hV.1.2.2.2.1.1.2
  have t0 := hV.2 0 (by omega)
  have t1 := hV.2 1 (by omega)
  unfold canM at h
  rw [Bool.and_eq_true, Bool.and_eq_true, Bool.and_eq_true, Bool.and_eq_true] at h
  obtain ⟨-, g1, g2, g3, g4⟩ := h
  have g3 := of_decide_eq_true g3
  have hok2 := (ok_step h10 hok).mpr ⟨g1, g2, g4⟩
  have hk := hc (a + x) (b + y) (by omega) b1 (by omega) b2 (by omega) hok2
  rw [show 61 * (a + x) + (b + y) = 61 * (a + x) + b + y by omega] at hk
  rcases hk with ⟨_, k2⟩ | ⟨k1, k2, k3⟩
  · rw [k2] at g3
    exact absurd g3 Int32.lt_irrefl
  · have hlt := rkF_lt hPb.1 hPb.2.1 hPb.2.2.1 hPb.2.2.2 (i := a + x) (j := b + y) b1 b2
    have hlt : rkF (lyP B) (a + x) (b + y) % 128 ≤ (totF B 0 - (a + x)) + (totF B 1 - (b + y)) ∧ rkF (lyP B) (a + x) (b + y) < 30000000 := hlt.elim (fun z => absurd z k1) id
    have htl : tollF (bSe B 0) (bSe B 2) x y ≤ 1584 := tollF_le hs0 hs2
    unfold byF
    rw [if_neg k1]
    unfold cwM
    rw [k2, k3]
    generalize rkF (lyP B) (a + x) (b + y) = R at hlt k1
    by_cases hl : a + x = totF B 0 ∧ b + y = totF B 1
    · rw [if_pos (show a + x = (lyP B).1 ∧ b + y = (lyP B).2.1 from hl), if_pos hl, nI_add, nI_add]
      refine ⟨by omega, ?_, ?_⟩
      · congr 1; omega
      · congr 1; omega
    · rw [if_neg (show ¬ (a + x = (lyP B).1 ∧ b + y = (lyP B).2.1) from hl), if_neg hl, nI_add, nI_add]
      rw [show tollF (lyP B).2.2.1 (lyP B).2.2.2.1 x y = tollF (bSe B 0) (bSe B 2) x y from rfl]
      generalize tollF (bSe B 0) (bSe B 2) x y = T at htl
      refine ⟨by omega, ?_, ?_⟩
      · congr 1; omega
      · congr 1; omega
theorem can_no {B : BK} (hV : VB B) {c m : Nat → Int32} {a b x y : Nat} (hok : okF B a b = true) (hc : ∀ p q, a ≤ p → p ≤ totF B 0 → b ≤ q → q ≤ totF B 1 → a + b < p + q → ckR c m B p q) (h : canM B c a x b y = false) (h0 : 0 < x + y) (h1 : a + x ≤ totF B 0) (h2 : b + y ≤ totF B 1) : byF (lyP B) (rkF (lyP B)) a b x y = nvr := by
  have e1 : nvr = 1073741824 := rfl
  have e2 : farN = 1000000000 := rfl
  have h10 := hV.1.2.2.2.2.1
  have hPb := lyP_bd hV
  have hr : rkF (lyP B) (a + x) (b + y) = nvr := by
    cases ho : okF B (a + x) (b + y) with
    | false => exact rkF_no (P := lyP B) h1 h2 (fun z => by
        have z1 : a + x = totF B 0 := z.1
        have z2 : b + y = totF B 1 := z.2
        rw [z1, z2, okF_end hV.1] at ho
        cases ho) (fun z => by
        have z : okF B (a + x) (b + y) = true := z
        rw [ho] at z; cases z)
    | true =>
      have hk := hc (a + x) (b + y) (by omega) h1 (by omega) h2 (by omega) ho
      rcases hk with ⟨k1, _⟩ | ⟨k1, k2, k3⟩
      · exact k1
      · exfalso
        obtain ⟨g1, g2, g3⟩ := (ok_step h10 hok).mp ho
        have hlt := rkF_lt hPb.1 hPb.2.1 hPb.2.2.1 hPb.2.2.2 (i := a + x) (j := b + y) h1 h2
        have hlt : rkF (lyP B) (a + x) (b + y) < 30000000 := hlt.elim (fun z => absurd z k1) (fun z => z.2)
        unfold canM at h
        rw [show 61 * (a + x) + (b + y) = 61 * (a + x) + b + y by omega] at k2
        rw [decide_eq_true ⟨h0, h1, h2⟩, g1, g2, g3, k2, decide_eq_true ((nI_ltI (by omega) (by omega)).mpr (by omega))] at h
        cases h
  unfold byF
  rw [if_pos hr]
/-- what the reference looks for at its places -/
noncomputable def gpF (B : BK) (c : Nat → Int32) (a b x y : Nat) : Nat := if canM B c a x b y = true then byF (lyP B) (rkF (lyP B)) a b x y else nvr
theorem fd_rank {B : BK} (hV : VB B) {c m : Nat → Int32} {a b : Nat} (ha : a ≤ totF B 0) (hb : b ≤ totF B 1) (hok : okF B a b = true) (hne : ¬ (a = totF B 0 ∧ b = totF B 1)) (hc : ∀ p q, a ≤ p → p ≤ totF B 0 → b ≤ q → q ≤ totF B 1 → a + b < p + q → ckR c m B p q) :
    rpF (fdX B c m a b (bSe B 0 + 1)) (rkF (lyP B) a b) := by
  have fY : ∀ x, x ≤ bSe B 0 → ∀ q v, rpF q v → ∀ k, k ≤ bSe B 0 + 1 → rpF (fdY B c m a b x q k) (mnY (gpF B c a b) x v k) := by
    intro x hx q v hq k
    induction k with
    | zero => intro _; exact hq
    | succ y ih =>
      intro hy
      have ih := ih (by omega)
      show rpF (stpF (fdY B c m a b x q y) (canM B c a x b y) (cwM B c a x b y) (m (61 * (a + x) + b + y) + nI 1)) (if 0 < x + y then min (mnY (gpF B c a b) x v y) (gpF B c a b x y) else mnY (gpF B c a b) x v y)
      cases hcan : canM B c a x b y with
      | false =>
        have hg : gpF B c a b x y = nvr := by unfold gpF; rw [if_neg (by rw [hcan]; exact Bool.false_ne_true)]
        have hl := rp_le ih
        rw [hg]
        split
        · rw [Nat.min_eq_left hl]; exact rp_no ih
        · exact rp_no ih
      | true =>
        have hg : gpF B c a b x y = byF (lyP B) (rkF (lyP B)) a b x y := by unfold gpF; rw [if_pos hcan]
        obtain ⟨w1, w2, w3⟩ := can_yes hV ha hb hok hx (by omega) hc hcan
        rw [if_pos (canM_b hcan).1, hg, w2, w3]
        exact rp_yes ih w1
  have fX : ∀ k, k ≤ bSe B 0 + 1 → rpF (fdX B c m a b k) (mnX (gpF B c a b) (bSe B 0) k) := by
    intro k
    induction k with
    | zero => intro _; exact Or.inl ⟨rfl, rfl⟩
    | succ x ih =>
      intro hx
      exact fY x (by omega) _ _ (ih (by omega)) (bSe B 0 + 1) (Nat.le_refl _)
  have h1 := fX (bSe B 0 + 1) (Nat.le_refl _)
  obtain ⟨m1, m2, m3⟩ := mnF_ok (bSe B 0) (bSe B 0) (gpF B c a b)
  have hmn : isMn (min (lyP B).2.2.1 ((lyP B).1 - a)) (min (lyP B).2.2.1 ((lyP B).2.1 - b)) (byF (lyP B) (rkF (lyP B)) a b) (mnF (bSe B 0) (bSe B 0) (gpF B c a b)) := by
    refine ⟨fun x y hx hy h0 => ?_, m2, ?_⟩
    · have hx : x ≤ min (bSe B 0) (totF B 0 - a) := hx
      have hy : y ≤ min (bSe B 0) (totF B 1 - b) := hy
      have h5 := m1 x y (by omega) (by omega) h0
      cases hcan : canM B c a x b y with
      | false => rw [can_no hV hok hc hcan h0 (by omega) (by omega)]; exact m2
      | true =>
        have hg : gpF B c a b x y = byF (lyP B) (rkF (lyP B)) a b x y := by unfold gpF; rw [if_pos hcan]
        rw [hg] at h5
        exact h5
    · rcases m3 with m3 | ⟨x, y, hx, hy, h0, h5⟩
      · exact Or.inl m3
      · cases hcan : canM B c a x b y with
        | false =>
          have hg : gpF B c a b x y = nvr := by unfold gpF; rw [if_neg (by rw [hcan]; exact Bool.false_ne_true)]
          exact Or.inl (by rw [h5, hg])
        | true =>
          have hg : gpF B c a b x y = byF (lyP B) (rkF (lyP B)) a b x y := by unfold gpF; rw [if_pos hcan]
          obtain ⟨b0, b1, b2⟩ := canM_b hcan
          refine Or.inr ⟨x, y, ?_, ?_, h0, by rw [h5, hg]⟩
          · show x ≤ min (bSe B 0) (totF B 0 - a); omega
          · show y ≤ min (bSe B 0) (totF B 1 - b); omega
  have h6 := rkF_mn (P := lyP B) (i := a) (j := b) ha hb hne hok
  rw [isMn_eq h6 hmn]
  exact h1
