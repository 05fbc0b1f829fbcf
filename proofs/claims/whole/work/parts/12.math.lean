/-! THE MATHEMATICS: a book, its lines. -/
def bI (b : Bool) : Int32 := if b = true then 1 else 0
theorem bI_or (b : Bool) : bI b = 0 ∨ bI b = 1 := by cases b <;> decide
theorem bI_t : bI true = 1 := rfl
theorem bI_f : bI false = 0 := rfl
theorem bI_z (b : Bool) : bI b = 0 ↔ b = false := by cases b <;> decide
noncomputable def pB (P : Prop) : Bool := @decide P (Classical.propDecidable P)
theorem pB_t {P : Prop} (h : P) : pB P = true := @decide_eq_true P (Classical.propDecidable P) h
theorem pB_f {P : Prop} (h : ¬ P) : pB P = false := @decide_eq_false P (Classical.propDecidable P) h
theorem pB_of {P : Prop} (h : pB P = true) : P := @of_decide_eq_true P (Classical.propDecidable P) h
theorem pB_nof {P : Prop} (h : pB P = false) : ¬ P := @of_decide_eq_false P (Classical.propDecidable P) h
/-- counts of paragraphs; of words; lengths; widths; settings; count of ties; ties (0: p, 1: q, 2: weight) -/
abbrev BK : Type := (Nat → Nat) × (Nat → Nat → Nat) × (Nat → Nat → Nat → Nat) × (Nat → Nat) × (Nat → Nat) × Nat × (Nat → Nat → Nat)
abbrev bNp (B : BK) : Nat → Nat := B.1
abbrev bNw (B : BK) : Nat → Nat → Nat := B.2.1
abbrev bLn (B : BK) : Nat → Nat → Nat → Nat := B.2.2.1
abbrev bWd (B : BK) : Nat → Nat := B.2.2.2.1
abbrev bSe (B : BK) : Nat → Nat := B.2.2.2.2.1
abbrev bNt (B : BK) : Nat := B.2.2.2.2.2.1
abbrev bTi (B : BK) : Nat → Nat → Nat := B.2.2.2.2.2.2
/-- the filling of lines: line and what is used of it, at word k -/
def lineF (w : Nat) (ln : Nat → Nat) : Nat → Nat × Nat
  | 0 => (0, ln 0)
  | k + 1 => if (lineF w ln k).2 + 1 + ln (k + 1) ≤ w then ((lineF w ln k).1, (lineF w ln k).2 + 1 + ln (k + 1)) else ((lineF w ln k).1 + 1, ln (k + 1))
theorem lineF_le (w : Nat) (ln : Nat → Nat) (k : Nat) : (lineF w ln k).1 ≤ k := by
  induction k with
  | zero => exact Nat.le_refl _
  | succ k ih => unfold lineF; split <;> (dsimp only; omega)
theorem lineF_used (w c : Nat) (ln : Nat → Nat) (k : Nat) (hc : w ≤ c) (h : ∀ i, i ≤ k → ln i ≤ c) : (lineF w ln k).2 ≤ c := by
  induction k with
  | zero => exact h 0 (Nat.le_refl _)
  | succ k ih =>
    unfold lineF
    split
    · dsimp only; omega
    · exact h (k + 1) (Nat.le_refl _)
theorem lineF_congr {w : Nat} {ln ln' : Nat → Nat} (k : Nat) (h : ∀ i, i ≤ k → ln i = ln' i) : lineF w ln k = lineF w ln' k := by
  induction k with
  | zero => unfold lineF; rw [h 0 (Nat.le_refl _)]
  | succ k ih =>
    have h1 := ih (fun i hi => h i (by omega))
    unfold lineF
    rw [h1, h (k + 1) (Nat.le_refl _)]
/-- lines of a paragraph; the first line of paragraph p; all lines -/
def linF (B : BK) (s p : Nat) : Nat := (lineF (bWd B s) (bLn B s p) (bNw B s p - 1)).1 + 1
def fstF (B : BK) (s : Nat) : Nat → Nat
  | 0 => 0
  | p + 1 => fstF B s p + linF B s p
def totF (B : BK) (s : Nat) : Nat := fstF B s (bNp B s)
/-- well formed, but for the lines -/
def VB0 (B : BK) : Prop := (∀ s, s < 2 → bNp B s ≤ 8) ∧ (∀ s p, s < 2 → p < bNp B s → 1 ≤ bNw B s p ∧ bNw B s p ≤ 12 ∧ ∀ k, k < bNw B s p → 1 ≤ bLn B s p k ∧ bLn B s p k ≤ 9) ∧ (∀ s, s < 2 → 9 ≤ bWd B s ∧ bWd B s ≤ 40) ∧ ((2 ≤ bSe B 0 ∧ bSe B 0 ≤ 12) ∧ (1 ≤ bSe B 1 ∧ bSe B 1 ≤ 3) ∧ bSe B 2 ≤ 9) ∧ bNt B ≤ 10 ∧ ∀ i, i < bNt B → bTi B 0 i < bNp B 0 ∧ bTi B 1 i < bNp B 1 ∧ 1 ≤ bTi B 2 i ∧ bTi B 2 i ≤ 9
def VB (B : BK) : Prop := VB0 B ∧ ∀ s, s < 2 → totF B s ≤ 60
theorem linF_pos (B : BK) (s p : Nat) : 1 ≤ linF B s p := by unfold linF; omega
theorem linF_le {B : BK} (h : VB0 B) {s p : Nat} (hs : s < 2) (hp : p < bNp B s) : linF B s p ≤ 12 := by
  have h1 := lineF_le (bWd B s) (bLn B s p) (bNw B s p - 1)
  have h2 := h.2.1 s p hs hp
  unfold linF
  omega
theorem fstF_le {B : BK} (h : VB0 B) {s : Nat} (hs : s < 2) : ∀ p, p ≤ bNp B s → fstF B s p ≤ 12 * p := by
  intro p
  induction p with
  | zero => intro _; exact Nat.le_refl _
  | succ p ih =>
    intro hp
    have h1 := ih (by omega)
    have h2 := linF_le h hs (show p < bNp B s by omega)
    unfold fstF
    omega
theorem fstF_mono (B : BK) (s : Nat) {p q : Nat} (h : p ≤ q) : fstF B s p ≤ fstF B s q := by
  induction q with
  | zero => rw [Nat.le_zero.mp h]; exact Nat.le_refl _
  | succ q ih =>
    by_cases hq : p = q + 1
    · rw [hq]; exact Nat.le_refl _
    · have h1 := ih (by omega)
      show fstF B s p ≤ fstF B s q + linF B s q
      omega
theorem fstF_lt (B : BK) (s : Nat) {p q : Nat} (h : p < q) : fstF B s p < fstF B s q := by
  have h1 : fstF B s p + linF B s p ≤ fstF B s q := fstF_mono B s (show p + 1 ≤ q from h)
  have h2 := linF_pos B s p
  omega
/-- a book's cells hold a book -/
def bkR (f : Nat → Nat → Int32) (b : Nat) (B : BK) : Prop := (∀ s, s < 2 → f (b + 1) s = nI (bNp B s)) ∧ (∀ s p, s < 2 → p < bNp B s → f (b + 2) (s * 8 + p) = nI (bNw B s p) ∧ ∀ k, k < bNw B s p → f (b + 3) ((s * 8 + p) * 12 + k) = nI (bLn B s p k)) ∧ (∀ s, s < 2 → f (b + 4) s = nI (bWd B s)) ∧ (∀ i, i < 3 → f (b + 5) i = nI (bSe B i)) ∧ f b 8 = nI (bNt B) ∧ ∀ i, i < bNt B → f (b + 6) i = nI (bTi B 0 i) ∧ f (b + 7) i = nI (bTi B 1 i) ∧ f (b + 8) i = nI (bTi B 2 i)
def crossB (B : BK) (i j : Nat) : Bool := decide ((bTi B 0 i < bTi B 0 j ∧ bTi B 1 j < bTi B 1 i) ∨ (bTi B 0 j < bTi B 0 i ∧ bTi B 1 i < bTi B 1 j))
/-! ints as they come -/
theorem nI_small {n : Nat} (x : Int32) (hn : n < 2 ^ 31) : (0 ≤ x ∧ x < nI n) ↔ ∃ k, k < n ∧ x = nI k := by
  constructor
  · intro ⟨h1, h2⟩
    obtain ⟨j, hj, rfl⟩ := nI_of (Int32.not_lt.mpr h1)
    exact ⟨j, (nI_ltI hj hn).mp h2, rfl⟩
  · intro ⟨k, hk, e⟩
    subst e
    exact ⟨nI_pos' (by omega), nI_lt hk hn⟩
theorem in_range {a b : Nat} (x : Int32) (hb : b < 2 ^ 31 - 1) : (nI a ≤ x ∧ x ≤ nI b) → a ≤ b → ∃ k, a ≤ k ∧ k ≤ b ∧ x = nI k := by
  intro ⟨h1, h2⟩ hab
  have h0 : ¬ x < 0 := by
    intro hx
    exact absurd (Int32.lt_of_le_of_lt h1 hx) (nI_pos (by omega))
  obtain ⟨j, hj, rfl⟩ := nI_of h0
  exact ⟨j, (nI_leI (by omega) hj).mp h1, (nI_leI hj (by omega)).mp h2, rfl⟩
