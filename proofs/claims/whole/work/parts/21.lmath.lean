/-! THE MATHEMATICS of the layout: the rank of a rest. -/
def nvr : Nat := 1073741824
def mnY (g : Nat → Nat → Nat) (x acc : Nat) : Nat → Nat
  | 0 => acc
  | y + 1 => if 0 < x + y then min (mnY g x acc y) (g x y) else mnY g x acc y
def mnX (g : Nat → Nat → Nat) (Y : Nat) : Nat → Nat
  | 0 => nvr
  | x + 1 => mnY g x (mnX g Y x) (Y + 1)
def mnF (X Y : Nat) (g : Nat → Nat → Nat) : Nat := mnX g Y (X + 1)
/-- v is the least of g over the takes, or nvr -/
def isMn (X Y : Nat) (g : Nat → Nat → Nat) (v : Nat) : Prop := (∀ x y, x ≤ X → y ≤ Y → 0 < x + y → v ≤ g x y) ∧ v ≤ nvr ∧ (v = nvr ∨ ∃ x y, x ≤ X ∧ y ≤ Y ∧ 0 < x + y ∧ v = g x y)
theorem mnY_ok (g : Nat → Nat → Nat) (x acc : Nat) : ∀ n, mnY g x acc n ≤ acc ∧ (∀ y, y < n → 0 < x + y → mnY g x acc n ≤ g x y) ∧ (mnY g x acc n = acc ∨ ∃ y, y < n ∧ 0 < x + y ∧ mnY g x acc n = g x y) := by
  intro n
  induction n with
  | zero => exact ⟨Nat.le_refl _, fun y hy => by omega, Or.inl rfl⟩
  | succ n ih =>
    obtain ⟨h1, h2, h3⟩ := ih
    unfold mnY
    split
    · rename_i hp
      refine ⟨Nat.le_trans (Nat.min_le_left _ _) h1, fun y hy hq => ?_, ?_⟩
      · by_cases hyn : y = n
        · subst hyn; exact Nat.min_le_right _ _
        · exact Nat.le_trans (Nat.min_le_left _ _) (h2 y (by omega) hq)
      · by_cases hle : mnY g x acc n ≤ g x n
        · rw [Nat.min_eq_left hle]
          rcases h3 with h3 | ⟨y, q1, q2, q3⟩
          · exact Or.inl h3
          · exact Or.inr ⟨y, by omega, q2, q3⟩
        · rw [Nat.min_eq_right (by omega)]
          exact Or.inr ⟨n, by omega, hp, rfl⟩
    · rename_i hp
      refine ⟨h1, fun y hy hq => ?_, ?_⟩
      · by_cases hyn : y = n
        · subst hyn; exact absurd hq hp
        · exact h2 y (by omega) hq
      · rcases h3 with h3 | ⟨y, q1, q2, q3⟩
        · exact Or.inl h3
        · exact Or.inr ⟨y, by omega, q2, q3⟩
theorem mnX_ok (g : Nat → Nat → Nat) (Y : Nat) : ∀ n, mnX g Y n ≤ nvr ∧ (∀ x y, x < n → y ≤ Y → 0 < x + y → mnX g Y n ≤ g x y) ∧ (mnX g Y n = nvr ∨ ∃ x y, x < n ∧ y ≤ Y ∧ 0 < x + y ∧ mnX g Y n = g x y) := by
  intro n
  induction n with
  | zero => exact ⟨Nat.le_refl _, fun x y hx => by omega, Or.inl rfl⟩
  | succ n ih =>
    obtain ⟨h1, h2, h3⟩ := ih
    obtain ⟨q1, q2, q3⟩ := mnY_ok g n (mnX g Y n) (Y + 1)
    show mnY g n (mnX g Y n) (Y + 1) ≤ nvr ∧ (∀ x y, x < n + 1 → y ≤ Y → 0 < x + y → mnY g n (mnX g Y n) (Y + 1) ≤ g x y) ∧ (mnY g n (mnX g Y n) (Y + 1) = nvr ∨ ∃ x y, x < n + 1 ∧ y ≤ Y ∧ 0 < x + y ∧ mnY g n (mnX g Y n) (Y + 1) = g x y)
    refine ⟨Nat.le_trans q1 h1, fun x y hx hy hp => ?_, ?_⟩
    · by_cases hxn : x = n
      · subst hxn; exact q2 y (by omega) hp
      · exact Nat.le_trans q1 (h2 x y (by omega) hy hp)
    · rcases q3 with q3 | ⟨y, a1, a2, a3⟩
      · rw [q3]
        rcases h3 with h3 | ⟨x, y, a1, a2, a3, a4⟩
        · exact Or.inl h3
        · exact Or.inr ⟨x, y, by omega, a2, a3, a4⟩
      · exact Or.inr ⟨n, y, by omega, by omega, a2, a3⟩
theorem mnF_ok (X Y : Nat) (g : Nat → Nat → Nat) : isMn X Y g (mnF X Y g) := by
  obtain ⟨h1, h2, h3⟩ := mnX_ok g Y (X + 1)
  refine ⟨fun x y hx hy hp => h2 x y (by omega) hy hp, h1, ?_⟩
  rcases h3 with h3 | ⟨x, y, a1, a2, a3, a4⟩
  · exact Or.inl h3
  · exact Or.inr ⟨x, y, by omega, a2, a3, a4⟩
theorem isMn_eq {X Y : Nat} {g : Nat → Nat → Nat} {v w : Nat} (h1 : isMn X Y g v) (h2 : isMn X Y g w) : v = w := by
  have key : ∀ {a b : Nat}, isMn X Y g a → isMn X Y g b → a ≤ b := by
    intro a b ha hb
    rcases hb.2.2 with e | ⟨x, y, q1, q2, q3, q4⟩
    · rw [e]; exact ha.2.1
    · rw [q4]; exact ha.1 x y q1 q2 q3
  exact Nat.le_antisymm (key h1 h2) (key h2 h1)
theorem isMn_congr {X Y : Nat} {g g' : Nat → Nat → Nat} {v : Nat} (h : isMn X Y g v) (e : ∀ x y, x ≤ X → y ≤ Y → 0 < x + y → g x y = g' x y) : isMn X Y g' v := by
  refine ⟨fun x y hx hy hp => by rw [← e x y hx hy hp]; exact h.1 x y hx hy hp, h.2.1, ?_⟩
  rcases h.2.2 with h3 | ⟨x, y, a1, a2, a3, a4⟩
  · exact Or.inl h3
  · exact Or.inr ⟨x, y, a1, a2, a3, by rw [a4, e x y a1 a2 a3]⟩
/-- the cost of an opening that takes x and y lines -/
def tollF (hi sh x y : Nat) : Nat := (hi - x) * (hi - x) + (hi - y) * (hi - y) + sh * ((hi - x) - (hi - y) + ((hi - y) - (hi - x))) * ((hi - x) - (hi - y) + ((hi - y) - (hi - x)))
theorem tollF_le {hi sh x y : Nat} (h : hi ≤ 12) (hs : sh ≤ 9) : tollF hi sh x y ≤ 1584 := by
  have a1 : (hi - x) * (hi - x) ≤ 12 * 12 := Nat.mul_le_mul (by omega) (by omega)
  have a2 : (hi - y) * (hi - y) ≤ 12 * 12 := Nat.mul_le_mul (by omega) (by omega)
  have a3 : sh * ((hi - x) - (hi - y) + ((hi - y) - (hi - x))) * ((hi - x) - (hi - y) + ((hi - y) - (hi - x))) ≤ 9 * 12 * 12 := Nat.mul_le_mul (Nat.mul_le_mul hs (by omega)) (by omega)
  unfold tollF
  omega
/-- all that the layout hangs on: lines of both sides, high, share, where openings may end -/
abbrev LYP : Type := Nat × Nat × Nat × Nat × (Nat → Nat → Bool)
def byF (P : LYP) (R : Nat → Nat → Nat) (i j x y : Nat) : Nat := if R (i + x) (j + y) = nvr then nvr else R (i + x) (j + y) + 1 + (if i + x = P.1 ∧ j + y = P.2.1 then 0 else tollF P.2.2.1 P.2.2.2.1 x y * 128)
def RF (P : LYP) : Nat → Nat → Nat → Nat
  | 0, i, j => if i = P.1 ∧ j = P.2.1 then 0 else nvr
  | n + 1, i, j => if i = P.1 ∧ j = P.2.1 then 0 else if P.2.2.2.2 i j = true then mnF (min P.2.2.1 (P.1 - i)) (min P.2.2.1 (P.2.1 - j)) (byF P (RF P n) i j) else nvr
theorem RF_fuel (P : LYP) : ∀ n m i j, i ≤ P.1 → j ≤ P.2.1 → (P.1 - i) + (P.2.1 - j) ≤ n → (P.1 - i) + (P.2.1 - j) ≤ m → RF P n i j = RF P m i j := by
  intro n
  induction n with
  | zero =>
    intro m i j hi hj h1 h2
    have e : i = P.1 ∧ j = P.2.1 := by omega
    cases m with
    | zero => rfl
    | succ m => unfold RF; rw [if_pos e, if_pos e]
  | succ n ih =>
    intro m i j hi hj h1 h2
    cases m with
    | zero =>
      have e : i = P.1 ∧ j = P.2.1 := by omega
      unfold RF; rw [if_pos e, if_pos e]
    | succ m =>
      unfold RF
      by_cases e : i = P.1 ∧ j = P.2.1
      · rw [if_pos e, if_pos e]
      · rw [if_neg e, if_neg e]
        by_cases ho : P.2.2.2.2 i j = true
        · rw [if_pos ho, if_pos ho]
          refine isMn_eq (mnF_ok _ _ _) (isMn_congr (mnF_ok _ _ _) (fun x y hx hy hp => ?_))
          unfold byF
          rw [ih m (i + x) (j + y) (by omega) (by omega) (by omega) (by omega)]
        · rw [if_neg ho, if_neg ho]
/-- the rank of the rest behind i, j -/
def rkF (P : LYP) (i j : Nat) : Nat := RF P ((P.1 - i) + (P.2.1 - j)) i j
theorem rkF_end (P : LYP) : rkF P P.1 P.2.1 = 0 := by
  unfold rkF
  rw [show P.1 - P.1 + (P.2.1 - P.2.1) = 0 by omega]
  unfold RF
  rw [if_pos ⟨rfl, rfl⟩]
theorem rkF_no {P : LYP} {i j : Nat} (hi : i ≤ P.1) (hj : j ≤ P.2.1) (h : ¬ (i = P.1 ∧ j = P.2.1)) (ho : ¬ P.2.2.2.2 i j = true) : rkF P i j = nvr := by
  unfold rkF
  obtain ⟨n, hn⟩ : ∃ n, P.1 - i + (P.2.1 - j) = n + 1 := ⟨P.1 - i + (P.2.1 - j) - 1, by omega⟩
  rw [hn]
  unfold RF
  rw [if_neg h, if_neg ho]
theorem rkF_mn {P : LYP} {i j : Nat} (hi : i ≤ P.1) (hj : j ≤ P.2.1) (h : ¬ (i = P.1 ∧ j = P.2.1)) (ho : P.2.2.2.2 i j = true) : isMn (min P.2.2.1 (P.1 - i)) (min P.2.2.1 (P.2.1 - j)) (byF P (rkF P) i j) (rkF P i j) := by
  obtain ⟨n, hn⟩ : ∃ n, P.1 - i + (P.2.1 - j) = n + 1 := ⟨P.1 - i + (P.2.1 - j) - 1, by omega⟩
  have e : rkF P i j = mnF (min P.2.2.1 (P.1 - i)) (min P.2.2.1 (P.2.1 - j)) (byF P (RF P n) i j) := by
    unfold rkF
    rw [hn]
    unfold RF
    rw [if_neg h, if_pos ho]
  rw [e]
  refine isMn_congr (mnF_ok _ _ _) (fun x y hx hy hp => ?_)
  unfold byF
  rw [RF_fuel P n ((P.1 - (i + x)) + (P.2.1 - (j + y))) (i + x) (j + y) (by omega) (by omega) (by omega) (Nat.le_refl _)]
  rfl
/-- of a rank: openings to come, cost -/
theorem rkF_bd {P : LYP} (h12 : P.2.2.1 ≤ 12) (h9 : P.2.2.2.1 ≤ 9) : ∀ d i j, i ≤ P.1 → j ≤ P.2.1 → (P.1 - i) + (P.2.1 - j) = d → rkF P i j = nvr ∨ (rkF P i j % 128 ≤ d ∧ rkF P i j / 128 ≤ 1584 * d) ∨ 120 < d := by
  intro d
  induction d using Nat.strongRecOn with
  | ind d ih =>
    intro i j hi hj hd
    by_cases hd120 : 120 < d
    · exact Or.inr (Or.inr hd120)
    · by_cases h : i = P.1 ∧ j = P.2.1
      · obtain ⟨rfl, rfl⟩ := h
        rw [rkF_end]
        exact Or.inr (Or.inl ⟨Nat.zero_le _, Nat.zero_le _⟩)
      · by_cases ho : P.2.2.2.2 i j = true
        · have hm := rkF_mn hi hj h ho
          rcases hm.2.2 with e | ⟨x, y, q1, q2, q3, q4⟩
          · exact Or.inl e
          · rw [q4]
            unfold byF
            by_cases hn : rkF P (i + x) (j + y) = nvr
            · rw [if_pos hn]; exact Or.inl rfl
            · rw [if_neg hn]
              have hq := ih ((P.1 - (i + x)) + (P.2.1 - (j + y))) (by omega) (i + x) (j + y) (by omega) (by omega) rfl
              rcases hq with hq | hq | hq
              · exact absurd hq hn
              · have ht := tollF_le (hi := P.2.2.1) (sh := P.2.2.2.1) (x := x) (y := y) h12 h9
                refine Or.inr (Or.inl ?_)
                generalize rkF P (i + x) (j + y) = r at hq
                generalize tollF P.2.2.1 P.2.2.2.1 x y = t at ht
                split <;> omega
              · omega
        · exact Or.inl (rkF_no hi hj h ho)
theorem rkF_lt {P : LYP} (h12 : P.2.2.1 ≤ 12) (h9 : P.2.2.2.1 ≤ 9) (h0 : P.1 ≤ 60) (h1 : P.2.1 ≤ 60) {i j : Nat} (hi : i ≤ P.1) (hj : j ≤ P.2.1) : rkF P i j = nvr ∨ (rkF P i j % 128 ≤ (P.1 - i) + (P.2.1 - j) ∧ rkF P i j < 30000000) := by
  rcases rkF_bd h12 h9 _ i j hi hj rfl with h | h | h
  · exact Or.inl h
  · refine Or.inr ⟨h.1, ?_⟩
    have h3 := h.2
    have h4 : 1584 * ((P.1 - i) + (P.2.1 - j)) ≤ 1584 * 120 := Nat.mul_le_mul_left _ (by omega)
    have h5 := Nat.mod_lt (rkF P i j) (show 0 < 128 by omega)
    have h6 := Nat.div_add_mod (rkF P i j) 128
    omega
  · omega
theorem rkF_le {P : LYP} (h12 : P.2.2.1 ≤ 12) (h9 : P.2.2.2.1 ≤ 9) (h0 : P.1 ≤ 60) (h1 : P.2.1 ≤ 60) {i j : Nat} (hi : i ≤ P.1) (hj : j ≤ P.2.1) : rkF P i j ≤ nvr := by
  rcases rkF_lt h12 h9 h0 h1 hi hj with h | h
  · rw [h]; exact Nat.le_refl _
  · unfold nvr; omega
theorem byF_bd {P : LYP} (h12 : P.2.2.1 ≤ 12) (h9 : P.2.2.2.1 ≤ 9) (h0 : P.1 ≤ 60) (h1 : P.2.1 ≤ 60) {i j x y : Nat} (hi : i + x ≤ P.1) (hj : j + y ≤ P.2.1) : byF P (rkF P) i j x y ≤ nvr ∧ rkF P (i + x) (j + y) ≤ byF P (rkF P) i j x y := by
  unfold byF
  rcases rkF_lt h12 h9 h0 h1 hi hj with h | h
  · rw [if_pos h, h]; exact ⟨Nat.le_refl _, Nat.le_refl _⟩
  · have ht := tollF_le (hi := P.2.2.1) (sh := P.2.2.2.1) (x := x) (y := y) h12 h9
    by_cases hn : rkF P (i + x) (j + y) = nvr
    · rw [if_pos hn, hn]; exact ⟨Nat.le_refl _, Nat.le_refl _⟩
    · rw [if_neg hn]
      refine ⟨?_, by omega⟩
      unfold nvr
      split <;> omega
