/-! THE CLASS: the layout's tolls and ranks. -/
theorem toll_i {hi sh x y : Nat} (hx : x ≤ hi) (hy : y ≤ hi) : (nI hi - nI x) * (nI hi - nI x) + (nI hi - nI y) * (nI hi - nI y) + nI sh * ((nI hi - nI x) - (nI hi - nI y)) * ((nI hi - nI x) - (nI hi - nI y)) = nI (tollF hi sh x y) := by
  unfold tollF
  rw [pk_sub hx, pk_sub hy]
  generalize hi - x = a
  generalize hi - y = b
  have key : nI sh * (nI a - nI b) * (nI a - nI b) = nI (sh * (a - b + (b - a)) * (a - b + (b - a))) := by
    by_cases h : b ≤ a
    · rw [pk_sub h, show b - a = 0 by omega, Nat.add_zero, pk_mul, pk_mul]
    · have e : nI a - nI b = -(nI (b - a)) := by rw [← pk_sub (show a ≤ b by omega), Int32.neg_sub]
      rw [e, show a - b = 0 by omega, Nat.zero_add, Int32.mul_neg, Int32.mul_neg, Int32.neg_mul, Int32.neg_neg, pk_mul, pk_mul]
  rw [key, pk_mul, pk_mul, nI_add, nI_add]
theorem s_setTolls {n hi sh : Nat} {kf : Nat → Nat} {f : Nat → Nat → Int32} (hhi : f 89 6 = nI hi) (h12 : hi ≤ 12) (h9 : sh ≤ 9) :
    ∃ f2, Run n_X2_setTolls 110 0 (ini n_X2_setTolls [.ref 89, .int (nI sh)]) [] (HH n kf f) (Ret none (HH n kf f2)) ∧ (∀ x y, x ≤ hi → y ≤ hi → f2 90 (x * 13 + y) = nI (tollF hi sh x y)) ∧ ∀ c, c ≠ 90 → f2 c = f c := by
  have hT : mT n_X2_setTolls = tb_X2_setTolls := rfl
  have inner : ∀ x, x ≤ hi → ∀ dd y : Nat, y + dd = hi + 1 → ∀ F : Nat → Nat → Int32, (∀ c, c ≠ 90 → F c = f c) → (∀ a b, a < x → b ≤ hi → F 90 (a * 13 + b) = nI (tollF hi sh a b)) → (∀ b, b < y → F 90 (x * 13 + b) = nI (tollF hi sh x b)) →
      ∃ F2 : Nat → Nat → Int32, (∀ c, c ≠ 90 → F2 c = f c) ∧ (∀ a b, a < x + 1 → b ≤ hi → F2 90 (a * 13 + b) = nI (tollF hi sh a b)) ∧ ∀ Φ, Run n_X2_setTolls 110 79 [some (.ref 89), some (.int (nI sh)), some (.int (nI x)), none, none, none, none] [] (HH n kf F2) Φ →
      Run n_X2_setTolls 110 17 [some (.ref 89), some (.int (nI sh)), some (.int (nI x)), some (.int (nI y)), none, none, none] [.int (nI hi), .int (nI y)] (HH n kf F) Φ := by
    intro x hx dd
    induction dd with
    | zero =>
      intro y hy F hF ha hb
      refine ⟨F, hF, fun a b h1 h2 => ?_, fun Φ hΦ => ?_⟩
      · by_cases hax : a = x
        · subst hax; exact hb b (by omega)
        · exact ha a b (by omega) h2
      · refine g_cmp hT rfl (fun cq => ?_) (fun cq => ?_)
        · exact v_cv hΦ ⟨rfl, rfl, rfl, trivial⟩ rfl rfl
        · exact absurd ((cj_gt (by omega) (by omega)).mpr (by omega)) cq
    | succ dd ih =>
      intro y hy F hF ha hb
      have hh : F 89 6 = nI hi := by rw [hF 89 (by omega)]; exact hhi
      obtain ⟨F2, q1, q2, q3⟩ := ih (y + 1) (by omega) (hset F 90 (x * 13 + y) (nI (tollF hi sh x y))) (fun c hc => by rw [hset_ne hc]; exact hF c hc) (fun a b h1 h2 => by
          rw [hs_s]; simp only [upd, if_neg (show a * 13 + b ≠ x * 13 + y by omega)]; exact ha a b h1 h2) (fun b h1 => by
          rw [hs_s]
          by_cases hby : b = y
          · subst hby; simp [upd]
          · simp only [upd, if_neg (show x * 13 + b ≠ x * 13 + y by omega)]; exact hb b (by omega))
      refine ⟨F2, q1, q2, fun Φ hΦ => ?_⟩
      refine g_cmp hT rfl (fun cq => ?_) (fun cq => ?_)
      · exact absurd ((cj_gt (by omega) (by omega)).mp cq) (by omega)
      · repeat (first | refine v_p hT rfl rfl ?_ | refine v_getr hT rfl rfl (by omega) rfl ?_ | refine v_geti hT rfl (by first | rfl | assumption) (by omega) ?_ | refine v_ald hT rfl (by first | assumption | rfl) (by omega) (by decide) (by omega) ?_ | simp only [nI_add, pk_mul, hh])
        rw [toll_i hx (show y ≤ hi by omega)]
        refine v_ast hT rfl rfl (by omega) (by decide) (by omega) ?_
        refine v_p hT rfl rfl ?_
        refine v_geti hT rfl rfl (by omega) ?_
        rw [hset_ne (by omega), hh]
        refine v_cv (q3 Φ hΦ) ⟨rfl, rfl, rfl, ?_, trivial⟩ ?_ rfl
        · rw [nI_add]
        · rw [nI_add]
  have outer : ∀ dd x : Nat, x + dd = hi + 1 → ∀ F : Nat → Nat → Int32, (∀ c, c ≠ 90 → F c = f c) → (∀ a b, a < x → b ≤ hi → F 90 (a * 13 + b) = nI (tollF hi sh a b)) →
      ∃ f2, Run n_X2_setTolls 110 7 [some (.ref 89), some (.int (nI sh)), some (.int (nI x)), none, none, none, none] [.int (nI hi), .int (nI x)] (HH n kf F) (Ret none (HH n kf f2)) ∧ (∀ x y, x ≤ hi → y ≤ hi → f2 90 (x * 13 + y) = nI (tollF hi sh x y)) ∧ ∀ c, c ≠ 90 → f2 c = f c := by
    intro dd
    induction dd with
    | zero =>
      intro x hx F hF ha
      refine ⟨F, ?_, fun a b h1 h2 => ha a b (by omega) h2, hF⟩
      refine g_cmp hT rfl (fun cq => ?_) (fun cq => ?_)
      · refine v_vret hT rfl rfl ⟨rfl, rfl⟩
      · exact absurd ((cj_gt (by omega) (by omega)).mpr (by omega)) cq
    | succ dd ih =>
      intro x hx F hF ha
      have hh : F 89 6 = nI hi := by rw [hF 89 (by omega)]; exact hhi
      obtain ⟨F2, q1, q2, q3⟩ := inner x (by omega) (hi + 1) 0 (by omega) F hF ha (fun b hb => by omega)
      obtain ⟨f2, r1, r2⟩ := ih (x + 1) (by omega) F2 q1 q2
      refine ⟨f2, ?_, r2⟩
      refine g_cmp hT rfl (fun cq => ?_) (fun cq => ?_)
      · exact absurd ((cj_gt (by omega) (by omega)).mp cq) (by omega)
      · repeat (first | refine v_p hT rfl rfl ?_ | refine v_getr hT rfl rfl (by omega) rfl ?_ | refine v_geti hT rfl (by first | rfl | assumption) (by omega) ?_ | refine v_ald hT rfl (by first | assumption | rfl) (by omega) (by decide) (by omega) ?_ | simp only [nI_add, pk_mul, hh])
        refine v_cv (q3 _ ?_) ⟨rfl, rfl, rfl, rfl, trivial⟩ rfl rfl
        refine v_p hT rfl rfl ?_
        refine v_geti hT rfl rfl (by omega) ?_
        rw [q1 89 (by omega), hhi]
        refine v_cv r1 ⟨rfl, rfl, ?_, trivial⟩ ?_ rfl
        · rw [nI_add]
        · rw [nI_add]
  obtain ⟨f2, r1, r2⟩ := outer (hi + 1) 0 (by omega) f (fun _ _ => rfl) (fun a b h => by omega)
  refine ⟨f2, ?_, r2⟩
  repeat (first | refine v_p hT rfl rfl ?_ | refine v_getr hT rfl rfl (by omega) rfl ?_ | refine v_geti hT rfl (by first | rfl | assumption) (by omega) ?_ | refine v_ald hT rfl (by first | assumption | rfl) (by omega) (by decide) (by omega) ?_ | simp only [nI_add, pk_mul, hhi])
  exact r1
/-! masks -/
def mkB (p : Nat → Bool) : Nat → Nat
  | 0 => 0
  | j + 1 => mkB p j + (if p j = true then 2 ^ j else 0)
theorem mkB_lt (p : Nat → Bool) : ∀ j, mkB p j < 2 ^ j := by
  intro j
  induction j with
  | zero => exact Nat.one_pos
  | succ j ih =>
    have h1 : 2 ^ (j + 1) = 2 ^ j + 2 ^ j := by rw [Nat.pow_succ]; omega
    show mkB p j + _ < _
    split <;> omega
theorem mkB_bit (p : Nat → Bool) : ∀ n j, j < n → (mkB p n).testBit j = p j := by
  intro n
  induction n with
  | zero => intro j hj; omega
  | succ n ih =>
    intro j hj
    have hl := mkB_lt p n
    cases hc : p n with
    | true =>
      have e : mkB p (n + 1) = 2 ^ n + mkB p n := by
        show mkB p n + _ = _
        rw [hc]
        simp only [if_pos]
        omega
      rw [e]
      by_cases hjn : j = n
      · subst hjn
        rw [Nat.testBit_two_pow_add_eq, Nat.testBit_lt_two_pow hl, hc]
        rfl
      · rw [Nat.testBit_two_pow_add_gt (by omega), ih j (by omega)]
    | false =>
      have e : mkB p (n + 1) = mkB p n := by
        show mkB p n + _ = _
        rw [hc]
        rfl
      rw [e]
      by_cases hjn : j = n
      · subst hjn; rw [Nat.testBit_lt_two_pow hl, hc]
      · exact ih j (by omega)
theorem mkB_eq {p q : Nat → Bool} {n : Nat} : mkB p n = mkB q n ↔ ∀ t, t < n → p t = q t := by
  constructor
  · intro h t ht
    rw [← mkB_bit p n t ht, ← mkB_bit q n t ht, h]
  · intro h
    induction n with
    | zero => rfl
    | succ n ih =>
      show mkB p n + _ = mkB q n + _
      rw [ih (fun t ht => h t (by omega)), h n (by omega)]
theorem mkB_or {p : Nat → Bool} {n : Nat} (h : p n = true) : mkB p n ||| 2 ^ n = mkB p (n + 1) := by
  rw [Nat.or_comm]
  have h1 := Nat.two_pow_add_eq_or_of_lt (mkB_lt p n) 1
  rw [Nat.mul_one] at h1
  rw [← h1]
  show _ = mkB p n + _
  rw [if_pos h]
  omega
theorem mkB_no {p : Nat → Bool} {n : Nat} (h : p n = false) : mkB p (n + 1) = mkB p n := by
  show mkB p n + _ = _
  rw [h]
  rfl
/-- which kept ties have begun ahead of break b: fa i the first line of tie i's paragraph -/
def bgB (kept : Nat) (fa : Nat → Nat) (b i : Nat) : Bool := kept.testBit i && decide (fa i < b)
theorem s_markBegun {n q e o tot kept : Nat} {kf : Nat → Nat} {f : Nat → Nat → Int32} {fa pa : Nat → Nat} (hq : q = 92 ∨ q = 93) (hke : kd e = (1, 10)) (hel : e < 75) (ho : isLn o) (htot : f o 2 = nI tot) (h60 : tot ≤ 60) (hk : kept < 1024) (hpa : ∀ i, i < 10 → kept.testBit i = true → f e i = nI (pa i) ∧ pa i < 9 ∧ f (o + 1) (pa i) = nI (fa i) ∧ fa i < 1000) :
    ∃ f2, Run n_X2_markBegun 110 0 (ini n_X2_markBegun [.ref q, .ref e, .ref o, .int (nI kept)]) [] (HH n kf f) (Ret none (HH n kf f2)) ∧ (∀ b, b ≤ tot → f2 q b = nI (mkB (bgB kept fa b) 10)) ∧ ∀ c, c ≠ q → f2 c = f c := by
  have hT : mT n_X2_markBegun = tb_X2_markBegun := rfl
  obtain ⟨l0, l1, l2⟩ := ln_kd ho
  have hlo := ln_lt ho
  have kq : kd q = (1, 61) := by rcases hq with rfl | rfl <;> decide
  have hq2 : q < 110 := by rcases hq with rfl | rfl <;> omega
  have hqo : 91 < q := by rcases hq with rfl | rfl <;> omega
  have inner : ∀ b, b ≤ tot → ∀ dd i : Nat, i + dd = 10 → ∀ F : Nat → Nat → Int32, (∀ c, c ≠ q → F c = f c) → F q b = nI (mkB (bgB kept fa b) i) →
      ∃ F2 : Nat → Nat → Int32, (∀ c, c ≠ q → F2 c = f c) ∧ F2 q b = nI (mkB (bgB kept fa b) 10) ∧ (∀ x, x ≠ b → F2 q x = F q x) ∧ ∀ Φ, Run n_X2_markBegun 110 68 [some (.ref q), some (.ref e), some (.ref o), some (.int (nI kept)), some (.int (nI b)), none] [] (HH n kf F2) Φ →
      Run n_X2_markBegun 110 24 [some (.ref q), some (.ref e), some (.ref o), some (.int (nI kept)), some (.int (nI b)), some (.int (nI i))] [.int (nI 10), .int (nI i)] (HH n kf F) Φ := by
    intro b hb dd
    induction dd with
    | zero =>
      intro i hi F hF hv
      obtain rfl : i = 10 := by omega
      refine ⟨F, hF, hv, fun _ _ => rfl, fun Φ hΦ => ?_⟩
      refine g_cmp hT rfl (fun cq => ?_) (fun cq => ?_)
      · exact v_cv hΦ ⟨rfl, rfl, rfl, rfl, rfl, trivial⟩ rfl rfl
      · exact absurd ((cj_ge (by omega) (by omega)).mpr (by omega)) cq
    | succ dd ih =>
      intro i hi F hF hv
      cases hp : bgB kept fa b i with
      | false =>
        obtain ⟨F2, q1, q2, q3, q4⟩ := ih (i + 1) (by omega) F hF (by rw [mkB_no hp]; exact hv)
        refine ⟨F2, q1, q2, q3, fun Φ hΦ => ?_⟩
        have back : Run n_X2_markBegun 110 62 [some (.ref q), some (.ref e), some (.ref o), some (.int (nI kept)), some (.int (nI b)), some (.int (nI i))] [] (HH n kf F) Φ := by
          refine v_p hT rfl rfl ?_
          refine v_cv (q4 Φ hΦ) ⟨rfl, rfl, rfl, rfl, rfl, ?_, trivial⟩ ?_ rfl
          · rw [nI_add]
          · rw [nI_add]
        refine g_cmp hT rfl (fun cq => ?_) (fun cq => ?_)
        · exact absurd ((cj_ge (by omega) (by omega)).mp cq) (by omega)
        · refine v_p hT rfl rfl ?_
          refine g_cmp hT rfl (fun cq2 => ?_) (fun cq2 => ?_)
          · exact back
          · have cq2 : kept.testBit i = true := Classical.byContradiction (fun z => cq2 ((tb_nI (by omega) (by omega)).mpr z))
            obtain ⟨a1, a2, a3, a4⟩ := hpa i (by omega) cq2
            have hge : b ≤ fa i := by
              unfold bgB at hp
              rw [cq2] at hp
              simpa using hp
            refine v_p hT rfl rfl ?_
            refine v_getr hT rfl l0 (by omega) (ln_rr ho n kf).1 ?_
            refine v_p hT rfl rfl ?_
            refine v_ald hT rfl hke (by omega) (by decide) (by omega) ?_
            rw [hF e (by omega), a1]
            refine v_ald hT rfl l1 (by omega) (by decide) (by omega) ?_
            rw [hF (o + 1) (by omega), a3]
            refine v_p hT rfl rfl ?_
            refine g_cmp hT rfl (fun cq3 => ?_) (fun cq3 => ?_)
            · exact back
            · exact absurd ((cj_ge (by omega) (by omega)).mpr hge) cq3
      | true =>
        obtain ⟨F2, q1, q2, q3, q4⟩ := ih (i + 1) (by omega) (hset F q b (nI (mkB (bgB kept fa b) (i + 1)))) (fun c hc => by rw [hset_ne hc]; exact hF c hc) (by rw [hs_s]; simp [upd])
        refine ⟨F2, q1, q2, fun x hx => by rw [q3 x hx, hs_s]; simp [upd, hx], fun Φ hΦ => ?_⟩
        have hp2 : kept.testBit i = true ∧ fa i < b := by
          unfold bgB at hp
          simpa using hp
        obtain ⟨a1, a2, a3, a4⟩ := hpa i (by omega) hp2.1
        refine g_cmp hT rfl (fun cq => ?_) (fun cq => ?_)
        · exact absurd ((cj_ge (by omega) (by omega)).mp cq) (by omega)
        · refine v_p hT rfl rfl ?_
          refine g_cmp hT rfl (fun cq2 => ?_) (fun cq2 => ?_)
          · exact absurd hp2.1 ((tb_nI (by omega) (by omega)).mp cq2)
          · refine v_p hT rfl rfl ?_
            refine v_getr hT rfl l0 (by omega) (ln_rr ho n kf).1 ?_
            refine v_p hT rfl rfl ?_
            refine v_ald hT rfl hke (by omega) (by decide) (by omega) ?_
            rw [hF e (by omega), a1]
            refine v_ald hT rfl l1 (by omega) (by decide) (by omega) ?_
            rw [hF (o + 1) (by omega), a3]
            refine v_p hT rfl rfl ?_
            refine g_cmp hT rfl (fun cq3 => ?_) (fun cq3 => ?_)
            · exact absurd ((cj_ge (by omega) (by omega)).mp cq3) (by omega)
            · refine v_p hT rfl rfl ?_
              refine v_ald hT rfl kq hq2 (by decide) (by omega) ?_
              rw [hv]
              refine v_p hT rfl rfl ?_
              rw [pow_at (by omega), nI_or, mkB_or hp]
              refine v_ast hT rfl kq hq2 (by decide) (by omega) ?_
              refine v_p hT rfl rfl ?_
              refine v_cv (q4 Φ hΦ) ⟨rfl, rfl, rfl, rfl, rfl, ?_, trivial⟩ ?_ rfl
              · rw [nI_add]
              · rw [nI_add]
  have outer : ∀ dd b : Nat, b + dd = tot + 1 → ∀ F : Nat → Nat → Int32, (∀ c, c ≠ q → F c = f c) → (∀ x, x < b → F q x = nI (mkB (bgB kept fa x) 10)) →
      ∃ f2, Run n_X2_markBegun 110 9 [some (.ref q), some (.ref e), some (.ref o), some (.int (nI kept)), some (.int (nI b)), none] [.int (nI tot), .int (nI b)] (HH n kf F) (Ret none (HH n kf f2)) ∧ (∀ b, b ≤ tot → f2 q b = nI (mkB (bgB kept fa b) 10)) ∧ ∀ c, c ≠ q → f2 c = f c := by
    intro dd
    induction dd with
    | zero =>
      intro b hb F hF hx
      refine ⟨F, ?_, fun x h1 => hx x (by omega), hF⟩
      refine g_cmp hT rfl (fun cq => ?_) (fun cq => ?_)
      · refine v_vret hT rfl rfl ⟨rfl, rfl⟩
      · exact absurd ((cj_gt (by omega) (by omega)).mpr (by omega)) cq
    | succ dd ih =>
      intro b hb F hF hx
      obtain ⟨F2, q1, q2, q3, q4⟩ := inner b (by omega) 10 0 (by omega) (hset F q b (nI 0)) (fun c hc => by rw [hset_ne hc]; exact hF c hc) (by rw [hs_s]; simp [upd, mkB])
      obtain ⟨f2, r1, r2⟩ := ih (b + 1) (by omega) F2 q1 (fun x hxb => by
        by_cases hxe : x = b
        · subst hxe; exact q2
        · rw [q3 x hxe, hs_s]; simp only [upd, if_neg hxe]; exact hx x (by omega))
      refine ⟨f2, ?_, r2⟩
      refine g_cmp hT rfl (fun cq => ?_) (fun cq => ?_)
      · exact absurd ((cj_gt (by omega) (by omega)).mp cq) (by omega)
      · refine v_p hT rfl rfl ?_
        refine v_ast hT rfl kq hq2 (by decide) (by omega) ?_
        refine v_p hT rfl rfl ?_
        refine v_cv (q4 _ ?_) ⟨rfl, rfl, rfl, rfl, rfl, rfl, trivial⟩ rfl rfl
        refine v_p hT rfl rfl ?_
        refine v_geti hT rfl l0 (by omega) ?_
        rw [q1 o (by omega), htot]
        refine v_cv r1 ⟨rfl, rfl, rfl, rfl, ?_, trivial⟩ ?_ rfl
        · rw [nI_add]
        · rw [nI_add]
  obtain ⟨f2, r1, r2⟩ := outer (tot + 1) 0 (by omega) f (fun _ _ => rfl) (fun x hx => by omega)
  refine ⟨f2, ?_, r2⟩
  refine v_p hT rfl rfl ?_
  refine v_geti hT rfl l0 (by omega) ?_
  rw [htot]
  exact r1
