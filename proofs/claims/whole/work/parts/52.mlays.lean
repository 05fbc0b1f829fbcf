/-! THE REFERENCE: its layout. -/
def htF (B : BK) (a b k : Nat) : Prop := k / 13 ≤ min (bSe B 0) (totF B 0 - a) ∧ k % 13 ≤ min (bSe B 0) (totF B 1 - b) ∧ 0 < k / 13 + k % 13 ∧ byF (lyP B) (rkF (lyP B)) a b (k / 13) (k % 13) = rkF (lyP B) a b
def moR (B : BK) (a b k : Nat) (v : Int32) : Prop := (v = mI 1 ∧ ∀ j, j < k → ¬ htF B a b j) ∨ ∃ t, t < k ∧ v = nI t ∧ htF B a b t ∧ ∀ j, t < j → j < k → ¬ htF B a b j
theorem mo_no {B : BK} {a b k : Nat} {v : Int32} (h : moR B a b k v) (hk : ¬ htF B a b k) : moR B a b (k + 1) v := by
  rcases h with ⟨h1, h2⟩ | ⟨t, h1, h2, h3, h4⟩
  · refine Or.inl ⟨h1, fun j hj => ?_⟩
    by_cases e : j = k
    · subst e; exact hk
    · exact h2 j (by omega)
  · refine Or.inr ⟨t, by omega, h2, h3, fun j j1 j2 => ?_⟩
    by_cases e : j = k
    · subst e; exact hk
    · exact h4 j j1 (by omega)
theorem mo_yes {B : BK} {a b k : Nat} (hk : htF B a b k) : moR B a b (k + 1) (nI k) := Or.inr ⟨k, by omega, rfl, hk, fun j j1 j2 => by omega⟩
theorem mo_end {B : BK} (hV : VB B) {a b px py : Nat} {v : Int32} (h : moR B a b 169 v) (hp : isPk (lyP B) a b px py) : v = nI (13 * px + py) ∧ px ≤ 12 ∧ py ≤ 12 := by
  have hs0 : bSe B 0 ≤ 12 := hV.1.2.2.2.1.1.2
  obtain ⟨p1, p2, p3, p4, p5⟩ := id hp
  have p1 : px ≤ min (bSe B 0) (totF B 0 - a) := p1
  have p2 : py ≤ min (bSe B 0) (totF B 1 - b) := p2
  have d1 : (13 * px + py) / 13 = px := by omega
  have d2 : (13 * px + py) % 13 = py := by omega
  have hh : htF B a b (13 * px + py) := by
    unfold htF
    rw [d1, d2]
    exact ⟨p1, p2, p3, p4⟩
  rcases h with ⟨_, h2⟩ | ⟨t, h1, h2, h3, h4⟩
  · exact absurd hh (h2 _ (by omega))
  · refine ⟨?_, by omega, by omega⟩
    rw [h2]
    congr 1
    have q1 := p5 (t / 13) (t % 13) h3.1 h3.2.1 h3.2.2.1 h3.2.2.2
    by_cases e : t < 13 * px + py
    · exact absurd hh (h4 _ e (by omega))
    · omega
theorem m_follows {n : Nat} {kf : Nat → Nat} {f : Nat → Nat → Int32} {B : BK} (hM : MC f B) (hV : VB B) (hC : ∀ p q, p ≤ totF B 0 → q ≤ totF B 1 → ckR (f 105) (f 106) B p q) (hr0 : rkF (lyP B) 0 0 ≠ nvr) :
    ∃ F, Run n_X7_follows 110 0 (ini n_X7_follows [.ref 98]) [] (HH n kf f) (Ret none (HH n kf F)) ∧ F 98 11 = nI (opN (lyP B)) ∧ (∀ i, i ≠ 11 → F 98 i = f 98 i) ∧ (∀ k, k < opN (lyP B) → F 107 k = nI ((posF (lyP B) (k + 1)).1 - (posF (lyP B) k).1) ∧ F 108 k = nI ((posF (lyP B) (k + 1)).2 - (posF (lyP B) k).2)) ∧ ∀ c, c ≠ 98 → c ≠ 107 → c ≠ 108 → F c = f c := by
  have hT : mT n_X7_follows = tb_X7_follows := rfl
  have e1 : nvr = 1073741824 := rfl
  have h10 := hV.1.2.2.2.2.1
  have hs0 : bSe B 0 ≤ 12 := hV.1.2.2.2.1.1.2
  have hPb := lyP_bd hV
  have t0 := hV.2 0 (by omega)
  have t1 := hV.2 1 (by omega)
  have h2 : f 100 2 = nI (bSe B 0) := hM.1.2.1 0 (by omega)
  have hop : opN (lyP B) = rkF (lyP B) 0 0 % 128 := by unfold opN; rw [decide_eq_false hr0]; rfl
  have hole := opN_le hPb
  have loop : ∀ d k, k + d = opN (lyP B) → okF B (posF (lyP B) k).1 (posF (lyP B) k).2 = true → ∀ F : Nat → Nat → Int32, F 98 11 = nI k → (∀ i, i ≠ 11 → F 98 i = f 98 i) → (∀ j, j < k → F 107 j = nI ((posF (lyP B) (j + 1)).1 - (posF (lyP B) j).1) ∧ F 108 j = nI ((posF (lyP B) (j + 1)).2 - (posF (lyP B) j).2)) → (∀ c, c ≠ 98 → c ≠ 107 → c ≠ 108 → F c = f c) →
      ∃ F2, Run n_X7_follows 110 12 [some (.ref 98), some (.int (nI (posF (lyP B) k).1)), some (.int (nI (posF (lyP B) k).2)), none, none, none, none, none, none] [.int (nI 0), .ref 98, .int (nI (posF (lyP B) k).1)] (HH n kf F) (Ret none (HH n kf F2)) ∧ F2 98 11 = nI (opN (lyP B)) ∧ (∀ i, i ≠ 11 → F2 98 i = f 98 i) ∧ (∀ k, k < opN (lyP B) → F2 107 k = nI ((posF (lyP B) (k + 1)).1 - (posF (lyP B) k).1) ∧ F2 108 k = nI ((posF (lyP B) (k + 1)).2 - (posF (lyP B) k).2)) ∧ ∀ c, c ≠ 98 → c ≠ 107 → c ≠ 108 → F2 c = f c := by
    intro d
    induction d with
    | zero =>
      intro k hk _ F h11 hi ht hF
      have hMF : MC F B := MC_fr hM (hi 6 (by omega)) (fun c hc => hF c (by omega) (by omega) (by omega))
      obtain rfl : k = opN (lyP B) := by omega
      obtain ⟨q1, q2⟩ := pos_end hPb hr0
      rw [← hop] at q1 q2
      have q1 : (posF (lyP B) (opN (lyP B))).1 = totF B 0 := q1
      have q2 : (posF (lyP B) (opN (lyP B))).2 = totF B 1 := q2
      refine ⟨F, ?_, h11, hi, ht, hF⟩
      rw [q1, q2]
      refine v_call hT [.int (nI 0)] rfl rfl (by first | rfl | assumption) (by omega) rfl rfl (Nat.le_of_ble_eq_true rfl) (Nat.le_of_ble_eq_true rfl) (m_all hMF hV (by omega)) ?_
      refine g_cmp hT rfl (fun cq => ?_) (fun cq => ?_)
      · exact absurd ((cj_lt (by omega) (by omega)).mp cq) (by omega)
      · refine v_p hT rfl rfl ?_
        refine v_call hT [.int (nI 1)] rfl rfl (by first | rfl | assumption) (by omega) rfl rfl (Nat.le_of_ble_eq_true rfl) (Nat.le_of_ble_eq_true rfl) (m_all hMF hV (by omega)) ?_
        refine g_cmp hT rfl (fun cq2 => ?_) (fun cq2 => ?_)
        · refine v_vret hT rfl rfl ⟨rfl, rfl⟩
        · exact absurd ((cj_ge (by omega) (by omega)).mpr (by omega)) cq2
    | succ d ih =>
      intro k hk hokk F h11 hi ht hF
      have hMF : MC F B := MC_fr hM (hi 6 (by omega)) (fun c hc => hF c (by omega) (by omega) (by omega))
      have hF2 : F 100 2 = nI (bSe B 0) := by rw [hF 100 (by omega) (by omega) (by omega)]; exact h2
      have hko : k < opN (lyP B) := by omega
      have hpk := pos_pk hPb hr0 (show k < rkF (lyP B) 0 0 % 128 by omega)
      obtain ⟨o1, o2, o3, o4⟩ := pos_ok hPb hr0 k (by omega)
      have hpos : posF (lyP B) (k + 1) = ((posF (lyP B) k).1 + (pkF (lyP B) (posF (lyP B) k).1 (posF (lyP B) k).2).1, (posF (lyP B) k).2 + (pkF (lyP B) (posF (lyP B) k).1 (posF (lyP B) k).2).2) := rfl
      have ht' := ht
      generalize hA : (posF (lyP B) k).1 = A at hpk o1 o3 o4 hokk hpos
      generalize hB2 : (posF (lyP B) k).2 = D at hpk o2 o3 o4 hokk hpos
      generalize hpx : (pkF (lyP B) A D).1 = px at hpk hpos
      generalize hpy : (pkF (lyP B) A D).2 = py at hpk hpos
      have o1 : A ≤ totF B 0 := o1
      have o2 : D ≤ totF B 1 := o2
      obtain ⟨s1, s2, s3, s4⟩ := rk_step hPb o1 o2 o3 hpk
      have s1 : A + px ≤ totF B 0 := s1
      have s2 : D + py ≤ totF B 1 := s2
      have hne : ¬ (A = totF B 0 ∧ D = totF B 1) := by
        intro z
        have h9 := rkF_end (lyP B)
        have h9 : rkF (lyP B) (totF B 0) (totF B 1) = 0 := h9
        rw [z.1, z.2, h9] at s4
        omega
      have hCF : ∀ p q, A ≤ p → p ≤ totF B 0 → D ≤ q → q ≤ totF B 1 → A + D < p + q → ckR (F 105) (F 106) B p q := fun p q _ x1 _ x2 _ => by rw [hF 105 (by omega) (by omega) (by omega), hF 106 (by omega) (by omega) (by omega)]; exact hC p q x1 x2
      have hhere := (by have := hC A D o1 o2 hokk; rw [← hF 105 (by omega) (by omega) (by omega), ← hF 106 (by omega) (by omega) (by omega)] at this; exact this : (rkF (lyP B) A D = nvr ∧ F 105 (61 * A + D) = nI farN) ∨ (rkF (lyP B) A D ≠ nvr ∧ F 105 (61 * A + D) = nI (rkF (lyP B) A D / 128) ∧ F 106 (61 * A + D) = nI (rkF (lyP B) A D % 128)))
      have hhere : F 105 (61 * A + D) = nI (rkF (lyP B) A D / 128) ∧ F 106 (61 * A + D) = nI (rkF (lyP B) A D % 128) := hhere.elim (fun z => absurd z.1 o3) (fun z => z.2)
      have hRl : rkF (lyP B) A D < 30000000 := (rkF_lt hPb.1 hPb.2.1 hPb.2.2.1 hPb.2.2.2 (i := A) (j := D) o1 o2).elim (fun z => absurd z o3) (fun z => z.2)
      have hokn : okF B (A + px) (D + py) = true := by
        cases hz : okF B (A + px) (D + py) with
        | true => rfl
        | false =>
          exfalso
          refine s3 (rkF_no (P := lyP B) s1 s2 (fun z => ?_) (fun z => ?_))
          · have z1 : A + px = totF B 0 := z.1
            have z2 : D + py = totF B 1 := z.2
            rw [z1, z2, okF_end hV.1] at hz
            cases hz
          · have z : okF B (A + px) (D + py) = true := z
            rw [hz] at z; cases z
      obtain ⟨F2, r1, r2⟩ := ih (k + 1) (by omega) (by rw [hpos]; exact hokn) (hset (hset (hset F 107 k (nI px)) 108 k (nI py)) 98 11 (nI (k + 1))) (by rw [hs_s]; exact pk_us) (fun i hi2 => by rw [hs_s, pk_un hi2, hset_ne (by omega), hset_ne (by omega)]; exact hi i hi2) (fun j hj => by
          rw [hset_ne (show (107 : Nat) ≠ 98 by omega), hset_ne (show (107 : Nat) ≠ 108 by omega), hset_ne (show (108 : Nat) ≠ 98 by omega), hs_s, hs_s, hset_ne (show (108 : Nat) ≠ 107 by omega)]
          by_cases e : j = k
          · rw [e, pk_us, pk_us, hpos, hA, hB2]
            exact ⟨by congr 1; omega, by congr 1; omega⟩
          · rw [pk_un e, pk_un e]
            exact ht' j (by omega)) (fun c c1 c2 c3 => by rw [hset_ne c1, hset_ne c3, hset_ne c2]; exact hF c c1 c2 c3)
      rw [hpos] at r1
      refine ⟨F2, ?_, r2⟩
      have kl : ∀ e q, q + e = 169 → ∀ v : Int32, moR B A D q v → Run n_X7_follows 110 45 [some (.ref 98), some (.int (nI A)), some (.int (nI D)), some (.int (nI (61 * A + D))), some (.int v), some (.int (nI q)), none, none, none] [.int (nI 169), .int (nI q)] (HH n kf F) (Ret none (HH n kf F2)) := by
        intro e
        induction e with
        | zero =>
          intro q hq v hv
          obtain rfl : q = 169 := by omega
          obtain ⟨v1, v2, v3⟩ := mo_end hV hv hpk
          subst v1
          have d1 : (13 * px + py) / 13 = px := by omega
          have d2 : (13 * px + py) % 13 = py := by omega
          refine g_cmp hT rfl (fun cq => ?_) (fun cq => ?_)
          · refine v_p hT rfl rfl ?_
            refine v_getr hT rfl rfl (by omega) rfl ?_
            refine v_p hT rfl rfl ?_
            refine v_geti hT rfl (by first | rfl | assumption) (by omega) ?_
            rw [h11]
            refine v_p hT rfl rfl ?_
            refine g_divN hT rfl (by omega) (by omega) (by omega) ?_
            rw [d1]
            refine v_ast hT rfl rfl (by omega) (by decide) (show k < 121 by omega) ?_
            refine v_p hT rfl rfl ?_
            refine v_getr hT rfl rfl (by omega) rfl ?_
            refine v_p hT rfl rfl ?_
            refine v_geti hT rfl (by first | rfl | assumption) (by omega) ?_
            rw [hset_ne (by omega), h11]
            refine v_p hT rfl rfl ?_
            refine g_remN hT rfl (by omega) (by omega) (by omega) ?_
            rw [d2]
            refine v_ast hT rfl rfl (by omega) (by decide) (show k < 121 by omega) ?_
            refine v_p hT rfl rfl ?_
            refine g_divN hT rfl (by omega) (by omega) (by omega) ?_
            rw [d1]
            refine v_p hT rfl rfl ?_
            refine g_remN hT rfl (by omega) (by omega) (by omega) ?_
            rw [d2]
            refine v_p hT rfl rfl ?_
            refine v_geti hT rfl (by first | rfl | assumption) (by omega) ?_
            rw [hset_ne (by omega), hset_ne (by omega), h11]
            refine v_p hT rfl rfl ?_
            rw [nI_add, nI_add, nI_add]
            refine v_puti hT rfl rfl (by omega) (fun z => by cases z) ?_
            refine v_p hT rfl rfl ?_
            exact v_cv r1 ⟨rfl, rfl, rfl, trivial⟩ rfl rfl
          · exact absurd ((cj_ge (by omega) (by omega)).mpr (by omega)) cq
        | succ e ih2 =>
          intro q hq v hv
          have nx : ∀ (v2 : Int32) (L6 L7 L8 : Option Value), moR B A D (q + 1) v2 → Run n_X7_follows 110 160 [some (.ref 98), some (.int (nI A)), some (.int (nI D)), some (.int (nI (61 * A + D))), some (.int v2), some (.int (nI q)), L6, L7, L8] [] (HH n kf F) (Ret none (HH n kf F2)) := by
            intro v2 L6 L7 L8 hv2
            refine v_p hT rfl rfl ?_
            refine v_cv (ih2 (q + 1) (by omega) v2 hv2) ⟨rfl, rfl, rfl, rfl, rfl, ?_, trivial⟩ ?_ rfl
            · rw [nI_add]
            · rw [nI_add]
          have no : (¬ htF B A D q) → Run n_X7_follows 110 101 [some (.ref 98), some (.int (nI A)), some (.int (nI D)), some (.int (nI (61 * A + D))), some (.int v), some (.int (nI q)), some (.int (nI (q / 13))), some (.int (nI (q % 13))), none] [] (HH n kf F) (Ret none (HH n kf F2)) := by
            intro hno
            refine v_p hT rfl rfl ?_
            refine g_if hT rfl (fun cz => ?_) (fun cz => ?_)
            · exact nx v _ _ _ (mo_no hv hno)
            · exact absurd rfl cz
          have hq13 : q / 13 ≤ 12 := by omega
          refine g_cmp hT rfl (fun cq => ?_) (fun cq => ?_)
          · exact absurd ((cj_ge (by omega) (by omega)).mp cq) (by omega)
          · refine v_p hT rfl rfl ?_
            refine g_divN hT rfl (by omega) (by omega) (by omega) ?_
            refine v_p hT rfl rfl ?_
            refine g_remN hT rfl (by omega) (by omega) (by omega) ?_
            refine v_p hT rfl rfl ?_
            refine v_getr hT rfl rfl (by omega) rfl ?_
            refine v_p hT rfl rfl ?_
            refine v_ald hT rfl (by first | assumption | rfl) (by omega) (by decide) (by omega) ?_
            rw [hF2]
            refine g_cmp hT rfl (fun cq2 => ?_) (fun cq2 => ?_)
            · have cq2 := (cj_gt (by omega) (by omega)).mp cq2
              refine v_fgt (L2 := [some (.ref 98), some (.int (nI A)), some (.int (nI D)), some (.int (nI (61 * A + D))), some (.int v), some (.int (nI q)), some (.int (nI (q / 13))), some (.int (nI (q % 13))), none]) ⟨rfl, rfl, rfl, rfl, rfl, rfl, rfl, rfl, trivial⟩ (no (fun z => ?_))
              have := z.1
              omega
            · have cq2 := (not_congr (cj_gt (by omega) (by omega))).mp cq2
              refine v_p hT rfl rfl ?_
              refine v_getr hT rfl rfl (by omega) rfl ?_
              refine v_p hT rfl rfl ?_
              refine v_ald hT rfl (by first | assumption | rfl) (by omega) (by decide) (by omega) ?_
              rw [hF2]
              refine g_cmp hT rfl (fun cq3 => ?_) (fun cq3 => ?_)
              · have cq3 := (cj_gt (by omega) (by omega)).mp cq3
                refine v_fgt (L2 := [some (.ref 98), some (.int (nI A)), some (.int (nI D)), some (.int (nI (61 * A + D))), some (.int v), some (.int (nI q)), some (.int (nI (q / 13))), some (.int (nI (q % 13))), none]) ⟨rfl, rfl, rfl, rfl, rfl, rfl, rfl, rfl, trivial⟩ (no (fun z => ?_))
                have := z.2.1
                omega
              · have cq3 := (not_congr (cj_gt (by omega) (by omega))).mp cq3
                refine v_p hT rfl rfl ?_
                refine v_call hT [.int (nI A), .int (nI (q / 13)), .int (nI D), .int (nI (q % 13))] rfl rfl (by first | rfl | assumption) (by omega) rfl rfl (Nat.le_of_ble_eq_true rfl) (Nat.le_of_ble_eq_true rfl) (m_canTake hMF hV (by omega) (by omega)) ?_
                cases hcan : canM B (F 105) A (q / 13) D (q % 13) with
                | false =>
                  refine g_if hT rfl (fun cq4 => ?_) (fun cq4 => ?_)
                  · refine v_fgt (L2 := [some (.ref 98), some (.int (nI A)), some (.int (nI D)), some (.int (nI (61 * A + D))), some (.int v), some (.int (nI q)), some (.int (nI (q / 13))), some (.int (nI (q % 13))), none]) ⟨rfl, rfl, rfl, rfl, rfl, rfl, rfl, rfl, trivial⟩ (no (fun z => ?_))
                    have z1 := z.1
                    have z2 := z.2.1
                    have z4 := z.2.2.2
                    rw [can_no hV hokk hCF hcan z.2.2.1 (by omega) (by omega)] at z4
                    exact o3 z4.symm
                  · exact absurd rfl cq4
                | true =>
                  obtain ⟨b0, b1, b2⟩ := canM_b hcan
                  obtain ⟨w1, w2, w3⟩ := can_yes hV o1 o2 hokk (by omega) (by omega) hCF hcan
                  refine g_if hT rfl (fun cq4 => ?_) (fun cq4 => ?_)
                  · exact absurd cq4 (show ¬ (1 : Int32) = 0 by decide)
                  · refine v_p hT rfl rfl ?_
                    refine g_if hT rfl (fun cq5 => ?_) (fun cq5 => ?_)
                    · exact absurd cq5 (show ¬ nI 1 = 0 by decide)
                    · refine v_p hT rfl rfl ?_
                      refine v_call hT [.int (nI A), .int (nI (q / 13)), .int (nI D), .int (nI (q % 13))] rfl rfl (by first | rfl | assumption) (by omega) rfl rfl (Nat.le_of_ble_eq_true rfl) (Nat.le_of_ble_eq_true rfl) (m_costWith hMF hV b1 b2 (by omega) (by omega)) ?_
                      rw [w2]
                      refine v_p hT rfl rfl ?_
                      refine v_getr hT rfl rfl (by omega) rfl ?_
                      refine v_p hT rfl rfl ?_
                      refine v_ald hT rfl rfl (by omega) (by decide) (show 61 * A + D < 3721 by omega) ?_
                      rw [hhere.1]
                      refine g_cmp hT rfl (fun cq6 => ?_) (fun cq6 => ?_)
                      · have cq6 := (cj_ne (by omega) (by omega)).mp cq6
                        refine nx v _ _ _ (mo_no hv (fun z => ?_))
                        have z4 := z.2.2.2
                        rw [z4] at cq6
                        exact cq6 rfl
                      · have cq6 := Classical.byContradiction (fun z => cq6 ((cj_ne (by omega) (by omega)).mpr z))
                        refine v_p hT rfl rfl ?_
                        refine v_getr hT rfl rfl (by omega) rfl ?_
                        refine v_p hT rfl rfl ?_
                        rw [nI_add, pk_mul, nI_add, nI_add]
                        refine v_ald hT rfl rfl (by omega) (by decide) (show 61 * (A + q / 13) + D + q % 13 < 3721 by omega) ?_
                        refine v_p hT rfl rfl ?_
                        rw [w3]
                        refine v_getr hT rfl rfl (by omega) rfl ?_
                        refine v_p hT rfl rfl ?_
                        refine v_ald hT rfl rfl (by omega) (by decide) (show 61 * A + D < 3721 by omega) ?_
                        rw [hhere.2]
                        refine g_cmp hT rfl (fun cq7 => ?_) (fun cq7 => ?_)
                        · have cq7 := (cj_ne (by omega) (by omega)).mp cq7
                          refine nx v _ _ _ (mo_no hv (fun z => ?_))
                          have z4 := z.2.2.2
                          rw [z4] at cq7
                          exact cq7 rfl
                        · have cq7 := Classical.byContradiction (fun z => cq7 ((cj_ne (by omega) (by omega)).mpr z))
                          refine v_p hT rfl rfl ?_
                          refine v_cv (ih2 (q + 1) (by omega) (nI q) (mo_yes ⟨by omega, by omega, b0, by omega⟩)) ⟨rfl, rfl, rfl, rfl, rfl, ?_, trivial⟩ ?_ rfl
                          · rw [nI_add]
                          · rw [nI_add]; rfl
      have start : Run n_X7_follows 110 27 [some (.ref 98), some (.int (nI A)), some (.int (nI D)), none, none, none, none, none, none] [] (HH n kf F) (Ret none (HH n kf F2)) := by
        refine v_p hT rfl rfl ?_
        rw [pk_mul, nI_add]
        exact kl 169 0 (by omega) (mI 1) (Or.inl ⟨rfl, fun j hj => absurd hj (Nat.not_lt_zero _)⟩)
      refine v_call hT [.int (nI 0)] rfl rfl (by first | rfl | assumption) (by omega) rfl rfl (Nat.le_of_ble_eq_true rfl) (Nat.le_of_ble_eq_true rfl) (m_all hMF hV (by omega)) ?_
      refine g_cmp hT rfl (fun cq => ?_) (fun cq => ?_)
      · exact start
      · have cq := (not_congr (cj_lt (by omega) (by omega))).mp cq
        refine v_p hT rfl rfl ?_
        refine v_call hT [.int (nI 1)] rfl rfl (by first | rfl | assumption) (by omega) rfl rfl (Nat.le_of_ble_eq_true rfl) (Nat.le_of_ble_eq_true rfl) (m_all hMF hV (by omega)) ?_
        refine g_cmp hT rfl (fun cq2 => ?_) (fun cq2 => ?_)
        · have cq2 := (cj_ge (by omega) (by omega)).mp cq2
          exact absurd ⟨by omega, by omega⟩ hne
        · exact start
  obtain ⟨F2, r1, r2⟩ := loop (opN (lyP B)) 0 (by omega) (okF_0 h10) (hset f 98 11 (nI 0)) (by rw [hs_s]; exact pk_us) (fun i hi => by rw [hs_s, pk_un hi]) (fun j hj => absurd hj (Nat.not_lt_zero _)) (fun c c1 _ _ => hset_ne c1)
  refine ⟨F2, ?_, r2⟩
  refine v_p hT rfl rfl ?_
  refine v_puti hT rfl rfl (by omega) (fun z => by cases z) ?_
  refine v_p hT rfl rfl ?_
  exact r1
theorem m_lays {n : Nat} {kf : Nat → Nat} {f : Nat → Nat → Int32} {S : ST} (hV : VS S) (hR : RepM f S) :
    ∃ F, Run n_X7_lays 110 0 (ini n_X7_lays [.ref 98]) [] (HH n kf f) (Ret none (HH n kf F)) ∧ RepM F S ∧ knR F S.1 ∧ (∀ c, c < 98 ∨ 110 ≤ c → F c = f c) := by
  have hT : mT n_X7_lays = tb_X7_lays := rfl
  obtain ⟨a1, a2, a3, a4, kn, a5, a6⟩ := id hR
  cases kn with
  | true =>
    refine ⟨f, ?_, hR, a6 rfl, fun _ _ => rfl⟩
    refine v_p hT rfl rfl ?_
    refine v_geti hT rfl (by first | rfl | assumption) (by omega) ?_
    rw [a5]
    refine g_if hT rfl (fun cq => ?_) (fun cq => ?_)
    · exact absurd cq (show ¬ (1 : Int32) = 0 by decide)
    · refine v_vret hT rfl rfl ⟨rfl, rfl⟩
  | false =>
    have hVB := hV.1
    have h10 := hVB.1.2.2.2.2.1
    have hPb := lyP_bd hVB
    have t0 := hVB.2 0 (by omega)
    have t1 := hVB.2 1 (by omega)
    have e1 : nvr = 1073741824 := rfl
    have e2 : farN = 1000000000 := rfl
    obtain ⟨f1, k1, k2, k3, k4⟩ := m_findsKept (n := n) (kf := kf) (f := hset f 98 4 (nI 1)) (B := S.1) (by rw [hset_ne (by omega)]; exact a1) hVB.1
    have hn1 : nowR (f1 100) S.1 := by rw [k4 100 (by omega), hset_ne (by omega)]; exact a1
    obtain ⟨f2, b1, b2, b3, b4, b5, b6⟩ := m_findsBreaks (n := n) (kf := kf) (f := f1) (s := 0) hn1 hVB (by omega)
    have hn2 : nowR (f2 100) S.1 := by rw [b6 100 (by omega) (by omega)]; exact hn1
    obtain ⟨f3, c1, c2, c3, c4, c5, c6⟩ := m_findsBreaks (n := n) (kf := kf) (f := f2) (s := 1) hn2 hVB (by omega)
    have hM : MC f3 S.1 := by
      refine ⟨by rw [c6 100 (by omega) (by omega)]; exact hn2, by rw [c6 98 (by omega) (by omega), b6 98 (by omega) (by omega)]; exact k2, fun s b hs hb => ?_, fun s p hs hp => ?_⟩
      · rcases (show s = 0 ∨ s = 1 by omega) with e | e
        · subst e
          rw [c3 _ (by omega)]
          exact b2 b hb
        · subst e
          exact c2 b hb
      · rcases (show s = 0 ∨ s = 1 by omega) with e | e
        · subst e
          have := hVB.1.1 0 (by omega)
          rw [c5 _ (by omega)]
          exact b4 p hp
        · subst e
          exact c4 p hp
    have h98 : ∀ i, i ≠ 6 → f3 98 i = upd (f 98) 4 (nI 1) i := fun i hi => by rw [c6 98 (by omega) (by omega), b6 98 (by omega) (by omega), k3 i hi, hs_s]
    have hfr : ∀ c, c ≠ 98 → c ≠ 103 → c ≠ 104 → f3 c = f c := fun c x1 x2 x3 => by rw [c6 c x2 x3, b6 c x2 x3, k4 c x1, hset_ne x1]
    have inner : ∀ A, A ≤ totF S.1 0 → ∀ J, J ≤ totF S.1 1 + 1 → ∀ F : Nat → Nat → Int32, (∀ c, c ≠ 105 → c ≠ 106 → F c = f3 c) → (∀ p q, A < p → p ≤ totF S.1 0 → q ≤ totF S.1 1 → ckR (F 105) (F 106) S.1 p q) → (∀ q, J ≤ q → q ≤ totF S.1 1 → ckR (F 105) (F 106) S.1 A q) →
        ∃ F2 : Nat → Nat → Int32, (∀ c, c ≠ 105 → c ≠ 106 → F2 c = f3 c) ∧ (∀ p q, A ≤ p → p ≤ totF S.1 0 → q ≤ totF S.1 1 → ckR (F2 105) (F2 106) S.1 p q) ∧ ∀ Φ, Run n_X7_lays 110 101 [some (.ref 98), some (.int (nI A)), none] [] (HH n kf F2) Φ → Run n_X7_lays 110 44 [some (.ref 98), some (.int (nI A)), some (.int (prI J))] [.int (prI J)] (HH n kf F) Φ := by
      intro A hA J
      induction J with
      | zero =>
        intro _ F hF h1 h2
        refine ⟨F, hF, fun p q x1 x2 x3 => ?_, fun Φ hΦ => ?_⟩
        · by_cases e : p = A
          · subst e; exact h2 q (by omega) x3
          · exact h1 p q (by omega) x2 x3
        · refine g_if hT rfl (fun cq => ?_) (fun cq => ?_)
          · exact v_cv hΦ ⟨rfl, rfl, trivial⟩ rfl rfl
          · exact absurd prI_0 cq
      | succ D ih =>
        intro hD F hF h1 h2
        have hD : D ≤ totF S.1 1 := by omega
        have hMF : MC F S.1 := MC_fr hM (by rw [hF 98 (by omega) (by omega)]) (fun c hc => hF c (by omega) (by omega))
        obtain ⟨G, g1, g2, g3, g4, g5, g6⟩ := m_finds (n := n) (kf := kf) hMF hVB hA hD
        have hMG : MC G S.1 := MC_fr hMF (by rw [g6 98 (by omega) (by omega)]) (fun c hc => g6 c (by omega) (by omega))
        have hafter : ∀ p q, A ≤ p → p ≤ totF S.1 0 → D ≤ q → q ≤ totF S.1 1 → A + D < p + q → ckR (F 105) (F 106) S.1 p q := by
          intro p q x1 x2 x3 x4 x5
          by_cases e : p = A
          · subst e; exact h2 q (by omega) x4
          · exact h1 p q (by omega) x2 x4
        by_cases hend : A = totF S.1 0 ∧ D = totF S.1 1
        · obtain ⟨F2, q1, q2, q3⟩ := ih (by omega) (hset (hset G 105 (61 * A + D) (nI 0)) 106 (61 * A + D) (nI 0)) (fun c x1 x2 => by rw [hset_ne x2, hset_ne x1, g6 c x1 x2]; exact hF c x1 x2) (fun p q x1 x2 x3 => absurd x2 (by omega)) (fun q x1 x2 => by
            obtain rfl : q = D := by omega
            intro _
            right
            have h9 : rkF (lyP S.1) A q = 0 := by rw [hend.1, hend.2]; exact rkF_end (lyP S.1)
            rw [h9]
            refine ⟨by omega, ?_, ?_⟩
            · rw [hset_ne (by omega), hs_s]; exact pk_us
            · rw [hs_s]; exact pk_us)
          refine ⟨F2, q1, q2, fun Φ hΦ => ?_⟩
          refine g_if hT rfl (fun cq => ?_) (fun cq => ?_)
          · exact absurd cq (prI_ok (show D < 2 ^ 31 by omega))
          · refine v_p hT rfl rfl ?_
            refine v_call hT [.int (nI A), .int (nI D)] rfl rfl (by first | rfl | assumption) (by omega) rfl rfl (Nat.le_of_ble_eq_true rfl) (Nat.le_of_ble_eq_true rfl) (g1) ?_
            refine v_p hT rfl rfl ?_
            refine v_call hT [.int (nI 0)] rfl rfl (by first | rfl | assumption) (by omega) rfl rfl (Nat.le_of_ble_eq_true rfl) (Nat.le_of_ble_eq_true rfl) (m_all hMG hVB (by omega)) ?_
            refine g_cmp hT rfl (fun cq2 => ?_) (fun cq2 => ?_)
            · exact absurd hend.1 ((cj_ne (by omega) (by omega)).mp cq2)
            · refine v_p hT rfl rfl ?_
              refine v_call hT [.int (nI 1)] rfl rfl (by first | rfl | assumption) (by omega) rfl rfl (Nat.le_of_ble_eq_true rfl) (Nat.le_of_ble_eq_true rfl) (m_all hMG hVB (by omega)) ?_
              refine g_cmp hT rfl (fun cq3 => ?_) (fun cq3 => ?_)
              · exact absurd hend.2 ((cj_ne (a := D) (b := totF S.1 1) (by omega) (by omega)).mp cq3)
              · refine v_p hT rfl rfl ?_
                refine v_getr hT rfl rfl (by omega) rfl ?_
                refine v_p hT rfl rfl ?_
                rw [pk_mul, show prI (D + 1) = nI D from rfl, nI_add]
                refine v_ast hT rfl rfl (by omega) (by decide) (show 61 * A + D < 3721 by omega) ?_
                refine v_p hT rfl rfl ?_
                refine v_getr hT rfl rfl (by omega) rfl ?_
                refine v_p hT rfl rfl ?_
                rw [pk_mul, nI_add]
                refine v_ast hT rfl rfl (by omega) (by decide) (show 61 * A + D < 3721 by omega) ?_
                refine v_p hT rfl rfl ?_
                rw [prI_add]
                exact q3 Φ hΦ
        · obtain ⟨F2, q1, q2, q3⟩ := ih (by omega) G (fun c x1 x2 => by rw [g6 c x1 x2]; exact hF c x1 x2) (fun p q x1 x2 x3 => by
            intro ho
            have := h1 p q x1 x2 x3 ho
            rw [g4 _ (by omega), g5 _ (by omega)]
            exact this) (fun q x1 x2 => by
            by_cases e : q = D
            · subst e
              intro ho
              have h9 := fd_rank hVB hA x2 ho hend hafter
              rw [g2, g3]
              rcases h9 with ⟨y1, y2⟩ | ⟨y1, y2⟩
              · left; exact ⟨y1, by rw [y2]⟩
              · right; exact ⟨by omega, by rw [y2], by rw [y2]⟩
            · intro ho
              have := h2 q (by omega) x2 ho
              rw [g4 _ (by omega), g5 _ (by omega)]
              exact this)
          refine ⟨F2, q1, q2, fun Φ hΦ => ?_⟩
          have fin : ∀ L, lle [some (.ref 98), some (.int (nI A)), some (.int (nI D))] L → Run n_X7_lays 110 95 L [] (HH n kf G) Φ := by
            intro L hle
            refine v_fgt hle ?_
            refine v_p hT rfl rfl ?_
            rw [prI_add]
            exact q3 Φ hΦ
          refine g_if hT rfl (fun cq => ?_) (fun cq => ?_)
          · exact absurd cq (prI_ok (show D < 2 ^ 31 by omega))
          · refine v_p hT rfl rfl ?_
            refine v_call hT [.int (nI A), .int (nI D)] rfl rfl (by first | rfl | assumption) (by omega) rfl rfl (Nat.le_of_ble_eq_true rfl) (Nat.le_of_ble_eq_true rfl) (g1) ?_
            refine v_p hT rfl rfl ?_
            refine v_call hT [.int (nI 0)] rfl rfl (by first | rfl | assumption) (by omega) rfl rfl (Nat.le_of_ble_eq_true rfl) (Nat.le_of_ble_eq_true rfl) (m_all hMG hVB (by omega)) ?_
            refine g_cmp hT rfl (fun cq2 => ?_) (fun cq2 => ?_)
            · exact fin _ ⟨rfl, rfl, rfl, trivial⟩
            · have cq2 := Classical.byContradiction (fun z => cq2 ((cj_ne (by omega) (by omega)).mpr z))
              refine v_p hT rfl rfl ?_
              refine v_call hT [.int (nI 1)] rfl rfl (by first | rfl | assumption) (by omega) rfl rfl (Nat.le_of_ble_eq_true rfl) (Nat.le_of_ble_eq_true rfl) (m_all hMG hVB (by omega)) ?_
              refine g_cmp hT rfl (fun cq3 => ?_) (fun cq3 => ?_)
              · exact fin _ ⟨rfl, rfl, rfl, trivial⟩
              · have cq3 := Classical.byContradiction (fun z => cq3 ((cj_ne (a := D) (b := totF S.1 1) (by omega) (by omega)).mpr z))
                exact absurd ⟨cq2, cq3⟩ hend
    have outer : ∀ I, I ≤ totF S.1 0 + 1 → ∀ F : Nat → Nat → Int32, (∀ c, c ≠ 105 → c ≠ 106 → F c = f3 c) → (∀ p q, I ≤ p → p ≤ totF S.1 0 → q ≤ totF S.1 1 → ckR (F 105) (F 106) S.1 p q) →
        ∃ F2 : Nat → Nat → Int32, (∀ c, c ≠ 105 → c ≠ 106 → F2 c = f3 c) ∧ (∀ p q, p ≤ totF S.1 0 → q ≤ totF S.1 1 → ckR (F2 105) (F2 106) S.1 p q) ∧ ∀ Φ, Run n_X7_lays 110 107 [some (.ref 98), none, none] [] (HH n kf F2) Φ → Run n_X7_lays 110 34 [some (.ref 98), some (.int (prI I)), none] [.int (prI I)] (HH n kf F) Φ := by
      intro I
      induction I with
      | zero =>
        intro _ F hF h1
        refine ⟨F, hF, fun p q x1 x2 => h1 p q (by omega) x1 x2, fun Φ hΦ => ?_⟩
        refine g_if hT rfl (fun cq => ?_) (fun cq => ?_)
        · exact v_cv hΦ ⟨rfl, trivial⟩ rfl rfl
        · exact absurd prI_0 cq
      | succ A ih =>
        intro hA F hF h1
        have hA : A ≤ totF S.1 0 := by omega
        have hMF : MC F S.1 := MC_fr hM (by rw [hF 98 (by omega) (by omega)]) (fun c hc => hF c (by omega) (by omega))
        obtain ⟨G, g1, g2, g3⟩ := inner A hA (totF S.1 1 + 1) (by omega) F hF (fun p q x1 x2 x3 => h1 p q (by omega) x2 x3) (fun q x1 x2 => absurd x2 (by omega))
        obtain ⟨F2, q1, q2, q3⟩ := ih (by omega) G g1 g2
        refine ⟨F2, q1, q2, fun Φ hΦ => ?_⟩
        refine g_if hT rfl (fun cq => ?_) (fun cq => ?_)
        · exact absurd cq (prI_ok (show A < 2 ^ 31 by omega))
        · refine v_p hT rfl rfl ?_
          refine v_call hT [.int (nI 1)] rfl rfl (by first | rfl | assumption) (by omega) rfl rfl (Nat.le_of_ble_eq_true rfl) (Nat.le_of_ble_eq_true rfl) (m_all hMF hVB (by omega)) ?_
          refine v_p hT rfl rfl ?_
          refine v_cv (g3 Φ ?_) ⟨rfl, rfl, rfl, trivial⟩ rfl rfl
          refine v_p hT rfl rfl ?_
          rw [prI_add]
          exact q3 Φ hΦ
    obtain ⟨G, g1, g2, g3⟩ := outer (totF S.1 0 + 1) (by omega) f3 (fun _ _ _ => rfl) (fun p q x1 x2 x3 => absurd x2 (by omega))
    have hMG : MC G S.1 := MC_fr hM (by rw [g1 98 (by omega) (by omega)]) (fun c hc => g1 c (by omega) (by omega))
    have g98 : ∀ i, i ≠ 6 → G 98 i = upd (f 98) 4 (nI 1) i := fun i hi => by rw [g1 98 (by omega) (by omega)]; exact h98 i hi
    have gfr : ∀ c, c ≠ 98 → c ≠ 103 → c ≠ 104 → c ≠ 105 → c ≠ 106 → G c = f c := fun c x1 x2 x3 x4 x5 => by rw [g1 c x4 x5]; exact hfr c x1 x2 x3
    have h00 := g2 0 0 (by omega) (by omega) (okF_0 h10)
    have pre : ∀ Φ, Run n_X7_lays 110 107 [some (.ref 98), none, none] [] (HH n kf G) Φ → Run n_X7_lays 110 0 (ini n_X7_lays [.ref 98]) [] (HH n kf f) Φ := by
      intro Φ hΦ
      refine v_p hT rfl rfl ?_
      refine v_geti hT rfl (by first | rfl | assumption) (by omega) ?_
      rw [a5]
      refine g_if hT rfl (fun cq => ?_) (fun cq => ?_)
      · refine v_p hT rfl rfl ?_
        refine v_puti hT rfl rfl (by omega) (fun _ => Or.inr rfl) ?_
        refine v_p hT rfl rfl ?_
        refine v_call hT [] rfl rfl (by first | rfl | assumption) (by omega) rfl rfl (Nat.le_of_ble_eq_true rfl) (Nat.le_of_ble_eq_true rfl) (k1) ?_
        refine v_p hT rfl rfl ?_
        refine v_call hT [.int (nI 0)] rfl rfl (by first | rfl | assumption) (by omega) rfl rfl (Nat.le_of_ble_eq_true rfl) (Nat.le_of_ble_eq_true rfl) (b1) ?_
        refine v_p hT rfl rfl ?_
        refine v_call hT [.int (nI 1)] rfl rfl (by first | rfl | assumption) (by omega) rfl rfl (Nat.le_of_ble_eq_true rfl) (Nat.le_of_ble_eq_true rfl) (c1) ?_
        refine v_p hT rfl rfl ?_
        refine v_call hT [.int (nI 0)] rfl rfl (by first | rfl | assumption) (by omega) rfl rfl (Nat.le_of_ble_eq_true rfl) (Nat.le_of_ble_eq_true rfl) (m_all hM hVB (by omega)) ?_
        refine v_p hT rfl rfl ?_
        exact g3 Φ hΦ
      · exact absurd rfl cq
    have mk : ∀ F : Nat → Nat → Int32, (∀ i, i ≠ 11 → i ≠ 12 → F 98 i = G 98 i) → (∀ c, c ≠ 98 → c ≠ 107 → c ≠ 108 → F c = G c) → F 98 11 = opI (lyP S.1) → F 98 12 = coI (lyP S.1) → (∀ k, k < opN (lyP S.1) → F 107 k = nI ((posF (lyP S.1) (k + 1)).1 - (posF (lyP S.1) k).1) ∧ F 108 k = nI ((posF (lyP S.1) (k + 1)).2 - (posF (lyP S.1) k).2)) → RepM F S ∧ knR F S.1 ∧ ∀ c, c < 98 ∨ 110 ≤ c → F c = f c := by
      intro F hi hc h11 h12 ht
      have hk : knR F S.1 := ⟨by rw [hi 6 (by omega) (by omega)]; exact hMG.2.1, fun s b hs hb => by rw [hc 103 (by omega) (by omega) (by omega)]; exact hMG.2.2.1 s b hs hb, h11, h12, ht⟩
      have h98F : ∀ i, i ≠ 6 → i ≠ 4 → i ≠ 11 → i ≠ 12 → F 98 i = f 98 i := fun i x1 x2 x3 x4 => by rw [hi i x3 x4, g98 i x1, pk_un x2]
      have hcF : ∀ c, c = 99 ∨ c = 100 ∨ c = 101 ∨ c = 109 ∨ c < 98 ∨ 110 ≤ c → F c = f c := fun c x => by rw [hc c (by omega) (by omega) (by omega)]; exact gfr c (by omega) (by omega) (by omega) (by omega) (by omega)
      refine ⟨⟨by rw [hcF 100 (by omega)]; exact a1, stM_fr a2 (h98F 3 (by omega) (by omega) (by omega) (by omega)) (hcF 101 (by omega)), ⟨by rw [h98F 16 (by omega) (by omega) (by omega) (by omega)]; exact a3.1, fun k hk => by rw [hcF 109 (by omega)]; exact a3.2 k hk⟩, fun i hi => by rw [hcF 99 (by omega)]; exact a4 i hi, true, ?_, fun _ => hk⟩, hk, fun c x => hcF c (by omega)⟩
      rw [hi 4 (by omega) (by omega), g98 4 (by omega), pk_us]
      rfl
    rcases h00 with ⟨y1, y2⟩ | ⟨y1, y2, y3⟩
    · have y2 : G 105 0 = nI farN := y2
      have hop : opI (lyP S.1) = mI 1 := by unfold opI; rw [decide_eq_true y1]; rfl
      have hco : coI (lyP S.1) = mI 1 := by unfold coI; rw [decide_eq_true y1]; rfl
      have hon : opN (lyP S.1) = 0 := by unfold opN; rw [decide_eq_true y1]; rfl
      refine ⟨hset (hset G 98 12 (mI 1)) 98 11 (mI 1), pre _ ?_, mk _ (fun i x1 x2 => by rw [hs_s, pk_un x1, hs_s, pk_un x2]) (fun c x1 _ _ => by rw [hset_ne x1, hset_ne x1]) (by rw [hop, hs_s]; exact pk_us) (by rw [hco, hs_s, pk_un (by omega), hs_s]; exact pk_us) (fun k hk => absurd hk (by omega))⟩
      refine v_p hT rfl rfl ?_
      refine v_getr hT rfl rfl (by omega) rfl ?_
      refine v_p hT rfl rfl ?_
      refine v_ald hT rfl rfl (by omega) (by decide) (show 0 < 3721 by omega) ?_
      rw [y2]
      refine v_p hT rfl rfl ?_
      refine g_cmp hT rfl (fun cq => ?_) (fun cq => ?_)
      · exact absurd rfl cq
      · refine v_p hT rfl rfl ?_
        refine v_puti hT rfl rfl (by omega) (fun z => by cases z) ?_
        refine v_p hT rfl rfl ?_
        refine v_geti hT rfl (by first | rfl | assumption) (by omega) ?_
        rw [hs_s, pk_us]
        refine v_p hT rfl rfl ?_
        refine g_cmp hT rfl (fun cq2 => ?_) (fun cq2 => ?_)
        · exact absurd rfl cq2
        · refine v_p hT rfl rfl ?_
          refine v_puti hT rfl rfl (by omega) (fun z => by cases z) ?_
          refine v_p hT rfl rfl ?_
          refine v_vret hT rfl rfl ⟨rfl, rfl⟩
    · have y2 : G 105 0 = nI (rkF (lyP S.1) 0 0 / 128) := y2
      have hlt : rkF (lyP S.1) 0 0 < 30000000 := (rkF_lt hPb.1 hPb.2.1 hPb.2.2.1 hPb.2.2.2 (i := 0) (j := 0) (Nat.zero_le _) (Nat.zero_le _)).elim (fun z => absurd z y1) (fun z => z.2)
      have hop : opI (lyP S.1) = nI (opN (lyP S.1)) := by unfold opI opN; rw [decide_eq_false y1]; rfl
      have hco : coI (lyP S.1) = nI (rkF (lyP S.1) 0 0 / 128) := by unfold coI; rw [decide_eq_false y1]; rfl
      obtain ⟨F, q1, q2, q3, q4, q5⟩ := m_follows (n := n) (kf := kf) (f := hset G 98 12 (nI (rkF (lyP S.1) 0 0 / 128))) (B := S.1) (MC_fr hMG (by rw [hs_s, pk_un (by omega)]) (fun c hc => hset_ne (by omega))) hVB (fun p q x1 x2 => by rw [hset_ne (by omega), hset_ne (by omega)]; exact g2 p q x1 x2) y1
      refine ⟨F, pre _ ?_, mk F (fun i x1 x2 => by rw [q3 i x1, hs_s, pk_un x2]) (fun c x1 x2 x3 => by rw [q5 c x1 x2 x3, hset_ne x1]) (by rw [hop]; exact q2) (by rw [hco, q3 12 (by omega), hs_s]; exact pk_us) q4⟩
      refine v_p hT rfl rfl ?_
      refine v_getr hT rfl rfl (by omega) rfl ?_
      refine v_p hT rfl rfl ?_
      refine v_ald hT rfl rfl (by omega) (by decide) (show 0 < 3721 by omega) ?_
      rw [y2]
      refine v_p hT rfl rfl ?_
      refine g_cmp hT rfl (fun cq => ?_) (fun cq => ?_)
      · refine v_p hT rfl rfl ?_
        refine v_getr hT rfl rfl (by omega) rfl ?_
        refine v_p hT rfl rfl ?_
        refine v_ald hT rfl rfl (by omega) (by decide) (show 0 < 3721 by omega) ?_
        rw [y2]
        refine v_puti hT rfl rfl (by omega) (fun z => by cases z) ?_
        refine v_p hT rfl rfl ?_
        refine v_geti hT rfl (by first | rfl | assumption) (by omega) ?_
        rw [hs_s, pk_us]
        refine v_p hT rfl rfl ?_
        refine g_cmp hT rfl (fun cq2 => ?_) (fun cq2 => ?_)
        · refine v_p hT rfl rfl ?_
          refine v_call hT [] rfl rfl (by first | rfl | assumption) (by omega) rfl rfl (Nat.le_of_ble_eq_true rfl) (Nat.le_of_ble_eq_true rfl) (q1) ?_
          refine v_vret hT rfl rfl ⟨rfl, rfl⟩
        · exfalso
          have z : nI (rkF (lyP S.1) 0 0 / 128) = mI 1 := Classical.byContradiction (fun z => cq2 z)
          have z2 := nI_pos (show rkF (lyP S.1) 0 0 / 128 < 2 ^ 31 by omega)
          rw [z] at z2
          exact z2 (by decide)
      · exfalso
        have z := Classical.byContradiction (fun z => cq ((cj_ne (a := rkF (lyP S.1) 0 0 / 128) (b := 1000000000) (by omega) (by omega)).mpr z))
        omega
