/-! SOUNDNESS: calls and returns; the theorem. -/
theorem cat_cv (g : GP) (st : List Value) : ((st.map (cv g)).map fun v => v.category).sum = (st.map fun v => v.category).sum := by
  rw [List.map_map]
  congr 1
  exact List.map_congr_left (fun v _ => cv_cat g v)
theorem ob_in : Jvm.Cond.instanceMethod objectInit ∈ CW := CW_in (List.mem_of_getElem? (i := 120) (by decide +kernel)) rfl
theorem ob_co : Jvm.Cond.code objectInit ⟨#[0xb1]⟩ 1 none ∈ CW := CW_in (List.mem_of_getElem? (i := 121) (by decide +kernel)) rfl
theorem ac_na : Jvm.Cond.native arraycopyName ∈ CW := CW_in (List.mem_of_getElem? (i := 387) (by decide +kernel)) rfl
theorem ac_st : Jvm.Cond.static arraycopyName ∈ CW := CW_in (List.mem_of_getElem? (i := 386) (by decide +kernel)) rfl
theorem ac_in : Jvm.Cond.initialized "java/lang/System" ∈ CW := CW_in (List.mem_of_getElem? (i := 112) (by decide +kernel)) rfl
theorem sim_oin (l : Launch) (g : GP) : R_oin (Sim l g) := by
  intro μ n0 pc L st h Φ n a b cc d o hlk hst hK p e R s m args below meth c H locs cells slots Q ls C hW hS hl hC hret
  have hc := tab_ok hlk
  have kk := hK p e R s m args below meth c H locs cells slots Q ls C hW hS hl hC hret
  simp only [cE, Bool.and_eq_true, decide_eq_true_eq] at hc
  obtain ⟨⟨⟨hd, hw⟩, hf⟩, hlo⟩ := hc
  replace hd := dI_spec hd
  obtain ⟨hd, rfl⟩ := hd
  obtain ⟨hx, hb, hml, hown, hts, hnm, hK0, hX0, hsz, hRf, hRl, hRc, hRs⟩ := C
  have hcat := cat_cv g st
  exact W.objInit (g := F0 m pc ls (.ref (ad g o) :: st.map (cv g))) hx hb hown (hts _ (CW_in (wA_spec hw) rfl)) (hts _ ob_in) (hts _ ob_co) rfl (by rw [hml]; exact hl.1) rfl hd (by omega) (by show 2 * 0 + _ + 12 ≤ _; omega) kk
theorem sim_cpy (l : Launch) (g : GP) : R_cpy (Sim l g) := by
  intro μ n0 pc L st h Φ n a b cc d o o2 N N2 sp dp k hlk hk hk2 ho ho2 hsp hdp hst hK p e R s m args below meth c H locs cells slots Q ls C hW hS hl hC hret
  have hc := tab_ok hlk
  simp only [cE, Bool.and_eq_true, decide_eq_true_eq] at hc
  obtain ⟨⟨⟨hd, hw⟩, hf⟩, hlo⟩ := hc
  replace hd := dI_spec hd
  obtain ⟨hd, rfl⟩ := hd
  have hNb : ∀ c, c < 110 → (kd c).1 = 0 ∨ (kd c).2 < 100000 := by decide +kernel
  have hb1 : N < 100000 := by
    rcases hNb o (kd_small hk (by omega) (by have := hW.2.1; omega)) with h1 | h1 <;> rw [hk] at h1
    · cases h1
    · exact h1
  have hb2 : N2 < 100000 := by
    rcases hNb o2 (kd_small hk2 (by omega) (by have := hW.2.1; omega)) with h1 | h1 <;> rw [hk2] at h1
    · cases h1
    · exact h1
  have he := wsh_get (g := g) ho
  rw [cel_arr hk (Or.inl rfl)] at he
  have he2 := wsh_get (g := g) ho2
  rw [cel_arr hk2 (Or.inl rfl)] at he2
  have e1 : (nI sp).toNatClampNeg = sp := nI_clamp (by omega)
  have e2 : (nI dp).toNatClampNeg = dp := nI_clamp (by omega)
  have e3 : (nI k).toNatClampNeg = k := nI_clamp (by omega)
  have hcat := cat_cv g st
  obtain ⟨hx, hb, hml, hown, hts, hnm, hK0, hX0, hsz, hRf, hRl, hRc, hRs⟩ := id C
  refine va_copyi (ty := .int) hx hb (by rw [hml, hl.1]) hown (hts _ (CW_in (wA_spec hw) rfl)) (hts _ ac_na) (hts _ ac_st) (hts _ ac_in) hK0.1 hW.1 (wsh_D hW.2.1) hS o o2 1 1 he he2 rfl rfl rfl (nI_pos (by omega)) (nI_pos (by omega)) (nI_pos (by omega)) (by rw [e1, e3]; exact hsp) (by rw [e2, e3]; exact hdp) (fun i _ => rfl) (by omega) (by show _ + (7 + 11) ≤ _; omega) hd (fun H1 locs1 q1 _ q3 => ?_)
  rw [e1, e2, e3] at q1
  exact hK p e R s m args below meth c H1 locs1 cells slots Q ls C (WH.seti ho2 hW.2.1 hW.2.2 q1 (by rw [cel_arr hk2 (Or.inl rfl)]; simp [hputs]) (fun q hq => hputs_ne hq)) q3 hl hC hret
/-! the state's own facts move with it -/
theorem WK.warm {g : GP} {s U : State} (h : WK g s) (hW : s.WarmedH U.vm) : WK g U := by
  obtain ⟨h1, h2, h3, h4⟩ := h
  refine ⟨va_K.moved hW.alike h1, fun w hw hn => ?_, va_AO.moved hW.alike h3, va_AO.moved hW.alike h4⟩
  have h5 := h2 w hw hn
  cases w <;> first | (cases hn; done) | exact va_Nw.warmF hW h5 | exact va_Nw.warmM hW h5
theorem WK.same {g : GP} {s U : State} (h : WK g s) (hv : s.vm = U.vm) : WK g U := by
  obtain ⟨h1, h2, h3, h4⟩ := h
  have ha : s.vm.Alike U.vm := by rw [hv]; exact Vm.Alike.refl _
  refine ⟨va_K.moved ha h1, fun w hw hn => ?_, va_AO.moved ha h3, va_AO.moved ha h4⟩
  have h5 := h2 w hw hn
  cases w <;> first | (cases hn; done) | exact va_Nw.same rfl hv h5
theorem XS.to {g : GP} {s U : State} {locs : List Loc} (h : XS g s) (ha : s.vm.Alike U.vm) (hb : g.1.1 ≤ s.heap.size) (hS : va_S (AG g) s.heap U.heap locs) : XS g U := by
  obtain ⟨⟨q1, q2, q3⟩, X1, X2, X3, Z1, Z2⟩ := h
  have hk : ∀ q, q < g.1.1 → U.heap[q]? = s.heap[q]? := fun q hq => hS.2.1 q (by omega) (Nat.not_le.mpr hq)
  exact ⟨⟨q1, q2, q3⟩, va_X.moved ha (va_X.kept X1 (hk _ q1)), va_T.moved ha (va_T.kept X2 hS.2.1), va_T.moved ha (va_T.kept X3 hS.2.1), va_Z.moved ha (va_Z.kept Z1 hS.2.1), va_Z.moved ha (va_Z.kept Z2 hS.2.1)⟩
/-! contracts of methods -/
def mW (ν : Nat) : List Jvm.Cond := Jvm.Cond.code (mY ν) (mB ν) (mX ν) (mA ν) :: CW
def mRm (ν : Nat) : Room := { frames := mF ν, cells := mK ν, slots := mS ν, locals := mL ν }
def BU (g : GP) (h : HP) (U : State) : Prop := U.heap.size = g.1.1 + h.1 ∧ WH g h U.heap ∧ WK g U ∧ XS g U
def QC (g : GP) (k : Nat) (Ψ : PT) : Array Value → State → Outcome → State → Prop := fun _ st o t => (∃ (v : Option Value) (h' : HP), o = .returned (v.map (cv g)) ∧ Ψ v h' ∧ h'.1 = k ∧ WH g h' t.heap) ∧ va_F (AG g) st t
theorem lga {g : GP} : ∀ (as : List Value) (k : Nat) (r : LT), cat1 as = true → (∀ i, lget r i = none) → ∀ (i : Nat) (v : Value), lget (as.map some ++ r) i = some v → (k + i, cv g v) ∈ lv_args k (as.map (cv g)) := by
  intro as
  induction as with
  | nil => intro k r _ hr i v h; rw [List.map_nil, List.nil_append, hr] at h; cases h
  | cons x t ih =>
    intro k r hc hr i v h
    have hx : ¬ (cv g x).category = 2 := by rw [cv_cat]; cases x <;> simp_all [cat1, Value.category]
    have ht : cat1 t = true := by cases x <;> simp_all [cat1]
    rw [List.map_cons, lv_args, if_neg hx]
    cases i with
    | zero =>
      have h' : some x = some v := h
      cases h'
      exact List.mem_cons_self
    | succ i =>
      have h' : lget (t.map some ++ r) i = some v := h
      have := ih (k + 1) r ht hr i v h'
      rw [show k + 1 + i = k + (i + 1) by omega] at this
      exact List.mem_cons_of_mem _ this
theorem lgr : ∀ (n i : Nat), lget (List.replicate n none) i = none := by
  intro n
  induction n with
  | zero => intro i; rfl
  | succ n ih => intro i; cases i with
    | zero => rfl
    | succ i => exact ih i
theorem lgs {g : GP} : ∀ (as : List Value), cat1 as = true → (lg_sl (as.map (cv g))).length = as.length := by
  intro as
  induction as with
  | nil => intro _; rfl
  | cons x t ih =>
    intro hc
    have hx : ¬ (cv g x).category = 2 := by rw [cv_cat]; cases x <;> simp_all [cat1, Value.category]
    have ht : cat1 t = true := by cases x <;> simp_all [cat1]
    have := ih ht
    simp only [lg_sl, List.map_cons, List.flatMap_cons, if_neg hx, List.length_append, List.length_cons, List.length_nil] at this ⊢
    omega
theorem hE_spec {ν : Nat} (h : hE ν = true) : Jvm.Cond.code (mY ν) (mB ν) (mX ν) (mA ν) ∈ lw_tbl ∧ (mY ν).cls = cN (mC ν) ∧ plainName (mY ν).cls = true := by
  simp only [hE, Bool.and_eq_true, decide_eq_true_eq] at h
  exact ⟨wA_spec h.1.1, h.1.2, h.2⟩
theorem met_of {l : Launch} {g : GP} {ν : Nat} {h : HP} {as : List Value} {Ψ : PT} (hh : hE ν = true) (hc : cat1 as = true) (hlen : as.length ≤ mX ν) (hsim : Sim l g ν h.1 0 (ini ν as) [] h Ψ) :
    Met l (mY ν) (mW ν) (mRm ν) (va_Pc (as.map (cv g)) (BU g h)) (QC g (h.1 + mK ν) Ψ) (mK ν) (mS ν) (AG g) := by
  obtain ⟨hcode, hcls, hpl⟩ := hE_spec hh
  refine Met.ofW (cc := mB ν) (maxL := mX ν) (ret := mA ν) hpl rfl ?_
  intro p e s m args below meth c s₁ B hml hv
  obtain ⟨rfl, hsz, hW, hK, hX⟩ := hv
  have hts := atoms_spec (ws := mW ν) B.pre
  have hown : s.vm.findClass (mY ν).cls = some m.cls := findClass_of_methodNamed B.named
  have hlocks := B.notSynchronized
  have hl := lv_entry (as.map (cv g)) (n := mX ν) (by rw [lgs as hc]; exact hlen)
  rw [lg_entry_eq]
  generalize (lg_sl (as.map (cv g)) ++ List.replicate (mX ν - (lg_sl (as.map (cv g))).length) Slot.unset).toArray = ls at hl ⊢
  have hLR : LR g ls (mX ν) (ini ν as) := by
    refine ⟨hl.1, hl.2.1, fun i v hv => ?_⟩
    have := lga (g := g) as 0 _ hc (lgr _) i v hv
    rw [Nat.zero_add] at this
    exact hl.2.2 _ this
  refine hsim p e _ s m _ below meth c s.heap [] 0 0 _ ls ⟨B.exec, B.bytes, hml, by rw [← hcls]; exact hown, fun w hw => hts w (List.mem_cons_of_mem _ hw), (fun hq => by rw [(name_of_methodNamed B.named B.method).1]; exact hq), hK, hX, hsz, Nat.le_refl _, Nat.le_refl _, Nat.le_refl _, Nat.le_refl _⟩ hW va_S.rf hLR ⟨Nat.le_refl _, Nat.le_add_right _ _, by omega, Nat.le_refl _, Nat.le_add_right _ _, by omega⟩ ?_
  intro v h' H' locs' pc' ls' hΨ hW' hS' hn hRA
  have hr := B.returns
  have hb := B.bytes
  have hx := B.exec
  match v, hΨ, hRA with
  | some (.int x), hΨ, hRA =>
    obtain ⟨hd, hA | ⟨hA, hx01⟩⟩ := hRA
    · exact W.iret hx hb (by rw [hr, hA]) (fun t ht hW2 => ⟨⟨some (.int x), h', rfl, hΨ, hn, by rw [ht]; exact hW'⟩, hS'.F ht⟩) hS'.2.2 hd
    · refine W.zret (ty := .boolean) hx hb (by rw [hr, hA]) ?_ (fun t ht hW2 => ⟨⟨some (.int x), h', rfl, hΨ, hn, by rw [ht]; exact hW'⟩, hS'.F ht⟩) hS'.2.2 hd
      rcases hx01 with rfl | rfl <;> decide
  | some (.long x), hΨ, hRA =>
    exact W.lret hx hb (by rw [hr, hRA.2]) (fun t ht hW2 => ⟨⟨some (.long x), h', rfl, hΨ, hn, by rw [ht]; exact hW'⟩, hS'.F ht⟩) hS'.2.2 hRA.1
  | some (.ref x), hΨ, hRA =>
    obtain ⟨hd, n, hA⟩ := hRA
    exact W.aret (rt := .object n) hx hb (by rw [hr, hA]) (Or.inl ⟨n, rfl⟩) (Or.inr ⟨_, rfl⟩) (fun t ht hW2 => ⟨⟨some (.ref x), h', rfl, hΨ, hn, by rw [ht]; exact hW'⟩, hS'.F ht⟩) hS'.2.2 hd
  | none, hΨ, hRA =>
    exact W.vret hx hb (by rw [hr, hRA.2]) (fun t ht hW2 => ⟨⟨none, h', rfl, hΨ, hn, by rw [ht]; exact hW'⟩, hS'.F ht⟩) hS'.2.2 hRA.1
section CALL
variable {l : Launch} {g : GP} {p : Program} {e : Env} {R : Room} {s : State} {m : MethodId} {args : Array Value} {below : List Frame} {meth : Method} {c : Code} {H : Heap} {locs : List Loc} {cells slots mc ms pc : Nat} {Q : State → Prop} {ls : Array Slot} {rest st0 : List Value} {a : Array Value} {Ψ : PT} {nk : Nat}
theorem go_call (hr : va_Run p l e R s m args below meth c H locs cells slots mc ms (F0 m pc ls st0) rest (QC g nk Ψ a) (AG g)) (hS : va_S (AG g) s.heap H locs)
    (kk : ∀ (v : Option Value) (h' : HP) (H1 : Heap) (locs1 : List Loc), Ψ v h' → h'.1 = nk → WH g h' H1 → va_S (AG g) s.heap H1 locs1 → W p l e R s m args below meth c H1 locs1 (cells + mc) (slots + ms) Q (F0 m (pc + 3) ls ((v.map (cv g)).toList ++ rest))) : W p l e R s m args below meth c H locs cells slots Q (F0 m pc ls st0) := by
  intro T hT X
  obtain ⟨v, st₀, t, T', L, h0, X', hL, e1, e2, ⟨⟨v', h', hv, hp, hkn, hb⟩, hz, hk⟩, st⟩ := hr T hT X
  cases hv
  rw [h0] at hz hk
  rw [← e1] at hb hz hk
  obtain ⟨t2, a1, b1⟩ := kk v' h' T'.heap (locs ++ L) hp hkn hb ⟨Nat.le_trans hS.1 hz, fun q h1 h2 => by rw [hk q (Nat.lt_of_lt_of_le h1 hS.1) h2]; exact hS.2.1 q h1 h2, fun q hq => by
      rcases List.mem_append.mp hq with h | h
      · exact hS.2.2 q h
      · exact hL q h⟩ T' rfl X'
  exact ⟨t2, st t2 a1, b1⟩
theorem blind {as : List Value} {h : HP} : FrameBlind (va_Pc (as.map (cv g)) (BU g h)) := by
  intro a U gf mk q
  obtain ⟨q0, q1, q2, q3, q4⟩ := q
  refine ⟨q0, q1, q2, WK.same q3 rfl, ?_⟩
  obtain ⟨r0, r1, r2, r3, r4, r5⟩ := q4
  exact ⟨r0, va_X.moved (Vm.Alike.refl U.vm) r1, va_T.moved (Vm.Alike.refl U.vm) r2, va_T.moved (Vm.Alike.refl U.vm) r3, va_Z.moved (Vm.Alike.refl U.vm) r4, va_Z.moved (Vm.Alike.refl U.vm) r5⟩
theorem pre_at {μ n0 : Nat} {h : HP} (C : CX g μ n0 p R s m args meth c) (hW : WH g h H) (hS : va_S (AG g) s.heap H locs) (hz : H.size = g.1.1 + h.1) {U : State} (hU : U.heap = H) (hwm : s.WarmedH U.vm) : BU g h U := by
  have hs := C.2.2.2.2.2.2.2.2.1
  exact ⟨by rw [hU]; exact hz, by rw [hU]; exact hW, C.2.2.2.2.2.2.1.warm hwm, C.2.2.2.2.2.2.2.1.to hwm.alike (by omega) (by rw [hU]; exact hS)⟩
end CALL
theorem good_mW {ν : Nat} (hh : hE ν = true) : GoodIn CW (mW ν) := by
  intro w hw
  have hg : ∀ w ∈ CW, w ∈ CW ∧ ((w.onTables && w.keeps) = true ∨ ∃ ty, w = .arrayClass ty) := fun w h => ⟨h, good_of_word (List.mem_filter.mp h).2⟩
  rcases List.mem_cons.mp hw with h1 | h1
  · rw [h1]
    exact hg _ (CW_in (hE_spec hh).1 rfl)
  · exact hg w h1
theorem cN_ok : ∀ ci, ci < 11 → cN ci ≠ "java/lang/invoke/MethodHandle" ∧ cN ci ≠ "java/lang/invoke/VarHandle" := by decide +kernel
set_option maxRecDepth 20000 in
theorem mC_ok : ∀ ν, ν < 161 → mC ν < 11 := by decide +kernel
set_option maxRecDepth 20000 in
theorem mC_lt (ν : Nat) : mC ν < 11 := by
  by_cases h : ν < 161
  · exact mC_ok ν h
  · unfold mC mH
    rw [getD_big _ _ _ (Nat.le_trans (Nat.le_of_eq (by decide)) (Nat.not_lt.mp h))]
    decide
theorem rE_spec {μ ν : Nat} (h : rE μ ν = true) : mF ν + 1 ≤ mF μ ∧ 8 + (mX ν + 11) + mL ν ≤ mL μ := by
  simp only [rE, Bool.and_eq_true, decide_eq_true_eq] at h
  exact h
theorem pE_spec {ν n : Nat} (h : pE ν n = true) : (parseMethodDescriptor (mY ν).desc).map (fun d => d.parameters.length) = some n := by
  simp only [pE, decide_eq_true_eq] at h
  exact h
theorem v_app (g : GP) (v : Option Value) (st : List Value) : (v.map (cv g)).toList ++ st.map (cv g) = (v.toList ++ st).map (cv g) := by cases v <;> simp

theorem sim_call (l : Launch) (g : GP) : R_call (Sim l g) := by
  intro μ n0 pc L st h Φ n ν b cc d o as Ψ hlk hko ho hlen hcat hmx hst hK1 hK2 p e R s m args below meth c H locs cells slots Q ls C hW hS hl hC hret
  have hc := tab_ok hlk
  simp only [cE, Bool.or_eq_true, Bool.and_eq_true, decide_eq_true_eq] at hc
  obtain ⟨⟨⟨⟨⟨⟨⟨⟨⟨⟨hd, hh⟩, hrE⟩, hpE⟩, hb1⟩, hm8⟩, hw⟩, hin⟩, hse⟩, hmk⟩, hms⟩ := hc
  replace hd := dI_spec hd
  obtain ⟨hd, rfl⟩ := hd
  obtain ⟨hx, hb, hml, hown, hts, hnm, hK0, hX0, hsz, hRf, hRl, hRc, hRs⟩ := id C
  obtain ⟨hcode, hcls, hpl⟩ := hE_spec hh
  have hM := met_of (as := .ref o :: as) hh hcat (by simpa using hmx) hK1
  rw [hmk, hms] at hM
  have hrm := rE_spec hrE
  have hpm := pE_spec hpE
  rw [show b - 1 = as.length by omega] at hpm
  have hcat' := cat_cv g st
  refine szW C hW hS hC (fun hz => ?_)
  have hini : (Jvm.Cond.initialized (mY ν).cls).before args s = true := by rw [hcls]; exact hts _ (ini_in _ (mC_lt ν))
  have hyy := cN_ok (mC ν) (mC_lt ν)
  rw [← hcls] at hyy
  have he := wsh_get (g := g) ho
  rw [cel_obj hko] at he
  have hrecv := va_recv hK0.1 hW.1 (cls_get hm8) he
  have hin' := hts _ (CW_in (wA_spec hin) rfl)
  have hse' := hts _ (CW_in (wA_spec hse) rfl)
  have hpre : PreV s H (cN (mC ν)) (ad g o) (va_Pc ((Value.ref o :: as).map (cv g)) (BU g h)) (as.map (cv g)) := ⟨blind, hrecv, fun U hU hwm => ⟨rfl, pre_at C hW hS hz hU hwm⟩⟩
  have hstk : (as.reverse ++ Value.ref o :: st).map (cv g) = (as.map (cv g)).reverse ++ Value.ref (ad g o) :: st.map (cv g) := by simp [cv]
  rw [hstk]
  obtain ⟨c1, c2, c3, c4, c5, c6⟩ := id hC
  have kk : ∀ (v : Option Value) (h' : HP) (H1 : Heap) (locs1 : List Loc), Ψ v h' → h'.1 = h.1 + 0 → WH g h' H1 → va_S (AG g) s.heap H1 locs1 → W p l e R s m args below meth c H1 locs1 (cells + 0) (slots + 0) Q (F0 m (pc + 3) ls ((v.map (cv g)).toList ++ st.map (cv g))) := by
    intro v h' H1 locs1 hΨ hn hW1 hS1
    rw [v_app]
    have hn' : h'.1 = h.1 := hn
    exact hK2 v h' hΨ p e R s m args below meth c H1 locs1 (cells + 0) (slots + 0) Q ls C hW1 hS1 hl (by unfold CN; rw [hn']; exact ⟨c1, c2, c3, c4, c5, c6⟩) hret
  have hrl : (mRm ν).frames + 1 ≤ R.frames ∧ 8 + (mX ν + 11) + (mRm ν).locals ≤ R.locals := ⟨by show mF ν + 1 ≤ _; omega, by show 8 + (mX ν + 11) + mL ν ≤ _; omega⟩
  rcases hw with hw | hw
  · exact go_call (va_runV (C := cN (mC ν)) (n := as.length) (nL := mX μ) ⟨hx, hb, hml, hown, hts⟩ hM ⟨callB_of as.length hts (good_mW hh) rfl hmk hms hini (hts _ (CW_in (wA_spec hw) rfl)) ⟨hyy.1, hyy.2, hpm⟩ hrl, hin', hse'⟩ hpre rfl (by simp) hl.1 rfl (lv_room (by rw [hcat']; exact hst)) hd ⟨by omega, by omega⟩) hS kk
  · exact go_call (va_runVN (C := cN (mC ν)) (n := as.length) (nL := mX μ) ⟨hx, hb, hml, hown, hts⟩ hM ⟨va_cnB as.length hts (good_mW hh) rfl hmk hms (hK0.2.1 _ (wA_spec hw) rfl) hini ⟨hyy.1, hyy.2, hpm⟩ hrl, hin', hse'⟩ hpre rfl (by simp) hl.1 rfl (lv_room (by rw [hcat']; exact hst)) hd ⟨by omega, by omega⟩) hS kk
theorem sim_scall (l : Launch) (g : GP) : R_scall (Sim l g) := by
  intro μ n0 pc L st h Φ n ν b cc d as Ψ hlk hlen hcat hmx hst hK1 hK2 p e R s m args below meth c H locs cells slots Q ls C hW hS hl hC hret
  have hc := tab_ok hlk
  simp only [cE, Bool.or_eq_true, Bool.and_eq_true, decide_eq_true_eq] at hc
  obtain ⟨⟨⟨⟨⟨⟨⟨hd, hh⟩, hrE⟩, hpE⟩, hw⟩, hin⟩, hmk⟩, hms⟩ := hc
  replace hd := dI_spec hd
  obtain ⟨hd, rfl⟩ := hd
  obtain ⟨hx, hb, hml, hown, hts, hnm, hK0, hX0, hsz, hRf, hRl, hRc, hRs⟩ := id C
  obtain ⟨hcode, hcls, hpl⟩ := hE_spec hh
  have hM := met_of (as := as) hh hcat hmx hK1
  rw [hmk, hms] at hM
  have hrm := rE_spec hrE
  have hpm := pE_spec hpE
  rw [← hlen] at hpm
  have hcat' := cat_cv g st
  refine szW C hW hS hC (fun hz => ?_)
  have hini : (Jvm.Cond.initialized (mY ν).cls).before args s = true := by rw [hcls]; exact hts _ (ini_in _ (mC_lt ν))
  have hyy := cN_ok (mC ν) (mC_lt ν)
  rw [← hcls] at hyy
  have hin' := hts _ (CW_in (wA_spec hin) rfl)
  have hpre : PreS s H (va_Pc (as.map (cv g)) (BU g h)) (as.map (cv g)) := ⟨blind, fun U hU hwm => ⟨rfl, pre_at C hW hS hz hU hwm⟩⟩
  have hstk : (as.reverse ++ st).map (cv g) = (as.map (cv g)).reverse ++ st.map (cv g) := by simp
  rw [hstk]
  obtain ⟨c1, c2, c3, c4, c5, c6⟩ := id hC
  have kk : ∀ (v : Option Value) (h' : HP) (H1 : Heap) (locs1 : List Loc), Ψ v h' → h'.1 = h.1 + 0 → WH g h' H1 → va_S (AG g) s.heap H1 locs1 → W p l e R s m args below meth c H1 locs1 (cells + 0) (slots + 0) Q (F0 m (pc + 3) ls ((v.map (cv g)).toList ++ st.map (cv g))) := by
    intro v h' H1 locs1 hΨ hn hW1 hS1
    rw [v_app]
    have hn' : h'.1 = h.1 := hn
    exact hK2 v h' hΨ p e R s m args below meth c H1 locs1 (cells + 0) (slots + 0) Q ls C hW1 hS1 hl (by unfold CN; rw [hn']; exact ⟨c1, c2, c3, c4, c5, c6⟩) hret
  have hrl : (mRm ν).frames + 1 ≤ R.frames ∧ 8 + (mX ν + 11) + (mRm ν).locals ≤ R.locals := ⟨by show mF ν + 1 ≤ _; omega, by show 8 + (mX ν + 11) + mL ν ≤ _; omega⟩
  rcases hw with hw | hw
  · exact go_call (va_runS (n := as.length) (nL := mX μ) ⟨hx, hb, hml, hown, hts⟩ hM ⟨callB_of as.length hts (good_mW hh) rfl hmk hms hini (hts _ (CW_in (wA_spec hw) rfl)) ⟨hyy.1, hyy.2, hpm⟩ hrl, hin'⟩ hpre rfl (by simp) hl.1 rfl (lv_room (by rw [hcat']; exact hst)) hd ⟨by omega, by omega⟩) hS kk
  · exact go_call (va_runSN (n := as.length) (nL := mX μ) ⟨hx, hb, hml, hown, hts⟩ hM ⟨va_cnB as.length hts (good_mW hh) rfl hmk hms (hK0.2.1 _ (wA_spec hw) rfl) hini ⟨hyy.1, hyy.2, hpm⟩ hrl, hin', trivial⟩ hpre rfl (by simp) hl.1 rfl (lv_room (by rw [hcat']; exact hst)) hd ⟨by omega, by omega⟩) hS kk
theorem sim_icall (l : Launch) (g : GP) : R_icall (Sim l g) := by
  intro μ n0 pc L st h Φ n ν b cc d o Ψ hlk ho hb1 hmx hst hn1 hn2 hn3 hK1 hK2 p e R s m args below meth c H locs cells slots Q ls C hW hS hl hC hret
  have hc := tab_ok hlk
  simp only [cE, Bool.or_eq_true, Bool.and_eq_true, decide_eq_true_eq] at hc
  obtain ⟨⟨⟨⟨⟨⟨⟨hd, hh⟩, hrE⟩, hpE⟩, hw⟩, hin⟩, hnmi⟩, hA⟩ := hc
  replace hd := dI_spec hd
  obtain ⟨hd, rfl⟩ := hd
  obtain ⟨hx, hb, hml, hown, hts, hnm, hK0, hX0, hsz, hRf, hRl, hRc, hRs⟩ := id C
  obtain ⟨hcode, hcls, hpl⟩ := hE_spec hh
  have hM := met_of (as := [.ref o]) hh rfl hmx hK1
  have hrm := rE_spec hrE
  have hpm := pE_spec hpE
  have hcat' := cat_cv g st
  refine szW C hW hS hC (fun hz => ?_)
  have hini : (Jvm.Cond.initialized (mY ν).cls).before args s = true := by rw [hcls]; exact hts _ (ini_in _ (mC_lt ν))
  have hyy := cN_ok (mC ν) (mC_lt ν)
  rw [← hcls] at hyy
  have hin' := hts _ (CW_in (wA_spec hin) rfl)
  have hpre : PreS s H (va_Pc ([Value.ref o].map (cv g)) (BU g h)) (.ref (ad g o) :: []) := ⟨blind, fun U hU hwm => ⟨rfl, pre_at C hW hS hz hU hwm⟩⟩
  obtain ⟨c1, c2, c3, c4, c5, c6⟩ := id hC
  have kk : ∀ (v : Option Value) (h' : HP) (H1 : Heap) (locs1 : List Loc), Ψ v h' → h'.1 = h.1 + mK ν → WH g h' H1 → va_S (AG g) s.heap H1 locs1 → W p l e R s m args below meth c H1 locs1 (cells + mK ν) (slots + mS ν) Q (F0 m (pc + 3) ls ((v.map (cv g)).toList ++ st.map (cv g))) := by
    intro v h' H1 locs1 hΨ hn hW1 hS1
    obtain ⟨rfl, hk⟩ := hK2 v h' hΨ
    exact hk p e R s m args below meth c H1 locs1 (cells + mK ν) (slots + mS ν) Q ls C hW1 hS1 hl (by unfold CN; rw [hn]; exact ⟨by omega, by omega, by omega, by omega, by omega, by omega⟩) hret
  have hrl : (mRm ν).frames + 1 ≤ R.frames ∧ 8 + (mX ν + 11) + (mRm ν).locals ≤ R.locals := ⟨by show mF ν + 1 ≤ _; omega, by show 8 + (mX ν + 11) + mL ν ≤ _; omega⟩
  have hA' : mW ν = Jvm.Cond.code (mY ν) (mB ν) (mX ν) none :: CW := by unfold mW; rw [hA]
  rcases hw with hw | hw
  · exact go_call (va_runI (n := 0) (nL := mX μ) (As := []) ⟨hx, hb, hml, hown, hts⟩ hM ⟨callB_of 0 hts (good_mW hh) hA' rfl rfl hini (hts _ (CW_in (wA_spec hw) rfl)) ⟨hyy.1, hyy.2, hpm⟩ hrl, hnmi, hin'⟩ hpre rfl rfl hl.1 rfl (lv_room (by rw [hcat']; exact hst)) hd ⟨by omega, by omega⟩) hS kk
  · exact go_call (va_runIN (n := 0) (nL := mX μ) (As := []) ⟨hx, hb, hml, hown, hts⟩ hM ⟨va_cnB 0 hts (good_mW hh) hA' rfl rfl (hK0.2.1 _ (wA_spec hw) rfl) hini ⟨hyy.1, hyy.2, hpm⟩ hrl, hnmi, hin'⟩ hpre rfl rfl hl.1 rfl (lv_room (by rw [hcat']; exact hst)) hd ⟨by omega, by omega⟩) hS kk
theorem sim_ret (l : Launch) (g : GP) : R_ret (Sim l g) := by
  intro μ n0 pc L h Φ n a b cc d x hlk hx01 hn hΦ p e R s m args below meth c H locs cells slots Q ls C hW hS hl hC hret
  have hc := tab_ok hlk
  simp only [cE, Bool.and_eq_true, decide_eq_true_eq] at hc
  obtain ⟨hd, hA⟩ := hc
  replace hd := dI_spec hd
  obtain ⟨hd, rfl⟩ := hd
  obtain ⟨c1, c2, c3, c4, c5, c6⟩ := id hC
  refine W.widen (k := mK μ) (n := mS μ) (by omega) (by omega) ?_
  exact hret (some (.int x)) h H locs pc ls hΦ hW hS hn ⟨hd, hA.elim Or.inl (fun z => Or.inr ⟨z, hx01 z⟩)⟩
theorem sim_lret (l : Launch) (g : GP) : R_lret (Sim l g) := by
  intro μ n0 pc L h Φ n a b cc d x hlk hn hΦ p e R s m args below meth c H locs cells slots Q ls C hW hS hl hC hret
  have hc := tab_ok hlk
  simp only [cE, Bool.and_eq_true, decide_eq_true_eq] at hc
  obtain ⟨hd, hA⟩ := hc
  replace hd := dI_spec hd
  obtain ⟨hd, rfl⟩ := hd
  obtain ⟨c1, c2, c3, c4, c5, c6⟩ := id hC
  refine W.widen (k := mK μ) (n := mS μ) (by omega) (by omega) ?_
  exact hret (some (.long x)) h H locs pc ls hΦ hW hS hn ⟨hd, hA⟩
theorem sim_rret (l : Launch) (g : GP) : R_rret (Sim l g) := by
  intro μ n0 pc L h Φ n a b cc d x hlk hn hΦ p e R s m args below meth c H locs cells slots Q ls C hW hS hl hC hret
  have hc := tab_ok hlk
  simp only [cE, Bool.and_eq_true, decide_eq_true_eq] at hc
  obtain ⟨hd, hA⟩ := hc
  replace hd := dI_spec hd
  obtain ⟨hd, rfl⟩ := hd
  obtain ⟨c1, c2, c3, c4, c5, c6⟩ := id hC
  refine W.widen (k := mK μ) (n := mS μ) (by omega) (by omega) ?_
  exact hret (some (.ref x)) h H locs pc ls hΦ hW hS hn ⟨hd, hA.elim (fun z => ⟨_, z⟩) (fun z => ⟨_, z⟩)⟩
theorem sim_vret (l : Launch) (g : GP) : R_vret (Sim l g) := by
  intro μ n0 pc L h Φ n a b cc d hlk hn hΦ p e R s m args below meth c H locs cells slots Q ls C hW hS hl hC hret
  have hc := tab_ok hlk
  simp only [cE, Bool.and_eq_true, decide_eq_true_eq] at hc
  obtain ⟨hd, hA⟩ := hc
  replace hd := dI_spec hd
  obtain ⟨hd, rfl⟩ := hd
  obtain ⟨c1, c2, c3, c4, c5, c6⟩ := id hC
  refine W.widen (k := mK μ) (n := mS μ) (by omega) (by omega) ?_
  exact hret none h H locs pc ls hΦ hW hS hn ⟨hd, hA⟩
theorem lle_get : ∀ (L L' : LT), lle L L' → ∀ (i : Nat) (v : Value), lget L i = some v → lget L' i = some v := by
  intro L
  induction L with
  | nil => intro L' _ i v hv; simp [lget] at hv
  | cons x r ih =>
    intro L' hq i v hv
    cases L' with
    | nil => cases x <;> simp [lle] at hq
    | cons x' r' =>
      cases x with
      | none =>
        cases i with
        | zero => simp [lget] at hv
        | succ i => exact ih r' hq i v hv
      | some w =>
        cases x' with
        | none => simp [lle] at hq
        | some w' =>
          obtain ⟨hw, hq⟩ := hq
          subst hw
          cases i with
          | zero => exact hv
          | succ i => exact ih r' hq i v hv
theorem sim_fgt (l : Launch) (g : GP) : R_fgt (Sim l g) := by
  intro μ n0 pc L L' st h Φ hq hK p e R s m args below meth c H locs cells slots Q ls C hW hS hl hC hret
  exact hK p e R s m args below meth c H locs cells slots Q ls C hW hS ⟨hl.1, hl.2.1, fun i v hv => hl.2.2 i v (lle_get L L' hq i v hv)⟩ hC hret
/-- THE SOUNDNESS THEOREM -/
theorem sim_all (l : Launch) (g : GP) : Cl (Sim l g) := ⟨⟨sim_pure l g, sim_div l g, sim_rem l g, sim_if l g, sim_cmp l g, sim_sw l g, sim_geti l g, sim_getr l g⟩, ⟨sim_puti l g, sim_putr l g, sim_ald l g, sim_aldx l g, sim_ast l g, sim_bld l g, sim_zst l g, sim_bst l g⟩, ⟨sim_rld l g, sim_rst l g, sim_len l g, sim_lenx l g, sim_new l g, sim_newa l g, sim_oin l g, sim_cpy l g, sim_min l g⟩, sim_call l g, sim_scall l g, sim_icall l g, sim_ret l g, sim_lret l g, sim_rret l g, sim_vret l g, sim_fgt l g⟩
theorem run_sim {l : Launch} {g : GP} {μ n0 pc : Nat} {L : LT} {st : List Value} {h : HP} {Φ : PT} (hr : Run μ n0 pc L st h Φ) : Sim l g μ n0 pc L st h Φ := hr _ (sim_all l g)
