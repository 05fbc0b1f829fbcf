def R_law : String := "FacingPagesLaw"
def lw_P (b : Addr) (xs : List Int32) (args : Array Value) (s : State) : Prop := args = #[.ref b] ∧ s.IntsAt b xs ∧ xs.length ≤ 2560 ∧ (Jvm.Cond.and given_1 narrow_1).before args s = true
def lw_Q (_ : Array Value) (s : State) (o : Outcome) (t : State) : Prop := o = .returned (some (.int 1)) ∧ Framed s o t [] 600000 7302250
def lw_Z (below : List Frame) (a : Array Value) (s : State) : State → Prop := fun t => ∃ o, t.status = .running ∧ Ended t below o ∧ lw_Q a s o t
/-- the law's own end, with 1 on the stack, nothing written that was there before, its room as the claim has it -/
theorem lw_ret {p : Program} {l : Launch} {e : Env} {s : State} {m : MethodId} {below : List Frame} {meth : Method} {c : Code} {b : Nat} (hx : p.tables.exec = Jvm.exec) (hb : c.code = code) (hr : meth.sig.returnType = ret) (hlocks : meth.locks = false) {pc : Nat} {H : Heap} {ls : Array Slot} (hdg : decode code pc = .ok (.ireturn, 1)) : W p l e room_1 s m #[Value.ref b] below meth c H [] 600000 7302250 (lw_Z below #[Value.ref b] s) (F0 m pc ls [.int 1]) := by
  intro T hT X
  obtain ⟨fs, hret, hrun, hended, hW, hframe⟩ := X.leave (v := some (.int 1)) (hlocks := hlocks) (fun h => by rw [hr] at h; cases h)
  have hmeth' : T.vm.method? m = some meth := X.method'
  refine ⟨T.setFrames fs, ?_, .returned (some (.int 1)), hrun, hended, rfl, ⟨_, rfl⟩, hW, hframe⟩
  jvm_step X.here [X.here.top, hx, hb, hdg, hmeth', hr, ret, narrow_b1]
  (try refine ⟨rfl, ?_⟩); (try refine ⟨rfl, ?_⟩)
  first | (intro acts; rw [hret _ acts rfl rfl rfl]) | rw [hret _ _ rfl rfl rfl]
  exact Steps.refl _
/-- what holds at the law's entry: the machine, the code, the tables' words (any of lw_tbl by 'hts w (by decide +kernel)'), the script of L ints xs at the cell b, what the Statement gives of the start (any of its parts by flat_of_before) -/
def lw_At (p : Program) (s : State) (m : MethodId) (meth : Method) (c : Code) (b L : Nat) (xs : Nat → Int32) : Prop :=
  p.tables.exec = Jvm.exec ∧ c.code = code ∧ meth.sig.returnType = ret ∧ c.maxLocals = 4 ∧ s.vm.findClass R_law = some m.cls ∧ (∀ w ∈ lw_tbl, w.before #[Value.ref b] s = true) ∧ va_X b L xs s s.heap ∧ b < s.heap.size ∧ meth.locks = false ∧ (Jvm.Cond.and given_1 narrow_1).before #[Value.ref b] s = true
/-! THE START: from the law's entry to a run of the abstract machine. -/
def hp0 (L : Nat) (xs : Nat → Int32) : HP := (0, (fun c _ => if c = 1000 then L else if c = 1001 then 3 else if c = 1002 then 3 else 0), fun c => if c = 1000 then xs else if c = 1001 then sf1 else if c = 1002 then sf2 else fun _ => 0)
set_option maxRecDepth 100000 in
theorem st_inst : ∀ b, b < 8 → Jvm.Cond.instantiable (cN b) (cF b) ∈ lw_tbl := by decide +kernel
theorem st_tys : (Jvm.Cond.arrayClass .int ∈ lw_tbl ∧ Jvm.Cond.arrayClass .boolean ∈ lw_tbl ∧ Jvm.Cond.arrayClass .byte ∈ lw_tbl) ∧ Jvm.Cond.arrayOver (.object RX0) ∈ lw_tbl ∧ Jvm.Cond.arrayOver (.object RX3) ∈ lw_tbl := by decide +kernel
theorem st_lay : Jvm.Cond.laysStatic RX6 "SETTING_FROM" "[I" ∈ lw_tbl ∧ Jvm.Cond.laysStatic RX6 "SETTING_TO" "[I" ∈ lw_tbl := by decide +kernel
def fty0 (t : Nat) : FieldType := match t with
  | 0 => .int | t => fty t
set_option maxRecDepth 100000 in
set_option maxHeartbeats 4000000 in
theorem whole_of (hrun : ∀ (L : Nat) (xs : Nat → Int32), L ≤ 2560 → Run n_L_law 0 0 (ini n_L_law [.ref 1000]) [] (hp0 L xs) (fun v _ => v = some (.int 1))) {p : Program} {e : Env} {s : State} {m : MethodId} {below : List Frame} {meth : Method} {c : Code} (l : Launch) {b L : Nat} {xs : Nat → Int32} (hL : L ≤ 2560) (C0 : lw_At p s m meth c b L xs) : W p l e room_1 s m #[Value.ref b] below meth c s.heap [] 0 0 (lw_Z below #[Value.ref b] s) (entryFrame m ([Value.ref b] : List Value).toArray 4) := by
  obtain ⟨hx, hb, hr, hml, hown, hts, hX, hbl, hlocks, hgv⟩ := C0
  have hcl : ∀ ci, ∃ z : ClassId × (Nat → Nat), ci < 8 → u_Kn s (cN ci) (cT ci) (cF ci) z.1 z.2 := by
    intro ci
    by_cases h8 : ci < 8
    · obtain ⟨cC, iS, hk⟩ := u_known (C := cN ci) (T := cT ci) (N := cF ci) (n := cF ci) hts (fun w hw => (List.mem_filter.mp (cls_ws h8 w hw)).1) (hts _ (st_inst ci h8))
      exact ⟨(cC, iS), fun _ => hk⟩
    · exact ⟨(0, fun _ => 0), fun h9 => absurd h9 h8⟩
  have hty : ∀ t, ∃ cA : ClassId, t < 6 → ArrOfT s cA (fty0 t) ∧ va_RA s cA (fty0 t) := by
    intro t
    have prim : ∀ ty : FieldType, Jvm.Cond.arrayClass ty ∈ lw_tbl → ∃ cA : ClassId, ArrOfT s cA ty ∧ s.vm.findClass ("[" ++ ty.toString) = some cA := by
      intro ty hm
      obtain ⟨cA, kA, comp, q1, q2, q3⟩ := Cond.arrayClass_spec (hts _ hm)
      exact ⟨cA, fun n z => ⟨fun k hq => (by cases hq), kA, q2, comp, q3⟩, q1⟩
    have refs : ∀ C : String, Jvm.Cond.arrayOver (.object C) ∈ lw_tbl → ∃ cA : ClassId, ArrOfT s cA (.object C) ∧ va_RA s cA (.object C) := by
      intro C hm
      obtain ⟨comp, cA, kA, q1, q2, q3, q4, q5⟩ := Cond.arrayOver_spec (hts _ hm)
      exact ⟨cA, fun n z => ⟨fun k hq => (by cases hq), kA, q3, comp, q4⟩, kA, comp, q3, q4, q1, q5⟩
    match t with
    | 0 => obtain ⟨cA, q1, q2⟩ := prim .int st_tys.1.1; exact ⟨cA, fun _ => ⟨q1, q2⟩⟩
    | 1 => obtain ⟨cA, q1, q2⟩ := prim .int st_tys.1.1; exact ⟨cA, fun _ => ⟨q1, q2⟩⟩
    | 2 => obtain ⟨cA, q1, q2⟩ := prim .boolean st_tys.1.2.1; exact ⟨cA, fun _ => ⟨q1, q2⟩⟩
    | 3 => obtain ⟨cA, q1, q2⟩ := prim .byte st_tys.1.2.2; exact ⟨cA, fun _ => ⟨q1, q2⟩⟩
    | 4 => obtain ⟨cA, q1, q2⟩ := refs RX0 st_tys.2.1; exact ⟨cA, fun _ => ⟨q1, q2⟩⟩
    | 5 => obtain ⟨cA, q1, q2⟩ := refs RX3 st_tys.2.2; exact ⟨cA, fun _ => ⟨q1, q2⟩⟩
    | k + 6 => exact ⟨0, fun h9 => absurd h9 (by omega)⟩
  have hfl := flat_of_before _ hgv
  have hA : ∀ a : Nat, a < s.heap.size → ¬ (fun q : Nat => s.heap.size ≤ q) a := fun a ha => Nat.not_le.mpr ha
  obtain ⟨t1, he1, hT1⟩ := va_Tof (A := fun q : Nat => s.heap.size ≤ q) (tm := .static RX6 "SETTING_FROM" "[I") (ty := .int) (N := 3) (f := fun j => .int (sf1 j)) (by decide) (hfl _ (by decide +kernel)) (va_eqt (z := 3) (hfl _ (by decide +kernel))) (fun j hj => by
    match j, hj with
    | 0, _ => exact va_eqt (z := 2) (hfl _ (by decide +kernel))
    | 1, _ => exact va_eqt (z := 1) (hfl _ (by decide +kernel))
    | 2, _ => exact va_eqt (z := 0) (hfl _ (by decide +kernel))) hA
  obtain ⟨t2, he2, hT2⟩ := va_Tof (A := fun q : Nat => s.heap.size ≤ q) (tm := .static RX6 "SETTING_TO" "[I") (ty := .int) (N := 3) (f := fun j => .int (sf2 j)) (by decide) (hfl _ (by decide +kernel)) (va_eqt (z := 3) (hfl _ (by decide +kernel))) (fun j hj => by
    match j, hj with
    | 0, _ => exact va_eqt (z := 12) (hfl _ (by decide +kernel))
    | 1, _ => exact va_eqt (z := 3) (hfl _ (by decide +kernel))
    | 2, _ => exact va_eqt (z := 9) (hfl _ (by decide +kernel))) hA
  have hZ1 : va_Z RX6 "SETTING_FROM" "[I" (.ref t1) (fun q : Nat => s.heap.size ≤ q) s s.heap := va_Zof (hts _ st_lay.1) (hts _ (ini_tbl 6 (by omega))) he1 hA
  have hZ2 : va_Z RX6 "SETTING_TO" "[I" (.ref t2) (fun q : Nat => s.heap.size ≤ q) s s.heap := va_Zof (hts _ st_lay.2) (hts _ (ini_tbl 6 (by omega))) he2 hA
  let g : GP := ((s.heap.size, b, t1, t2), (L, xs), ((fun ci => (Classical.choose (hcl ci)).1, fun ci => (Classical.choose (hcl ci)).2)), fun t => Classical.choose (hty t))
  have hb1 : t1 < s.heap.size := by
    obtain ⟨cell, q1, -⟩ := hT1
    exact (Array.getElem?_eq_some_iff.mp q1).1
  have hb2 : t2 < s.heap.size := by
    obtain ⟨cell, q1, -⟩ := hT2
    exact (Array.getElem?_eq_some_iff.mp q1).1
  have hXS : XS g s := ⟨⟨hbl, hb1, hb2⟩, hX, hT1, hT2, hZ1, hZ2⟩
  have hWK : WK g s := by
    refine ⟨⟨fun ci q hq => ?_, fun t q hq => ?_⟩, fun w hw hn => ?_, va_AO.of (hts _ st_tys.2.1), va_AO.of (hts _ st_tys.2.2)⟩
    · have h8 : ci < 8 := (List.getElem?_eq_some_iff.mp hq).1
      rw [cls_get h8] at hq
      cases hq
      exact Classical.choose_spec (hcl ci) h8
    · have h6 : t < 6 := (List.getElem?_eq_some_iff.mp hq).1
      have hz := Classical.choose_spec (hty t) h6
      match t, h6, hq, hz with
      | 0, _, hq, hz => cases hq; exact hz
      | 1, _, hq, hz => cases hq; exact hz
      | 2, _, hq, hz => cases hq; exact hz
      | 3, _, hq, hz => cases hq; exact hz
      | 4, _, hq, hz => cases hq; exact hz
      | 5, _, hq, hz => cases hq; exact hz
    · have hz := hts w hw
      cases w <;> first | (cases hn; done) | exact va_Nw.of rfl hz
  have hl := lv_entry ([Value.ref 1000].map (cv g)) (n := 4) (Nat.le_of_ble_eq_true rfl)
  show W p l e room_1 s m #[Value.ref b] below meth c s.heap [] 0 0 (lw_Z below #[Value.ref b] s) (entryFrame m (([Value.ref 1000].map (cv g)) : List Value).toArray 4)
  rw [lg_entry_eq]
  generalize (lg_sl ([Value.ref 1000].map (cv g)) ++ List.replicate (4 - (lg_sl ([Value.ref 1000].map (cv g))).length) Slot.unset).toArray = ls at hl ⊢
  have hLR : LR g ls (mX n_L_law) (ini n_L_law [.ref 1000]) := by
    refine ⟨hl.1, hl.2.1, fun i v hv => ?_⟩
    have h9 := lga (g := g) [.ref 1000] 0 _ rfl (lgr _) i v hv
    rw [Nat.zero_add] at h9
    exact hl.2.2 _ h9
  have hW0 : WH g (hp0 L xs) s.heap := ⟨fun k q hq => (by cases hq), Nat.zero_le _, ⟨rfl, rfl, rfl, rfl, rfl, rfl⟩⟩
  refine run_sim (l := l) (g := g) (hrun L xs hL) p e room_1 s m #[Value.ref b] below meth c s.heap [] 0 0 _ ls ⟨hx, hb, hml, hown, fun w hw => hts w (List.mem_filter.mp hw).1, fun hq => absurd hq (by decide +kernel), hWK, hXS, rfl, Nat.le_of_ble_eq_true rfl, Nat.le_of_ble_eq_true rfl, Nat.le_of_ble_eq_true rfl, Nat.le_of_ble_eq_true rfl⟩ hW0 va_S.rf hLR ⟨Nat.le_refl _, Nat.zero_le _, rfl, Nat.le_refl _, Nat.zero_le _, rfl⟩ ?_
  intro v h' H' locs' pc' ls' hΨ hW' hS' hn hRA
  subst hΨ
  refine va_forget (fun q hq => hS'.2.2 q hq) ?_
  refine W.widen (k := 600000) (n := 7302250) (Nat.le_of_ble_eq_true rfl) (Nat.le_of_ble_eq_true rfl) ?_
  exact lw_ret hx hb hr hlocks hRA.1
