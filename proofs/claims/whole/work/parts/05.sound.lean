/-! SOUNDNESS: what the abstract machine runs, the machine runs. -/
theorem lk_mem : ∀ (T : Tab) (pc : Nat) (q : Nat × Nat × Nat × Nat × Nat × Nat), lk T pc = some q → (pc, q) ∈ T := by
  intro T
  induction T with
  | nil => intro pc q h; simp [lk] at h
  | cons a r ih =>
    intro pc q h
    unfold lk at h
    split at h
    · rename_i hb
      have hb' : a.1 = pc := Nat.eq_of_beq_eq_true hb
      cases h
      rw [← hb']
      exact List.mem_cons_self
    · exact List.mem_cons_of_mem _ (ih pc q h)
theorem getD_big {α : Type} (l : List α) (d : α) (n : Nat) (h : l.length ≤ n) : l.getD n d = d := by
  rw [List.getD_eq_getElem?_getD, List.getElem?_eq_none h]
  rfl
set_option maxRecDepth 20000 in
theorem mT_big {μ : Nat} (h : ¬ μ < 161) : mT μ = [] := by
  unfold mT
  exact getD_big _ _ _ (Nat.le_trans (Nat.le_of_eq (by decide)) (Nat.not_lt.mp h))
theorem tab_ok {μ pc : Nat} {q : Nat × Nat × Nat × Nat × Nat × Nat} (h : lk (mT μ) pc = some q) : cE μ (pc, q) = true := by
  by_cases hm : μ < 161
  · exact List.all_eq_true.mp (ck_all μ hm) _ (lk_mem _ _ _ h)
  · rw [mT_big hm] at h
    simp [lk] at h
theorem dI_spec {μ pc : Nat} {i : Instr} {m n : Nat} (h : dI μ pc i m n = true) : decode (mB μ) pc = .ok (i, m) ∧ n = m := by
  simp only [dI, Bool.and_eq_true, decide_eq_true_eq, beq_iff_eq] at h
  exact h
theorem wA_spec {c : Nat} {w : Jvm.Cond} (h : wA c w = true) : w ∈ lw_tbl := by
  simp only [wA, decide_eq_true_eq] at h
  exact List.mem_of_getElem? h
theorem f4_spec {a : Nat} {f : Fin 4 → Bool} (h : f4 a f = true) : ∃ h4 : a < 4, f ⟨a, h4⟩ = true := by
  unfold f4 at h
  split at h
  · rename_i h4
    exact ⟨h4, h⟩
  · cases h
/-- the tables' words that every method takes along -/
def CW : List Jvm.Cond := lw_tbl.filter goodWord
theorem CW_in {w : Jvm.Cond} (h : w ∈ lw_tbl) (hg : goodWord w = true) : w ∈ CW := List.mem_filter.mpr ⟨h, hg⟩
def nst (w : Jvm.Cond) : Bool := match w with
  | .fieldLinkNest _ _ _ _ _ _ => true
  | .methodLinkNest _ _ _ _ => true
  | _ => false
/-- base, script, two static rows; the script's length and ints; the classes' numbers; the array classes -/
abbrev GP : Type := (Nat × Nat × Nat × Nat) × (Nat × (Nat → Int32)) × va_G × (Nat → ClassId)
def ad (g : GP) (c : Nat) : Nat := if c < 1000 then g.1.1 + c else if c = 1000 then g.1.2.1 else if c = 1001 then g.1.2.2.1 else g.1.2.2.2
def cv (g : GP) : Value → Value
  | .ref c => .ref (ad g c)
  | v => v
def rv (g : GP) : Nat → Option Nat
  | 0 => none
  | j + 1 => some (ad g j)
def fvs (g : GP) (h : HP) (ci c : Nat) : List Value := (List.range (cF ci)).map (fun k => if isr ci k = true then va_rf (rv g (h.2.1 c k)) else .int (h.2.2 c k))
def cel (g : GP) (h : HP) (c : Nat) : va_E := match (kd c).1 with
  | 0 => .inr ((kd c).2, fvs g h (kd c).2 c)
  | 4 => .inl (g.2.2.2 4, (kd c).2, .inr (.inr (.inr (.inr (fun j => rv g (h.2.1 c j))))))
  | 5 => .inl (g.2.2.2 5, (kd c).2, .inr (.inr (.inr (.inr (fun j => rv g (h.2.1 c j))))))
  | t => .inl (g.2.2.2 t, (kd c).2, .inl (h.2.2 c))
def wsh (g : GP) (h : HP) : va_W := (List.range h.1).map (fun c => (ad g c, cel g h c))
def tysL (g : GP) : List (ClassId × FieldType) := [(g.2.2.2 0, .int), (g.2.2.2 1, .int), (g.2.2.2 2, .boolean), (g.2.2.2 3, .byte), (g.2.2.2 4, .object RX0), (g.2.2.2 5, .object RX3)]
def AG (g : GP) : Nat → Prop := fun q => g.1.1 ≤ q
def sf1 (j : Nat) : Int32 := if j = 0 then 2 else if j = 1 then 1 else 0
def sf2 (j : Nat) : Int32 := if j = 0 then 12 else if j = 1 then 3 else 9
def SP (g : GP) (h : HP) : Prop := h.2.1 1000 0 = g.2.1.1 ∧ h.2.2 1000 = g.2.1.2 ∧ h.2.1 1001 0 = 3 ∧ h.2.2 1001 = sf1 ∧ h.2.1 1002 0 = 3 ∧ h.2.2 1002 = sf2
def WH (g : GP) (h : HP) (H : Heap) : Prop := va_P g.2.2.1 vwCl (wsh g h) H ∧ h.1 ≤ NT ∧ SP g h
def WK (g : GP) (U : State) : Prop := va_K g.2.2.1 vwCl (tysL g) U ∧ (∀ w ∈ lw_tbl, nst w = true → va_Nw w U) ∧ va_AO RX0 U ∧ va_AO RX3 U
def XS (g : GP) (U : State) : Prop := (g.1.2.1 < g.1.1 ∧ g.1.2.2.1 < g.1.1 ∧ g.1.2.2.2 < g.1.1) ∧ va_X g.1.2.1 g.2.1.1 g.2.1.2 U U.heap ∧ va_T .int g.1.2.2.1 3 (fun j => .int (sf1 j)) (AG g) U U.heap ∧ va_T .int g.1.2.2.2 3 (fun j => .int (sf2 j)) (AG g) U U.heap ∧ va_Z RX6 "SETTING_FROM" "[I" (.ref g.1.2.2.1) (AG g) U U.heap ∧ va_Z RX6 "SETTING_TO" "[I" (.ref g.1.2.2.2) (AG g) U U.heap
def LR (g : GP) (ls : Array Slot) (n : Nat) (L : LT) : Prop := ls.size = n ∧ lv_wf ls ∧ ∀ (i : Nat) (v : Value), lget L i = some v → ls[i]? = some (.val (cv g v))
def CX (g : GP) (μ n0 : Nat) (p : Program) (R : Room) (s : State) (m : MethodId) (args : Array Value) (meth : Method) (c : Code) : Prop :=
  p.tables.exec = Jvm.exec ∧ c.code = mB μ ∧ c.maxLocals = mX μ ∧ s.vm.findClass (cN (mC μ)) = some m.cls ∧ (∀ w ∈ CW, w.before args s = true) ∧ ((mY μ).name = "<init>" → meth.name = "<init>") ∧ WK g s ∧ XS g s ∧ s.heap.size = g.1.1 + n0 ∧ mF μ ≤ R.frames ∧ mL μ ≤ R.locals ∧ mK μ ≤ R.cells ∧ mS μ ≤ R.slots
def CN (μ n0 : Nat) (h : HP) (cells slots : Nat) : Prop := n0 ≤ h.1 ∧ h.1 ≤ n0 + mK μ ∧ cells = h.1 - n0 ∧ slt n0 ≤ slt h.1 ∧ slt h.1 ≤ slt n0 + mS μ ∧ slots = slt h.1 - slt n0
def RA (μ pc : Nat) (v : Option Value) : Prop := match v with
  | some (.int x) => decode (mB μ) pc = .ok (.ireturn, 1) ∧ (mA μ = some .int ∨ (mA μ = some .boolean ∧ (x = 0 ∨ x = 1)))
  | some (.long _) => decode (mB μ) pc = .ok (.lreturn, 1) ∧ mA μ = some .long
  | some (.ref _) => decode (mB μ) pc = .ok (.areturn, 1) ∧ ∃ n, mA μ = some (.object n)
  | none => decode (mB μ) pc = .ok (.return_, 1) ∧ mA μ = none
  | _ => False
/-- what a run of the abstract machine says of the machine -/
def Sim (l : Launch) (g : GP) : KT := fun μ n0 pc L st h Φ =>
  ∀ (p : Program) (e : Env) (R : Room) (s : State) (m : MethodId) (args : Array Value) (below : List Frame) (meth : Method) (c : Code) (H : Heap) (locs : List Loc) (cells slots : Nat) (Q : State → Prop) (ls : Array Slot),
    CX g μ n0 p R s m args meth c → WH g h H → va_S (AG g) s.heap H locs → LR g ls (mX μ) L → CN μ n0 h cells slots →
    (∀ (v : Option Value) (h' : HP) (H' : Heap) (locs' : List Loc) (pc' : Nat) (ls' : Array Slot), Φ v h' → WH g h' H' → va_S (AG g) s.heap H' locs' → h'.1 = n0 + mK μ → RA μ pc' v →
      W p l e R s m args below meth c H' locs' (mK μ) (mS μ) Q (F0 m pc' ls' (v.toList.map (cv g)))) →
    W p l e R s m args below meth c H locs cells slots Q (F0 m pc ls (st.map (cv g)))
/-! locals -/
theorem lget_set : ∀ (L : LT) (a i : Nat) (x : Option Value) (v : Value), lget (lset L a x) i = some v → (i = a ∧ x = some v) ∨ (i ≠ a ∧ lget L i = some v) := by
  intro L
  induction L with
  | nil => intro a i x v h; simp [lset, lget] at h
  | cons y r ih =>
    intro a i x v h
    cases a with
    | zero =>
      cases i with
      | zero => simp [lset, lget] at h; exact Or.inl ⟨rfl, h⟩
      | succ i => simp [lset, lget] at h; exact Or.inr ⟨by omega, by simpa [lget] using h⟩
    | succ a =>
      cases i with
      | zero => simp [lset, lget] at h; exact Or.inr ⟨by omega, by simpa [lget] using h⟩
      | succ i =>
        simp [lset, lget] at h
        rcases ih a i x v h with ⟨h1, h2⟩ | ⟨h1, h2⟩
        · exact Or.inl ⟨by omega, h2⟩
        · exact Or.inr ⟨by omega, by simpa [lget] using h2⟩
theorem lok_spec {L : LT} {a i : Nat} {v : Value} (h : lok L a = true) (hi : i + 1 = a) (hv : lget L i = some v) : ¬ v.category = 2 := by
  subst hi
  unfold lok at h
  simp only [hv] at h
  cases v <;> simp_all [Value.category]
def lvl (g : GP) (L : LT) : List (Nat × Value) := (List.range L.length).filterMap (fun i => (lget L i).map (fun v => (i, cv g v)))
theorem lget_lt : ∀ (L : LT) (i : Nat) (v : Value), lget L i = some v → i < L.length := by
  intro L
  induction L with
  | nil => intro i v h; simp [lget] at h
  | cons y r ih =>
    intro i v h
    cases i with
    | zero => simp
    | succ i => simp only [lget] at h; have := ih i v h; simp; omega
theorem lvl_mem {g : GP} {L : LT} {i : Nat} {v : Value} (h : lget L i = some v) : (i, cv g v) ∈ lvl g L := by
  unfold lvl
  refine List.mem_filterMap.mpr ⟨i, List.mem_range.mpr (lget_lt L i v h), ?_⟩
  rw [h]; rfl
theorem lvl_of {g : GP} {L : LT} {q : Nat × Value} (h : q ∈ lvl g L) : ∃ v, lget L q.1 = some v ∧ q.2 = cv g v := by
  unfold lvl at h
  obtain ⟨i, -, hi⟩ := List.mem_filterMap.mp h
  cases hv : lget L i with
  | none => rw [hv] at hi; cases hi
  | some v => rw [hv] at hi; cases hi; exact ⟨v, hv, rfl⟩
theorem LR.has {g : GP} {ls : Array Slot} {n : Nat} {L : LT} (h : LR g ls n L) : lv_has ls n (lvl g L) := by
  refine ⟨h.1, h.2.1, fun q hq => ?_⟩
  obtain ⟨v, h1, h2⟩ := lvl_of hq
  rw [h2]
  exact h.2.2 _ _ h1
theorem cv_cat (g : GP) (v : Value) : (cv g v).category = v.category := by cases v <;> rfl
theorem LR.st1 {g : GP} {ls : Array Slot} {n a : Nat} {L : LT} {v : Value} (hok : lok L a = true)
    (h : lv_has ls n ((a, cv g v) :: (lvl g L).filter (fun q => !(q.1 == a) && !(q.1 + 1 == a && q.2.category == 2)))) : LR g ls n (lset L a (some v)) := by
  refine ⟨h.1, h.2.1, fun i w hw => ?_⟩
  rcases lget_set L a i _ w hw with ⟨h1, h2⟩ | ⟨h1, h2⟩
  · cases h2
    subst h1
    exact h.2.2 (i, cv g v) List.mem_cons_self
  · refine h.2.2 (i, cv g w) (List.mem_cons_of_mem _ (List.mem_filter.mpr ⟨lvl_mem h2, ?_⟩))
    simp only [Bool.and_eq_true, Bool.not_eq_true', beq_eq_false_iff_ne, Bool.and_eq_false_iff]
    refine ⟨h1, ?_⟩
    by_cases hi : i + 1 = a
    · exact Or.inr (by rw [cv_cat]; exact lok_spec hok hi h2)
    · exact Or.inl hi
theorem LR.st2 {g : GP} {ls : Array Slot} {n a : Nat} {L : LT} {v : Value} (hok : lok L a = true)
    (h : lv_has ls n ((a, cv g v) :: (lvl g L).filter (fun q => !(q.1 == a) && (!(q.1 == a + 1) && !(q.1 + 1 == a && q.2.category == 2))))) : LR g ls n (lset (lset L a (some v)) (a + 1) none) := by
  refine ⟨h.1, h.2.1, fun i w hw => ?_⟩
  rcases lget_set _ (a + 1) i _ w hw with ⟨h1, h2⟩ | ⟨h0, hw⟩
  · cases h2
  rcases lget_set L a i _ w hw with ⟨h1, h2⟩ | ⟨h1, h2⟩
  · cases h2
    subst h1
    exact h.2.2 (i, cv g v) List.mem_cons_self
  · refine h.2.2 (i, cv g w) (List.mem_cons_of_mem _ (List.mem_filter.mpr ⟨lvl_mem h2, ?_⟩))
    simp only [Bool.and_eq_true, Bool.not_eq_true', beq_eq_false_iff_ne, Bool.and_eq_false_iff]
    refine ⟨h1, h0, ?_⟩
    by_cases hi : i + 1 = a
    · exact Or.inr (by rw [cv_cat]; exact lok_spec hok hi h2)
    · exact Or.inl hi
set_option maxHeartbeats 4000000 in
theorem sim_pure (l : Launch) (g : GP) : R_pure (Sim l g) := by
  intro μ n0 pc L st h Φ pc' L' st' hps hK p e R s m args below meth c H locs cells slots Q ls C hW hS hl hC hret
  have hx := C.1
  have hb := C.2.1
  have hown := C.2.2.2.1
  have hts := C.2.2.2.2.1
  have hsz := hl.1
  have kk := fun ls' hl' => hK p e R s m args below meth c H locs cells slots Q ls' C hW hS hl' hC hret
  unfold ps at hps
  split at hps
  · cases hps
  rename_i n t a b cc d hlk
  have hc := tab_ok hlk
  split at hps
  · -- const
    simp only [Option.some.injEq, Prod.mk.injEq] at hps
    obtain ⟨rfl, rfl, rfl⟩ := hps
    simp only [cE, Bool.or_eq_true, Bool.and_eq_true, decide_eq_true_eq] at hc
    rcases hc with (((⟨hd, hv⟩ | ⟨hd, hv⟩) | ⟨hd, hv⟩) | ⟨hd, hw⟩) | ⟨hd, hw⟩ <;> (replace hd := dI_spec hd; obtain ⟨hd, rfl⟩ := hd)
    · exact lv_iconst hx hb hd hv (kk ls hl)
    · exact lv_bipush hx hb hd hv (kk ls hl)
    · exact lv_sipush hx hb hd hv (kk ls hl)
    · exact lv_ldc hx hb hown (hts _ (CW_in (wA_spec hw) rfl)) hd (kk ls hl)
    · exact lv_ldcw hx hb hown (hts _ (CW_in (wA_spec hw) rfl)) hd (kk ls hl)
  · simp only [Option.some.injEq, Prod.mk.injEq] at hps
    obtain ⟨rfl, rfl, rfl⟩ := hps
    simp only [cE, Bool.or_eq_true, Bool.and_eq_true, decide_eq_true_eq] at hc
    rcases hc with (⟨hd, hv⟩ | ⟨hd, hv⟩) | ⟨hd, hv⟩ <;> (replace hd := dI_spec hd; obtain ⟨hd, rfl⟩ := hd)
    · exact lv_iconst hx hb hd hv (kk ls hl)
    · exact lv_bipush hx hb hd hv (kk ls hl)
    · exact lv_sipush hx hb hd hv (kk ls hl)
  · -- iload
    split at hps
    · rename_i x hv
      simp only [Option.some.injEq, Prod.mk.injEq] at hps
      obtain ⟨rfl, rfl, rfl⟩ := hps
      simp only [cE, Bool.or_eq_true] at hc
      rcases hc with hd | hd
      · replace hd := dI_spec hd
        obtain ⟨hd, rfl⟩ := hd
        exact lv_iload hx hb hd (hl.2.2 _ _ hv) (kk ls hl)
      · replace hd := f4_spec hd
        obtain ⟨h4, hd⟩ := hd
        replace hd := dI_spec hd
        obtain ⟨hd, rfl⟩ := hd
        exact lv_iload_n hx hb hd rfl (hl.2.2 _ _ hv) (kk ls hl)
    · cases hps
  · split at hps
    · rename_i x hv
      simp only [Option.some.injEq, Prod.mk.injEq] at hps
      obtain ⟨rfl, rfl, rfl⟩ := hps
      simp only [cE, Bool.or_eq_true] at hc
      rcases hc with hd | hd
      · replace hd := dI_spec hd
        obtain ⟨hd, rfl⟩ := hd
        exact lv_aload hx hb hd (hl.2.2 _ _ hv) (kk ls hl)
      · replace hd := f4_spec hd
        obtain ⟨h4, hd⟩ := hd
        replace hd := dI_spec hd
        obtain ⟨hd, rfl⟩ := hd
        exact lv_aload_n hx hb hd rfl (hl.2.2 _ _ hv) (kk ls hl)
    · cases hps
  · split at hps
    · rename_i x hv
      simp only [Option.some.injEq, Prod.mk.injEq] at hps
      obtain ⟨rfl, rfl, rfl⟩ := hps
      simp only [cE, Bool.or_eq_true] at hc
      rcases hc with hd | hd
      · replace hd := dI_spec hd
        obtain ⟨hd, rfl⟩ := hd
        exact lv_lload hx hb hd (hl.2.2 _ _ hv) (kk ls hl)
      · replace hd := f4_spec hd
        obtain ⟨h4, hd⟩ := hd
        replace hd := dI_spec hd
        obtain ⟨hd, rfl⟩ := hd
        exact lv_lload_n hx hb hd rfl (hl.2.2 _ _ hv) (kk ls hl)
    · cases hps
  · -- istore
    split at hps
    · rename_i x r hok
      simp only [Option.some.injEq, Prod.mk.injEq] at hps
      obtain ⟨rfl, rfl, rfl⟩ := hps
      simp only [cE, Bool.or_eq_true, Bool.and_eq_true, decide_eq_true_eq] at hc
      obtain ⟨hd, ha⟩ := hc
      rcases hd with hd | hd
      · replace hd := dI_spec hd
        obtain ⟨hd, rfl⟩ := hd
        exact lv_istore hx hb hd hl.has ha rfl (fun ls' h' => kk ls' (LR.st1 (v := .int x) hok h'))
      · replace hd := f4_spec hd
        obtain ⟨h4, hd⟩ := hd
        replace hd := dI_spec hd
        obtain ⟨hd, rfl⟩ := hd
        exact lv_istore_n hx hb hd rfl hl.has ha rfl (fun ls' h' => kk ls' (LR.st1 (v := .int x) hok h'))
    · cases hps
  · split at hps
    · rename_i x r hok
      simp only [Option.some.injEq, Prod.mk.injEq] at hps
      obtain ⟨rfl, rfl, rfl⟩ := hps
      simp only [cE, Bool.or_eq_true, Bool.and_eq_true, decide_eq_true_eq] at hc
      obtain ⟨hd, ha⟩ := hc
      rcases hd with hd | hd
      · replace hd := dI_spec hd
        obtain ⟨hd, rfl⟩ := hd
        exact lv_astore hx hb hd hl.has ha rfl (fun ls' h' => kk ls' (LR.st1 (v := .ref x) hok h'))
      · replace hd := f4_spec hd
        obtain ⟨h4, hd⟩ := hd
        replace hd := dI_spec hd
        obtain ⟨hd, rfl⟩ := hd
        exact lv_astore_n hx hb hd rfl hl.has ha rfl (fun ls' h' => kk ls' (LR.st1 (v := .ref x) hok h'))
    · cases hps
  · split at hps
    · rename_i x r hok
      simp only [Option.some.injEq, Prod.mk.injEq] at hps
      obtain ⟨rfl, rfl, rfl⟩ := hps
      simp only [cE, Bool.or_eq_true, Bool.and_eq_true, decide_eq_true_eq] at hc
      obtain ⟨hd, ha⟩ := hc
      rcases hd with hd | hd
      · replace hd := dI_spec hd
        obtain ⟨hd, rfl⟩ := hd
        exact lv_lstore hx hb hd hl.has ha rfl (fun ls' h' => kk ls' (LR.st2 (v := .long x) hok h'))
      · replace hd := f4_spec hd
        obtain ⟨h4, hd⟩ := hd
        replace hd := dI_spec hd
        obtain ⟨hd, rfl⟩ := hd
        exact lv_lstore_n hx hb hd rfl hl.has ha rfl (fun ls' h' => kk ls' (LR.st2 (v := .long x) hok h'))
    · cases hps
  · -- iinc
    split at hps
    · rename_i x hv hok
      simp only [Option.some.injEq, Prod.mk.injEq] at hps
      obtain ⟨rfl, rfl, rfl⟩ := hps
      simp only [cE, Bool.and_eq_true, decide_eq_true_eq] at hc
      obtain ⟨⟨hd, he⟩, ha⟩ := hc
      replace hd := dI_spec hd
      obtain ⟨hd, rfl⟩ := hd
      obtain ⟨k, hk⟩ := List.getElem?_of_mem (lvl_mem (g := g) hv)
      exact lv_iinc hx hb hd hl.has hk (by rw [he]) ha rfl (fun ls' h' => kk ls' (LR.st1 (v := .int (x + nI b)) hok h'))
    · cases hps
  · split at hps
    · rename_i x hv hok
      simp only [Option.some.injEq, Prod.mk.injEq] at hps
      obtain ⟨rfl, rfl, rfl⟩ := hps
      simp only [cE, Bool.and_eq_true, decide_eq_true_eq] at hc
      obtain ⟨⟨hd, he⟩, ha⟩ := hc
      replace hd := dI_spec hd
      obtain ⟨hd, rfl⟩ := hd
      obtain ⟨k, hk⟩ := List.getElem?_of_mem (lvl_mem (g := g) hv)
      exact lv_iinc hx hb hd hl.has hk (by rw [he]) ha rfl (fun ls' h' => kk ls' (LR.st1 (v := .int (x + mI b)) hok h'))
    · cases hps
  · split at hps
    · simp only [Option.some.injEq, Prod.mk.injEq] at hps
      obtain ⟨rfl, rfl, rfl⟩ := hps
      simp only [cE] at hc
      obtain ⟨hd, rfl⟩ := dI_spec hc
      exact lv_iadd hx hb hd (kk ls hl)
    · cases hps
  · split at hps
    · simp only [Option.some.injEq, Prod.mk.injEq] at hps
      obtain ⟨rfl, rfl, rfl⟩ := hps
      simp only [cE] at hc
      obtain ⟨hd, rfl⟩ := dI_spec hc
      exact lv_isub hx hb hd (kk ls hl)
    · cases hps
  · split at hps
    · simp only [Option.some.injEq, Prod.mk.injEq] at hps
      obtain ⟨rfl, rfl, rfl⟩ := hps
      simp only [cE] at hc
      obtain ⟨hd, rfl⟩ := dI_spec hc
      exact lv_imul hx hb hd (kk ls hl)
    · cases hps
  · split at hps
    · simp only [Option.some.injEq, Prod.mk.injEq] at hps
      obtain ⟨rfl, rfl, rfl⟩ := hps
      simp only [cE] at hc
      obtain ⟨hd, rfl⟩ := dI_spec hc
      exact lv_iand hx hb hd (kk ls hl)
    · cases hps
  · split at hps
    · simp only [Option.some.injEq, Prod.mk.injEq] at hps
      obtain ⟨rfl, rfl, rfl⟩ := hps
      simp only [cE] at hc
      obtain ⟨hd, rfl⟩ := dI_spec hc
      exact lv_ior hx hb hd (kk ls hl)
    · cases hps
  · split at hps
    · simp only [Option.some.injEq, Prod.mk.injEq] at hps
      obtain ⟨rfl, rfl, rfl⟩ := hps
      simp only [cE] at hc
      obtain ⟨hd, rfl⟩ := dI_spec hc
      exact lv_ishl hx hb hd (kk ls hl)
    · cases hps
  · split at hps
    · simp only [Option.some.injEq, Prod.mk.injEq] at hps
      obtain ⟨rfl, rfl, rfl⟩ := hps
      simp only [cE] at hc
      obtain ⟨hd, rfl⟩ := dI_spec hc
      exact lv_ishr hx hb hd (kk ls hl)
    · cases hps
  · split at hps
    · simp only [Option.some.injEq, Prod.mk.injEq] at hps
      obtain ⟨rfl, rfl, rfl⟩ := hps
      simp only [cE] at hc
      obtain ⟨hd, rfl⟩ := dI_spec hc
      exact lv_iushr hx hb hd rfl (kk ls hl)
    · cases hps
  · split at hps
    · simp only [Option.some.injEq, Prod.mk.injEq] at hps
      obtain ⟨rfl, rfl, rfl⟩ := hps
      simp only [cE] at hc
      obtain ⟨hd, rfl⟩ := dI_spec hc
      exact lv_i2l hx hb hd rfl (kk ls hl)
    · cases hps
  · split at hps
    · simp only [Option.some.injEq, Prod.mk.injEq] at hps
      obtain ⟨rfl, rfl, rfl⟩ := hps
      simp only [cE] at hc
      obtain ⟨hd, rfl⟩ := dI_spec hc
      exact lv_i2b hx hb hd rfl (kk ls hl)
    · cases hps
  · split at hps
    · simp only [Option.some.injEq, Prod.mk.injEq] at hps
      obtain ⟨rfl, rfl, rfl⟩ := hps
      simp only [cE] at hc
      obtain ⟨hd, rfl⟩ := dI_spec hc
      exact lv_ladd hx hb hd (kk ls hl)
    · cases hps
  · split at hps
    · simp only [Option.some.injEq, Prod.mk.injEq] at hps
      obtain ⟨rfl, rfl, rfl⟩ := hps
      simp only [cE] at hc
      obtain ⟨hd, rfl⟩ := dI_spec hc
      exact lv_lmul hx hb hd (kk ls hl)
    · cases hps
  · split at hps
    · simp only [Option.some.injEq, Prod.mk.injEq] at hps
      obtain ⟨rfl, rfl, rfl⟩ := hps
      simp only [cE] at hc
      obtain ⟨hd, rfl⟩ := dI_spec hc
      exact W.lcmp hx hb hd (kk ls hl)
    · cases hps
  · split at hps
    · simp only [Option.some.injEq, Prod.mk.injEq] at hps
      obtain ⟨rfl, rfl, rfl⟩ := hps
      simp only [cE] at hc
      obtain ⟨hd, rfl⟩ := dI_spec hc
      exact lv_dup hx hb hd rfl (kk ls hl)
    · simp only [Option.some.injEq, Prod.mk.injEq] at hps
      obtain ⟨rfl, rfl, rfl⟩ := hps
      simp only [cE] at hc
      obtain ⟨hd, rfl⟩ := dI_spec hc
      exact lv_dup hx hb hd rfl (kk ls hl)
    · cases hps
  · split at hps
    · simp only [Option.some.injEq, Prod.mk.injEq] at hps
      obtain ⟨rfl, rfl, rfl⟩ := hps
      simp only [cE] at hc
      obtain ⟨hd, rfl⟩ := dI_spec hc
      exact lv_dup2_11 hx hb hd rfl rfl (kk ls hl)
    · cases hps
  · split at hps
    · simp only [Option.some.injEq, Prod.mk.injEq] at hps
      obtain ⟨rfl, rfl, rfl⟩ := hps
      simp only [cE] at hc
      obtain ⟨hd, rfl⟩ := dI_spec hc
      exact lv_pop hx hb hd rfl (kk ls hl)
    · simp only [Option.some.injEq, Prod.mk.injEq] at hps
      obtain ⟨rfl, rfl, rfl⟩ := hps
      simp only [cE] at hc
      obtain ⟨hd, rfl⟩ := dI_spec hc
      exact lv_pop hx hb hd rfl (kk ls hl)
    · cases hps
  · simp only [Option.some.injEq, Prod.mk.injEq] at hps
    obtain ⟨rfl, rfl, rfl⟩ := hps
    simp only [cE] at hc
    obtain ⟨hd, rfl⟩ := dI_spec hc
    exact lv_goto hx hb hd (by omega) (kk ls hl)
  · simp only [Option.some.injEq, Prod.mk.injEq] at hps
    obtain ⟨rfl, rfl, rfl⟩ := hps
    simp only [cE, Bool.and_eq_true] at hc
    obtain ⟨hd, hw⟩ := hc
    replace hd := dI_spec hd
    obtain ⟨hd, rfl⟩ := hd
    exact lv_ldc2 hx hb hown (hts _ (CW_in (wA_spec hw) rfl)) hd (kk ls hl)
  · -- getstatic
    simp only [Option.some.injEq, Prod.mk.injEq] at hps
    obtain ⟨rfl, rfl, rfl⟩ := hps
    simp only [cE, Bool.or_eq_true, Bool.and_eq_true, beq_iff_eq] at hc
    obtain ⟨⟨hd, ha⟩, hw⟩ := hc
    replace hd := dI_spec hd
    obtain ⟨hd, rfl⟩ := hd
    obtain ⟨-, -, -, -, hZ1, hZ2⟩ := C.2.2.2.2.2.2.2.1
    rcases ha with rfl | rfl
    · rcases hw with hw | hw
      · exact va_gets hx hb hZ1 hS hown (hts _ (CW_in (wA_spec hw) rfl)) (fun _ h => h) hd (kk ls hl)
      · exact va_getsN hx hb hZ1 hS hown (va_Nw.use rfl (C.2.2.2.2.2.2.1.2.1 _ (wA_spec hw) rfl)) (fun _ h => h) hd (kk ls hl)
    · rcases hw with hw | hw
      · exact va_gets hx hb hZ2 hS hown (hts _ (CW_in (wA_spec hw) rfl)) (fun _ h => h) hd (kk ls hl)
      · exact va_getsN hx hb hZ2 hS hown (va_Nw.use rfl (C.2.2.2.2.2.2.1.2.1 _ (wA_spec hw) rfl)) (fun _ h => h) hd (kk ls hl)
  · cases hps
