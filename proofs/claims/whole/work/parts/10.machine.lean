/-! The abstract machine layer: references are small numbers (ts_cv), the heap is two functions (ts_I: numbers, ts_K: contents of the arrays of kinds) over a frame that stays (ts_G: how many cells, kind, length, fixed references). -/
def ts_cr (ad : Nat → Nat) (a : Nat) : Option Nat := if a = 0 then none else some (ad a)
def ts_cv (ad : Nat → Nat) : Value → Value
  | .ref a => .ref (ad a)
  | v => v
abbrev ts_G : Type := Nat × (Nat → Nat) × (Nat → Nat) × (Nat → Nat → Nat)
abbrev ts_I : Type := Nat → Nat → Int32
abbrev ts_K : Type := Nat → Nat → Nat
/-- method, code, locals, return type, words -/
abbrev ts_M : Type := MethodName × ByteArray × Nat × Option FieldType × List Cond
def ts_fN (c : Nat) : Nat := match c with
  | 1 => 13
  | 5 => 4
  | 6 => 8
  | 8 => 5
  | 9 => 2
  | 10 => 13
  | 11 => 25
  | _ => 1
/-- whether a field is a reference -/
def ts_fR (c s : Nat) : Bool := match c with
  | 1 => decide (s < 9)
  | 5 => s == 0
  | 6 => decide (s < 6)
  | 8 => s == 0
  | 9 => s == 0
  | 10 => decide (s < 9)
  | 11 => decide (s < 4) || s == 5 || (decide (13 ≤ s) && decide (s < 17)) || (decide (18 ≤ s) && decide (s < 24))
  | _ => false
def ts_fv (ad : Nat → Nat) (g : ts_G) (hi : ts_I) (a s : Nat) : Value := if ts_fR (g.2.1 a) s = true then va_rf (ts_cr ad (g.2.2.2 a s)) else .int (hi a s)
def ts_fs (ad : Nat → Nat) (g : ts_G) (hi : ts_I) (a : Nat) : List Value := (List.range (ts_fN (g.2.1 a))).map (ts_fv ad g hi a)
def ts_cE (ty : Nat → ClassId) (ad : Nat → Nat) (g : ts_G) (hi : ts_I) (hk : ts_K) (a : Nat) : va_E :=
  if g.2.1 a = 100 then .inl (ty 0, g.2.2.1 a, .inl (hi a))
  else if g.2.1 a = 101 then .inl (ty 1, g.2.2.1 a, .inl (hi a))
  else if g.2.1 a = 102 then .inl (ty 2, g.2.2.1 a, .inr (.inr (.inr (.inr (fun j => ts_cr ad (g.2.2.2 a j))))))
  else if g.2.1 a = 103 then .inl (ty 3, g.2.2.1 a, .inr (.inr (.inr (.inr (fun j => ts_cr ad (hk a j))))))
  else if g.2.1 a = 104 then .inl (ty 4, g.2.2.1 a, .inr (.inr (.inr (.inr (fun j => ts_cr ad (g.2.2.2 a j))))))
  else .inr (g.2.1 a, ts_fs ad g hi a)
def ts_wl (ty : Nat → ClassId) (ad : Nat → Nat) (g : ts_G) (hi : ts_I) (hk : ts_K) : va_W := (List.range g.1).map (fun i => (ad (i + 1), ts_cE ty ad g hi hk (i + 1)))
def ts_ty (ty : Nat → ClassId) : List (ClassId × FieldType) := [(ty 0, .int), (ty 1, .boolean), (ty 2, .object RX6), (ty 3, .object RX2), (ty 4, .object RX1)]
/-- what is no cell has a kind of 200 and more -/
def ts_wf (g : ts_G) (hk : ts_K) : Prop := (∀ a, g.2.1 a < 200 → 1 ≤ a ∧ a ≤ g.1) ∧ (∀ a s, g.2.2.2 a s ≤ g.1) ∧ ∀ a s, hk a s ≤ g.1
def ts_up (hi : ts_I) (a s : Nat) (x : Int32) : ts_I := fun b t => if b = a ∧ t = s then x else hi b t
def ts_uk (hk : ts_K) (a s x : Nat) : ts_K := fun b t => if b = a ∧ t = s then x else hk b t
theorem ts_wl_at {ty : Nat → ClassId} {ad : Nat → Nat} {g : ts_G} {hi : ts_I} {hk : ts_K} {hk0 : ts_K} (hw : ts_wf g hk0) {a : Nat} (ha : g.2.1 a < 200) : (ts_wl ty ad g hi hk)[a - 1]? = some (ad a, ts_cE ty ad g hi hk a) := by
  obtain ⟨h1, h2⟩ := hw.1 a ha
  have h3 : a - 1 < g.1 := by omega
  have h4 : a - 1 + 1 = a := by omega
  simp [ts_wl, List.getElem?_map, List.getElem?_range h3, h4]
theorem ts_wl_set {ty : Nat → ClassId} {ad : Nat → Nat} {g : ts_G} {hi hi' : ts_I} {hk hk' : ts_K} {hk0 : ts_K} (hw : ts_wf g hk0) {a : Nat} (ha : g.2.1 a < 200) {e : va_E} (he : ts_cE ty ad g hi' hk' a = e) (ho : ∀ b, b ≠ a → ts_cE ty ad g hi' hk' b = ts_cE ty ad g hi hk b) : (ts_wl ty ad g hi hk).set (a - 1) (ad a, e) = ts_wl ty ad g hi' hk' := by
  obtain ⟨h1, h2⟩ := hw.1 a ha
  apply List.ext_getElem?
  intro i
  rw [List.getElem?_set]
  by_cases hi1 : a - 1 = i
  · subst hi1
    have h3 : a - 1 < g.1 := by omega
    have h4 : a - 1 + 1 = a := by omega
    simp [ts_wl, List.getElem?_map, List.getElem?_range h3, h4, h3, he]
  · rw [if_neg hi1]
    by_cases h3 : i < g.1
    · have h5 : i + 1 ≠ a := by omega
      simp [ts_wl, List.getElem?_map, List.getElem?_range h3, ho _ h5]
    · have h6 : (List.range g.1)[i]? = none := by simp; omega
      simp [ts_wl, List.getElem?_map, h6]
def ts_cas : List (String × String) := [(RX0, RX2), (RX3, RX2), (RX3, RX4), (RX4, RX2), (RX5, RX2), (RX5, RX4), (RX8, RX0), (RX8, RX2)]
def ts_nca : List (String × String) := [(RX0, RX3), (RX0, RX4), (RX0, RX5), (RX0, RX8), (RX3, RX0), (RX3, RX5), (RX3, RX8), (RX4, RX0), (RX4, RX3), (RX4, RX5), (RX4, RX8), (RX5, RX0), (RX5, RX3), (RX5, RX8), (RX8, RX3), (RX8, RX4), (RX8, RX5)]
def ts_nst : List (String × Nat × MethodName × String) := [(RX11, 17, yX9_init, RX11), (RX11, 24, yX10_init, RX11), (RX11, 61, yX6_init, RX11), (RX9, 81, yX11_outside, RX11)]
/-- what the tables say beside the words of the methods: the classes, castable or not, private members of the nest, arrays of references -/
def ts_KK (D : va_G) (ty : Nat → ClassId) (U : State) : Prop := va_K D vwCl (ts_ty ty) U ∧ (∀ q ∈ ts_cas, va_Nw (.castable q.1 q.2) U) ∧ (∀ q ∈ ts_nca, va_Nc q.1 q.2 U) ∧ (∀ q ∈ ts_nst, va_Nw (.methodLinkNest q.1 q.2.1 q.2.2.1 q.2.2.2) U) ∧ (∀ C ∈ [RX1, RX2, RX6], va_AO C U) ∧ va_Nw (.declares ⟨"TurnipSquires$Kind", "gainIn", "(LTurnipSquires$Field;IZ)I"⟩) U
theorem ts_KK.warm {D : va_G} {ty : Nat → ClassId} {s U : State} (hW : s.WarmedH U.vm) (h : ts_KK D ty s) : ts_KK D ty U := by
  obtain ⟨h1, h2, h3, h4, h5, h7⟩ := h
  refine ⟨va_K.moved hW.alike h1, fun q hq => va_Nw.warmC hW (h2 q hq), fun q hq => (h3 q hq).moved hW.alike, fun q hq => va_Nw.warmM hW (h4 q hq), fun C hC => (h5 C hC).moved hW.alike, va_Nw.warmD hW h7⟩
theorem ts_KK.blind {D : va_G} {ty : Nat → ClassId} {U : State} {g : JFrame} {mk : MethodId} {a : Array Value} (h : ts_KK D ty U) : ts_KK D ty (U.calling g mk a) := by
  obtain ⟨h1, h2, h3, h4, h5, h7⟩ := h
  exact ⟨va_K.moved (u := U) (U := U.calling g mk a) (Vm.Alike.refl U.vm) h1, fun q hq => va_Nw.same rfl rfl (h2 q hq), fun q hq => (h3 q hq).moved (u := U) (U := U.calling g mk a) (Vm.Alike.refl U.vm), fun q hq => va_Nw.same rfl rfl (h4 q hq), fun C hC => (h5 C hC).moved (u := U) (U := U.calling g mk a) (Vm.Alike.refl U.vm), va_Nw.same rfl rfl h7⟩
def ts_rm (d mc ms : Nat) : Room := { frames := d, cells := mc, slots := ms, locals := 64 * d }
abbrev ts_Q : Type := Option Value → ts_G → ts_I → ts_K → Prop
/-- what a call leaves behind -/
def ts_Po (D : va_G) (ty : Nat → ClassId) (ad : Nat → Nat) (g : ts_G) (hi : ts_I) (hk : ts_K) (sz : Nat) (Q : ts_Q) : State → Outcome → State → Prop := fun st oc t =>
  (∃ (r : Option Value) (ad' : Nat → Nat) (g' : ts_G) (hi' : ts_I) (hk' : ts_K), oc = .returned (r.map (ts_cv ad')) ∧ Q r g' hi' hk' ∧ (∀ i, i ≤ g.1 → ad' i = ad i) ∧ (g'.1 = g.1 → ad' = ad) ∧ g.1 ≤ g'.1 ∧ ts_wf g' hk' ∧ va_P D vwCl (ts_wl ty ad' g' hi' hk') t.heap ∧ va_D (va_A (ts_wl ty ad g hi hk) sz) (ts_wl ty ad' g' hi' hk')) ∧ va_F (va_A (ts_wl ty ad g hi hk) sz) st t
def ts_Pp (D : va_G) (ty : Nat → ClassId) (ad : Nat → Nat) (g : ts_G) (hi : ts_I) (hk : ts_K) (sz : Nat) : State → Prop := fun U =>
  U.heap.size = sz ∧ va_P D vwCl (ts_wl ty ad g hi hk) U.heap ∧ ts_KK D ty U ∧ va_D (fun _ => True) (ts_wl ty ad g hi hk)
/-- method M, called with av at heap g hi hk, returns with Q; d frames, mc cells of ms slots -/
def ts_Ev (d mc ms : Nat) (M : ts_M) (av : List Value) (g : ts_G) (hi : ts_I) (hk : ts_K) (Q : ts_Q) : Prop :=
  ts_wf g hk → ∀ (l : Launch) (D : va_G) (ty : Nat → ClassId) (ad : Nat → Nat) (sz : Nat),
    Met l M.1 M.2.2.2.2 (ts_rm d mc ms) (va_Pc (av.map (ts_cv ad)) (ts_Pp D ty ad g hi hk sz)) (fun _ => ts_Po D ty ad g hi hk sz Q) mc ms (va_A (ts_wl ty ad g hi hk) sz)
def ts_Wd (D : va_G) (ty : Nat → ClassId) (A : Nat → Prop) (H0 : Heap) (ad : Nat → Nat) (g : ts_G) (hi : ts_I) (hk : ts_K) (H : Heap) (locs : List Loc) : Prop :=
  va_P D vwCl (ts_wl ty ad g hi hk) H ∧ va_D A (ts_wl ty ad g hi hk) ∧ va_S A H0 H locs
/-- the frame at its end, with an answer -/
def ts_rt (M : ts_M) (r : Option Value) (stk : List Value) (pc : Nat) : Prop :=
  (r = none ∧ stk = [] ∧ M.2.2.2.1 = none ∧ decode M.2.1 pc = .ok (.return_, 1)) ∨
  (∃ (v : Int32) (t : FieldType), r = some (.int v) ∧ stk = [.int v] ∧ M.2.2.2.1 = some t ∧ narrow t (.int v) = .int v ∧ decode M.2.1 pc = .ok (.ireturn, 1)) ∨
  (∃ (a : Nat) (C : String), r = some (.ref a) ∧ stk = [.ref a] ∧ M.2.2.2.1 = some (.object C) ∧ decode M.2.1 pc = .ok (.areturn, 1))
def ts_sc (scr : Option (Nat × (Nat → Int32))) (s : State) (A : Nat → Prop) (ad : Nat → Nat) : Prop := match scr with
  | none => True
  | some q => va_X (ad 0) q.1 q.2 s s.heap ∧ ad 0 < s.heap.size ∧ ¬ A (ad 0)
/-- what stands throughout a method's run -/
def ts_CX (d mc ms : Nat) (M : ts_M) (scr : Option (Nat × (Nat → Int32))) (n0 : Nat) (Q : ts_Q) (p : Program) (l : Launch) (e : Env) (R : Room) (s : State) (m : MethodId) (args : Array Value) (below : List Frame) (meth : Method) (c : Code) (D : va_G) (ty : Nat → ClassId) (A : Nat → Prop) (Z : State → Prop) (ad0 : Nat → Nat) : Prop :=
  p.tables.exec = Jvm.exec ∧ c.code = M.2.1 ∧ c.maxLocals = M.2.2.1 ∧ s.vm.findClass M.1.cls = some m.cls ∧ (∀ w ∈ M.2.2.2.2, w.before args s = true) ∧ meth.name = M.1.name ∧
  (d ≤ R.frames ∧ 64 * d ≤ R.locals ∧ mc ≤ R.cells ∧ ms ≤ R.slots) ∧ ts_KK D ty s ∧ (∀ q, s.heap.size ≤ q → A q) ∧ ts_sc scr s A ad0 ∧
  ∀ (r : Option Value) (stk : List Value) (pc : Nat) (g : ts_G) (hi : ts_I) (hk : ts_K) (ad : Nat → Nat) (H : Heap) (locs : List Loc) (lsA : Array Slot), ts_rt M r stk pc → Q r g hi hk → (∀ i, i ≤ n0 → ad i = ad0 i) → (g.1 = n0 → ad = ad0) → n0 ≤ g.1 → ts_wf g hk → ts_Wd D ty A s.heap ad g hi hk H locs →
    W p l e R s m args below meth c H locs mc ms Z (F0 m pc lsA (stk.map (ts_cv ad)))
/-- at pc, with locals ls and stack st, at heap g hi hk, k cells of j slots made: the method comes to Q -/
def ts_JJ (d mc ms : Nat) (M : ts_M) (scr : Option (Nat × (Nat → Int32))) (n0 : Nat) (Q : ts_Q) (k j pc : Nat) (ls : List (Nat × Value)) (st : List Value) (g : ts_G) (hi : ts_I) (hk : ts_K) : Prop :=
  ∀ (p : Program) (l : Launch) (e : Env) (R : Room) (s : State) (m : MethodId) (args : Array Value) (below : List Frame) (meth : Method) (c : Code) (D : va_G) (ty : Nat → ClassId) (A : Nat → Prop) (Z : State → Prop) (ad0 ad : Nat → Nat) (H : Heap) (locs : List Loc) (lsA : Array Slot),
    ts_CX d mc ms M scr n0 Q p l e R s m args below meth c D ty A Z ad0 → (∀ i, i ≤ n0 → ad i = ad0 i) → (g.1 = n0 → ad = ad0) → n0 ≤ g.1 → ts_wf g hk → ts_Wd D ty A s.heap ad g hi hk H locs →
    lv_has lsA M.2.2.1 (ls.map (fun q => (q.1, ts_cv ad q.2))) →
    W p l e R s m args below meth c H locs k j Z (F0 m pc lsA (st.map (ts_cv ad)))
theorem ts_cv_cat (ad : Nat → Nat) (v : Value) : (ts_cv ad v).category = v.category := by cases v <;> rfl
theorem ts_cv_sum (ad : Nat → Nat) (st : List Value) : ((st.map (ts_cv ad)).map fun v => v.category).sum = (st.map fun v => v.category).sum := by
  rw [List.map_map]
  congr 1
  exact List.map_congr_left (fun v _ => ts_cv_cat ad v)
def ts_keep (i : Nat) (q : Nat × Value) : Bool := !(q.1 == i) && !(q.1 + 1 == i && q.2.category == 2)
def ts_keep2 (i : Nat) (q : Nat × Value) : Bool := !(q.1 == i) && (!(q.1 == i + 1) && !(q.1 + 1 == i && q.2.category == 2))
theorem ts_st1 (ad : Nat → Nat) (i : Nat) (v : Value) (ls ls' : List (Nat × Value)) (h : (i, v) :: ls.filter (ts_keep i) = ls') : (i, ts_cv ad v) :: (ls.map (fun q => (q.1, ts_cv ad q.2))).filter (fun q => !(q.1 == i) && !(q.1 + 1 == i && q.2.category == 2)) = ls'.map (fun q => (q.1, ts_cv ad q.2)) := by
  subst h
  rw [List.map_cons, List.filter_map]
  refine congrArg _ (congrArg _ (congrArg (fun f => List.filter f ls) ?_))
  funext q
  simp [ts_keep, ts_cv_cat]
theorem ts_st2 (ad : Nat → Nat) (i : Nat) (v : Value) (ls ls' : List (Nat × Value)) (h : (i, v) :: ls.filter (ts_keep2 i) = ls') : (i, ts_cv ad v) :: (ls.map (fun q => (q.1, ts_cv ad q.2))).filter (fun q => !(q.1 == i) && (!(q.1 == i + 1) && !(q.1 + 1 == i && q.2.category == 2))) = ls'.map (fun q => (q.1, ts_cv ad q.2)) := by
  subst h
  rw [List.map_cons, List.filter_map]
  refine congrArg _ (congrArg _ (congrArg (fun f => List.filter f ls) ?_))
  funext q
  simp [ts_keep2, ts_cv_cat]
theorem ts_lat (ad : Nat → Nat) {ls : List (Nat × Value)} {q i : Nat} {v : Value} (h : ls[q]? = some (i, v)) : (ls.map (fun q => (q.1, ts_cv ad q.2)))[q]? = some (i, ts_cv ad v) := by
  rw [List.getElem?_map, h]; rfl
theorem ts_largs (ad : Nat → Nat) (av : List Value) : ∀ i, lv_args i (av.map (ts_cv ad)) = (lv_args i av).map (fun q => (q.1, ts_cv ad q.2)) := by
  induction av with
  | nil => intro i; rfl
  | cons v av ih =>
    intro i
    show (i, ts_cv ad v) :: lv_args _ (av.map (ts_cv ad)) = (i, ts_cv ad v) :: (lv_args _ av).map _
    rw [ts_cv_cat, ih]
section ts_rules
variable {d mc ms : Nat} {M : ts_M} {scr : Option (Nat × (Nat → Int32))} {n0 : Nat} {Q : ts_Q} {k j pc pc' : Nat} {ls ls' : List (Nat × Value)} {st : List Value} {g : ts_G} {hi : ts_I} {hk : ts_K}

theorem ts_iconst {n : Int} {v : Int32} (hp : pc + 1 = pc') (hd : decode M.2.1 pc = .ok (.iconst n, 1)) (hv : Int32.ofInt n = v) (kk : ts_JJ d mc ms M scr n0 Q k j pc' ls (.int v :: st) g hi hk) : ts_JJ d mc ms M scr n0 Q k j pc ls st g hi hk := by
  subst hp
  intro p l e R s m args below meth c D ty A Z ad0 ad H locs lsA CX ha hb0 hn hwf hW hl
  exact lv_iconst CX.1 CX.2.1 hd hv (kk p l e R s m args below meth c D ty A Z ad0 ad H locs lsA CX ha hb0 hn hwf hW hl)
theorem ts_bipush {n : Int} {v : Int32} (hp : pc + 2 = pc') (hd : decode M.2.1 pc = .ok (.bipush n, 2)) (hv : (Int8.ofInt n).toInt32 = v) (kk : ts_JJ d mc ms M scr n0 Q k j pc' ls (.int v :: st) g hi hk) : ts_JJ d mc ms M scr n0 Q k j pc ls st g hi hk := by
  subst hp
  intro p l e R s m args below meth c D ty A Z ad0 ad H locs lsA CX ha hb0 hn hwf hW hl
  exact lv_bipush CX.1 CX.2.1 hd hv (kk p l e R s m args below meth c D ty A Z ad0 ad H locs lsA CX ha hb0 hn hwf hW hl)
theorem ts_sipush {n : Int} {v : Int32} (hp : pc + 3 = pc') (hd : decode M.2.1 pc = .ok (.sipush n, 3)) (hv : (Int16.ofInt n).toInt32 = v) (kk : ts_JJ d mc ms M scr n0 Q k j pc' ls (.int v :: st) g hi hk) : ts_JJ d mc ms M scr n0 Q k j pc ls st g hi hk := by
  subst hp
  intro p l e R s m args below meth c D ty A Z ad0 ad H locs lsA CX ha hb0 hn hwf hW hl
  exact lv_sipush CX.1 CX.2.1 hd hv (kk p l e R s m args below meth c D ty A Z ad0 ad H locs lsA CX ha hb0 hn hwf hW hl)
theorem ts_lconst {n : Fin 2} {v : Int64} (hp : pc + 1 = pc') (hd : decode M.2.1 pc = .ok (.lconst n, 1)) (hv : Int64.ofNat (n : Nat) = v) (kk : ts_JJ d mc ms M scr n0 Q k j pc' ls (.long v :: st) g hi hk) : ts_JJ d mc ms M scr n0 Q k j pc ls st g hi hk := by
  subst hp
  intro p l e R s m args below meth c D ty A Z ad0 ad H locs lsA CX ha hb0 hn hwf hW hl
  exact lv_lconst CX.1 CX.2.1 hd hv (kk p l e R s m args below meth c D ty A Z ad0 ad H locs lsA CX ha hb0 hn hwf hW hl)
theorem ts_ldc {index : Nat} {v : Int32} (hp : pc + 2 = pc') (hd : decode M.2.1 pc = .ok (.ldc index, 2)) (hm : Cond.constant M.1.cls index v ∈ M.2.2.2.2) (kk : ts_JJ d mc ms M scr n0 Q k j pc' ls (.int v :: st) g hi hk) : ts_JJ d mc ms M scr n0 Q k j pc ls st g hi hk := by
  subst hp
  intro p l e R s m args below meth c D ty A Z ad0 ad H locs lsA CX ha hb0 hn hwf hW hl
  exact lv_ldc CX.1 CX.2.1 CX.2.2.2.1 (CX.2.2.2.2.1 _ hm) hd (kk p l e R s m args below meth c D ty A Z ad0 ad H locs lsA CX ha hb0 hn hwf hW hl)
theorem ts_ldcw {index : Nat} {v : Int32} (hp : pc + 3 = pc') (hd : decode M.2.1 pc = .ok (.ldc_w index, 3)) (hm : Cond.constant M.1.cls index v ∈ M.2.2.2.2) (kk : ts_JJ d mc ms M scr n0 Q k j pc' ls (.int v :: st) g hi hk) : ts_JJ d mc ms M scr n0 Q k j pc ls st g hi hk := by
  subst hp
  intro p l e R s m args below meth c D ty A Z ad0 ad H locs lsA CX ha hb0 hn hwf hW hl
  exact lv_ldcw CX.1 CX.2.1 CX.2.2.2.1 (CX.2.2.2.2.1 _ hm) hd (kk p l e R s m args below meth c D ty A Z ad0 ad H locs lsA CX ha hb0 hn hwf hW hl)
theorem ts_ldc2 {index : Nat} {v : Int64} (hp : pc + 3 = pc') (hd : decode M.2.1 pc = .ok (.ldc2_w index, 3)) (hm : Cond.constantLong M.1.cls index v ∈ M.2.2.2.2) (kk : ts_JJ d mc ms M scr n0 Q k j pc' ls (.long v :: st) g hi hk) : ts_JJ d mc ms M scr n0 Q k j pc ls st g hi hk := by
  subst hp
  intro p l e R s m args below meth c D ty A Z ad0 ad H locs lsA CX ha hb0 hn hwf hW hl
  exact lv_ldc2 CX.1 CX.2.1 CX.2.2.2.1 (CX.2.2.2.2.1 _ hm) hd (kk p l e R s m args below meth c D ty A Z ad0 ad H locs lsA CX ha hb0 hn hwf hW hl)
theorem ts_iload_n {n : Fin 4} {i : Nat} {x : Int32} (q : Nat) (hp : pc + 1 = pc') (hd : decode M.2.1 pc = .ok (.iload_n n, 1)) (hni : (n : Nat) = i) (hq : ls[q]? = some (i, .int x)) (kk : ts_JJ d mc ms M scr n0 Q k j pc' ls (.int x :: st) g hi hk) : ts_JJ d mc ms M scr n0 Q k j pc ls st g hi hk := by
  subst hp
  intro p l e R s m args below meth c D ty A Z ad0 ad H locs lsA CX ha hb0 hn hwf hW hl
  exact lv_iload_n CX.1 CX.2.1 hd hni (lv_at hl q (ts_lat ad hq)) (kk p l e R s m args below meth c D ty A Z ad0 ad H locs lsA CX ha hb0 hn hwf hW hl)
theorem ts_iload {i : Nat} {x : Int32} (q : Nat) (hp : pc + 2 = pc') (hd : decode M.2.1 pc = .ok (.iload i, 2)) (hq : ls[q]? = some (i, .int x)) (kk : ts_JJ d mc ms M scr n0 Q k j pc' ls (.int x :: st) g hi hk) : ts_JJ d mc ms M scr n0 Q k j pc ls st g hi hk := by
  subst hp
  intro p l e R s m args below meth c D ty A Z ad0 ad H locs lsA CX ha hb0 hn hwf hW hl
  exact lv_iload CX.1 CX.2.1 hd (lv_at hl q (ts_lat ad hq)) (kk p l e R s m args below meth c D ty A Z ad0 ad H locs lsA CX ha hb0 hn hwf hW hl)
theorem ts_istore_n {n : Fin 4} {i : Nat} {x : Int32} (hp : pc + 1 = pc') (hd : decode M.2.1 pc = .ok (.istore_n n, 1)) (hni : (n : Nat) = i) (hi0 : i < M.2.2.1) (hls : (i, (.int x : Value)) :: ls.filter (ts_keep i) = ls') (kk : ts_JJ d mc ms M scr n0 Q k j pc' ls' st g hi hk) : ts_JJ d mc ms M scr n0 Q k j pc ls (.int x :: st) g hi hk := by
  subst hp
  intro p l e R s m args below meth c D ty A Z ad0 ad H locs lsA CX ha hb0 hn hwf hW hl
  exact lv_istore_n CX.1 CX.2.1 hd hni hl hi0 (ts_st1 ad i (.int x) ls ls' hls) (fun lsB hl => kk p l e R s m args below meth c D ty A Z ad0 ad H locs lsB CX ha hb0 hn hwf hW hl)
theorem ts_istore {i : Nat} {x : Int32} (hp : pc + 2 = pc') (hd : decode M.2.1 pc = .ok (.istore i, 2)) (hi0 : i < M.2.2.1) (hls : (i, (.int x : Value)) :: ls.filter (ts_keep i) = ls') (kk : ts_JJ d mc ms M scr n0 Q k j pc' ls' st g hi hk) : ts_JJ d mc ms M scr n0 Q k j pc ls (.int x :: st) g hi hk := by
  subst hp
  intro p l e R s m args below meth c D ty A Z ad0 ad H locs lsA CX ha hb0 hn hwf hW hl
  exact lv_istore CX.1 CX.2.1 hd hl hi0 (ts_st1 ad i (.int x) ls ls' hls) (fun lsB hl => kk p l e R s m args below meth c D ty A Z ad0 ad H locs lsB CX ha hb0 hn hwf hW hl)
theorem ts_lload_n {n : Fin 4} {i : Nat} {x : Int64} (q : Nat) (hp : pc + 1 = pc') (hd : decode M.2.1 pc = .ok (.lload_n n, 1)) (hni : (n : Nat) = i) (hq : ls[q]? = some (i, .long x)) (kk : ts_JJ d mc ms M scr n0 Q k j pc' ls (.long x :: st) g hi hk) : ts_JJ d mc ms M scr n0 Q k j pc ls st g hi hk := by
  subst hp
  intro p l e R s m args below meth c D ty A Z ad0 ad H locs lsA CX ha hb0 hn hwf hW hl
  exact lv_lload_n CX.1 CX.2.1 hd hni (lv_at hl q (ts_lat ad hq)) (kk p l e R s m args below meth c D ty A Z ad0 ad H locs lsA CX ha hb0 hn hwf hW hl)
theorem ts_lload {i : Nat} {x : Int64} (q : Nat) (hp : pc + 2 = pc') (hd : decode M.2.1 pc = .ok (.lload i, 2)) (hq : ls[q]? = some (i, .long x)) (kk : ts_JJ d mc ms M scr n0 Q k j pc' ls (.long x :: st) g hi hk) : ts_JJ d mc ms M scr n0 Q k j pc ls st g hi hk := by
  subst hp
  intro p l e R s m args below meth c D ty A Z ad0 ad H locs lsA CX ha hb0 hn hwf hW hl
  exact lv_lload CX.1 CX.2.1 hd (lv_at hl q (ts_lat ad hq)) (kk p l e R s m args below meth c D ty A Z ad0 ad H locs lsA CX ha hb0 hn hwf hW hl)
theorem ts_lstore_n {n : Fin 4} {i : Nat} {x : Int64} (hp : pc + 1 = pc') (hd : decode M.2.1 pc = .ok (.lstore_n n, 1)) (hni : (n : Nat) = i) (hi0 : i + 1 < M.2.2.1) (hls : (i, (.long x : Value)) :: ls.filter (ts_keep2 i) = ls') (kk : ts_JJ d mc ms M scr n0 Q k j pc' ls' st g hi hk) : ts_JJ d mc ms M scr n0 Q k j pc ls (.long x :: st) g hi hk := by
  subst hp
  intro p l e R s m args below meth c D ty A Z ad0 ad H locs lsA CX ha hb0 hn hwf hW hl
  exact lv_lstore_n CX.1 CX.2.1 hd hni hl hi0 (ts_st2 ad i (.long x) ls ls' hls) (fun lsB hl => kk p l e R s m args below meth c D ty A Z ad0 ad H locs lsB CX ha hb0 hn hwf hW hl)
theorem ts_lstore {i : Nat} {x : Int64} (hp : pc + 2 = pc') (hd : decode M.2.1 pc = .ok (.lstore i, 2)) (hi0 : i + 1 < M.2.2.1) (hls : (i, (.long x : Value)) :: ls.filter (ts_keep2 i) = ls') (kk : ts_JJ d mc ms M scr n0 Q k j pc' ls' st g hi hk) : ts_JJ d mc ms M scr n0 Q k j pc ls (.long x :: st) g hi hk := by
  subst hp
  intro p l e R s m args below meth c D ty A Z ad0 ad H locs lsA CX ha hb0 hn hwf hW hl
  exact lv_lstore CX.1 CX.2.1 hd hl hi0 (ts_st2 ad i (.long x) ls ls' hls) (fun lsB hl => kk p l e R s m args below meth c D ty A Z ad0 ad H locs lsB CX ha hb0 hn hwf hW hl)
theorem ts_aload_n {n : Fin 4} {i : Nat} {x : Nat} (q : Nat) (hp : pc + 1 = pc') (hd : decode M.2.1 pc = .ok (.aload_n n, 1)) (hni : (n : Nat) = i) (hq : ls[q]? = some (i, .ref x)) (kk : ts_JJ d mc ms M scr n0 Q k j pc' ls (.ref x :: st) g hi hk) : ts_JJ d mc ms M scr n0 Q k j pc ls st g hi hk := by
  subst hp
  intro p l e R s m args below meth c D ty A Z ad0 ad H locs lsA CX ha hb0 hn hwf hW hl
  exact lv_aload_n CX.1 CX.2.1 hd hni (lv_at hl q (ts_lat ad hq)) (kk p l e R s m args below meth c D ty A Z ad0 ad H locs lsA CX ha hb0 hn hwf hW hl)
theorem ts_aload {i : Nat} {x : Nat} (q : Nat) (hp : pc + 2 = pc') (hd : decode M.2.1 pc = .ok (.aload i, 2)) (hq : ls[q]? = some (i, .ref x)) (kk : ts_JJ d mc ms M scr n0 Q k j pc' ls (.ref x :: st) g hi hk) : ts_JJ d mc ms M scr n0 Q k j pc ls st g hi hk := by
  subst hp
  intro p l e R s m args below meth c D ty A Z ad0 ad H locs lsA CX ha hb0 hn hwf hW hl
  exact lv_aload CX.1 CX.2.1 hd (lv_at hl q (ts_lat ad hq)) (kk p l e R s m args below meth c D ty A Z ad0 ad H locs lsA CX ha hb0 hn hwf hW hl)
theorem ts_astore_n {n : Fin 4} {i : Nat} {x : Nat} (hp : pc + 1 = pc') (hd : decode M.2.1 pc = .ok (.astore_n n, 1)) (hni : (n : Nat) = i) (hi0 : i < M.2.2.1) (hls : (i, (.ref x : Value)) :: ls.filter (ts_keep i) = ls') (kk : ts_JJ d mc ms M scr n0 Q k j pc' ls' st g hi hk) : ts_JJ d mc ms M scr n0 Q k j pc ls (.ref x :: st) g hi hk := by
  subst hp
  intro p l e R s m args below meth c D ty A Z ad0 ad H locs lsA CX ha hb0 hn hwf hW hl
  exact lv_astore_n CX.1 CX.2.1 hd hni hl hi0 (ts_st1 ad i (.ref x) ls ls' hls) (fun lsB hl => kk p l e R s m args below meth c D ty A Z ad0 ad H locs lsB CX ha hb0 hn hwf hW hl)
theorem ts_astore {i : Nat} {x : Nat} (hp : pc + 2 = pc') (hd : decode M.2.1 pc = .ok (.astore i, 2)) (hi0 : i < M.2.2.1) (hls : (i, (.ref x : Value)) :: ls.filter (ts_keep i) = ls') (kk : ts_JJ d mc ms M scr n0 Q k j pc' ls' st g hi hk) : ts_JJ d mc ms M scr n0 Q k j pc ls (.ref x :: st) g hi hk := by
  subst hp
  intro p l e R s m args below meth c D ty A Z ad0 ad H locs lsA CX ha hb0 hn hwf hW hl
  exact lv_astore CX.1 CX.2.1 hd hl hi0 (ts_st1 ad i (.ref x) ls ls' hls) (fun lsB hl => kk p l e R s m args below meth c D ty A Z ad0 ad H locs lsB CX ha hb0 hn hwf hW hl)
theorem ts_iinc {i : Nat} {n : Int} {x v : Int32} (q : Nat) (hp : pc + 3 = pc') (hd : decode M.2.1 pc = .ok (.iinc i n, 3)) (hq : ls[q]? = some (i, .int x)) (hv : x + Int32.ofInt n = v) (hi0 : i < M.2.2.1) (hls : (i, (.int v : Value)) :: ls.filter (ts_keep i) = ls') (kk : ts_JJ d mc ms M scr n0 Q k j pc' ls' st g hi hk) : ts_JJ d mc ms M scr n0 Q k j pc ls st g hi hk := by
  subst hp
  intro p l e R s m args below meth c D ty A Z ad0 ad H locs lsA CX ha hb0 hn hwf hW hl
  exact lv_iinc CX.1 CX.2.1 hd hl (ts_lat ad hq) hv hi0 (ts_st1 ad i (.int v) ls ls' hls) (fun lsB hl => kk p l e R s m args below meth c D ty A Z ad0 ad H locs lsB CX ha hb0 hn hwf hW hl)
theorem ts_iadd {x y : Int32} (hp : pc + 1 = pc') (hd : decode M.2.1 pc = .ok (.iadd, 1))  (kk : ts_JJ d mc ms M scr n0 Q k j pc' ls (.int (x + y) :: st) g hi hk) : ts_JJ d mc ms M scr n0 Q k j pc ls (.int y :: .int x :: st) g hi hk := by
  subst hp
  intro p l e R s m args below meth c D ty A Z ad0 ad H locs lsA CX ha hb0 hn hwf hW hl
  exact lv_iadd CX.1 CX.2.1 hd  (kk p l e R s m args below meth c D ty A Z ad0 ad H locs lsA CX ha hb0 hn hwf hW hl)
theorem ts_isub {x y : Int32} (hp : pc + 1 = pc') (hd : decode M.2.1 pc = .ok (.isub, 1))  (kk : ts_JJ d mc ms M scr n0 Q k j pc' ls (.int (x - y) :: st) g hi hk) : ts_JJ d mc ms M scr n0 Q k j pc ls (.int y :: .int x :: st) g hi hk := by
  subst hp
  intro p l e R s m args below meth c D ty A Z ad0 ad H locs lsA CX ha hb0 hn hwf hW hl
  exact lv_isub CX.1 CX.2.1 hd  (kk p l e R s m args below meth c D ty A Z ad0 ad H locs lsA CX ha hb0 hn hwf hW hl)
theorem ts_imul {x y : Int32} (hp : pc + 1 = pc') (hd : decode M.2.1 pc = .ok (.imul, 1))  (kk : ts_JJ d mc ms M scr n0 Q k j pc' ls (.int (x * y) :: st) g hi hk) : ts_JJ d mc ms M scr n0 Q k j pc ls (.int y :: .int x :: st) g hi hk := by
  subst hp
  intro p l e R s m args below meth c D ty A Z ad0 ad H locs lsA CX ha hb0 hn hwf hW hl
  exact lv_imul CX.1 CX.2.1 hd  (kk p l e R s m args below meth c D ty A Z ad0 ad H locs lsA CX ha hb0 hn hwf hW hl)
theorem ts_iand {x y : Int32} (hp : pc + 1 = pc') (hd : decode M.2.1 pc = .ok (.iand, 1))  (kk : ts_JJ d mc ms M scr n0 Q k j pc' ls (.int (x &&& y) :: st) g hi hk) : ts_JJ d mc ms M scr n0 Q k j pc ls (.int y :: .int x :: st) g hi hk := by
  subst hp
  intro p l e R s m args below meth c D ty A Z ad0 ad H locs lsA CX ha hb0 hn hwf hW hl
  exact lv_iand CX.1 CX.2.1 hd  (kk p l e R s m args below meth c D ty A Z ad0 ad H locs lsA CX ha hb0 hn hwf hW hl)
theorem ts_ior {x y : Int32} (hp : pc + 1 = pc') (hd : decode M.2.1 pc = .ok (.ior, 1))  (kk : ts_JJ d mc ms M scr n0 Q k j pc' ls (.int (x ||| y) :: st) g hi hk) : ts_JJ d mc ms M scr n0 Q k j pc ls (.int y :: .int x :: st) g hi hk := by
  subst hp
  intro p l e R s m args below meth c D ty A Z ad0 ad H locs lsA CX ha hb0 hn hwf hW hl
  exact lv_ior CX.1 CX.2.1 hd  (kk p l e R s m args below meth c D ty A Z ad0 ad H locs lsA CX ha hb0 hn hwf hW hl)
theorem ts_ishl {x y : Int32} (hp : pc + 1 = pc') (hd : decode M.2.1 pc = .ok (.ishl, 1))  (kk : ts_JJ d mc ms M scr n0 Q k j pc' ls (.int (x <<< (y &&& 31)) :: st) g hi hk) : ts_JJ d mc ms M scr n0 Q k j pc ls (.int y :: .int x :: st) g hi hk := by
  subst hp
  intro p l e R s m args below meth c D ty A Z ad0 ad H locs lsA CX ha hb0 hn hwf hW hl
  exact lv_ishl CX.1 CX.2.1 hd  (kk p l e R s m args below meth c D ty A Z ad0 ad H locs lsA CX ha hb0 hn hwf hW hl)
theorem ts_ishr {x y : Int32} (hp : pc + 1 = pc') (hd : decode M.2.1 pc = .ok (.ishr, 1))  (kk : ts_JJ d mc ms M scr n0 Q k j pc' ls (.int (x >>> (y &&& 31)) :: st) g hi hk) : ts_JJ d mc ms M scr n0 Q k j pc ls (.int y :: .int x :: st) g hi hk := by
  subst hp
  intro p l e R s m args below meth c D ty A Z ad0 ad H locs lsA CX ha hb0 hn hwf hW hl
  exact lv_ishr CX.1 CX.2.1 hd  (kk p l e R s m args below meth c D ty A Z ad0 ad H locs lsA CX ha hb0 hn hwf hW hl)
theorem ts_idiv {x y : Int32} (hp : pc + 1 = pc') (hd : decode M.2.1 pc = .ok (.idiv, 1)) (hne : ¬ y = 0) (kk : ts_JJ d mc ms M scr n0 Q k j pc' ls (.int (x / y) :: st) g hi hk) : ts_JJ d mc ms M scr n0 Q k j pc ls (.int y :: .int x :: st) g hi hk := by
  subst hp
  intro p l e R s m args below meth c D ty A Z ad0 ad H locs lsA CX ha hb0 hn hwf hW hl
  exact lv_idiv CX.1 CX.2.1 hd hne (kk p l e R s m args below meth c D ty A Z ad0 ad H locs lsA CX ha hb0 hn hwf hW hl)
theorem ts_irem {x y : Int32} (hp : pc + 1 = pc') (hd : decode M.2.1 pc = .ok (.irem, 1)) (hne : ¬ y = 0) (kk : ts_JJ d mc ms M scr n0 Q k j pc' ls (.int (x - x / y * y) :: st) g hi hk) : ts_JJ d mc ms M scr n0 Q k j pc ls (.int y :: .int x :: st) g hi hk := by
  subst hp
  intro p l e R s m args below meth c D ty A Z ad0 ad H locs lsA CX ha hb0 hn hwf hW hl
  exact lv_irem CX.1 CX.2.1 hd hne (kk p l e R s m args below meth c D ty A Z ad0 ad H locs lsA CX ha hb0 hn hwf hW hl)
theorem ts_ineg {x : Int32} (hp : pc + 1 = pc') (hd : decode M.2.1 pc = .ok (.ineg, 1))  (kk : ts_JJ d mc ms M scr n0 Q k j pc' ls (.int (-x) :: st) g hi hk) : ts_JJ d mc ms M scr n0 Q k j pc ls (.int x :: st) g hi hk := by
  subst hp
  intro p l e R s m args below meth c D ty A Z ad0 ad H locs lsA CX ha hb0 hn hwf hW hl
  exact lv_ineg CX.1 CX.2.1 hd  (kk p l e R s m args below meth c D ty A Z ad0 ad H locs lsA CX ha hb0 hn hwf hW hl)
theorem ts_iushr {x y v : Int32} (hp : pc + 1 = pc') (hd : decode M.2.1 pc = .ok (.iushr, 1)) (hv : (x.toUInt32 >>> (y.toUInt32 &&& Int32.toUInt32 31)).toInt32 = v) (kk : ts_JJ d mc ms M scr n0 Q k j pc' ls (.int v :: st) g hi hk) : ts_JJ d mc ms M scr n0 Q k j pc ls (.int y :: .int x :: st) g hi hk := by
  subst hp
  intro p l e R s m args below meth c D ty A Z ad0 ad H locs lsA CX ha hb0 hn hwf hW hl
  exact lv_iushr CX.1 CX.2.1 hd hv (kk p l e R s m args below meth c D ty A Z ad0 ad H locs lsA CX ha hb0 hn hwf hW hl)
theorem ts_ladd {x y : Int64} (hp : pc + 1 = pc') (hd : decode M.2.1 pc = .ok (.ladd, 1))  (kk : ts_JJ d mc ms M scr n0 Q k j pc' ls (.long (x + y) :: st) g hi hk) : ts_JJ d mc ms M scr n0 Q k j pc ls (.long y :: .long x :: st) g hi hk := by
  subst hp
  intro p l e R s m args below meth c D ty A Z ad0 ad H locs lsA CX ha hb0 hn hwf hW hl
  exact lv_ladd CX.1 CX.2.1 hd  (kk p l e R s m args below meth c D ty A Z ad0 ad H locs lsA CX ha hb0 hn hwf hW hl)
theorem ts_lmul {x y : Int64} (hp : pc + 1 = pc') (hd : decode M.2.1 pc = .ok (.lmul, 1))  (kk : ts_JJ d mc ms M scr n0 Q k j pc' ls (.long (x * y) :: st) g hi hk) : ts_JJ d mc ms M scr n0 Q k j pc ls (.long y :: .long x :: st) g hi hk := by
  subst hp
  intro p l e R s m args below meth c D ty A Z ad0 ad H locs lsA CX ha hb0 hn hwf hW hl
  exact lv_lmul CX.1 CX.2.1 hd  (kk p l e R s m args below meth c D ty A Z ad0 ad H locs lsA CX ha hb0 hn hwf hW hl)
theorem ts_ldiv {x y : Int64} (hp : pc + 1 = pc') (hd : decode M.2.1 pc = .ok (.ldiv, 1)) (hne : ¬ y = 0) (kk : ts_JJ d mc ms M scr n0 Q k j pc' ls (.long (x / y) :: st) g hi hk) : ts_JJ d mc ms M scr n0 Q k j pc ls (.long y :: .long x :: st) g hi hk := by
  subst hp
  intro p l e R s m args below meth c D ty A Z ad0 ad H locs lsA CX ha hb0 hn hwf hW hl
  exact lv_ldiv CX.1 CX.2.1 hd hne (kk p l e R s m args below meth c D ty A Z ad0 ad H locs lsA CX ha hb0 hn hwf hW hl)
theorem ts_lrem {x y : Int64} (hp : pc + 1 = pc') (hd : decode M.2.1 pc = .ok (.lrem, 1)) (hne : ¬ y = 0) (kk : ts_JJ d mc ms M scr n0 Q k j pc' ls (.long (x - x / y * y) :: st) g hi hk) : ts_JJ d mc ms M scr n0 Q k j pc ls (.long y :: .long x :: st) g hi hk := by
  subst hp
  intro p l e R s m args below meth c D ty A Z ad0 ad H locs lsA CX ha hb0 hn hwf hW hl
  exact lv_lrem CX.1 CX.2.1 hd hne (kk p l e R s m args below meth c D ty A Z ad0 ad H locs lsA CX ha hb0 hn hwf hW hl)
theorem ts_lcmp {x y : Int64} (hp : pc + 1 = pc') (hd : decode M.2.1 pc = .ok (.lcmp, 1))  (kk : ts_JJ d mc ms M scr n0 Q k j pc' ls (.int (lg_cmp x y) :: st) g hi hk) : ts_JJ d mc ms M scr n0 Q k j pc ls (.long y :: .long x :: st) g hi hk := by
  subst hp
  intro p l e R s m args below meth c D ty A Z ad0 ad H locs lsA CX ha hb0 hn hwf hW hl
  exact W.lcmp CX.1 CX.2.1 hd  (kk p l e R s m args below meth c D ty A Z ad0 ad H locs lsA CX ha hb0 hn hwf hW hl)
theorem ts_i2l {x : Int32} {v : Int64} (hp : pc + 1 = pc') (hd : decode M.2.1 pc = .ok (.i2l, 1)) (hv : x.toInt64 = v) (kk : ts_JJ d mc ms M scr n0 Q k j pc' ls (.long v :: st) g hi hk) : ts_JJ d mc ms M scr n0 Q k j pc ls (.int x :: st) g hi hk := by
  subst hp
  intro p l e R s m args below meth c D ty A Z ad0 ad H locs lsA CX ha hb0 hn hwf hW hl
  exact lv_i2l CX.1 CX.2.1 hd hv (kk p l e R s m args below meth c D ty A Z ad0 ad H locs lsA CX ha hb0 hn hwf hW hl)
theorem ts_l2i {x : Int64} {v : Int32} (hp : pc + 1 = pc') (hd : decode M.2.1 pc = .ok (.l2i, 1)) (hv : x.toInt32 = v) (kk : ts_JJ d mc ms M scr n0 Q k j pc' ls (.int v :: st) g hi hk) : ts_JJ d mc ms M scr n0 Q k j pc ls (.long x :: st) g hi hk := by
  subst hp
  intro p l e R s m args below meth c D ty A Z ad0 ad H locs lsA CX ha hb0 hn hwf hW hl
  exact lv_l2i CX.1 CX.2.1 hd hv (kk p l e R s m args below meth c D ty A Z ad0 ad H locs lsA CX ha hb0 hn hwf hW hl)
theorem ts_i2b {x v : Int32} (hp : pc + 1 = pc') (hd : decode M.2.1 pc = .ok (.i2b, 1)) (hv : x.toInt8.toInt32 = v) (kk : ts_JJ d mc ms M scr n0 Q k j pc' ls (.int v :: st) g hi hk) : ts_JJ d mc ms M scr n0 Q k j pc ls (.int x :: st) g hi hk := by
  subst hp
  intro p l e R s m args below meth c D ty A Z ad0 ad H locs lsA CX ha hb0 hn hwf hW hl
  exact lv_i2b CX.1 CX.2.1 hd hv (kk p l e R s m args below meth c D ty A Z ad0 ad H locs lsA CX ha hb0 hn hwf hW hl)
theorem ts_i2s {x v : Int32} (hp : pc + 1 = pc') (hd : decode M.2.1 pc = .ok (.i2s, 1)) (hv : x.toInt16.toInt32 = v) (kk : ts_JJ d mc ms M scr n0 Q k j pc' ls (.int v :: st) g hi hk) : ts_JJ d mc ms M scr n0 Q k j pc ls (.int x :: st) g hi hk := by
  subst hp
  intro p l e R s m args below meth c D ty A Z ad0 ad H locs lsA CX ha hb0 hn hwf hW hl
  exact lv_i2s CX.1 CX.2.1 hd hv (kk p l e R s m args below meth c D ty A Z ad0 ad H locs lsA CX ha hb0 hn hwf hW hl)
theorem ts_dup {va : Value} (hp : pc + 1 = pc') (hd : decode M.2.1 pc = .ok (.dup, 1)) (hva : va.category = 1) (kk : ts_JJ d mc ms M scr n0 Q k j pc' ls (va :: va :: st) g hi hk) : ts_JJ d mc ms M scr n0 Q k j pc ls (va :: st) g hi hk := by
  subst hp
  intro p l e R s m args below meth c D ty A Z ad0 ad H locs lsA CX ha hb0 hn hwf hW hl
  exact lv_dup CX.1 CX.2.1 hd (by rw [ts_cv_cat]; exact hva) (kk p l e R s m args below meth c D ty A Z ad0 ad H locs lsA CX ha hb0 hn hwf hW hl)
theorem ts_dup2 {va vb : Value} (hp : pc + 1 = pc') (hd : decode M.2.1 pc = .ok (.dup2, 1)) (hva : va.category = 1) (hvb : vb.category = 1) (kk : ts_JJ d mc ms M scr n0 Q k j pc' ls (va :: vb :: va :: vb :: st) g hi hk) : ts_JJ d mc ms M scr n0 Q k j pc ls (va :: vb :: st) g hi hk := by
  subst hp
  intro p l e R s m args below meth c D ty A Z ad0 ad H locs lsA CX ha hb0 hn hwf hW hl
  exact lv_dup2_11 CX.1 CX.2.1 hd (by rw [ts_cv_cat]; exact hva) (by rw [ts_cv_cat]; exact hvb) (kk p l e R s m args below meth c D ty A Z ad0 ad H locs lsA CX ha hb0 hn hwf hW hl)
theorem ts_pop {va : Value} (hp : pc + 1 = pc') (hd : decode M.2.1 pc = .ok (.pop, 1)) (hva : va.category = 1) (kk : ts_JJ d mc ms M scr n0 Q k j pc' ls st g hi hk) : ts_JJ d mc ms M scr n0 Q k j pc ls (va :: st) g hi hk := by
  subst hp
  intro p l e R s m args below meth c D ty A Z ad0 ad H locs lsA CX ha hb0 hn hwf hW hl
  exact lv_pop CX.1 CX.2.1 hd (by rw [ts_cv_cat]; exact hva) (kk p l e R s m args below meth c D ty A Z ad0 ad H locs lsA CX ha hb0 hn hwf hW hl)
theorem ts_goto {off : Int} {tgt : Nat} (hd : decode M.2.1 pc = .ok (.goto off, 3)) (ht : (pc : Int) + off = (tgt : Int)) (kk : ts_JJ d mc ms M scr n0 Q k j tgt ls st g hi hk) : ts_JJ d mc ms M scr n0 Q k j pc ls st g hi hk := by
  intro p l e R s m args below meth c D ty A Z ad0 ad H locs lsA CX ha hb0 hn hwf hW hl
  exact lv_goto CX.1 CX.2.1 hd ht (kk p l e R s m args below meth c D ty A Z ad0 ad H locs lsA CX ha hb0 hn hwf hW hl)
theorem ts_if_eq {x : Int32} {off : Int} {tgt : Nat} (hp : pc + 3 = pc') (hd : decode M.2.1 pc = .ok (.ifCond .eq off, 3)) (ht : (pc : Int) + off = (tgt : Int)) (kt : x = 0 → ts_JJ d mc ms M scr n0 Q k j tgt ls st g hi hk) (kf : ¬ (x = 0) → ts_JJ d mc ms M scr n0 Q k j pc' ls st g hi hk) : ts_JJ d mc ms M scr n0 Q k j pc ls (.int x :: st) g hi hk := by
  subst hp
  intro p l e R s m args below meth c D ty A Z ad0 ad H locs lsA CX ha hb0 hn hwf hW hl
  exact lv_if_eq CX.1 CX.2.1 hd ht (fun q => kt q p l e R s m args below meth c D ty A Z ad0 ad H locs lsA CX ha hb0 hn hwf hW hl) (fun q => kf q p l e R s m args below meth c D ty A Z ad0 ad H locs lsA CX ha hb0 hn hwf hW hl)
theorem ts_icmp_eq {x y : Int32} {off : Int} {tgt : Nat} (hp : pc + 3 = pc') (hd : decode M.2.1 pc = .ok (.if_icmp .eq off, 3)) (ht : (pc : Int) + off = (tgt : Int)) (kt : x = y → ts_JJ d mc ms M scr n0 Q k j tgt ls st g hi hk) (kf : ¬ (x = y) → ts_JJ d mc ms M scr n0 Q k j pc' ls st g hi hk) : ts_JJ d mc ms M scr n0 Q k j pc ls (.int y :: .int x :: st) g hi hk := by
  subst hp
  intro p l e R s m args below meth c D ty A Z ad0 ad H locs lsA CX ha hb0 hn hwf hW hl
  exact lv_icmp_eq CX.1 CX.2.1 hd ht (fun q => kt q p l e R s m args below meth c D ty A Z ad0 ad H locs lsA CX ha hb0 hn hwf hW hl) (fun q => kf q p l e R s m args below meth c D ty A Z ad0 ad H locs lsA CX ha hb0 hn hwf hW hl)
theorem ts_if_ne {x : Int32} {off : Int} {tgt : Nat} (hp : pc + 3 = pc') (hd : decode M.2.1 pc = .ok (.ifCond .ne off, 3)) (ht : (pc : Int) + off = (tgt : Int)) (kt : x ≠ 0 → ts_JJ d mc ms M scr n0 Q k j tgt ls st g hi hk) (kf : ¬ (x ≠ 0) → ts_JJ d mc ms M scr n0 Q k j pc' ls st g hi hk) : ts_JJ d mc ms M scr n0 Q k j pc ls (.int x :: st) g hi hk := by
  subst hp
  intro p l e R s m args below meth c D ty A Z ad0 ad H locs lsA CX ha hb0 hn hwf hW hl
  exact lv_if_ne CX.1 CX.2.1 hd ht (fun q => kt q p l e R s m args below meth c D ty A Z ad0 ad H locs lsA CX ha hb0 hn hwf hW hl) (fun q => kf (fun h => h q) p l e R s m args below meth c D ty A Z ad0 ad H locs lsA CX ha hb0 hn hwf hW hl)
theorem ts_icmp_ne {x y : Int32} {off : Int} {tgt : Nat} (hp : pc + 3 = pc') (hd : decode M.2.1 pc = .ok (.if_icmp .ne off, 3)) (ht : (pc : Int) + off = (tgt : Int)) (kt : x ≠ y → ts_JJ d mc ms M scr n0 Q k j tgt ls st g hi hk) (kf : ¬ (x ≠ y) → ts_JJ d mc ms M scr n0 Q k j pc' ls st g hi hk) : ts_JJ d mc ms M scr n0 Q k j pc ls (.int y :: .int x :: st) g hi hk := by
  subst hp
  intro p l e R s m args below meth c D ty A Z ad0 ad H locs lsA CX ha hb0 hn hwf hW hl
  exact lv_icmp_ne CX.1 CX.2.1 hd ht (fun q => kt q p l e R s m args below meth c D ty A Z ad0 ad H locs lsA CX ha hb0 hn hwf hW hl) (fun q => kf (fun h => h q) p l e R s m args below meth c D ty A Z ad0 ad H locs lsA CX ha hb0 hn hwf hW hl)
theorem ts_if_lt {x : Int32} {off : Int} {tgt : Nat} (hp : pc + 3 = pc') (hd : decode M.2.1 pc = .ok (.ifCond .lt off, 3)) (ht : (pc : Int) + off = (tgt : Int)) (kt : x < 0 → ts_JJ d mc ms M scr n0 Q k j tgt ls st g hi hk) (kf : ¬ (x < 0) → ts_JJ d mc ms M scr n0 Q k j pc' ls st g hi hk) : ts_JJ d mc ms M scr n0 Q k j pc ls (.int x :: st) g hi hk := by
  subst hp
  intro p l e R s m args below meth c D ty A Z ad0 ad H locs lsA CX ha hb0 hn hwf hW hl
  exact lv_if_lt CX.1 CX.2.1 hd ht (fun q => kt q p l e R s m args below meth c D ty A Z ad0 ad H locs lsA CX ha hb0 hn hwf hW hl) (fun q => kf q p l e R s m args below meth c D ty A Z ad0 ad H locs lsA CX ha hb0 hn hwf hW hl)
theorem ts_icmp_lt {x y : Int32} {off : Int} {tgt : Nat} (hp : pc + 3 = pc') (hd : decode M.2.1 pc = .ok (.if_icmp .lt off, 3)) (ht : (pc : Int) + off = (tgt : Int)) (kt : x < y → ts_JJ d mc ms M scr n0 Q k j tgt ls st g hi hk) (kf : ¬ (x < y) → ts_JJ d mc ms M scr n0 Q k j pc' ls st g hi hk) : ts_JJ d mc ms M scr n0 Q k j pc ls (.int y :: .int x :: st) g hi hk := by
  subst hp
  intro p l e R s m args below meth c D ty A Z ad0 ad H locs lsA CX ha hb0 hn hwf hW hl
  exact lv_icmp_lt CX.1 CX.2.1 hd ht (fun q => kt q p l e R s m args below meth c D ty A Z ad0 ad H locs lsA CX ha hb0 hn hwf hW hl) (fun q => kf q p l e R s m args below meth c D ty A Z ad0 ad H locs lsA CX ha hb0 hn hwf hW hl)
theorem ts_if_ge {x : Int32} {off : Int} {tgt : Nat} (hp : pc + 3 = pc') (hd : decode M.2.1 pc = .ok (.ifCond .ge off, 3)) (ht : (pc : Int) + off = (tgt : Int)) (kt : 0 ≤ x → ts_JJ d mc ms M scr n0 Q k j tgt ls st g hi hk) (kf : ¬ (0 ≤ x) → ts_JJ d mc ms M scr n0 Q k j pc' ls st g hi hk) : ts_JJ d mc ms M scr n0 Q k j pc ls (.int x :: st) g hi hk := by
  subst hp
  intro p l e R s m args below meth c D ty A Z ad0 ad H locs lsA CX ha hb0 hn hwf hW hl
  exact lv_if_ge CX.1 CX.2.1 hd ht (fun q => kt q p l e R s m args below meth c D ty A Z ad0 ad H locs lsA CX ha hb0 hn hwf hW hl) (fun q => kf q p l e R s m args below meth c D ty A Z ad0 ad H locs lsA CX ha hb0 hn hwf hW hl)
theorem ts_icmp_ge {x y : Int32} {off : Int} {tgt : Nat} (hp : pc + 3 = pc') (hd : decode M.2.1 pc = .ok (.if_icmp .ge off, 3)) (ht : (pc : Int) + off = (tgt : Int)) (kt : y ≤ x → ts_JJ d mc ms M scr n0 Q k j tgt ls st g hi hk) (kf : ¬ (y ≤ x) → ts_JJ d mc ms M scr n0 Q k j pc' ls st g hi hk) : ts_JJ d mc ms M scr n0 Q k j pc ls (.int y :: .int x :: st) g hi hk := by
  subst hp
  intro p l e R s m args below meth c D ty A Z ad0 ad H locs lsA CX ha hb0 hn hwf hW hl
  exact lv_icmp_ge CX.1 CX.2.1 hd ht (fun q => kt q p l e R s m args below meth c D ty A Z ad0 ad H locs lsA CX ha hb0 hn hwf hW hl) (fun q => kf q p l e R s m args below meth c D ty A Z ad0 ad H locs lsA CX ha hb0 hn hwf hW hl)
theorem ts_if_gt {x : Int32} {off : Int} {tgt : Nat} (hp : pc + 3 = pc') (hd : decode M.2.1 pc = .ok (.ifCond .gt off, 3)) (ht : (pc : Int) + off = (tgt : Int)) (kt : 0 < x → ts_JJ d mc ms M scr n0 Q k j tgt ls st g hi hk) (kf : ¬ (0 < x) → ts_JJ d mc ms M scr n0 Q k j pc' ls st g hi hk) : ts_JJ d mc ms M scr n0 Q k j pc ls (.int x :: st) g hi hk := by
  subst hp
  intro p l e R s m args below meth c D ty A Z ad0 ad H locs lsA CX ha hb0 hn hwf hW hl
  exact lv_if_gt CX.1 CX.2.1 hd ht (fun q => kt q p l e R s m args below meth c D ty A Z ad0 ad H locs lsA CX ha hb0 hn hwf hW hl) (fun q => kf q p l e R s m args below meth c D ty A Z ad0 ad H locs lsA CX ha hb0 hn hwf hW hl)
theorem ts_icmp_gt {x y : Int32} {off : Int} {tgt : Nat} (hp : pc + 3 = pc') (hd : decode M.2.1 pc = .ok (.if_icmp .gt off, 3)) (ht : (pc : Int) + off = (tgt : Int)) (kt : y < x → ts_JJ d mc ms M scr n0 Q k j tgt ls st g hi hk) (kf : ¬ (y < x) → ts_JJ d mc ms M scr n0 Q k j pc' ls st g hi hk) : ts_JJ d mc ms M scr n0 Q k j pc ls (.int y :: .int x :: st) g hi hk := by
  subst hp
  intro p l e R s m args below meth c D ty A Z ad0 ad H locs lsA CX ha hb0 hn hwf hW hl
  exact lv_icmp_gt CX.1 CX.2.1 hd ht (fun q => kt q p l e R s m args below meth c D ty A Z ad0 ad H locs lsA CX ha hb0 hn hwf hW hl) (fun q => kf q p l e R s m args below meth c D ty A Z ad0 ad H locs lsA CX ha hb0 hn hwf hW hl)
theorem ts_if_le {x : Int32} {off : Int} {tgt : Nat} (hp : pc + 3 = pc') (hd : decode M.2.1 pc = .ok (.ifCond .le off, 3)) (ht : (pc : Int) + off = (tgt : Int)) (kt : x ≤ 0 → ts_JJ d mc ms M scr n0 Q k j tgt ls st g hi hk) (kf : ¬ (x ≤ 0) → ts_JJ d mc ms M scr n0 Q k j pc' ls st g hi hk) : ts_JJ d mc ms M scr n0 Q k j pc ls (.int x :: st) g hi hk := by
  subst hp
  intro p l e R s m args below meth c D ty A Z ad0 ad H locs lsA CX ha hb0 hn hwf hW hl
  exact lv_if_le CX.1 CX.2.1 hd ht (fun q => kt q p l e R s m args below meth c D ty A Z ad0 ad H locs lsA CX ha hb0 hn hwf hW hl) (fun q => kf q p l e R s m args below meth c D ty A Z ad0 ad H locs lsA CX ha hb0 hn hwf hW hl)
theorem ts_icmp_le {x y : Int32} {off : Int} {tgt : Nat} (hp : pc + 3 = pc') (hd : decode M.2.1 pc = .ok (.if_icmp .le off, 3)) (ht : (pc : Int) + off = (tgt : Int)) (kt : x ≤ y → ts_JJ d mc ms M scr n0 Q k j tgt ls st g hi hk) (kf : ¬ (x ≤ y) → ts_JJ d mc ms M scr n0 Q k j pc' ls st g hi hk) : ts_JJ d mc ms M scr n0 Q k j pc ls (.int y :: .int x :: st) g hi hk := by
  subst hp
  intro p l e R s m args below meth c D ty A Z ad0 ad H locs lsA CX ha hb0 hn hwf hW hl
  exact lv_icmp_le CX.1 CX.2.1 hd ht (fun q => kt q p l e R s m args below meth c D ty A Z ad0 ad H locs lsA CX ha hb0 hn hwf hW hl) (fun q => kf q p l e R s m args below meth c D ty A Z ad0 ad H locs lsA CX ha hb0 hn hwf hW hl)
end ts_rules

theorem ts_cE_obj {ty : Nat → ClassId} {ad : Nat → Nat} {g : ts_G} {hi : ts_I} {hk : ts_K} {a c : Nat} (h : g.2.1 a = c) (hc : c < 100) : ts_cE ty ad g hi hk a = .inr (c, ts_fs ad g hi a) := by
  subst h
  unfold ts_cE
  rw [if_neg (by omega), if_neg (by omega), if_neg (by omega), if_neg (by omega), if_neg (by omega)]
theorem ts_cE_int {ty : Nat → ClassId} {ad : Nat → Nat} {g : ts_G} {hi : ts_I} {hk : ts_K} {a : Nat} (h : g.2.1 a = 100) : ts_cE ty ad g hi hk a = .inl (ty 0, g.2.2.1 a, .inl (hi a)) := by
  unfold ts_cE
  rw [if_pos h]
theorem ts_cE_bool {ty : Nat → ClassId} {ad : Nat → Nat} {g : ts_G} {hi : ts_I} {hk : ts_K} {a : Nat} (h : g.2.1 a = 101) : ts_cE ty ad g hi hk a = .inl (ty 1, g.2.2.1 a, .inl (hi a)) := by
  unfold ts_cE
  rw [if_neg (by omega), if_pos h]
theorem ts_cE_rows {ty : Nat → ClassId} {ad : Nat → Nat} {g : ts_G} {hi : ts_I} {hk : ts_K} {a : Nat} (h : g.2.1 a = 102) : ts_cE ty ad g hi hk a = .inl (ty 2, g.2.2.1 a, .inr (.inr (.inr (.inr (fun j => ts_cr ad (g.2.2.2 a j)))))) := by
  unfold ts_cE
  rw [if_neg (by omega), if_neg (by omega), if_pos h]
theorem ts_cE_kinds {ty : Nat → ClassId} {ad : Nat → Nat} {g : ts_G} {hi : ts_I} {hk : ts_K} {a : Nat} (h : g.2.1 a = 103) : ts_cE ty ad g hi hk a = .inl (ty 3, g.2.2.1 a, .inr (.inr (.inr (.inr (fun j => ts_cr ad (hk a j)))))) := by
  unfold ts_cE
  rw [if_neg (by omega), if_neg (by omega), if_neg (by omega), if_pos h]
theorem ts_cE_flds {ty : Nat → ClassId} {ad : Nat → Nat} {g : ts_G} {hi : ts_I} {hk : ts_K} {a : Nat} (h : g.2.1 a = 104) : ts_cE ty ad g hi hk a = .inl (ty 4, g.2.2.1 a, .inr (.inr (.inr (.inr (fun j => ts_cr ad (g.2.2.2 a j)))))) := by
  unfold ts_cE
  rw [if_neg (by omega), if_neg (by omega), if_neg (by omega), if_neg (by omega), if_pos h]
theorem ts_fs_at {ad : Nat → Nat} {g : ts_G} {hi : ts_I} {a c s : Nat} (h : g.2.1 a = c) (hs : s < ts_fN c) : (ts_fs ad g hi a)[s]? = some (ts_fv ad g hi a s) := by
  subst h
  simp [ts_fs, List.getElem?_map, List.getElem?_range hs]
theorem ts_fs_len {ad : Nat → Nat} {g : ts_G} {hi : ts_I} {a c : Nat} (h : g.2.1 a = c) : (ts_fs ad g hi a).length = ts_fN c := by
  subst h
  simp [ts_fs]
theorem ts_rf_cr {ad : Nat → Nat} {r : Nat} (h : r ≠ 0) : va_rf (ts_cr ad r) = .ref (ad r) := by
  simp [ts_cr, h, va_rf]
theorem ts_up_ne {hi : ts_I} {a s b : Nat} {x : Int32} (h : b ≠ a) : ts_up hi a s x b = hi b := by
  funext t
  simp [ts_up, h]
theorem ts_uk_ne {hk : ts_K} {a s b x : Nat} (h : b ≠ a) : ts_uk hk a s x b = hk b := by
  funext t
  simp [ts_uk, h]
theorem ts_cE_upne {ty : Nat → ClassId} {ad : Nat → Nat} {g : ts_G} {hi : ts_I} {hk : ts_K} {a s b : Nat} {x : Int32} (h : b ≠ a) : ts_cE ty ad g (ts_up hi a s x) hk b = ts_cE ty ad g hi hk b := by
  unfold ts_cE ts_fs ts_fv
  rw [ts_up_ne h]
theorem ts_cE_ukne {ty : Nat → ClassId} {ad : Nat → Nat} {g : ts_G} {hi : ts_I} {hk : ts_K} {a s b x : Nat} (h : b ≠ a) : ts_cE ty ad g hi (ts_uk hk a s x) b = ts_cE ty ad g hi hk b := by
  unfold ts_cE
  rw [ts_uk_ne h]
theorem ts_fs_set {ad : Nat → Nat} {g : ts_G} {hi : ts_I} {a c s : Nat} {x : Int32} (h : g.2.1 a = c) (hR : ts_fR c s = false) : ts_fs ad g (ts_up hi a s x) a = (ts_fs ad g hi a).set s (.int x) := by
  subst h
  apply List.ext_getElem?
  intro i
  rw [List.getElem?_set]
  by_cases hi1 : i < ts_fN (g.2.1 a)
  · rw [ts_fs_at rfl hi1, ts_fs_at rfl hi1, ts_fs_len rfl]
    by_cases hs : s = i
    · subst hs
      simp [hi1, ts_fv, hR, ts_up]
    · have h2 : ¬ i = s := fun q => hs q.symm
      simp [hs, ts_fv, ts_up, h2]
  · have h1 : (ts_fs ad g (ts_up hi a s x) a)[i]? = none := by simp [ts_fs_len rfl]; omega
    have h2 : (ts_fs ad g hi a)[i]? = none := by simp [ts_fs_len rfl]; omega
    rw [h1, h2, ts_fs_len rfl]
    by_cases hs : s = i
    · rw [if_pos hs, if_neg (by omega)]
    · rw [if_neg hs]
theorem ts_wl_up {ty : Nat → ClassId} {ad : Nat → Nat} {g : ts_G} {hi : ts_I} {hk hk0 : ts_K} (hw : ts_wf g hk0) {a c s : Nat} {x : Int32} (h : g.2.1 a = c) (hc : c < 100) (hR : ts_fR c s = false) : (ts_wl ty ad g hi hk).set (a - 1) (ad a, .inr (c, (ts_fs ad g hi a).set s (.int x))) = ts_wl ty ad g (ts_up hi a s x) hk :=
  ts_wl_set hw (by omega) (by rw [ts_cE_obj h hc, ts_fs_set h hR]) (fun b hb => ts_cE_upne hb)
theorem ts_wl_ia {ty : Nat → ClassId} {ad : Nat → Nat} {g : ts_G} {hi : ts_I} {hk hk0 : ts_K} (hw : ts_wf g hk0) {a s : Nat} {x : Int32} (h : g.2.1 a = 100) : (ts_wl ty ad g hi hk).set (a - 1) (ad a, .inl (ty 0, g.2.2.1 a, .inl (upd (hi a) s x))) = ts_wl ty ad g (ts_up hi a s x) hk :=
  ts_wl_set hw (by omega) (by rw [ts_cE_int h]; congr; funext j; simp [ts_up, upd]) (fun b hb => ts_cE_upne hb)
theorem ts_wl_za {ty : Nat → ClassId} {ad : Nat → Nat} {g : ts_G} {hi : ts_I} {hk hk0 : ts_K} (hw : ts_wf g hk0) {a s : Nat} {x : Int32} (h : g.2.1 a = 101) : (ts_wl ty ad g hi hk).set (a - 1) (ad a, .inl (ty 1, g.2.2.1 a, .inl (upd (hi a) s x))) = ts_wl ty ad g (ts_up hi a s x) hk :=
  ts_wl_set hw (by omega) (by rw [ts_cE_bool h]; congr; funext j; simp [ts_up, upd]) (fun b hb => ts_cE_upne hb)
theorem ts_wl_ka {ty : Nat → ClassId} {ad : Nat → Nat} {g : ts_G} {hi : ts_I} {hk hk0 : ts_K} (hw : ts_wf g hk0) {a s r : Nat} (h : g.2.1 a = 103) (hr : r ≠ 0) : (ts_wl ty ad g hi hk).set (a - 1) (ad a, .inl (ty 3, g.2.2.1 a, .inr (.inr (.inr (.inr (va_up (fun j => ts_cr ad (hk a j)) s (some (ad r)))))))) = ts_wl ty ad g hi (ts_uk hk a s r) :=
  ts_wl_set hw (by omega) (by
    rw [ts_cE_kinds h]
    congr
    funext j
    by_cases hj : j = s
    · simp [ts_uk, va_up, ts_cr, hj, hr]
    · simp [ts_uk, va_up, hj]) (fun b hb => ts_cE_ukne hb)
/-- n numbers of cell b from i on come to cell a from j on -/
def ts_cp (hi : ts_I) (b i a j n : Nat) : ts_I := fun c t => if c = a ∧ j ≤ t ∧ t < j + n then hi b (i + (t - j)) else hi c t
theorem ts_wl_cp {ty : Nat → ClassId} {ad : Nat → Nat} {g : ts_G} {hi : ts_I} {hk hk0 : ts_K} (hw : ts_wf g hk0) {a b i j n : Nat} (h : g.2.1 a = 100) : (ts_wl ty ad g hi hk).set (a - 1) (ad a, .inl (ty 0, g.2.2.1 a, .inl (va_cpy (hi b) (hi a) i j n))) = ts_wl ty ad g (ts_cp hi b i a j n) hk :=
  ts_wl_set hw (by omega) (by rw [ts_cE_int h]; congr; funext t; simp [ts_cp, va_cpy]) (fun c hc => by
    have e : ts_cp hi b i a j n c = hi c := by funext t; simp [ts_cp, hc]
    unfold ts_cE ts_fs ts_fv
    rw [e])
def ts_okv (n : Nat) (v : Value) : Prop := ∀ a, v = .ref a → a ≤ n
theorem ts_okv_cv {n : Nat} {ad ad' : Nat → Nat} {v : Value} (h : ts_okv n v) (ha : ∀ i, i ≤ n → ad' i = ad i) : ts_cv ad' v = ts_cv ad v := by
  cases v with
  | ref a => exact congrArg Value.ref (ha a (h a rfl))
  | _ => rfl

section ts_rules
variable {d mc ms : Nat} {M : ts_M} {scr : Option (Nat × (Nat → Int32))} {n0 : Nat} {Q : ts_Q} {k j pc pc' : Nat} {ls ls' : List (Nat × Value)} {st : List Value} {g : ts_G} {hi : ts_I} {hk : ts_K}


theorem ts_getI {C : String} {T : u_T} {N ci index : Nat} {a : Nat} (fk : Nat) (hc : vwCl[ci]? = some (C, T, N)) (hN : ts_fN ci = N) (h100 : ci < 100) (hR : ts_fR ci fk = false) (hkN : fk < N) (hin : ∀ w ∈ u_ws C T N, w ∈ M.2.2.2.2) (hlk : Cond.fieldLink M.1.cls index (T fk).1 (T fk).2.1 (T fk).2.2.1 ∈ M.2.2.2.2) (hp : pc + 3 = pc') (hd : decode M.2.1 pc = .ok (.getfield index, 3)) (hca : g.2.1 a = ci) (kk : ts_JJ d mc ms M scr n0 Q k j pc' ls (.int (hi a fk) :: st) g hi hk) : ts_JJ d mc ms M scr n0 Q k j pc ls (.ref a :: st) g hi hk := by
  subst hp
  intro p l e R s m args below meth c D ty A Z ad0 ad H locs lsA CX ha hb0 hn hwf hW hl
  exact va_get (D := D) (ci := ci) (v := .int (hi a fk)) CX.1 CX.2.1 CX.2.2.2.2.1 hin CX.2.2.2.1 CX.2.2.2.2.2.2.2.1.1 hW.1 (a - 1) (fs := ts_fs ad g hi a) (by rw [ts_wl_at hwf (by omega), ts_cE_obj hca h100]) hc fk hkN (CX.2.2.2.2.1 _ hlk) (fun _ h9 => h9) (by rw [ts_fs_at hca (by omega)]; simp [ts_fv, hca, hR]) hd (kk p l e R s m args below meth c D ty A Z ad0 ad H locs lsA CX ha hb0 hn hwf hW hl)
theorem ts_getR {C : String} {T : u_T} {N ci index : Nat} {a : Nat} (fk : Nat) (hc : vwCl[ci]? = some (C, T, N)) (hN : ts_fN ci = N) (h100 : ci < 100) (hR : ts_fR ci fk = true) (hkN : fk < N) (hin : ∀ w ∈ u_ws C T N, w ∈ M.2.2.2.2) (hlk : Cond.fieldLink M.1.cls index (T fk).1 (T fk).2.1 (T fk).2.2.1 ∈ M.2.2.2.2) (hp : pc + 3 = pc') (hd : decode M.2.1 pc = .ok (.getfield index, 3)) (hca : g.2.1 a = ci) (h0 : g.2.2.2 a fk ≠ 0) (kk : ts_JJ d mc ms M scr n0 Q k j pc' ls (.ref (g.2.2.2 a fk) :: st) g hi hk) : ts_JJ d mc ms M scr n0 Q k j pc ls (.ref a :: st) g hi hk := by
  subst hp
  intro p l e R s m args below meth c D ty A Z ad0 ad H locs lsA CX ha hb0 hn hwf hW hl
  exact va_get (D := D) (ci := ci) (v := .ref (ad (g.2.2.2 a fk))) CX.1 CX.2.1 CX.2.2.2.2.1 hin CX.2.2.2.1 CX.2.2.2.2.2.2.2.1.1 hW.1 (a - 1) (fs := ts_fs ad g hi a) (by rw [ts_wl_at hwf (by omega), ts_cE_obj hca h100]) hc fk hkN (CX.2.2.2.2.1 _ hlk) (fun _ h9 => h9) (by rw [ts_fs_at hca (by omega)]; simp [ts_fv, hca, hR, ts_rf_cr h0]) hd (kk p l e R s m args below meth c D ty A Z ad0 ad H locs lsA CX ha hb0 hn hwf hW hl)
theorem ts_putI {x : Int32} {C : String} {T : u_T} {N ci index : Nat} {a : Nat} (fk : Nat) (hc : vwCl[ci]? = some (C, T, N)) (hN : ts_fN ci = N) (h100 : ci < 100) (hR : ts_fR ci fk = false) (hkN : fk < N) (hin : ∀ w ∈ u_ws C T N, w ∈ M.2.2.2.2) (hlk : Cond.fieldLink M.1.cls index (T fk).1 (T fk).2.1 (T fk).2.2.1 ∈ M.2.2.2.2) {ty0 : Nat → FieldType} (hty : ∀ k, k < N → parseFieldDescriptor (T k).2.2.1 = some (ty0 k)) (hnm : ∀ a, a < N → ∀ b, b < N → a ≠ b → (T a).2.1 ≠ (T b).2.1) (hfin : (T fk).2.2.2 = false) (hdt : parseFieldDescriptor (T fk).2.2.1 = some .int) (hp : pc + 3 = pc') (hd : decode M.2.1 pc = .ok (.putfield index, 3)) (hca : g.2.1 a = ci) (kk : ts_JJ d mc ms M scr n0 Q k j pc' ls st g (ts_up hi a fk x) hk) : ts_JJ d mc ms M scr n0 Q k j pc ls (.int x :: .ref a :: st) g hi hk := by
  subst hp
  intro p l e R s m args below meth c D ty A Z ad0 ad H locs lsA CX ha hb0 hn hwf hW hl
  refine va_put (D := D) (ci := ci) (v := .int x) (ty := .int) CX.1 CX.2.1 CX.2.2.2.2.1 hin ty0 hty hnm CX.2.2.2.1 CX.2.2.2.2.2.2.2.1.1 hW.1 hW.2.1 hW.2.2 (a - 1) (fs := ts_fs ad g hi a) (by rw [ts_wl_at hwf (by omega), ts_cE_obj hca h100]) hc fk hkN (CX.2.2.2.2.1 _ hlk) (fun _ h9 => h9) hfin hdt rfl rfl (by rw [ts_fs_len hca]; omega) hd (fun H1 locs1 hP hD hS => ?_)
  rw [ts_wl_up hwf hca h100 hR] at hP hD
  exact kk p l e R s m args below meth c D ty A Z ad0 ad H1 locs1 lsA CX ha hb0 hn hwf ⟨hP, hD, hS⟩ hl
theorem ts_putZ {x : Int32} {C : String} {T : u_T} {N ci index : Nat} {a : Nat} (fk : Nat) (hc : vwCl[ci]? = some (C, T, N)) (hN : ts_fN ci = N) (h100 : ci < 100) (hR : ts_fR ci fk = false) (hkN : fk < N) (hin : ∀ w ∈ u_ws C T N, w ∈ M.2.2.2.2) (hlk : Cond.fieldLink M.1.cls index (T fk).1 (T fk).2.1 (T fk).2.2.1 ∈ M.2.2.2.2) {ty0 : Nat → FieldType} (hty : ∀ k, k < N → parseFieldDescriptor (T k).2.2.1 = some (ty0 k)) (hnm : ∀ a, a < N → ∀ b, b < N → a ≠ b → (T a).2.1 ≠ (T b).2.1) (hfin : (T fk).2.2.2 = false) (hdt : parseFieldDescriptor (T fk).2.2.1 = some .boolean) (hp : pc + 3 = pc') (hd : decode M.2.1 pc = .ok (.putfield index, 3)) (hca : g.2.1 a = ci) (hx : x = 0 ∨ x = 1) (kk : ts_JJ d mc ms M scr n0 Q k j pc' ls st g (ts_up hi a fk x) hk) : ts_JJ d mc ms M scr n0 Q k j pc ls (.int x :: .ref a :: st) g hi hk := by
  subst hp
  intro p l e R s m args below meth c D ty A Z ad0 ad H locs lsA CX ha hb0 hn hwf hW hl
  refine va_put (D := D) (ci := ci) (v := .int x) (ty := .boolean) CX.1 CX.2.1 CX.2.2.2.2.1 hin ty0 hty hnm CX.2.2.2.1 CX.2.2.2.2.2.2.2.1.1 hW.1 hW.2.1 hW.2.2 (a - 1) (fs := ts_fs ad g hi a) (by rw [ts_wl_at hwf (by omega), ts_cE_obj hca h100]) hc fk hkN (CX.2.2.2.2.1 _ hlk) (fun _ h9 => h9) hfin hdt (by rcases hx with rfl | rfl <;> rfl) (by rcases hx with rfl | rfl <;> rfl) (by rw [ts_fs_len hca]; omega) hd (fun H1 locs1 hP hD hS => ?_)
  rw [ts_wl_up hwf hca h100 hR] at hP hD
  exact kk p l e R s m args below meth c D ty A Z ad0 ad H1 locs1 lsA CX ha hb0 hn hwf ⟨hP, hD, hS⟩ hl
theorem ts_iaload {a : Nat} {i : Int32} (hp : pc + 1 = pc') (hd : decode M.2.1 pc = .ok (.iaload, 1)) (hca : g.2.1 a = 100) (hin : vp_in i (g.2.2.1 a)) (kk : ts_JJ d mc ms M scr n0 Q k j pc' ls (.int (hi a i.toNatClampNeg) :: st) g hi hk) : ts_JJ d mc ms M scr n0 Q k j pc ls (.int i :: .ref a :: st) g hi hk := by
  subst hp
  intro p l e R s m args below meth c D ty A Z ad0 ad H locs lsA CX ha hb0 hn hwf hW hl
  exact va_iald CX.1 CX.2.1 CX.2.2.2.2.2.2.2.1.1 hW.1 (a - 1) 0 (cA := ty 0) (n := g.2.2.1 a) (f := hi a) (by rw [ts_wl_at hwf (by omega), ts_cE_int hca]) rfl hin hd (kk p l e R s m args below meth c D ty A Z ad0 ad H locs lsA CX ha hb0 hn hwf hW hl)
theorem ts_zaload {a : Nat} {i : Int32} (hp : pc + 1 = pc') (hd : decode M.2.1 pc = .ok (.baload, 1)) (hca : g.2.1 a = 101) (hin : vp_in i (g.2.2.1 a)) (kk : ts_JJ d mc ms M scr n0 Q k j pc' ls (.int (hi a i.toNatClampNeg) :: st) g hi hk) : ts_JJ d mc ms M scr n0 Q k j pc ls (.int i :: .ref a :: st) g hi hk := by
  subst hp
  intro p l e R s m args below meth c D ty A Z ad0 ad H locs lsA CX ha hb0 hn hwf hW hl
  exact va_zald CX.1 CX.2.1 CX.2.2.2.2.2.2.2.1.1 hW.1 (a - 1) 1 (cA := ty 1) (n := g.2.2.1 a) (f := hi a) (by rw [ts_wl_at hwf (by omega), ts_cE_bool hca]) rfl hin hd (kk p l e R s m args below meth c D ty A Z ad0 ad H locs lsA CX ha hb0 hn hwf hW hl)
theorem ts_iastore {a : Nat} {i x : Int32} (hp : pc + 1 = pc') (hd : decode M.2.1 pc = .ok (.iastore, 1)) (hca : g.2.1 a = 100) (hin : vp_in i (g.2.2.1 a)) (kk : ts_JJ d mc ms M scr n0 Q k j pc' ls st g (ts_up hi a i.toNatClampNeg x) hk) : ts_JJ d mc ms M scr n0 Q k j pc ls (.int x :: .int i :: .ref a :: st) g hi hk := by
  subst hp
  intro p l e R s m args below meth c D ty A Z ad0 ad H locs lsA CX ha hb0 hn hwf hW hl
  refine va_iast CX.1 CX.2.1 CX.2.2.2.2.2.2.2.1.1 hW.1 hW.2.1 hW.2.2 (a - 1) 0 (cA := ty 0) (n := g.2.2.1 a) (f := hi a) (by rw [ts_wl_at hwf (by omega), ts_cE_int hca]) rfl hin hd (fun H1 locs1 hP hD hS => ?_)
  rw [ts_wl_ia hwf hca] at hP hD
  exact kk p l e R s m args below meth c D ty A Z ad0 ad H1 locs1 lsA CX ha hb0 hn hwf ⟨hP, hD, hS⟩ hl
theorem ts_zastore {a : Nat} {i x : Int32} (hp : pc + 1 = pc') (hd : decode M.2.1 pc = .ok (.bastore, 1)) (hca : g.2.1 a = 101) (hin : vp_in i (g.2.2.1 a)) (hx : vp_nar .boolean x = x) (kk : ts_JJ d mc ms M scr n0 Q k j pc' ls st g (ts_up hi a i.toNatClampNeg x) hk) : ts_JJ d mc ms M scr n0 Q k j pc ls (.int x :: .int i :: .ref a :: st) g hi hk := by
  subst hp
  intro p l e R s m args below meth c D ty A Z ad0 ad H locs lsA CX ha hb0 hn hwf hW hl
  refine va_zast CX.1 CX.2.1 CX.2.2.2.2.2.2.2.1.1 hW.1 hW.2.1 hW.2.2 (a - 1) 1 (cA := ty 1) (n := g.2.2.1 a) (f := hi a) (by rw [ts_wl_at hwf (by omega), ts_cE_bool hca]) rfl hin hd (fun H1 locs1 hP hD hS => ?_)
  rw [hx, ts_wl_za hwf hca] at hP hD
  exact kk p l e R s m args below meth c D ty A Z ad0 ad H1 locs1 lsA CX ha hb0 hn hwf ⟨hP, hD, hS⟩ hl
theorem ts_aaloadR {a : Nat} {i : Int32} (hp : pc + 1 = pc') (hd : decode M.2.1 pc = .ok (.aaload, 1)) (hca : g.2.1 a = 102) (hin : vp_in i (g.2.2.1 a)) (h0 : g.2.2.2 a i.toNatClampNeg ≠ 0) (kk : ts_JJ d mc ms M scr n0 Q k j pc' ls (.ref (g.2.2.2 a i.toNatClampNeg) :: st) g hi hk) : ts_JJ d mc ms M scr n0 Q k j pc ls (.int i :: .ref a :: st) g hi hk := by
  subst hp
  intro p l e R s m args below meth c D ty A Z ad0 ad H locs lsA CX ha hb0 hn hwf hW hl
  refine va_aldq CX.1 CX.2.1 CX.2.2.2.2.2.2.2.1.1 hW.1 (a - 1) 2 (cA := ty 2) (n := g.2.2.1 a) (f := fun j => ts_cr ad (g.2.2.2 a j)) (by rw [ts_wl_at hwf (by omega), ts_cE_rows hca]) rfl hin hd ?_
  have e9 : va_rf (ts_cr ad (g.2.2.2 a i.toNatClampNeg)) = .ref (ad (g.2.2.2 a i.toNatClampNeg)) := ts_rf_cr h0
  have k1 := kk p l e R s m args below meth c D ty A Z ad0 ad H locs lsA CX ha hb0 hn hwf hW hl
  rw [List.map_cons] at k1
  show W p l e R s m args below meth c H locs k j Z (F0 m (pc + 1) lsA (va_rf (ts_cr ad (g.2.2.2 a i.toNatClampNeg)) :: _))
  rw [e9]
  exact k1
theorem ts_aaloadK {a : Nat} {i : Int32} (hp : pc + 1 = pc') (hd : decode M.2.1 pc = .ok (.aaload, 1)) (hca : g.2.1 a = 103) (hin : vp_in i (g.2.2.1 a)) (h0 : hk a i.toNatClampNeg ≠ 0) (kk : ts_JJ d mc ms M scr n0 Q k j pc' ls (.ref (hk a i.toNatClampNeg) :: st) g hi hk) : ts_JJ d mc ms M scr n0 Q k j pc ls (.int i :: .ref a :: st) g hi hk := by
  subst hp
  intro p l e R s m args below meth c D ty A Z ad0 ad H locs lsA CX ha hb0 hn hwf hW hl
  refine va_aldq CX.1 CX.2.1 CX.2.2.2.2.2.2.2.1.1 hW.1 (a - 1) 3 (cA := ty 3) (n := g.2.2.1 a) (f := fun j => ts_cr ad (hk a j)) (by rw [ts_wl_at hwf (by omega), ts_cE_kinds hca]) rfl hin hd ?_
  have e9 : va_rf (ts_cr ad (hk a i.toNatClampNeg)) = .ref (ad (hk a i.toNatClampNeg)) := ts_rf_cr h0
  have k1 := kk p l e R s m args below meth c D ty A Z ad0 ad H locs lsA CX ha hb0 hn hwf hW hl
  rw [List.map_cons] at k1
  show W p l e R s m args below meth c H locs k j Z (F0 m (pc + 1) lsA (va_rf (ts_cr ad (hk a i.toNatClampNeg)) :: _))
  rw [e9]
  exact k1
theorem ts_aaloadF {a : Nat} {i : Int32} (hp : pc + 1 = pc') (hd : decode M.2.1 pc = .ok (.aaload, 1)) (hca : g.2.1 a = 104) (hin : vp_in i (g.2.2.1 a)) (h0 : g.2.2.2 a i.toNatClampNeg ≠ 0) (kk : ts_JJ d mc ms M scr n0 Q k j pc' ls (.ref (g.2.2.2 a i.toNatClampNeg) :: st) g hi hk) : ts_JJ d mc ms M scr n0 Q k j pc ls (.int i :: .ref a :: st) g hi hk := by
  subst hp
  intro p l e R s m args below meth c D ty A Z ad0 ad H locs lsA CX ha hb0 hn hwf hW hl
  refine va_aldq CX.1 CX.2.1 CX.2.2.2.2.2.2.2.1.1 hW.1 (a - 1) 4 (cA := ty 4) (n := g.2.2.1 a) (f := fun j => ts_cr ad (g.2.2.2 a j)) (by rw [ts_wl_at hwf (by omega), ts_cE_flds hca]) rfl hin hd ?_
  have e9 : va_rf (ts_cr ad (g.2.2.2 a i.toNatClampNeg)) = .ref (ad (g.2.2.2 a i.toNatClampNeg)) := ts_rf_cr h0
  have k1 := kk p l e R s m args below meth c D ty A Z ad0 ad H locs lsA CX ha hb0 hn hwf hW hl
  rw [List.map_cons] at k1
  show W p l e R s m args below meth c H locs k j Z (F0 m (pc + 1) lsA (va_rf (ts_cr ad (g.2.2.2 a i.toNatClampNeg)) :: _))
  rw [e9]
  exact k1
theorem ts_aastoreK {a r ci : Nat} {i : Int32} {C : String} {T : u_T} {N : Nat} (hp : pc + 1 = pc') (hd : decode M.2.1 pc = .ok (.aastore, 1)) (hca : g.2.1 a = 103) (hin : vp_in i (g.2.2.1 a)) (hcr : g.2.1 r = ci) (h100 : ci < 100) (hc : vwCl[ci]? = some (C, T, N)) (hcas : (C, RX2) ∈ ts_cas) (kk : ts_JJ d mc ms M scr n0 Q k j pc' ls st g hi (ts_uk hk a i.toNatClampNeg r)) : ts_JJ d mc ms M scr n0 Q k j pc ls (.ref r :: .int i :: .ref a :: st) g hi hk := by
  subst hp
  intro p l e R s m args below meth c D ty A Z ad0 ad H locs lsA CX ha hb0 hn hwf hW hl
  have hr0 := hwf.1 r (by omega)
  refine va_astqO (E := RX2) CX.1 CX.2.1 CX.2.2.2.2.2.2.2.1.1 hW.1 hW.2.1 hW.2.2 (a - 1) 3 (r - 1) ci (cA := ty 3) (r := (C, T, N)) (n := g.2.2.1 a) (vs := ts_fs ad g hi r) (f := fun j => ts_cr ad (hk a j)) (by rw [ts_wl_at hwf (by omega), ts_cE_kinds hca]) rfl (CX.2.2.2.2.2.2.2.1.2.1 _ hcas) (by rw [ts_wl_at hwf (by omega), ts_cE_obj hcr h100]) hc hin hd (fun H1 locs1 hP hD hS => ?_)
  rw [ts_wl_ka hwf hca (by omega)] at hP hD
  refine kk p l e R s m args below meth c D ty A Z ad0 ad H1 locs1 lsA CX ha hb0 hn ⟨hwf.1, hwf.2.1, fun b t => ?_⟩ ⟨hP, hD, hS⟩ hl
  by_cases hbt : b = a ∧ t = i.toNatClampNeg
  · simp only [ts_uk, if_pos hbt]; exact hr0.2
  · simp only [ts_uk, if_neg hbt]; exact hwf.2.2 b t
theorem ts_alen {a : Nat} {v : Int32} (hp : pc + 1 = pc') (hd : decode M.2.1 pc = .ok (.arraylength, 1)) (hca : g.2.1 a = 100 ∨ g.2.1 a = 103) (hv : Int32.ofNat (g.2.2.1 a) = v) (kk : ts_JJ d mc ms M scr n0 Q k j pc' ls (.int v :: st) g hi hk) : ts_JJ d mc ms M scr n0 Q k j pc ls (.ref a :: st) g hi hk := by
  subst hp
  intro p l e R s m args below meth c D ty A Z ad0 ad H locs lsA CX ha hb0 hn hwf hW hl
  rcases hca with hca | hca
  · exact va_alen CX.1 CX.2.1 CX.2.2.2.2.2.2.2.1.1 hW.1 (a - 1) 0 (cA := ty 0) (x := (g.2.2.1 a, .inl (hi a))) (by rw [ts_wl_at hwf (by omega), ts_cE_int hca]) rfl hv hd (kk p l e R s m args below meth c D ty A Z ad0 ad H locs lsA CX ha hb0 hn hwf hW hl)
  · exact va_alen CX.1 CX.2.1 CX.2.2.2.2.2.2.2.1.1 hW.1 (a - 1) 3 (cA := ty 3) (x := (g.2.2.1 a, .inr (.inr (.inr (.inr (fun j => ts_cr ad (hk a j))))))) (by rw [ts_wl_at hwf (by omega), ts_cE_kinds hca]) rfl hv hd (kk p l e R s m args below meth c D ty A Z ad0 ad H locs lsA CX ha hb0 hn hwf hW hl)
theorem ts_sld {L : Nat} {xs : Nat → Int32} {i : Int32} (hp : pc + 1 = pc') (hd : decode M.2.1 pc = .ok (.iaload, 1)) (hin : vp_in i L) (kk : ts_JJ d mc ms M (some (L, xs)) n0 Q k j pc' ls (.int (xs i.toNatClampNeg) :: st) g hi hk) : ts_JJ d mc ms M (some (L, xs)) n0 Q k j pc ls (.int i :: .ref 0 :: st) g hi hk := by
  subst hp
  intro p l e R s m args below meth c D ty A Z ad0 ad H locs lsA CX ha hb0 hn hwf hW hl
  have hsc := CX.2.2.2.2.2.2.2.2.2.1
  simp only [ts_sc] at hsc
  have e9 : ad 0 = ad0 0 := ha 0 (Nat.zero_le _)
  have k1 := kk p l e R s m args below meth c D ty A Z ad0 ad H locs lsA CX ha hb0 hn hwf hW hl
  refine va_sld (b := ad 0) CX.1 CX.2.1 (by rw [e9]; exact hsc.1) (by rw [e9]; exact hsc.2.1) (by rw [e9]; exact hsc.2.2) hW.2.2 hin hd k1
theorem ts_slen {L : Nat} {xs : Nat → Int32} (hp : pc + 1 = pc') (hd : decode M.2.1 pc = .ok (.arraylength, 1)) (kk : ts_JJ d mc ms M (some (L, xs)) n0 Q k j pc' ls (.int (Int32.ofNat L) :: st) g hi hk) : ts_JJ d mc ms M (some (L, xs)) n0 Q k j pc ls (.ref 0 :: st) g hi hk := by
  subst hp
  intro p l e R s m args below meth c D ty A Z ad0 ad H locs lsA CX ha hb0 hn hwf hW hl
  have hsc := CX.2.2.2.2.2.2.2.2.2.1
  simp only [ts_sc] at hsc
  have e9 : ad 0 = ad0 0 := ha 0 (Nat.zero_le _)
  have k1 := kk p l e R s m args below meth c D ty A Z ad0 ad H locs lsA CX ha hb0 hn hwf hW hl
  refine va_slen (b := ad 0) CX.1 CX.2.1 (by rw [e9]; exact hsc.1) (by rw [e9]; exact hsc.2.1) (by rw [e9]; exact hsc.2.2) hW.2.2 hd k1
theorem ts_instY {a ci index : Nat} {C nm : String} {T : u_T} {N : Nat} (hp : pc + 3 = pc') (hd : decode M.2.1 pc = .ok (.instanceof index, 3)) (hlk : Cond.classLink M.1.cls index nm ∈ M.2.2.2.2) (hca : g.2.1 a = ci) (h100 : ci < 100) (hc : vwCl[ci]? = some (C, T, N)) (hcas : (C, nm) ∈ ts_cas) (kk : ts_JJ d mc ms M scr n0 Q k j pc' ls (.int 1 :: st) g hi hk) : ts_JJ d mc ms M scr n0 Q k j pc ls (.ref a :: st) g hi hk := by
  subst hp
  intro p l e R s m args below meth c D ty A Z ad0 ad H locs lsA CX ha hb0 hn hwf hW hl
  exact va_instY CX.1 CX.2.1 CX.2.2.2.1 (CX.2.2.2.2.1 _ hlk) (CX.2.2.2.2.2.2.2.1.2.1 _ hcas) (va_recv (q0 := a - 1) (ci := ci) CX.2.2.2.2.2.2.2.1.1 hW.1 hc (by rw [ts_wl_at hwf (by omega), ts_cE_obj hca h100])) hd (kk p l e R s m args below meth c D ty A Z ad0 ad H locs lsA CX ha hb0 hn hwf hW hl)
theorem ts_instN {a ci index : Nat} {C nm : String} {T : u_T} {N : Nat} (hp : pc + 3 = pc') (hd : decode M.2.1 pc = .ok (.instanceof index, 3)) (hlk : Cond.classLink M.1.cls index nm ∈ M.2.2.2.2) (hca : g.2.1 a = ci) (h100 : ci < 100) (hc : vwCl[ci]? = some (C, T, N)) (hcas : (C, nm) ∈ ts_nca) (kk : ts_JJ d mc ms M scr n0 Q k j pc' ls (.int 0 :: st) g hi hk) : ts_JJ d mc ms M scr n0 Q k j pc ls (.ref a :: st) g hi hk := by
  subst hp
  intro p l e R s m args below meth c D ty A Z ad0 ad H locs lsA CX ha hb0 hn hwf hW hl
  exact va_instNo CX.1 CX.2.1 CX.2.2.2.1 (CX.2.2.2.2.1 _ hlk) (CX.2.2.2.2.2.2.2.1.2.2.1 _ hcas) (va_recv (q0 := a - 1) (ci := ci) CX.2.2.2.2.2.2.2.1.1 hW.1 hc (by rw [ts_wl_at hwf (by omega), ts_cE_obj hca h100])) hd (kk p l e R s m args below meth c D ty A Z ad0 ad H locs lsA CX ha hb0 hn hwf hW hl)
theorem ts_instS {a ci index : Nat} {C : String} {T : u_T} {N : Nat} (hp : pc + 3 = pc') (hd : decode M.2.1 pc = .ok (.instanceof index, 3)) (hlk : Cond.classLink M.1.cls index C ∈ M.2.2.2.2) (hca : g.2.1 a = ci) (h100 : ci < 100) (hc : vwCl[ci]? = some (C, T, N)) (kk : ts_JJ d mc ms M scr n0 Q k j pc' ls (.int 1 :: st) g hi hk) : ts_JJ d mc ms M scr n0 Q k j pc ls (.ref a :: st) g hi hk := by
  subst hp
  intro p l e R s m args below meth c D ty A Z ad0 ad H locs lsA CX ha hb0 hn hwf hW hl
  exact va_instS CX.1 CX.2.1 CX.2.2.2.1 (CX.2.2.2.2.1 _ hlk) (CX.2.2.2.2.2.2.2.1.1.1 ci (C, T, N) hc).2 (va_recv (q0 := a - 1) (ci := ci) CX.2.2.2.2.2.2.2.1.1 hW.1 hc (by rw [ts_wl_at hwf (by omega), ts_cE_obj hca h100])) hd (kk p l e R s m args below meth c D ty A Z ad0 ad H locs lsA CX ha hb0 hn hwf hW hl)
theorem ts_mmin {x y : Int32} {index : Nat} (hp : pc + 3 = pc') (hd : decode M.2.1 pc = .ok (.invokestatic index, 3)) (h1 : Cond.methodLink M.1.cls index Lib.Math.min.name ∈ M.2.2.2.2) (h2 : Cond.static Lib.Math.min.name ∈ M.2.2.2.2) (h3 : Cond.initialized "java/lang/Math" ∈ M.2.2.2.2) (h4 : Cond.code Lib.Math.min.name Lib.Math.min.code 2 (some .int) ∈ M.2.2.2.2) (hd0 : 1 ≤ d) (hsum : (st.map fun v => v.category).sum ≤ 8) (hk1 : k ≤ mc) (hj1 : j ≤ ms) (kk : ts_JJ d mc ms M scr n0 Q k j pc' ls (.int (if y < x then y else x) :: st) g hi hk) : ts_JJ d mc ms M scr n0 Q k j pc ls (.int y :: .int x :: st) g hi hk := by
  subst hp
  intro p l e R s m args below meth c D ty A Z ad0 ad H locs lsA CX ha hb0 hn hwf hW hl
  have hR := CX.2.2.2.2.2.2.1
  exact va_mmin CX.1 CX.2.1 (CX.2.2.1.trans hl.1.symm) CX.2.2.2.1 (CX.2.2.2.2.1 _ h1) (CX.2.2.2.2.1 _ h2) (CX.2.2.2.2.1 _ h3) (CX.2.2.2.2.1 _ h4) (by omega) (by rw [ts_cv_sum]; omega) (by omega) (by omega) hd (kk p l e R s m args below meth c D ty A Z ad0 ad H locs lsA CX ha hb0 hn hwf hW hl)
theorem ts_acopy {sp dp n : Int32} {a b index : Nat} (hp : pc + 3 = pc') (hd : decode M.2.1 pc = .ok (.invokestatic index, 3)) (h1 : Cond.methodLink M.1.cls index arraycopyName ∈ M.2.2.2.2) (h2 : Cond.native arraycopyName ∈ M.2.2.2.2) (h3 : Cond.static arraycopyName ∈ M.2.2.2.2) (h4 : Cond.initialized "java/lang/System" ∈ M.2.2.2.2) (hd0 : 1 ≤ d) (hsum : (st.map fun v => v.category).sum ≤ 8) (hcb : g.2.1 b = 100) (hca : g.2.1 a = 100) (g1 : ¬ sp < 0) (g2 : ¬ dp < 0) (g3 : ¬ n < 0) (g4 : sp.toNatClampNeg + n.toNatClampNeg ≤ g.2.2.1 b) (g5 : dp.toNatClampNeg + n.toNatClampNeg ≤ g.2.2.1 a) (kk : ts_JJ d mc ms M scr n0 Q k j pc' ls st g (ts_cp hi b sp.toNatClampNeg a dp.toNatClampNeg n.toNatClampNeg) hk) : ts_JJ d mc ms M scr n0 Q k j pc ls (.int n :: .int dp :: .ref a :: .int sp :: .ref b :: st) g hi hk := by
  subst hp
  intro p l e R s m args below meth c D ty A Z ad0 ad H locs lsA CX ha hb0 hn hwf hW hl
  have hR := CX.2.2.2.2.2.2.1
  have hz : nativeFrameWords "java/lang/System" "arraycopy" 5 ≤ 30 := by decide
  refine va_copyi (ty := .int) CX.1 CX.2.1 (CX.2.2.1.trans hl.1.symm) CX.2.2.2.1 (CX.2.2.2.2.1 _ h1) (CX.2.2.2.2.1 _ h2) (CX.2.2.2.2.1 _ h3) (CX.2.2.2.2.1 _ h4) CX.2.2.2.2.2.2.2.1.1 hW.1 hW.2.1 hW.2.2 (b - 1) (a - 1) 0 0 (c0 := ty 0) (c1 := ty 0) (n0 := g.2.2.1 b) (n1 := g.2.2.1 a) (f := hi b) (g := hi a) (by rw [ts_wl_at hwf (by omega), ts_cE_int hcb]) (by rw [ts_wl_at hwf (by omega), ts_cE_int hca]) rfl rfl rfl g1 g2 g3 g4 g5 (fun _ _ => rfl) (by omega) (by rw [ts_cv_sum]; omega) hd (fun H1 locs1 hP hD hS => ?_)
  rw [ts_wl_cp hwf hca] at hP hD
  exact kk p l e R s m args below meth c D ty A Z ad0 ad H1 locs1 lsA CX ha hb0 hn hwf ⟨hP, hD, hS⟩ hl
theorem ts_end {r : Option Value} {stk : List Value} (hr : ts_rt M r stk pc) (hk1 : k ≤ mc) (hj1 : j ≤ ms) (hQ : Q r g hi hk) : ts_JJ d mc ms M scr n0 Q k j pc ls stk g hi hk := by
  intro p l e R s m args below meth c D ty A Z ad0 ad H locs lsA CX ha hb0 hn hwf hW hl
  refine W.widen hk1 hj1 ?_
  exact CX.2.2.2.2.2.2.2.2.2.2 r stk pc g hi hk ad H locs lsA hr hQ ha hb0 hn hwf hW
theorem ts_iret {v : Int32} (hd : decode M.2.1 pc = .ok (.ireturn, 1)) (ht : M.2.2.2.1 = some .int) (hk1 : k ≤ mc) (hj1 : j ≤ ms) (hQ : Q (some (.int v)) g hi hk) : ts_JJ d mc ms M scr n0 Q k j pc ls [.int v] g hi hk :=
  ts_end (Or.inr (Or.inl ⟨v, .int, rfl, rfl, ht, rfl, hd⟩)) hk1 hj1 hQ
theorem ts_zret {v : Int32} (hd : decode M.2.1 pc = .ok (.ireturn, 1)) (ht : M.2.2.2.1 = some .boolean) (hv : v = 0 ∨ v = 1) (hk1 : k ≤ mc) (hj1 : j ≤ ms) (hQ : Q (some (.int v)) g hi hk) : ts_JJ d mc ms M scr n0 Q k j pc ls [.int v] g hi hk :=
  ts_end (Or.inr (Or.inl ⟨v, .boolean, rfl, rfl, ht, by rcases hv with rfl | rfl <;> rfl, hd⟩)) hk1 hj1 hQ
theorem ts_vret (hd : decode M.2.1 pc = .ok (.return_, 1)) (ht : M.2.2.2.1 = none) (hk1 : k ≤ mc) (hj1 : j ≤ ms) (hQ : Q none g hi hk) : ts_JJ d mc ms M scr n0 Q k j pc ls [] g hi hk :=
  ts_end (Or.inl ⟨rfl, rfl, ht, hd⟩) hk1 hj1 hQ
theorem ts_aret {a : Nat} {C : String} (hd : decode M.2.1 pc = .ok (.areturn, 1)) (ht : M.2.2.2.1 = some (.object C)) (hk1 : k ≤ mc) (hj1 : j ≤ ms) (hQ : Q (some (.ref a)) g hi hk) : ts_JJ d mc ms M scr n0 Q k j pc ls [.ref a] g hi hk :=
  ts_end (Or.inr (Or.inr ⟨a, C, rfl, rfl, ht, hd⟩)) hk1 hj1 hQ
theorem ts_mono {Q' : ts_Q} (h : ts_JJ d mc ms M scr n0 Q k j pc ls st g hi hk) (hQ : ∀ r g hi hk, Q r g hi hk → Q' r g hi hk) : ts_JJ d mc ms M scr n0 Q' k j pc ls st g hi hk := by
  intro p l e R s m args below meth c D ty A Z ad0 ad H locs lsA CX ha hb0 hn hwf hW hl
  refine h p l e R s m args below meth c D ty A Z ad0 ad H locs lsA ⟨CX.1, CX.2.1, CX.2.2.1, CX.2.2.2.1, CX.2.2.2.2.1, CX.2.2.2.2.2.1, CX.2.2.2.2.2.2.1, CX.2.2.2.2.2.2.2.1, CX.2.2.2.2.2.2.2.2.1, CX.2.2.2.2.2.2.2.2.2.1, fun r stk pc g hi hk ad H locs lsA h1 h2 => CX.2.2.2.2.2.2.2.2.2.2 r stk pc g hi hk ad H locs lsA h1 (hQ _ _ _ _ h2)⟩ ha hb0 hn hwf hW hl

def ts_kv (Q' : ts_Q) (g : ts_G) (ls : List (Nat × Value)) (st : List Value) : Prop := (∀ r g' hi' hk', Q' r g' hi' hk' → g'.1 = g.1) ∨ ((∀ q ∈ ls, ts_okv g.1 q.2) ∧ ∀ v ∈ st, ts_okv g.1 v)
theorem ts_pre {H : Heap} {s : State} {A : Nat → Prop} {D : va_G} {ty : Nat → ClassId} {ad : Nat → Nat} (av : List Value) {locs : List Loc} {H0 : Heap} (hW : ts_Wd D ty A H0 ad g hi hk H locs) (hK : ts_KK D ty s) : FrameBlind (va_Pc (av.map (ts_cv ad)) (ts_Pp D ty ad g hi hk H.size)) ∧ ∀ U : State, U.heap = H → s.WarmedH U.vm → va_Pc (av.map (ts_cv ad)) (ts_Pp D ty ad g hi hk H.size) (av.map (ts_cv ad)).toArray U := by
  refine ⟨fun a U g1 mk q => ?_, fun U hU hWm => ⟨rfl, by rw [hU], by rw [hU]; exact hW.1, hK.warm hWm, hW.2.1.weaken (fun _ _ _ _ => trivial)⟩⟩
  obtain ⟨q0, q1, qP, qK, qD⟩ := q
  exact ⟨q0, q1, qP, qK.blind, qD⟩
theorem ts_core {p : Program} {l : Launch} {e : Env} {R : Room} {s : State} {m : MethodId} {args : Array Value} {below : List Frame} {meth : Method} {c : Code} {H H0 : Heap} {locs : List Loc} {mc' ms' : Nat} {lsA : Array Slot} {st0 rest : List Value} {D : va_G} {ty : Nat → ClassId} {ad : Nat → Nat} {A : Nat → Prop} {Z : State → Prop} {Q' : ts_Q} (hr : va_Run p l e R s m args below meth c H locs k j mc' ms' (F0 m pc lsA st0) rest (ts_Po D ty ad g hi hk H.size Q') (va_A (ts_wl ty ad g hi hk) H.size)) (hS : va_S A H0 H locs) (hF : ∀ q, va_A (ts_wl ty ad g hi hk) H.size q → A q)
    (kk : ∀ (r : Option Value) (ad' : Nat → Nat) (g' : ts_G) (hi' : ts_I) (hk' : ts_K) (H1 : Heap) (locs1 : List Loc), Q' r g' hi' hk' → (∀ i, i ≤ g.1 → ad' i = ad i) → (g'.1 = g.1 → ad' = ad) → g.1 ≤ g'.1 → ts_wf g' hk' → ts_Wd D ty A H0 ad' g' hi' hk' H1 locs1 → W p l e R s m args below meth c H1 locs1 (k + mc') (j + ms') Z (F0 m (pc + 3) lsA ((r.map (ts_cv ad')).toList ++ rest))) : W p l e R s m args below meth c H locs k j Z (F0 m pc lsA st0) := by
  intro T hT X
  obtain ⟨v, st₀, t, T', L, h0, X', hL, e1, e2, ⟨⟨r, ad', g', hi', hk', hv, hq, hag, hae, hle, hwf', hP1, hD1⟩, hz, hkp⟩, st⟩ := hr T hT X
  cases hv
  rw [h0] at hz hkp
  have hP2 : va_P D vwCl (ts_wl ty ad' g' hi' hk') T'.heap := by rw [e1]; exact hP1
  have hS2 : va_S A H0 T'.heap (locs ++ L) := ⟨Nat.le_trans hS.1 (by rw [e1]; exact hz), fun q h1 h2 => by rw [e1, hkp q (Nat.lt_of_lt_of_le h1 hS.1) (fun z => h2 (hF q z))]; exact hS.2.1 q h1 h2, fun q hq => by
      rcases List.mem_append.mp hq with h | h
      · exact hS.2.2 q h
      · exact hF _ (hL q h)⟩
  obtain ⟨t2, a1, b1⟩ := kk r ad' g' hi' hk' T'.heap (locs ++ L) hq hag hae hle hwf' ⟨hP2, hD1.weaken (fun _ q _ h => hF q.1 h), hS2⟩ T' rfl X'
  exact ⟨t2, st t2 a1, b1⟩
theorem ts_call {mc' ms' : Nat} {Q' : ts_Q} {stk : List Value} (hv : ts_kv Q' g ls st)
    (hrun : ∀ (p : Program) (l : Launch) (e : Env) (R : Room) (s : State) (m : MethodId) (args : Array Value) (below : List Frame) (meth : Method) (c : Code) (D : va_G) (ty : Nat → ClassId) (A : Nat → Prop) (Z : State → Prop) (ad0 ad : Nat → Nat) (H : Heap) (locs : List Loc) (lsA : Array Slot), ts_CX d mc ms M scr n0 Q p l e R s m args below meth c D ty A Z ad0 → ts_wf g hk → ts_Wd D ty A s.heap ad g hi hk H locs → lsA.size = M.2.2.1 → va_Run p l e R s m args below meth c H locs k j mc' ms' (F0 m pc lsA (stk.map (ts_cv ad))) (st.map (ts_cv ad)) (ts_Po D ty ad g hi hk H.size Q') (va_A (ts_wl ty ad g hi hk) H.size))
    (hp : pc + 3 = pc') (kk : ∀ (r : Option Value) (g' : ts_G) (hi' : ts_I) (hk' : ts_K), Q' r g' hi' hk' → ts_JJ d mc ms M scr n0 Q (k + mc') (j + ms') pc' ls (r.toList ++ st) g' hi' hk') : ts_JJ d mc ms M scr n0 Q k j pc ls stk g hi hk := by
  subst hp
  intro p l e R s m args below meth c D ty A Z ad0 ad H locs lsA CX ha hb0 hn hwf hW hl
  have hF := va_free (wc := ts_wl ty ad g hi hk) hW.2.1 hW.2.2 CX.2.2.2.2.2.2.2.2.1 (List.range (ts_wl ty ad g hi hk).length) (by
    apply List.ext_getElem?
    intro i
    by_cases h : i < (ts_wl ty ad g hi hk).length
    · simp [List.getElem?_range h, h]
    · simp [h])
  refine ts_core (hrun p l e R s m args below meth c D ty A Z ad0 ad H locs lsA CX hwf hW hl.1) hW.2.2 hF (fun r ad' g' hi' hk' H1 locs1 hq hag hae hle hwf' hW' => ?_)
  have hls : ls.map (fun q => (q.1, ts_cv ad' q.2)) = ls.map (fun q => (q.1, ts_cv ad q.2)) ∧ st.map (ts_cv ad') = st.map (ts_cv ad) := by
    rcases hv with h | h
    · rw [hae (h _ _ _ _ hq)]; exact ⟨rfl, rfl⟩
    · exact ⟨List.map_congr_left (fun q hq => by rw [ts_okv_cv (h.1 q hq) hag]), List.map_congr_left (fun v hv => ts_okv_cv (h.2 v hv) hag)⟩
  have k1 := kk r g' hi' hk' hq p l e R s m args below meth c D ty A Z ad0 ad' H1 locs1 lsA CX (fun i hi9 => (hag i (Nat.le_trans hi9 hn)).trans (ha i hi9)) (fun h => by
    have h1 : g.1 = n0 := by omega
    rw [hae (by omega), hb0 h1]) (by omega) hwf' hW' (by rw [hls.1]; exact hl)
  have e : (r.toList ++ st).map (ts_cv ad') = (r.map (ts_cv ad')).toList ++ st.map (ts_cv ad) := by
    rw [List.map_append, hls.2]
    cases r <;> rfl
  rw [e] at k1
  exact k1

theorem ts_callV {d' mc' ms' : Nat} {M' : ts_M} {Q' : ts_Q} {stk : List Value} {index : Nat} {ws' : List Cond} {C : String} {av : List Value} {b n ci : Nat} {T : u_T} {N : Nat} (hp : pc + 3 = pc') (hd : decode M.2.1 pc = .ok (.invokevirtual index, 3)) (hst : stk = av.reverse ++ .ref b :: st) (hG : GoodIn M.2.2.2.2 (wsV M.1.cls index C M'.1 M'.2.2.2.2)) (hw : M'.2.2.2.2 = Cond.code M'.1 M'.2.1 M'.2.2.1 M'.2.2.2.1 :: ws') (hds : M'.1.cls = C ∧ M'.1.cls ≠ "java/lang/invoke/MethodHandle" ∧ M'.1.cls ≠ "java/lang/invoke/VarHandle" ∧ (parseMethodDescriptor M'.1.desc).map (fun d => d.parameters.length) = some n) (hn9 : av.length = n) (hc : vwCl[ci]? = some (C, T, N)) (h100 : ci < 100) (hca : g.2.1 b = ci) (hdd : d' + 1 ≤ d) (hnL : M'.2.2.1 ≤ 40) (hsum : (st.map fun v => v.category).sum ≤ 8) (hk1 : k + mc' ≤ mc) (hj1 : j + ms' ≤ ms) (hv : ts_kv Q' g ls st) (hE : ts_Ev d' mc' ms' M' (.ref b :: av) g hi hk Q') (kk : ∀ (r : Option Value) (g' : ts_G) (hi' : ts_I) (hk' : ts_K), Q' r g' hi' hk' → ts_JJ d mc ms M scr n0 Q (k + mc') (j + ms') pc' ls (r.toList ++ st) g' hi' hk') : ts_JJ d mc ms M scr n0 Q k j pc ls stk g hi hk := by
  refine ts_call hv (fun p l e R s m args below meth c D ty A Z ad0 ad H locs lsA CX hwf hW hls => ?_) hp kk
  have hR := CX.2.2.2.2.2.2.1
  have hM := hE hwf l D ty ad H.size
  have hpr := ts_pre (.ref b :: av) hW CX.2.2.2.2.2.2.2.1
  exact va_runV (As := av.map (ts_cv ad)) (rest := st.map (ts_cv ad)) ⟨CX.1, CX.2.1, CX.2.2.1, CX.2.2.2.1, CX.2.2.2.2.1⟩ hM (cwV n CX.2.2.2.2.1 hG hw rfl rfl hds ⟨by simp only [ts_rm]; omega, by simp only [ts_rm]; omega⟩) ⟨hpr.1, va_recv (q0 := b - 1) (ci := ci) CX.2.2.2.2.2.2.2.1.1 hW.1 hc (by rw [ts_wl_at hwf (by omega), ts_cE_obj hca h100]), hpr.2⟩ rfl (by simp [hn9]) hls (by rw [hst]; simp [ts_cv]) (by rw [ts_cv_sum]; show 2 * 0 + _ ≤ 8; omega) hd (by omega)
theorem ts_callO {d' mc' ms' : Nat} {M' : ts_M} {Q' : ts_Q} {stk : List Value} {index : Nat} {ws' : List Cond} {C owner : String} {x : MethodName} {b0 : ByteArray} {m0 : Nat} {r0 : Option FieldType} {av : List Value} {b n ci : Nat} {T : u_T} {N : Nat} (hp : pc + 3 = pc') (hd : decode M.2.1 pc = .ok (.invokevirtual index, 3)) (hst : stk = av.reverse ++ .ref b :: st) (hG : GoodIn M.2.2.2.2 (va_wsO M.1.cls index C owner x M'.1 M'.2.2.2.2)) (hw : M'.2.2.2.2 = Cond.code M'.1 M'.2.1 M'.2.2.1 M'.2.2.2.1 :: ws') (h0 : Cond.code ⟨owner, x.name, x.desc⟩ b0 m0 r0 ∈ M.2.2.2.2) (hds : owner ≠ "java/lang/invoke/MethodHandle" ∧ owner ≠ "java/lang/invoke/VarHandle" ∧ (parseMethodDescriptor x.desc).map (fun d => d.parameters.length) = some n) (hn9 : av.length = n) (hc : vwCl[ci]? = some (C, T, N)) (h100 : ci < 100) (hca : g.2.1 b = ci) (hdd : d' + 1 ≤ d) (hnL : M'.2.2.1 ≤ 40) (hsum : (st.map fun v => v.category).sum ≤ 8) (hk1 : k + mc' ≤ mc) (hj1 : j + ms' ≤ ms) (hv : ts_kv Q' g ls st) (hE : ts_Ev d' mc' ms' M' (.ref b :: av) g hi hk Q') (kk : ∀ (r : Option Value) (g' : ts_G) (hi' : ts_I) (hk' : ts_K), Q' r g' hi' hk' → ts_JJ d mc ms M scr n0 Q (k + mc') (j + ms') pc' ls (r.toList ++ st) g' hi' hk') : ts_JJ d mc ms M scr n0 Q k j pc ls stk g hi hk := by
  refine ts_call hv (fun p l e R s m args below meth c D ty A Z ad0 ad H locs lsA CX hwf hW hls => ?_) hp kk
  have hR := CX.2.2.2.2.2.2.1
  have hM := hE hwf l D ty ad H.size
  have hpr := ts_pre (.ref b :: av) hW CX.2.2.2.2.2.2.2.1
  exact va_runU (As := av.map (ts_cv ad)) (rest := st.map (ts_cv ad)) ⟨CX.1, CX.2.1, CX.2.2.1, CX.2.2.2.1, CX.2.2.2.2.1⟩ hM (va_cwO n CX.2.2.2.2.1 hG hw rfl rfl h0 hds ⟨by simp only [ts_rm]; omega, by simp only [ts_rm]; omega⟩) ⟨hpr.1, va_recv (q0 := b - 1) (ci := ci) CX.2.2.2.2.2.2.2.1.1 hW.1 hc (by rw [ts_wl_at hwf (by omega), ts_cE_obj hca h100]), hpr.2⟩ rfl (by simp [hn9]) hls (by rw [hst]; simp [ts_cv]) (by rw [ts_cv_sum]; show 2 * 0 + _ ≤ 8; omega) hd (by omega)
theorem ts_callU {d' mc' ms' : Nat} {M' : ts_M} {Q' : ts_Q} {stk : List Value} {index : Nat} {ws' : List Cond} {C owner : String} {x : MethodName} {av : List Value} {b n ci : Nat} {T : u_T} {N : Nat} (hp : pc + 3 = pc') (hd : decode M.2.1 pc = .ok (.invokevirtual index, 3)) (hst : stk = av.reverse ++ .ref b :: st) (hG : GoodIn M.2.2.2.2 (va_wsU M.1.cls index C owner x M'.1 M'.2.2.2.2)) (hw : M'.2.2.2.2 = Cond.code M'.1 M'.2.1 M'.2.2.1 M'.2.2.2.1 :: ws') (hab : (⟨owner, x.name, x.desc⟩ : MethodName) = ⟨"TurnipSquires$Kind", "gainIn", "(LTurnipSquires$Field;IZ)I"⟩) (hds : owner ≠ "java/lang/invoke/MethodHandle" ∧ owner ≠ "java/lang/invoke/VarHandle" ∧ (parseMethodDescriptor x.desc).map (fun d => d.parameters.length) = some n) (hn9 : av.length = n) (hc : vwCl[ci]? = some (C, T, N)) (h100 : ci < 100) (hca : g.2.1 b = ci) (hdd : d' + 1 ≤ d) (hnL : M'.2.2.1 ≤ 40) (hsum : (st.map fun v => v.category).sum ≤ 8) (hk1 : k + mc' ≤ mc) (hj1 : j + ms' ≤ ms) (hv : ts_kv Q' g ls st) (hE : ts_Ev d' mc' ms' M' (.ref b :: av) g hi hk Q') (kk : ∀ (r : Option Value) (g' : ts_G) (hi' : ts_I) (hk' : ts_K), Q' r g' hi' hk' → ts_JJ d mc ms M scr n0 Q (k + mc') (j + ms') pc' ls (r.toList ++ st) g' hi' hk') : ts_JJ d mc ms M scr n0 Q k j pc ls stk g hi hk := by
  refine ts_call hv (fun p l e R s m args below meth c D ty A Z ad0 ad H locs lsA CX hwf hW hls => ?_) hp kk
  have hR := CX.2.2.2.2.2.2.1
  have hM := hE hwf l D ty ad H.size
  have hpr := ts_pre (.ref b :: av) hW CX.2.2.2.2.2.2.2.1
  exact va_runU (As := av.map (ts_cv ad)) (rest := st.map (ts_cv ad)) ⟨CX.1, CX.2.1, CX.2.2.1, CX.2.2.2.1, CX.2.2.2.2.1⟩ hM (va_cwA n CX.2.2.2.2.1 hG hw rfl rfl (by rw [hab]; exact CX.2.2.2.2.2.2.2.1.2.2.2.2.2) hds ⟨by simp only [ts_rm]; omega, by simp only [ts_rm]; omega⟩) ⟨hpr.1, va_recv (q0 := b - 1) (ci := ci) CX.2.2.2.2.2.2.2.1.1 hW.1 hc (by rw [ts_wl_at hwf (by omega), ts_cE_obj hca h100]), hpr.2⟩ rfl (by simp [hn9]) hls (by rw [hst]; simp [ts_cv]) (by rw [ts_cv_sum]; show 2 * 0 + _ ≤ 8; omega) hd (by omega)
theorem ts_callH {d' mc' ms' : Nat} {M' : ts_M} {Q' : ts_Q} {stk : List Value} {index : Nat} {ws' : List Cond} {C owner : String} {x : MethodName} {av : List Value} {b n ci : Nat} {T : u_T} {N : Nat} (hp : pc + 3 = pc') (hd : decode M.2.1 pc = .ok (.invokevirtual index, 3)) (hst : stk = av.reverse ++ .ref b :: st) (hG : GoodIn M.2.2.2.2 (va_wsU M.1.cls index C owner x M'.1 M'.2.2.2.2)) (hw : M'.2.2.2.2 = Cond.code M'.1 M'.2.1 M'.2.2.1 M'.2.2.2.1 :: ws') (hyx : M'.1 = ⟨owner, x.name, x.desc⟩) (hds : owner ≠ "java/lang/invoke/MethodHandle" ∧ owner ≠ "java/lang/invoke/VarHandle" ∧ (parseMethodDescriptor x.desc).map (fun d => d.parameters.length) = some n) (hn9 : av.length = n) (hc : vwCl[ci]? = some (C, T, N)) (h100 : ci < 100) (hca : g.2.1 b = ci) (hdd : d' + 1 ≤ d) (hnL : M'.2.2.1 ≤ 40) (hsum : (st.map fun v => v.category).sum ≤ 8) (hk1 : k + mc' ≤ mc) (hj1 : j + ms' ≤ ms) (hv : ts_kv Q' g ls st) (hE : ts_Ev d' mc' ms' M' (.ref b :: av) g hi hk Q') (kk : ∀ (r : Option Value) (g' : ts_G) (hi' : ts_I) (hk' : ts_K), Q' r g' hi' hk' → ts_JJ d mc ms M scr n0 Q (k + mc') (j + ms') pc' ls (r.toList ++ st) g' hi' hk') : ts_JJ d mc ms M scr n0 Q k j pc ls stk g hi hk := by
  refine ts_call hv (fun p l e R s m args below meth c D ty A Z ad0 ad H locs lsA CX hwf hW hls => ?_) hp kk
  have hR := CX.2.2.2.2.2.2.1
  have hM := hE hwf l D ty ad H.size
  have hpr := ts_pre (.ref b :: av) hW CX.2.2.2.2.2.2.2.1
  exact va_runU (As := av.map (ts_cv ad)) (rest := st.map (ts_cv ad)) ⟨CX.1, CX.2.1, CX.2.2.1, CX.2.2.2.1, CX.2.2.2.2.1⟩ hM (va_cwU n CX.2.2.2.2.1 hG hw rfl rfl hyx hds ⟨by simp only [ts_rm]; omega, by simp only [ts_rm]; omega⟩) ⟨hpr.1, va_recv (q0 := b - 1) (ci := ci) CX.2.2.2.2.2.2.2.1.1 hW.1 hc (by rw [ts_wl_at hwf (by omega), ts_cE_obj hca h100]), hpr.2⟩ rfl (by simp [hn9]) hls (by rw [hst]; simp [ts_cv]) (by rw [ts_cv_sum]; show 2 * 0 + _ ≤ 8; omega) hd (by omega)
theorem ts_callSU {d' mc' ms' : Nat} {M' : ts_M} {Q' : ts_Q} {stk : List Value} {index : Nat} {ws' : List Cond} {C : String} {av : List Value} {b n ci : Nat} {T : u_T} {N : Nat} (hp : pc + 3 = pc') (hd : decode M.2.1 pc = .ok (.invokespecial index, 3)) (hst : stk = av.reverse ++ .ref b :: st) (hG : GoodIn M.2.2.2.2 (va_wsSU M.1.cls index M'.1 M'.2.2.2.2)) (hw : M'.2.2.2.2 = Cond.code M'.1 M'.2.1 M'.2.2.1 M'.2.2.2.1 :: ws') (hds : M'.1.name ≠ "<init>" ∧ (parseMethodDescriptor M'.1.desc).map (fun d => d.parameters.length) = some n) (hn9 : av.length = n) (hc : vwCl[ci]? = some (C, T, N)) (h100 : ci < 100) (hca : g.2.1 b = ci) (hdd : d' + 1 ≤ d) (hnL : M'.2.2.1 ≤ 40) (hsum : (st.map fun v => v.category).sum ≤ 8) (hk1 : k + mc' ≤ mc) (hj1 : j + ms' ≤ ms) (hv : ts_kv Q' g ls st) (hE : ts_Ev d' mc' ms' M' (.ref b :: av) g hi hk Q') (kk : ∀ (r : Option Value) (g' : ts_G) (hi' : ts_I) (hk' : ts_K), Q' r g' hi' hk' → ts_JJ d mc ms M scr n0 Q (k + mc') (j + ms') pc' ls (r.toList ++ st) g' hi' hk') : ts_JJ d mc ms M scr n0 Q k j pc ls stk g hi hk := by
  refine ts_call hv (fun p l e R s m args below meth c D ty A Z ad0 ad H locs lsA CX hwf hW hls => ?_) hp kk
  have hR := CX.2.2.2.2.2.2.1
  have hM := hE hwf l D ty ad H.size
  have hpr := ts_pre (.ref b :: av) hW CX.2.2.2.2.2.2.2.1
  exact va_runSU (As := av.map (ts_cv ad)) (rest := st.map (ts_cv ad)) (CX.2.2.2.2.2.2.2.1.1.1 ci (C, T, N) hc).2 ⟨CX.1, CX.2.1, CX.2.2.1, CX.2.2.2.1, CX.2.2.2.2.1⟩ hM (va_cwSU n CX.2.2.2.2.1 hG hw rfl rfl hds ⟨by simp only [ts_rm]; omega, by simp only [ts_rm]; omega⟩) ⟨hpr.1, va_recv (q0 := b - 1) (ci := ci) CX.2.2.2.2.2.2.2.1.1 hW.1 hc (by rw [ts_wl_at hwf (by omega), ts_cE_obj hca h100]), hpr.2⟩ rfl (by simp [hn9]) hls (by rw [hst]; simp [ts_cv]) (by rw [ts_cv_sum]; show 2 * 0 + _ ≤ 8; omega) hd (by omega)
theorem ts_callS {d' mc' ms' : Nat} {M' : ts_M} {Q' : ts_Q} {stk : List Value} {index : Nat} {ws' : List Cond} {av : List Value} {n : Nat} (hp : pc + 3 = pc') (hd : decode M.2.1 pc = .ok (.invokestatic index, 3)) (hst : stk = av.reverse ++ st) (hG : GoodIn M.2.2.2.2 (va_wsS M.1.cls index M'.1 M'.2.2.2.2)) (hw : M'.2.2.2.2 = Cond.code M'.1 M'.2.1 M'.2.2.1 M'.2.2.2.1 :: ws') (hds : M'.1.cls ≠ "java/lang/invoke/MethodHandle" ∧ M'.1.cls ≠ "java/lang/invoke/VarHandle" ∧ (parseMethodDescriptor M'.1.desc).map (fun d => d.parameters.length) = some n) (hn9 : av.length = n) (hdd : d' + 1 ≤ d) (hnL : M'.2.2.1 ≤ 40) (hsum : (st.map fun v => v.category).sum ≤ 8) (hk1 : k + mc' ≤ mc) (hj1 : j + ms' ≤ ms) (hv : ts_kv Q' g ls st) (hE : ts_Ev d' mc' ms' M' av g hi hk Q') (kk : ∀ (r : Option Value) (g' : ts_G) (hi' : ts_I) (hk' : ts_K), Q' r g' hi' hk' → ts_JJ d mc ms M scr n0 Q (k + mc') (j + ms') pc' ls (r.toList ++ st) g' hi' hk') : ts_JJ d mc ms M scr n0 Q k j pc ls stk g hi hk := by
  refine ts_call hv (fun p l e R s m args below meth c D ty A Z ad0 ad H locs lsA CX hwf hW hls => ?_) hp kk
  have hR := CX.2.2.2.2.2.2.1
  have hM := hE hwf l D ty ad H.size
  have hpr := ts_pre av hW CX.2.2.2.2.2.2.2.1
  exact va_runS (As := av.map (ts_cv ad)) (rest := st.map (ts_cv ad)) ⟨CX.1, CX.2.1, CX.2.2.1, CX.2.2.2.1, CX.2.2.2.2.1⟩ hM (va_cwS n CX.2.2.2.2.1 hG hw rfl rfl hds ⟨by simp only [ts_rm]; omega, by simp only [ts_rm]; omega⟩) hpr rfl (by simp [hn9]) hls (by rw [hst]; simp) (by rw [ts_cv_sum]; show 2 * 0 + _ ≤ 8; omega) hd (by omega)
theorem ts_callSN {d' mc' ms' : Nat} {M' : ts_M} {Q' : ts_Q} {stk : List Value} {index : Nat} {ws' : List Cond} {av : List Value} {n : Nat} {host : String} (hp : pc + 3 = pc') (hd : decode M.2.1 pc = .ok (.invokestatic index, 3)) (hst : stk = av.reverse ++ st) (hG : GoodIn M.2.2.2.2 M'.2.2.2.2) (hw : M'.2.2.2.2 = Cond.code M'.1 M'.2.1 M'.2.2.1 M'.2.2.2.1 :: ws') (hnx : (M.1.cls, index, M'.1, host) ∈ ts_nst) (hini : Cond.initialized M'.1.cls ∈ M.2.2.2.2) (hsta : Cond.static M'.1 ∈ M.2.2.2.2) (hds : M'.1.cls ≠ "java/lang/invoke/MethodHandle" ∧ M'.1.cls ≠ "java/lang/invoke/VarHandle" ∧ (parseMethodDescriptor M'.1.desc).map (fun d => d.parameters.length) = some n) (hn9 : av.length = n) (hdd : d' + 1 ≤ d) (hnL : M'.2.2.1 ≤ 40) (hsum : (st.map fun v => v.category).sum ≤ 8) (hk1 : k + mc' ≤ mc) (hj1 : j + ms' ≤ ms) (hv : ts_kv Q' g ls st) (hE : ts_Ev d' mc' ms' M' av g hi hk Q') (kk : ∀ (r : Option Value) (g' : ts_G) (hi' : ts_I) (hk' : ts_K), Q' r g' hi' hk' → ts_JJ d mc ms M scr n0 Q (k + mc') (j + ms') pc' ls (r.toList ++ st) g' hi' hk') : ts_JJ d mc ms M scr n0 Q k j pc ls stk g hi hk := by
  refine ts_call hv (fun p l e R s m args below meth c D ty A Z ad0 ad H locs lsA CX hwf hW hls => ?_) hp kk
  have hR := CX.2.2.2.2.2.2.1
  have hM := hE hwf l D ty ad H.size
  have hpr := ts_pre av hW CX.2.2.2.2.2.2.2.1
  exact va_runSN (As := av.map (ts_cv ad)) (rest := st.map (ts_cv ad)) ⟨CX.1, CX.2.1, CX.2.2.1, CX.2.2.2.1, CX.2.2.2.2.1⟩ hM ⟨va_cnB n CX.2.2.2.2.1 hG hw rfl rfl (CX.2.2.2.2.2.2.2.1.2.2.2.1 _ hnx) (CX.2.2.2.2.1 _ hini) hds ⟨by simp only [ts_rm]; omega, by simp only [ts_rm]; omega⟩, CX.2.2.2.2.1 _ hsta, trivial⟩ hpr rfl (by simp [hn9]) hls (by rw [hst]; simp) (by rw [ts_cv_sum]; show 2 * 0 + _ ≤ 8; omega) hd (by omega)
theorem ts_callI {d' mc' ms' : Nat} {M' : ts_M} {Q' : ts_Q} {stk : List Value} {index : Nat} {ws' : List Cond} {av : List Value} {b n : Nat} (hp : pc + 3 = pc') (hd : decode M.2.1 pc = .ok (.invokespecial index, 3)) (hst : stk = av.reverse ++ .ref b :: st) (hG : GoodIn M.2.2.2.2 M'.2.2.2.2) (hw : M'.2.2.2.2 = Cond.code M'.1 M'.2.1 M'.2.2.1 none :: ws') (hlk : Cond.methodLink M.1.cls index M'.1 ∈ M.2.2.2.2) (hini : Cond.initialized M'.1.cls ∈ M.2.2.2.2) (hinm : Cond.instanceMethod M'.1 ∈ M.2.2.2.2) (hnm : M'.1.name = "<init>") (hds : M'.1.cls ≠ "java/lang/invoke/MethodHandle" ∧ M'.1.cls ≠ "java/lang/invoke/VarHandle" ∧ (parseMethodDescriptor M'.1.desc).map (fun d => d.parameters.length) = some n) (hn9 : av.length = n) (hdd : d' + 1 ≤ d) (hnL : M'.2.2.1 ≤ 40) (hsum : (st.map fun v => v.category).sum ≤ 8) (hk1 : k + mc' ≤ mc) (hj1 : j + ms' ≤ ms) (hv : ts_kv Q' g ls st) (hE : ts_Ev d' mc' ms' M' (.ref b :: av) g hi hk Q') (kk : ∀ (r : Option Value) (g' : ts_G) (hi' : ts_I) (hk' : ts_K), Q' r g' hi' hk' → ts_JJ d mc ms M scr n0 Q (k + mc') (j + ms') pc' ls (r.toList ++ st) g' hi' hk') : ts_JJ d mc ms M scr n0 Q k j pc ls stk g hi hk := by
  refine ts_call hv (fun p l e R s m args below meth c D ty A Z ad0 ad H locs lsA CX hwf hW hls => ?_) hp kk
  have hR := CX.2.2.2.2.2.2.1
  have hM := hE hwf l D ty ad H.size
  have hpr := ts_pre (.ref b :: av) hW CX.2.2.2.2.2.2.2.1
  exact va_runI (As := av.map (ts_cv ad)) (rest := st.map (ts_cv ad)) ⟨CX.1, CX.2.1, CX.2.2.1, CX.2.2.2.1, CX.2.2.2.2.1⟩ hM (cwI n CX.2.2.2.2.1 hG hw rfl rfl (CX.2.2.2.2.1 _ hini) (CX.2.2.2.2.1 _ hlk) (CX.2.2.2.2.1 _ hinm) hnm hds ⟨by simp only [ts_rm]; omega, by simp only [ts_rm]; omega⟩) hpr rfl (by simp [hn9]) hls (by rw [hst]; simp [ts_cv]) (by rw [ts_cv_sum]; show 2 * 0 + _ ≤ 8; omega) hd (by omega)
theorem ts_callIN {d' mc' ms' : Nat} {M' : ts_M} {Q' : ts_Q} {stk : List Value} {index : Nat} {ws' : List Cond} {av : List Value} {b n : Nat} {host : String} (hp : pc + 3 = pc') (hd : decode M.2.1 pc = .ok (.invokespecial index, 3)) (hst : stk = av.reverse ++ .ref b :: st) (hG : GoodIn M.2.2.2.2 M'.2.2.2.2) (hw : M'.2.2.2.2 = Cond.code M'.1 M'.2.1 M'.2.2.1 none :: ws') (hnx : (M.1.cls, index, M'.1, host) ∈ ts_nst) (hini : Cond.initialized M'.1.cls ∈ M.2.2.2.2) (hinm : Cond.instanceMethod M'.1 ∈ M.2.2.2.2) (hnm : M'.1.name = "<init>") (hds : M'.1.cls ≠ "java/lang/invoke/MethodHandle" ∧ M'.1.cls ≠ "java/lang/invoke/VarHandle" ∧ (parseMethodDescriptor M'.1.desc).map (fun d => d.parameters.length) = some n) (hn9 : av.length = n) (hdd : d' + 1 ≤ d) (hnL : M'.2.2.1 ≤ 40) (hsum : (st.map fun v => v.category).sum ≤ 8) (hk1 : k + mc' ≤ mc) (hj1 : j + ms' ≤ ms) (hv : ts_kv Q' g ls st) (hE : ts_Ev d' mc' ms' M' (.ref b :: av) g hi hk Q') (kk : ∀ (r : Option Value) (g' : ts_G) (hi' : ts_I) (hk' : ts_K), Q' r g' hi' hk' → ts_JJ d mc ms M scr n0 Q (k + mc') (j + ms') pc' ls (r.toList ++ st) g' hi' hk') : ts_JJ d mc ms M scr n0 Q k j pc ls stk g hi hk := by
  refine ts_call hv (fun p l e R s m args below meth c D ty A Z ad0 ad H locs lsA CX hwf hW hls => ?_) hp kk
  have hR := CX.2.2.2.2.2.2.1
  have hM := hE hwf l D ty ad H.size
  have hpr := ts_pre (.ref b :: av) hW CX.2.2.2.2.2.2.2.1
  exact va_runIN (As := av.map (ts_cv ad)) (rest := st.map (ts_cv ad)) ⟨CX.1, CX.2.1, CX.2.2.1, CX.2.2.2.1, CX.2.2.2.2.1⟩ hM ⟨va_cnB n CX.2.2.2.2.1 hG hw rfl rfl (CX.2.2.2.2.2.2.2.1.2.2.2.1 _ hnx) (CX.2.2.2.2.1 _ hini) hds ⟨by simp only [ts_rm]; omega, by simp only [ts_rm]; omega⟩, hnm, CX.2.2.2.2.1 _ hinm⟩ hpr rfl (by simp [hn9]) hls (by rw [hst]; simp [ts_cv]) (by rw [ts_cv_sum]; show 2 * 0 + _ ≤ 8; omega) hd (by omega)
end ts_rules

theorem ts_sl_len (ad : Nat → Nat) (av : List Value) : (lg_sl (av.map (ts_cv ad))).length = (lg_sl av).length := by
  induction av with
  | nil => rfl
  | cons v av ih =>
    simp only [lg_sl, List.map_cons, List.flatMap_cons, List.length_append, ts_cv_cat] at ih ⊢
    rw [ih]
    by_cases h : v.category = 2 <;> simp [h]
/-- a method's contract out of its walk -/
theorem ts_Ev.of {d mc ms : Nat} {M : ts_M} {av : List Value} {g : ts_G} {hi : ts_I} {hk : ts_K} {Q : ts_Q} {ws' : List Cond} (hpl : plainName M.1.cls = true) (hw : M.2.2.2.2 = Cond.code M.1 M.2.1 M.2.2.1 M.2.2.2.1 :: ws') (hL : (lg_sl av).length ≤ M.2.2.1) (h : ts_JJ d mc ms M none g.1 Q 0 0 0 (lv_args 0 av) [] g hi hk) : ts_Ev d mc ms M av g hi hk Q := by
  intro hwf l D ty ad sz
  refine Met.ofW (cc := M.2.1) (maxL := M.2.2.1) (ret := M.2.2.2.1) hpl hw ?_
  intro p e s m args below meth c s₁ B hml hv
  obtain ⟨rfl, hsz, hP, hK, hD0⟩ := hv
  subst hsz
  have hD := hD0.self (sz := s.heap.size)
  have hl := lv_entry (av.map (ts_cv ad)) (n := M.2.2.1) (by rw [ts_sl_len]; exact hL)
  rw [lg_entry_eq]
  generalize (lg_sl (av.map (ts_cv ad)) ++ List.replicate (M.2.2.1 - (lg_sl (av.map (ts_cv ad))).length) Slot.unset).toArray = lsA at hl ⊢
  rw [ts_largs] at hl
  refine h p l e _ s m _ below meth c D ty (va_A (ts_wl ty ad g hi hk) s.heap.size) _ ad ad s.heap [] lsA ⟨B.exec, B.bytes, hml, findClass_of_methodNamed B.named, atoms_spec (ws := M.2.2.2.2) B.pre, (name_of_methodNamed B.named B.method).1, ⟨Nat.le_refl _, Nat.le_refl _, Nat.le_refl _, Nat.le_refl _⟩, hK, fun q hq => Or.inr hq, trivial, ?_⟩ (fun _ _ => rfl) (fun _ => rfl) (Nat.le_refl _) hwf ⟨hP, hD, va_S.rf⟩ hl
  intro r stk pc g' hi' hk' ad' H locs lsB hr hQ hag hae hle hwf' hW
  have hlocks := B.notSynchronized
  have hpost : ∀ (oc : Outcome) (t : State), oc = .returned (r.map (ts_cv ad')) → t.heap = H → ts_Po D ty ad g hi hk s.heap.size Q s oc t := fun oc t ho ht =>
    ⟨⟨r, ad', g', hi', hk', ho, hQ, hag, hae, hle, hwf', by rw [ht]; exact hW.1, hW.2.1⟩, hW.2.2.F ht⟩
  rcases hr with ⟨rfl, rfl, h1, h2⟩ | ⟨v, t, rfl, rfl, h1, h2, h3⟩ | ⟨a, C, rfl, rfl, h1, h2⟩
  · exact W.vret B.exec B.bytes (B.returns.trans h1) (fun t ht _ => hpost _ t rfl ht) hW.2.2.2.2 h2
  · exact W.zret B.exec B.bytes (B.returns.trans h1) h2 (fun t ht _ => hpost _ t rfl ht) hW.2.2.2.2 h3
  · exact W.aret (v := .ref (ad' a)) B.exec B.bytes (B.returns.trans h1) (Or.inl ⟨C, rfl⟩) (Or.inr ⟨_, rfl⟩) (fun t ht _ => hpost _ t rfl ht) hW.2.2.2.2 h2
theorem ts_Ev.mono {d mc ms : Nat} {M : ts_M} {av : List Value} {g : ts_G} {hi : ts_I} {hk : ts_K} {Q Q' : ts_Q} (h : ts_Ev d mc ms M av g hi hk Q) (hQ : ∀ r g' hi' hk', Q r g' hi' hk' → Q' r g' hi' hk') : ts_Ev d mc ms M av g hi hk Q' := by
  intro hwf l D ty ad sz
  intro p e ha hc hkk s m args below hf happ hpre htr
  obtain ⟨t, o, h1, h2, h3, ⟨⟨r, ad', g', hi', hk', e1, e2, e3⟩, h5⟩, h6⟩ := h hwf l D ty ad sz p e ha hc hkk s m args below hf happ hpre htr
  exact ⟨t, o, h1, h2, h3, ⟨⟨r, ad', g', hi', hk', e1, hQ _ _ _ _ e2, e3⟩, h5⟩, h6⟩

