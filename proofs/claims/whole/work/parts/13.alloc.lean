/-! what makes cells: new objects, new arrays, the fields of constructors -/
def ts_ad (ad : Nat → Nat) (a q : Nat) : Nat → Nat := fun i => if i = a then q else ad i
def ts_gn (g : ts_G) (c len : Nat) : ts_G := (g.1 + 1, fun b => if b = g.1 + 1 then c else g.2.1 b, fun b => if b = g.1 + 1 then len else g.2.2.1 b, fun b s => if b = g.1 + 1 then 0 else g.2.2.2 b s)
def ts_zi (hi : ts_I) (a : Nat) : ts_I := fun b t => if b = a then 0 else hi b t
def ts_zk (hk : ts_K) (a : Nat) : ts_K := fun b t => if b = a then 0 else hk b t
/-- a fixed reference is set -/
def ts_go (g : ts_G) (a s r : Nat) : ts_G := (g.1, g.2.1, g.2.2.1, ts_uk g.2.2.2 a s r)
theorem ts_cr_ad {ad : Nat → Nat} {a q r : Nat} (h : r ≠ a) : ts_cr (ts_ad ad a q) r = ts_cr ad r := by simp [ts_cr, ts_ad, h]
theorem ts_cE_push {ty : Nat → ClassId} {ad : Nat → Nat} {g : ts_G} {hi : ts_I} {hk : ts_K} {q c len : Nat} (hw : ts_wf g hk) {b : Nat} (hb : b ≤ g.1) : ts_cE ty (ts_ad ad (g.1 + 1) q) (ts_gn g c len) (ts_zi hi (g.1 + 1)) (ts_zk hk (g.1 + 1)) b = ts_cE ty ad g hi hk b := by
  have hbn : b ≠ g.1 + 1 := by omega
  have e1 : (ts_gn g c len).2.1 b = g.2.1 b := by simp [ts_gn, hbn]
  have e2 : (ts_gn g c len).2.2.1 b = g.2.2.1 b := by simp [ts_gn, hbn]
  have e3 : (ts_gn g c len).2.2.2 b = g.2.2.2 b := by funext s; simp [ts_gn, hbn]
  have e4 : ts_zi hi (g.1 + 1) b = hi b := by funext t; simp [ts_zi, hbn]
  have e5 : ts_zk hk (g.1 + 1) b = hk b := by funext t; simp [ts_zk, hbn]
  have e6 : ∀ r, r ≤ g.1 → ts_cr (ts_ad ad (g.1 + 1) q) r = ts_cr ad r := fun r hr => ts_cr_ad (by omega)
  have e7 : (fun j => ts_cr (ts_ad ad (g.1 + 1) q) (g.2.2.2 b j)) = fun j => ts_cr ad (g.2.2.2 b j) := funext fun j => e6 _ (hw.2.1 b j)
  have e8 : (fun j => ts_cr (ts_ad ad (g.1 + 1) q) (hk b j)) = fun j => ts_cr ad (hk b j) := funext fun j => e6 _ (hw.2.2 b j)
  have e9 : ts_fs (ts_ad ad (g.1 + 1) q) (ts_gn g c len) (ts_zi hi (g.1 + 1)) b = ts_fs ad g hi b := by
    unfold ts_fs
    rw [e1]
    refine congrArg (fun f => List.map f (List.range (ts_fN (g.2.1 b)))) ?_
    funext s
    unfold ts_fv
    rw [e1, e3, e4, e6 _ (hw.2.1 b s)]
  unfold ts_cE
  rw [e1, e2, e3, e4, e5, e7, e8, e9]
theorem ts_wl_push {ty : Nat → ClassId} {ad : Nat → Nat} {g : ts_G} {hi : ts_I} {hk : ts_K} {q c len : Nat} (hw : ts_wf g hk) {e : va_E} (he : ts_cE ty (ts_ad ad (g.1 + 1) q) (ts_gn g c len) (ts_zi hi (g.1 + 1)) (ts_zk hk (g.1 + 1)) (g.1 + 1) = e) : ts_wl ty ad g hi hk ++ [(q, e)] = ts_wl ty (ts_ad ad (g.1 + 1) q) (ts_gn g c len) (ts_zi hi (g.1 + 1)) (ts_zk hk (g.1 + 1)) := by
  subst he
  unfold ts_wl
  show _ = (List.range (g.1 + 1)).map _
  rw [List.range_succ, List.map_append]
  have e1 : (List.range g.1).map (fun i => (ts_ad ad (g.1 + 1) q (i + 1), ts_cE ty (ts_ad ad (g.1 + 1) q) (ts_gn g c len) (ts_zi hi (g.1 + 1)) (ts_zk hk (g.1 + 1)) (i + 1))) = (List.range g.1).map (fun i => (ad (i + 1), ts_cE ty ad g hi hk (i + 1))) := by
    refine List.map_congr_left fun i hi9 => ?_
    have h1 : i < g.1 := List.mem_range.mp hi9
    rw [ts_cE_push hw (by omega : i + 1 ≤ g.1)]
    have h2 : ts_ad ad (g.1 + 1) q (i + 1) = ad (i + 1) := by
      have h3 : ¬ i + 1 = g.1 + 1 := by omega
      exact if_neg h3
    rw [h2]
  rw [e1]
  simp [ts_ad]
theorem ts_wf_push {g : ts_G} {hk : ts_K} {c len : Nat} (hw : ts_wf g hk) : ts_wf (ts_gn g c len) (ts_zk hk (g.1 + 1)) := by
  refine ⟨fun a h => ?_, fun a s => ?_, fun a s => ?_⟩
  · show 1 ≤ a ∧ a ≤ g.1 + 1
    by_cases h1 : a = g.1 + 1
    · omega
    · have h2 : (ts_gn g c len).2.1 a = g.2.1 a := by simp [ts_gn, h1]
      have := hw.1 a (by omega)
      omega
  · show (if a = g.1 + 1 then 0 else g.2.2.2 a s) ≤ g.1 + 1
    have := hw.2.1 a s
    by_cases h1 : a = g.1 + 1
    · rw [if_pos h1]; omega
    · rw [if_neg h1]; omega
  · show (if a = g.1 + 1 then 0 else hk a s) ≤ g.1 + 1
    have := hw.2.2 a s
    by_cases h1 : a = g.1 + 1
    · rw [if_pos h1]; omega
    · rw [if_neg h1]; omega

section ts_rules
variable {d mc ms : Nat} {M : ts_M} {scr : Option (Nat × (Nat → Int32))} {n0 : Nat} {Q : ts_Q} {k j pc pc' : Nat} {ls ls' : List (Nat × Value)} {st : List Value} {g : ts_G} {hi : ts_I} {hk : ts_K}


theorem ts_fin {p : Program} {l : Launch} {e : Env} {R : Room} {s : State} {m : MethodId} {args : Array Value} {below : List Frame} {meth : Method} {c : Code} {D : va_G} {ty : Nat → ClassId} {A : Nat → Prop} {Z : State → Prop} {ad0 ad : Nat → Nat} {H1 : Heap} {locs : List Loc} {lsA : Array Slot} {q cc len k' j' : Nat} {er : va_E}
    (CX : ts_CX d mc ms M scr n0 Q p l e R s m args below meth c D ty A Z ad0) (ha : ∀ i, i ≤ n0 → ad i = ad0 i) (hn : n0 ≤ g.1) (hwf : ts_wf g hk) (hokl : ∀ q ∈ ls, ts_okv g.1 q.2) (hoks : ∀ v ∈ st, ts_okv g.1 v)
    (hP : va_P D vwCl (ts_wl ty ad g hi hk ++ [(q, er)]) H1) (hD : va_D A (ts_wl ty ad g hi hk ++ [(q, er)])) (hS : va_S A s.heap H1 locs) (he : ts_cE ty (ts_ad ad (g.1 + 1) q) (ts_gn g cc len) (ts_zi hi (g.1 + 1)) (ts_zk hk (g.1 + 1)) (g.1 + 1) = er)
    (hl : lv_has lsA M.2.2.1 (ls.map (fun q => (q.1, ts_cv ad q.2)))) (kk : ts_JJ d mc ms M scr n0 Q k' j' pc' ls (.ref (g.1 + 1) :: st) (ts_gn g cc len) (ts_zi hi (g.1 + 1)) (ts_zk hk (g.1 + 1))) :
    W p l e R s m args below meth c H1 locs k' j' Z (F0 m pc' lsA (.ref q :: st.map (ts_cv ad))) := by
  rw [ts_wl_push hwf he] at hP hD
  have hag : ∀ i, i ≤ g.1 → ts_ad ad (g.1 + 1) q i = ad i := fun i h => by
    have h3 : ¬ i = g.1 + 1 := by omega
    simp [ts_ad, h3]
  have hls : ls.map (fun x => (x.1, ts_cv (ts_ad ad (g.1 + 1) q) x.2)) = ls.map (fun x => (x.1, ts_cv ad x.2)) := List.map_congr_left (fun x hx => by rw [ts_okv_cv (hokl x hx) hag])
  have hst : st.map (ts_cv (ts_ad ad (g.1 + 1) q)) = st.map (ts_cv ad) := List.map_congr_left (fun v hv => ts_okv_cv (hoks v hv) hag)
  have k1 := kk p l e R s m args below meth c D ty A Z ad0 (ts_ad ad (g.1 + 1) q) H1 locs lsA CX (fun i h => (hag i (by omega)).trans (ha i h)) (fun h => absurd h (by show ¬ g.1 + 1 = n0; omega)) (by show n0 ≤ g.1 + 1; omega) (ts_wf_push hwf) ⟨hP, hD, hS⟩ (by rw [hls]; exact hl)
  have e9 : (Value.ref (g.1 + 1) :: st).map (ts_cv (ts_ad ad (g.1 + 1) q)) = .ref q :: st.map (ts_cv ad) := by
    rw [List.map_cons, hst]
    simp [ts_cv, ts_ad]
  rw [e9] at k1
  exact k1
theorem ts_new {C : String} {T : u_T} {N ci index : Nat} {ty0 : Nat → FieldType} (hp : pc + 3 = pc') (hd : decode M.2.1 pc = .ok (.new index, 3)) (hc : vwCl[ci]? = some (C, T, N)) (hN : ts_fN ci = N) (h100 : ci < 100) (hin : ∀ w ∈ u_ws C T N, w ∈ M.2.2.2.2) (hty : ∀ k, k < N → parseFieldDescriptor (T k).2.2.1 = some (ty0 k)) (h1 : Cond.classLink M.1.cls index C ∈ M.2.2.2.2) (h2 : Cond.instantiable C N ∈ M.2.2.2.2) (h3 : Cond.initialized C ∈ M.2.2.2.2) (hdef : ∀ j, j < N → defaultValue (ty0 j) = if ts_fR ci j = true then .null else .int 0) (hk1 : k + 1 ≤ mc) (hj1 : j + N ≤ ms) (hokl : ∀ q ∈ ls, ts_okv g.1 q.2) (hoks : ∀ v ∈ st, ts_okv g.1 v) (kk : ts_JJ d mc ms M scr n0 Q (k + 1) (j + N) pc' ls (.ref (g.1 + 1) :: st) (ts_gn g ci 0) (ts_zi hi (g.1 + 1)) (ts_zk hk (g.1 + 1))) : ts_JJ d mc ms M scr n0 Q k j pc ls st g hi hk := by
  subst hp
  intro p l e R s m args below meth c D ty A Z ad0 ad H locs lsA CX ha hb0 hn hwf hW hl
  have hR := CX.2.2.2.2.2.2.1
  have hfs : ∀ ad', ts_fs ad' (ts_gn g ci 0) (ts_zi hi (g.1 + 1)) (g.1 + 1) = (List.range N).map (fun j => if ts_fR ci j = true then Value.null else .int 0) := by
    intro ad'
    have e1 : (ts_gn g ci 0).2.1 (g.1 + 1) = ci := by simp [ts_gn]
    unfold ts_fs
    rw [e1, hN]
    refine List.map_congr_left fun s _ => ?_
    unfold ts_fv
    rw [e1]
    simp [ts_gn, ts_cr, va_rf, ts_zi]
  refine va_new (ci := ci) (fs := (List.range N).map (fun j => if ts_fR ci j = true then Value.null else .int 0)) CX.1 CX.2.1 CX.2.2.2.2.1 hin ty0 hty CX.2.2.2.1 (CX.2.2.2.2.1 _ h1) (CX.2.2.2.2.1 _ h2) (CX.2.2.2.2.1 _ h3) CX.2.2.2.2.2.2.2.1.1 hW.1 hW.2.1 hW.2.2 CX.2.2.2.2.2.2.2.2.1 hc (fun j9 hj9 => ?_) (by omega) (by omega) hd (fun q H1 hP hD hS => ?_)
  · rw [hdef j9 hj9]
    simp [vp_V, List.getD, List.getElem?_map, List.getElem?_range hj9]
  · exact ts_fin CX ha hn hwf hokl hoks hP hD hS (by rw [ts_cE_obj (c := ci) (by simp [ts_gn]) h100, hfs]) hl kk
theorem ts_newI {n : Int32} {N : Nat} (hp : pc + 2 = pc') (hd : decode M.2.1 pc = .ok (.newarray .int, 2)) (h1 : Cond.arrayClass .int ∈ M.2.2.2.2) (hn0 : ¬ n < 0) (hN : n.toNatClampNeg = N) (hN9 : N ≤ 100000) (hk1 : k + 1 ≤ mc) (hj1 : j + N ≤ ms) (hokl : ∀ q ∈ ls, ts_okv g.1 q.2) (hoks : ∀ v ∈ st, ts_okv g.1 v) (kk : ts_JJ d mc ms M scr n0 Q (k + 1) (j + N) pc' ls (.ref (g.1 + 1) :: st) (ts_gn g 100 N) (ts_zi hi (g.1 + 1)) (ts_zk hk (g.1 + 1))) : ts_JJ d mc ms M scr n0 Q k j pc ls (.int n :: st) g hi hk := by
  subst hp
  intro p l e R s m args below meth c D ty A Z ad0 ad H locs lsA CX ha hb0 hn hwf hW hl
  have hR := CX.2.2.2.2.2.2.1
  refine va_newaK (atype := .int) CX.1 CX.2.1 (CX.2.2.2.2.1 _ h1) rfl hd rfl hn0 hN (by show N * _ ≤ _; simp only [newarray.typeOf, componentBytes]; omega) (by omega) (by omega) rfl fun H1 cA e1 z1 o1 hAr hNm => ?_
  have hcA : cA = ty 0 := Option.some.inj (hNm.symm.trans (CX.2.2.2.2.2.2.2.1.1.2 0 (ty 0, .int) rfl).2)
  subst hcA
  have hk9 : ∀ (k : Nat) (x : Nat × va_E), (ts_wl ty ad g hi hk)[k]? = some x → H1[x.1]? = H[x.1]? := fun k x hx => o1 x.1 ((hW.1 k x hx).lt)
  have hS := hW.2.2
  have hP : va_P D vwCl (ts_wl ty ad g hi hk ++ [(H.size, .inl (ty 0, N, .inl (fun _ => 0)))]) H1 := (hW.1.kept hk9).app (fun k x hx => by
    have hz : k < 1 := (List.getElem?_eq_some_iff.mp hx).1
    rw [show k = 0 by omega] at hx
    cases hx
    show H1[H.size]? = some (vp_cell _ _)
    rw [e1, vp_cell_i]
    rfl)
  refine ts_fin CX ha hn hwf hokl hoks hP (hW.2.1.push hW.1 rfl (CX.2.2.2.2.2.2.2.2.1 _ hS.1)) ⟨Nat.le_trans hS.1 (by omega), fun x h1 h2 => (o1 x (Nat.lt_of_lt_of_le h1 hS.1)).trans (hS.2.1 x h1 h2), hS.2.2⟩ ?_ hl kk
  rw [ts_cE_int (by simp [ts_gn])]
  congr
  · simp [ts_gn]
  · funext t; simp [ts_zi]
theorem ts_newZ {n : Int32} {N : Nat} (hp : pc + 2 = pc') (hd : decode M.2.1 pc = .ok (.newarray .boolean, 2)) (h1 : Cond.arrayClass .boolean ∈ M.2.2.2.2) (hn0 : ¬ n < 0) (hN : n.toNatClampNeg = N) (hN9 : N ≤ 100000) (hk1 : k + 1 ≤ mc) (hj1 : j + N ≤ ms) (hokl : ∀ q ∈ ls, ts_okv g.1 q.2) (hoks : ∀ v ∈ st, ts_okv g.1 v) (kk : ts_JJ d mc ms M scr n0 Q (k + 1) (j + N) pc' ls (.ref (g.1 + 1) :: st) (ts_gn g 101 N) (ts_zi hi (g.1 + 1)) (ts_zk hk (g.1 + 1))) : ts_JJ d mc ms M scr n0 Q k j pc ls (.int n :: st) g hi hk := by
  subst hp
  intro p l e R s m args below meth c D ty A Z ad0 ad H locs lsA CX ha hb0 hn hwf hW hl
  have hR := CX.2.2.2.2.2.2.1
  refine va_newaK (atype := .boolean) CX.1 CX.2.1 (CX.2.2.2.2.1 _ h1) rfl hd rfl hn0 hN (by show N * _ ≤ _; simp only [newarray.typeOf, componentBytes]; omega) (by omega) (by omega) rfl fun H1 cA e1 z1 o1 hAr hNm => ?_
  have hcA : cA = ty 1 := Option.some.inj (hNm.symm.trans (CX.2.2.2.2.2.2.2.1.1.2 1 (ty 1, .boolean) rfl).2)
  subst hcA
  have hk9 : ∀ (k : Nat) (x : Nat × va_E), (ts_wl ty ad g hi hk)[k]? = some x → H1[x.1]? = H[x.1]? := fun k x hx => o1 x.1 ((hW.1 k x hx).lt)
  have hS := hW.2.2
  have hP : va_P D vwCl (ts_wl ty ad g hi hk ++ [(H.size, .inl (ty 1, N, .inl (fun _ => 0)))]) H1 := (hW.1.kept hk9).app (fun k x hx => by
    have hz : k < 1 := (List.getElem?_eq_some_iff.mp hx).1
    rw [show k = 0 by omega] at hx
    cases hx
    show H1[H.size]? = some (vp_cell _ _)
    rw [e1, vp_cell_i]
    rfl)
  refine ts_fin CX ha hn hwf hokl hoks hP (hW.2.1.push hW.1 rfl (CX.2.2.2.2.2.2.2.2.1 _ hS.1)) ⟨Nat.le_trans hS.1 (by omega), fun x h1 h2 => (o1 x (Nat.lt_of_lt_of_le h1 hS.1)).trans (hS.2.1 x h1 h2), hS.2.2⟩ ?_ hl kk
  rw [ts_cE_bool (by simp [ts_gn])]
  congr
  · simp [ts_gn]
  · funext t; simp [ts_zi]
theorem ts_newR {n : Int32} {N index : Nat} (hp : pc + 3 = pc') (hd : decode M.2.1 pc = .ok (.anewarray index, 3)) (h1 : Cond.classLink M.1.cls index RX6 ∈ M.2.2.2.2) (hn0 : ¬ n < 0) (hN : n.toNatClampNeg = N) (hN9 : N ≤ 100000) (hk1 : k + 1 ≤ mc) (hj1 : j + N ≤ ms) (hokl : ∀ q ∈ ls, ts_okv g.1 q.2) (hoks : ∀ v ∈ st, ts_okv g.1 v) (kk : ts_JJ d mc ms M scr n0 Q (k + 1) (j + N) pc' ls (.ref (g.1 + 1) :: st) (ts_gn g 102 N) (ts_zi hi (g.1 + 1)) (ts_zk hk (g.1 + 1))) : ts_JJ d mc ms M scr n0 Q k j pc ls (.int n :: st) g hi hk := by
  subst hp
  subst hN
  intro p l e R s m args below meth c D ty A Z ad0 ad H locs lsA CX ha hb0 hn hwf hW hl
  have hR := CX.2.2.2.2.2.2.1
  refine W.anew (C := RX6) CX.1 CX.2.1 CX.2.2.2.1 (CX.2.2.2.2.1 _ h1) (va_AO.use (CX.2.2.2.2.2.2.2.1.2.2.2.2.1 RX6 (by decide +kernel))) rfl hd rfl hn0 (by omega) (by omega) (by omega) fun cA kA comp f1 f2 f3 f4 => ?_
  obtain ⟨kA', comp', g1, g2, g3, g4⟩ := (CX.2.2.2.2.2.2.2.1.1.2 2 (ty 2, .object RX6) rfl).2
  have hcA : cA = ty 2 := Option.some.inj (f1.symm.trans g4)
  subst hcA
  generalize hH1 : H.push ({ cls := ty 2, slots := Array.replicate n.toNatClampNeg .null, vm := .none } : Cell) = H1
  have z1 : H1.size = H.size + 1 := by rw [← hH1, Array.size_push]
  have e1 : H1[H.size]? = some (arrV (ty 2) n.toNatClampNeg (fun _ => .null)) := by rw [← hH1, Array.getElem?_push_size, ← arrV_new]
  have o1 : ∀ q : Nat, q < H.size → H1[q]? = H[q]? := fun q hq => by rw [← hH1, Array.getElem?_push, if_neg (Nat.ne_of_lt hq)]
  have hk9 : ∀ (k : Nat) (x : Nat × va_E), (ts_wl ty ad g hi hk)[k]? = some x → H1[x.1]? = H[x.1]? := fun k x hx => o1 x.1 ((hW.1 k x hx).lt)
  have hS := hW.2.2
  have hP : va_P D vwCl (ts_wl ty ad g hi hk ++ [(H.size, .inl (ty 2, n.toNatClampNeg, .inr (.inr (.inr (.inr (fun _ => none))))))]) H1 := (hW.1.kept hk9).app (fun k x hx => by
    have hz : k < 1 := (List.getElem?_eq_some_iff.mp hx).1
    rw [show k = 0 by omega] at hx
    cases hx
    show H1[H.size]? = some (vp_cell _ _)
    rw [vp_cell_q]
    exact e1)
  refine ts_fin CX ha hn hwf hokl hoks hP (hW.2.1.push hW.1 rfl (CX.2.2.2.2.2.2.2.2.1 _ hS.1)) ⟨Nat.le_trans hS.1 (by omega), fun x h1 h2 => (o1 x (Nat.lt_of_lt_of_le h1 hS.1)).trans (hS.2.1 x h1 h2), hS.2.2⟩ ?_ hl kk
  rw [ts_cE_rows (by simp [ts_gn])]
  congr
  · simp [ts_gn]
  · funext t; simp [ts_gn, ts_zk, ts_cr]
theorem ts_newK {n : Int32} {N index : Nat} (hp : pc + 3 = pc') (hd : decode M.2.1 pc = .ok (.anewarray index, 3)) (h1 : Cond.classLink M.1.cls index RX2 ∈ M.2.2.2.2) (hn0 : ¬ n < 0) (hN : n.toNatClampNeg = N) (hN9 : N ≤ 100000) (hk1 : k + 1 ≤ mc) (hj1 : j + N ≤ ms) (hokl : ∀ q ∈ ls, ts_okv g.1 q.2) (hoks : ∀ v ∈ st, ts_okv g.1 v) (kk : ts_JJ d mc ms M scr n0 Q (k + 1) (j + N) pc' ls (.ref (g.1 + 1) :: st) (ts_gn g 103 N) (ts_zi hi (g.1 + 1)) (ts_zk hk (g.1 + 1))) : ts_JJ d mc ms M scr n0 Q k j pc ls (.int n :: st) g hi hk := by
  subst hp
  subst hN
  intro p l e R s m args below meth c D ty A Z ad0 ad H locs lsA CX ha hb0 hn hwf hW hl
  have hR := CX.2.2.2.2.2.2.1
  refine W.anew (C := RX2) CX.1 CX.2.1 CX.2.2.2.1 (CX.2.2.2.2.1 _ h1) (va_AO.use (CX.2.2.2.2.2.2.2.1.2.2.2.2.1 RX2 (by decide +kernel))) rfl hd rfl hn0 (by omega) (by omega) (by omega) fun cA kA comp f1 f2 f3 f4 => ?_
  obtain ⟨kA', comp', g1, g2, g3, g4⟩ := (CX.2.2.2.2.2.2.2.1.1.2 3 (ty 3, .object RX2) rfl).2
  have hcA : cA = ty 3 := Option.some.inj (f1.symm.trans g4)
  subst hcA
  generalize hH1 : H.push ({ cls := ty 3, slots := Array.replicate n.toNatClampNeg .null, vm := .none } : Cell) = H1
  have z1 : H1.size = H.size + 1 := by rw [← hH1, Array.size_push]
  have e1 : H1[H.size]? = some (arrV (ty 3) n.toNatClampNeg (fun _ => .null)) := by rw [← hH1, Array.getElem?_push_size, ← arrV_new]
  have o1 : ∀ q : Nat, q < H.size → H1[q]? = H[q]? := fun q hq => by rw [← hH1, Array.getElem?_push, if_neg (Nat.ne_of_lt hq)]
  have hk9 : ∀ (k : Nat) (x : Nat × va_E), (ts_wl ty ad g hi hk)[k]? = some x → H1[x.1]? = H[x.1]? := fun k x hx => o1 x.1 ((hW.1 k x hx).lt)
  have hS := hW.2.2
  have hP : va_P D vwCl (ts_wl ty ad g hi hk ++ [(H.size, .inl (ty 3, n.toNatClampNeg, .inr (.inr (.inr (.inr (fun _ => none))))))]) H1 := (hW.1.kept hk9).app (fun k x hx => by
    have hz : k < 1 := (List.getElem?_eq_some_iff.mp hx).1
    rw [show k = 0 by omega] at hx
    cases hx
    show H1[H.size]? = some (vp_cell _ _)
    rw [vp_cell_q]
    exact e1)
  refine ts_fin CX ha hn hwf hokl hoks hP (hW.2.1.push hW.1 rfl (CX.2.2.2.2.2.2.2.2.1 _ hS.1)) ⟨Nat.le_trans hS.1 (by omega), fun x h1 h2 => (o1 x (Nat.lt_of_lt_of_le h1 hS.1)).trans (hS.2.1 x h1 h2), hS.2.2⟩ ?_ hl kk
  rw [ts_cE_kinds (by simp [ts_gn])]
  congr
  · simp [ts_gn]
  · funext t; simp [ts_gn, ts_zk, ts_cr]
theorem ts_newF {n : Int32} {N index : Nat} (hp : pc + 3 = pc') (hd : decode M.2.1 pc = .ok (.anewarray index, 3)) (h1 : Cond.classLink M.1.cls index RX1 ∈ M.2.2.2.2) (hn0 : ¬ n < 0) (hN : n.toNatClampNeg = N) (hN9 : N ≤ 100000) (hk1 : k + 1 ≤ mc) (hj1 : j + N ≤ ms) (hokl : ∀ q ∈ ls, ts_okv g.1 q.2) (hoks : ∀ v ∈ st, ts_okv g.1 v) (kk : ts_JJ d mc ms M scr n0 Q (k + 1) (j + N) pc' ls (.ref (g.1 + 1) :: st) (ts_gn g 104 N) (ts_zi hi (g.1 + 1)) (ts_zk hk (g.1 + 1))) : ts_JJ d mc ms M scr n0 Q k j pc ls (.int n :: st) g hi hk := by
  subst hp
  subst hN
  intro p l e R s m args below meth c D ty A Z ad0 ad H locs lsA CX ha hb0 hn hwf hW hl
  have hR := CX.2.2.2.2.2.2.1
  refine W.anew (C := RX1) CX.1 CX.2.1 CX.2.2.2.1 (CX.2.2.2.2.1 _ h1) (va_AO.use (CX.2.2.2.2.2.2.2.1.2.2.2.2.1 RX1 (by decide +kernel))) rfl hd rfl hn0 (by omega) (by omega) (by omega) fun cA kA comp f1 f2 f3 f4 => ?_
  obtain ⟨kA', comp', g1, g2, g3, g4⟩ := (CX.2.2.2.2.2.2.2.1.1.2 4 (ty 4, .object RX1) rfl).2
  have hcA : cA = ty 4 := Option.some.inj (f1.symm.trans g4)
  subst hcA
  generalize hH1 : H.push ({ cls := ty 4, slots := Array.replicate n.toNatClampNeg .null, vm := .none } : Cell) = H1
  have z1 : H1.size = H.size + 1 := by rw [← hH1, Array.size_push]
  have e1 : H1[H.size]? = some (arrV (ty 4) n.toNatClampNeg (fun _ => .null)) := by rw [← hH1, Array.getElem?_push_size, ← arrV_new]
  have o1 : ∀ q : Nat, q < H.size → H1[q]? = H[q]? := fun q hq => by rw [← hH1, Array.getElem?_push, if_neg (Nat.ne_of_lt hq)]
  have hk9 : ∀ (k : Nat) (x : Nat × va_E), (ts_wl ty ad g hi hk)[k]? = some x → H1[x.1]? = H[x.1]? := fun k x hx => o1 x.1 ((hW.1 k x hx).lt)
  have hS := hW.2.2
  have hP : va_P D vwCl (ts_wl ty ad g hi hk ++ [(H.size, .inl (ty 4, n.toNatClampNeg, .inr (.inr (.inr (.inr (fun _ => none))))))]) H1 := (hW.1.kept hk9).app (fun k x hx => by
    have hz : k < 1 := (List.getElem?_eq_some_iff.mp hx).1
    rw [show k = 0 by omega] at hx
    cases hx
    show H1[H.size]? = some (vp_cell _ _)
    rw [vp_cell_q]
    exact e1)
  refine ts_fin CX ha hn hwf hokl hoks hP (hW.2.1.push hW.1 rfl (CX.2.2.2.2.2.2.2.2.1 _ hS.1)) ⟨Nat.le_trans hS.1 (by omega), fun x h1 h2 => (o1 x (Nat.lt_of_lt_of_le h1 hS.1)).trans (hS.2.1 x h1 h2), hS.2.2⟩ ?_ hl kk
  rw [ts_cE_flds (by simp [ts_gn])]
  congr
  · simp [ts_gn]
  · funext t; simp [ts_gn, ts_zk, ts_cr]
theorem ts_fs_go {ad : Nat → Nat} {a c s r : Nat} (h : g.2.1 a = c) (hR : ts_fR c s = true) (hr : r ≠ 0) : ts_fs ad (ts_go g a s r) hi a = (ts_fs ad g hi a).set s (.ref (ad r)) := by
  subst h
  apply List.ext_getElem?
  intro i
  rw [List.getElem?_set]
  have eg : (ts_go g a s r).2.1 a = g.2.1 a := rfl
  by_cases hi1 : i < ts_fN (g.2.1 a)
  · rw [ts_fs_at eg hi1, ts_fs_at rfl hi1, ts_fs_len rfl]
    by_cases hs : s = i
    · subst hs
      simp [hi1, ts_fv, ts_go, ts_uk, hR, ts_rf_cr hr]
    · have h2 : ¬ i = s := fun q => hs q.symm
      simp [hs, ts_fv, ts_go, ts_uk, h2]
  · have h1 : (ts_fs ad (ts_go g a s r) hi a)[i]? = none := by simp [ts_fs_len eg]; omega
    have h2 : (ts_fs ad g hi a)[i]? = none := by simp [ts_fs_len rfl]; omega
    rw [h1, h2, ts_fs_len rfl]
    by_cases hs : s = i
    · rw [if_pos hs, if_neg (by omega)]
    · rw [if_neg hs]
theorem ts_cE_gone {ty : Nat → ClassId} {ad : Nat → Nat} {a s r b : Nat} (h : b ≠ a) : ts_cE ty ad (ts_go g a s r) hi hk b = ts_cE ty ad g hi hk b := by
  unfold ts_cE ts_fs ts_fv
  show (if g.2.1 b = 100 then _ else _) = _
  have e3 : (ts_go g a s r).2.2.2 b = g.2.2.2 b := ts_uk_ne h
  rw [e3]
  rfl
theorem ts_wl_go {ty : Nat → ClassId} {ad : Nat → Nat} {a s r : Nat} {e : va_E} (hw : ts_wf g hk) (ha : g.2.1 a < 200) (he : ts_cE ty ad (ts_go g a s r) hi hk a = e) : (ts_wl ty ad g hi hk).set (a - 1) (ad a, e) = ts_wl ty ad (ts_go g a s r) hi hk := by
  obtain ⟨h1, h2⟩ := hw.1 a ha
  apply List.ext_getElem?
  intro i
  rw [List.getElem?_set]
  have eg : (ts_go g a s r).1 = g.1 := rfl
  by_cases hi1 : a - 1 = i
  · subst hi1
    have h3 : a - 1 < g.1 := by omega
    have h4 : a - 1 + 1 = a := by omega
    simp [ts_wl, List.getElem?_map, List.getElem?_range h3, h4, h3, he, eg]
  · rw [if_neg hi1]
    by_cases h3 : i < g.1
    · have h5 : i + 1 ≠ a := by omega
      simp [ts_wl, List.getElem?_map, List.getElem?_range h3, ts_cE_gone h5, eg]
    · have h6 : (List.range g.1)[i]? = none := by simp; omega
      simp [ts_wl, List.getElem?_map, h6, eg]
theorem ts_wf_go {a s r : Nat} (hw : ts_wf g hk) (hr : r ≤ g.1) : ts_wf (ts_go g a s r) hk := by
  refine ⟨hw.1, fun b t => ?_, hw.2.2⟩
  show ts_uk g.2.2.2 a s r b t ≤ g.1
  by_cases hbt : b = a ∧ t = s
  · simp only [ts_uk, if_pos hbt]; exact hr
  · simp only [ts_uk, if_neg hbt]; exact hw.2.1 b t
theorem ts_putR {r : Nat} {ft : FieldType} {C : String} {T : u_T} {N ci index : Nat} {a : Nat} (fk : Nat) (hc : vwCl[ci]? = some (C, T, N)) (hN : ts_fN ci = N) (h100 : ci < 100) (hR : ts_fR ci fk = true) (hkN : fk < N) (hin : ∀ w ∈ u_ws C T N, w ∈ M.2.2.2.2) (hlk : Cond.fieldLink M.1.cls index (T fk).1 (T fk).2.1 (T fk).2.2.1 ∈ M.2.2.2.2) {ty0 : Nat → FieldType} (hty : ∀ k, k < N → parseFieldDescriptor (T k).2.2.1 = some (ty0 k)) (hnm : ∀ a, a < N → ∀ b, b < N → a ≠ b → (T a).2.1 ≠ (T b).2.1) (hfin : (T fk).2.2.2 = true) (hdt : parseFieldDescriptor (T fk).2.2.1 = some ft) (hft : ∀ z, narrow ft (.ref z) = .ref z ∧ fits ft (.ref z) = true) (hini : M.1.name = "<init>") (hown : (T fk).1 = M.1.cls) (hp : pc + 3 = pc') (hd : decode M.2.1 pc = .ok (.putfield index, 3)) (hca : g.2.1 a = ci) (hcr : g.2.1 r < 200) (kk : ts_JJ d mc ms M scr n0 Q k j pc' ls st (ts_go g a fk r) hi hk) : ts_JJ d mc ms M scr n0 Q k j pc ls (.ref r :: .ref a :: st) g hi hk := by
  subst hp
  intro p l e R s m args below meth c D ty A Z ad0 ad H locs lsA CX ha hb0 hn hwf hW hl
  have hr0 := hwf.1 r hcr
  refine va_putF (D := D) (ci := ci) (v := .ref (ad r)) (ty := ft) CX.1 CX.2.1 CX.2.2.2.2.1 hin ty0 hty hnm CX.2.2.2.1 CX.2.2.2.2.2.2.2.1.1 hW.1 hW.2.1 hW.2.2 (a - 1) (fs := ts_fs ad g hi a) (by rw [ts_wl_at hwf (by omega), ts_cE_obj hca h100]) hc fk hkN (CX.2.2.2.2.1 _ hlk) (fun _ h9 => h9) hfin (CX.2.2.2.2.2.1.trans hini) hown hdt (hft _).1 (hft _).2 (by rw [ts_fs_len hca]; omega) hd (fun H1 locs1 hP hD hS => ?_)
  rw [ts_wl_go hwf (by omega) (s := fk) (r := r) (by rw [ts_cE_obj (g := ts_go g a fk r) (c := ci) hca h100, ts_fs_go hca hR (by omega)])] at hP hD
  exact kk p l e R s m args below meth c D ty A Z ad0 ad H1 locs1 lsA CX ha hb0 hn (ts_wf_go hwf hr0.2) ⟨hP, hD, hS⟩ hl
theorem ts_putFI {x : Int32} {C : String} {T : u_T} {N ci index : Nat} {a : Nat} (fk : Nat) (hc : vwCl[ci]? = some (C, T, N)) (hN : ts_fN ci = N) (h100 : ci < 100) (hR : ts_fR ci fk = false) (hkN : fk < N) (hin : ∀ w ∈ u_ws C T N, w ∈ M.2.2.2.2) (hlk : Cond.fieldLink M.1.cls index (T fk).1 (T fk).2.1 (T fk).2.2.1 ∈ M.2.2.2.2) {ty0 : Nat → FieldType} (hty : ∀ k, k < N → parseFieldDescriptor (T k).2.2.1 = some (ty0 k)) (hnm : ∀ a, a < N → ∀ b, b < N → a ≠ b → (T a).2.1 ≠ (T b).2.1) (hfin : (T fk).2.2.2 = true) (hdt : parseFieldDescriptor (T fk).2.2.1 = some .int) (hini : M.1.name = "<init>") (hown : (T fk).1 = M.1.cls) (hp : pc + 3 = pc') (hd : decode M.2.1 pc = .ok (.putfield index, 3)) (hca : g.2.1 a = ci) (kk : ts_JJ d mc ms M scr n0 Q k j pc' ls st g (ts_up hi a fk x) hk) : ts_JJ d mc ms M scr n0 Q k j pc ls (.int x :: .ref a :: st) g hi hk := by
  subst hp
  intro p l e R s m args below meth c D ty A Z ad0 ad H locs lsA CX ha hb0 hn hwf hW hl
  refine va_putF (D := D) (ci := ci) (v := .int x) (ty := .int) CX.1 CX.2.1 CX.2.2.2.2.1 hin ty0 hty hnm CX.2.2.2.1 CX.2.2.2.2.2.2.2.1.1 hW.1 hW.2.1 hW.2.2 (a - 1) (fs := ts_fs ad g hi a) (by rw [ts_wl_at hwf (by omega), ts_cE_obj hca h100]) hc fk hkN (CX.2.2.2.2.1 _ hlk) (fun _ h9 => h9) hfin (CX.2.2.2.2.2.1.trans hini) hown hdt rfl rfl (by rw [ts_fs_len hca]; omega) hd (fun H1 locs1 hP hD hS => ?_)
  rw [ts_wl_up hwf hca h100 hR] at hP hD
  exact kk p l e R s m args below meth c D ty A Z ad0 ad H1 locs1 lsA CX ha hb0 hn hwf ⟨hP, hD, hS⟩ hl
theorem ts_aastoreR {a r : Nat} {i : Int32} (hp : pc + 1 = pc') (hd : decode M.2.1 pc = .ok (.aastore, 1)) (hca : g.2.1 a = 102) (hin : vp_in i (g.2.2.1 a)) (hcr : g.2.1 r = 5) (kk : ts_JJ d mc ms M scr n0 Q k j pc' ls st (ts_go g a i.toNatClampNeg r) hi hk) : ts_JJ d mc ms M scr n0 Q k j pc ls (.ref r :: .int i :: .ref a :: st) g hi hk := by
  subst hp
  intro p l e R s m args below meth c D ty A Z ad0 ad H locs lsA CX ha hb0 hn hwf hW hl
  have hr0 := hwf.1 r (by omega)
  refine va_astq CX.1 CX.2.1 CX.2.2.2.2.2.2.2.1.1 hW.1 hW.2.1 hW.2.2 (a - 1) 2 (r - 1) 5 (cA := ty 2) (r := (RX6, TX6, 4)) (n := g.2.2.1 a) (vs := ts_fs ad g hi r) (f := fun j => ts_cr ad (g.2.2.2 a j)) (by rw [ts_wl_at hwf (by omega), ts_cE_rows hca]) rfl (by rw [ts_wl_at hwf (by omega), ts_cE_obj hcr (by decide)]) rfl hin hd (fun H1 locs1 hP hD hS => ?_)
  rw [ts_wl_go hwf (by omega) (s := i.toNatClampNeg) (r := r) (by
    rw [ts_cE_rows (g := ts_go g a i.toNatClampNeg r) hca]
    congr
    funext t
    by_cases ht : t = i.toNatClampNeg
    · have hr1 : r ≠ 0 := by omega
      simp [ts_go, ts_uk, va_up, ts_cr, ht, hr1]
    · simp [ts_go, ts_uk, va_up, ht])] at hP hD
  exact kk p l e R s m args below meth c D ty A Z ad0 ad H1 locs1 lsA CX ha hb0 hn (ts_wf_go hwf hr0.2) ⟨hP, hD, hS⟩ hl
theorem ts_aastoreF {a r : Nat} {i : Int32} (hp : pc + 1 = pc') (hd : decode M.2.1 pc = .ok (.aastore, 1)) (hca : g.2.1 a = 104) (hin : vp_in i (g.2.2.1 a)) (hcr : g.2.1 r = 1) (kk : ts_JJ d mc ms M scr n0 Q k j pc' ls st (ts_go g a i.toNatClampNeg r) hi hk) : ts_JJ d mc ms M scr n0 Q k j pc ls (.ref r :: .int i :: .ref a :: st) g hi hk := by
  subst hp
  intro p l e R s m args below meth c D ty A Z ad0 ad H locs lsA CX ha hb0 hn hwf hW hl
  have hr0 := hwf.1 r (by omega)
  refine va_astq CX.1 CX.2.1 CX.2.2.2.2.2.2.2.1.1 hW.1 hW.2.1 hW.2.2 (a - 1) 4 (r - 1) 1 (cA := ty 4) (r := (RX1, TX1, 13)) (n := g.2.2.1 a) (vs := ts_fs ad g hi r) (f := fun j => ts_cr ad (g.2.2.2 a j)) (by rw [ts_wl_at hwf (by omega), ts_cE_flds hca]) rfl (by rw [ts_wl_at hwf (by omega), ts_cE_obj hcr (by decide)]) rfl hin hd (fun H1 locs1 hP hD hS => ?_)
  rw [ts_wl_go hwf (by omega) (s := i.toNatClampNeg) (r := r) (by
    rw [ts_cE_flds (g := ts_go g a i.toNatClampNeg r) hca]
    congr
    funext t
    by_cases ht : t = i.toNatClampNeg
    · have hr1 : r ≠ 0 := by omega
      simp [ts_go, ts_uk, va_up, ts_cr, ht, hr1]
    · simp [ts_go, ts_uk, va_up, ht])] at hP hD
  exact kk p l e R s m args below meth c D ty A Z ad0 ad H1 locs1 lsA CX ha hb0 hn (ts_wf_go hwf hr0.2) ⟨hP, hD, hS⟩ hl
theorem ts_objI {a index : Nat} (hp : pc + 3 = pc') (hd : decode M.2.1 pc = .ok (.invokespecial index, 3)) (h1 : Cond.methodLink M.1.cls index objectInit ∈ M.2.2.2.2) (h2 : Cond.instanceMethod objectInit ∈ M.2.2.2.2) (h3 : Cond.code objectInit ⟨#[0xb1]⟩ 1 none ∈ M.2.2.2.2) (hd0 : 1 ≤ d) (hsum : (st.map fun v => v.category).sum ≤ 8) (kk : ts_JJ d mc ms M scr n0 Q k j pc' ls st g hi hk) : ts_JJ d mc ms M scr n0 Q k j pc ls (.ref a :: st) g hi hk := by
  subst hp
  intro p l e R s m args below meth c D ty A Z ad0 ad H locs lsA CX ha hb0 hn hwf hW hl
  have hR := CX.2.2.2.2.2.2.1
  refine W.objInit CX.1 CX.2.1 CX.2.2.2.1 (CX.2.2.2.2.1 _ h1) (CX.2.2.2.2.1 _ h2) (CX.2.2.2.2.1 _ h3) rfl (hl.1.trans CX.2.2.1.symm) rfl hd (by omega) (by rw [ts_cv_sum]; show 2 * 0 + _ + 12 ≤ _; omega) ?_
  exact kk p l e R s m args below meth c D ty A Z ad0 ad H locs lsA CX ha hb0 hn hwf hW hl
end ts_rules
