/-! methods that make nothing: the frame stays; the answer by its type -/
abbrev ts_Q0 : Type := Option Value → ts_I → ts_K → Prop
def ts_q0 (g : ts_G) (Q : ts_Q0) : ts_Q := fun r g' hi hk => g' = g ∧ Q r hi hk
def ts_E0 (d : Nat) (M : ts_M) (av : List Value) (g : ts_G) (hi : ts_I) (hk : ts_K) (Q : ts_Q0) : Prop := ts_Ev d 0 0 M av g hi hk (ts_q0 g Q)
def ts_J0 (d : Nat) (M : ts_M) (Q : ts_Q0) (g : ts_G) (pc : Nat) (ls : List (Nat × Value)) (st : List Value) (hi : ts_I) (hk : ts_K) : Prop := ts_JJ d 0 0 M none g.1 (ts_q0 g Q) 0 0 pc ls st g hi hk
def ts_qi (Q : Int32 → ts_I → ts_K → Prop) : ts_Q0 := fun r hi hk => ∃ v, r = some (.int v) ∧ Q v hi hk
def ts_qv (Q : ts_I → ts_K → Prop) : ts_Q0 := fun r hi hk => r = none ∧ Q hi hk
def ts_qr (Q : Nat → ts_I → ts_K → Prop) : ts_Q0 := fun r hi hk => ∃ a, r = some (.ref a) ∧ Q a hi hk
/-- a call on an object of one of several classes -/
def ts_EV (tb : List (Nat × ts_M)) (d a : Nat) (av : List Value) (g : ts_G) (hi : ts_I) (hk : ts_K) (Q : ts_Q0) : Prop := ∃ M, (g.2.1 a, M) ∈ tb ∧ ts_E0 d M av g hi hk Q
theorem ts_E0.mono {d : Nat} {M : ts_M} {av : List Value} {g : ts_G} {hi : ts_I} {hk : ts_K} {Q Q' : ts_Q0} (h : ts_E0 d M av g hi hk Q) (hQ : ∀ r hi' hk', Q r hi' hk' → Q' r hi' hk') : ts_E0 d M av g hi hk Q' :=
  ts_Ev.mono h (fun r g' hi' hk' q => ⟨q.1, hQ r hi' hk' q.2⟩)
theorem ts_E0.mi {d : Nat} {M : ts_M} {av : List Value} {g : ts_G} {hi : ts_I} {hk : ts_K} {Q Q' : Int32 → ts_I → ts_K → Prop} (h : ts_E0 d M av g hi hk (ts_qi Q)) (hQ : ∀ v hi' hk', Q v hi' hk' → Q' v hi' hk') : ts_E0 d M av g hi hk (ts_qi Q') :=
  h.mono (fun _ hi' hk' q => by obtain ⟨v, e, q⟩ := q; exact ⟨v, e, hQ v hi' hk' q⟩)
theorem ts_E0.mv {d : Nat} {M : ts_M} {av : List Value} {g : ts_G} {hi : ts_I} {hk : ts_K} {Q Q' : ts_I → ts_K → Prop} (h : ts_E0 d M av g hi hk (ts_qv Q)) (hQ : ∀ hi' hk', Q hi' hk' → Q' hi' hk') : ts_E0 d M av g hi hk (ts_qv Q') :=
  h.mono (fun _ hi' hk' q => ⟨q.1, hQ hi' hk' q.2⟩)
theorem ts_E0.mr {d : Nat} {M : ts_M} {av : List Value} {g : ts_G} {hi : ts_I} {hk : ts_K} {Q Q' : Nat → ts_I → ts_K → Prop} (h : ts_E0 d M av g hi hk (ts_qr Q)) (hQ : ∀ v hi' hk', Q v hi' hk' → Q' v hi' hk') : ts_E0 d M av g hi hk (ts_qr Q') :=
  h.mono (fun _ hi' hk' q => by obtain ⟨v, e, q⟩ := q; exact ⟨v, e, hQ v hi' hk' q⟩)
theorem ts_E0.of {d : Nat} {M : ts_M} {av : List Value} {g : ts_G} {hi : ts_I} {hk : ts_K} {Q : ts_Q0} {ws' : List Cond} (hpl : plainName M.1.cls = true) (hw : M.2.2.2.2 = Cond.code M.1 M.2.1 M.2.2.1 M.2.2.2.1 :: ws') (hL : (lg_sl av).length ≤ M.2.2.1) (h : ts_J0 d M Q g 0 (lv_args 0 av) [] hi hk) : ts_E0 d M av g hi hk Q := ts_Ev.of hpl hw hL h
theorem ts_kv0 {Q : ts_Q0} {g : ts_G} {ls : List (Nat × Value)} {st : List Value} : ts_kv (ts_q0 g Q) g ls st := Or.inl (fun _ _ _ _ h => by rw [h.1])
section ts_rules2
variable {d mc ms : Nat} {M : ts_M} {scr : Option (Nat × (Nat → Int32))} {n0 : Nat} {Q : ts_Q} {k j pc pc' : Nat} {ls ls' : List (Nat × Value)} {st : List Value} {g : ts_G} {hi : ts_I} {hk : ts_K}
theorem ts_kki {Qc : Int32 → ts_I → ts_K → Prop} (kk : ∀ v hi' hk', Qc v hi' hk' → ts_JJ d mc ms M scr n0 Q k j pc' ls (.int v :: st) g hi' hk') : ∀ (r : Option Value) (g' : ts_G) (hi' : ts_I) (hk' : ts_K), ts_q0 g (ts_qi Qc) r g' hi' hk' → ts_JJ d mc ms M scr n0 Q (k + 0) (j + 0) pc' ls (r.toList ++ st) g' hi' hk' := by
  intro r g' hi' hk' h
  obtain ⟨e, v, rfl, q⟩ := h
  rw [e]
  exact kk v hi' hk' q
theorem ts_kkv {Qc : ts_I → ts_K → Prop} (kk : ∀ hi' hk', Qc hi' hk' → ts_JJ d mc ms M scr n0 Q k j pc' ls st g hi' hk') : ∀ (r : Option Value) (g' : ts_G) (hi' : ts_I) (hk' : ts_K), ts_q0 g (ts_qv Qc) r g' hi' hk' → ts_JJ d mc ms M scr n0 Q (k + 0) (j + 0) pc' ls (r.toList ++ st) g' hi' hk' := by
  intro r g' hi' hk' h
  obtain ⟨e, rfl, q⟩ := h
  rw [e]
  exact kk hi' hk' q
theorem ts_kkr {Qc : Nat → ts_I → ts_K → Prop} (kk : ∀ v hi' hk', Qc v hi' hk' → ts_JJ d mc ms M scr n0 Q k j pc' ls (.ref v :: st) g hi' hk') : ∀ (r : Option Value) (g' : ts_G) (hi' : ts_I) (hk' : ts_K), ts_q0 g (ts_qr Qc) r g' hi' hk' → ts_JJ d mc ms M scr n0 Q (k + 0) (j + 0) pc' ls (r.toList ++ st) g' hi' hk' := by
  intro r g' hi' hk' h
  obtain ⟨e, v, rfl, q⟩ := h
  rw [e]
  exact kk v hi' hk' q
theorem ts_lsub {ls' : List (Nat × Value)} (ks : List Nat) (h : ks.filterMap (fun i => ls[i]?) = ls') (kk : ts_JJ d mc ms M scr n0 Q k j pc ls' st g hi hk) : ts_JJ d mc ms M scr n0 Q k j pc ls st g hi hk := by
  intro p l e R s m args below meth c D ty A Z ad0 ad H locs lsA CX ha hb0 hn hwf hW hl
  refine kk p l e R s m args below meth c D ty A Z ad0 ad H locs lsA CX ha hb0 hn hwf hW (lv_sub hl ks ?_)
  rw [← h]
  unfold lv_pick
  rw [List.map_filterMap]
  congr 1
  funext i
  rw [List.getElem?_map]
theorem ts_tableI {x : Int32} {dflt lo hi0 : Int} {offs : Array Int} {len : Nat} {i off : Int} {tgt : Nat} (hd : decode M.2.1 pc = .ok (.tableswitch dflt lo hi0 offs, len)) (hx : x.toInt = i) (h1 : ¬ i < lo) (h2 : ¬ hi0 < i) (ho : offs[(i - lo).toNat]? = some off) (ht : (pc : Int) + off = (tgt : Int)) (kk : ts_JJ d mc ms M scr n0 Q k j tgt ls st g hi hk) : ts_JJ d mc ms M scr n0 Q k j pc ls (.int x :: st) g hi hk := by
  intro p l e R s m args below meth c D ty A Z ad0 ad H locs lsA CX ha hb0 hn hwf hW hl
  exact lv_tableIn CX.1 CX.2.1 hd (by rw [hx]; exact h1) (by rw [hx]; exact h2) (by rw [hx]; exact ho) ht (kk p l e R s m args below meth c D ty A Z ad0 ad H locs lsA CX ha hb0 hn hwf hW hl)
theorem ts_tableO {x : Int32} {dflt lo hi0 : Int} {offs : Array Int} {len : Nat} {tgt : Nat} (hd : decode M.2.1 pc = .ok (.tableswitch dflt lo hi0 offs, len)) (hx : x.toInt < lo ∨ hi0 < x.toInt) (ht : (pc : Int) + dflt = (tgt : Int)) (kk : ts_JJ d mc ms M scr n0 Q k j tgt ls st g hi hk) : ts_JJ d mc ms M scr n0 Q k j pc ls (.int x :: st) g hi hk := by
  intro p l e R s m args below meth c D ty A Z ad0 ad H locs lsA CX ha hb0 hn hwf hW hl
  exact lv_tableOut CX.1 CX.2.1 hd hx ht (kk p l e R s m args below meth c D ty A Z ad0 ad H locs lsA CX ha hb0 hn hwf hW hl)
theorem ts_lookI {x : Int32} {dflt off : Int} {ps : Array (Int × Int)} {len : Nat} {tgt : Nat} (hd : decode M.2.1 pc = .ok (.lookupswitch dflt ps, len)) (hps : (ps.toList.zip (ps.toList.drop 1)).all (fun (a, next) => a.1 < next.1) = true) (ho : Op.lookupswitch.offset ps.toList dflt x.toInt = off) (ht : (pc : Int) + off = (tgt : Int)) (kk : ts_JJ d mc ms M scr n0 Q k j tgt ls st g hi hk) : ts_JJ d mc ms M scr n0 Q k j pc ls (.int x :: st) g hi hk := by
  intro p l e R s m args below meth c D ty A Z ad0 ad H locs lsA CX ha hb0 hn hwf hW hl
  exact lv_lookup CX.1 CX.2.1 hd hps ho ht (kk p l e R s m args below meth c D ty A Z ad0 ad H locs lsA CX ha hb0 hn hwf hW hl)
theorem ts_switch {x : Int32} {lo : Nat} (n : Nat) (hn : lo + n < 2 ^ 30) (h : ∀ i, i < n → ¬ x = Int32.ofNat (lo + i)) : x.toInt < lo ∨ (lo + n : Int) ≤ x.toInt := by
  rcases Int.lt_or_le x.toInt lo with h1 | h1
  · exact Or.inl h1
  · refine Or.inr ?_
    rcases Int.lt_or_le x.toInt (lo + n) with h2 | h2
    · exfalso
      refine h (x.toInt.toNat - lo) (by omega) ?_
      apply Int32.toInt_inj.mp
      rw [show lo + (x.toInt.toNat - lo) = x.toInt.toNat by omega]
      have h3 : (nI x.toInt.toNat).toInt = (x.toInt.toNat : Int) := nI_toInt (by omega)
      rw [show Int32.ofNat x.toInt.toNat = nI x.toInt.toNat from rfl, h3]
      omega
    · exact h2
theorem ts_swout {x : Int32} {lo hi0 : Int} {l n : Nat} (hl : lo = l) (hn : l + n < 2 ^ 30) (hh : hi0 + 1 = l + n) (h : ∀ i, i < n → ¬ x = Int32.ofNat (l + i)) : x.toInt < lo ∨ hi0 < x.toInt := by
  rcases ts_switch n hn h with h1 | h1
  · exact Or.inl (by omega)
  · exact Or.inr (by omega)
def ts_isK (n : Nat) : Prop := n = 0 ∨ n = 2 ∨ n = 3 ∨ n = 4 ∨ n = 7
theorem ts_getKind {index a : Nat} (hca : g.2.1 a = 0 ∨ g.2.1 a = 2 ∨ g.2.1 a = 3 ∨ g.2.1 a = 4 ∨ g.2.1 a = 7) (hp : pc + 3 = pc') (hlk : Cond.fieldLink M.1.cls index "TurnipSquires$Kind" "number" "I" ∈ M.2.2.2.2) (hd : decode M.2.1 pc = .ok (.getfield index, 3)) (kk : ts_JJ d mc ms M scr n0 Q k j pc' ls (.int (hi a 0) :: st) g hi hk) (hin : (∀ w ∈ wsX00, w ∈ M.2.2.2.2) ∧ (∀ w ∈ wsX30, w ∈ M.2.2.2.2) ∧ (∀ w ∈ wsX40, w ∈ M.2.2.2.2) ∧ (∀ w ∈ wsX50, w ∈ M.2.2.2.2) ∧ (∀ w ∈ wsX80, w ∈ M.2.2.2.2)) : ts_JJ d mc ms M scr n0 Q k j pc ls (.ref a :: st) g hi hk := by
  rcases hca with h | h | h | h | h
  · exact ts_getI (C := RX0) (T := TX0) (N := 1) (ci := 0) 0 rfl rfl (by decide) rfl (by decide) hin.1 hlk hp hd h kk
  · exact ts_getI (C := RX3) (T := TX3) (N := 1) (ci := 2) 0 rfl rfl (by decide) rfl (by decide) hin.2.1 hlk hp hd h kk
  · exact ts_getI (C := RX4) (T := TX4) (N := 1) (ci := 3) 0 rfl rfl (by decide) rfl (by decide) hin.2.2.1 hlk hp hd h kk
  · exact ts_getI (C := RX5) (T := TX5) (N := 1) (ci := 4) 0 rfl rfl (by decide) rfl (by decide) hin.2.2.2.1 hlk hp hd h kk
  · exact ts_getI (C := RX8) (T := TX8) (N := 1) (ci := 7) 0 rfl rfl (by decide) rfl (by decide) hin.2.2.2.2 hlk hp hd h kk
theorem ts_astoreKind {a r : Nat} {i : Int32} (hp : pc + 1 = pc') (hd : decode M.2.1 pc = .ok (.aastore, 1)) (hca : g.2.1 a = 103) (hin : vp_in i (g.2.2.1 a)) (hcr : g.2.1 r = 0 ∨ g.2.1 r = 2 ∨ g.2.1 r = 3 ∨ g.2.1 r = 4 ∨ g.2.1 r = 7) (kk : ts_JJ d mc ms M scr n0 Q k j pc' ls st g hi (ts_uk hk a i.toNatClampNeg r)) : ts_JJ d mc ms M scr n0 Q k j pc ls (.ref r :: .int i :: .ref a :: st) g hi hk := by
  rcases hcr with h | h | h | h | h
  · exact ts_aastoreK (C := RX0) (T := TX0) (N := 1) (ci := 0) hp hd hca hin h (by decide) rfl (by decide +kernel) kk
  · exact ts_aastoreK (C := RX3) (T := TX3) (N := 1) (ci := 2) hp hd hca hin h (by decide) rfl (by decide +kernel) kk
  · exact ts_aastoreK (C := RX4) (T := TX4) (N := 1) (ci := 3) hp hd hca hin h (by decide) rfl (by decide +kernel) kk
  · exact ts_aastoreK (C := RX5) (T := TX5) (N := 1) (ci := 4) hp hd hca hin h (by decide) rfl (by decide +kernel) kk
  · exact ts_aastoreK (C := RX8) (T := TX8) (N := 1) (ci := 7) hp hd hca hin h (by decide) rfl (by decide +kernel) kk
theorem ts_callSUk {d' mc' ms' : Nat} {M' : ts_M} {Q' : ts_Q} {stk : List Value} {index : Nat} {ws' : List Cond} {av : List Value} {b n : Nat} (hp : pc + 3 = pc') (hd : decode M.2.1 pc = .ok (.invokespecial index, 3)) (hst : stk = av.reverse ++ .ref b :: st) (hG : GoodIn M.2.2.2.2 (va_wsSU M.1.cls index M'.1 M'.2.2.2.2)) (hw : M'.2.2.2.2 = Cond.code M'.1 M'.2.1 M'.2.2.1 M'.2.2.2.1 :: ws') (hds : M'.1.name ≠ "<init>" ∧ (parseMethodDescriptor M'.1.desc).map (fun d => d.parameters.length) = some n) (hn9 : av.length = n) (hca : g.2.1 b = 0 ∨ g.2.1 b = 2 ∨ g.2.1 b = 3 ∨ g.2.1 b = 4 ∨ g.2.1 b = 7) (hdd : d' + 1 ≤ d) (hnL : M'.2.2.1 ≤ 40) (hsum : (st.map fun v => v.category).sum ≤ 8) (hk1 : k + mc' ≤ mc) (hj1 : j + ms' ≤ ms) (hv : ts_kv Q' g ls st) (hE : ts_Ev d' mc' ms' M' (.ref b :: av) g hi hk Q') (kk : ∀ (r : Option Value) (g' : ts_G) (hi' : ts_I) (hk' : ts_K), Q' r g' hi' hk' → ts_JJ d mc ms M scr n0 Q (k + mc') (j + ms') pc' ls (r.toList ++ st) g' hi' hk') : ts_JJ d mc ms M scr n0 Q k j pc ls stk g hi hk := by
  rcases hca with h | h | h | h | h
  · exact ts_callSU (C := RX0) (T := TX0) (N := 1) hp hd hst hG hw hds hn9 rfl (by decide) h hdd hnL hsum hk1 hj1 hv hE kk
  · exact ts_callSU (C := RX3) (T := TX3) (N := 1) hp hd hst hG hw hds hn9 rfl (by decide) h hdd hnL hsum hk1 hj1 hv hE kk
  · exact ts_callSU (C := RX4) (T := TX4) (N := 1) hp hd hst hG hw hds hn9 rfl (by decide) h hdd hnL hsum hk1 hj1 hv hE kk
  · exact ts_callSU (C := RX5) (T := TX5) (N := 1) hp hd hst hG hw hds hn9 rfl (by decide) h hdd hnL hsum hk1 hj1 hv hE kk
  · exact ts_callSU (C := RX8) (T := TX8) (N := 1) hp hd hst hG hw hds hn9 rfl (by decide) h hdd hnL hsum hk1 hj1 hv hE kk
theorem ts_instX0 {index a : Nat} (hp : pc + 3 = pc') (hd : decode M.2.1 pc = .ok (.instanceof index, 3)) (hlk : Cond.classLink M.1.cls index RX0 ∈ M.2.2.2.2) (hca : g.2.1 a = 0 ∨ g.2.1 a = 2 ∨ g.2.1 a = 3 ∨ g.2.1 a = 4 ∨ g.2.1 a = 7) (kk : ts_JJ d mc ms M scr n0 Q k j pc' ls (.int (if g.2.1 a ∈ ([0, 7] : List Nat) then (1 : Int32) else 0) :: st) g hi hk) : ts_JJ d mc ms M scr n0 Q k j pc ls (.ref a :: st) g hi hk := by
  rcases hca with h | h | h | h | h
  · rw [h] at kk
    rw [if_pos (by decide)] at kk
    exact ts_instS (C := RX0) (T := TX0) (N := 1) (ci := 0) hp hd hlk h (by decide) rfl kk
  · rw [h] at kk
    rw [if_neg (by decide)] at kk
    exact ts_instN (C := RX3) (nm := RX0) (T := TX3) (N := 1) (ci := 2) hp hd hlk h (by decide) rfl (by decide +kernel) kk
  · rw [h] at kk
    rw [if_neg (by decide)] at kk
    exact ts_instN (C := RX4) (nm := RX0) (T := TX4) (N := 1) (ci := 3) hp hd hlk h (by decide) rfl (by decide +kernel) kk
  · rw [h] at kk
    rw [if_neg (by decide)] at kk
    exact ts_instN (C := RX5) (nm := RX0) (T := TX5) (N := 1) (ci := 4) hp hd hlk h (by decide) rfl (by decide +kernel) kk
  · rw [h] at kk
    rw [if_pos (by decide)] at kk
    exact ts_instY (C := RX8) (nm := RX0) (T := TX8) (N := 1) (ci := 7) hp hd hlk h (by decide) rfl (by decide +kernel) kk
theorem ts_instX3 {index a : Nat} (hp : pc + 3 = pc') (hd : decode M.2.1 pc = .ok (.instanceof index, 3)) (hlk : Cond.classLink M.1.cls index RX3 ∈ M.2.2.2.2) (hca : g.2.1 a = 0 ∨ g.2.1 a = 2 ∨ g.2.1 a = 3 ∨ g.2.1 a = 4 ∨ g.2.1 a = 7) (kk : ts_JJ d mc ms M scr n0 Q k j pc' ls (.int (if g.2.1 a ∈ ([2] : List Nat) then (1 : Int32) else 0) :: st) g hi hk) : ts_JJ d mc ms M scr n0 Q k j pc ls (.ref a :: st) g hi hk := by
  rcases hca with h | h | h | h | h
  · rw [h] at kk
    rw [if_neg (by decide)] at kk
    exact ts_instN (C := RX0) (nm := RX3) (T := TX0) (N := 1) (ci := 0) hp hd hlk h (by decide) rfl (by decide +kernel) kk
  · rw [h] at kk
    rw [if_pos (by decide)] at kk
    exact ts_instS (C := RX3) (T := TX3) (N := 1) (ci := 2) hp hd hlk h (by decide) rfl kk
  · rw [h] at kk
    rw [if_neg (by decide)] at kk
    exact ts_instN (C := RX4) (nm := RX3) (T := TX4) (N := 1) (ci := 3) hp hd hlk h (by decide) rfl (by decide +kernel) kk
  · rw [h] at kk
    rw [if_neg (by decide)] at kk
    exact ts_instN (C := RX5) (nm := RX3) (T := TX5) (N := 1) (ci := 4) hp hd hlk h (by decide) rfl (by decide +kernel) kk
  · rw [h] at kk
    rw [if_neg (by decide)] at kk
    exact ts_instN (C := RX8) (nm := RX3) (T := TX8) (N := 1) (ci := 7) hp hd hlk h (by decide) rfl (by decide +kernel) kk
theorem ts_instX4 {index a : Nat} (hp : pc + 3 = pc') (hd : decode M.2.1 pc = .ok (.instanceof index, 3)) (hlk : Cond.classLink M.1.cls index RX4 ∈ M.2.2.2.2) (hca : g.2.1 a = 0 ∨ g.2.1 a = 2 ∨ g.2.1 a = 3 ∨ g.2.1 a = 4 ∨ g.2.1 a = 7) (kk : ts_JJ d mc ms M scr n0 Q k j pc' ls (.int (if g.2.1 a ∈ ([2, 3, 4] : List Nat) then (1 : Int32) else 0) :: st) g hi hk) : ts_JJ d mc ms M scr n0 Q k j pc ls (.ref a :: st) g hi hk := by
  rcases hca with h | h | h | h | h
  · rw [h] at kk
    rw [if_neg (by decide)] at kk
    exact ts_instN (C := RX0) (nm := RX4) (T := TX0) (N := 1) (ci := 0) hp hd hlk h (by decide) rfl (by decide +kernel) kk
  · rw [h] at kk
    rw [if_pos (by decide)] at kk
    exact ts_instY (C := RX3) (nm := RX4) (T := TX3) (N := 1) (ci := 2) hp hd hlk h (by decide) rfl (by decide +kernel) kk
  · rw [h] at kk
    rw [if_pos (by decide)] at kk
    exact ts_instS (C := RX4) (T := TX4) (N := 1) (ci := 3) hp hd hlk h (by decide) rfl kk
  · rw [h] at kk
    rw [if_pos (by decide)] at kk
    exact ts_instY (C := RX5) (nm := RX4) (T := TX5) (N := 1) (ci := 4) hp hd hlk h (by decide) rfl (by decide +kernel) kk
  · rw [h] at kk
    rw [if_neg (by decide)] at kk
    exact ts_instN (C := RX8) (nm := RX4) (T := TX8) (N := 1) (ci := 7) hp hd hlk h (by decide) rfl (by decide +kernel) kk
theorem ts_instX5 {index a : Nat} (hp : pc + 3 = pc') (hd : decode M.2.1 pc = .ok (.instanceof index, 3)) (hlk : Cond.classLink M.1.cls index RX5 ∈ M.2.2.2.2) (hca : g.2.1 a = 0 ∨ g.2.1 a = 2 ∨ g.2.1 a = 3 ∨ g.2.1 a = 4 ∨ g.2.1 a = 7) (kk : ts_JJ d mc ms M scr n0 Q k j pc' ls (.int (if g.2.1 a ∈ ([4] : List Nat) then (1 : Int32) else 0) :: st) g hi hk) : ts_JJ d mc ms M scr n0 Q k j pc ls (.ref a :: st) g hi hk := by
  rcases hca with h | h | h | h | h
  · rw [h] at kk
    rw [if_neg (by decide)] at kk
    exact ts_instN (C := RX0) (nm := RX5) (T := TX0) (N := 1) (ci := 0) hp hd hlk h (by decide) rfl (by decide +kernel) kk
  · rw [h] at kk
    rw [if_neg (by decide)] at kk
    exact ts_instN (C := RX3) (nm := RX5) (T := TX3) (N := 1) (ci := 2) hp hd hlk h (by decide) rfl (by decide +kernel) kk
  · rw [h] at kk
    rw [if_neg (by decide)] at kk
    exact ts_instN (C := RX4) (nm := RX5) (T := TX4) (N := 1) (ci := 3) hp hd hlk h (by decide) rfl (by decide +kernel) kk
  · rw [h] at kk
    rw [if_pos (by decide)] at kk
    exact ts_instS (C := RX5) (T := TX5) (N := 1) (ci := 4) hp hd hlk h (by decide) rfl kk
  · rw [h] at kk
    rw [if_neg (by decide)] at kk
    exact ts_instN (C := RX8) (nm := RX5) (T := TX8) (N := 1) (ci := 7) hp hd hlk h (by decide) rfl (by decide +kernel) kk
theorem ts_instX8 {index a : Nat} (hp : pc + 3 = pc') (hd : decode M.2.1 pc = .ok (.instanceof index, 3)) (hlk : Cond.classLink M.1.cls index RX8 ∈ M.2.2.2.2) (hca : g.2.1 a = 0 ∨ g.2.1 a = 2 ∨ g.2.1 a = 3 ∨ g.2.1 a = 4 ∨ g.2.1 a = 7) (kk : ts_JJ d mc ms M scr n0 Q k j pc' ls (.int (if g.2.1 a ∈ ([7] : List Nat) then (1 : Int32) else 0) :: st) g hi hk) : ts_JJ d mc ms M scr n0 Q k j pc ls (.ref a :: st) g hi hk := by
  rcases hca with h | h | h | h | h
  · rw [h] at kk
    rw [if_neg (by decide)] at kk
    exact ts_instN (C := RX0) (nm := RX8) (T := TX0) (N := 1) (ci := 0) hp hd hlk h (by decide) rfl (by decide +kernel) kk
  · rw [h] at kk
    rw [if_neg (by decide)] at kk
    exact ts_instN (C := RX3) (nm := RX8) (T := TX3) (N := 1) (ci := 2) hp hd hlk h (by decide) rfl (by decide +kernel) kk
  · rw [h] at kk
    rw [if_neg (by decide)] at kk
    exact ts_instN (C := RX4) (nm := RX8) (T := TX4) (N := 1) (ci := 3) hp hd hlk h (by decide) rfl (by decide +kernel) kk
  · rw [h] at kk
    rw [if_neg (by decide)] at kk
    exact ts_instN (C := RX5) (nm := RX8) (T := TX5) (N := 1) (ci := 4) hp hd hlk h (by decide) rfl (by decide +kernel) kk
  · rw [h] at kk
    rw [if_pos (by decide)] at kk
    exact ts_instS (C := RX8) (T := TX8) (N := 1) (ci := 7) hp hd hlk h (by decide) rfl kk
end ts_rules2
theorem ts_sub {d : Nat} {M : ts_M} {Q : ts_Q0} {g : ts_G} {pc : Nat} {ls ls' : List (Nat × Value)} {st : List Value} {hi : ts_I} {hk : ts_K} (ks : List Nat) (h : ks.filterMap (fun i => ls[i]?) = ls') (kk : ts_J0 d M Q g pc ls' st hi hk) : ts_JJ d 0 0 M none g.1 (ts_q0 g Q) 0 0 pc ls st g hi hk := ts_lsub ks h kk
