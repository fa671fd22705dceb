/-! the constructors: where all lies, in closed form -/
def tq_k (r : Nat) : Nat := if r = 0 then 1 else if r = 1 then 103 else 100
def tq_K (b : Nat) : Nat := if b ≤ 14 then [0, 10, 102, 8, 100, 9, 100, 103, 104, 104, 3, 2, 4, 0, 7].getD b 0 else if b ≤ 30 then (if b % 2 = 1 then 5 else 100) else if b ≤ 310 then tq_k ((b - 31) % 10) else if b ≤ 314 then [6, 104, 100, 100].getD (b - 311) 0 else if b ≤ 404 then tq_k ((b - 315) % 10) else if b = 405 then 11 else if b = 416 then 101 else 100
def tq_L (b : Nat) : Nat := if b ≤ 14 then [0, 0, 8, 0, 90, 0, 16, 6, 24, 2, 0, 0, 0, 0, 0].getD b 0 else if b ≤ 30 then (if b % 2 = 1 then 0 else 40) else if b ≤ 310 then (if (b - 31) % 10 = 0 then 0 else 7) else if b ≤ 314 then [0, 9, 7, 7].getD (b - 311) 0 else if b ≤ 404 then (if (b - 315) % 10 = 0 then 0 else 7) else [0, 8, 8, 320, 40, 90, 46, 46, 46, 1104, 92, 2, 7, 7, 7, 16].getD (b - 405) 0
def tq_H (b s : Nat) : Int32 := if s = 0 ∧ 10 ≤ b ∧ b ≤ 14 then nI (b - 9) else 0
theorem tq_H0 {b s : Nat} (h : b < 10 ∨ 14 < b) : tq_H b s = 0 := if_neg (by omega)
/-- n objects and arrays stand, as they are new -/
def tq_N (n : Nat) (g : ts_G) (hi : ts_I) : Prop := g.1 = n ∧ ∀ b, 1 ≤ b → b ≤ n → g.2.1 b = tq_K b ∧ g.2.2.1 b = tq_L b ∧ ∀ s, hi b s = tq_H b s
theorem tq_N.kd {n b : Nat} {g : ts_G} {hi : ts_I} (h : tq_N n g hi) (h1 : 1 ≤ b) (h2 : b ≤ n) : g.2.1 b = tq_K b := (h.2 b h1 h2).1
theorem tq_N.ln {n b : Nat} {g : ts_G} {hi : ts_I} (h : tq_N n g hi) (h1 : 1 ≤ b) (h2 : b ≤ n) : g.2.2.1 b = tq_L b := (h.2 b h1 h2).2.1
theorem tq_N.hv {n b s : Nat} {g : ts_G} {hi : ts_I} (h : tq_N n g hi) (h1 : 1 ≤ b) (h2 : b ≤ n) : hi b s = tq_H b s := (h.2 b h1 h2).2.2 s
theorem tq_al {n c l : Nat} {g g4 : ts_G} {hi hi5 : ts_I} (h : tq_N n g hi) (e4 : g4 = ts_gn g c l) (e5 : ∀ b, b ≠ n + 1 → hi5 b = hi b) (ez : ∀ s, hi5 (n + 1) s = tq_H (n + 1) s) (hK : tq_K (n + 1) = c) (hL : tq_L (n + 1) = l) : tq_N (n + 1) g4 hi5 := by
  obtain ⟨h0, h1⟩ := h
  subst e4
  refine ⟨by show g.1 + 1 = n + 1; rw [h0], fun b b1 b2 => ?_⟩
  by_cases e : b = n + 1
  · subst e
    refine ⟨?_, ?_, ez⟩
    · show (if n + 1 = g.1 + 1 then c else g.2.1 (n + 1)) = _
      rw [if_pos (by rw [h0]), hK]
    · show (if n + 1 = g.1 + 1 then l else g.2.2.1 (n + 1)) = _
      rw [if_pos (by rw [h0]), hL]
  · have z := h1 b b1 (by omega)
    refine ⟨?_, ?_, fun s => by rw [e5 b e]; exact z.2.2 s⟩
    · show (if b = g.1 + 1 then c else g.2.1 b) = _
      rw [if_neg (by omega)]; exact z.1
    · show (if b = g.1 + 1 then l else g.2.2.1 b) = _
      rw [if_neg (by omega)]; exact z.2.1
theorem tq_N.al {n c l : Nat} {g g4 : ts_G} {hi hi5 : ts_I} (h : tq_N n g hi) (e4 : g4 = ts_gn g c l) (e5 : hi5 = ts_zi hi (g.1 + 1)) (hK : tq_K (n + 1) = c) (hL : tq_L (n + 1) = l) (hz : n + 1 < 10 ∨ 14 < n + 1) : tq_N (n + 1) g4 hi5 := by
  refine tq_al h e4 (fun b hb => ?_) (fun s => ?_) hK hL
  · funext s
    subst e5
    show (if b = g.1 + 1 then 0 else hi b s) = hi b s
    rw [if_neg (by rw [h.1]; exact hb)]
  · subst e5
    show (if n + 1 = g.1 + 1 then 0 else hi (n + 1) s) = _
    rw [if_pos (by rw [h.1]), tq_H0 hz]
theorem tq_N.go {n o s r : Nat} {g g9 : ts_G} {hi : ts_I} (h : tq_N n g hi) (e : g9 = ts_go g o s r) : tq_N n g9 hi := by
  subst e
  exact h
theorem tq_rn {n c l : Nat} {g g4 : ts_G} {hi : ts_I} (h : tq_N n g hi) (e4 : g4 = ts_gn g c l) : ∀ b s, b ≤ n → g4.2.2.2 b s = g.2.2.2 b s := fun b s hb => by
  subst e4
  show (if b = g.1 + 1 then 0 else g.2.2.2 b s) = _
  rw [if_neg (by rw [h.1]; omega)]
theorem tq_ro {o s r : Nat} {g g9 : ts_G} (e : g9 = ts_go g o s r) : g9.2.2.2 o s = r ∧ ∀ b t, (b ≠ o ∨ t ≠ s) → g9.2.2.2 b t = g.2.2.2 b t := by
  subst e
  refine ⟨ts_uk_eq, fun b t hb => ?_⟩
  rcases hb with hb | hb
  · exact ts_uk_a hb
  · exact ts_uk_s hb
theorem tq_zk {n : Nat} {g : ts_G} {hi : ts_I} {hk hk6 : ts_K} (h : tq_N n g hi) (e6 : hk6 = ts_zk hk (g.1 + 1)) : ∀ b, b ≤ n → hk6 b = hk b := fun b hb => by
  funext s
  subst e6
  show (if b = g.1 + 1 then 0 else hk b s) = _
  rw [if_neg (by rw [h.1]; omega)]
/-- a field may lie at k -/
def tq_F (k : Nat) : Prop := 15 ≤ k ∧ tq_K k = 1 ∧ tq_K (k + 1) = 103 ∧ (∀ i, 2 ≤ i → i ≤ 9 → tq_K (k + i) = 100) ∧ ∀ i, 1 ≤ i → i ≤ 9 → tq_L (k + i) = 7
theorem tq_Fa {i : Nat} (h : i < 28) : tq_F (31 + 10 * i) := by
  refine ⟨by omega, ?_, ?_, fun j h1 h2 => ?_, fun j h1 h2 => ?_⟩
  · unfold tq_K tq_k
    rw [if_neg (by omega), if_neg (by omega), if_pos (by omega), if_pos (by omega)]
  · unfold tq_K tq_k
    rw [if_neg (by omega), if_neg (by omega), if_pos (by omega), if_neg (by omega), if_pos (by omega)]
  · unfold tq_K tq_k
    rw [if_neg (by omega), if_neg (by omega), if_pos (by omega), if_neg (by omega), if_neg (by omega)]
  · unfold tq_L
    rw [if_neg (by omega), if_neg (by omega), if_pos (by omega), if_neg (by omega)]
theorem tq_Fb {i : Nat} (h : i < 9) : tq_F (315 + 10 * i) := by
  refine ⟨by omega, ?_, ?_, fun j h1 h2 => ?_, fun j h1 h2 => ?_⟩
  · unfold tq_K tq_k
    rw [if_neg (by omega), if_neg (by omega), if_neg (by omega), if_neg (by omega), if_pos (by omega), if_pos (by omega)]
  · unfold tq_K tq_k
    rw [if_neg (by omega), if_neg (by omega), if_neg (by omega), if_neg (by omega), if_pos (by omega), if_neg (by omega), if_pos (by omega)]
  · unfold tq_K tq_k
    rw [if_neg (by omega), if_neg (by omega), if_neg (by omega), if_neg (by omega), if_pos (by omega), if_neg (by omega), if_neg (by omega)]
  · unfold tq_L
    rw [if_neg (by omega), if_neg (by omega), if_neg (by omega), if_neg (by omega), if_pos (by omega), if_neg (by omega)]
theorem tq_FL {k n : Nat} {g : ts_G} {hi : ts_I} (hF : tq_F k) (h : tq_N n g hi) (hn : k + 9 ≤ n) (hr : ∀ i, i ≤ 8 → g.2.2.2 k i = k + 1 + i) : ts_FL g k := by
  obtain ⟨f0, f1, f2, f3, f4⟩ := hF
  exact ⟨⟨by rw [h.kd (by omega) (by omega), f1], by rw [h.kd (by omega) (by omega), f2], fun i h1 h2 => by rw [h.kd (by omega) (by omega), f3 i h1 h2]⟩, fun i h1 h2 => by rw [h.ln (by omega) (by omega), f4 i h1 h2], hr⟩
theorem tq_st0 {n n' c l s o cl k j mc ms : Nat} {g : ts_G} {hi : ts_I} {hk : ts_K} {P : ts_G → ts_I → ts_K → Prop} (N : tq_N n g hi) (hn : n + 1 = n') (ho1 : 1 ≤ o) (ho : o ≤ n) (hk1 : k ≤ mc) (hj1 : j ≤ ms) (hK : tq_K n' = c) (hL : tq_L n' = l) (hH : n' < 10 ∨ 14 < n') (hcl : tq_K o = cl) (hc : c < 200) (q : ∀ g' hi' hk', tq_N n' g' hi' → g'.2.2.2 o s = n' → (∀ b t, b ≤ n → (b ≠ o ∨ t ≠ s) → g'.2.2.2 b t = g.2.2.2 b t) → (∀ b, b ≤ n → hk' b = hk b) → P g' hi' hk') : (o ≤ g.1) ∧ (k ≤ mc) ∧ (j ≤ ms) ∧ ∀ g5 : ts_G, g5 = ts_gn g c l → ∀ hi6 : ts_I, hi6 = ts_zi hi (g.1 + 1) → ∀ hk7 : ts_K, hk7 = ts_zk hk (g.1 + 1) → (g5.2.1 o = cl) ∧ (g5.2.1 (g.1 + 1) < 200) ∧ ∀ g10 : ts_G, g10 = ts_go g5 o s (g.1 + 1) → P g10 hi6 hk7 := by
  subst hn
  refine ⟨by rw [N.1]; exact ho, hk1, hj1, fun g5 e5 hi6 e6 hk7 e7 => ?_⟩
  have A := N.al e5 e6 hK hL hH
  refine ⟨by rw [A.kd ho1 (by omega), hcl], by rw [N.1, A.kd (by omega) (by omega), hK]; exact hc, fun g10 e10 => ?_⟩
  rw [N.1] at e10
  have w := tq_ro e10
  exact q g10 hi6 hk7 (A.go e10) w.1 (fun b t hb hc => by rw [w.2 b t hc, tq_rn N e5 b t hb]) (tq_zk N e7)
theorem tq_st1 {n n' c l s o p cl k j mc ms : Nat} {g : ts_G} {hi : ts_I} {hk : ts_K} {P : ts_G → ts_I → ts_K → Prop} (N : tq_N n g hi) (hn : n + 1 = n') (ho1 : 1 ≤ o) (ho : o ≤ n) (hp : p ≤ n) (hk1 : k ≤ mc) (hj1 : j ≤ ms) (hK : tq_K n' = c) (hL : tq_L n' = l) (hH : n' < 10 ∨ 14 < n') (hcl : tq_K o = cl) (hc : c < 200) (q : ∀ g' hi' hk', tq_N n' g' hi' → g'.2.2.2 o s = n' → (∀ b t, b ≤ n → (b ≠ o ∨ t ≠ s) → g'.2.2.2 b t = g.2.2.2 b t) → (∀ b, b ≤ n → hk' b = hk b) → P g' hi' hk') : (o ≤ g.1) ∧ (p ≤ g.1) ∧ (k ≤ mc) ∧ (j ≤ ms) ∧ ∀ g5 : ts_G, g5 = ts_gn g c l → ∀ hi6 : ts_I, hi6 = ts_zi hi (g.1 + 1) → ∀ hk7 : ts_K, hk7 = ts_zk hk (g.1 + 1) → (g5.2.1 o = cl) ∧ (g5.2.1 (g.1 + 1) < 200) ∧ ∀ g10 : ts_G, g10 = ts_go g5 o s (g.1 + 1) → P g10 hi6 hk7 := by
  subst hn
  refine ⟨by rw [N.1]; exact ho, by rw [N.1]; exact hp, hk1, hj1, fun g5 e5 hi6 e6 hk7 e7 => ?_⟩
  have A := N.al e5 e6 hK hL hH
  refine ⟨by rw [A.kd ho1 (by omega), hcl], by rw [N.1, A.kd (by omega) (by omega), hK]; exact hc, fun g10 e10 => ?_⟩
  rw [N.1] at e10
  have w := tq_ro e10
  exact q g10 hi6 hk7 (A.go e10) w.1 (fun b t hb hc => by rw [w.2 b t hc, tq_rn N e5 b t hb]) (tq_zk N e7)
theorem tq_st2 {n n' c l s o p r cl k j mc ms : Nat} {g : ts_G} {hi : ts_I} {hk : ts_K} {P : ts_G → ts_I → ts_K → Prop} (N : tq_N n g hi) (hn : n + 1 = n') (ho1 : 1 ≤ o) (ho : o ≤ n) (hp : p ≤ n) (hr : r ≤ n) (hk1 : k ≤ mc) (hj1 : j ≤ ms) (hK : tq_K n' = c) (hL : tq_L n' = l) (hH : n' < 10 ∨ 14 < n') (hcl : tq_K o = cl) (hc : c < 200) (q : ∀ g' hi' hk', tq_N n' g' hi' → g'.2.2.2 o s = n' → (∀ b t, b ≤ n → (b ≠ o ∨ t ≠ s) → g'.2.2.2 b t = g.2.2.2 b t) → (∀ b, b ≤ n → hk' b = hk b) → P g' hi' hk') : (o ≤ g.1) ∧ (p ≤ g.1) ∧ (r ≤ g.1) ∧ (k ≤ mc) ∧ (j ≤ ms) ∧ ∀ g5 : ts_G, g5 = ts_gn g c l → ∀ hi6 : ts_I, hi6 = ts_zi hi (g.1 + 1) → ∀ hk7 : ts_K, hk7 = ts_zk hk (g.1 + 1) → (g5.2.1 o = cl) ∧ (g5.2.1 (g.1 + 1) < 200) ∧ ∀ g10 : ts_G, g10 = ts_go g5 o s (g.1 + 1) → P g10 hi6 hk7 := by
  subst hn
  refine ⟨by rw [N.1]; exact ho, by rw [N.1]; exact hp, by rw [N.1]; exact hr, hk1, hj1, fun g5 e5 hi6 e6 hk7 e7 => ?_⟩
  have A := N.al e5 e6 hK hL hH
  refine ⟨by rw [A.kd ho1 (by omega), hcl], by rw [N.1, A.kd (by omega) (by omega), hK]; exact hc, fun g10 e10 => ?_⟩
  rw [N.1] at e10
  have w := tq_ro e10
  exact q g10 hi6 hk7 (A.go e10) w.1 (fun b t hb hc => by rw [w.2 b t hc, tq_rn N e5 b t hb]) (tq_zk N e7)
theorem tq_new1 {d k p : Nat} {g : ts_G} {hi : ts_I} {hk : ts_K} {Q : ts_Q} (hF : tq_F k) (N0 : tq_N k g hi) (hp0 : 1 ≤ p) (hp : p ≤ k) (hpk : tq_K p = 0 ∨ tq_K p = 2 ∨ tq_K p = 3 ∨ tq_K p = 4 ∨ tq_K p = 7)
    (q : ∀ g' hi' hk', tq_N (k + 9) g' hi' → (∀ i, i ≤ 8 → g'.2.2.2 k i = k + 1 + i) → (∀ b s, b < k → g'.2.2.2 b s = g.2.2.2 b s) → (∀ b, b ≤ k → hk' b = hk b) → (∀ t, t < 7 → hk' (k + 1) t = p) → Q none g' hi' hk') : ts_Ev (d + 1) 9 63 mX1_init [.ref k, .ref p] g hi hk Q := by
  refine ts_Ev.of plX1_init rfl (Nat.le_of_ble_eq_true rfl) ?_
  refine wX1_init_0 ?_
  obtain ⟨f0, f1, f2, f3, f4⟩ := hF
  refine tq_st1 (n' := k + 1) N0 rfl (by omega) (by omega) (by omega) (by decide) (by decide) f2 (f4 1 (by decide) (by decide)) (by omega) f1 (by decide) (fun gb1 ha1 hk1 N1 r1 o1 z1 => ?_)
  refine tq_st1 (n' := k + 2) N1 rfl (by omega) (by omega) (by omega) (by decide) (by decide) (f3 2 (by decide) (by decide)) (f4 2 (by decide) (by decide)) (by omega) f1 (by decide) (fun gb2 ha2 hk2 N2 r2 o2 z2 => ?_)
  refine tq_st1 (n' := k + 3) N2 rfl (by omega) (by omega) (by omega) (by decide) (by decide) (f3 3 (by decide) (by decide)) (f4 3 (by decide) (by decide)) (by omega) f1 (by decide) (fun gb3 ha3 hk3 N3 r3 o3 z3 => ?_)
  refine tq_st1 (n' := k + 4) N3 rfl (by omega) (by omega) (by omega) (by decide) (by decide) (f3 4 (by decide) (by decide)) (f4 4 (by decide) (by decide)) (by omega) f1 (by decide) (fun gb4 ha4 hk4 N4 r4 o4 z4 => ?_)
  refine tq_st1 (n' := k + 5) N4 rfl (by omega) (by omega) (by omega) (by decide) (by decide) (f3 5 (by decide) (by decide)) (f4 5 (by decide) (by decide)) (by omega) f1 (by decide) (fun gb5 ha5 hk5 N5 r5 o5 z5 => ?_)
  refine tq_st1 (n' := k + 6) N5 rfl (by omega) (by omega) (by omega) (by decide) (by decide) (f3 6 (by decide) (by decide)) (f4 6 (by decide) (by decide)) (by omega) f1 (by decide) (fun gb6 ha6 hk6 N6 r6 o6 z6 => ?_)
  refine tq_st1 (n' := k + 7) N6 rfl (by omega) (by omega) (by omega) (by decide) (by decide) (f3 7 (by decide) (by decide)) (f4 7 (by decide) (by decide)) (by omega) f1 (by decide) (fun gb7 ha7 hk7 N7 r7 o7 z7 => ?_)
  refine tq_st1 (n' := k + 8) N7 rfl (by omega) (by omega) (by omega) (by decide) (by decide) (f3 8 (by decide) (by decide)) (f4 8 (by decide) (by decide)) (by omega) f1 (by decide) (fun gb8 ha8 hk8 N8 r8 o8 z8 => ?_)
  refine tq_st1 (n' := k + 9) N8 rfl (by omega) (by omega) (by omega) (by decide) (by decide) (f3 9 (by decide) (by decide)) (f4 9 (by decide) (by decide)) (by omega) f1 (by decide) (fun gb9 ha9 hk9 N9 r9 o9 z9 => ?_)
  have R : ∀ i, i ≤ 8 → gb9.2.2.2 k i = k + 1 + i := fun i hi => by
    by_cases c0 : i = 0
    · subst c0
      rw [o9 k 0 (by omega) (by omega), o8 k 0 (by omega) (by omega), o7 k 0 (by omega) (by omega), o6 k 0 (by omega) (by omega), o5 k 0 (by omega) (by omega), o4 k 0 (by omega) (by omega), o3 k 0 (by omega) (by omega), o2 k 0 (by omega) (by omega), r1]
    by_cases c1 : i = 1
    · subst c1
      rw [o9 k 1 (by omega) (by omega), o8 k 1 (by omega) (by omega), o7 k 1 (by omega) (by omega), o6 k 1 (by omega) (by omega), o5 k 1 (by omega) (by omega), o4 k 1 (by omega) (by omega), o3 k 1 (by omega) (by omega), r2]
    by_cases c2 : i = 2
    · subst c2
      rw [o9 k 2 (by omega) (by omega), o8 k 2 (by omega) (by omega), o7 k 2 (by omega) (by omega), o6 k 2 (by omega) (by omega), o5 k 2 (by omega) (by omega), o4 k 2 (by omega) (by omega), r3]
    by_cases c3 : i = 3
    · subst c3
      rw [o9 k 3 (by omega) (by omega), o8 k 3 (by omega) (by omega), o7 k 3 (by omega) (by omega), o6 k 3 (by omega) (by omega), o5 k 3 (by omega) (by omega), r4]
    by_cases c4 : i = 4
    · subst c4
      rw [o9 k 4 (by omega) (by omega), o8 k 4 (by omega) (by omega), o7 k 4 (by omega) (by omega), o6 k 4 (by omega) (by omega), r5]
    by_cases c5 : i = 5
    · subst c5
      rw [o9 k 5 (by omega) (by omega), o8 k 5 (by omega) (by omega), o7 k 5 (by omega) (by omega), r6]
    by_cases c6 : i = 6
    · subst c6
      rw [o9 k 6 (by omega) (by omega), o8 k 6 (by omega) (by omega), r7]
    by_cases c7 : i = 7
    · subst c7
      rw [o9 k 7 (by omega) (by omega), r8]
    by_cases c8 : i = 8
    · subst c8
      rw [r9]
    omega
  have U : ∀ b s, b < k → gb9.2.2.2 b s = g.2.2.2 b s := fun b s hb => by
    rw [o9 b s (by omega) (by omega), o8 b s (by omega) (by omega), o7 b s (by omega) (by omega), o6 b s (by omega) (by omega), o5 b s (by omega) (by omega), o4 b s (by omega) (by omega), o3 b s (by omega) (by omega), o2 b s (by omega) (by omega), o1 b s (by omega) (by omega)]
  have Z : ∀ b, b ≤ k → hk9 b = hk b := fun b hb => by
    rw [z9 b (by omega), z8 b (by omega), z7 b (by omega), z6 b (by omega), z5 b (by omega), z4 b (by omega), z3 b (by omega), z2 b (by omega), z1 b (by omega)]
  have L : ∀ n t hk', t + n = 7 → (∀ s, s < t → hk' (k + 1) s = p) → (∀ b, b ≤ k → hk' b = hk b) → ts_JJ (d + 1) 9 63 mX1_init none g.1 Q 9 63 79 [(0, .ref k), (1, .ref p), (2, .int (nI t))] [] gb9 ha9 hk' := by
    intro n
    induction n with
    | zero =>
      intro t hk' htn hI hO
      refine wX1_init_79 ?_
      rw [ts_l7, ts_le (by omega) (by omega)]
      exact ⟨fun _ => ⟨by omega, by omega, q gb9 ha9 hk' N9 R U hO (fun s hs => hI s (by omega))⟩, fun c => absurd (by omega) c⟩
    | succ n ih =>
      intro t hk' htn hI hO
      refine wX1_init_79 ?_
      have e0 : gb9.2.2.2 k 0 = k + 1 := R 0 (by omega)
      rw [ts_l7, ts_le (by omega) (by omega), e0, N9.kd (by omega) (by omega), f1, N9.kd (b := k + 1) (by omega) (by omega), f2, N9.ln (b := k + 1) (by omega) (by omega), f4 1 (by omega) (by omega), N9.kd (b := p) (by omega) (by omega), ts_cl (by omega), ts_l1, nI_add]
      refine ⟨fun c => absurd c (by omega), fun _ => ⟨rfl, by omega, rfl, ts_vin (by omega) (by omega), hpk, fun hk2 x2 => ih (t + 1) hk2 (by omega) (fun s hs => ?_) (fun b hb => by rw [x2]; funext s; rw [ts_uk_a (by omega)]; exact congrFun (hO b hb) s)⟩⟩
      by_cases e : s = t
      · rw [x2, e, ts_uk_eq]
      · rw [x2, ts_uk_s e]
        exact hI s (by omega)
  exact L 7 0 hk9 (by omega) (fun s hs => by omega) Z
theorem tq_new6 {d r : Nat} {g : ts_G} {hi : ts_I} {hk : ts_K} {Q : ts_Q} (hr : 1 ≤ r) (h0 : tq_K r = 5) (h1 : tq_K (r + 1) = 100) (h2 : tq_L (r + 1) = 40) (h3 : r + 1 < 10 ∨ 14 < r + 1) (N0 : tq_N r g hi)
    (q : ∀ g' hi' hk', tq_N (r + 1) g' hi' → g'.2.2.2 r 0 = r + 1 → (∀ b s, b < r → g'.2.2.2 b s = g.2.2.2 b s) → (∀ b, b ≤ r → hk' b = hk b) → Q none g' hi' hk') : ts_Ev (d + 1) 1 40 mX6_init [.ref r] g hi hk Q := by
  refine ts_Ev.of plX6_init rfl (Nat.le_of_ble_eq_true rfl) ?_
  refine wX6_init_0 ?_
  have n0 := N0.1
  refine ⟨by omega, by omega, by omega, fun g4 e4 hi5 e5 hk6 e6 => ?_⟩
  have A := N0.al e4 e5 h1 h2 h3
  refine ⟨by rw [A.kd (by omega) (by omega), h0], by rw [n0, A.kd (by omega) (by omega), h1]; decide, fun g9 e9 => ⟨by omega, by omega, ?_⟩⟩
  rw [n0] at e9
  have o := tq_ro e9
  exact q g9 hi5 hk6 (A.go e9) o.1 (fun b s hb => by rw [o.2 b s (by omega), tq_rn N0 e4 b s (by omega)]) (tq_zk N0 e6)
theorem tq_new9 {d r : Nat} {g : ts_G} {hi : ts_I} {hk : ts_K} {Q : ts_Q} (hr : 1 ≤ r) (h0 : tq_K r = 8) (h1 : tq_K (r + 1) = 100) (h2 : tq_L (r + 1) = 90) (h3 : r + 1 < 10 ∨ 14 < r + 1) (N0 : tq_N r g hi)
    (q : ∀ g' hi' hk', tq_N (r + 1) g' hi' → g'.2.2.2 r 0 = r + 1 → (∀ b s, b < r → g'.2.2.2 b s = g.2.2.2 b s) → (∀ b, b ≤ r → hk' b = hk b) → Q none g' hi' hk') : ts_Ev (d + 1) 1 90 mX9_init [.ref r] g hi hk Q := by
  refine ts_Ev.of plX9_init rfl (Nat.le_of_ble_eq_true rfl) ?_
  refine wX9_init_0 ?_
  have n0 := N0.1
  refine ⟨by omega, by omega, by omega, fun g4 e4 hi5 e5 hk6 e6 => ?_⟩
  have A := N0.al e4 e5 h1 h2 h3
  refine ⟨by rw [A.kd (by omega) (by omega), h0], by rw [n0, A.kd (by omega) (by omega), h1]; decide, fun g9 e9 => ⟨by omega, by omega, ?_⟩⟩
  rw [n0] at e9
  have o := tq_ro e9
  exact q g9 hi5 hk6 (A.go e9) o.1 (fun b s hb => by rw [o.2 b s (by omega), tq_rn N0 e4 b s (by omega)]) (tq_zk N0 e6)
theorem tq_new10 {d r : Nat} {g : ts_G} {hi : ts_I} {hk : ts_K} {Q : ts_Q} (hr : 1 ≤ r) (h0 : tq_K r = 9) (h1 : tq_K (r + 1) = 100) (h2 : tq_L (r + 1) = 16) (h3 : r + 1 < 10 ∨ 14 < r + 1) (N0 : tq_N r g hi)
    (q : ∀ g' hi' hk', tq_N (r + 1) g' hi' → g'.2.2.2 r 0 = r + 1 → (∀ b s, b < r → g'.2.2.2 b s = g.2.2.2 b s) → (∀ b, b ≤ r → hk' b = hk b) → Q none g' hi' hk') : ts_Ev (d + 1) 1 16 mX10_init [.ref r] g hi hk Q := by
  refine ts_Ev.of plX10_init rfl (Nat.le_of_ble_eq_true rfl) ?_
  refine wX10_init_0 ?_
  have n0 := N0.1
  refine ⟨by omega, by omega, by omega, fun g4 e4 hi5 e5 hk6 e6 => ?_⟩
  have A := N0.al e4 e5 h1 h2 h3
  refine ⟨by rw [A.kd (by omega) (by omega), h0], by rw [n0, A.kd (by omega) (by omega), h1]; decide, fun g9 e9 => ⟨by omega, by omega, ?_⟩⟩
  rw [n0] at e9
  have o := tq_ro e9
  exact q g9 hi5 hk6 (A.go e9) o.1 (fun b s hb => by rw [o.2 b s (by omega), tq_rn N0 e4 b s (by omega)]) (tq_zk N0 e6)
theorem tq_new2 {d o : Nat} {p : Int32} {g : ts_G} {hi : ts_I} {hk : ts_K} {Q : ts_Q} (h : g.2.1 o = 0 ∨ g.2.1 o = 2 ∨ g.2.1 o = 3 ∨ g.2.1 o = 4 ∨ g.2.1 o = 7) (q : ∀ hi', hi' = ts_up hi o 0 p → Q none g hi' hk) : ts_Ev (d + 1) 0 0 mX2_init [.ref o, .int p] g hi hk Q := by
  refine ts_Ev.of plX2_init rfl (Nat.le_of_ble_eq_true rfl) ?_
  exact wX2_init_0 ⟨h, fun hi2 x2 => ⟨Nat.le_refl _, Nat.le_refl _, q hi2 x2⟩⟩
theorem tq_new4 {d o : Nat} {p : Int32} {g : ts_G} {hi : ts_I} {hk : ts_K} {Q : ts_Q} (ho : o ≤ g.1) (h : g.2.1 o = 0 ∨ g.2.1 o = 2 ∨ g.2.1 o = 3 ∨ g.2.1 o = 4 ∨ g.2.1 o = 7) (q : ∀ hi', hi' = ts_up hi o 0 p → Q none g hi' hk) : ts_Ev (d + 2) 0 0 mX4_init [.ref o, .int p] g hi hk Q := by
  refine ts_Ev.of plX4_init rfl (Nat.le_of_ble_eq_true rfl) ?_
  exact wX4_init_0 ⟨ho, Nat.le_refl _, Nat.le_refl _, tq_new2 h (fun hi' e => ⟨rfl, Nat.le_refl _, Nat.le_refl _, q hi' e⟩)⟩
theorem tq_new3 {d o : Nat} {p : Int32} {g : ts_G} {hi : ts_I} {hk : ts_K} {Q : ts_Q} (ho : o ≤ g.1) (h : g.2.1 o = 0 ∨ g.2.1 o = 2 ∨ g.2.1 o = 3 ∨ g.2.1 o = 4 ∨ g.2.1 o = 7) (q : ∀ hi', hi' = ts_up hi o 0 p → Q none g hi' hk) : ts_Ev (d + 3) 0 0 mX3_init [.ref o, .int p] g hi hk Q := by
  refine ts_Ev.of plX3_init rfl (Nat.le_of_ble_eq_true rfl) ?_
  exact wX3_init_0 ⟨ho, Nat.le_refl _, Nat.le_refl _, tq_new4 ho h (fun hi' e => ⟨rfl, Nat.le_refl _, Nat.le_refl _, q hi' e⟩)⟩
theorem tq_new5 {d o : Nat} {p : Int32} {g : ts_G} {hi : ts_I} {hk : ts_K} {Q : ts_Q} (ho : o ≤ g.1) (h : g.2.1 o = 0 ∨ g.2.1 o = 2 ∨ g.2.1 o = 3 ∨ g.2.1 o = 4 ∨ g.2.1 o = 7) (q : ∀ hi', hi' = ts_up hi o 0 p → Q none g hi' hk) : ts_Ev (d + 3) 0 0 mX5_init [.ref o, .int p] g hi hk Q := by
  refine ts_Ev.of plX5_init rfl (Nat.le_of_ble_eq_true rfl) ?_
  exact wX5_init_0 ⟨ho, Nat.le_refl _, Nat.le_refl _, tq_new4 ho h (fun hi' e => ⟨rfl, Nat.le_refl _, Nat.le_refl _, q hi' e⟩)⟩
theorem tq_new0 {d o : Nat} {p : Int32} {g : ts_G} {hi : ts_I} {hk : ts_K} {Q : ts_Q} (ho : o ≤ g.1) (h : g.2.1 o = 0 ∨ g.2.1 o = 2 ∨ g.2.1 o = 3 ∨ g.2.1 o = 4 ∨ g.2.1 o = 7) (q : ∀ hi', hi' = ts_up hi o 0 p → Q none g hi' hk) : ts_Ev (d + 2) 0 0 mX0_init [.ref o, .int p] g hi hk Q := by
  refine ts_Ev.of plX0_init rfl (Nat.le_of_ble_eq_true rfl) ?_
  exact wX0_init_0 ⟨ho, Nat.le_refl _, Nat.le_refl _, tq_new2 h (fun hi' e => ⟨rfl, Nat.le_refl _, Nat.le_refl _, q hi' e⟩)⟩
theorem tq_new8 {d o : Nat} {p : Int32} {g : ts_G} {hi : ts_I} {hk : ts_K} {Q : ts_Q} (ho : o ≤ g.1) (h : g.2.1 o = 0 ∨ g.2.1 o = 2 ∨ g.2.1 o = 3 ∨ g.2.1 o = 4 ∨ g.2.1 o = 7) (q : ∀ hi', hi' = ts_up hi o 0 p → Q none g hi' hk) : ts_Ev (d + 3) 0 0 mX8_init [.ref o, .int p] g hi hk Q := by
  refine ts_Ev.of plX8_init rfl (Nat.le_of_ble_eq_true rfl) ?_
  exact wX8_init_0 ⟨ho, Nat.le_refl _, Nat.le_refl _, tq_new0 ho h (fun hi' e => ⟨rfl, Nat.le_refl _, Nat.le_refl _, q hi' e⟩)⟩
