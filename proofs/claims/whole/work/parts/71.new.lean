/-! the constructors: where all lies, in closed form -/
def tq_k (r : Nat) : Nat := if r = 0 then 1 else if r = 1 then 103 else 100
def tq_K (b : Nat) : Nat := if b ≤ 14 then [0, 10, 102, 8, 100, 9, 100, 103, 104, 104, 3, 2, 4, 0, 7].getD b 0 else if b ≤ 30 then (if b % 2 = 1 then 5 else 100) else if b ≤ 310 then tq_k ((b - 31) % 10) else if b ≤ 314 then [6, 104, 100, 100].getD (b - 311) 0 else if b ≤ 404 then tq_k ((b - 315) % 10) else if b = 405 then 11 else if b = 416 then 101 else 100
def tq_L (b : Nat) : Nat := if b ≤ 14 then [0, 0, 8, 0, 90, 0, 16, 6, 24, 2, 0, 0, 0, 0, 0].getD b 0 else if b ≤ 30 then (if b % 2 = 1 then 0 else 40) else if b ≤ 310 then (if (b - 31) % 10 = 0 then 0 else 7) else if b ≤ 314 then [0, 9, 7, 7].getD (b - 311) 0 else if b ≤ 404 then (if (b - 315) % 10 = 0 then 0 else 7) else [0, 8, 8, 320, 40, 90, 46, 46, 46, 1104, 92, 2, 7, 7, 7, 16].getD (b - 405) 0
def tq_H (b s : Nat) : Int32 := if s = 0 ∧ 10 ≤ b ∧ b ≤ 14 then nI (b - 9) else 0
theorem tq_H0 {b s : Nat} (h : b < 10 ∨ 14 < b) : tq_H b s = 0 := if_neg (by omega)
/-- n objects and arrays stand, as they are new -/
def tq_N (n : Nat) (g : ts_G) (hi : ts_I) : Prop := g.1 = n ∧ ∀ b, 1 ≤ b → b ≤ n → g.2.1 b = tq_K b ∧ g.2.2.1 b = tq_L b ∧ ∀ s, hi b s = tq_H b s
theorem tq_N.kd {n b : Nat} {g : ts_G} {hi : ts_I} (h : tq_N n g hi) (h1 : 1 ≤ b) (h2 : b ≤ n) : g.2.1 b = tq_K b := (h.2 b h1 h2).1
theorem tq_N.ln {n b : Nat} {g : ts_G} {hi : ts_I} (h : tq_N n g hi) (h1 : 1 ≤ b) (h2 : b ≤ n) : g.2.2.1 b = tq_L b := (h.2 b h1 h2).2.1
theorem tq_N.hv {n b s : Nat} {g : ts_G} {hi : ts_I} (h : tq_N n g hi) (h1 : 1 ≤ b) (h2 : b ≤ n) : hi b s = tq_H b s := (h.2 b h1 h2).2.2 s
theorem tq_al {n c l : Nat} {g g4 : ts_G} {hi hi5 : ts_I} (h : tq_N n g hi) (e4 : g4 = ts_gn g c l) (e5 : ∀ b, b ≠ n + 1 → hi5 b = hi b) (ez : ∀ s, hi5 (n + 1) s = tq_H (n + 1) s) (hK : tq_K (n + 1) = c) (hL : tq_L (n + 1) = l) : tq_N (n + 1) g4 hi5 := by
  obtain ⟨h0, h1⟩ := h
  subst e4
  refine ⟨by show g.1 + 1 = n + 1; rw [h0], fun b b1 b2 => ?_⟩
  by_cases e : b = n + 1
  · subst e
    refine ⟨?_, ?_, ez⟩
    · show (if n + 1 = g.1 + 1 then c else g.2.1 (n + 1)) = _
      rw [if_pos (by rw [h0]), hK]
    · show (if n + 1 = g.1 + 1 then l else g.2.2.1 (n + 1)) = _
      rw [if_pos (by rw [h0]), hL]
  · have z := h1 b b1 (by omega)
    refine ⟨?_, ?_, fun s => by rw [e5 b e]; exact z.2.2 s⟩
    · show (if b = g.1 + 1 then c else g.2.1 b) = _
      rw [if_neg (by omega)]; exact z.1
    · show (if b = g.1 + 1 then l else g.2.2.1 b) = _
      rw [if_neg (by omega)]; exact z.2.1
theorem tq_N.al {n c l : Nat} {g g4 : ts_G} {hi hi5 : ts_I} (h : tq_N n g hi) (e4 : g4 = ts_gn g c l) (e5 : hi5 = ts_zi hi (g.1 + 1)) (hK : tq_K (n + 1) = c) (hL : tq_L (n + 1) = l) (hz : n + 1 < 10 ∨ 14 < n + 1) : tq_N (n + 1) g4 hi5 := by
  refine tq_al h e4 (fun b hb => ?_) (fun s => ?_) hK hL
  · funext s
    subst e5
    show (if b = g.1 + 1 then 0 else hi b s) = hi b s
    rw [if_neg (by rw [h.1]; exact hb)]
  · subst e5
    show (if n + 1 = g.1 + 1 then 0 else hi (n + 1) s) = _
    rw [if_pos (by rw [h.1]), tq_H0 hz]
theorem tq_N.go {n o s r : Nat} {g g9 : ts_G} {hi : ts_I} (h : tq_N n g hi) (e : g9 = ts_go g o s r) : tq_N n g9 hi := by
  subst e
  exact h
theorem tq_rn {n c l : Nat} {g g4 : ts_G} {hi : ts_I} (h : tq_N n g hi) (e4 : g4 = ts_gn g c l) : ∀ b s, b ≤ n → g4.2.2.2 b s = g.2.2.2 b s := fun b s hb => by
  subst e4
  show (if b = g.1 + 1 then 0 else g.2.2.2 b s) = _
  rw [if_neg (by rw [h.1]; omega)]
theorem tq_ro {o s r : Nat} {g g9 : ts_G} (e : g9 = ts_go g o s r) : g9.2.2.2 o s = r ∧ ∀ b t, (b ≠ o ∨ t ≠ s) → g9.2.2.2 b t = g.2.2.2 b t := by
  subst e
  refine ⟨ts_uk_eq, fun b t hb => ?_⟩
  rcases hb with hb | hb
  · exact ts_uk_a hb
  · exact ts_uk_s hb
theorem tq_zk {n : Nat} {g : ts_G} {hi : ts_I} {hk hk6 : ts_K} (h : tq_N n g hi) (e6 : hk6 = ts_zk hk (g.1 + 1)) : ∀ b, b ≤ n → hk6 b = hk b := fun b hb => by
  funext s
  subst e6
  show (if b = g.1 + 1 then 0 else hk b s) = _
  rw [if_neg (by rw [h.1]; omega)]
/-- a field may lie at k -/
def tq_F (k : Nat) : Prop := 15 ≤ k ∧ tq_K k = 1 ∧ tq_K (k + 1) = 103 ∧ (∀ i, 2 ≤ i → i ≤ 9 → tq_K (k + i) = 100) ∧ ∀ i, 1 ≤ i → i ≤ 9 → tq_L (k + i) = 7
theorem tq_Fa {i : Nat} (h : i < 28) : tq_F (31 + 10 * i) := by
  refine ⟨by omega, ?_, ?_, fun j h1 h2 => ?_, fun j h1 h2 => ?_⟩
  · unfold tq_K tq_k
    rw [if_neg (by omega), if_neg (by omega), if_pos (by omega), if_pos (by omega)]
  · unfold tq_K tq_k
    rw [if_neg (by omega), if_neg (by omega), if_pos (by omega), if_neg (by omega), if_pos (by omega)]
  · unfold tq_K tq_k
    rw [if_neg (by omega), if_neg (by omega), if_pos (by omega), if_neg (by omega), if_neg (by omega)]
  · unfold tq_L
    rw [if_neg (by omega), if_neg (by omega), if_pos (by omega), if_neg (by omega)]
theorem tq_Fb {i : Nat} (h : i < 9) : tq_F (315 + 10 * i) := by
  refine ⟨by omega, ?_, ?_, fun j h1 h2 => ?_, fun j h1 h2 => ?_⟩
  · unfold tq_K tq_k
    rw [if_neg (by omega), if_neg (by omega), if_neg (by omega), if_neg (by omega), if_pos (by omega), if_pos (by omega)]
  · unfold tq_K tq_k
    rw [if_neg (by omega), if_neg (by omega), if_neg (by omega), if_neg (by omega), if_pos (by omega), if_neg (by omega), if_pos (by omega)]
  · unfold tq_K tq_k
    rw [if_neg (by omega), if_neg (by omega), if_neg (by omega), if_neg (by omega), if_pos (by omega), if_neg (by omega), if_neg (by omega)]
  · unfold tq_L
    rw [if_neg (by omega), if_neg (by omega), if_neg (by omega), if_neg (by omega), if_pos (by omega), if_neg (by omega)]
theorem tq_FL {k n : Nat} {g : ts_G} {hi : ts_I} (hF : tq_F k) (h : tq_N n g hi) (hn : k + 9 ≤ n) (hr : ∀ i, i ≤ 8 → g.2.2.2 k i = k + 1 + i) : ts_FL g k := by
  obtain ⟨f0, f1, f2, f3, f4⟩ := hF
  exact ⟨⟨by rw [h.kd (by omega) (by omega), f1], by rw [h.kd (by omega) (by omega), f2], fun i h1 h2 => by rw [h.kd (by omega) (by omega), f3 i h1 h2]⟩, fun i h1 h2 => by rw [h.ln (by omega) (by omega), f4 i h1 h2], hr⟩
theorem tq_new1 {d k p : Nat} {g : ts_G} {hi : ts_I} {hk : ts_K} {Q : ts_Q} (hF : tq_F k) (N0 : tq_N k g hi) (hp0 : 1 ≤ p) (hp : p ≤ k) (hpk : tq_K p = 0 ∨ tq_K p = 2 ∨ tq_K p = 3 ∨ tq_K p = 4 ∨ tq_K p = 7)
    (q : ∀ g' hi' hk', tq_N (k + 9) g' hi' → (∀ i, i ≤ 8 → g'.2.2.2 k i = k + 1 + i) → (∀ b s, b < k → g'.2.2.2 b s = g.2.2.2 b s) → (∀ b, b ≤ k → hk' b = hk b) → (∀ t, t < 7 → hk' (k + 1) t = p) → (∀ b, b ≤ k → hi' b = hi b) → Q none g' hi' hk') : ts_Ev (d + 1) 9 63 mX1_init [.ref k, .ref p] g hi hk Q := by
  refine ts_Ev.of plX1_init rfl (Nat.le_of_ble_eq_true rfl) ?_
  refine wX1_init_0 ?_
  obtain ⟨f0, f1, f2, f3, f4⟩ := hF
  have n0 := N0.1
  refine ⟨by omega, by omega, by omega, by omega, fun ga1 ea1 hi1 ei1 hk1 el1 => ?_⟩
  have A1 : tq_N (k + 1) ga1 hi1 := N0.al ea1 ei1 f2 (f4 1 (by omega) (by omega)) (by omega)
  have r1 := tq_rn N0 ea1
  have z1 := tq_zk N0 el1
  refine ⟨by rw [A1.kd (by omega) (by omega), f1], by rw [n0, A1.kd (by omega) (by omega)]; exact (show tq_K (k + 1) < 200 by rw [f2]; decide), fun gb1 eb1 => ?_⟩
  rw [n0] at eb1
  have N1 := A1.go eb1
  have n1 := N1.1
  have o1 := tq_ro eb1
  refine ⟨by omega, by omega, by omega, by omega, fun ga2 ea2 hi2 ei2 hk2 el2 => ?_⟩
  have A2 : tq_N (k + 2) ga2 hi2 := N1.al ea2 ei2 (f3 2 (by omega) (by omega)) (f4 2 (by omega) (by omega)) (by omega)
  have r2 := tq_rn N1 ea2
  have z2 := tq_zk N1 el2
  refine ⟨by rw [A2.kd (by omega) (by omega), f1], by rw [n1, A2.kd (by omega) (by omega)]; exact (show tq_K (k + 2) < 200 by rw [(f3 2 (by omega) (by omega))]; decide), fun gb2 eb2 => ?_⟩
  rw [n1] at eb2
  have N2 := A2.go eb2
  have n2 := N2.1
  have o2 := tq_ro eb2
  refine ⟨by omega, by omega, by omega, by omega, fun ga3 ea3 hi3 ei3 hk3 el3 => ?_⟩
  have A3 : tq_N (k + 3) ga3 hi3 := N2.al ea3 ei3 (f3 3 (by omega) (by omega)) (f4 3 (by omega) (by omega)) (by omega)
  have r3 := tq_rn N2 ea3
  have z3 := tq_zk N2 el3
  refine ⟨by rw [A3.kd (by omega) (by omega), f1], by rw [n2, A3.kd (by omega) (by omega)]; exact (show tq_K (k + 3) < 200 by rw [(f3 3 (by omega) (by omega))]; decide), fun gb3 eb3 => ?_⟩
  rw [n2] at eb3
  have N3 := A3.go eb3
  have n3 := N3.1
  have o3 := tq_ro eb3
  refine ⟨by omega, by omega, by omega, by omega, fun ga4 ea4 hi4 ei4 hk4 el4 => ?_⟩
  have A4 : tq_N (k + 4) ga4 hi4 := N3.al ea4 ei4 (f3 4 (by omega) (by omega)) (f4 4 (by omega) (by omega)) (by omega)
  have r4 := tq_rn N3 ea4
  have z4 := tq_zk N3 el4
  refine ⟨by rw [A4.kd (by omega) (by omega), f1], by rw [n3, A4.kd (by omega) (by omega)]; exact (show tq_K (k + 4) < 200 by rw [(f3 4 (by omega) (by omega))]; decide), fun gb4 eb4 => ?_⟩
  rw [n3] at eb4
  have N4 := A4.go eb4
  have n4 := N4.1
  have o4 := tq_ro eb4
  refine ⟨by omega, by omega, by omega, by omega, fun ga5 ea5 hi5 ei5 hk5 el5 => ?_⟩
  have A5 : tq_N (k + 5) ga5 hi5 := N4.al ea5 ei5 (f3 5 (by omega) (by omega)) (f4 5 (by omega) (by omega)) (by omega)
  have r5 := tq_rn N4 ea5
  have z5 := tq_zk N4 el5
  refine ⟨by rw [A5.kd (by omega) (by omega), f1], by rw [n4, A5.kd (by omega) (by omega)]; exact (show tq_K (k + 5) < 200 by rw [(f3 5 (by omega) (by omega))]; decide), fun gb5 eb5 => ?_⟩
  rw [n4] at eb5
  have N5 := A5.go eb5
  have n5 := N5.1
  have o5 := tq_ro eb5
  refine ⟨by omega, by omega, by omega, by omega, fun ga6 ea6 hi6 ei6 hk6 el6 => ?_⟩
  have A6 : tq_N (k + 6) ga6 hi6 := N5.al ea6 ei6 (f3 6 (by omega) (by omega)) (f4 6 (by omega) (by omega)) (by omega)
  have r6 := tq_rn N5 ea6
  have z6 := tq_zk N5 el6
  refine ⟨by rw [A6.kd (by omega) (by omega), f1], by rw [n5, A6.kd (by omega) (by omega)]; exact (show tq_K (k + 6) < 200 by rw [(f3 6 (by omega) (by omega))]; decide), fun gb6 eb6 => ?_⟩
  rw [n5] at eb6
  have N6 := A6.go eb6
  have n6 := N6.1
  have o6 := tq_ro eb6
  refine ⟨by omega, by omega, by omega, by omega, fun ga7 ea7 hi7 ei7 hk7 el7 => ?_⟩
  have A7 : tq_N (k + 7) ga7 hi7 := N6.al ea7 ei7 (f3 7 (by omega) (by omega)) (f4 7 (by omega) (by omega)) (by omega)
  have r7 := tq_rn N6 ea7
  have z7 := tq_zk N6 el7
  refine ⟨by rw [A7.kd (by omega) (by omega), f1], by rw [n6, A7.kd (by omega) (by omega)]; exact (show tq_K (k + 7) < 200 by rw [(f3 7 (by omega) (by omega))]; decide), fun gb7 eb7 => ?_⟩
  rw [n6] at eb7
  have N7 := A7.go eb7
  have n7 := N7.1
  have o7 := tq_ro eb7
  refine ⟨by omega, by omega, by omega, by omega, fun ga8 ea8 hi8 ei8 hk8 el8 => ?_⟩
  have A8 : tq_N (k + 8) ga8 hi8 := N7.al ea8 ei8 (f3 8 (by omega) (by omega)) (f4 8 (by omega) (by omega)) (by omega)
  have r8 := tq_rn N7 ea8
  have z8 := tq_zk N7 el8
  refine ⟨by rw [A8.kd (by omega) (by omega), f1], by rw [n7, A8.kd (by omega) (by omega)]; exact (show tq_K (k + 8) < 200 by rw [(f3 8 (by omega) (by omega))]; decide), fun gb8 eb8 => ?_⟩
  rw [n7] at eb8
  have N8 := A8.go eb8
  have n8 := N8.1
  have o8 := tq_ro eb8
  refine ⟨by omega, by omega, by omega, by omega, fun ga9 ea9 hi9 ei9 hk9 el9 => ?_⟩
  have A9 : tq_N (k + 9) ga9 hi9 := N8.al ea9 ei9 (f3 9 (by omega) (by omega)) (f4 9 (by omega) (by omega)) (by omega)
  have r9 := tq_rn N8 ea9
  have z9 := tq_zk N8 el9
  refine ⟨by rw [A9.kd (by omega) (by omega), f1], by rw [n8, A9.kd (by omega) (by omega)]; exact (show tq_K (k + 9) < 200 by rw [(f3 9 (by omega) (by omega))]; decide), fun gb9 eb9 => ?_⟩
  rw [n8] at eb9
  have N9 := A9.go eb9
  have n9 := N9.1
  have o9 := tq_ro eb9
  have R : ∀ i, i ≤ 8 → gb9.2.2.2 k i = k + 1 + i := fun i hi => by
    by_cases c0 : i = 0
    · subst c0
      rw [o9.2 k 0 (by omega), r9 k 0 (by omega), o8.2 k 0 (by omega), r8 k 0 (by omega), o7.2 k 0 (by omega), r7 k 0 (by omega), o6.2 k 0 (by omega), r6 k 0 (by omega), o5.2 k 0 (by omega), r5 k 0 (by omega), o4.2 k 0 (by omega), r4 k 0 (by omega), o3.2 k 0 (by omega), r3 k 0 (by omega), o2.2 k 0 (by omega), r2 k 0 (by omega), o1.1]
      omega
    by_cases c1 : i = 1
    · subst c1
      rw [o9.2 k 1 (by omega), r9 k 1 (by omega), o8.2 k 1 (by omega), r8 k 1 (by omega), o7.2 k 1 (by omega), r7 k 1 (by omega), o6.2 k 1 (by omega), r6 k 1 (by omega), o5.2 k 1 (by omega), r5 k 1 (by omega), o4.2 k 1 (by omega), r4 k 1 (by omega), o3.2 k 1 (by omega), r3 k 1 (by omega), o2.1]
      omega
    by_cases c2 : i = 2
    · subst c2
      rw [o9.2 k 2 (by omega), r9 k 2 (by omega), o8.2 k 2 (by omega), r8 k 2 (by omega), o7.2 k 2 (by omega), r7 k 2 (by omega), o6.2 k 2 (by omega), r6 k 2 (by omega), o5.2 k 2 (by omega), r5 k 2 (by omega), o4.2 k 2 (by omega), r4 k 2 (by omega), o3.1]
      omega
    by_cases c3 : i = 3
    · subst c3
      rw [o9.2 k 3 (by omega), r9 k 3 (by omega), o8.2 k 3 (by omega), r8 k 3 (by omega), o7.2 k 3 (by omega), r7 k 3 (by omega), o6.2 k 3 (by omega), r6 k 3 (by omega), o5.2 k 3 (by omega), r5 k 3 (by omega), o4.1]
      omega
    by_cases c4 : i = 4
    · subst c4
      rw [o9.2 k 4 (by omega), r9 k 4 (by omega), o8.2 k 4 (by omega), r8 k 4 (by omega), o7.2 k 4 (by omega), r7 k 4 (by omega), o6.2 k 4 (by omega), r6 k 4 (by omega), o5.1]
      omega
    by_cases c5 : i = 5
    · subst c5
      rw [o9.2 k 5 (by omega), r9 k 5 (by omega), o8.2 k 5 (by omega), r8 k 5 (by omega), o7.2 k 5 (by omega), r7 k 5 (by omega), o6.1]
      omega
    by_cases c6 : i = 6
    · subst c6
      rw [o9.2 k 6 (by omega), r9 k 6 (by omega), o8.2 k 6 (by omega), r8 k 6 (by omega), o7.1]
      omega
    by_cases c7 : i = 7
    · subst c7
      rw [o9.2 k 7 (by omega), r9 k 7 (by omega), o8.1]
      omega
    by_cases c8 : i = 8
    · subst c8
      rw [o9.1]
      omega
    omega
  have U : ∀ b s, b < k → gb9.2.2.2 b s = g.2.2.2 b s := fun b s hb => by
    rw [o9.2 b s (by omega), r9 b s (by omega), o8.2 b s (by omega), r8 b s (by omega), o7.2 b s (by omega), r7 b s (by omega), o6.2 b s (by omega), r6 b s (by omega), o5.2 b s (by omega), r5 b s (by omega), o4.2 b s (by omega), r4 b s (by omega), o3.2 b s (by omega), r3 b s (by omega), o2.2 b s (by omega), r2 b s (by omega), o1.2 b s (by omega), r1 b s (by omega)]
  have Z : ∀ b, b ≤ k → hk9 b = hk b := fun b hb => by
    rw [z9 b (by omega), z8 b (by omega), z7 b (by omega), z6 b (by omega), z5 b (by omega), z4 b (by omega), z3 b (by omega), z2 b (by omega), z1 b (by omega)]
  have H : ∀ b, b ≤ k → hi9 b = hi b := fun b hb => by
    funext s
    by_cases e : b = 0
    · subst e
      rw [ei9, ei8, ei7, ei6, ei5, ei4, ei3, ei2, ei1]
      simp [ts_zi]
    · rw [N9.hv (by omega) (by omega), N0.hv (by omega) (by omega)]
  have L : ∀ n t hk', t + n = 7 → (∀ s, s < t → hk' (k + 1) s = p) → (∀ b, b ≤ k → hk' b = hk b) → ts_JJ (d + 1) 9 63 mX1_init none g.1 Q 9 63 79 [(0, .ref k), (1, .ref p), (2, .int (nI t))] [] gb9 hi9 hk' := by
    intro n
    induction n with
    | zero =>
      intro t hk' htn hI hO
      refine wX1_init_79 ?_
      rw [ts_l7, ts_le (by omega) (by omega)]
      exact ⟨fun _ => ⟨by omega, by omega, q gb9 hi9 hk' N9 R U hO (fun s hs => hI s (by omega)) H⟩, fun c => absurd (by omega) c⟩
    | succ n ih =>
      intro t hk' htn hI hO
      refine wX1_init_79 ?_
      have e0 : gb9.2.2.2 k 0 = k + 1 := R 0 (by omega)
      rw [ts_l7, ts_le (by omega) (by omega), e0, N9.kd (by omega) (by omega), f1, N9.kd (b := k + 1) (by omega) (by omega), f2, N9.ln (b := k + 1) (by omega) (by omega), f4 1 (by omega) (by omega), N9.kd (b := p) (by omega) (by omega), ts_cl (by omega), ts_l1, nI_add]
      refine ⟨fun c => absurd c (by omega), fun _ => ⟨trivial, by omega, trivial, ts_vin (by omega) (by omega), hpk, fun hk2 x2 => ih (t + 1) hk2 (by omega) (fun s hs => ?_) (fun b hb => by rw [x2]; funext s; rw [ts_uk_a (by omega)]; exact congrFun (hO b hb) s)⟩⟩
      by_cases e : s = t
      · rw [x2, e, ts_uk_eq]
      · rw [x2, ts_uk_s e]
        exact hI s (by omega)
  exact L 7 0 hk9 (by omega) (fun s hs => by omega) Z
theorem tq_new6 {d r : Nat} {g : ts_G} {hi : ts_I} {hk : ts_K} {Q : ts_Q} (hr : 1 ≤ r) (h0 : tq_K r = 5) (h1 : tq_K (r + 1) = 100) (h2 : tq_L (r + 1) = 40) (h3 : r + 1 < 10 ∨ 14 < r + 1) (N0 : tq_N r g hi)
    (q : ∀ g' hi' hk', tq_N (r + 1) g' hi' → g'.2.2.2 r 0 = r + 1 → (∀ b s, b < r → g'.2.2.2 b s = g.2.2.2 b s) → (∀ b, b ≤ r → hk' b = hk b) → Q none g' hi' hk') : ts_Ev (d + 1) 1 40 mX6_init [.ref r] g hi hk Q := by
  refine ts_Ev.of plX6_init rfl (Nat.le_of_ble_eq_true rfl) ?_
  refine wX6_init_0 ?_
  have n0 := N0.1
  refine ⟨by omega, by omega, by omega, fun g4 e4 hi5 e5 hk6 e6 => ?_⟩
  have A := N0.al e4 e5 h1 h2 h3
  refine ⟨by rw [A.kd (by omega) (by omega), h0], by rw [n0, A.kd (by omega) (by omega), h1]; decide, fun g9 e9 => ⟨by omega, by omega, ?_⟩⟩
  rw [n0] at e9
  have o := tq_ro e9
  exact q g9 hi5 hk6 (A.go e9) o.1 (fun b s hb => by rw [o.2 b s (by omega), tq_rn N0 e4 b s (by omega)]) (tq_zk N0 e6)
theorem tq_new9 {d r : Nat} {g : ts_G} {hi : ts_I} {hk : ts_K} {Q : ts_Q} (hr : 1 ≤ r) (h0 : tq_K r = 8) (h1 : tq_K (r + 1) = 100) (h2 : tq_L (r + 1) = 90) (h3 : r + 1 < 10 ∨ 14 < r + 1) (N0 : tq_N r g hi)
    (q : ∀ g' hi' hk', tq_N (r + 1) g' hi' → g'.2.2.2 r 0 = r + 1 → (∀ b s, b < r → g'.2.2.2 b s = g.2.2.2 b s) → (∀ b, b ≤ r → hk' b = hk b) → Q none g' hi' hk') : ts_Ev (d + 1) 1 90 mX9_init [.ref r] g hi hk Q := by
  refine ts_Ev.of plX9_init rfl (Nat.le_of_ble_eq_true rfl) ?_
  refine wX9_init_0 ?_
  have n0 := N0.1
  refine ⟨by omega, by omega, by omega, fun g4 e4 hi5 e5 hk6 e6 => ?_⟩
  have A := N0.al e4 e5 h1 h2 h3
  refine ⟨by rw [A.kd (by omega) (by omega), h0], by rw [n0, A.kd (by omega) (by omega), h1]; decide, fun g9 e9 => ⟨by omega, by omega, ?_⟩⟩
  rw [n0] at e9
  have o := tq_ro e9
  exact q g9 hi5 hk6 (A.go e9) o.1 (fun b s hb => by rw [o.2 b s (by omega), tq_rn N0 e4 b s (by omega)]) (tq_zk N0 e6)
theorem tq_new10 {d r : Nat} {g : ts_G} {hi : ts_I} {hk : ts_K} {Q : ts_Q} (hr : 1 ≤ r) (h0 : tq_K r = 9) (h1 : tq_K (r + 1) = 100) (h2 : tq_L (r + 1) = 16) (h3 : r + 1 < 10 ∨ 14 < r + 1) (N0 : tq_N r g hi)
    (q : ∀ g' hi' hk', tq_N (r + 1) g' hi' → g'.2.2.2 r 0 = r + 1 → (∀ b s, b < r → g'.2.2.2 b s = g.2.2.2 b s) → (∀ b, b ≤ r → hk' b = hk b) → Q none g' hi' hk') : ts_Ev (d + 1) 1 16 mX10_init [.ref r] g hi hk Q := by
  refine ts_Ev.of plX10_init rfl (Nat.le_of_ble_eq_true rfl) ?_
  refine wX10_init_0 ?_
  have n0 := N0.1
  refine ⟨by omega, by omega, by omega, fun g4 e4 hi5 e5 hk6 e6 => ?_⟩
  have A := N0.al e4 e5 h1 h2 h3
  refine ⟨by rw [A.kd (by omega) (by omega), h0], by rw [n0, A.kd (by omega) (by omega), h1]; decide, fun g9 e9 => ⟨by omega, by omega, ?_⟩⟩
  rw [n0] at e9
  have o := tq_ro e9
  exact q g9 hi5 hk6 (A.go e9) o.1 (fun b s hb => by rw [o.2 b s (by omega), tq_rn N0 e4 b s (by omega)]) (tq_zk N0 e6)
theorem tq_new2 {d o : Nat} {p : Int32} {g : ts_G} {hi : ts_I} {hk : ts_K} {Q : ts_Q} (h : g.2.1 o = 0 ∨ g.2.1 o = 2 ∨ g.2.1 o = 3 ∨ g.2.1 o = 4 ∨ g.2.1 o = 7) (q : ∀ hi', hi' = ts_up hi o 0 p → Q none g hi' hk) : ts_Ev (d + 1) 0 0 mX2_init [.ref o, .int p] g hi hk Q := by
  refine ts_Ev.of plX2_init rfl (Nat.le_of_ble_eq_true rfl) ?_
  exact wX2_init_0 ⟨h, fun hi2 x2 => ⟨Nat.le_refl _, Nat.le_refl _, q hi2 x2⟩⟩
theorem tq_new4 {d o : Nat} {p : Int32} {g : ts_G} {hi : ts_I} {hk : ts_K} {Q : ts_Q} (ho : o ≤ g.1) (h : g.2.1 o = 0 ∨ g.2.1 o = 2 ∨ g.2.1 o = 3 ∨ g.2.1 o = 4 ∨ g.2.1 o = 7) (q : ∀ hi', hi' = ts_up hi o 0 p → Q none g hi' hk) : ts_Ev (d + 2) 0 0 mX4_init [.ref o, .int p] g hi hk Q := by
  refine ts_Ev.of plX4_init rfl (Nat.le_of_ble_eq_true rfl) ?_
  exact wX4_init_0 ⟨ho, Nat.le_refl _, Nat.le_refl _, tq_new2 h (fun hi' e => ⟨rfl, Nat.le_refl _, Nat.le_refl _, q hi' e⟩)⟩
theorem tq_new3 {d o : Nat} {p : Int32} {g : ts_G} {hi : ts_I} {hk : ts_K} {Q : ts_Q} (ho : o ≤ g.1) (h : g.2.1 o = 0 ∨ g.2.1 o = 2 ∨ g.2.1 o = 3 ∨ g.2.1 o = 4 ∨ g.2.1 o = 7) (q : ∀ hi', hi' = ts_up hi o 0 p → Q none g hi' hk) : ts_Ev (d + 3) 0 0 mX3_init [.ref o, .int p] g hi hk Q := by
  refine ts_Ev.of plX3_init rfl (Nat.le_of_ble_eq_true rfl) ?_
  exact wX3_init_0 ⟨ho, Nat.le_refl _, Nat.le_refl _, tq_new4 ho h (fun hi' e => ⟨rfl, Nat.le_refl _, Nat.le_refl _, q hi' e⟩)⟩
theorem tq_new5 {d o : Nat} {p : Int32} {g : ts_G} {hi : ts_I} {hk : ts_K} {Q : ts_Q} (ho : o ≤ g.1) (h : g.2.1 o = 0 ∨ g.2.1 o = 2 ∨ g.2.1 o = 3 ∨ g.2.1 o = 4 ∨ g.2.1 o = 7) (q : ∀ hi', hi' = ts_up hi o 0 p → Q none g hi' hk) : ts_Ev (d + 3) 0 0 mX5_init [.ref o, .int p] g hi hk Q := by
  refine ts_Ev.of plX5_init rfl (Nat.le_of_ble_eq_true rfl) ?_
  exact wX5_init_0 ⟨ho, Nat.le_refl _, Nat.le_refl _, tq_new4 ho h (fun hi' e => ⟨rfl, Nat.le_refl _, Nat.le_refl _, q hi' e⟩)⟩
theorem tq_new0 {d o : Nat} {p : Int32} {g : ts_G} {hi : ts_I} {hk : ts_K} {Q : ts_Q} (ho : o ≤ g.1) (h : g.2.1 o = 0 ∨ g.2.1 o = 2 ∨ g.2.1 o = 3 ∨ g.2.1 o = 4 ∨ g.2.1 o = 7) (q : ∀ hi', hi' = ts_up hi o 0 p → Q none g hi' hk) : ts_Ev (d + 2) 0 0 mX0_init [.ref o, .int p] g hi hk Q := by
  refine ts_Ev.of plX0_init rfl (Nat.le_of_ble_eq_true rfl) ?_
  exact wX0_init_0 ⟨ho, Nat.le_refl _, Nat.le_refl _, tq_new2 h (fun hi' e => ⟨rfl, Nat.le_refl _, Nat.le_refl _, q hi' e⟩)⟩
theorem tq_new8 {d o : Nat} {p : Int32} {g : ts_G} {hi : ts_I} {hk : ts_K} {Q : ts_Q} (ho : o ≤ g.1) (h : g.2.1 o = 0 ∨ g.2.1 o = 2 ∨ g.2.1 o = 3 ∨ g.2.1 o = 4 ∨ g.2.1 o = 7) (q : ∀ hi', hi' = ts_up hi o 0 p → Q none g hi' hk) : ts_Ev (d + 3) 0 0 mX8_init [.ref o, .int p] g hi hk Q := by
  refine ts_Ev.of plX8_init rfl (Nat.le_of_ble_eq_true rfl) ?_
  exact wX8_init_0 ⟨ho, Nat.le_refl _, Nat.le_refl _, tq_new0 ho h (fun hi' e => ⟨rfl, Nat.le_refl _, Nat.le_refl _, q hi' e⟩)⟩
