/-! the class's constructor -/
/-- the first objects of the class -/
def tq_C (g : ts_G) : Prop := g.2.2.2 1 0 = 2 ∧ g.2.2.2 1 1 = 3 ∧ g.2.2.2 1 2 = 5 ∧ g.2.2.2 1 3 = 7 ∧ g.2.2.2 1 4 = 8 ∧ g.2.2.2 1 5 = 9 ∧ g.2.2.2 3 0 = 4 ∧ g.2.2.2 5 0 = 6
theorem tq_C.of {g g' : ts_G} (h : tq_C g) (e : ∀ b s, b < 7 → b ≠ 2 → (b ≠ 1 ∨ s < 6) → g'.2.2.2 b s = g.2.2.2 b s) : tq_C g' := by
  obtain ⟨a0, a1, a2, a3, a4, a5, a6, a7⟩ := h
  exact ⟨(e 1 0 (by omega) (by omega) (by omega)).trans a0, (e 1 1 (by omega) (by omega) (by omega)).trans a1, (e 1 2 (by omega) (by omega) (by omega)).trans a2, (e 1 3 (by omega) (by omega) (by omega)).trans a3, (e 1 4 (by omega) (by omega) (by omega)).trans a4, (e 1 5 (by omega) (by omega) (by omega)).trans a5, (e 3 0 (by omega) (by omega) (by omega)).trans a6, (e 5 0 (by omega) (by omega) (by omega)).trans a7⟩
def tq_R (i : Nat) (g : ts_G) : Prop := ∀ r, r < i → g.2.2.2 2 r = 15 + 2 * r ∧ g.2.2.2 (15 + 2 * r) 0 = 16 + 2 * r
/-- fields from a on, in the array u -/
def tq_A (u a i : Nat) (g : ts_G) (hk : ts_K) : Prop := ∀ r, r < i → g.2.2.2 u r = a + 10 * r ∧ (∀ s, s ≤ 8 → g.2.2.2 (a + 10 * r) s = a + 10 * r + 1 + s) ∧ ∀ t, t < 7 → hk (a + 10 * r + 1) t = 10
theorem tq_R.of {i : Nat} {g g' : ts_G} (h : tq_R i g) (e : ∀ b s, b ≠ 1 → b < 15 + 2 * i → g'.2.2.2 b s = g.2.2.2 b s) : tq_R i g' := fun r hr => ⟨by rw [e _ _ (by omega) (by omega)]; exact (h r hr).1, by rw [e _ _ (by omega) (by omega)]; exact (h r hr).2⟩
theorem tq_A.of {u a i : Nat} {g g' : ts_G} {hk hk' : ts_K} (h : tq_A u a i g hk) (e1 : ∀ s, s < i → g'.2.2.2 u s = g.2.2.2 u s) (e : ∀ b s, a ≤ b → b < a + 10 * i → g'.2.2.2 b s = g.2.2.2 b s) (ek : ∀ b, a ≤ b → b < a + 10 * i → hk' b = hk b) : tq_A u a i g' hk' := fun r hr => ⟨by rw [e1 r hr]; exact (h r hr).1, fun s hs => by rw [e _ _ (by omega) (by omega)]; exact (h r hr).2.1 s hs, fun t ht => by rw [ek _ (by omega) (by omega)]; exact (h r hr).2.2 t ht⟩
theorem tq_R.add {i : Nat} {g g' : ts_G} (h : tq_R i g) (e : ∀ b s, b ≠ 1 → b < 15 + 2 * i → (b ≠ 2 ∨ s ≠ i) → g'.2.2.2 b s = g.2.2.2 b s) (e1 : g'.2.2.2 2 i = 15 + 2 * i) (e2 : g'.2.2.2 (15 + 2 * i) 0 = 16 + 2 * i) : tq_R (i + 1) g' := fun r hr => by
  by_cases c : r = i
  · rw [c]; exact ⟨e1, e2⟩
  · exact ⟨by rw [e _ _ (by omega) (by omega) (by omega)]; exact (h r (by omega)).1, by rw [e _ _ (by omega) (by omega) (by omega)]; exact (h r (by omega)).2⟩
theorem tq_A.add {u a i : Nat} {g g' : ts_G} {hk hk' : ts_K} (h : tq_A u a i g hk) (e1 : ∀ s, s < i → g'.2.2.2 u s = g.2.2.2 u s) (e : ∀ b s, a ≤ b → b < a + 10 * i → g'.2.2.2 b s = g.2.2.2 b s) (ek : ∀ b, a ≤ b → b < a + 10 * i → hk' b = hk b) (f1 : g'.2.2.2 u i = a + 10 * i) (f2 : ∀ s, s ≤ 8 → g'.2.2.2 (a + 10 * i) s = a + 10 * i + 1 + s) (f3 : ∀ t, t < 7 → hk' (a + 10 * i + 1) t = 10) : tq_A u a (i + 1) g' hk' := fun r hr => by
  by_cases c : r = i
  · rw [c]; exact ⟨f1, f2, f3⟩
  · exact h.of e1 e ek r (by omega)
theorem tq_kd {v : Nat} {g : ts_G} {hi hi5 hi' : ts_I} {n c : Nat} {g4 : ts_G} (h : tq_N n g hi) (e4 : g4 = ts_gn g c 0) (e5 : hi5 = ts_zi hi (g.1 + 1)) (e : hi' = ts_up hi5 (n + 1) 0 (nI v)) (hK : tq_K (n + 1) = c) (hL : tq_L (n + 1) = 0) (hn : 10 ≤ n + 1 ∧ n + 1 ≤ 14) (hv : v = n - 8) : tq_N (n + 1) g4 hi' := by
  refine tq_al h e4 (fun b hb => ?_) (fun s => ?_) hK hL
  · rw [e]; funext s
    rw [ts_up_a hb, e5]
    show (if b = g.1 + 1 then 0 else hi b s) = hi b s
    rw [if_neg (by rw [h.1]; exact hb)]
  · unfold tq_H
    by_cases c : s = 0
    · subst c
      rw [e, ts_up_eq, if_pos ⟨rfl, hn⟩, hv, show n + 1 - 9 = n - 8 by omega]
    · rw [e, ts_up_s c, if_neg (fun x => c x.1), e5]
      show (if n + 1 = g.1 + 1 then 0 else hi (n + 1) s) = 0
      rw [if_pos (by rw [h.1])]
/-- the end: now, draft, seer -/
theorem tq_new11d {d n0 : Nat} {k j : Nat} {Q : ts_Q} (hkk : k = 289) (hjj : j = 2486) {g : ts_G} {hi : ts_I} {hk : ts_K} (N0 : tq_N 290 g hi) (hC : tq_C g) (hR : tq_R 8 g) (hA : tq_A 8 31 24 g hk) (hB : tq_A 9 271 2 g hk) (hKA : ts_KA hk)
    (q : ∀ g' hi' hk', ts_LX g' → tq_N 404 g' hi' → ts_KA hk' → (∀ j, j < 28 → ∀ t, t < 7 → hk' (31 + 10 * j + 1) t = 10) → (∀ j, j < 9 → ∀ t, t < 7 → hk' (315 + 10 * j + 1) t = 10) → Q none g' hi' hk') : ts_JJ (d + 3) 403 3353 mX11_init none n0 Q k j 197 [(0, .ref 1), (1, .ref 10), (2, .int 2)] [] g hi hk := by
  refine wX11_init_197 ⟨fun _ => ?_, fun c => absurd (by decide) c⟩
  have n0' := N0.1
  refine ⟨by omega, by omega, by omega, by omega, fun g1 e1 hi1 ei1 hk1 el1 => ?_⟩
  have A1 : tq_N 291 g1 hi1 := N0.al e1 ei1 rfl rfl (by omega)
  have r1 := tq_rn N0 e1
  have z1 := tq_zk N0 el1
  rw [n0']
  refine ⟨by rw [A1.1]; omega, by rw [A1.1]; omega, by rw [A1.1]; omega, by omega, by omega, tq_new1 (tq_Fa (i := 26) (by omega)) A1 (by omega) (by omega) (by decide) (fun g2 hi2 hk2 N2 R2 U2 Z2 V2 H2 => ⟨rfl, N2.kd (by omega) (by omega), by rw [N2.kd (by omega) (by omega)]; decide, fun g3 e3 => ?_⟩)⟩
  have N3 : tq_N 300 g3 hi2 := N2.go e3
  have o3 := tq_ro e3
  have n3 := N3.1
  refine ⟨by omega, by omega, by omega, by omega, fun g4 e4 hi4 ei4 hk4 el4 => ?_⟩
  have A4 : tq_N 301 g4 hi4 := N3.al e4 ei4 rfl rfl (by omega)
  have r4 := tq_rn N3 e4
  have z4 := tq_zk N3 el4
  rw [n3]
  refine ⟨by rw [A4.1]; omega, by rw [A4.1]; omega, by rw [A4.1]; omega, by omega, by omega, tq_new1 (tq_Fa (i := 27) (by omega)) A4 (by omega) (by omega) (by decide) (fun g5 hi5 hk5 N5 R5 U5 Z5 V5 H5 => ⟨rfl, N5.kd (by omega) (by omega), by rw [N5.kd (by omega) (by omega)]; decide, fun g6 e6 => ?_⟩)⟩
  have N6 : tq_N 310 g6 hi5 := N5.go e6
  have o6 := tq_ro e6
  have n6 := N6.1
  refine ⟨by omega, by omega, by omega, by omega, fun g7 e7 hi7 ei7 hk7 el7 => ?_⟩
  have A7 : tq_N 311 g7 hi7 := N6.al e7 ei7 rfl rfl (by omega)
  have r7 := tq_rn N6 e7
  have z7 := tq_zk N6 el7
  -- what is left as it was
  have old7 : ∀ b s, b < 291 → (b ≠ 1 ∨ s < 6) → g7.2.2.2 b s = g.2.2.2 b s := fun b s hb hc => by
    rw [r7 b s (by omega), o6.2 b s (by omega), U5 b s (by omega), r4 b s (by omega), o3.2 b s (by omega), U2 b s hb, r1 b s (by omega)]
  have k7 : ∀ b, b ≤ 290 → hk7 b = hk b := fun b hb => by rw [z7 b (by omega), Z5 b (by omega), z4 b (by omega), Z2 b (by omega), z1 b hb]
  have s6 : g7.2.2.2 1 6 = 291 := by rw [r7 1 6 (by omega), o6.2 1 6 (by omega), U5 1 6 (by omega), r4 1 6 (by omega), o3.1]
  have s7 : g7.2.2.2 1 7 = 301 := by rw [r7 1 7 (by omega), o6.1]
  have f291 : ∀ s, s ≤ 8 → g7.2.2.2 291 s = 291 + 1 + s := fun s hs => by rw [r7 _ s (by omega), o6.2 _ s (by omega), U5 _ s (by omega), r4 _ s (by omega), o3.2 _ s (by omega)]; exact R2 s hs
  have f301 : ∀ s, s ≤ 8 → g7.2.2.2 301 s = 301 + 1 + s := fun s hs => by rw [r7 _ s (by omega), o6.2 _ s (by omega)]; exact R5 s hs
  have h291 : ∀ t, t < 7 → hk7 292 t = 10 := fun t ht => by rw [z7 _ (by omega), Z5 _ (by omega), z4 _ (by omega)]; exact V2 t ht
  have h301 : ∀ t, t < 7 → hk7 302 t = 10 := fun t ht => by rw [z7 _ (by omega)]; exact V5 t ht
  rw [n6, s6, old7 1 3 (by omega) (by omega), hC.2.2.2.1]
  refine ⟨A7.kd (by omega) (by omega), by omega, by omega, by rw [A7.1]; omega, by rw [A7.1]; omega, by rw [A7.1]; omega, by omega, by omega, tq_new7 A7 (by rw [k7 7 (by omega)]; exact hKA.2 1 (by omega) (by omega)) (fun g8 hi8 hk8 N8 R8 T8 U8 Z8 V8 => ⟨rfl, N8.kd (by omega) (by omega), by rw [N8.kd (by omega) (by omega)]; decide, fun g9 e9 => ⟨by omega, by omega, ?_⟩⟩)⟩
  have N9 : tq_N 404 g9 hi8 := N8.go e9
  have o9 := tq_ro e9
  have old9 : ∀ b s, b < 311 → (b ≠ 1 ∨ s ≠ 8) → g9.2.2.2 b s = g7.2.2.2 b s := fun b s hb hc => by rw [o9.2 b s hc, U8 b s hb]
  have old : ∀ b s, b < 291 → (b ≠ 1 ∨ s < 6) → g9.2.2.2 b s = g.2.2.2 b s := fun b s hb hc => by rw [old9 b s (by omega) (by omega), old7 b s hb hc]
  have k9 : ∀ b, b ≤ 311 → hk8 b = hk7 b := Z8
  have hC9 : tq_C g9 := hC.of (fun b s b1 _ b3 => old b s (by omega) b3)
  have hR9 : tq_R 8 g9 := hR.of (fun b s b1 b2 => old b s (by omega) (by omega))
  have hA9 : tq_A 8 31 24 g9 hk8 := hA.of (fun s _ => old 8 s (by omega) (by omega)) (fun b s b1 b2 => old b s (by omega) (by omega)) (fun b b1 b2 => by rw [k9 b (by omega), k7 b (by omega)])
  have hB9 : tq_A 9 271 2 g9 hk8 := hB.of (fun s _ => old 9 s (by omega) (by omega)) (fun b s b1 b2 => old b s (by omega) (by omega)) (fun b b1 b2 => by rw [k9 b (by omega), k7 b (by omega)])
  obtain ⟨c0, c1, c2, c3, c4, c5, c6, c7⟩ := hC9
  have K : ∀ {b}, 1 ≤ b → b ≤ 404 → g9.2.1 b = tq_K b := fun h1 h2 => N9.kd h1 h2
  have Ln : ∀ {b}, 1 ≤ b → b ≤ 404 → g9.2.2.1 b = tq_L b := fun h1 h2 => N9.ln h1 h2
  refine q g9 hi8 hk8 ?_ N9 ?_ (fun j hj t ht => ?_) V8
  · refine ⟨K (by omega) (by omega), c0, c1, c2, c3, c4, c5, by rw [old9 1 6 (by omega) (by omega)]; exact s6, by rw [old9 1 7 (by omega) (by omega)]; exact s7, o9.1, K (by omega) (by omega), Ln (by omega) (by omega), K (by omega) (by omega), c6, K (by omega) (by omega), Ln (by omega) (by omega), K (by omega) (by omega), c7, K (by omega) (by omega), Ln (by omega) (by omega), K (by omega) (by omega), Ln (by omega) (by omega), K (by omega) (by omega), Ln (by omega) (by omega), K (by omega) (by omega), Ln (by omega) (by omega), K (by omega) (by omega), by rw [o9.2 311 0 (by omega)]; exact R8.1, by rw [o9.2 311 1 (by omega)]; exact R8.2.1, by rw [o9.2 311 2 (by omega)]; exact R8.2.2.1, by rw [o9.2 311 3 (by omega)]; exact R8.2.2.2.1, by rw [o9.2 311 4 (by omega)]; exact R8.2.2.2.2.1, by rw [o9.2 311 5 (by omega)]; exact R8.2.2.2.2.2, K (by omega) (by omega), Ln (by omega) (by omega), K (by omega) (by omega), Ln (by omega) (by omega), K (by omega) (by omega), Ln (by omega) (by omega), fun i hi => ⟨(hR9 i hi).1, ?_, (hR9 i hi).2, ?_, ?_⟩, fun i hi => ⟨(hA9 i hi).1, tq_FL (tq_Fa (by omega)) N9 (by omega) (hA9 i hi).2.1⟩, fun i hi => ⟨(hB9 i hi).1, ?_⟩, ⟨K (by omega) (by omega), K (by omega) (by omega), K (by omega) (by omega), K (by omega) (by omega), K (by omega) (by omega)⟩, ?_, ?_, fun i hi => ⟨?_, ?_⟩⟩
    · rw [K (by omega) (by omega)]
      unfold tq_K
      rw [if_neg (by omega), if_pos (by omega), if_pos (by omega)]
    · rw [K (by omega) (by omega)]
      unfold tq_K
      rw [if_neg (by omega), if_pos (by omega), if_neg (by omega)]
    · rw [Ln (by omega) (by omega)]
      unfold tq_L
      rw [if_neg (by omega), if_pos (by omega), if_neg (by omega)]
    · have z := tq_FL (tq_Fa (i := 24 + i) (by omega)) N9 (by omega) (fun s hs => by rw [show 31 + 10 * (24 + i) = 271 + 10 * i by omega]; exact (hB9 i hi).2.1 s hs)
      rw [show 31 + 10 * (24 + i) = 271 + 10 * i by omega] at z
      exact z
    · exact tq_FL (tq_Fa (i := 26) (by omega)) N9 (by omega) (fun s hs => by rw [old9 _ s (by omega) (by omega)]; exact f291 s hs)
    · exact tq_FL (tq_Fa (i := 27) (by omega)) N9 (by omega) (fun s hs => by rw [old9 _ s (by omega) (by omega)]; exact f301 s hs)
    · rw [o9.2 312 i (by omega)]
      exact (T8 i hi).1
    · exact tq_FL (tq_Fb hi) N9 (by omega) (fun s hs => by rw [o9.2 _ s (by omega)]; exact (T8 i hi).2.2.2 s hs)
  · exact hKA.of (by rw [k9 7 (by omega), k7 7 (by omega)])
  · by_cases j1 : j < 24
    · exact (hA9 j j1).2.2 t ht
    · by_cases j2 : j < 26
      · have z := (hB9 (j - 24) (by omega)).2.2 t ht
        rw [show 271 + 10 * (j - 24) + 1 = 31 + 10 * j + 1 by omega] at z
        exact z
      · by_cases j3 : j = 26
        · rw [j3, k9 _ (by omega)]
          exact h291 t ht
        · have j4 : j = 27 := by omega
          rw [j4, k9 _ (by omega)]
          exact h301 t ht
/-- the images -/
theorem tq_new11c {d n0 : Nat} {Q : ts_Q} (q : ∀ g' hi' hk', ts_LX g' → tq_N 404 g' hi' → ts_KA hk' → (∀ j, j < 28 → ∀ t, t < 7 → hk' (31 + 10 * j + 1) t = 10) → (∀ j, j < 9 → ∀ t, t < 7 → hk' (315 + 10 * j + 1) t = 10) → Q none g' hi' hk') :
    ∀ n i k j g hi hk, i + n = 2 → k = 269 + 10 * i → j = 2334 + 76 * i → tq_N (270 + 10 * i) g hi → tq_C g → tq_R 8 g → tq_A 8 31 24 g hk → tq_A 9 271 i g hk → ts_KA hk → ts_JJ (d + 3) 403 3353 mX11_init none n0 Q k j 197 [(0, .ref 1), (1, .ref 10), (2, .int (nI i))] [] g hi hk := by
  intro n
  induction n with
  | zero =>
    intro i k j g hi hk hin hkk hjj N hC hR hA hB hKA
    have i2 : i = 2 := by omega
    subst i2
    exact tq_new11d (by omega) (by omega) N hC hR hA hB hKA q
  | succ n ih =>
    intro i k j g hi hk hin hkk hjj N hC hR hA hB hKA
    have hn := N.1
    refine wX11_init_197 ?_
    rw [hC.2.2.2.2.2.1, hn, ts_l2, ts_le (by omega) (by omega)]
    refine ⟨fun c => absurd c (by omega), fun _ => ⟨N.kd (by omega) (by omega), by omega, by omega, by omega, by omega, by omega, by omega, fun g9 e9 hi10 e10 hk11 e11 => ?_⟩⟩
    have hF : tq_F (271 + 10 * i) := by
      have z := tq_Fa (i := 24 + i) (by omega)
      rw [show 31 + 10 * (24 + i) = 271 + 10 * i by omega] at z
      exact z
    have ek : 270 + 10 * i + 1 = 271 + 10 * i := by omega
    rw [ek] at e10 e11 ⊢
    have A : tq_N (270 + 10 * i + 1) g9 hi10 := N.al e9 (by rw [hn, ek]; exact e10) (by rw [ek]; exact hF.2.1) (by rw [ek]; unfold tq_L; rw [if_neg (by omega), if_neg (by omega), if_pos (by omega), if_pos (by omega)]) (by omega)
    rw [ek] at A
    have rr := tq_rn N e9
    have zz := tq_zk N (by rw [hn, ek]; exact e11)
    refine ⟨by rw [A.1]; omega, by rw [A.1]; omega, by rw [A.1]; omega, by rw [A.1]; omega, by omega, by omega, tq_new1 hF A (by omega) (by omega) (by decide) (fun g18 hi19 hk20 N18 R18 U18 Z18 V18 H18 => ⟨rfl, ?_⟩)⟩
    refine ⟨N18.kd (by omega) (by omega), by rw [N18.ln (by omega) (by omega)]; exact ts_vin (show i < 2 by omega) (by omega), by rw [N18.kd (by omega) (by omega)]; exact hF.2.1, fun g24 e24 => ?_⟩
    rw [ts_cl (by omega)] at e24
    have o := tq_ro e24
    rw [ts_l1, nI_add]
    have old : ∀ b s, b < 271 + 10 * i → (b ≠ 9 ∨ s ≠ i) → g24.2.2.2 b s = g.2.2.2 b s := fun b s hb hc => by rw [o.2 b s hc, U18 b s hb, rr b s (by omega)]
    have oldk : ∀ b, b ≤ 270 + 10 * i → hk20 b = hk b := fun b hb => by rw [Z18 b (by omega), zz b hb]
    refine ih (i + 1) _ _ g24 hi19 hk20 (by omega) (by omega) (by omega) ?_ (hC.of (fun b s b1 b2 b3 => old b s (by omega) (by omega))) (hR.of (fun b s b1 b2 => old b s (by omega) (by omega))) (hA.of (fun s hs => old 8 s (by omega) (by omega)) (fun b s b1 b2 => old b s (by omega) (by omega)) (fun b b1 b2 => oldk b (by omega))) (hB.add (fun s hs => old 9 s (by omega) (by omega)) (fun b s b1 b2 => old b s (by omega) (by omega)) (fun b b1 b2 => oldk b (by omega)) o.1 (fun s hs => by rw [o.2 _ s (by omega)]; exact R18 s hs) V18) (hKA.of (oldk 7 (by omega)))
    rw [show 270 + 10 * (i + 1) = 271 + 10 * i + 9 by omega]
    exact N18.go e24
/-- the acts -/
theorem tq_new11b {d n0 : Nat} {Q : ts_Q} (q : ∀ g' hi' hk', ts_LX g' → tq_N 404 g' hi' → ts_KA hk' → (∀ j, j < 28 → ∀ t, t < 7 → hk' (31 + 10 * j + 1) t = 10) → (∀ j, j < 9 → ∀ t, t < 7 → hk' (315 + 10 * j + 1) t = 10) → Q none g' hi' hk') :
    ∀ n i k j g hi hk, i + n = 24 → k = 29 + 10 * i → j = 510 + 76 * i → tq_N (30 + 10 * i) g hi → tq_C g → tq_R 8 g → tq_A 8 31 i g hk → ts_KA hk → ts_JJ (d + 3) 403 3353 mX11_init none n0 Q k j 169 [(0, .ref 1), (1, .ref 10), (2, .int (nI i))] [] g hi hk := by
  intro n
  induction n with
  | zero =>
    intro i k j g hi hk hin hkk hjj N hC hR hA hKA
    have i2 : i = 24 := by omega
    subst i2
    refine wX11_init_169 ⟨fun _ => ?_, fun c => absurd (by decide) c⟩
    have z := tq_new11c (d := d) (n0 := n0) q 2 0 k j g hi hk (by omega) (by omega) (by omega) N hC hR hA (fun r hr => absurd hr (Nat.not_lt_zero r)) hKA
    exact z
  | succ n ih =>
    intro i k j g hi hk hin hkk hjj N hC hR hA hKA
    have hn := N.1
    refine wX11_init_169 ?_
    rw [hC.2.2.2.2.1, hn, show (24 : Int32) = nI 24 from rfl, ts_le (by omega) (by omega)]
    refine ⟨fun c => absurd c (by omega), fun _ => ⟨N.kd (by omega) (by omega), by omega, by omega, by omega, by omega, by omega, by omega, fun g9 e9 hi10 e10 hk11 e11 => ?_⟩⟩
    have hF : tq_F (31 + 10 * i) := tq_Fa (by omega)
    have ek : 30 + 10 * i + 1 = 31 + 10 * i := by omega
    rw [ek] at e10 e11 ⊢
    have A : tq_N (30 + 10 * i + 1) g9 hi10 := N.al e9 (by rw [hn, ek]; exact e10) (by rw [ek]; exact hF.2.1) (by rw [ek]; unfold tq_L; rw [if_neg (by omega), if_neg (by omega), if_pos (by omega), if_pos (by omega)]) (by omega)
    rw [ek] at A
    have rr := tq_rn N e9
    have zz := tq_zk N (by rw [hn, ek]; exact e11)
    refine ⟨by rw [A.1]; omega, by rw [A.1]; omega, by rw [A.1]; omega, by rw [A.1]; omega, by omega, by omega, tq_new1 hF A (by omega) (by omega) (by decide) (fun g18 hi19 hk20 N18 R18 U18 Z18 V18 H18 => ⟨rfl, ?_⟩)⟩
    refine ⟨N18.kd (by omega) (by omega), by rw [N18.ln (by omega) (by omega)]; exact ts_vin (show i < 24 by omega) (by omega), by rw [N18.kd (by omega) (by omega)]; exact hF.2.1, fun g24 e24 => ?_⟩
    rw [ts_cl (by omega)] at e24
    have o := tq_ro e24
    rw [ts_l1, nI_add]
    have old : ∀ b s, b < 31 + 10 * i → (b ≠ 8 ∨ s ≠ i) → g24.2.2.2 b s = g.2.2.2 b s := fun b s hb hc => by rw [o.2 b s hc, U18 b s hb, rr b s (by omega)]
    have oldk : ∀ b, b ≤ 30 + 10 * i → hk20 b = hk b := fun b hb => by rw [Z18 b (by omega), zz b hb]
    refine ih (i + 1) _ _ g24 hi19 hk20 (by omega) (by omega) (by omega) ?_ (hC.of (fun b s b1 b2 b3 => old b s (by omega) (by omega))) (hR.of (fun b s b1 b2 => old b s (by omega) (by omega))) (hA.add (fun s hs => old 8 s (by omega) (by omega)) (fun b s b1 b2 => old b s (by omega) (by omega)) (fun b b1 b2 => oldk b (by omega)) o.1 (fun s hs => by rw [o.2 _ s (by omega)]; exact R18 s hs) V18) (hKA.of (oldk 7 (by omega)))
    rw [show 30 + 10 * (i + 1) = 31 + 10 * i + 9 by omega]
    exact N18.go e24
/-- the rows -/
theorem tq_new11a {d n0 : Nat} {Q : ts_Q} (q : ∀ g' hi' hk', ts_LX g' → tq_N 404 g' hi' → ts_KA hk' → (∀ j, j < 28 → ∀ t, t < 7 → hk' (31 + 10 * j + 1) t = 10) → (∀ j, j < 9 → ∀ t, t < 7 → hk' (315 + 10 * j + 1) t = 10) → Q none g' hi' hk') :
    ∀ n i k j g hi hk, i + n = 8 → k = 13 + 2 * i → j = 158 + 44 * i → tq_N (14 + 2 * i) g hi → tq_C g → tq_R i g → ts_KA hk → ts_JJ (d + 3) 403 3353 mX11_init none n0 Q k j 142 [(0, .ref 1), (1, .ref 10), (2, .int (nI i))] [] g hi hk := by
  intro n
  induction n with
  | zero =>
    intro i k j g hi hk hin hkk hjj N hC hR hKA
    have i2 : i = 8 := by omega
    subst i2
    refine wX11_init_142 ⟨fun _ => ?_, fun c => absurd (by decide) c⟩
    have z := tq_new11b (d := d) (n0 := n0) q 24 0 k j g hi hk (by omega) (by omega) (by omega) N hC hR (fun r hr => absurd hr (Nat.not_lt_zero r)) hKA
    exact z
  | succ n ih =>
    intro i k j g hi hk hin hkk hjj N hC hR hKA
    have hn := N.1
    refine wX11_init_142 ?_
    rw [hC.1, hn, ts_l8, ts_le (by omega) (by omega)]
    refine ⟨fun c => absurd c (by omega), fun _ => ⟨N.kd (by omega) (by omega), by omega, by omega, by omega, by omega, by omega, by omega, fun g9 e9 hi10 e10 hk11 e11 => ?_⟩⟩
    have ek : 14 + 2 * i + 1 = 15 + 2 * i := by omega
    have k0 : tq_K (15 + 2 * i) = 5 := by unfold tq_K; rw [if_neg (by omega), if_pos (by omega), if_pos (by omega)]
    have k1 : tq_K (15 + 2 * i + 1) = 100 := by unfold tq_K; rw [if_neg (by omega), if_pos (by omega), if_neg (by omega)]
    have l0 : tq_L (15 + 2 * i) = 0 := by unfold tq_L; rw [if_neg (by omega), if_pos (by omega), if_pos (by omega)]
    have l1 : tq_L (15 + 2 * i + 1) = 40 := by unfold tq_L; rw [if_neg (by omega), if_pos (by omega), if_neg (by omega)]
    rw [ek] at e10 e11 ⊢
    have A : tq_N (14 + 2 * i + 1) g9 hi10 := N.al e9 (by rw [hn, ek]; exact e10) (by rw [ek]; exact k0) (by rw [ek]; exact l0) (by omega)
    rw [ek] at A
    have rr := tq_rn N e9
    have zz := tq_zk N (by rw [hn, ek]; exact e11)
    refine ⟨by rw [A.1]; omega, by rw [A.1]; omega, by rw [A.1]; omega, by rw [A.1]; omega, by omega, by omega, tq_new6 (by omega) k0 k1 l1 (by omega) A (fun g18 hi19 hk20 N18 R18 U18 Z18 => ⟨rfl, ?_⟩)⟩
    refine ⟨N18.kd (by omega) (by omega), by rw [N18.ln (by omega) (by omega)]; exact ts_vin (show i < 8 by omega) (by omega), by rw [N18.kd (by omega) (by omega)]; exact k0, fun g24 e24 => ?_⟩
    rw [ts_cl (by omega)] at e24
    have o := tq_ro e24
    rw [ts_l1, nI_add]
    have old : ∀ b s, b < 15 + 2 * i → (b ≠ 2 ∨ s ≠ i) → g24.2.2.2 b s = g.2.2.2 b s := fun b s hb hc => by rw [o.2 b s hc, U18 b s hb, rr b s (by omega)]
    have oldk : ∀ b, b ≤ 14 + 2 * i → hk20 b = hk b := fun b hb => by rw [Z18 b (by omega), zz b hb]
    refine ih (i + 1) _ _ g24 hi19 hk20 (by omega) (by omega) (by omega) ?_ (hC.of (fun b s b1 b2 b3 => old b s (by omega) (by omega))) (hR.add (fun b s b1 b2 b3 => old b s b2 b3) o.1 (by rw [o.2 _ 0 (by omega), R18]; omega)) (hKA.of (oldk 7 (by omega)))
    rw [show 14 + 2 * (i + 1) = 15 + 2 * i + 1 by omega]
    exact N18.go e24
theorem tq_new11 {d : Nat} {g : ts_G} {hi : ts_I} {hk : ts_K} {Q : ts_Q} (N0 : tq_N 1 g hi) (q : ∀ g' hi' hk', ts_LX g' → tq_N 404 g' hi' → ts_KA hk' → (∀ j, j < 28 → ∀ t, t < 7 → hk' (31 + 10 * j + 1) t = 10) → (∀ j, j < 9 → ∀ t, t < 7 → hk' (315 + 10 * j + 1) t = 10) → Q none g' hi' hk') : ts_Ev (d + 4) 403 3353 mX11_init [.ref 1] g hi hk Q := by
  refine ts_Ev.of plX11_init rfl (Nat.le_of_ble_eq_true rfl) ?_
  refine wX11_init_0 ?_
  have n0 := N0.1
  refine ⟨by omega, by omega, by omega, fun ga1 ea1 ha1 ei1 hk1 el1 => ?_⟩
  have A1 : tq_N 2 ga1 ha1 := N0.al ea1 ei1 rfl rfl (by omega)
  have r1 := tq_rn N0 ea1
  have z1 := tq_zk N0 el1
  refine ⟨A1.kd (by omega) (by omega), by rw [n0, A1.kd (by omega) (by omega)]; decide, fun gb1 eb1 => ?_⟩
  rw [n0] at eb1
  have N1 : tq_N 2 gb1 ha1 := A1.go eb1
  have n1 := N1.1
  have o1 := tq_ro eb1
  refine ⟨by omega, by omega, by omega, fun ga2 ea2 ha2 ei2 hka2 el2 => ?_⟩
  have A2 : tq_N 3 ga2 ha2 := N1.al ea2 ei2 rfl rfl (by omega)
  have r2 := tq_rn N1 ea2
  have za2 := tq_zk N1 el2
  rw [n1]
  simp only [Nat.reduceAdd]
  refine ⟨by rw [A2.1]; omega, by rw [A2.1]; omega, by omega, by omega, tq_new9 (r := 3) (by omega) rfl rfl rfl (by omega) A2 (fun gc2 hi2 hk2 M2 R2 U2 zb2 => ⟨rfl, M2.kd (by omega) (by omega), by rw [M2.kd (by omega) (by omega)]; decide, fun gb2 eb2 => ?_⟩)⟩
  have N2 : tq_N 4 gb2 hi2 := M2.go eb2
  have n2 := N2.1
  have o2 := tq_ro eb2
  refine ⟨by omega, by omega, by omega, fun ga3 ea3 ha3 ei3 hka3 el3 => ?_⟩
  have A3 : tq_N 5 ga3 ha3 := N2.al ea3 ei3 rfl rfl (by omega)
  have r3 := tq_rn N2 ea3
  have za3 := tq_zk N2 el3
  rw [n2]
  simp only [Nat.reduceAdd]
  refine ⟨by rw [A3.1]; omega, by rw [A3.1]; omega, by omega, by omega, tq_new10 (r := 5) (by omega) rfl rfl rfl (by omega) A3 (fun gc3 hi3 hk3 M3 R3 U3 zb3 => ⟨rfl, M3.kd (by omega) (by omega), by rw [M3.kd (by omega) (by omega)]; decide, fun gb3 eb3 => ?_⟩)⟩
  have N3 : tq_N 6 gb3 hi3 := M3.go eb3
  have n3 := N3.1
  have o3 := tq_ro eb3
  refine ⟨by omega, by omega, by omega, fun ga4 ea4 ha4 ei4 hk4 el4 => ?_⟩
  have A4 : tq_N 7 ga4 ha4 := N3.al ea4 ei4 rfl rfl (by omega)
  have r4 := tq_rn N3 ea4
  have z4 := tq_zk N3 el4
  refine ⟨A4.kd (by omega) (by omega), by rw [n3, A4.kd (by omega) (by omega)]; decide, fun gb4 eb4 => ?_⟩
  rw [n3] at eb4
  have N4 : tq_N 7 gb4 ha4 := A4.go eb4
  have n4 := N4.1
  have o4 := tq_ro eb4
  refine ⟨by omega, by omega, by omega, fun ga5 ea5 ha5 ei5 hk5 el5 => ?_⟩
  have A5 : tq_N 8 ga5 ha5 := N4.al ea5 ei5 rfl rfl (by omega)
  have r5 := tq_rn N4 ea5
  have z5 := tq_zk N4 el5
  refine ⟨A5.kd (by omega) (by omega), by rw [n4, A5.kd (by omega) (by omega)]; decide, fun gb5 eb5 => ?_⟩
  rw [n4] at eb5
  have N5 : tq_N 8 gb5 ha5 := A5.go eb5
  have n5 := N5.1
  have o5 := tq_ro eb5
  refine ⟨by omega, by omega, by omega, fun ga6 ea6 ha6 ei6 hk6 el6 => ?_⟩
  have A6 : tq_N 9 ga6 ha6 := N5.al ea6 ei6 rfl rfl (by omega)
  have r6 := tq_rn N5 ea6
  have z6 := tq_zk N5 el6
  refine ⟨A6.kd (by omega) (by omega), by rw [n5, A6.kd (by omega) (by omega)]; decide, fun gb6 eb6 => ?_⟩
  rw [n5] at eb6
  have N6 : tq_N 9 gb6 ha6 := A6.go eb6
  have n6 := N6.1
  have o6 := tq_ro eb6
  have hC : tq_C gb6 := by
    refine ⟨?_, ?_, ?_, ?_, ?_, ?_, ?_, ?_⟩
    · rw [o6.2 1 0 (by omega), r6 1 0 (by omega), o5.2 1 0 (by omega), r5 1 0 (by omega), o4.2 1 0 (by omega), r4 1 0 (by omega), o3.2 1 0 (by omega), U3 1 0 (by omega), r3 1 0 (by omega), o2.2 1 0 (by omega), U2 1 0 (by omega), r2 1 0 (by omega), o1.1]
    · rw [o6.2 1 1 (by omega), r6 1 1 (by omega), o5.2 1 1 (by omega), r5 1 1 (by omega), o4.2 1 1 (by omega), r4 1 1 (by omega), o3.2 1 1 (by omega), U3 1 1 (by omega), r3 1 1 (by omega), o2.1]
    · rw [o6.2 1 2 (by omega), r6 1 2 (by omega), o5.2 1 2 (by omega), r5 1 2 (by omega), o4.2 1 2 (by omega), r4 1 2 (by omega), o3.1]
    · rw [o6.2 1 3 (by omega), r6 1 3 (by omega), o5.2 1 3 (by omega), r5 1 3 (by omega), o4.1]
    · rw [o6.2 1 4 (by omega), r6 1 4 (by omega), o5.1]
    · rw [o6.1]
    · rw [o6.2 3 0 (by omega), r6 3 0 (by omega), o5.2 3 0 (by omega), r5 3 0 (by omega), o4.2 3 0 (by omega), r4 3 0 (by omega), o3.2 3 0 (by omega), U3 3 0 (by omega), r3 3 0 (by omega), o2.2 3 0 (by omega)]; exact R2
    · rw [o6.2 5 0 (by omega), r6 5 0 (by omega), o5.2 5 0 (by omega), r5 5 0 (by omega), o4.2 5 0 (by omega), r4 5 0 (by omega), o3.2 5 0 (by omega)]; exact R3
  refine ⟨by omega, by omega, by omega, fun g7 e7 ha7 ei7 hka7 el7 => ?_⟩
  rw [n6] at ei7 el7 ⊢
  simp only [Nat.reduceAdd] at ei7 el7 ⊢
  have r7 := tq_rn N6 e7
  have z7 := tq_zk N6 (by rw [n6]; exact el7)
  have m7 : g7.1 = 10 := by rw [e7]; show gb6.1 + 1 = 10; rw [n6]
  have kd7 : g7.2.1 10 = 3 := by
    rw [e7]
    show (if 10 = gb6.1 + 1 then 3 else gb6.2.1 10) = 3
    rw [if_pos (by rw [n6])]
  have hC7 : tq_C g7 := hC.of (fun b s b1 b2 b3 => r7 b s (by omega))
  refine ⟨by omega, by omega, by omega, by omega, tq_new4 (by omega) (by rw [kd7]; decide) (fun hi7 x7 => ⟨rfl, ?_⟩)⟩
  have N7 : tq_N 10 g7 hi7 := tq_kd (v := 1) N6 e7 (by rw [n6]; exact ei7) x7 rfl rfl (by omega) rfl
  have n7 := N7.1
  have q7 : g7.2.2.2 1 3 = 7 := hC7.2.2.2.1
  have vp7 : ∀ v : Nat, v < 6 → vp_in (nI v) (g7.2.2.1 7) := fun v hv => by rw [N7.ln (by omega) (by omega)]; exact ts_vin hv (by omega)
  rw [q7]
  refine ⟨N7.kd (by omega) (by omega), by omega, N7.kd (by omega) (by omega), vp7 0 (by omega), by rw [kd7]; decide, fun hkb7 y7 => ⟨vp7 1 (by omega), fun hk7 w7 => ?_⟩⟩
  have k70 : hk7 7 0 = 10 := by rw [w7, ts_uk_s (by decide), y7]; exact ts_uk_eq
  have k71 : hk7 7 1 = 10 := by rw [w7]; exact ts_uk_eq
  refine ⟨by omega, by omega, by omega, by omega, by omega, fun g8 e8 ha8 ei8 hka8 el8 => ?_⟩
  rw [n7] at ei8 el8 ⊢
  simp only [Nat.reduceAdd] at ei8 el8 ⊢
  have r8 := tq_rn N7 e8
  have z8 := tq_zk N7 (by rw [n7]; exact el8)
  have m8 : g8.1 = 11 := by rw [e8]; show g7.1 + 1 = 11; rw [n7]
  have kd8 : g8.2.1 11 = 2 := by
    rw [e8]
    show (if 11 = g7.1 + 1 then 2 else g7.2.1 11) = 2
    rw [if_pos (by rw [n7])]
  have hC8 : tq_C g8 := hC7.of (fun b s b1 b2 b3 => r8 b s (by omega))
  refine ⟨by omega, by omega, by omega, by omega, by omega, by omega, tq_new3 (by omega) (by rw [kd8]; decide) (fun hi8 x8 => ⟨rfl, ?_⟩)⟩
  have N8 : tq_N 11 g8 hi8 := tq_kd (v := 2) N7 e8 (by rw [n7]; exact ei8) x8 rfl rfl (by omega) rfl
  have n8 := N8.1
  have q8 : g8.2.2.2 1 3 = 7 := hC8.2.2.2.1
  have vp8 : ∀ v : Nat, v < 6 → vp_in (nI v) (g8.2.2.1 7) := fun v hv => by rw [N8.ln (by omega) (by omega)]; exact ts_vin hv (by omega)
  refine ⟨N8.kd (by omega) (by omega), vp8 2 (by omega), by rw [kd8]; decide, fun hk8 w8 => ?_⟩
  have k72 : hk8 7 2 = 11 := by rw [w8]; exact ts_uk_eq
  rw [q8]
  refine ⟨N8.kd (by omega) (by omega), by omega, ?_⟩
  refine ⟨by omega, by omega, by omega, by omega, by omega, fun g9 e9 ha9 ei9 hka9 el9 => ?_⟩
  rw [n8] at ei9 el9 ⊢
  simp only [Nat.reduceAdd] at ei9 el9 ⊢
  have r9 := tq_rn N8 e9
  have z9 := tq_zk N8 (by rw [n8]; exact el9)
  have m9 : g9.1 = 12 := by rw [e9]; show g8.1 + 1 = 12; rw [n8]
  have kd9 : g9.2.1 12 = 4 := by
    rw [e9]
    show (if 12 = g8.1 + 1 then 4 else g8.2.1 12) = 4
    rw [if_pos (by rw [n8])]
  have hC9 : tq_C g9 := hC8.of (fun b s b1 b2 b3 => r9 b s (by omega))
  refine ⟨by omega, by omega, by omega, by omega, by omega, by omega, tq_new5 (by omega) (by rw [kd9]; decide) (fun hi9 x9 => ⟨rfl, ?_⟩)⟩
  have N9 : tq_N 12 g9 hi9 := tq_kd (v := 3) N8 e9 (by rw [n8]; exact ei9) x9 rfl rfl (by omega) rfl
  have n9 := N9.1
  have q9 : g9.2.2.2 1 3 = 7 := hC9.2.2.2.1
  have vp9 : ∀ v : Nat, v < 6 → vp_in (nI v) (g9.2.2.1 7) := fun v hv => by rw [N9.ln (by omega) (by omega)]; exact ts_vin hv (by omega)
  refine ⟨N9.kd (by omega) (by omega), vp9 3 (by omega), by rw [kd9]; decide, fun hk9 w9 => ?_⟩
  have k73 : hk9 7 3 = 12 := by rw [w9]; exact ts_uk_eq
  rw [q9]
  refine ⟨N9.kd (by omega) (by omega), by omega, ?_⟩
  refine ⟨by omega, by omega, by omega, by omega, by omega, fun g10 e10 ha10 ei10 hka10 el10 => ?_⟩
  rw [n9] at ei10 el10 ⊢
  simp only [Nat.reduceAdd] at ei10 el10 ⊢
  have r10 := tq_rn N9 e10
  have z10 := tq_zk N9 (by rw [n9]; exact el10)
  have m10 : g10.1 = 13 := by rw [e10]; show g9.1 + 1 = 13; rw [n9]
  have kd10 : g10.2.1 13 = 0 := by
    rw [e10]
    show (if 13 = g9.1 + 1 then 0 else g9.2.1 13) = 0
    rw [if_pos (by rw [n9])]
  have hC10 : tq_C g10 := hC9.of (fun b s b1 b2 b3 => r10 b s (by omega))
  refine ⟨by omega, by omega, by omega, by omega, by omega, by omega, tq_new0 (by omega) (by rw [kd10]; decide) (fun hi10 x10 => ⟨rfl, ?_⟩)⟩
  have N10 : tq_N 13 g10 hi10 := tq_kd (v := 4) N9 e10 (by rw [n9]; exact ei10) x10 rfl rfl (by omega) rfl
  have n10 := N10.1
  have q10 : g10.2.2.2 1 3 = 7 := hC10.2.2.2.1
  have vp10 : ∀ v : Nat, v < 6 → vp_in (nI v) (g10.2.2.1 7) := fun v hv => by rw [N10.ln (by omega) (by omega)]; exact ts_vin hv (by omega)
  refine ⟨N10.kd (by omega) (by omega), vp10 4 (by omega), by rw [kd10]; decide, fun hk10 w10 => ?_⟩
  have k74 : hk10 7 4 = 13 := by rw [w10]; exact ts_uk_eq
  rw [q10]
  refine ⟨N10.kd (by omega) (by omega), by omega, ?_⟩
  refine ⟨by omega, by omega, by omega, by omega, by omega, fun g11 e11 ha11 ei11 hka11 el11 => ?_⟩
  rw [n10] at ei11 el11 ⊢
  simp only [Nat.reduceAdd] at ei11 el11 ⊢
  have r11 := tq_rn N10 e11
  have z11 := tq_zk N10 (by rw [n10]; exact el11)
  have m11 : g11.1 = 14 := by rw [e11]; show g10.1 + 1 = 14; rw [n10]
  have kd11 : g11.2.1 14 = 7 := by
    rw [e11]
    show (if 14 = g10.1 + 1 then 7 else g10.2.1 14) = 7
    rw [if_pos (by rw [n10])]
  have hC11 : tq_C g11 := hC10.of (fun b s b1 b2 b3 => r11 b s (by omega))
  refine ⟨by omega, by omega, by omega, by omega, by omega, by omega, tq_new8 (by omega) (by rw [kd11]; decide) (fun hi11 x11 => ⟨rfl, ?_⟩)⟩
  have N11 : tq_N 14 g11 hi11 := tq_kd (v := 5) N10 e11 (by rw [n10]; exact ei11) x11 rfl rfl (by omega) rfl
  have n11 := N11.1
  have q11 : g11.2.2.2 1 3 = 7 := hC11.2.2.2.1
  have vp11 : ∀ v : Nat, v < 6 → vp_in (nI v) (g11.2.2.1 7) := fun v hv => by rw [N11.ln (by omega) (by omega)]; exact ts_vin hv (by omega)
  refine ⟨N11.kd (by omega) (by omega), vp11 5 (by omega), by rw [kd11]; decide, fun hk11 w11 => ?_⟩
  have k75 : hk11 7 5 = 14 := by rw [w11]; exact ts_uk_eq
  have hKA : ts_KA hk11 := by
    refine ⟨?_, fun v h1 h2 => ?_⟩
    · rw [w11, ts_uk_s (by decide), z11 7 (by omega), w10, ts_uk_s (by decide), z10 7 (by omega), w9, ts_uk_s (by decide), z9 7 (by omega), w8, ts_uk_s (by decide), z8 7 (by omega)]; exact k70
    · have hv : v = 1 ∨ v = 2 ∨ v = 3 ∨ v = 4 ∨ v = 5 := by omega
      rcases hv with rfl | rfl | rfl | rfl | rfl
      · rw [w11, ts_uk_s (by decide), z11 7 (by omega), w10, ts_uk_s (by decide), z10 7 (by omega), w9, ts_uk_s (by decide), z9 7 (by omega), w8, ts_uk_s (by decide), z8 7 (by omega)]; exact k71
      · rw [w11, ts_uk_s (by decide), z11 7 (by omega), w10, ts_uk_s (by decide), z10 7 (by omega), w9, ts_uk_s (by decide), z9 7 (by omega)]; exact k72
      · rw [w11, ts_uk_s (by decide), z11 7 (by omega), w10, ts_uk_s (by decide), z10 7 (by omega)]; exact k73
      · rw [w11, ts_uk_s (by decide), z11 7 (by omega)]; exact k74
      · exact k75
  exact tq_new11a (d := d) q 8 0 _ _ g11 hi11 hk11 (by omega) rfl rfl N11 hC11 (fun r hr => absurd hr (Nat.not_lt_zero r)) hKA
