/-! the class's constructor -/
/-- the first objects of the class -/
def tq_C (g : ts_G) : Prop := g.2.2.2 1 0 = 2 ∧ g.2.2.2 1 1 = 3 ∧ g.2.2.2 1 2 = 5 ∧ g.2.2.2 1 3 = 7 ∧ g.2.2.2 1 4 = 8 ∧ g.2.2.2 1 5 = 9 ∧ g.2.2.2 3 0 = 4 ∧ g.2.2.2 5 0 = 6
theorem tq_C.of {g g' : ts_G} (h : tq_C g) (e : ∀ b s, b < 7 → b ≠ 2 → (b ≠ 1 ∨ s < 6) → g'.2.2.2 b s = g.2.2.2 b s) : tq_C g' := by
  obtain ⟨a0, a1, a2, a3, a4, a5, a6, a7⟩ := h
  exact ⟨(e 1 0 (by omega) (by omega) (by omega)).trans a0, (e 1 1 (by omega) (by omega) (by omega)).trans a1, (e 1 2 (by omega) (by omega) (by omega)).trans a2, (e 1 3 (by omega) (by omega) (by omega)).trans a3, (e 1 4 (by omega) (by omega) (by omega)).trans a4, (e 1 5 (by omega) (by omega) (by omega)).trans a5, (e 3 0 (by omega) (by omega) (by omega)).trans a6, (e 5 0 (by omega) (by omega) (by omega)).trans a7⟩
def tq_R (i : Nat) (g : ts_G) : Prop := ∀ r, r < i → g.2.2.2 2 r = 15 + 2 * r ∧ g.2.2.2 (15 + 2 * r) 0 = 16 + 2 * r
/-- fields from a on, in the array u -/
def tq_A (u a i : Nat) (g : ts_G) (hk : ts_K) : Prop := ∀ r, r < i → g.2.2.2 u r = a + 10 * r ∧ (∀ s, s ≤ 8 → g.2.2.2 (a + 10 * r) s = a + 10 * r + 1 + s) ∧ ∀ t, t < 7 → hk (a + 10 * r + 1) t = 10
theorem tq_R.of {i : Nat} {g g' : ts_G} (h : tq_R i g) (e : ∀ b s, (b = 2 ∨ 15 ≤ b) → b < 15 + 2 * i → g'.2.2.2 b s = g.2.2.2 b s) : tq_R i g' := fun r hr => ⟨by rw [e _ _ (by omega) (by omega)]; exact (h r hr).1, by rw [e _ _ (by omega) (by omega)]; exact (h r hr).2⟩
theorem tq_A.of {u a i : Nat} {g g' : ts_G} {hk hk' : ts_K} (h : tq_A u a i g hk) (e1 : ∀ s, s < i → g'.2.2.2 u s = g.2.2.2 u s) (e : ∀ b s, a ≤ b → b < a + 10 * i → g'.2.2.2 b s = g.2.2.2 b s) (ek : ∀ b, a ≤ b → b < a + 10 * i → hk' b = hk b) : tq_A u a i g' hk' := fun r hr => ⟨by rw [e1 r hr]; exact (h r hr).1, fun s hs => by rw [e _ _ (by omega) (by omega)]; exact (h r hr).2.1 s hs, fun t ht => by rw [ek _ (by omega) (by omega)]; exact (h r hr).2.2 t ht⟩
theorem tq_R.add {i : Nat} {g g' : ts_G} (h : tq_R i g) (e : ∀ b s, (b = 2 ∨ 15 ≤ b) → b < 15 + 2 * i → (b ≠ 2 ∨ s ≠ i) → g'.2.2.2 b s = g.2.2.2 b s) (e1 : g'.2.2.2 2 i = 15 + 2 * i) (e2 : g'.2.2.2 (15 + 2 * i) 0 = 16 + 2 * i) : tq_R (i + 1) g' := fun r hr => by
  by_cases c : r = i
  · rw [c]; exact ⟨e1, e2⟩
  · exact ⟨by rw [e _ _ (by omega) (by omega) (by omega)]; exact (h r (by omega)).1, by rw [e _ _ (by omega) (by omega) (by omega)]; exact (h r (by omega)).2⟩
theorem tq_A.add {u a i : Nat} {g g' : ts_G} {hk hk' : ts_K} (h : tq_A u a i g hk) (e1 : ∀ s, s < i → g'.2.2.2 u s = g.2.2.2 u s) (e : ∀ b s, a ≤ b → b < a + 10 * i → g'.2.2.2 b s = g.2.2.2 b s) (ek : ∀ b, a ≤ b → b < a + 10 * i → hk' b = hk b) (f1 : g'.2.2.2 u i = a + 10 * i) (f2 : ∀ s, s ≤ 8 → g'.2.2.2 (a + 10 * i) s = a + 10 * i + 1 + s) (f3 : ∀ t, t < 7 → hk' (a + 10 * i + 1) t = 10) : tq_A u a (i + 1) g' hk' := fun r hr => by
  by_cases c : r = i
  · rw [c]; exact ⟨f1, f2, f3⟩
  · exact h.of e1 e ek r (by omega)
theorem tq_kd {v : Nat} {g : ts_G} {hi hi5 hi' : ts_I} {n c : Nat} {g4 : ts_G} (h : tq_N n g hi) (e4 : g4 = ts_gn g c 0) (e5 : hi5 = ts_zi hi (g.1 + 1)) (e : hi' = ts_up hi5 (n + 1) 0 (nI v)) (hK : tq_K (n + 1) = c) (hL : tq_L (n + 1) = 0) (hn : 10 ≤ n + 1 ∧ n + 1 ≤ 14) (hv : v = n - 8) : tq_N (n + 1) g4 hi' := by
  refine tq_al h e4 (fun b hb => ?_) (fun s => ?_) hK hL
  · rw [e]; funext s
    rw [ts_up_a hb, e5]
    show (if b = g.1 + 1 then 0 else hi b s) = hi b s
    rw [if_neg (by rw [h.1]; exact hb)]
  · unfold tq_H
    by_cases c : s = 0
    · subst c
      rw [e, ts_up_eq, if_pos ⟨rfl, hn⟩, hv, show n + 1 - 9 = n - 8 by omega]
    · rw [e, ts_up_s c, if_neg (fun x => c x.1), e5]
      show (if n + 1 = g.1 + 1 then 0 else hi (n + 1) s) = 0
      rw [if_pos (by rw [h.1])]
theorem tq_so {d n n' c l s o cl k j k' j' kx jx mc ms : Nat} {M : ts_M} {g : ts_G} {hi : ts_I} {hk : ts_K} {P : ts_G → ts_I → ts_K → Prop} (N : tq_N n g hi) (hn : n + 1 = n') (ho : 1 ≤ o ∧ o ≤ n) (hk1 : k ≤ mc) (hj1 : j ≤ ms) (hk2 : k' ≤ mc) (hj2 : j' ≤ ms) (hK : tq_K n' = c) (hL : tq_L n' = l) (hH : n' < 10 ∨ 14 < n') (hcl : tq_K o = cl) (hc : c < 200)
    (hM : ∀ {g hi hk Q}, tq_N n' g hi → (∀ g' hi' hk', tq_N (n' + 1) g' hi' → g'.2.2.2 n' 0 = n' + 1 → (∀ b s, b < n' → g'.2.2.2 b s = g.2.2.2 b s) → (∀ b, b ≤ n' → hk' b = hk b) → Q none g' hi' hk') → ts_Ev d kx jx M [.ref n'] g hi hk Q)
    (q : ∀ g' hi' hk', tq_N (n' + 1) g' hi' → g'.2.2.2 o s = n' → g'.2.2.2 n' 0 = n' + 1 → (∀ b t, b ≤ n → (b ≠ o ∨ t ≠ s) → g'.2.2.2 b t = g.2.2.2 b t) → (∀ b, b ≤ n → hk' b = hk b) → P g' hi' hk') : (o ≤ g.1) ∧ (k ≤ mc) ∧ (j ≤ ms) ∧ ∀ g5 : ts_G, g5 = ts_gn g c l → ∀ hi6 : ts_I, hi6 = ts_zi hi (g.1 + 1) → ∀ hk7 : ts_K, hk7 = ts_zk hk (g.1 + 1) → (o ≤ g5.1) ∧ ((g.1 + 1) ≤ g5.1) ∧ (k' ≤ mc) ∧ (j' ≤ ms) ∧ ts_Ev d kx jx M [.ref (g.1 + 1)] g5 hi6 hk7 (fun r g8 hi9 hk10 => r = none ∧ ((g8.2.1 o = cl) ∧ (g8.2.1 (g.1 + 1) < 200) ∧ ∀ g11 : ts_G, g11 = ts_go g8 o s (g.1 + 1) → P g11 hi9 hk10)) := by
  subst hn
  refine ⟨by rw [N.1]; exact ho.2, hk1, hj1, fun g5 e5 hi6 e6 hk7 e7 => ?_⟩
  have A := N.al e5 e6 hK hL hH
  have zz := tq_zk N e7
  have rr := tq_rn N e5
  rw [N.1, A.1]
  refine ⟨by omega, by omega, hk2, hj2, hM A (fun g8 hi9 hk10 N8 R8 U8 Z8 => ⟨rfl, by rw [N8.kd ho.1 (by omega), hcl], by rw [N8.kd (by omega) (by omega), hK]; exact hc, fun g11 e11 => ?_⟩)⟩
  have w := tq_ro e11
  exact q g11 hi9 hk10 (N8.go e11) w.1 (by rw [w.2 _ 0 (by omega)]; exact R8) (fun b t hb hc => by rw [w.2 b t hc, U8 b t (by omega), rr b t hb]) (fun b hb => by rw [Z8 b (by omega), zz b hb])
theorem tq_sk {d n a c vi k j k' j' mc ms : Nat} {v : Int32} {M : ts_M} {g : ts_G} {hi : ts_I} {hk : ts_K} {P : ts_G → ts_I → ts_K → Prop} (N : tq_N n g hi) (hn : 10 ≤ n + 1 ∧ n + 1 ≤ 14) (ha : a + 1 ≤ n) (hC : g.2.2.2 1 3 = 7) (hK : tq_K (n + 1) = c) (hL : tq_L (n + 1) = 0) (hc : c = 0 ∨ c = 2 ∨ c = 3 ∨ c = 4 ∨ c = 7) (hv : v = nI vi) (hvi : vi = n - 8) (hk1 : k ≤ mc) (hj1 : j ≤ ms) (hk2 : k' ≤ mc) (hj2 : j' ≤ ms)
    (hM : ∀ {g : ts_G} {hi : ts_I} {hk : ts_K} {Q : ts_Q} {o : Nat} {p : Int32}, o ≤ g.1 → (g.2.1 o = 0 ∨ g.2.1 o = 2 ∨ g.2.1 o = 3 ∨ g.2.1 o = 4 ∨ g.2.1 o = 7) → (∀ hi', hi' = ts_up hi o 0 p → Q none g hi' hk) → ts_Ev d 0 0 M [.ref o, .int p] g hi hk Q)
    (q : ∀ g' hi' hk', tq_N (n + 1) g' hi' → (∀ b s, b ≤ n → g'.2.2.2 b s = g.2.2.2 b s) → (∀ t, t ≠ vi → hk' 7 t = hk 7 t) → hk' 7 vi = n + 1 → P g' hi' hk') : ((a + 1) ≤ g.1) ∧ (1 ≤ g.1) ∧ ((g.2.2.2 1 3) ≤ g.1) ∧ (k ≤ mc) ∧ (j ≤ ms) ∧ ∀ g5 : ts_G, g5 = ts_gn g c 0 → ∀ hi6 : ts_I, hi6 = ts_zi hi (g.1 + 1) → ∀ hk7 : ts_K, hk7 = ts_zk hk (g.1 + 1) → ((a + 1) ≤ g5.1) ∧ (1 ≤ g5.1) ∧ ((g.1 + 1) ≤ g5.1) ∧ ((g.2.2.2 1 3) ≤ g5.1) ∧ (k' ≤ mc) ∧ (j' ≤ ms) ∧ ts_Ev d 0 0 M [.ref (g.1 + 1), .int v] g5 hi6 hk7 (fun r g8 hi9 hk10 => r = none ∧ ((g8.2.1 (g.2.2.2 1 3) = 103) ∧ (vp_in v (g8.2.2.1 (g.2.2.2 1 3))) ∧ (g8.2.1 (g.1 + 1) = 0 ∨ g8.2.1 (g.1 + 1) = 2 ∨ g8.2.1 (g.1 + 1) = 3 ∨ g8.2.1 (g.1 + 1) = 4 ∨ g8.2.1 (g.1 + 1) = 7) ∧ ∀ hk11 : ts_K, hk11 = ts_uk hk10 (g.2.2.2 1 3) v.toNatClampNeg (g.1 + 1) → P g8 hi9 hk11)) := by
  have n0 := N.1
  rw [hC, n0]
  refine ⟨by omega, by omega, by omega, hk1, hj1, fun g5 e5 hi6 e6 hk7 e7 => ?_⟩
  have m5 : g5.1 = n + 1 := by rw [e5]; show g.1 + 1 = n + 1; rw [n0]
  have kd5 : g5.2.1 (n + 1) = c := by
    rw [e5]
    show (if n + 1 = g.1 + 1 then c else g.2.1 (n + 1)) = c
    rw [if_pos (by rw [n0])]
  have zz := tq_zk (hk := hk) (hk6 := hk7) N (by rw [n0]; exact e7)
  have rr := tq_rn N e5
  refine ⟨by omega, by omega, by omega, by omega, hk2, hj2, hM (by omega) (by rw [kd5]; exact hc) (fun hi8 x8 => ⟨rfl, ?_⟩)⟩
  have N8 : tq_N (n + 1) g5 hi8 := tq_kd (hi5 := hi6) (v := vi) N e5 (by rw [n0]; exact e6) (by rw [x8, hv]) hK hL hn hvi
  refine ⟨N8.kd (by omega) (by omega), by rw [N8.ln (by omega) (by omega), hv]; exact (ts_vin (by omega) (by omega) : vp_in (nI vi) 6), by rw [kd5]; exact hc, fun hk11 x11 => ?_⟩
  rw [hv, ts_cl (by omega)] at x11
  exact q g5 hi8 hk11 N8 rr (fun t ht => by rw [x11, ts_uk_s ht, zz 7 (by omega)]) (by rw [x11, ts_uk_eq])
/-- the end: now, draft, seer -/
theorem tq_new11d {d n0 : Nat} {k j : Nat} {Q : ts_Q} (hkk : k = 289) (hjj : j = 2486) {g : ts_G} {hi : ts_I} {hk : ts_K} (N0 : tq_N 290 g hi) (hC : tq_C g) (hR : tq_R 8 g) (hA : tq_A 8 31 24 g hk) (hB : tq_A 9 271 2 g hk) (hKA : ts_KA hk)
    (q : ∀ g' hi' hk', ts_LX g' → tq_N 404 g' hi' → ts_KA hk' → (∀ j, j < 28 → ∀ t, t < 7 → hk' (31 + 10 * j + 1) t = 10) → (∀ j, j < 9 → ∀ t, t < 7 → hk' (315 + 10 * j + 1) t = 10) → Q none g' hi' hk') : ts_JJ (d + 3) 403 3353 mX11_init none n0 Q k j 197 [(0, .ref 1), (1, .ref 10), (2, .int 2)] [] g hi hk := by
  refine wX11_init_197 ⟨fun _ => ?_, fun c => absurd (by decide) c⟩
  have n0' := N0.1
  refine ⟨by omega, by omega, by omega, by omega, fun g1 e1 hi1 ei1 hk1 el1 => ?_⟩
  have A1 : tq_N 291 g1 hi1 := N0.al e1 ei1 rfl rfl (by omega)
  have r1 := tq_rn N0 e1
  have z1 := tq_zk N0 el1
  rw [n0']
  refine ⟨by rw [A1.1]; omega, by rw [A1.1]; omega, by rw [A1.1]; omega, by omega, by omega, tq_new1 (tq_Fa (i := 26) (by omega)) A1 (by omega) (by omega) (by decide) (fun g2 hi2 hk2 N2 R2 U2 Z2 V2 => ⟨rfl, N2.kd (by omega) (by omega), by rw [N2.kd (by omega) (by omega)]; decide, fun g3 e3 => ?_⟩)⟩
  have N3 : tq_N 300 g3 hi2 := N2.go e3
  have o3 := tq_ro e3
  have n3 := N3.1
  refine ⟨by omega, by omega, by omega, by omega, fun g4 e4 hi4 ei4 hk4 el4 => ?_⟩
  have A4 : tq_N 301 g4 hi4 := N3.al e4 ei4 rfl rfl (by omega)
  have r4 := tq_rn N3 e4
  have z4 := tq_zk N3 el4
  rw [n3]
  refine ⟨by rw [A4.1]; omega, by rw [A4.1]; omega, by rw [A4.1]; omega, by omega, by omega, tq_new1 (tq_Fa (i := 27) (by omega)) A4 (by omega) (by omega) (by decide) (fun g5 hi5 hk5 N5 R5 U5 Z5 V5 => ⟨rfl, N5.kd (by omega) (by omega), by rw [N5.kd (by omega) (by omega)]; decide, fun g6 e6 => ?_⟩)⟩
  have N6 : tq_N 310 g6 hi5 := N5.go e6
  have o6 := tq_ro e6
  have n6 := N6.1
  refine ⟨by omega, by omega, by omega, by omega, fun g7 e7 hi7 ei7 hk7 el7 => ?_⟩
  have A7 : tq_N 311 g7 hi7 := N6.al e7 ei7 rfl rfl (by omega)
  have r7 := tq_rn N6 e7
  have z7 := tq_zk N6 el7
  -- what is left as it was
  have old7 : ∀ b s, b < 291 → (b ≠ 1 ∨ s < 6) → g7.2.2.2 b s = g.2.2.2 b s := fun b s hb hc => by
    rw [r7 b s (by omega), o6.2 b s (by omega), U5 b s (by omega), r4 b s (by omega), o3.2 b s (by omega), U2 b s hb, r1 b s (by omega)]
  have k7 : ∀ b, b ≤ 290 → hk7 b = hk b := fun b hb => by rw [z7 b (by omega), Z5 b (by omega), z4 b (by omega), Z2 b (by omega), z1 b hb]
  have s6 : g7.2.2.2 1 6 = 291 := by rw [r7 1 6 (by omega), o6.2 1 6 (by omega), U5 1 6 (by omega), r4 1 6 (by omega), o3.1]
  have s7 : g7.2.2.2 1 7 = 301 := by rw [r7 1 7 (by omega), o6.1]
  have f291 : ∀ s, s ≤ 8 → g7.2.2.2 291 s = 291 + 1 + s := fun s hs => by rw [r7 _ s (by omega), o6.2 _ s (by omega), U5 _ s (by omega), r4 _ s (by omega), o3.2 _ s (by omega)]; exact R2 s hs
  have f301 : ∀ s, s ≤ 8 → g7.2.2.2 301 s = 301 + 1 + s := fun s hs => by rw [r7 _ s (by omega), o6.2 _ s (by omega)]; exact R5 s hs
  have h291 : ∀ t, t < 7 → hk7 292 t = 10 := fun t ht => by rw [z7 _ (by omega), Z5 _ (by omega), z4 _ (by omega)]; exact V2 t ht
  have h301 : ∀ t, t < 7 → hk7 302 t = 10 := fun t ht => by rw [z7 _ (by omega)]; exact V5 t ht
  rw [n6, s6, old7 1 3 (by omega) (by omega), hC.2.2.2.1]
  refine ⟨A7.kd (by omega) (by omega), by omega, by omega, by rw [A7.1]; omega, by rw [A7.1]; omega, by rw [A7.1]; omega, by omega, by omega, tq_new7 A7 (by rw [k7 7 (by omega)]; exact hKA.2 1 (by omega) (by omega)) (fun g8 hi8 hk8 N8 R8 T8 U8 Z8 V8 => ⟨rfl, N8.kd (by omega) (by omega), by rw [N8.kd (by omega) (by omega)]; decide, fun g9 e9 => ⟨by omega, by omega, ?_⟩⟩)⟩
  have N9 : tq_N 404 g9 hi8 := N8.go e9
  have o9 := tq_ro e9
  have old9 : ∀ b s, b < 311 → (b ≠ 1 ∨ s ≠ 8) → g9.2.2.2 b s = g7.2.2.2 b s := fun b s hb hc => by rw [o9.2 b s hc, U8 b s hb]
  have old : ∀ b s, b < 291 → (b ≠ 1 ∨ s < 6) → g9.2.2.2 b s = g.2.2.2 b s := fun b s hb hc => by rw [old9 b s (by omega) (by omega), old7 b s hb hc]
  have k9 : ∀ b, b ≤ 311 → hk8 b = hk7 b := Z8
  have hC9 : tq_C g9 := hC.of (fun b s b1 _ b3 => old b s (by omega) b3)
  have hR9 : tq_R 8 g9 := hR.of (fun b s b1 b2 => old b s (by omega) (by omega))
  have hA9 : tq_A 8 31 24 g9 hk8 := hA.of (fun s _ => old 8 s (by omega) (by omega)) (fun b s b1 b2 => old b s (by omega) (by omega)) (fun b b1 b2 => by rw [k9 b (by omega), k7 b (by omega)])
  have hB9 : tq_A 9 271 2 g9 hk8 := hB.of (fun s _ => old 9 s (by omega) (by omega)) (fun b s b1 b2 => old b s (by omega) (by omega)) (fun b b1 b2 => by rw [k9 b (by omega), k7 b (by omega)])
  obtain ⟨c0, c1, c2, c3, c4, c5, c6, c7⟩ := hC9
  have K : ∀ {b}, 1 ≤ b → b ≤ 404 → g9.2.1 b = tq_K b := fun h1 h2 => N9.kd h1 h2
  have Ln : ∀ {b}, 1 ≤ b → b ≤ 404 → g9.2.2.1 b = tq_L b := fun h1 h2 => N9.ln h1 h2
  refine q g9 hi8 hk8 ?_ N9 ?_ (fun j hj t ht => ?_) V8
  · refine ⟨K (by omega) (by omega), c0, c1, c2, c3, c4, c5, by rw [old9 1 6 (by omega) (by omega)]; exact s6, by rw [old9 1 7 (by omega) (by omega)]; exact s7, o9.1, K (by omega) (by omega), Ln (by omega) (by omega), K (by omega) (by omega), c6, K (by omega) (by omega), Ln (by omega) (by omega), K (by omega) (by omega), c7, K (by omega) (by omega), Ln (by omega) (by omega), K (by omega) (by omega), Ln (by omega) (by omega), K (by omega) (by omega), Ln (by omega) (by omega), K (by omega) (by omega), Ln (by omega) (by omega), K (by omega) (by omega), by rw [o9.2 311 0 (by omega)]; exact R8.1, by rw [o9.2 311 1 (by omega)]; exact R8.2.1, by rw [o9.2 311 2 (by omega)]; exact R8.2.2.1, by rw [o9.2 311 3 (by omega)]; exact R8.2.2.2.1, by rw [o9.2 311 4 (by omega)]; exact R8.2.2.2.2.1, by rw [o9.2 311 5 (by omega)]; exact R8.2.2.2.2.2, K (by omega) (by omega), Ln (by omega) (by omega), K (by omega) (by omega), Ln (by omega) (by omega), K (by omega) (by omega), Ln (by omega) (by omega), fun i hi => ⟨(hR9 i hi).1, ?_, (hR9 i hi).2, ?_, ?_⟩, fun i hi => ⟨(hA9 i hi).1, tq_FL (tq_Fa (by omega)) N9 (by omega) (hA9 i hi).2.1⟩, fun i hi => ⟨(hB9 i hi).1, ?_⟩, ⟨K (by omega) (by omega), K (by omega) (by omega), K (by omega) (by omega), K (by omega) (by omega), K (by omega) (by omega)⟩, ?_, ?_, fun i hi => ⟨?_, ?_⟩⟩
    · rw [K (by omega) (by omega)]
      unfold tq_K
      rw [if_neg (by omega), if_pos (by omega), if_pos (by omega)]
    · rw [K (by omega) (by omega)]
      unfold tq_K
      rw [if_neg (by omega), if_pos (by omega), if_neg (by omega)]
    · rw [Ln (by omega) (by omega)]
      unfold tq_L
      rw [if_neg (by omega), if_pos (by omega), if_neg (by omega)]
    · have z := tq_FL (tq_Fa (i := 24 + i) (by omega)) N9 (by omega) (fun s hs => by rw [show 31 + 10 * (24 + i) = 271 + 10 * i by omega]; exact (hB9 i hi).2.1 s hs)
      rw [show 31 + 10 * (24 + i) = 271 + 10 * i by omega] at z
      exact z
    · exact tq_FL (tq_Fa (i := 26) (by omega)) N9 (by omega) (fun s hs => by rw [old9 _ s (by omega) (by omega)]; exact f291 s hs)
    · exact tq_FL (tq_Fa (i := 27) (by omega)) N9 (by omega) (fun s hs => by rw [old9 _ s (by omega) (by omega)]; exact f301 s hs)
    · rw [o9.2 312 i (by omega)]
      exact (T8 i hi).1
    · exact tq_FL (tq_Fb hi) N9 (by omega) (fun s hs => by rw [o9.2 _ s (by omega)]; exact (T8 i hi).2.2.2 s hs)
  · exact hKA.of (by rw [k9 7 (by omega), k7 7 (by omega)])
  · by_cases j1 : j < 24
    · exact (hA9 j j1).2.2 t ht
    · by_cases j2 : j < 26
      · have z := (hB9 (j - 24) (by omega)).2.2 t ht
        rw [show 271 + 10 * (j - 24) + 1 = 31 + 10 * j + 1 by omega] at z
        exact z
      · by_cases j3 : j = 26
        · rw [j3, k9 _ (by omega)]
          exact h291 t ht
        · have j4 : j = 27 := by omega
          rw [j4, k9 _ (by omega)]
          exact h301 t ht
/-- the images -/
theorem tq_new11c {d n0 : Nat} {Q : ts_Q} (q : ∀ g' hi' hk', ts_LX g' → tq_N 404 g' hi' → ts_KA hk' → (∀ j, j < 28 → ∀ t, t < 7 → hk' (31 + 10 * j + 1) t = 10) → (∀ j, j < 9 → ∀ t, t < 7 → hk' (315 + 10 * j + 1) t = 10) → Q none g' hi' hk') :
    ∀ n i k j g hi hk, i + n = 2 → k = 269 + 10 * i → j = 2334 + 76 * i → tq_N (270 + 10 * i) g hi → tq_C g → tq_R 8 g → tq_A 8 31 24 g hk → tq_A 9 271 i g hk → ts_KA hk → ts_JJ (d + 3) 403 3353 mX11_init none n0 Q k j 197 [(0, .ref 1), (1, .ref 10), (2, .int (nI i))] [] g hi hk := by
  intro n
  induction n with
  | zero =>
    intro i k j g hi hk hin hkk hjj N hC hR hA hB hKA
    have i2 : i = 2 := by omega
    subst i2
    exact tq_new11d (by omega) (by omega) N hC hR hA hB hKA q
  | succ n ih =>
    intro i k j g hi hk hin hkk hjj N hC hR hA hB hKA
    have hn := N.1
    refine wX11_init_197 ?_
    rw [hC.2.2.2.2.2.1, hn, ts_l2, ts_le (by omega) (by omega)]
    refine ⟨fun c => absurd c (by omega), fun _ => ⟨N.kd (by omega) (by omega), by omega, by omega, by omega, by omega, by omega, by omega, fun g9 e9 hi10 e10 hk11 e11 => ?_⟩⟩
    have hF : tq_F (271 + 10 * i) := by
      have z := tq_Fa (i := 24 + i) (by omega)
      rw [show 31 + 10 * (24 + i) = 271 + 10 * i by omega] at z
      exact z
    have ek : 270 + 10 * i + 1 = 271 + 10 * i := by omega
    rw [ek] at e10 e11 ⊢
    have A : tq_N (270 + 10 * i + 1) g9 hi10 := N.al e9 (by rw [hn, ek]; exact e10) (by rw [ek]; exact hF.2.1) (by rw [ek]; unfold tq_L; rw [if_neg (by omega), if_neg (by omega), if_pos (by omega), if_pos (by omega)]) (by omega)
    rw [ek] at A
    have rr := tq_rn N e9
    have zz := tq_zk (hk := hk) (hk6 := hk11) N (by rw [hn, ek]; exact e11)
    refine ⟨by rw [A.1]; omega, by rw [A.1]; omega, by rw [A.1]; omega, by rw [A.1]; omega, by omega, by omega, tq_new1 hF A (by omega) (by omega) (by decide) (fun g18 hi19 hk20 N18 R18 U18 Z18 V18 => ⟨rfl, ?_⟩)⟩
    refine ⟨N18.kd (by omega) (by omega), by rw [N18.ln (by omega) (by omega)]; exact (ts_vin (by omega) (by omega) : vp_in (nI i) 2), by rw [N18.kd (by omega) (by omega)]; exact hF.2.1, fun g24 e24 => ?_⟩
    rw [ts_cl (by omega)] at e24
    have o := tq_ro e24
    rw [ts_l1, nI_add]
    have old : ∀ b s, b < 271 + 10 * i → (b ≠ 9 ∨ s ≠ i) → g24.2.2.2 b s = g.2.2.2 b s := fun b s hb hc => by rw [o.2 b s hc, U18 b s hb, rr b s (by omega)]
    have oldk : ∀ b, b ≤ 270 + 10 * i → hk20 b = hk b := fun b hb => by rw [Z18 b (by omega), zz b hb]
    refine ih (i + 1) _ _ g24 hi19 hk20 (by omega) (by omega) (by omega) ?_ (hC.of (fun b s b1 b2 b3 => old b s (by omega) (by omega))) (hR.of (fun b s b1 b2 => old b s (by omega) (by omega))) (hA.of (fun s hs => old 8 s (by omega) (by omega)) (fun b s b1 b2 => old b s (by omega) (by omega)) (fun b b1 b2 => oldk b (by omega))) (hB.add (fun s hs => old 9 s (by omega) (by omega)) (fun b s b1 b2 => old b s (by omega) (by omega)) (fun b b1 b2 => oldk b (by omega)) o.1 (fun s hs => by rw [o.2 _ s (by omega)]; exact R18 s hs) V18) (hKA.of (oldk 7 (by omega)))
    rw [show 270 + 10 * (i + 1) = 271 + 10 * i + 9 by omega]
    exact N18.go e24
/-- the acts -/
theorem tq_new11b {d n0 : Nat} {Q : ts_Q} (q : ∀ g' hi' hk', ts_LX g' → tq_N 404 g' hi' → ts_KA hk' → (∀ j, j < 28 → ∀ t, t < 7 → hk' (31 + 10 * j + 1) t = 10) → (∀ j, j < 9 → ∀ t, t < 7 → hk' (315 + 10 * j + 1) t = 10) → Q none g' hi' hk') :
    ∀ n i k j g hi hk, i + n = 24 → k = 29 + 10 * i → j = 510 + 76 * i → tq_N (30 + 10 * i) g hi → tq_C g → tq_R 8 g → tq_A 8 31 i g hk → ts_KA hk → ts_JJ (d + 3) 403 3353 mX11_init none n0 Q k j 169 [(0, .ref 1), (1, .ref 10), (2, .int (nI i))] [] g hi hk := by
  intro n
  induction n with
  | zero =>
    intro i k j g hi hk hin hkk hjj N hC hR hA hKA
    have i2 : i = 24 := by omega
    subst i2
    refine wX11_init_169 ⟨fun _ => ?_, fun c => absurd (by decide) c⟩
    have z := tq_new11c (d := d) (n0 := n0) q 2 0 k j g hi hk (by omega) (by omega) (by omega) N hC hR hA (fun r hr => absurd hr (Nat.not_lt_zero r)) hKA
    exact z
  | succ n ih =>
    intro i k j g hi hk hin hkk hjj N hC hR hA hKA
    have hn := N.1
    refine wX11_init_169 ?_
    rw [hC.2.2.2.2.1, hn, show (24 : Int32) = nI 24 from rfl, ts_le (by omega) (by omega)]
    refine ⟨fun c => absurd c (by omega), fun _ => ⟨N.kd (by omega) (by omega), by omega, by omega, by omega, by omega, by omega, by omega, fun g9 e9 hi10 e10 hk11 e11 => ?_⟩⟩
    have hF : tq_F (31 + 10 * i) := tq_Fa (by omega)
    have ek : 30 + 10 * i + 1 = 31 + 10 * i := by omega
    rw [ek] at e10 e11 ⊢
    have A : tq_N (30 + 10 * i + 1) g9 hi10 := N.al e9 (by rw [hn, ek]; exact e10) (by rw [ek]; exact hF.2.1) (by rw [ek]; unfold tq_L; rw [if_neg (by omega), if_neg (by omega), if_pos (by omega), if_pos (by omega)]) (by omega)
    rw [ek] at A
    have rr := tq_rn N e9
    have zz := tq_zk (hk := hk) (hk6 := hk11) N (by rw [hn, ek]; exact e11)
    refine ⟨by rw [A.1]; omega, by rw [A.1]; omega, by rw [A.1]; omega, by rw [A.1]; omega, by omega, by omega, tq_new1 hF A (by omega) (by omega) (by decide) (fun g18 hi19 hk20 N18 R18 U18 Z18 V18 => ⟨rfl, ?_⟩)⟩
    refine ⟨N18.kd (by omega) (by omega), by rw [N18.ln (by omega) (by omega)]; exact (ts_vin (by omega) (by omega) : vp_in (nI i) 24), by rw [N18.kd (by omega) (by omega)]; exact hF.2.1, fun g24 e24 => ?_⟩
    rw [ts_cl (by omega)] at e24
    have o := tq_ro e24
    rw [ts_l1, nI_add]
    have old : ∀ b s, b < 31 + 10 * i → (b ≠ 8 ∨ s ≠ i) → g24.2.2.2 b s = g.2.2.2 b s := fun b s hb hc => by rw [o.2 b s hc, U18 b s hb, rr b s (by omega)]
    have oldk : ∀ b, b ≤ 30 + 10 * i → hk20 b = hk b := fun b hb => by rw [Z18 b (by omega), zz b hb]
    refine ih (i + 1) _ _ g24 hi19 hk20 (by omega) (by omega) (by omega) ?_ (hC.of (fun b s b1 b2 b3 => old b s (by omega) (by omega))) (hR.of (fun b s b1 b2 => old b s (by omega) (by omega))) (hA.add (fun s hs => old 8 s (by omega) (by omega)) (fun b s b1 b2 => old b s (by omega) (by omega)) (fun b b1 b2 => oldk b (by omega)) o.1 (fun s hs => by rw [o.2 _ s (by omega)]; exact R18 s hs) V18) (hKA.of (oldk 7 (by omega)))
    rw [show 30 + 10 * (i + 1) = 31 + 10 * i + 9 by omega]
    exact N18.go e24
/-- the rows -/
theorem tq_new11a {d n0 : Nat} {Q : ts_Q} (q : ∀ g' hi' hk', ts_LX g' → tq_N 404 g' hi' → ts_KA hk' → (∀ j, j < 28 → ∀ t, t < 7 → hk' (31 + 10 * j + 1) t = 10) → (∀ j, j < 9 → ∀ t, t < 7 → hk' (315 + 10 * j + 1) t = 10) → Q none g' hi' hk') :
    ∀ n i k j g hi hk, i + n = 8 → k = 13 + 2 * i → j = 158 + 44 * i → tq_N (14 + 2 * i) g hi → tq_C g → tq_R i g → ts_KA hk → ts_JJ (d + 3) 403 3353 mX11_init none n0 Q k j 142 [(0, .ref 1), (1, .ref 10), (2, .int (nI i))] [] g hi hk := by
  intro n
  induction n with
  | zero =>
    intro i k j g hi hk hin hkk hjj N hC hR hKA
    have i2 : i = 8 := by omega
    subst i2
    refine wX11_init_142 ⟨fun _ => ?_, fun c => absurd (by decide) c⟩
    have z := tq_new11b (d := d) (n0 := n0) q 24 0 k j g hi hk (by omega) (by omega) (by omega) N hC hR (fun r hr => absurd hr (Nat.not_lt_zero r)) hKA
    exact z
  | succ n ih =>
    intro i k j g hi hk hin hkk hjj N hC hR hKA
    have hn := N.1
    refine wX11_init_142 ?_
    rw [hC.1, hn, ts_l8, ts_le (by omega) (by omega)]
    refine ⟨fun c => absurd c (by omega), fun _ => ⟨N.kd (by omega) (by omega), by omega, by omega, by omega, by omega, by omega, by omega, fun g9 e9 hi10 e10 hk11 e11 => ?_⟩⟩
    have ek : 14 + 2 * i + 1 = 15 + 2 * i := by omega
    have k0 : tq_K (15 + 2 * i) = 5 := by unfold tq_K; rw [if_neg (by omega), if_pos (by omega), if_pos (by omega)]
    have k1 : tq_K (15 + 2 * i + 1) = 100 := by unfold tq_K; rw [if_neg (by omega), if_pos (by omega), if_neg (by omega)]
    have l0 : tq_L (15 + 2 * i) = 0 := by unfold tq_L; rw [if_neg (by omega), if_pos (by omega), if_pos (by omega)]
    have l1 : tq_L (15 + 2 * i + 1) = 40 := by unfold tq_L; rw [if_neg (by omega), if_pos (by omega), if_neg (by omega)]
    rw [ek] at e10 e11 ⊢
    have A : tq_N (14 + 2 * i + 1) g9 hi10 := N.al e9 (by rw [hn, ek]; exact e10) (by rw [ek]; exact k0) (by rw [ek]; exact l0) (by omega)
    rw [ek] at A
    have rr := tq_rn N e9
    have zz := tq_zk (hk := hk) (hk6 := hk11) N (by rw [hn, ek]; exact e11)
    refine ⟨by rw [A.1]; omega, by rw [A.1]; omega, by rw [A.1]; omega, by rw [A.1]; omega, by omega, by omega, tq_new6 (by omega) k0 k1 l1 (by omega) A (fun g18 hi19 hk20 N18 R18 U18 Z18 => ⟨rfl, ?_⟩)⟩
    refine ⟨N18.kd (by omega) (by omega), by rw [N18.ln (by omega) (by omega)]; exact (ts_vin (by omega) (by omega) : vp_in (nI i) 8), by rw [N18.kd (by omega) (by omega)]; exact k0, fun g24 e24 => ?_⟩
    rw [ts_cl (by omega)] at e24
    have o := tq_ro e24
    rw [ts_l1, nI_add]
    have old : ∀ b s, b < 15 + 2 * i → (b ≠ 2 ∨ s ≠ i) → g24.2.2.2 b s = g.2.2.2 b s := fun b s hb hc => by rw [o.2 b s hc, U18 b s hb, rr b s (by omega)]
    have oldk : ∀ b, b ≤ 14 + 2 * i → hk20 b = hk b := fun b hb => by rw [Z18 b (by omega), zz b hb]
    refine ih (i + 1) _ _ g24 hi19 hk20 (by omega) (by omega) (by omega) ?_ (hC.of (fun b s b1 b2 b3 => old b s (by omega) (by omega))) (hR.add (fun b s b1 b2 b3 => old b s b2 b3) o.1 (by rw [o.2 _ 0 (by omega), R18]; omega)) (hKA.of (oldk 7 (by omega)))
    rw [show 14 + 2 * (i + 1) = 15 + 2 * i + 1 by omega]
    exact N18.go e24
theorem tq_new11 {d : Nat} {g : ts_G} {hi : ts_I} {hk : ts_K} {Q : ts_Q} (N0 : tq_N 1 g hi) (q : ∀ g' hi' hk', ts_LX g' → tq_N 404 g' hi' → ts_KA hk' → (∀ j, j < 28 → ∀ t, t < 7 → hk' (31 + 10 * j + 1) t = 10) → (∀ j, j < 9 → ∀ t, t < 7 → hk' (315 + 10 * j + 1) t = 10) → Q none g' hi' hk') : ts_Ev (d + 4) 403 3353 mX11_init [.ref 1] g hi hk Q := by
  refine ts_Ev.of plX11_init rfl (Nat.le_of_ble_eq_true rfl) ?_
  refine wX11_init_0 ?_
  refine tq_st0 (n' := 2) (s := 0) N0 rfl (by decide) (by decide) (by decide) (by decide) rfl rfl (by decide) rfl (by decide) (fun gb1 ha1 hk1 N1 r1 o1 z1 => ?_)
  refine tq_so (n' := 3) (s := 1) N1 rfl (by decide) (by decide) (by decide) (by decide) (by decide) rfl rfl (by decide) rfl (by decide) (fun A q => tq_new9 (r := 3) (by decide) rfl rfl rfl (by decide) A q) (fun gb2 ha2 hk2 N2 r2 u2 o2 z2 => ?_)
  refine tq_so (n' := 5) (s := 2) N2 rfl (by decide) (by decide) (by decide) (by decide) (by decide) rfl rfl (by decide) rfl (by decide) (fun A q => tq_new10 (r := 5) (by decide) rfl rfl rfl (by decide) A q) (fun gb3 ha3 hk3 N3 r3 u3 o3 z3 => ?_)
  refine tq_st0 (n' := 7) (s := 3) N3 rfl (by decide) (by decide) (by decide) (by decide) rfl rfl (by decide) rfl (by decide) (fun gb4 ha4 hk4 N4 r4 o4 z4 => ?_)
  refine tq_st0 (n' := 8) (s := 4) N4 rfl (by decide) (by decide) (by decide) (by decide) rfl rfl (by decide) rfl (by decide) (fun gb5 ha5 hk5 N5 r5 o5 z5 => ?_)
  refine tq_st0 (n' := 9) (s := 5) N5 rfl (by decide) (by decide) (by decide) (by decide) rfl rfl (by decide) rfl (by decide) (fun gb6 ha6 hk6 N6 r6 o6 z6 => ?_)
  have hC : tq_C gb6 := by
    refine ⟨?_, ?_, ?_, ?_, ?_, ?_, ?_, ?_⟩
    · rw [o6 1 0 (by omega) (by omega), o5 1 0 (by omega) (by omega), o4 1 0 (by omega) (by omega), o3 1 0 (by omega) (by omega), o2 1 0 (by omega) (by omega), r1]
    · rw [o6 1 1 (by omega) (by omega), o5 1 1 (by omega) (by omega), o4 1 1 (by omega) (by omega), o3 1 1 (by omega) (by omega), r2]
    · rw [o6 1 2 (by omega) (by omega), o5 1 2 (by omega) (by omega), o4 1 2 (by omega) (by omega), r3]
    · rw [o6 1 3 (by omega) (by omega), o5 1 3 (by omega) (by omega), r4]
    · rw [o6 1 4 (by omega) (by omega), r5]
    · rw [r6]
    · rw [o6 3 0 (by omega) (by omega), o5 3 0 (by omega) (by omega), o4 3 0 (by omega) (by omega), o3 3 0 (by omega) (by omega)]; exact u2
    · rw [o6 5 0 (by omega) (by omega), o5 5 0 (by omega) (by omega), o4 5 0 (by omega) (by omega)]; exact u3
  have n6 := N6.1
  refine ⟨by omega, by decide, by decide, fun g7 e7 ha7 ei7 hka7 el7 => ?_⟩
  have y7 := tq_zk (hk := hk6) (hk6 := hka7) N6 el7
  rw [n6] at ei7 ⊢
  have m7 : g7.1 = 10 := by rw [e7]; show gb6.1 + 1 = 10; rw [n6]
  have kd7 : g7.2.1 (9 + 1) = 3 := by
    rw [e7]
    show (if 9 + 1 = gb6.1 + 1 then 3 else gb6.2.1 (9 + 1)) = 3
    rw [if_pos (by rw [n6])]
  have hC7 : tq_C g7 := hC.of (fun b s b1 b2 b3 => tq_rn N6 e7 b s (by omega))
  refine ⟨by omega, by omega, by decide, by decide, tq_new4 (by omega) (by rw [kd7]; decide) (fun hi7 x7 => ⟨rfl, ?_⟩)⟩
  have N7 : tq_N 10 g7 hi7 := tq_kd (v := 1) N6 e7 (by rw [n6]; exact ei7) x7 rfl rfl (by omega) rfl
  have q7 : g7.2.2.2 1 3 = 7 := hC7.2.2.2.1
  have vp7 : ∀ v : Nat, v < 6 → vp_in (nI v) (g7.2.2.1 7) := fun v hv => by rw [N7.ln (by omega) (by omega)]; exact (ts_vin hv (by omega) : vp_in (nI v) 6)
  refine ⟨N7.kd (by omega) (by omega), by rw [q7]; omega, by rw [q7]; exact N7.kd (by omega) (by omega), by rw [q7]; exact vp7 0 (by omega), by rw [kd7]; decide, fun hkb7 w7 => ⟨by rw [q7]; exact vp7 1 (by omega), fun hk7 w7' => ?_⟩⟩
  rw [q7] at w7 w7'
  have k70 : hk7 7 0 = 10 := by rw [w7', ts_uk_s (by decide), w7]; exact ts_uk_eq
  have k71 : hk7 7 1 = 10 := by rw [w7']; exact ts_uk_eq
  refine tq_sk (n := 10) (a := 9) (vi := 2) (v := 2) N7 (by decide) (by decide) q7 rfl rfl (by decide) rfl rfl (by decide) (by decide) (by decide) (by decide) (fun ho h q => tq_new3 ho h q) (fun g8 hi8 hk8 N8 o8 w8 k72 => ?_)
  have hC8 : tq_C g8 := hC7.of (fun b s b1 b2 b3 => o8 b s (by omega))
  have q8 : g8.2.2.2 1 3 = 7 := hC8.2.2.2.1
  refine ⟨N8.kd (by omega) (by omega), by rw [q8]; omega, tq_sk (n := 11) (a := 9) (vi := 3) (v := 3) N8 (by decide) (by decide) q8 rfl rfl (by decide) rfl rfl (by decide) (by decide) (by decide) (by decide) (fun ho h q => tq_new5 ho h q) (fun g9 hi9 hk9 N9 o9 w9 k73 => ?_)⟩
  have hC9 : tq_C g9 := hC8.of (fun b s b1 b2 b3 => o9 b s (by omega))
  have q9 : g9.2.2.2 1 3 = 7 := hC9.2.2.2.1
  refine ⟨N9.kd (by omega) (by omega), by rw [q9]; omega, tq_sk (n := 12) (a := 9) (vi := 4) (v := 4) N9 (by decide) (by decide) q9 rfl rfl (by decide) rfl rfl (by decide) (by decide) (by decide) (by decide) (fun ho h q => tq_new0 ho h q) (fun g10 hi10 hk10 N10 o10 w10 k74 => ?_)⟩
  have hC10 : tq_C g10 := hC9.of (fun b s b1 b2 b3 => o10 b s (by omega))
  have q10 : g10.2.2.2 1 3 = 7 := hC10.2.2.2.1
  refine ⟨N10.kd (by omega) (by omega), by rw [q10]; omega, tq_sk (n := 13) (a := 9) (vi := 5) (v := 5) N10 (by decide) (by decide) q10 rfl rfl (by decide) rfl rfl (by decide) (by decide) (by decide) (by decide) (fun ho h q => tq_new8 ho h q) (fun g11 hi11 hk11 N11 o11 w11 k75 => ?_)⟩
  have hC11 : tq_C g11 := hC10.of (fun b s b1 b2 b3 => o11 b s (by omega))
  have q11 : g11.2.2.2 1 3 = 7 := hC11.2.2.2.1
  have hKA : ts_KA hk11 := by
    refine ⟨?_, fun v h1 h2 => ?_⟩
    · rw [w11 0 (by decide), w10 0 (by decide), w9 0 (by decide), w8 0 (by decide)]; exact k70
    · have hv : v = 1 ∨ v = 2 ∨ v = 3 ∨ v = 4 ∨ v = 5 := by omega
      rcases hv with rfl | rfl | rfl | rfl | rfl
      · rw [w11 1 (by decide), w10 1 (by decide), w9 1 (by decide), w8 1 (by decide)]; exact k71
      · rw [w11 2 (by decide), w10 2 (by decide), w9 2 (by decide)]; exact k72
      · rw [w11 3 (by decide), w10 3 (by decide)]; exact k73
      · rw [w11 4 (by decide)]; exact k74
      · exact k75
  exact tq_new11a (d := d + 1) q 8 0 _ _ g11 hi11 hk11 (by omega) rfl rfl N11 hC11 (fun r hr => absurd hr (Nat.not_lt_zero r)) hKA
