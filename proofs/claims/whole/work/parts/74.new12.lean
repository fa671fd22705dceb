/-! the model's constructor -/
theorem tq_FLt {g g' : ts_G} {k : Nat} (h : ts_FL g k) (e1 : ∀ b, k ≤ b → b ≤ k + 9 → g'.2.1 b = g.2.1 b ∧ g'.2.2.1 b = g.2.2.1 b) (e2 : ∀ s, g'.2.2.2 k s = g.2.2.2 k s) : ts_FL g' k := by
  obtain ⟨⟨a1, a2, a3⟩, a4, a5⟩ := h
  exact ⟨⟨by rw [(e1 k (by omega) (by omega)).1]; exact a1, by rw [(e1 (k + 1) (by omega) (by omega)).1]; exact a2, fun i h1 h2 => by rw [(e1 (k + i) (by omega) (by omega)).1]; exact a3 i h1 h2⟩, fun i h1 h2 => by rw [(e1 (k + i) (by omega) (by omega)).2]; exact a4 i h1 h2, fun i hi => by rw [e2]; exact a5 i hi⟩
theorem tq_LXt {g g' : ts_G} (h : ts_LX g) (e1 : ∀ b, 1 ≤ b → b ≤ 404 → g'.2.1 b = g.2.1 b ∧ g'.2.2.1 b = g.2.2.1 b) (e2 : ∀ b s, b ≤ 404 → g'.2.2.2 b s = g.2.2.2 b s) : ts_LX g' := by
  have z := h
  obtain ⟨-, -, -, -, -, -, -, -, -, -, -, -, -, -, -, -, -, -, -, -, -, -, -, -, -, -, -, -, -, -, -, -, -, -, -, -, -, -, -, x0, x1, x2, x3, x4, x5, x6⟩ := z
  refine ⟨(e1 1 (by omega) (by omega)).1.trans h.s0, (e2 1 0 (by omega)).trans h.s1, (e2 1 1 (by omega)).trans h.s2, (e2 1 2 (by omega)).trans h.s3, (e2 1 3 (by omega)).trans h.s4, (e2 1 4 (by omega)).trans h.s5, (e2 1 5 (by omega)).trans h.s6, (e2 1 6 (by omega)).trans h.s7, (e2 1 7 (by omega)).trans h.s8, (e2 1 8 (by omega)).trans h.s9, (e1 2 (by omega) (by omega)).1.trans h.s10, (e1 2 (by omega) (by omega)).2.trans h.s11, (e1 3 (by omega) (by omega)).1.trans h.s12, (e2 3 0 (by omega)).trans h.s13, (e1 4 (by omega) (by omega)).1.trans h.s14, (e1 4 (by omega) (by omega)).2.trans h.s15, (e1 5 (by omega) (by omega)).1.trans h.s16, (e2 5 0 (by omega)).trans h.s17, (e1 6 (by omega) (by omega)).1.trans h.s18, (e1 6 (by omega) (by omega)).2.trans h.s19, (e1 7 (by omega) (by omega)).1.trans h.s20, (e1 7 (by omega) (by omega)).2.trans h.s21, (e1 8 (by omega) (by omega)).1.trans h.s22, (e1 8 (by omega) (by omega)).2.trans h.s23, (e1 9 (by omega) (by omega)).1.trans h.s24, (e1 9 (by omega) (by omega)).2.trans h.s25, (e1 311 (by omega) (by omega)).1.trans h.s26, (e2 311 0 (by omega)).trans h.s27, (e2 311 1 (by omega)).trans h.s28, (e2 311 2 (by omega)).trans h.s29, (e2 311 3 (by omega)).trans h.s30, (e2 311 4 (by omega)).trans h.s31, (e2 311 5 (by omega)).trans h.s32, (e1 312 (by omega) (by omega)).1.trans h.s33, (e1 312 (by omega) (by omega)).2.trans h.s34, (e1 313 (by omega) (by omega)).1.trans h.s35, (e1 313 (by omega) (by omega)).2.trans h.s36, (e1 314 (by omega) (by omega)).1.trans h.s37, (e1 314 (by omega) (by omega)).2.trans h.s38, fun i hi => ?_, fun i hi => ?_, fun i hi => ?_, ?_, ?_, ?_, fun i hi => ?_⟩
  · obtain ⟨a, b, c, d, e⟩ := x0 i hi
    exact ⟨(e2 _ _ (by omega)).trans a, (e1 _ (by omega) (by omega)).1.trans b, (e2 _ _ (by omega)).trans c, (e1 _ (by omega) (by omega)).1.trans d, (e1 _ (by omega) (by omega)).2.trans e⟩
  · exact ⟨(e2 _ _ (by omega)).trans (x1 i hi).1, tq_FLt (x1 i hi).2 (fun b b1 b2 => e1 b (by omega) (by omega)) (fun s => e2 _ s (by omega))⟩
  · exact ⟨(e2 _ _ (by omega)).trans (x2 i hi).1, tq_FLt (x2 i hi).2 (fun b b1 b2 => e1 b (by omega) (by omega)) (fun s => e2 _ s (by omega))⟩
  · obtain ⟨a, b, c, d, e⟩ := x3
    exact ⟨(e1 _ (by omega) (by omega)).1.trans a, (e1 _ (by omega) (by omega)).1.trans b, (e1 _ (by omega) (by omega)).1.trans c, (e1 _ (by omega) (by omega)).1.trans d, (e1 _ (by omega) (by omega)).1.trans e⟩
  · exact tq_FLt x4 (fun b b1 b2 => e1 b (by omega) (by omega)) (fun s => e2 _ s (by omega))
  · exact tq_FLt x5 (fun b b1 b2 => e1 b (by omega) (by omega)) (fun s => e2 _ s (by omega))
  · exact ⟨(e2 _ _ (by omega)).trans (x6 i hi).1, tq_FLt (x6 i hi).2 (fun b b1 b2 => e1 b (by omega) (by omega)) (fun s => e2 _ s (by omega))⟩
theorem tq_new12 {d : Nat} {g : ts_G} {hi : ts_I} {hk : ts_K} {Q : ts_Q} (N0 : tq_N 405 g hi)
    (q : ∀ g' hi' hk', ts_LM g' → (∀ b, 1 ≤ b → b ≤ 404 → g'.2.1 b = g.2.1 b ∧ g'.2.2.1 b = g.2.2.1 b) → (∀ b s, b ≤ 404 → g'.2.2.2 b s = g.2.2.2 b s) → (∀ b s, 1 ≤ b → b ≤ 420 → b ≠ 406 → hi' b s = tq_H b s) → (∀ r, r < 8 → hi' 406 r = -1000000) → (∀ b, b ≤ 405 → hk' b = hk b) → Q none g' hi' hk') : ts_Ev (d + 1) 15 1839 mX12_init [.ref 405] g hi hk Q := by
  refine ts_Ev.of plX12_init rfl (Nat.le_of_ble_eq_true rfl) ?_
  refine wX12_init_0 ?_
  have n0 := N0.1
  refine ⟨by omega, by omega, by omega, fun ga1 ea1 ha1 ei1 hk1 el1 => ?_⟩
  have A1 : tq_N 406 ga1 ha1 := N0.al ea1 ei1 rfl rfl (by omega)
  have r1 := tq_rn N0 ea1
  have z1 := tq_zk N0 el1
  refine ⟨A1.kd (by omega) (by omega), by rw [n0, A1.kd (by omega) (by omega)]; decide, fun gb1 eb1 => ?_⟩
  rw [n0] at eb1
  have N1 : tq_N 406 gb1 ha1 := A1.go eb1
  have n1 := N1.1
  have o1 := tq_ro eb1
  refine ⟨by omega, by omega, by omega, fun ga2 ea2 ha2 ei2 hk2 el2 => ?_⟩
  have A2 : tq_N 407 ga2 ha2 := N1.al ea2 ei2 rfl rfl (by omega)
  have r2 := tq_rn N1 ea2
  have z2 := tq_zk N1 el2
  refine ⟨A2.kd (by omega) (by omega), by rw [n1, A2.kd (by omega) (by omega)]; decide, fun gb2 eb2 => ?_⟩
  rw [n1] at eb2
  have N2 : tq_N 407 gb2 ha2 := A2.go eb2
  have n2 := N2.1
  have o2 := tq_ro eb2
  refine ⟨by omega, by omega, by omega, fun ga3 ea3 ha3 ei3 hk3 el3 => ?_⟩
  have A3 : tq_N 408 ga3 ha3 := N2.al ea3 ei3 rfl rfl (by omega)
  have r3 := tq_rn N2 ea3
  have z3 := tq_zk N2 el3
  refine ⟨A3.kd (by omega) (by omega), by rw [n2, A3.kd (by omega) (by omega)]; decide, fun gb3 eb3 => ?_⟩
  rw [n2] at eb3
  have N3 : tq_N 408 gb3 ha3 := A3.go eb3
  have n3 := N3.1
  have o3 := tq_ro eb3
  refine ⟨by omega, by omega, by omega, fun ga4 ea4 ha4 ei4 hk4 el4 => ?_⟩
  have A4 : tq_N 409 ga4 ha4 := N3.al ea4 ei4 rfl rfl (by omega)
  have r4 := tq_rn N3 ea4
  have z4 := tq_zk N3 el4
  refine ⟨A4.kd (by omega) (by omega), by rw [n3, A4.kd (by omega) (by omega)]; decide, fun gb4 eb4 => ?_⟩
  rw [n3] at eb4
  have N4 : tq_N 409 gb4 ha4 := A4.go eb4
  have n4 := N4.1
  have o4 := tq_ro eb4
  refine ⟨by omega, by omega, by omega, fun ga5 ea5 ha5 ei5 hk5 el5 => ?_⟩
  have A5 : tq_N 410 ga5 ha5 := N4.al ea5 ei5 rfl rfl (by omega)
  have r5 := tq_rn N4 ea5
  have z5 := tq_zk N4 el5
  refine ⟨A5.kd (by omega) (by omega), by rw [n4, A5.kd (by omega) (by omega)]; decide, fun gb5 eb5 => ?_⟩
  rw [n4] at eb5
  have N5 : tq_N 410 gb5 ha5 := A5.go eb5
  have n5 := N5.1
  have o5 := tq_ro eb5
  refine ⟨by omega, by omega, by omega, fun ga6 ea6 ha6 ei6 hk6 el6 => ?_⟩
  have A6 : tq_N 411 ga6 ha6 := N5.al ea6 ei6 rfl rfl (by omega)
  have r6 := tq_rn N5 ea6
  have z6 := tq_zk N5 el6
  refine ⟨A6.kd (by omega) (by omega), by rw [n5, A6.kd (by omega) (by omega)]; decide, fun gb6 eb6 => ?_⟩
  rw [n5] at eb6
  have N6 : tq_N 411 gb6 ha6 := A6.go eb6
  have n6 := N6.1
  have o6 := tq_ro eb6
  refine ⟨by omega, by omega, by omega, fun ga7 ea7 ha7 ei7 hk7 el7 => ?_⟩
  have A7 : tq_N 412 ga7 ha7 := N6.al ea7 ei7 rfl rfl (by omega)
  have r7 := tq_rn N6 ea7
  have z7 := tq_zk N6 el7
  refine ⟨A7.kd (by omega) (by omega), by rw [n6, A7.kd (by omega) (by omega)]; decide, fun gb7 eb7 => ?_⟩
  rw [n6] at eb7
  have N7 : tq_N 412 gb7 ha7 := A7.go eb7
  have n7 := N7.1
  have o7 := tq_ro eb7
  refine ⟨by omega, by omega, by omega, fun ga8 ea8 ha8 ei8 hk8 el8 => ?_⟩
  have A8 : tq_N 413 ga8 ha8 := N7.al ea8 ei8 rfl rfl (by omega)
  have r8 := tq_rn N7 ea8
  have z8 := tq_zk N7 el8
  refine ⟨A8.kd (by omega) (by omega), by rw [n7, A8.kd (by omega) (by omega)]; decide, fun gb8 eb8 => ?_⟩
  rw [n7] at eb8
  have N8 : tq_N 413 gb8 ha8 := A8.go eb8
  have n8 := N8.1
  have o8 := tq_ro eb8
  refine ⟨by omega, by omega, by omega, fun ga9 ea9 ha9 ei9 hk9 el9 => ?_⟩
  have A9 : tq_N 414 ga9 ha9 := N8.al ea9 ei9 rfl rfl (by omega)
  have r9 := tq_rn N8 ea9
  have z9 := tq_zk N8 el9
  refine ⟨A9.kd (by omega) (by omega), by rw [n8, A9.kd (by omega) (by omega)]; decide, fun gb9 eb9 => ?_⟩
  rw [n8] at eb9
  have N9 : tq_N 414 gb9 ha9 := A9.go eb9
  have n9 := N9.1
  have o9 := tq_ro eb9
  refine ⟨by omega, by omega, by omega, fun ga10 ea10 ha10 ei10 hk10 el10 => ?_⟩
  have A10 : tq_N 415 ga10 ha10 := N9.al ea10 ei10 rfl rfl (by omega)
  have r10 := tq_rn N9 ea10
  have z10 := tq_zk N9 el10
  refine ⟨A10.kd (by omega) (by omega), by rw [n9, A10.kd (by omega) (by omega)]; decide, fun gb10 eb10 => ?_⟩
  rw [n9] at eb10
  have N10 : tq_N 415 gb10 ha10 := A10.go eb10
  have n10 := N10.1
  have o10 := tq_ro eb10
  refine ⟨by omega, by omega, by omega, fun ga11 ea11 ha11 ei11 hk11 el11 => ?_⟩
  have A11 : tq_N 416 ga11 ha11 := N10.al ea11 ei11 rfl rfl (by omega)
  have r11 := tq_rn N10 ea11
  have z11 := tq_zk N10 el11
  refine ⟨A11.kd (by omega) (by omega), by rw [n10, A11.kd (by omega) (by omega)]; decide, fun gb11 eb11 => ?_⟩
  rw [n10] at eb11
  have N11 : tq_N 416 gb11 ha11 := A11.go eb11
  have n11 := N11.1
  have o11 := tq_ro eb11
  refine ⟨by omega, by omega, by omega, fun ga12 ea12 ha12 ei12 hk12 el12 => ?_⟩
  have A12 : tq_N 417 ga12 ha12 := N11.al ea12 ei12 rfl rfl (by omega)
  have r12 := tq_rn N11 ea12
  have z12 := tq_zk N11 el12
  refine ⟨A12.kd (by omega) (by omega), by rw [n11, A12.kd (by omega) (by omega)]; decide, fun gb12 eb12 => ?_⟩
  rw [n11] at eb12
  have N12 : tq_N 417 gb12 ha12 := A12.go eb12
  have n12 := N12.1
  have o12 := tq_ro eb12
  refine ⟨by omega, by omega, by omega, fun ga13 ea13 ha13 ei13 hk13 el13 => ?_⟩
  have A13 : tq_N 418 ga13 ha13 := N12.al ea13 ei13 rfl rfl (by omega)
  have r13 := tq_rn N12 ea13
  have z13 := tq_zk N12 el13
  refine ⟨A13.kd (by omega) (by omega), by rw [n12, A13.kd (by omega) (by omega)]; decide, fun gb13 eb13 => ?_⟩
  rw [n12] at eb13
  have N13 : tq_N 418 gb13 ha13 := A13.go eb13
  have n13 := N13.1
  have o13 := tq_ro eb13
  refine ⟨by omega, by omega, by omega, fun ga14 ea14 ha14 ei14 hk14 el14 => ?_⟩
  have A14 : tq_N 419 ga14 ha14 := N13.al ea14 ei14 rfl rfl (by omega)
  have r14 := tq_rn N13 ea14
  have z14 := tq_zk N13 el14
  refine ⟨A14.kd (by omega) (by omega), by rw [n13, A14.kd (by omega) (by omega)]; decide, fun gb14 eb14 => ?_⟩
  rw [n13] at eb14
  have N14 : tq_N 419 gb14 ha14 := A14.go eb14
  have n14 := N14.1
  have o14 := tq_ro eb14
  refine ⟨by omega, by omega, by omega, fun ga15 ea15 ha15 ei15 hk15 el15 => ?_⟩
  have A15 : tq_N 420 ga15 ha15 := N14.al ea15 ei15 rfl rfl (by omega)
  have r15 := tq_rn N14 ea15
  have z15 := tq_zk N14 el15
  refine ⟨A15.kd (by omega) (by omega), by rw [n14, A15.kd (by omega) (by omega)]; decide, fun gb15 eb15 => ?_⟩
  rw [n14] at eb15
  have N15 : tq_N 420 gb15 ha15 := A15.go eb15
  have n15 := N15.1
  have o15 := tq_ro eb15
  have R : ts_LM gb15 := by
    refine ⟨N15.kd (by omega) (by omega), ⟨by rw [o15.2 405 0 (by omega), r15 405 0 (by omega), o14.2 405 0 (by omega), r14 405 0 (by omega), o13.2 405 0 (by omega), r13 405 0 (by omega), o12.2 405 0 (by omega), r12 405 0 (by omega), o11.2 405 0 (by omega), r11 405 0 (by omega), o10.2 405 0 (by omega), r10 405 0 (by omega), o9.2 405 0 (by omega), r9 405 0 (by omega), o8.2 405 0 (by omega), r8 405 0 (by omega), o7.2 405 0 (by omega), r7 405 0 (by omega), o6.2 405 0 (by omega), r6 405 0 (by omega), o5.2 405 0 (by omega), r5 405 0 (by omega), o4.2 405 0 (by omega), r4 405 0 (by omega), o3.2 405 0 (by omega), r3 405 0 (by omega), o2.2 405 0 (by omega), r2 405 0 (by omega), o1.1], N15.kd (by omega) (by omega), N15.ln (by omega) (by omega)⟩, ⟨by rw [o15.2 405 1 (by omega), r15 405 1 (by omega), o14.2 405 1 (by omega), r14 405 1 (by omega), o13.2 405 1 (by omega), r13 405 1 (by omega), o12.2 405 1 (by omega), r12 405 1 (by omega), o11.2 405 1 (by omega), r11 405 1 (by omega), o10.2 405 1 (by omega), r10 405 1 (by omega), o9.2 405 1 (by omega), r9 405 1 (by omega), o8.2 405 1 (by omega), r8 405 1 (by omega), o7.2 405 1 (by omega), r7 405 1 (by omega), o6.2 405 1 (by omega), r6 405 1 (by omega), o5.2 405 1 (by omega), r5 405 1 (by omega), o4.2 405 1 (by omega), r4 405 1 (by omega), o3.2 405 1 (by omega), r3 405 1 (by omega), o2.1], N15.kd (by omega) (by omega), N15.ln (by omega) (by omega)⟩, ⟨by rw [o15.2 405 2 (by omega), r15 405 2 (by omega), o14.2 405 2 (by omega), r14 405 2 (by omega), o13.2 405 2 (by omega), r13 405 2 (by omega), o12.2 405 2 (by omega), r12 405 2 (by omega), o11.2 405 2 (by omega), r11 405 2 (by omega), o10.2 405 2 (by omega), r10 405 2 (by omega), o9.2 405 2 (by omega), r9 405 2 (by omega), o8.2 405 2 (by omega), r8 405 2 (by omega), o7.2 405 2 (by omega), r7 405 2 (by omega), o6.2 405 2 (by omega), r6 405 2 (by omega), o5.2 405 2 (by omega), r5 405 2 (by omega), o4.2 405 2 (by omega), r4 405 2 (by omega), o3.1], N15.kd (by omega) (by omega), N15.ln (by omega) (by omega)⟩, ⟨by rw [o15.2 405 3 (by omega), r15 405 3 (by omega), o14.2 405 3 (by omega), r14 405 3 (by omega), o13.2 405 3 (by omega), r13 405 3 (by omega), o12.2 405 3 (by omega), r12 405 3 (by omega), o11.2 405 3 (by omega), r11 405 3 (by omega), o10.2 405 3 (by omega), r10 405 3 (by omega), o9.2 405 3 (by omega), r9 405 3 (by omega), o8.2 405 3 (by omega), r8 405 3 (by omega), o7.2 405 3 (by omega), r7 405 3 (by omega), o6.2 405 3 (by omega), r6 405 3 (by omega), o5.2 405 3 (by omega), r5 405 3 (by omega), o4.1], N15.kd (by omega) (by omega), N15.ln (by omega) (by omega)⟩, ⟨by rw [o15.2 405 5 (by omega), r15 405 5 (by omega), o14.2 405 5 (by omega), r14 405 5 (by omega), o13.2 405 5 (by omega), r13 405 5 (by omega), o12.2 405 5 (by omega), r12 405 5 (by omega), o11.2 405 5 (by omega), r11 405 5 (by omega), o10.2 405 5 (by omega), r10 405 5 (by omega), o9.2 405 5 (by omega), r9 405 5 (by omega), o8.2 405 5 (by omega), r8 405 5 (by omega), o7.2 405 5 (by omega), r7 405 5 (by omega), o6.2 405 5 (by omega), r6 405 5 (by omega), o5.1], N15.kd (by omega) (by omega), N15.ln (by omega) (by omega)⟩, ⟨by rw [o15.2 405 13 (by omega), r15 405 13 (by omega), o14.2 405 13 (by omega), r14 405 13 (by omega), o13.2 405 13 (by omega), r13 405 13 (by omega), o12.2 405 13 (by omega), r12 405 13 (by omega), o11.2 405 13 (by omega), r11 405 13 (by omega), o10.2 405 13 (by omega), r10 405 13 (by omega), o9.2 405 13 (by omega), r9 405 13 (by omega), o8.2 405 13 (by omega), r8 405 13 (by omega), o7.2 405 13 (by omega), r7 405 13 (by omega), o6.1], N15.kd (by omega) (by omega), N15.ln (by omega) (by omega)⟩, ⟨by rw [o15.2 405 14 (by omega), r15 405 14 (by omega), o14.2 405 14 (by omega), r14 405 14 (by omega), o13.2 405 14 (by omega), r13 405 14 (by omega), o12.2 405 14 (by omega), r12 405 14 (by omega), o11.2 405 14 (by omega), r11 405 14 (by omega), o10.2 405 14 (by omega), r10 405 14 (by omega), o9.2 405 14 (by omega), r9 405 14 (by omega), o8.2 405 14 (by omega), r8 405 14 (by omega), o7.1], N15.kd (by omega) (by omega), N15.ln (by omega) (by omega)⟩, ⟨by rw [o15.2 405 15 (by omega), r15 405 15 (by omega), o14.2 405 15 (by omega), r14 405 15 (by omega), o13.2 405 15 (by omega), r13 405 15 (by omega), o12.2 405 15 (by omega), r12 405 15 (by omega), o11.2 405 15 (by omega), r11 405 15 (by omega), o10.2 405 15 (by omega), r10 405 15 (by omega), o9.2 405 15 (by omega), r9 405 15 (by omega), o8.1], N15.kd (by omega) (by omega), N15.ln (by omega) (by omega)⟩, ⟨by rw [o15.2 405 16 (by omega), r15 405 16 (by omega), o14.2 405 16 (by omega), r14 405 16 (by omega), o13.2 405 16 (by omega), r13 405 16 (by omega), o12.2 405 16 (by omega), r12 405 16 (by omega), o11.2 405 16 (by omega), r11 405 16 (by omega), o10.2 405 16 (by omega), r10 405 16 (by omega), o9.1], N15.kd (by omega) (by omega), N15.ln (by omega) (by omega)⟩, ⟨by rw [o15.2 405 18 (by omega), r15 405 18 (by omega), o14.2 405 18 (by omega), r14 405 18 (by omega), o13.2 405 18 (by omega), r13 405 18 (by omega), o12.2 405 18 (by omega), r12 405 18 (by omega), o11.2 405 18 (by omega), r11 405 18 (by omega), o10.1], N15.kd (by omega) (by omega), N15.ln (by omega) (by omega)⟩, ⟨by rw [o15.2 405 19 (by omega), r15 405 19 (by omega), o14.2 405 19 (by omega), r14 405 19 (by omega), o13.2 405 19 (by omega), r13 405 19 (by omega), o12.2 405 19 (by omega), r12 405 19 (by omega), o11.1], N15.kd (by omega) (by omega), N15.ln (by omega) (by omega)⟩, ⟨by rw [o15.2 405 20 (by omega), r15 405 20 (by omega), o14.2 405 20 (by omega), r14 405 20 (by omega), o13.2 405 20 (by omega), r13 405 20 (by omega), o12.1], N15.kd (by omega) (by omega), N15.ln (by omega) (by omega)⟩, ⟨by rw [o15.2 405 21 (by omega), r15 405 21 (by omega), o14.2 405 21 (by omega), r14 405 21 (by omega), o13.1], N15.kd (by omega) (by omega), N15.ln (by omega) (by omega)⟩, ⟨by rw [o15.2 405 22 (by omega), r15 405 22 (by omega), o14.1], N15.kd (by omega) (by omega), N15.ln (by omega) (by omega)⟩, ⟨by rw [o15.1], N15.kd (by omega) (by omega), N15.ln (by omega) (by omega)⟩⟩
  have U : ∀ b s, b ≤ 404 → gb15.2.2.2 b s = g.2.2.2 b s := fun b s hb => by
    rw [o15.2 b s (by omega), r15 b s (by omega), o14.2 b s (by omega), r14 b s (by omega), o13.2 b s (by omega), r13 b s (by omega), o12.2 b s (by omega), r12 b s (by omega), o11.2 b s (by omega), r11 b s (by omega), o10.2 b s (by omega), r10 b s (by omega), o9.2 b s (by omega), r9 b s (by omega), o8.2 b s (by omega), r8 b s (by omega), o7.2 b s (by omega), r7 b s (by omega), o6.2 b s (by omega), r6 b s (by omega), o5.2 b s (by omega), r5 b s (by omega), o4.2 b s (by omega), r4 b s (by omega), o3.2 b s (by omega), r3 b s (by omega), o2.2 b s (by omega), r2 b s (by omega), o1.2 b s (by omega), r1 b s (by omega)]
  have Z : ∀ b, b ≤ 405 → hk15 b = hk b := fun b hb => by
    rw [z15 b (by omega), z14 b (by omega), z13 b (by omega), z12 b (by omega), z11 b (by omega), z10 b (by omega), z9 b (by omega), z8 b (by omega), z7 b (by omega), z6 b (by omega), z5 b (by omega), z4 b (by omega), z3 b (by omega), z2 b (by omega), z1 b (by omega)]
  have K : ∀ b, 1 ≤ b → b ≤ 404 → gb15.2.1 b = g.2.1 b ∧ gb15.2.2.1 b = g.2.2.1 b := fun b h1 h2 => ⟨by rw [N15.kd h1 (by omega), N0.kd h1 (by omega)], by rw [N15.ln h1 (by omega), N0.ln h1 (by omega)]⟩
  have L : ∀ n t hi', t + n = 8 → (∀ s, s < t → hi' 406 s = -1000000) → (∀ b, b ≠ 406 → hi' b = ha15 b) → ts_JJ (d + 1) 15 1839 mX12_init none g.1 Q 15 1839 127 [(0, .ref 405), (1, .int (nI t))] [] gb15 hi' hk15 := by
    intro n
    induction n with
    | zero =>
      intro t hi' htn hI hO
      refine wX12_init_127 ?_
      rw [ts_l8, ts_le (by omega) (by omega)]
      exact ⟨fun _ => ⟨by omega, by omega, q gb15 hi' hk15 R K U (fun b s h1 h2 h3 => by rw [hO b h3]; exact N15.hv h1 h2) (fun s hs => hI s (by omega)) Z⟩, fun c => absurd (by omega) c⟩
    | succ n ih =>
      intro t hi' htn hI hO
      refine wX12_init_127 ?_
      rw [ts_l8, ts_le (by omega) (by omega), R.o0, R.k0, R.l0, ts_cl (by omega), ts_l1, nI_add]
      refine ⟨fun c => absurd c (by omega), fun _ => ⟨R.kd, by omega, trivial, ts_vin (by omega) (by omega), fun hi8 x8 => ih (t + 1) hi8 (by omega) (fun s hs => ?_) (fun b hb => by rw [x8]; funext s; rw [ts_up_a hb]; exact congrFun (hO b hb) s)⟩⟩
      by_cases e : s = t
      · rw [x8, e, ts_up_eq]
      · rw [x8, ts_up_s e]
        exact hI s (by omega)
  exact L 8 0 ha15 (by omega) (fun s hs => by omega) (fun b hb => rfl)
