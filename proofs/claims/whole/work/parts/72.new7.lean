/-! the seer's constructor -/
theorem tq_new7 {d : Nat} {g : ts_G} {hi : ts_I} {hk : ts_K} {Q : ts_Q} (N0 : tq_N 311 g hi) (hk7 : hk 7 1 = 10)
    (q : ∀ g' hi' hk', tq_N 404 g' hi' → g'.2.2.2 311 0 = 291 ∧ g'.2.2.2 311 1 = 7 ∧ g'.2.2.2 311 2 = 312 ∧ g'.2.2.2 311 3 = 395 ∧ g'.2.2.2 311 4 = 313 ∧ g'.2.2.2 311 5 = 314 → (∀ i, i < 9 → g'.2.2.2 312 i = 315 + 10 * i ∧ ts_FL g' (315 + 10 * i)) → (∀ b s, b < 311 → g'.2.2.2 b s = g.2.2.2 b s) → (∀ b, b ≤ 311 → hk' b = hk b) → (∀ i, i < 9 → ∀ t, t < 7 → hk' (315 + 10 * i + 1) t = 10) → Q none g' hi' hk') : ts_Ev (d + 2) 93 707 mX7_init [.ref 311, .ref 291, .ref 7] g hi hk Q := by
  refine ts_Ev.of plX7_init rfl (Nat.le_of_ble_eq_true rfl) ?_
  refine wX7_init_0 ?_
  have n0 := N0.1
  refine tq_st2 (n' := 312) (s := 2) N0 rfl (by decide) (by decide) (by decide) (by decide) (by decide) (by decide) rfl rfl (by decide) rfl (by decide) (fun g2 hi1 hk1 N1 r1 o1 z1 => ?_)
  refine tq_st2 (n' := 313) (s := 4) N1 rfl (by decide) (by decide) (by decide) (by decide) (by decide) (by decide) rfl rfl (by decide) rfl (by decide) (fun g4 hi3 hk3 N2 r2 o2 z2 => ?_)
  refine tq_st2 (n' := 314) (s := 5) N2 rfl (by decide) (by decide) (by decide) (by decide) (by decide) (by decide) rfl rfl (by decide) rfl (by decide) (fun g6 hi5 hk5 N3 r3 o3 z3 => ?_)
  refine ⟨N3.kd (by omega) (by omega), by rw [N3.kd (by omega) (by omega)]; decide, fun g7 e7 => ?_⟩
  have N4 := N3.go e7
  have o4 := tq_ro e7
  refine ⟨N4.kd (by omega) (by omega), by rw [N4.kd (by omega) (by omega)]; decide, fun g8 e8 => ?_⟩
  have N5 := N4.go e8
  have o5 := tq_ro e8
  have R0 : g8.2.2.2 311 0 = 291 := by rw [o5.2 311 0 (by omega), o4.1]
  have R1 : g8.2.2.2 311 1 = 7 := o5.1
  have R2 : g8.2.2.2 311 2 = 312 := by rw [o5.2 311 2 (by omega), o4.2 311 2 (by omega), o3 311 2 (by omega) (by omega), o2 311 2 (by omega) (by omega), r1]
  have R4 : g8.2.2.2 311 4 = 313 := by rw [o5.2 311 4 (by omega), o4.2 311 4 (by omega), o3 311 4 (by omega) (by omega), r2]
  have R5 : g8.2.2.2 311 5 = 314 := by rw [o5.2 311 5 (by omega), o4.2 311 5 (by omega), r3]
  have U : ∀ b s, b < 311 → g8.2.2.2 b s = g.2.2.2 b s := fun b s hb => by
    rw [o5.2 b s (by omega), o4.2 b s (by omega), o3 b s (by omega) (by omega), o2 b s (by omega) (by omega), o1 b s (by omega) (by omega)]
  have Z : ∀ b, b ≤ 311 → hk5 b = hk b := fun b hb => by
    rw [z3 b (by omega), z2 b (by omega), z1 b hb]
  have L : ∀ n i k j g' hi' hk', i + n = 9 → k = 3 + 10 * i → j = 23 + 76 * i → tq_N (314 + 10 * i) g' hi' → (g'.2.2.2 311 0 = 291 ∧ g'.2.2.2 311 1 = 7 ∧ g'.2.2.2 311 2 = 312 ∧ g'.2.2.2 311 4 = 313 ∧ g'.2.2.2 311 5 = 314) → (∀ r, r < i → g'.2.2.2 312 r = 315 + 10 * r ∧ ∀ s, s ≤ 8 → g'.2.2.2 (315 + 10 * r) s = 315 + 10 * r + 1 + s) → (∀ b s, b < 311 → g'.2.2.2 b s = g.2.2.2 b s) → (∀ b, b ≤ 311 → hk' b = hk b) → (∀ r, r < i → ∀ t, t < 7 → hk' (315 + 10 * r + 1) t = 10) → ts_JJ (d + 2) 93 707 mX7_init none g.1 Q k j 41 [(0, .ref 311), (2, .ref 7), (3, .int (nI i))] [] g' hi' hk' := by
    intro n
    induction n with
    | zero =>
      intro i k j g' hi' hk' hin hkk hjj N hR hA hU hZ hV
      have i9 : i = 9 := by omega
      subst i9
      refine wX7_init_41 ?_
      have c8 : (8 : Int32).toNatClampNeg = 8 := rfl
      have v8 : vp_in (8 : Int32) 9 := by rw [ts_l8]; exact ts_vin (by omega) (by omega)
      rw [ts_l8, ts_lt (by omega) (by omega), ← ts_l8, c8, hR.2.2.1, (hA 8 (by omega)).1]
      refine ⟨fun _ => ⟨N.kd (by omega) (by omega), by omega, N.kd (by omega) (by omega), by rw [N.ln (by omega) (by omega)]; exact v8, by omega, by rw [N.kd (by omega) (by omega)]; decide, fun g8 e8 => ⟨by omega, by omega, ?_⟩⟩, fun c => absurd (by omega) c⟩
      have o := tq_ro e8
      have N' := N.go e8
      refine q g8 hi' hk' N' ⟨by rw [o.2 311 0 (by omega)]; exact hR.1, by rw [o.2 311 1 (by omega)]; exact hR.2.1, by rw [o.2 311 2 (by omega)]; exact hR.2.2.1, by rw [o.1], by rw [o.2 311 4 (by omega)]; exact hR.2.2.2.1, by rw [o.2 311 5 (by omega)]; exact hR.2.2.2.2⟩ (fun r hr => ⟨by rw [o.2 312 r (by omega)]; exact (hA r hr).1, tq_FL (tq_Fb hr) N' (by omega) (fun s hs => by rw [o.2 _ s (by omega)]; exact (hA r hr).2 s hs)⟩) (fun b s hb => by rw [o.2 b s (by omega)]; exact hU b s hb) hZ hV
    | succ n ih =>
      intro i k j g' hi' hk' hin hkk hjj N hR hA hU hZ hV
      have i9 : i < 9 := by omega
      have hn := N.1
      refine wX7_init_41 ?_
      rw [ts_l8, ts_lt (by omega) (by omega), hR.2.2.1, hn]
      refine ⟨fun c => absurd c (by omega), fun _ => ⟨N.kd (by omega) (by omega), by omega, by omega, by omega, by omega, by omega, by omega, fun g18 e18 hi19 e19 hk20 e20 => ?_⟩⟩
      have hF := tq_Fb i9
      have ek : 314 + 10 * i + 1 = 315 + 10 * i := by omega
      rw [ek] at e19 e20 ⊢
      have A : tq_N (314 + 10 * i + 1) g18 hi19 := N.al e18 (by rw [hn, ek]; exact e19) (by rw [ek]; exact hF.2.1) (by rw [ek]; unfold tq_L; rw [if_neg (by omega), if_neg (by omega), if_neg (by omega), if_neg (by omega), if_pos (by omega), if_pos (by omega)]) (by omega)
      rw [ek] at A
      have rr := tq_rn N e18
      have zz := tq_zk (hk := hk') (hk6 := hk20) N (by rw [hn, ek]; exact e20)
      have h71 : hk20 7 1 = 10 := by rw [zz 7 (by omega), hZ 7 (by omega)]; exact hk7
      have c1 : (1 : Int32).toNatClampNeg = 1 := rfl
      rw [c1, h71, ts_cl (by omega)]
      refine ⟨A.kd (by omega) (by omega), by rw [A.ln (by omega) (by omega), ts_l1]; exact ts_vin (by decide) (by decide), by omega, by rw [A.1]; omega, by rw [A.1]; omega, by rw [A.1]; omega, by rw [A.1]; omega, by omega, by omega, tq_new1 hF A (by omega) (by omega) (by decide) (fun g30 hi31 hk32 N30 R30 U30 Z30 V30 => ⟨rfl, ?_⟩)⟩
      refine ⟨N30.kd (by omega) (by omega), by rw [N30.ln (by omega) (by omega)]; exact (ts_vin (by omega) (by omega) : vp_in (nI i) 9), by rw [N30.kd (by omega) (by omega)]; exact hF.2.1, fun g36 e36 => ?_⟩
      have o := tq_ro e36
      rw [ts_l1, nI_add]
      have old : ∀ b s, b < 315 + 10 * i → (b ≠ 312 ∨ s ≠ i) → g36.2.2.2 b s = g'.2.2.2 b s := fun b s hb hc => by rw [o.2 b s hc, U30 b s hb, rr b s (by omega)]
      have oldk : ∀ b, b ≤ 314 + 10 * i → hk32 b = hk' b := fun b hb => by rw [Z30 b (by omega), zz b hb]
      refine ih (i + 1) _ _ g36 hi31 hk32 (by omega) (by omega) (by omega) ?_ ⟨by rw [old 311 0 (by omega) (by omega)]; exact hR.1, by rw [old 311 1 (by omega) (by omega)]; exact hR.2.1, by rw [old 311 2 (by omega) (by omega)]; exact hR.2.2.1, by rw [old 311 4 (by omega) (by omega)]; exact hR.2.2.2.1, by rw [old 311 5 (by omega) (by omega)]; exact hR.2.2.2.2⟩ (fun r hr => ?_) (fun b s hb => by rw [old b s (by omega) (by omega)]; exact hU b s hb) (fun b hb => by rw [oldk b (by omega)]; exact hZ b hb) (fun r hr t ht => ?_)
      · rw [show 314 + 10 * (i + 1) = 315 + 10 * i + 9 by omega]
        exact N30.go e36
      · by_cases c : r = i
        · subst c
          exact ⟨o.1, fun s hs => by rw [o.2 _ s (by omega)]; exact R30 s hs⟩
        · exact ⟨by rw [old 312 r (by omega) (by omega)]; exact (hA r (by omega)).1, fun s hs => by rw [old _ s (by omega) (by omega)]; exact (hA r (by omega)).2 s hs⟩
      · by_cases c : r = i
        · subst c
          exact V30 t ht
        · rw [oldk _ (by omega)]
          exact hV r (by omega) t ht
  exact L 9 0 _ _ g8 hi5 hk5 (by omega) rfl rfl N5 ⟨R0, R1, R2, R4, R5⟩ (fun r hr => by omega) U Z (fun r hr => by omega)
