/-! the law from its entry; what the tables say of the classes -/
theorem ts_law0 {L : Nat} {xs : Nat → Int32} {Q : ts_Q} {g : ts_G} {hi : ts_I} {hk : ts_K} (hL : L ≤ 384) (hQ : ∀ g hi hk, Q (some (.int 1)) g hi hk) (hg : g.1 = 0) : ts_JJ 26 600000 7302250 mL_law (some (L, xs)) 0 Q 0 0 0 [(0, .ref 0)] [] g hi hk := by
  have N0 : tq_N 0 g hi := ⟨hg, fun b h1 h2 => by omega⟩
  refine wL_law_0 (d := 25) ⟨by omega, by omega, by omega, fun g4 e4 hi5 e5 hk6 e6 => ?_⟩
  have A : tq_N 1 g4 hi5 := N0.al e4 e5 rfl rfl (by omega)
  have a1 := A.1
  rw [hg]
  simp only [Nat.reduceAdd]
  refine ⟨by omega, by omega, by omega, by omega, tq_new11 (d := 21) A (fun g11 hi12 hk13 hLX N hKA h1 h2 => ⟨rfl, ?_⟩)⟩
  have n11 := N.1
  refine ⟨by omega, by omega, by omega, by omega, fun g18 e18 hi19 e19 hk20 e20 => ?_⟩
  have B : tq_N 405 g18 hi19 := N.al e18 e19 rfl rfl (by omega)
  have b1 := B.1
  have rr := tq_rn N e18
  have zz := tq_zk N e20
  rw [n11]
  simp only [Nat.reduceAdd]
  refine ⟨by omega, by omega, by omega, by omega, by omega, tq_new12 (d := 24) B (fun g26 hi27 hk28 hM f1 f2 f3 f4 f5 => ⟨rfl, ?_⟩)⟩
  have hX : ts_LX g26 := tq_LXt hLX (fun b h1 h2 => ⟨by rw [(f1 b h1 h2).1, B.kd h1 (by omega), N.kd h1 h2], by rw [(f1 b h1 h2).2, B.ln h1 (by omega), N.ln h1 h2]⟩) (fun b s hb => by rw [f2 b s hb, rr b s hb])
  have hkk : ∀ b, b ≤ 404 → hk28 b = hk13 b := fun b hb => by rw [f5 b (by omega), zz b hb]
  exact ts_calls (d := 0) hX hM hL (by omega) (by omega) (fun hi hk => hQ _ hi hk) L 0 ts_S0 hi27 hk28 (by omega) (by omega) ts_SV0 (ts_XI0 (fun b s b1 b2 => f3 b s b1 (by omega) (by omega)) (hKA.of (hkk 7 (by omega))) (fun j hj t ht => by rw [hkk _ (by omega)]; exact h1 j hj t ht) (fun j hj t ht => by rw [hkk _ (by omega)]; exact h2 j hj t ht)) (ts_MI0 (fun b s b1 b2 b3 => by rw [f3 b s (by omega) b2 b3, tq_H0 (by omega)]) f4)

theorem ts_KK0 {b : Nat} {s : State} (hts : ∀ w ∈ lw_tbl, w.before #[Value.ref b] s = true) (hgv : (Jvm.Cond.and given_1 narrow_1).before #[Value.ref b] s = true) : ∃ (D : va_G) (ty : Nat → ClassId), ts_KK D ty s := by
  obtain ⟨c0, i0, k0⟩ := u_known (C := RX0) (T := TX0) (N := 1) (n := 1) hts inX0 (hts (.instantiable RX0 1) (by decide +kernel))
  obtain ⟨c1, i1, k1⟩ := u_known (C := RX1) (T := TX1) (N := 13) (n := 13) hts inX1 (hts (.instantiable RX1 13) (by decide +kernel))
  obtain ⟨c2, i2, k2⟩ := u_known (C := RX3) (T := TX3) (N := 1) (n := 1) hts inX3 (hts (.instantiable RX3 1) (by decide +kernel))
  obtain ⟨c3, i3, k3⟩ := u_known (C := RX4) (T := TX4) (N := 1) (n := 1) hts inX4 (hts (.instantiable RX4 1) (by decide +kernel))
  obtain ⟨c4, i4, k4⟩ := u_known (C := RX5) (T := TX5) (N := 1) (n := 1) hts inX5 (hts (.instantiable RX5 1) (by decide +kernel))
  obtain ⟨c5, i5, k5⟩ := u_known (C := RX6) (T := TX6) (N := 4) (n := 4) hts inX6 (hts (.instantiable RX6 4) (by decide +kernel))
  obtain ⟨c6, i6, k6⟩ := u_known (C := RX7) (T := TX7) (N := 8) (n := 8) hts inX7 (hts (.instantiable RX7 8) (by decide +kernel))
  obtain ⟨c7, i7, k7⟩ := u_known (C := RX8) (T := TX8) (N := 1) (n := 1) hts inX8 (hts (.instantiable RX8 1) (by decide +kernel))
  obtain ⟨c8, i8, k8⟩ := u_known (C := RX9) (T := TX9) (N := 5) (n := 5) hts inX9 (hts (.instantiable RX9 5) (by decide +kernel))
  obtain ⟨c9, i9, k9⟩ := u_known (C := RX10) (T := TX10) (N := 2) (n := 2) hts inX10 (hts (.instantiable RX10 2) (by decide +kernel))
  obtain ⟨c10, i10, k10⟩ := u_known (C := RX11) (T := TX11) (N := 13) (n := 13) hts inX11 (hts (.instantiable RX11 13) (by decide +kernel))
  obtain ⟨c11, i11, k11⟩ := u_known (C := RX12) (T := TX12) (N := 25) (n := 25) hts inX12 (hts (.instantiable RX12 25) (by decide +kernel))
  obtain ⟨dC, dI, hKc⟩ : ∃ (dC : Nat → ClassId) (dI : Nat → Nat → Nat), ∀ (k : Nat) (q : vw_C), vwCl[k]? = some q → u_Kn s q.1 q.2.1 q.2.2 (dC k) (dI k) := by
    refine ⟨fun k => if k = 0 then c0 else if k = 1 then c1 else if k = 2 then c2 else if k = 3 then c3 else if k = 4 then c4 else if k = 5 then c5 else if k = 6 then c6 else if k = 7 then c7 else if k = 8 then c8 else if k = 9 then c9 else if k = 10 then c10 else c11, fun k => if k = 0 then i0 else if k = 1 then i1 else if k = 2 then i2 else if k = 3 then i3 else if k = 4 then i4 else if k = 5 then i5 else if k = 6 then i6 else if k = 7 then i7 else if k = 8 then i8 else if k = 9 then i9 else if k = 10 then i10 else i11, ?_⟩
    intro k q hq
    match k, hq with
    | 0, hq => cases hq; exact k0
    | 1, hq => cases hq; exact k1
    | 2, hq => cases hq; exact k2
    | 3, hq => cases hq; exact k3
    | 4, hq => cases hq; exact k4
    | 5, hq => cases hq; exact k5
    | 6, hq => cases hq; exact k6
    | 7, hq => cases hq; exact k7
    | 8, hq => cases hq; exact k8
    | 9, hq => cases hq; exact k9
    | 10, hq => cases hq; exact k10
    | 11, hq => cases hq; exact k11
    | k + 12, hq => simp [vwCl] at hq
  have hs := flat_of_before _ hgv
  obtain ⟨a0, ka0, p0, u1, u2, u3⟩ := Cond.arrayClass_spec (hts (.arrayClass .int) (by decide +kernel))
  obtain ⟨a1, ka1, p1, v1, v2, v3⟩ := Cond.arrayClass_spec (hts (.arrayClass .boolean) (by decide +kernel))
  obtain ⟨p2, a2, ka2, w1, -, w3, w4, w5⟩ := Cond.arrayOver_spec (hts (.arrayOver (.object RX6)) (by decide +kernel))
  obtain ⟨p3, a3, ka3, x1, -, x3, x4, x5⟩ := Cond.arrayOver_spec (hts (.arrayOver (.object RX2)) (by decide +kernel))
  obtain ⟨p4, a4, ka4, y1, -, y3, y4, y5⟩ := Cond.arrayOver_spec (hts (.arrayOver (.object RX1)) (by decide +kernel))
  refine ⟨(dC, dI), fun k => if k = 0 then a0 else if k = 1 then a1 else if k = 2 then a2 else if k = 3 then a3 else a4, ⟨hKc, fun k q hq => ?_⟩, fun q hq => ?_, fun q hq => ?_, fun q hq => ?_, fun C hC => ?_, ?_⟩
  · match k, hq with
    | 0, hq => cases hq; exact ⟨fun n z => ⟨(fun k h => by cases h), ka0, u2, p0, u3⟩, u1⟩
    | 1, hq => cases hq; exact ⟨fun n z => ⟨(fun k h => by cases h), ka1, v2, p1, v3⟩, v1⟩
    | 2, hq => cases hq; exact ⟨fun n z => ⟨(fun k h => by cases h), ka2, w3, p2, w4⟩, ka2, p2, w3, w4, w1, w5⟩
    | 3, hq => cases hq; exact ⟨fun n z => ⟨(fun k h => by cases h), ka3, x3, p3, x4⟩, ka3, p3, x3, x4, x1, x5⟩
    | 4, hq => cases hq; exact ⟨fun n z => ⟨(fun k h => by cases h), ka4, y3, p4, y4⟩, ka4, p4, y3, y4, y1, y5⟩
    | k + 5, hq => simp [ts_ty] at hq
  · exact va_Nw.of rfl (hts _ ((by decide +kernel : ∀ q ∈ ts_cas, Cond.castable q.1 q.2 ∈ lw_tbl) q hq))
  · refine va_Nc.of (args := #[Value.ref b]) (hs _ ?_)
    exact (by decide +kernel : ∀ q ∈ ts_nca, Cond.not (.castable q.1 q.2) ∈ flatC (Jvm.Cond.and given_1 narrow_1)) q hq
  · exact va_Nw.of rfl (hts _ ((by decide +kernel : ∀ q ∈ ts_nst, Cond.methodLinkNest q.1 q.2.1 q.2.2.1 q.2.2.2 ∈ lw_tbl) q hq))
  · exact va_AO.of (A := #[Value.ref b]) (hts _ ((by decide +kernel : ∀ C ∈ [RX1, RX2, RX6], Cond.arrayOver (.object C) ∈ lw_tbl) C hC))
  · exact va_Nw.of rfl (hts _ (by decide +kernel))
