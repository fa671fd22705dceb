/-! turnip, count, as -/
def ts_s_turnip (S : ts_S) (a1 a2 : Int32) : Int32 × ts_S :=
  (if ts_T S.A a1 ∧ 0 ≤ a2 ∧ a2 ≤ 5 then
    if a2 = 0 then nI (S.A 1 a1.toNatClampNeg) else if a2 = 1 then nI (S.A 2 a1.toNatClampNeg) else if a2 = 2 then nI (S.A 5 a1.toNatClampNeg) else if a2 = 3 then nI (S.A 3 a1.toNatClampNeg) else if a2 = 4 then ts_nN (S.A 4 a1.toNatClampNeg) else nI (ts_ga S.A (ts_fr S.A) a1.toNatClampNeg)
  else -1000001, S)
theorem x_turnip {d : Nat} {g : ts_G} {S : ts_S} {a1 a2 : Int32} {hi : ts_I} {hk : ts_K} {Q : Int32 → ts_I → ts_K → Prop} (hX : ts_LX g) (hS : ts_SV S) (h : ts_XI S hi hk) (q : ts_QX (ts_s_turnip S a1 a2) hi Q) : ts_E0 (d + 25) mX11_turnip [.ref 1, .int a1, .int a2] g hi hk (ts_qi Q) := by
  refine ts_E0.of plX11_turnip rfl (Nat.le_of_ble_eq_true rfl) ?_
  refine wX11_turnip_0 ?_
  unfold ts_s_turnip at q
  refine ⟨hX.s0, c_XisTurnip hX h.1 (fun h1 => ⟨fun _ => ?_, fun e => absurd (by decide) e⟩) (fun n1 => ⟨fun e => absurd rfl e, fun _ => ?_⟩)⟩
  · have hok := hS.1.1
    obtain ⟨t, ht, rfl⟩ := h1.get hok.1
    have hc := hok.1
    have hF := hX.now
    have hR := h.1.2.2.2.2 t ht
    have hm := (hok.2.2.2.2 t ht).2.2.2.2.1
    simp only [ts_LX.s0 hX, ts_LX.s1 hX, ts_LX.s2 hX, ts_LX.s3 hX, ts_LX.s4 hX, ts_LX.s5 hX, ts_LX.s6 hX, ts_LX.s7 hX, ts_LX.s8 hX, ts_LX.s9 hX, ts_LX.s10 hX, ts_LX.s11 hX, ts_LX.s12 hX, ts_LX.s13 hX, ts_LX.s14 hX, ts_LX.s15 hX, ts_LX.s16 hX, ts_LX.s17 hX, ts_LX.s18 hX, ts_LX.s19 hX, ts_LX.s20 hX, ts_LX.s21 hX, ts_LX.s22 hX, ts_LX.s23 hX, ts_LX.s24 hX, ts_LX.s25 hX, ts_LX.s26 hX, ts_LX.s27 hX, ts_LX.s28 hX, ts_LX.s29 hX, ts_LX.s30 hX, ts_LX.s31 hX, ts_LX.s32 hX, ts_LX.s33 hX, ts_LX.s34 hX, ts_LX.s35 hX, ts_LX.s36 hX, ts_LX.s37 hX, ts_LX.s38 hX, ts_FL.kd hF, ts_FL.k1 hF, ts_FL.k2 hF, ts_FL.k3 hF, ts_FL.k4 hF, ts_FL.k5 hF, ts_FL.k6 hF, ts_FL.k7 hF, ts_FL.k8 hF, ts_FL.k9 hF, ts_FL.l1 hF, ts_FL.l2 hF, ts_FL.l3 hF, ts_FL.l4 hF, ts_FL.l5 hF, ts_FL.l6 hF, ts_FL.l7 hF, ts_FL.l8 hF, ts_FL.l9 hF, ts_FL.o0 hF, ts_FL.o1 hF, ts_FL.o2 hF, ts_FL.o3 hF, ts_FL.o4 hF, ts_FL.o5 hF, ts_FL.o6 hF, ts_FL.o7 hF, ts_FL.o8 hF]
    rw [ts_cl (by omega)] at q ⊢
    refine ⟨fun e => ?_, fun e => ?_, fun e => ?_, fun e => ?_, fun e => ?_, fun e => ?_, fun e0 e1 e2 e3 e4 e5 => ?_⟩
    · subst e
      rw [if_pos ⟨h1, by decide, by decide⟩, if_pos rfl] at q
      rw [hR.2.1]
      exact ⟨by omega, trivial, by omega, trivial, ts_vin (by omega) (by omega), q.st h⟩
    · subst e
      rw [if_pos ⟨h1, by decide, by decide⟩, if_neg (by decide), if_pos rfl] at q
      rw [hR.2.2.1]
      exact ⟨by omega, trivial, by omega, trivial, ts_vin (by omega) (by omega), q.st h⟩
    · subst e
      rw [if_pos ⟨h1, by decide, by decide⟩, if_neg (by decide), if_neg (by decide), if_pos rfl] at q
      rw [hR.2.2.2.2.2.1]
      exact ⟨by omega, trivial, by omega, trivial, ts_vin (by omega) (by omega), q.st h⟩
    · subst e
      rw [if_pos ⟨h1, by decide, by decide⟩, if_neg (by decide), if_neg (by decide), if_neg (by decide), if_pos rfl] at q
      rw [hR.2.2.2.1]
      exact ⟨by omega, trivial, by omega, trivial, ts_vin (by omega) (by omega), q.st h⟩
    · subst e
      rw [if_pos ⟨h1, by decide, by decide⟩, if_neg (by decide), if_neg (by decide), if_neg (by decide), if_neg (by decide), if_pos rfl] at q
      rw [hR.2.2.2.2.1]
      exact ⟨by omega, trivial, by omega, trivial, ts_vin (by omega) (by omega), c_mateToTell (by omega) (q.st h)⟩
    · subst e
      rw [if_pos ⟨h1, by decide, by decide⟩, if_neg (by decide), if_neg (by decide), if_neg (by decide), if_neg (by decide), if_neg (by decide)] at q
      refine ⟨by omega, trivial, c_hasFrost hF h.1 hok (c_findGains hX.kl hF h.1 hok (ts_fr_le _) (fun hi2 hg ho => ?_))⟩
      rw [hg t ht]
      refine ⟨by omega, trivial, ts_vin (by omega) (by omega), q hi2 hk (h.of (fun b hb => ho b (by omega) (by omega)) (fun _ _ => rfl) h.2.2.2.2.2.2.2.2.2.2.2) (fun b hb => ho b (by omega) (by omega))⟩
    · rw [if_neg (fun x => ?_)] at q
      · exact q.st h
      · obtain ⟨v, _, hv, rfl⟩ := ts_rg (a := 0) (b := 5) (by omega) x.2.1 x.2.2 (by omega)
        have : v = 0 ∨ v = 1 ∨ v = 2 ∨ v = 3 ∨ v = 4 ∨ v = 5 := by omega
        rcases this with rfl | rfl | rfl | rfl | rfl | rfl
        · exact e0 rfl
        · exact e1 rfl
        · exact e2 rfl
        · exact e3 rfl
        · exact e4 rfl
        · exact e5 rfl
  · rw [if_neg (fun x => n1 x.1)] at q
    exact q.st h
theorem y_turnip {d : Nat} {g : ts_G} {S : ts_S} {a1 a2 : Int32} {hi : ts_I} {hk : ts_K} {Q : Int32 → ts_I → ts_K → Prop} (hM : ts_LM g) (hS : ts_SV S) (h : ts_MI S hi) (q : ts_QM (ts_s_turnip S a1 a2) hi hk Q) : ts_E0 (d + 25) mX12_turnip [.ref 405, .int a1, .int a2] g hi hk (ts_qi Q) := by
  refine ts_E0.of plX12_turnip rfl (Nat.le_of_ble_eq_true rfl) ?_
  refine wX12_turnip_0 ?_
  unfold ts_s_turnip at q
  have hok := hS.1.1
  have hc := hok.1
  refine ⟨hM.kd, c_isTurnip hM h.1 hc (fun h1 => ⟨fun e => absurd e (by decide), fun _ => c_inq (fun h2 => ⟨fun _ => ?_, fun e => absurd (by decide) e⟩) (fun n2 => ⟨fun e => absurd rfl e, fun _ => ?_⟩)⟩) (fun n1 => ⟨fun _ => ?_, fun e => absurd rfl e⟩)⟩
  · rw [if_pos ⟨h1, h2⟩] at q
    obtain ⟨t, ht, rfl⟩ := h1.get hc
    obtain ⟨v, _, hv, rfl⟩ := ts_rg (a := 0) (b := 5) (by omega) h2.1 h2.2 (by omega)
    have z := h.1.2.2.2.2 t ht
    simp only [Nat.zero_add] at z
    simp only [ts_LM.kd hM, ts_LM.o0 hM, ts_LM.k0 hM, ts_LM.l0 hM, ts_LM.o1 hM, ts_LM.k1 hM, ts_LM.l1 hM, ts_LM.o2 hM, ts_LM.k2 hM, ts_LM.l2 hM, ts_LM.o3 hM, ts_LM.k3 hM, ts_LM.l3 hM, ts_LM.o5 hM, ts_LM.k5 hM, ts_LM.l5 hM, ts_LM.o13 hM, ts_LM.k13 hM, ts_LM.l13 hM, ts_LM.o14 hM, ts_LM.k14 hM, ts_LM.l14 hM, ts_LM.o15 hM, ts_LM.k15 hM, ts_LM.l15 hM, ts_LM.o16 hM, ts_LM.k16 hM, ts_LM.l16 hM, ts_LM.o18 hM, ts_LM.k18 hM, ts_LM.l18 hM, ts_LM.o19 hM, ts_LM.k19 hM, ts_LM.l19 hM, ts_LM.o20 hM, ts_LM.k20 hM, ts_LM.l20 hM, ts_LM.o21 hM, ts_LM.k21 hM, ts_LM.l21 hM, ts_LM.o22 hM, ts_LM.k22 hM, ts_LM.l22 hM, ts_LM.o23 hM, ts_LM.k23 hM, ts_LM.l23 hM]
    rw [ts_cl (by omega)] at q
    simp only [ts_l4, ts_l6, ts_l1, pk_mul, nI_add]
    rw [ts_cl (by omega)]
    have hv' : v = 0 ∨ v = 1 ∨ v = 2 ∨ v = 3 ∨ v = 4 ∨ v = 5 := by omega
    rcases hv' with rfl | rfl | rfl | rfl | rfl | rfl
    · rw [if_pos (by decide)] at q
      rw [show 4 + 6 * t + 1 + 0 = 4 + 6 * t + 1 by omega, z.2.1]
      exact ⟨fun _ => ⟨by omega, trivial, ts_vin (by omega) (by omega), q.st h⟩, fun e => absurd (by decide) e⟩
    · rw [if_neg (by decide), if_pos (by decide)] at q
      rw [show 4 + 6 * t + 1 + 1 = 4 + 6 * t + 2 by omega, z.2.2.1]
      exact ⟨fun _ => ⟨by omega, trivial, ts_vin (by omega) (by omega), q.st h⟩, fun e => absurd (by decide) e⟩
    · rw [if_neg (by decide), if_neg (by decide), if_pos (by decide)] at q
      rw [show 4 + 6 * t + 1 + 2 = 4 + 6 * t + 3 by omega, z.2.2.2.1]
      exact ⟨fun _ => ⟨by omega, trivial, ts_vin (by omega) (by omega), q.st h⟩, fun e => absurd (by decide) e⟩
    · rw [if_neg (by decide), if_neg (by decide), if_neg (by decide), if_pos (by decide)] at q
      rw [show 4 + 6 * t + 1 + 3 = 4 + 6 * t + 4 by omega, z.2.2.2.2.1]
      exact ⟨fun _ => ⟨by omega, trivial, ts_vin (by omega) (by omega), q.st h⟩, fun e => absurd (by decide) e⟩
    · rw [if_neg (by decide), if_neg (by decide), if_neg (by decide), if_neg (by decide), if_pos (by decide)] at q
      rw [show 4 + 6 * t + 1 + 4 = 4 + 6 * t + 5 by omega, z.2.2.2.2.2]
      exact ⟨fun _ => ⟨by omega, trivial, ts_vin (by omega) (by omega), q.st h⟩, fun e => absurd (by decide) e⟩
    · rw [if_neg (by decide), if_neg (by decide), if_neg (by decide), if_neg (by decide), if_neg (by decide)] at q
      exact ⟨fun e => absurd rfl e, fun _ => ⟨by omega, c_gain hM.k13 hM.l13 h.1 hok ht (q.st h)⟩⟩
  · rw [if_neg (fun x => n2 x.2)] at q
    exact q.st h
  · rw [if_neg (fun x => n1 x.1)] at q
    exact q.st h
/-- how many rows there are -/
def ts_rc (L : Nat → Nat) : Nat → Nat := ts_sm (fun r => if L r = 3 then 0 else 1)
def ts_s_count (S : ts_S) (a1 : Int32) : Int32 × ts_S :=
  (if a1 = 0 then nI (ts_rc S.L 8) else if a1 = 1 then nI (S.A 6 0) else if a1 = 2 then nI (S.A 6 1) else if a1 = 3 then nI (S.A 6 2) else if a1 = 4 then nI (S.A 6 3) else if a1 = 5 then nI (ts_rk S.A) else if a1 = 6 then nI (ts_mc S.A) else if a1 = 7 then nI S.B.length else if a1 = 8 then nI S.tp.length else -1000001, S)
theorem ts_rc_le (L : Nat → Nat) (n : Nat) : ts_rc L n ≤ n := by
  have := ts_sm_le (f := fun r => if L r = 3 then 0 else 1) (n := n) (b := 1) (fun i _ => by split <;> omega)
  unfold ts_rc
  omega
theorem c_rowsThere {d : Nat} {g : ts_G} {S : ts_S} {hi : ts_I} {hk : ts_K} {Q : Int32 → ts_I → ts_K → Prop} (hX : ts_LX g) (h : ts_XI S hi hk) (q : Q (nI (ts_rc S.L 8)) hi hk) : ts_E0 d mX11_rowsThere [.ref 1] g hi hk (ts_qi Q) := by
  refine ts_E0.of plX11_rowsThere rfl (Nat.le_of_ble_eq_true rfl) ?_
  refine wX11_rowsThere_0 ?_
  have L : ∀ n r, r + n = 8 → ts_J0 d mX11_rowsThere (ts_qi Q) g 4 [(0, .ref 1), (1, .int (nI (ts_rc S.L r))), (2, .int (nI r))] [] hi hk := by
    intro n
    induction n with
    | zero =>
      intro r hrn
      refine wX11_rowsThere_4 ?_
      rw [show (8 : Int32) = nI 8 from rfl, ts_le (by omega) (by omega)]
      rw [show r = 8 by omega]
      exact ⟨fun _ => q, fun e => absurd (by omega) e⟩
    | succ n ih =>
      intro r hrn
      refine wX11_rowsThere_4 ?_
      obtain ⟨e1, e2, e3, e4, e5⟩ := hX.row r (by omega)
      simp only [ts_LX.s0 hX, ts_LX.s1 hX, ts_LX.s2 hX, ts_LX.s3 hX, ts_LX.s4 hX, ts_LX.s5 hX, ts_LX.s6 hX, ts_LX.s7 hX, ts_LX.s8 hX, ts_LX.s9 hX, ts_LX.s10 hX, ts_LX.s11 hX, ts_LX.s12 hX, ts_LX.s13 hX, ts_LX.s14 hX, ts_LX.s15 hX, ts_LX.s16 hX, ts_LX.s17 hX, ts_LX.s18 hX, ts_LX.s19 hX, ts_LX.s20 hX, ts_LX.s21 hX, ts_LX.s22 hX, ts_LX.s23 hX, ts_LX.s24 hX, ts_LX.s25 hX, ts_LX.s26 hX, ts_LX.s27 hX, ts_LX.s28 hX, ts_LX.s29 hX, ts_LX.s30 hX, ts_LX.s31 hX, ts_LX.s32 hX, ts_LX.s33 hX, ts_LX.s34 hX, ts_LX.s35 hX, ts_LX.s36 hX, ts_LX.s37 hX, ts_LX.s38 hX]
      rw [show (8 : Int32) = nI 8 from rfl, ts_le (by omega) (by omega), ts_cl (by omega), e1, (h.2.2.2.1 r (by omega)).1, ts_l1, nI_add, nI_add]
      have z := ih (r + 1) (by omega)
      have e : ts_rc S.L (r + 1) = ts_rc S.L r + if S.L r = 3 then 0 else 1 := rfl
      rw [e] at z
      refine ⟨fun e => absurd e (by omega), fun _ => ⟨trivial, by omega, trivial, ts_vin (by omega) (by omega), by omega, e2, fun c => ?_, fun c => ?_⟩⟩
      · by_cases hl : S.L r = 3
        · rw [if_pos hl] at z; exact z
        · rw [if_neg hl] at c; exact absurd c (by decide)
      · by_cases hl : S.L r = 3
        · rw [if_pos hl] at c; exact absurd rfl c
        · rw [if_neg hl] at z; exact z
  exact L 8 0 (by omega)
theorem x_count {d : Nat} {g : ts_G} {S : ts_S} {a1 : Int32} {hi : ts_I} {hk : ts_K} {Q : Int32 → ts_I → ts_K → Prop} (hX : ts_LX g) (hS : ts_SV S) (h : ts_XI S hi hk) (q : ts_QX (ts_s_count S a1) hi Q) : ts_E0 (d + 25) mX11_count [.ref 1, .int a1] g hi hk (ts_qi Q) := by
  refine ts_E0.of plX11_count rfl (Nat.le_of_ble_eq_true rfl) ?_
  refine wX11_count_0 ?_
  unfold ts_s_count at q
  have hok := hS.1.1
  have hc := hok.1
  have hF := hX.now
  obtain ⟨r0, r1, r2, r3, rT⟩ := id h.1
  obtain ⟨p, p1, p2, p3, p4⟩ := id h.2.1
  have ht := h.2.2.2.2.2.2.1
  simp only [ts_LX.s0 hX, ts_LX.s1 hX, ts_LX.s2 hX, ts_LX.s3 hX, ts_LX.s4 hX, ts_LX.s5 hX, ts_LX.s6 hX, ts_LX.s7 hX, ts_LX.s8 hX, ts_LX.s9 hX, ts_LX.s10 hX, ts_LX.s11 hX, ts_LX.s12 hX, ts_LX.s13 hX, ts_LX.s14 hX, ts_LX.s15 hX, ts_LX.s16 hX, ts_LX.s17 hX, ts_LX.s18 hX, ts_LX.s19 hX, ts_LX.s20 hX, ts_LX.s21 hX, ts_LX.s22 hX, ts_LX.s23 hX, ts_LX.s24 hX, ts_LX.s25 hX, ts_LX.s26 hX, ts_LX.s27 hX, ts_LX.s28 hX, ts_LX.s29 hX, ts_LX.s30 hX, ts_LX.s31 hX, ts_LX.s32 hX, ts_LX.s33 hX, ts_LX.s34 hX, ts_LX.s35 hX, ts_LX.s36 hX, ts_LX.s37 hX, ts_LX.s38 hX, ts_FL.kd hF, ts_FL.k1 hF, ts_FL.k2 hF, ts_FL.k3 hF, ts_FL.k4 hF, ts_FL.k5 hF, ts_FL.k6 hF, ts_FL.k7 hF, ts_FL.k8 hF, ts_FL.k9 hF, ts_FL.l1 hF, ts_FL.l2 hF, ts_FL.l3 hF, ts_FL.l4 hF, ts_FL.l5 hF, ts_FL.l6 hF, ts_FL.l7 hF, ts_FL.l8 hF, ts_FL.l9 hF, ts_FL.o0 hF, ts_FL.o1 hF, ts_FL.o2 hF, ts_FL.o3 hF, ts_FL.o4 hF, ts_FL.o5 hF, ts_FL.o6 hF, ts_FL.o7 hF, ts_FL.o8 hF]
  refine ⟨fun e => ?_, fun e => ?_, fun e => ?_, fun e => ?_, fun e => ?_, fun e => ?_, fun e => ?_, fun e => ?_, fun e => ?_, fun e0 e1 e2 e3 e4 e5 e6 e7 e8 => ?_⟩
  · subst e
    rw [if_pos rfl] at q
    exact ⟨trivial, c_rowsThere hX h (q.st h)⟩
  · subst e
    rw [if_neg (by decide), if_pos rfl] at q
    rw [r0]
    exact ⟨trivial, by omega, trivial, q.st h⟩
  · subst e
    rw [if_neg (by decide), if_neg (by decide), if_pos rfl] at q
    rw [r1]
    exact ⟨trivial, by omega, trivial, q.st h⟩
  · subst e
    rw [if_neg (by decide), if_neg (by decide), if_neg (by decide), if_pos rfl] at q
    rw [r2]
    exact ⟨trivial, by omega, trivial, q.st h⟩
  · subst e
    rw [if_neg (by decide), if_neg (by decide), if_neg (by decide), if_neg (by decide), if_pos rfl] at q
    rw [r3]
    exact ⟨trivial, by omega, trivial, q.st h⟩
  · subst e
    rw [if_neg (by decide), if_neg (by decide), if_neg (by decide), if_neg (by decide), if_neg (by decide), if_pos rfl] at q
    exact ⟨trivial, by omega, trivial, c_allRanks hF h.1 hok (q.st h)⟩
  · subst e
    rw [if_neg (by decide), if_neg (by decide), if_neg (by decide), if_neg (by decide), if_neg (by decide), if_neg (by decide), if_pos rfl] at q
    exact ⟨trivial, by omega, trivial, c_allMarried hF h.1 hok (q.st h)⟩
  · subst e
    rw [if_neg (by decide), if_neg (by decide), if_neg (by decide), if_neg (by decide), if_neg (by decide), if_neg (by decide), if_neg (by decide), if_pos rfl] at q
    rw [p3]
    exact ⟨trivial, q.st h⟩
  · subst e
    rw [if_neg (by decide), if_neg (by decide), if_neg (by decide), if_neg (by decide), if_neg (by decide), if_neg (by decide), if_neg (by decide), if_neg (by decide), if_pos rfl] at q
    rw [ht.1]
    exact ⟨trivial, by omega, trivial, q.st h⟩
  · rw [if_neg e0, if_neg e1, if_neg e2, if_neg e3, if_neg e4, if_neg e5, if_neg e6, if_neg e7, if_neg e8] at q
    exact q.st h
theorem y_count {d : Nat} {g : ts_G} {S : ts_S} {a1 : Int32} {hi : ts_I} {hk : ts_K} {Q : Int32 → ts_I → ts_K → Prop} (hM : ts_LM g) (hS : ts_SV S) (h : ts_MI S hi) (q : ts_QM (ts_s_count S a1) hi hk Q) : ts_E0 (d + 25) mX12_count [.ref 405, .int a1] g hi hk (ts_qi Q) := by
  refine ts_E0.of plX12_count rfl (Nat.le_of_ble_eq_true rfl) ?_
  refine wX12_count_0 ?_
  unfold ts_s_count at q
  have hok := hS.1.1
  have hc := hok.1
  obtain ⟨r0, r1, r2, r3, rT⟩ := id h.1
  simp only [Nat.zero_add] at r1 r2 r3
  obtain ⟨b1, b2, b3⟩ := id h.2.1
  have ht := h.2.2.2.2.2.2.1
  simp only [ts_LM.kd hM, ts_LM.o0 hM, ts_LM.k0 hM, ts_LM.l0 hM, ts_LM.o1 hM, ts_LM.k1 hM, ts_LM.l1 hM, ts_LM.o2 hM, ts_LM.k2 hM, ts_LM.l2 hM, ts_LM.o3 hM, ts_LM.k3 hM, ts_LM.l3 hM, ts_LM.o5 hM, ts_LM.k5 hM, ts_LM.l5 hM, ts_LM.o13 hM, ts_LM.k13 hM, ts_LM.l13 hM, ts_LM.o14 hM, ts_LM.k14 hM, ts_LM.l14 hM, ts_LM.o15 hM, ts_LM.k15 hM, ts_LM.l15 hM, ts_LM.o16 hM, ts_LM.k16 hM, ts_LM.l16 hM, ts_LM.o18 hM, ts_LM.k18 hM, ts_LM.l18 hM, ts_LM.o19 hM, ts_LM.k19 hM, ts_LM.l19 hM, ts_LM.o20 hM, ts_LM.k20 hM, ts_LM.l20 hM, ts_LM.o21 hM, ts_LM.k21 hM, ts_LM.l21 hM, ts_LM.o22 hM, ts_LM.k22 hM, ts_LM.l22 hM, ts_LM.o23 hM, ts_LM.k23 hM, ts_LM.l23 hM]
  rw [show (0 : Int32).toNatClampNeg = 0 from rfl, show (1 : Int32).toNatClampNeg = 1 from rfl, show (2 : Int32).toNatClampNeg = 2 from rfl, show (3 : Int32).toNatClampNeg = 3 from rfl, r0, r1, r2, r3, b1, ht.1]
  refine ⟨fun e => ?_, fun e => ?_, fun e => ?_, fun e => ?_, fun e => ?_, fun e => ?_, fun e => ?_, fun e => ?_, fun e => ?_, fun e0 e1 e2 e3 e4 e5 e6 e7 e8 => ?_⟩
  · subst e
    rw [if_pos rfl] at q
    have L : ∀ n r, r + n = 8 → ts_J0 (d + 25) mX12_count (ts_qi Q) g 54 [(0, .ref 405), (2, .int (nI (ts_rc S.L r))), (3, .int (nI r))] [] hi hk := by
      intro n
      induction n with
      | zero =>
        intro r hrn
        refine wX12_count_54 ?_
        rw [show (8 : Int32) = nI 8 from rfl, ts_le (by omega) (by omega)]
        rw [show r = 8 by omega]
        exact ⟨fun _ => q.st h, fun e => absurd (by omega) e⟩
      | succ n ih =>
        intro r hrn
        refine wX12_count_54 ?_
        rw [show (8 : Int32) = nI 8 from rfl, ts_le (by omega) (by omega), ts_l1, ts_l0, nI_add, nI_add, nI_add]
        have z := ih (r + 1) (by omega)
        have e : ts_rc S.L (r + 1) = ts_rc S.L r + if S.L r = 3 then 0 else 1 := rfl
        rw [e] at z
        refine ⟨fun e => absurd e (by omega), fun _ => ⟨hM.kd, c_isMissing hM (by omega) (hS.2.2.2.2.1 r (by omega)).1 h.2.2.2.1 (fun hl => ⟨fun e => absurd e (by decide), fun _ => ?_⟩) (fun hl => ⟨fun _ => ?_, fun e => absurd rfl e⟩)⟩⟩
        · rw [if_pos hl] at z; exact z
        · rw [if_neg hl] at z; exact z
    exact L 8 0 (by omega)
  · subst e
    rw [if_neg (by decide), if_pos rfl] at q
    exact ⟨trivial, by omega, trivial, ts_vin (i := 2) (by omega) (by omega), q.st h⟩
  · subst e
    rw [if_neg (by decide), if_neg (by decide), if_pos rfl] at q
    exact ⟨trivial, by omega, trivial, ts_vin (i := 3) (by omega) (by omega), q.st h⟩
  · subst e
    rw [if_neg (by decide), if_neg (by decide), if_neg (by decide), if_pos rfl] at q
    exact ⟨trivial, by omega, trivial, ts_vin (i := 0) (by omega) (by omega), q.st h⟩
  · subst e
    rw [if_neg (by decide), if_neg (by decide), if_neg (by decide), if_neg (by decide), if_pos rfl] at q
    exact ⟨trivial, by omega, trivial, ts_vin (i := 1) (by omega) (by omega), q.st h⟩
  · subst e
    rw [if_neg (by decide), if_neg (by decide), if_neg (by decide), if_neg (by decide), if_neg (by decide), if_pos rfl] at q
    exact ⟨trivial, by omega, c_sumOf (w := 1) hM.k13 hM.l13 h.1 hok (Or.inl rfl) (q.st h)⟩
  · subst e
    rw [if_neg (by decide), if_neg (by decide), if_neg (by decide), if_neg (by decide), if_neg (by decide), if_neg (by decide), if_pos rfl] at q
    exact ⟨trivial, c_married hM h.1 hok (q.st h)⟩
  · subst e
    rw [if_neg (by decide), if_neg (by decide), if_neg (by decide), if_neg (by decide), if_neg (by decide), if_neg (by decide), if_neg (by decide), if_pos rfl] at q
    exact ⟨trivial, q.st h⟩
  · subst e
    rw [if_neg (by decide), if_neg (by decide), if_neg (by decide), if_neg (by decide), if_neg (by decide), if_neg (by decide), if_neg (by decide), if_neg (by decide), if_pos rfl] at q
    exact ⟨trivial, q.st h⟩
  · rw [if_neg e0, if_neg e1, if_neg e2, if_neg e3, if_neg e4, if_neg e5, if_neg e6, if_neg e7, if_neg e8] at q
    exact q.st h
/-- whether one of kind i is one of kind k -/
def ts_ia (i k : Nat) : Bool := k == 0 || k == i || (k == 1 && decide (i < 4)) || (k == 4 && i == 5)
theorem c_isA {d i k : Nat} {g : ts_G} {hi : ts_I} {hk : ts_K} {Q : Int32 → ts_I → ts_K → Prop} (hL : ts_KL g) (hi1 : 1 ≤ i) (hi2 : i ≤ 5) (hk2 : k ≤ 5) (q : Q (if ts_ia i k = true then 1 else 0) hi hk) : ts_E0 d mX2_isA [.ref (9 + i), .int (nI k)] g hi hk (ts_qi Q) := by
  refine ts_E0.of plX2_isA rfl (Nat.le_of_ble_eq_true rfl) ?_
  refine wX2_isA_0 ?_
  obtain ⟨l0, l1, l2, l3, l4⟩ := hL
  have h1 : i = 1 ∨ i = 2 ∨ i = 3 ∨ i = 4 ∨ i = 5 := by omega
  have h2 : k = 0 ∨ k = 1 ∨ k = 2 ∨ k = 3 ∨ k = 4 ∨ k = 5 := by omega
  rcases h1 with rfl | rfl | rfl | rfl | rfl <;> rcases h2 with rfl | rfl | rfl | rfl | rfl | rfl <;> simp only [show 9 + 1 = 10 from rfl, show 9 + 2 = 11 from rfl, show 9 + 3 = 12 from rfl, show 9 + 4 = 13 from rfl, show 9 + 5 = 14 from rfl, l0, l1, l2, l3, l4] <;>
    exact ⟨fun e => by first | exact absurd e (by decide) | exact ⟨by decide, by decide, q⟩, fun e => by first | exact absurd e (by decide) | exact ⟨by decide, by decide, q⟩, fun e => by first | exact absurd e (by decide) | exact ⟨by decide, by decide, q⟩, fun e => by first | exact absurd e (by decide) | exact ⟨by decide, by decide, q⟩, fun e => by first | exact absurd e (by decide) | exact ⟨by decide, by decide, q⟩, fun e1 e2 e3 e4 e5 => ⟨fun e => by first | exact absurd rfl e | exact absurd rfl e1 | exact absurd rfl e2 | exact absurd rfl e3 | exact absurd rfl e4 | exact absurd rfl e5, fun e => by first | exact q | exact absurd rfl e1 | exact absurd rfl e2 | exact absurd rfl e3 | exact absurd rfl e4 | exact absurd rfl e5⟩⟩
def ts_s_as (S : ts_S) (a1 a2 : Int32) : Int32 × ts_S :=
  if ts_T S.A a1 ∧ 0 ≤ a2 ∧ a2 ≤ 5 then
    if ts_ia (S.A 0 a1.toNatClampNeg) a2.toNatClampNeg = true then (a1, S.setS 0) else (ts_fn 3, S.setS 3)
  else (-1000001, S)
theorem x_as {d : Nat} {g : ts_G} {S : ts_S} {a1 a2 : Int32} {hi : ts_I} {hk : ts_K} {Q : Int32 → ts_I → ts_K → Prop} (hX : ts_LX g) (hS : ts_SV S) (h : ts_XI S hi hk) (q : ts_QX (ts_s_as S a1 a2) hi Q) : ts_E0 (d + 25) mX11_as [.ref 1, .int a1, .int a2] g hi hk (ts_qi Q) := by
  refine ts_E0.of plX11_as rfl (Nat.le_of_ble_eq_true rfl) ?_
  refine wX11_as_0 ?_
  unfold ts_s_as at q
  refine ⟨hX.s0, c_XisTurnip hX h.1 (fun h1 => ⟨fun e => absurd e (by decide), fun _ => c_outside (fun h2 => ⟨fun _ => ?_, fun e => absurd rfl e⟩) (fun n2 => ⟨fun e => absurd e (by decide), fun _ => ?_⟩)⟩) (fun n1 => ⟨fun _ => ?_, fun e => absurd rfl e⟩)⟩
  · rw [if_pos ⟨h1, h2⟩] at q
    have hok := hS.1.1
    obtain ⟨t, ht, rfl⟩ := h1.get hok.1
    obtain ⟨k, _, hk2, rfl⟩ := ts_rg (a := 0) (b := 5) (by omega) h2.1 h2.2 (by omega)
    have hc := hok.1
    have hF := hX.now
    have hk1 := (hok.2.2.2.2 t ht).1
    simp only [ts_LX.s0 hX, ts_LX.s1 hX, ts_LX.s2 hX, ts_LX.s3 hX, ts_LX.s4 hX, ts_LX.s5 hX, ts_LX.s6 hX, ts_LX.s7 hX, ts_LX.s8 hX, ts_LX.s9 hX, ts_LX.s10 hX, ts_LX.s11 hX, ts_LX.s12 hX, ts_LX.s13 hX, ts_LX.s14 hX, ts_LX.s15 hX, ts_LX.s16 hX, ts_LX.s17 hX, ts_LX.s18 hX, ts_LX.s19 hX, ts_LX.s20 hX, ts_LX.s21 hX, ts_LX.s22 hX, ts_LX.s23 hX, ts_LX.s24 hX, ts_LX.s25 hX, ts_LX.s26 hX, ts_LX.s27 hX, ts_LX.s28 hX, ts_LX.s29 hX, ts_LX.s30 hX, ts_LX.s31 hX, ts_LX.s32 hX, ts_LX.s33 hX, ts_LX.s34 hX, ts_LX.s35 hX, ts_LX.s36 hX, ts_LX.s37 hX, ts_LX.s38 hX, ts_FL.kd hF, ts_FL.k1 hF, ts_FL.k2 hF, ts_FL.k3 hF, ts_FL.k4 hF, ts_FL.k5 hF, ts_FL.k6 hF, ts_FL.k7 hF, ts_FL.k8 hF, ts_FL.k9 hF, ts_FL.l1 hF, ts_FL.l2 hF, ts_FL.l3 hF, ts_FL.l4 hF, ts_FL.l5 hF, ts_FL.l6 hF, ts_FL.l7 hF, ts_FL.l8 hF, ts_FL.l9 hF, ts_FL.o0 hF, ts_FL.o1 hF, ts_FL.o2 hF, ts_FL.o3 hF, ts_FL.o4 hF, ts_FL.o5 hF, ts_FL.o6 hF, ts_FL.o7 hF, ts_FL.o8 hF]
    rw [ts_cl (n := t) (by omega), ts_cl (n := k) (by omega)] at q
    rw [ts_cl (by omega), (h.1.2.2.2.2 t ht).1]
    refine ⟨by omega, trivial, by omega, trivial, ts_vin (by omega) (by omega), by omega, mX2_isA, ?_, c_isA hX.kl hk1.1 hk1.2 hk2 ?_⟩
    · obtain ⟨l0, l1, l2, l3, l4⟩ := hX.kl
      have h3 : S.A 0 t = 1 ∨ S.A 0 t = 2 ∨ S.A 0 t = 3 ∨ S.A 0 t = 4 ∨ S.A 0 t = 5 := by omega
      rcases h3 with e | e | e | e | e <;> rw [e] <;> simp [l0, l1, l2, l3, l4]
    · by_cases c : ts_ia (S.A 0 t) k = true
      · rw [if_pos c] at q ⊢
        exact ⟨fun e => absurd e (by decide), fun _ => c_fine hX h q⟩
      · rw [if_neg c] at q ⊢
        exact ⟨fun _ => c_found (f := 3) hX h q, fun e => absurd rfl e⟩
  · rw [if_neg (fun c => n2 c.2)] at q
    exact q.st h
  · rw [if_neg (fun c => n1 c.1)] at q
    exact q.st h
theorem y_as {d : Nat} {g : ts_G} {S : ts_S} {a1 a2 : Int32} {hi : ts_I} {hk : ts_K} {Q : Int32 → ts_I → ts_K → Prop} (hM : ts_LM g) (hS : ts_SV S) (h : ts_MI S hi) (q : ts_QM (ts_s_as S a1 a2) hi hk Q) : ts_E0 (d + 25) mX12_as [.ref 405, .int a1, .int a2] g hi hk (ts_qi Q) := by
  refine ts_E0.of plX12_as rfl (Nat.le_of_ble_eq_true rfl) ?_
  refine wX12_as_0 ?_
  unfold ts_s_as at q
  have hok := hS.1.1
  have hc := hok.1
  refine ⟨hM.kd, c_isTurnip hM h.1 hc (fun h1 => ⟨fun e => absurd e (by decide), fun _ => c_inq (fun h2 => ⟨fun _ => ?_, fun e => absurd (by decide) e⟩) (fun n2 => ⟨fun e => absurd rfl e, fun _ => ?_⟩)⟩) (fun n1 => ⟨fun _ => ?_, fun e => absurd rfl e⟩)⟩
  · rw [if_pos ⟨h1, h2⟩] at q
    obtain ⟨t, ht, rfl⟩ := h1.get hc
    obtain ⟨k, _, hk2, rfl⟩ := ts_rg (a := 0) (b := 5) (by omega) h2.1 h2.2 (by omega)
    have hk1 := (hok.2.2.2.2 t ht).1
    rw [ts_cl (n := t) (by omega), ts_cl (n := k) (by omega)] at q
    refine c_kindIn hM h.1 hc ht ?_
    simp only [ts_l4, ts_l5, ts_l1, ts_l0]
    rw [ts_eq (by omega) (by omega), ts_eq (by omega) (by omega), ts_ne (by omega) (by omega), ts_ne (by omega) (by omega), ts_ne (by omega) (by omega), ts_lt (by omega) (by omega)]
    have y : ts_ia (S.A 0 t) k = true → ts_E0 (d + 24) mX12_well [.ref 405, .int (nI t)] g hi hk (ts_qi (fun v17 hi15 hk16 => Q v17 hi15 hk16)) := fun c => by
      rw [if_pos c] at q
      exact c_well hM hS h q
    have n : ¬ ts_ia (S.A 0 t) k = true → ts_E0 (d + 24) mX12_found [.ref 405, .int 3] g hi hk (ts_qi (fun v17 hi15 hk16 => Q v17 hi15 hk16)) := fun c => by
      rw [if_neg c] at q
      exact c_mfound (f := 3) hM hS h q
    have e : ts_ia (S.A 0 t) k = true ↔ (k = 0 ∨ k = S.A 0 t ∨ (k = 1 ∧ S.A 0 t < 4) ∨ (k = 4 ∧ S.A 0 t = 5)) := by
      unfold ts_ia
      simp [Bool.or_eq_true, or_assoc]
    rw [e] at y n
    exact ⟨fun c => y (by omega), fun c => ⟨fun c2 => y (by omega), fun c2 => ⟨fun c3 => ⟨fun c4 => n (by omega), fun c4 => ⟨fun c5 => n (by omega), fun c5 => y (by omega)⟩⟩, fun c3 => ⟨fun c4 => y (by omega), fun c4 => ⟨fun c5 => n (by omega), fun c5 => ⟨fun c6 => n (by omega), fun c6 => y (by omega)⟩⟩⟩⟩⟩⟩
  · rw [if_neg (fun c => n2 c.2)] at q
    exact q.st h
  · rw [if_neg (fun c => n1 c.1)] at q
    exact q.st h
theorem v_as {S : ts_S} {a1 a2 : Int32} (hS : ts_SV S) : ts_SV (ts_s_as S a1 a2).2 := by
  unfold ts_s_as
  repeat' split
  · exact hS.stat (by omega)
  · exact hS.stat (by omega)
  · exact hS
