/-! foretold: ahead, risen, squire, power, blocs -/
theorem ts_TK.tri {hk hk' : ts_K} (h : ts_TK hk) (hK : ts_FK 395 hk') (hok : ∀ b, b ≠ 396 → hk' b = hk b) : ts_TK hk' := fun j hj => by
  by_cases e : j = 8
  · rw [e]; exact hK
  · exact (h j hj).of (hok _ (by omega))
theorem ts_XI.tk {S : ts_S} {hi : ts_I} {hk : ts_K} (h : ts_XI S hi hk) : ts_TK hk := h.2.2.2.2.2.2.2.2.2.2.2
/-- behind a trial -/
theorem ts_XI.tri {S : ts_S} {hi hi' : ts_I} {hk hk' : ts_K} (h : ts_XI S hi hk) (hK : ts_FK 395 hk') (e : ∀ b, b ≤ 298 → hi' b = hi b) (hok : ∀ b, b ≠ 396 → hk' b = hk b) : ts_XI S hi' hk' := h.of e (fun b hb => hok b (by omega)) (h.tk.tri hK hok)
theorem ts_MI.tri {S : ts_S} {hi hi' : ts_I} (hS : ts_SV S) (h : ts_MI S hi) (e : ∀ b, b ≠ 413 → b ≠ 417 → b ≠ 418 → b ≠ 419 → hi' b = hi b) : ts_MI S hi' := h.of hS (fun s _ => by rw [e 405 (by omega) (by omega) (by omega) (by omega)]) (fun b b1 b2 b3 b4 b5 b6 b7 => e b b4 b5 b6 b7)
theorem y_tries {d : Nat} {g : ts_G} {S : ts_S} {hi : ts_I} {hk : ts_K} {Q : ts_I → ts_K → Prop} (hM : ts_LM g) (hS : ts_SV S) (h : ts_MR 411 0 S.A hi) (q : ∀ hi', ts_MR 413 0 S.A hi' → (∀ b, b ≠ 413 → hi' b = hi b) → Q hi' hk) : ts_E0 d mX12_copies [.ref 411, .int 0, .ref 413, .int 0] g hi hk (ts_qv Q) :=
  c_copies (a := 0) (b := 0) hM.k13 hM.k15 (by omega) (by rw [hM.l13]; omega) (by rw [hM.l15]; omega) (by rw [hM.l13]; omega) (by rw [hM.l15]; omega) (q _ (ts_MR.cp hS.1.1.1 h) (fun b hb => ts_cp_a hb))
theorem ts_y1 {S : ts_S} (hS : ts_SV S) {n : Nat} (hn : n ≤ 100) : S.A 6 1 + n ≤ 1000000 := by
  have := hS.1.2.1
  omega
def ts_s_ahead (S : ts_S) (a1 a2 a3 : Int32) : Int32 × ts_S :=
  (if (ts_T S.A a1 ∧ (0 ≤ a2 ∧ a2 ≤ 60)) ∧ (0 ≤ a3 ∧ a3 ≤ 1) then (if a3 = 0 then nI (ts_pn S.A a2.toNatClampNeg 1 a1.toNatClampNeg) else nI (ts_pn S.A a2.toNatClampNeg 2 a1.toNatClampNeg)) else -1000001, S)
theorem x_ahead {d : Nat} {g : ts_G} {S : ts_S} {a1 a2 a3 : Int32} {hi : ts_I} {hk : ts_K} {Q : Int32 → ts_I → ts_K → Prop} (hX : ts_LX g) (hS : ts_SV S) (h : ts_XI S hi hk) (q : ts_QX (ts_s_ahead S a1 a2 a3) hi Q) : ts_E0 (d + 25) mX11_ahead [.ref 1, .int a1, .int a2, .int a3] g hi hk (ts_qi Q) := by
  refine ts_E0.of plX11_ahead rfl (Nat.le_of_ble_eq_true rfl) ?_
  refine wX11_ahead_0 ?_
  unfold ts_s_ahead at q
  refine ⟨hX.s0, c_XisTurnip hX h.1 (fun h1 => ⟨fun e => absurd e (by decide), fun _ => c_outside (fun h2 => ⟨fun e => absurd rfl e, fun _ => c_outside (fun h3 => ⟨fun _ => ?_, fun e => absurd rfl e⟩) (fun n3 => ⟨fun e => absurd e (by decide), fun _ => ?_⟩)⟩) (fun n2 => ⟨fun _ => ?_, fun e => absurd (by decide) e⟩)⟩) (fun n1 => ⟨fun _ => ?_, fun e => absurd rfl e⟩)⟩
  · rw [if_pos ⟨⟨h1, h2⟩, h3⟩] at q
    have hok := hS.1.1
    obtain ⟨t, ht, rfl⟩ := h1.get hok.1
    obtain ⟨n, _, hn, rfl⟩ := ts_rg (a := 0) (b := 60) (by omega) h2.1 h2.2 (by omega)
    have hc := hok.1
    have hT : ts_FL g 395 := (hX.tri 8 (by omega)).2
    rw [ts_cl (n := t) (by omega), ts_cl (n := n) (by omega)] at q
    simp only [ts_LX.s0 hX, ts_LX.s1 hX, ts_LX.s2 hX, ts_LX.s3 hX, ts_LX.s4 hX, ts_LX.s5 hX, ts_LX.s6 hX, ts_LX.s7 hX, ts_LX.s8 hX, ts_LX.s9 hX, ts_LX.s10 hX, ts_LX.s11 hX, ts_LX.s12 hX, ts_LX.s13 hX, ts_LX.s14 hX, ts_LX.s15 hX, ts_LX.s16 hX, ts_LX.s17 hX, ts_LX.s18 hX, ts_LX.s19 hX, ts_LX.s20 hX, ts_LX.s21 hX, ts_LX.s22 hX, ts_LX.s23 hX, ts_LX.s24 hX, ts_LX.s25 hX, ts_LX.s26 hX, ts_LX.s27 hX, ts_LX.s28 hX, ts_LX.s29 hX, ts_LX.s30 hX, ts_LX.s31 hX, ts_LX.s32 hX, ts_LX.s33 hX, ts_LX.s34 hX, ts_LX.s35 hX, ts_LX.s36 hX, ts_LX.s37 hX, ts_LX.s38 hX, ts_FL.kd hT, ts_FL.k1 hT, ts_FL.k2 hT, ts_FL.k3 hT, ts_FL.k4 hT, ts_FL.k5 hT, ts_FL.k6 hT, ts_FL.k7 hT, ts_FL.k8 hT, ts_FL.k9 hT, ts_FL.l1 hT, ts_FL.l2 hT, ts_FL.l3 hT, ts_FL.l4 hT, ts_FL.l5 hT, ts_FL.l6 hT, ts_FL.l7 hT, ts_FL.l8 hT, ts_FL.l9 hT, ts_FL.o0 hT, ts_FL.o1 hT, ts_FL.o2 hT, ts_FL.o3 hT, ts_FL.o4 hT, ts_FL.o5 hT, ts_FL.o6 hT, ts_FL.o7 hT, ts_FL.o8 hT]
    refine ⟨by omega, trivial, c_afterYears hX h.1 (h.fk (j := 26) (by omega)) hok (ts_y1 hS (by omega)) (by omega) (fun hi2 hk2 hR hK ho hok2 => ?_)⟩
    have hX2 := h.tri hK (fun b hb => ho b (by omega)) hok2
    have hf : ∀ b, 404 < b → hi2 b = hi b := fun b hb => ho b (by omega)
    have ht' : t < ts_pn S.A n 6 0 := by rw [(ts_pn_c S.A n).1]; exact ht
    have z := hR.2.2.2.2 t ht'
    simp only [ts_FL.kd hT, ts_FL.k1 hT, ts_FL.k2 hT, ts_FL.k3 hT, ts_FL.k4 hT, ts_FL.k5 hT, ts_FL.k6 hT, ts_FL.k7 hT, ts_FL.k8 hT, ts_FL.k9 hT, ts_FL.l1 hT, ts_FL.l2 hT, ts_FL.l3 hT, ts_FL.l4 hT, ts_FL.l5 hT, ts_FL.l6 hT, ts_FL.l7 hT, ts_FL.l8 hT, ts_FL.l9 hT, ts_FL.o0 hT, ts_FL.o1 hT, ts_FL.o2 hT, ts_FL.o3 hT, ts_FL.o4 hT, ts_FL.o5 hT, ts_FL.o6 hT, ts_FL.o7 hT, ts_FL.o8 hT]
    rw [ts_cl (by omega), z.2.1, z.2.2.1]
    refine ⟨fun c => ⟨trivial, by omega, trivial, ts_vin (by omega) (by omega), ?_⟩, fun c => ⟨trivial, by omega, trivial, ts_vin (by omega) (by omega), ?_⟩⟩
    · rw [if_neg c] at q
      exact q hi2 hk2 hX2 hf
    · rw [if_pos (Decidable.not_not.mp c)] at q
      exact q hi2 hk2 hX2 hf
  · rw [if_neg (fun x => n3 x.2)] at q
    exact q.st h
  · rw [if_neg (fun x => n2 x.1.2)] at q
    exact q.st h
  · rw [if_neg (fun x => n1 x.1.1)] at q
    exact q.st h
theorem y_ahead {d : Nat} {g : ts_G} {S : ts_S} {a1 a2 a3 : Int32} {hi : ts_I} {hk : ts_K} {Q : Int32 → ts_I → ts_K → Prop} (hM : ts_LM g) (hS : ts_SV S) (h : ts_MI S hi) (q : ts_QM (ts_s_ahead S a1 a2 a3) hi hk Q) : ts_E0 (d + 25) mX12_ahead [.ref 405, .int a1, .int a2, .int a3] g hi hk (ts_qi Q) := by
  refine ts_E0.of plX12_ahead rfl (Nat.le_of_ble_eq_true rfl) ?_
  refine wX12_ahead_0 ?_
  unfold ts_s_ahead at q
  have hok := hS.1.1
  have hc := hok.1
  refine ⟨hM.kd, c_isTurnip hM h.1 hc (fun h1 => ⟨fun e => absurd e (by decide), fun _ => c_inq (fun h2 => ⟨fun e => absurd e (by decide), fun _ => c_inq (fun h3 => ⟨fun _ => ?_, fun e => absurd (by decide) e⟩) (fun n3 => ⟨fun e => absurd rfl e, fun _ => ?_⟩)⟩) (fun n2 => ⟨fun _ => ?_, fun e => absurd rfl e⟩)⟩) (fun n1 => ⟨fun _ => ?_, fun e => absurd rfl e⟩)⟩
  · rw [if_pos ⟨⟨h1, h2⟩, h3⟩] at q
    obtain ⟨t, ht, rfl⟩ := h1.get hc
    obtain ⟨n, _, hn, rfl⟩ := ts_rg (a := 0) (b := 60) (by omega) h2.1 h2.2 (by omega)
    rw [ts_cl (n := t) (by omega), ts_cl (n := n) (by omega)] at q
    simp only [ts_LM.kd hM, ts_LM.o0 hM, ts_LM.k0 hM, ts_LM.l0 hM, ts_LM.o1 hM, ts_LM.k1 hM, ts_LM.l1 hM, ts_LM.o2 hM, ts_LM.k2 hM, ts_LM.l2 hM, ts_LM.o3 hM, ts_LM.k3 hM, ts_LM.l3 hM, ts_LM.o5 hM, ts_LM.k5 hM, ts_LM.l5 hM, ts_LM.o13 hM, ts_LM.k13 hM, ts_LM.l13 hM, ts_LM.o14 hM, ts_LM.k14 hM, ts_LM.l14 hM, ts_LM.o15 hM, ts_LM.k15 hM, ts_LM.l15 hM, ts_LM.o16 hM, ts_LM.k16 hM, ts_LM.l16 hM, ts_LM.o18 hM, ts_LM.k18 hM, ts_LM.l18 hM, ts_LM.o19 hM, ts_LM.k19 hM, ts_LM.l19 hM, ts_LM.o20 hM, ts_LM.k20 hM, ts_LM.l20 hM, ts_LM.o21 hM, ts_LM.k21 hM, ts_LM.l21 hM, ts_LM.o22 hM, ts_LM.k22 hM, ts_LM.l22 hM, ts_LM.o23 hM, ts_LM.k23 hM, ts_LM.l23 hM]
    refine ⟨by omega, by omega, y_tries hM hS h.1 (fun hi2 hR2 ho2 => c_goesOn hM hR2 hok (ts_y1 hS (by omega)) (fun hi3 hR3 ho3 => ?_))⟩
    have hM3 : ts_MI S hi3 := h.tri hS (fun b b1 b2 b3 b4 => by rw [ho3 b b1 b2, ho2 b b1])
    have hf : ∀ b, b ≤ 404 → hi3 b = hi b := fun b hb => by rw [ho3 b (by omega) (by omega), ho2 b (by omega)]
    have ht' : t < ts_pn S.A n 6 0 := by rw [(ts_pn_c S.A n).1]; exact ht
    have z := hR3.2.2.2.2 t ht'
    simp only [Nat.zero_add] at z
    simp only [ts_l4, ts_l6, ts_l2, ts_l1, pk_mul, nI_add]
    rw [ts_cl (by omega), ts_cl (by omega), z.2.1, z.2.2.1]
    refine ⟨fun c => ⟨trivial, ts_vin (by omega) (by omega), ?_⟩, fun c => ⟨trivial, ts_vin (by omega) (by omega), ?_⟩⟩
    · rw [if_neg c] at q
      exact q hi3 hM3 hf
    · rw [if_pos (Decidable.not_not.mp c)] at q
      exact q hi3 hM3 hf
  · rw [if_neg (fun x => n3 x.2)] at q
    exact q.st h
  · rw [if_neg (fun x => n2 x.1.2)] at q
    exact q.st h
  · rw [if_neg (fun x => n1 x.1.1)] at q
    exact q.st h
def ts_s_risen (S : ts_S) (a1 a2 : Int32) : Int32 × ts_S :=
  (if ts_T S.A a1 ∧ (0 ≤ a2 ∧ a2 ≤ 9) then (if ts_yu S.A a1.toNatClampNeg a2.toNatClampNeg = 1000 then -1000000 else nI (ts_yu S.A a1.toNatClampNeg a2.toNatClampNeg)) else -1000001, S)
theorem x_risen {d : Nat} {g : ts_G} {S : ts_S} {a1 a2 : Int32} {hi : ts_I} {hk : ts_K} {Q : Int32 → ts_I → ts_K → Prop} (hX : ts_LX g) (hS : ts_SV S) (h : ts_XI S hi hk) (q : ts_QX (ts_s_risen S a1 a2) hi Q) : ts_E0 (d + 25) mX11_risen [.ref 1, .int a1, .int a2] g hi hk (ts_qi Q) := by
  refine ts_E0.of plX11_risen rfl (Nat.le_of_ble_eq_true rfl) ?_
  refine wX11_risen_0 ?_
  unfold ts_s_risen at q
  refine ⟨hX.s0, c_XisTurnip hX h.1 (fun h1 => ⟨fun e => absurd e (by decide), fun _ => c_outside (fun h2 => ⟨fun _ => ?_, fun e => absurd rfl e⟩) (fun n2 => ⟨fun e => absurd e (by decide), fun _ => ?_⟩)⟩) (fun n1 => ⟨fun _ => ?_, fun e => absurd rfl e⟩)⟩
  · rw [if_pos ⟨h1, h2⟩] at q
    have hok := hS.1.1
    obtain ⟨t, ht, rfl⟩ := h1.get hok.1
    obtain ⟨n, _, hn, rfl⟩ := ts_rg (a := 0) (b := 9) (by omega) h2.1 h2.2 (by omega)
    have hc := hok.1
    rw [ts_cl (n := t) (by omega), ts_cl (n := n) (by omega)] at q
    simp only [ts_LX.s0 hX, ts_LX.s1 hX, ts_LX.s2 hX, ts_LX.s3 hX, ts_LX.s4 hX, ts_LX.s5 hX, ts_LX.s6 hX, ts_LX.s7 hX, ts_LX.s8 hX, ts_LX.s9 hX, ts_LX.s10 hX, ts_LX.s11 hX, ts_LX.s12 hX, ts_LX.s13 hX, ts_LX.s14 hX, ts_LX.s15 hX, ts_LX.s16 hX, ts_LX.s17 hX, ts_LX.s18 hX, ts_LX.s19 hX, ts_LX.s20 hX, ts_LX.s21 hX, ts_LX.s22 hX, ts_LX.s23 hX, ts_LX.s24 hX, ts_LX.s25 hX, ts_LX.s26 hX, ts_LX.s27 hX, ts_LX.s28 hX, ts_LX.s29 hX, ts_LX.s30 hX, ts_LX.s31 hX, ts_LX.s32 hX, ts_LX.s33 hX, ts_LX.s34 hX, ts_LX.s35 hX, ts_LX.s36 hX, ts_LX.s37 hX, ts_LX.s38 hX]
    exact ⟨by omega, trivial, c_yearsUntil hX h.1 (h.fk (j := 26) (by omega)) hok (ts_y1 hS (by omega)) ht hn (fun hi2 hk2 hK ho hok2 => q hi2 hk2 (h.tri hK (fun b hb => ho b (by omega)) hok2) (fun b hb => ho b (by omega)))⟩
  · rw [if_neg (fun x => n2 x.2)] at q
    exact q.st h
  · rw [if_neg (fun x => n1 x.1)] at q
    exact q.st h
theorem y_risen {d : Nat} {g : ts_G} {S : ts_S} {a1 a2 : Int32} {hi : ts_I} {hk : ts_K} {Q : Int32 → ts_I → ts_K → Prop} (hM : ts_LM g) (hS : ts_SV S) (h : ts_MI S hi) (q : ts_QM (ts_s_risen S a1 a2) hi hk Q) : ts_E0 (d + 25) mX12_risen [.ref 405, .int a1, .int a2] g hi hk (ts_qi Q) := by
  refine ts_E0.of plX12_risen rfl (Nat.le_of_ble_eq_true rfl) ?_
  refine wX12_risen_0 ?_
  unfold ts_s_risen at q
  have hok := hS.1.1
  have hc := hok.1
  refine ⟨hM.kd, c_isTurnip hM h.1 hc (fun h1 => ⟨fun e => absurd e (by decide), fun _ => c_inq (fun h2 => ⟨fun _ => ?_, fun e => absurd (by decide) e⟩) (fun n2 => ⟨fun e => absurd rfl e, fun _ => ?_⟩)⟩) (fun n1 => ⟨fun _ => ?_, fun e => absurd rfl e⟩)⟩
  · rw [if_pos ⟨h1, h2⟩] at q
    obtain ⟨t, ht, rfl⟩ := h1.get hc
    obtain ⟨r, _, hr, rfl⟩ := ts_rg (a := 0) (b := 9) (by omega) h2.1 h2.2 (by omega)
    rw [ts_cl (n := t) (by omega), ts_cl (n := r) (by omega)] at q
    simp only [ts_LM.kd hM, ts_LM.o0 hM, ts_LM.k0 hM, ts_LM.l0 hM, ts_LM.o1 hM, ts_LM.k1 hM, ts_LM.l1 hM, ts_LM.o2 hM, ts_LM.k2 hM, ts_LM.l2 hM, ts_LM.o3 hM, ts_LM.k3 hM, ts_LM.l3 hM, ts_LM.o5 hM, ts_LM.k5 hM, ts_LM.l5 hM, ts_LM.o13 hM, ts_LM.k13 hM, ts_LM.l13 hM, ts_LM.o14 hM, ts_LM.k14 hM, ts_LM.l14 hM, ts_LM.o15 hM, ts_LM.k15 hM, ts_LM.l15 hM, ts_LM.o16 hM, ts_LM.k16 hM, ts_LM.l16 hM, ts_LM.o18 hM, ts_LM.k18 hM, ts_LM.l18 hM, ts_LM.o19 hM, ts_LM.k19 hM, ts_LM.l19 hM, ts_LM.o20 hM, ts_LM.k20 hM, ts_LM.l20 hM, ts_LM.o21 hM, ts_LM.k21 hM, ts_LM.l21 hM, ts_LM.o22 hM, ts_LM.k22 hM, ts_LM.l22 hM, ts_LM.o23 hM, ts_LM.k23 hM, ts_LM.l23 hM]
    refine ⟨by omega, by omega, y_tries hM hS h.1 (fun hi2 hR2 ho2 => ?_)⟩
    have L : ∀ m n hi', n + m = 61 → ts_MR 413 0 (ts_pn S.A n) hi' → (∀ b, b ≠ 413 → b ≠ 417 → hi' b = hi b) → ts_fd (fun i => decide (r ≤ ts_pn S.A i 1 t)) m n = ts_yu S.A t r → ts_J0 (d + 25) mX12_risen (ts_qi Q) g 36 [(0, .ref 405), (1, .int (nI t)), (2, .int (nI r)), (3, .int (nI n))] [] hi' hk := by
      intro m
      induction m with
      | zero =>
        intro n hi' hnm hR hO hf
        refine wX12_risen_36 ?_
        rw [show (61 : Int32) = nI 61 from rfl, ts_le (by omega) (by omega)]
        refine ⟨fun _ => ?_, fun e => absurd (by omega) e⟩
        rw [ts_fd] at hf
        rw [← hf, if_pos rfl] at q
        exact q hi' (h.tri hS (fun b b1 b2 _ _ => hO b b1 b2)) (fun b hb => hO b (by omega) (by omega))
      | succ m ih =>
        intro n hi' hnm hR hO hf
        refine wX12_risen_36 ?_
        have ht' : t < ts_pn S.A n 6 0 := by rw [(ts_pn_c S.A n).1]; exact ht
        have hokn := ts_pn_ok hok n (ts_y1 hS (by omega))
        have hrk := (hokn.2.2.2.2 t ht').2.1
        have z := (hR.2.2.2.2 t ht').2.1
        rw [Nat.zero_add] at z
        simp only [ts_LM.kd hM, ts_LM.o0 hM, ts_LM.k0 hM, ts_LM.l0 hM, ts_LM.o1 hM, ts_LM.k1 hM, ts_LM.l1 hM, ts_LM.o2 hM, ts_LM.k2 hM, ts_LM.l2 hM, ts_LM.o3 hM, ts_LM.k3 hM, ts_LM.l3 hM, ts_LM.o5 hM, ts_LM.k5 hM, ts_LM.l5 hM, ts_LM.o13 hM, ts_LM.k13 hM, ts_LM.l13 hM, ts_LM.o14 hM, ts_LM.k14 hM, ts_LM.l14 hM, ts_LM.o15 hM, ts_LM.k15 hM, ts_LM.l15 hM, ts_LM.o16 hM, ts_LM.k16 hM, ts_LM.l16 hM, ts_LM.o18 hM, ts_LM.k18 hM, ts_LM.l18 hM, ts_LM.o19 hM, ts_LM.k19 hM, ts_LM.l19 hM, ts_LM.o20 hM, ts_LM.k20 hM, ts_LM.l20 hM, ts_LM.o21 hM, ts_LM.k21 hM, ts_LM.l21 hM, ts_LM.o22 hM, ts_LM.k22 hM, ts_LM.l22 hM, ts_LM.o23 hM, ts_LM.k23 hM, ts_LM.l23 hM]
        simp only [ts_l4, ts_l6, ts_l1, pk_mul, nI_add]
        rw [show (61 : Int32) = nI 61 from rfl, ts_le (by omega) (by omega), ts_cl (by omega), z, ts_lt (by omega) (by omega)]
        rw [ts_fd] at hf
        refine ⟨fun e => absurd e (by omega), fun _ => ⟨trivial, by omega, trivial, ts_vin (by omega) (by omega), fun c => ?_, fun c => ?_⟩⟩
        · rw [if_neg (by simp; omega)] at hf
          exact c_passes hM hM.k15 hM.l15 (by omega) hR hokn (fun hi3 hR3 o3 => ih (n + 1) hi3 (by omega) hR3 (fun b b1 b2 => by rw [o3 b b1 b2, hO b b1 b2]) hf)
        · rw [if_pos (by simp; omega)] at hf
          rw [← hf, if_neg (by omega)] at q
          exact q hi' (h.tri hS (fun b b1 b2 _ _ => hO b b1 b2)) (fun b hb => hO b (by omega) (by omega))
    exact L 61 0 hi2 (by omega) hR2 (fun b b1 _ => ho2 b b1) rfl
  · rw [if_neg (fun x => n2 x.2)] at q
    exact q.st h
  · rw [if_neg (fun x => n1 x.1)] at q
    exact q.st h
def ts_s_squire (S : ts_S) (a1 : Int32) : Int32 × ts_S :=
  (if S.A 6 0 = 0 then -1000002 else if 0 ≤ a1 ∧ a1 ≤ 1 then (if ts_sy S.A = 1000 then -1000000 else if a1 = 0 then nI (ts_s9 (ts_pn S.A (ts_sy S.A))) else nI (ts_sy S.A)) else -1000001, S)
theorem ts_nm1 {n : Nat} (h : n < 2147483648) : nI n ≠ (-1 : Int32) := by
  intro e
  have h1 := congrArg Int32.toInt e
  rw [nI_toInt h, show (-1 : Int32).toInt = -1 from by decide] at h1
  omega
theorem ts_s9_lt {A : ts_A} (hc : A 6 0 ≤ 7) (h : ts_s9 A ≠ 1000) : ts_s9 A < A 6 0 := by
  have := (ts_fd_lt h).1
  unfold ts_s9
  omega
theorem ts_sy_s9 {A : ts_A} (h : ts_sy A ≠ 1000) : ts_sy A < 61 ∧ ts_s9 (ts_pn A (ts_sy A)) ≠ 1000 := by
  have z := ts_fd_lt h
  have z2 : decide (ts_s9 (ts_pn A (ts_sy A)) ≠ 1000) = true := z.2
  have z1 : ts_sy A < 0 + 61 := z.1
  exact ⟨by omega, of_decide_eq_true z2⟩
theorem x_squire {d : Nat} {g : ts_G} {S : ts_S} {a1 : Int32} {hi : ts_I} {hk : ts_K} {Q : Int32 → ts_I → ts_K → Prop} (hX : ts_LX g) (hS : ts_SV S) (h : ts_XI S hi hk) (q : ts_QX (ts_s_squire S a1) hi Q) : ts_E0 (d + 25) mX11_squire [.ref 1, .int a1] g hi hk (ts_qi Q) := by
  refine ts_E0.of plX11_squire rfl (Nat.le_of_ble_eq_true rfl) ?_
  refine wX11_squire_0 ?_
  unfold ts_s_squire at q
  have hok := hS.1.1
  have hc := hok.1
  have hF := hX.now
  simp only [ts_LX.s0 hX, ts_LX.s1 hX, ts_LX.s2 hX, ts_LX.s3 hX, ts_LX.s4 hX, ts_LX.s5 hX, ts_LX.s6 hX, ts_LX.s7 hX, ts_LX.s8 hX, ts_LX.s9 hX, ts_LX.s10 hX, ts_LX.s11 hX, ts_LX.s12 hX, ts_LX.s13 hX, ts_LX.s14 hX, ts_LX.s15 hX, ts_LX.s16 hX, ts_LX.s17 hX, ts_LX.s18 hX, ts_LX.s19 hX, ts_LX.s20 hX, ts_LX.s21 hX, ts_LX.s22 hX, ts_LX.s23 hX, ts_LX.s24 hX, ts_LX.s25 hX, ts_LX.s26 hX, ts_LX.s27 hX, ts_LX.s28 hX, ts_LX.s29 hX, ts_LX.s30 hX, ts_LX.s31 hX, ts_LX.s32 hX, ts_LX.s33 hX, ts_LX.s34 hX, ts_LX.s35 hX, ts_LX.s36 hX, ts_LX.s37 hX, ts_LX.s38 hX, ts_FL.kd hF, ts_FL.k1 hF, ts_FL.k2 hF, ts_FL.k3 hF, ts_FL.k4 hF, ts_FL.k5 hF, ts_FL.k6 hF, ts_FL.k7 hF, ts_FL.k8 hF, ts_FL.k9 hF, ts_FL.l1 hF, ts_FL.l2 hF, ts_FL.l3 hF, ts_FL.l4 hF, ts_FL.l5 hF, ts_FL.l6 hF, ts_FL.l7 hF, ts_FL.l8 hF, ts_FL.l9 hF, ts_FL.o0 hF, ts_FL.o1 hF, ts_FL.o2 hF, ts_FL.o3 hF, ts_FL.o4 hF, ts_FL.o5 hF, ts_FL.o6 hF, ts_FL.o7 hF, ts_FL.o8 hF]
  rw [h.1.1, ts_l0, ts_ne (by omega) (by omega)]
  refine ⟨trivial, by omega, trivial, fun c => ?_, fun c => ?_⟩
  · rw [if_neg c] at q
    refine c_outside (fun h1 => ⟨fun _ => ?_, fun e => absurd rfl e⟩) (fun n1 => ⟨fun e => absurd e (by decide), fun _ => ?_⟩)
    · replace h1 : 0 ≤ a1 ∧ a1 ≤ 1 := h1
      rw [if_pos h1] at q
      refine ⟨by omega, trivial, c_firstSquire hX h.1 (h.fk (j := 26) (by omega)) hok (ts_y1 hS (by omega)) (fun hi2 hk2 hK ho hok2 h7 => ?_)⟩
      have hX2 := h.tri hK (fun b hb => ho b (by omega) (by omega)) hok2
      have hf : ∀ b, 404 < b → hi2 b = hi b := fun b hb => ho b (by omega) (by omega)
      by_cases c2 : ts_sy S.A = 1000
      · rw [if_pos c2] at q ⊢
        exact ⟨fun e => absurd rfl e, fun _ => q hi2 hk2 hX2 hf⟩
      · rw [if_neg c2] at q ⊢
        obtain ⟨w1, w2⟩ := ts_sy_s9 c2
        have w3 := ts_s9_lt (by rw [(ts_pn_c S.A _).1]; exact hc) w2
        rw [(ts_pn_c S.A _).1] at w3
        refine ⟨fun _ => ⟨fun c3 => ?_, fun c3 => ?_⟩, fun e => absurd (ts_nm1 (by omega)) e⟩
        · replace c3 : ¬ a1 = 0 := c3
          rw [if_neg c3] at q
          rw [h7 c2]
          exact q hi2 hk2 hX2 hf
        · replace c3 : ¬ ¬ a1 = 0 := c3
          rw [if_pos (Decidable.not_not.mp c3)] at q
          exact q hi2 hk2 hX2 hf
    · replace n1 : ¬ (0 ≤ a1 ∧ a1 ≤ 1) := n1
      rw [if_neg n1] at q
      exact q.st h
  · rw [if_pos (Decidable.not_not.mp c)] at q
    exact q.st h
theorem y_squire {d : Nat} {g : ts_G} {S : ts_S} {a1 : Int32} {hi : ts_I} {hk : ts_K} {Q : Int32 → ts_I → ts_K → Prop} (hM : ts_LM g) (hS : ts_SV S) (h : ts_MI S hi) (q : ts_QM (ts_s_squire S a1) hi hk Q) : ts_E0 (d + 25) mX12_squire [.ref 405, .int a1] g hi hk (ts_qi Q) := by
  refine ts_E0.of plX12_squire rfl (Nat.le_of_ble_eq_true rfl) ?_
  refine wX12_squire_0 ?_
  unfold ts_s_squire at q
  have hok := hS.1.1
  have hc := hok.1
  refine ⟨hM.kd, y_isField hM hS h (fun c => ⟨fun _ => ?_, fun e => absurd (by decide) e⟩) (fun c => ⟨fun e => absurd rfl e, fun _ => ?_⟩)⟩
  · rw [if_neg c] at q
    refine c_inq (fun h1 => ⟨fun _ => ?_, fun e => absurd (by decide) e⟩) (fun n1 => ⟨fun e => absurd rfl e, fun _ => ?_⟩)
    · rw [if_pos h1] at q
      simp only [ts_LM.kd hM, ts_LM.o0 hM, ts_LM.k0 hM, ts_LM.l0 hM, ts_LM.o1 hM, ts_LM.k1 hM, ts_LM.l1 hM, ts_LM.o2 hM, ts_LM.k2 hM, ts_LM.l2 hM, ts_LM.o3 hM, ts_LM.k3 hM, ts_LM.l3 hM, ts_LM.o5 hM, ts_LM.k5 hM, ts_LM.l5 hM, ts_LM.o13 hM, ts_LM.k13 hM, ts_LM.l13 hM, ts_LM.o14 hM, ts_LM.k14 hM, ts_LM.l14 hM, ts_LM.o15 hM, ts_LM.k15 hM, ts_LM.l15 hM, ts_LM.o16 hM, ts_LM.k16 hM, ts_LM.l16 hM, ts_LM.o18 hM, ts_LM.k18 hM, ts_LM.l18 hM, ts_LM.o19 hM, ts_LM.k19 hM, ts_LM.l19 hM, ts_LM.o20 hM, ts_LM.k20 hM, ts_LM.l20 hM, ts_LM.o21 hM, ts_LM.k21 hM, ts_LM.l21 hM, ts_LM.o22 hM, ts_LM.k22 hM, ts_LM.l22 hM, ts_LM.o23 hM, ts_LM.k23 hM, ts_LM.l23 hM]
      refine ⟨by omega, by omega, y_tries hM hS h.1 (fun hi2 hR2 ho2 => ?_)⟩
      have r2 := h.1.2.2.1
      rw [Nat.zero_add] at r2
      have L : ∀ m n hi', n + m = 61 → ts_MR 413 0 (ts_pn S.A n) hi' → (∀ b, b ≠ 413 → b ≠ 417 → hi' b = hi b) → ts_fd (fun i => decide (ts_s9 (ts_pn S.A i) ≠ 1000)) m n = ts_sy S.A → ts_J0 (d + 25) mX12_squire (ts_qi Q) g 37 [(0, .ref 405), (1, .int a1), (2, .int (nI n))] [] hi' hk := by
        intro m
        induction m with
        | zero =>
          intro n hi' hnm hR hO hf
          refine wX12_squire_37 ?_
          rw [show (61 : Int32) = nI 61 from rfl, ts_le (by omega) (by omega)]
          refine ⟨fun _ => ?_, fun e => absurd (by omega) e⟩
          rw [ts_fd] at hf
          rw [if_pos hf.symm] at q
          exact q hi' (h.tri hS (fun b b1 b2 _ _ => hO b b1 b2)) (fun b hb => hO b (by omega) (by omega))
        | succ m ih =>
          intro n hi' hnm hR hO hf
          refine wX12_squire_37 ?_
          rw [show (61 : Int32) = nI 61 from rfl, ts_le (by omega) (by omega)]
          refine ⟨fun e => absurd e (by omega), fun _ => ?_⟩
          have hcn := (ts_pn_c S.A n).1
          have hokn := ts_pn_ok hok n (ts_y1 hS (by omega))
          rw [ts_fd] at hf
          have L2 : ∀ k t, t + k = S.A 6 0 → ts_fd (fun t => decide (ts_pn S.A n 1 t = 9)) k t = ts_s9 (ts_pn S.A n) → ts_J0 (d + 25) mX12_squire (ts_qi Q) g 45 [(0, .ref 405), (1, .int a1), (2, .int (nI n)), (3, .int (nI t))] [] hi' hk := by
            intro k
            induction k with
            | zero =>
              intro t htk hf2
              refine wX12_squire_45 ?_
              simp only [ts_LM.kd hM, ts_LM.o0 hM, ts_LM.k0 hM, ts_LM.l0 hM, ts_LM.o1 hM, ts_LM.k1 hM, ts_LM.l1 hM, ts_LM.o2 hM, ts_LM.k2 hM, ts_LM.l2 hM, ts_LM.o3 hM, ts_LM.k3 hM, ts_LM.l3 hM, ts_LM.o5 hM, ts_LM.k5 hM, ts_LM.l5 hM, ts_LM.o13 hM, ts_LM.k13 hM, ts_LM.l13 hM, ts_LM.o14 hM, ts_LM.k14 hM, ts_LM.l14 hM, ts_LM.o15 hM, ts_LM.k15 hM, ts_LM.l15 hM, ts_LM.o16 hM, ts_LM.k16 hM, ts_LM.l16 hM, ts_LM.o18 hM, ts_LM.k18 hM, ts_LM.l18 hM, ts_LM.o19 hM, ts_LM.k19 hM, ts_LM.l19 hM, ts_LM.o20 hM, ts_LM.k20 hM, ts_LM.l20 hM, ts_LM.o21 hM, ts_LM.k21 hM, ts_LM.l21 hM, ts_LM.o22 hM, ts_LM.k22 hM, ts_LM.l22 hM, ts_LM.o23 hM, ts_LM.k23 hM, ts_LM.l23 hM]
              rw [show (2 : Int32).toNatClampNeg = 2 from rfl, hO 411 (by omega) (by omega), r2, ts_le (by omega) (by omega)]
              refine ⟨trivial, by omega, trivial, ts_vin (i := 2) (by omega) (by omega), fun _ => ⟨by omega, ?_⟩, fun e => absurd (by omega) e⟩
              rw [ts_fd] at hf2
              rw [if_neg (by rw [← hf2]; decide)] at hf
              rw [ts_l1, nI_add]
              exact c_passes hM hM.k15 hM.l15 (by omega) hR hokn (fun hi3 hR3 o3 => ih (n + 1) hi3 (by omega) hR3 (fun b b1 b2 => by rw [o3 b b1 b2, hO b b1 b2]) hf)
            | succ k ih2 =>
              intro t htk hf2
              refine wX12_squire_45 ?_
              have ht' : t < ts_pn S.A n 6 0 := by omega
              have hrk := (hokn.2.2.2.2 t ht').2.1
              have z := (hR.2.2.2.2 t ht').2.1
              rw [Nat.zero_add] at z
              simp only [ts_LM.kd hM, ts_LM.o0 hM, ts_LM.k0 hM, ts_LM.l0 hM, ts_LM.o1 hM, ts_LM.k1 hM, ts_LM.l1 hM, ts_LM.o2 hM, ts_LM.k2 hM, ts_LM.l2 hM, ts_LM.o3 hM, ts_LM.k3 hM, ts_LM.l3 hM, ts_LM.o5 hM, ts_LM.k5 hM, ts_LM.l5 hM, ts_LM.o13 hM, ts_LM.k13 hM, ts_LM.l13 hM, ts_LM.o14 hM, ts_LM.k14 hM, ts_LM.l14 hM, ts_LM.o15 hM, ts_LM.k15 hM, ts_LM.l15 hM, ts_LM.o16 hM, ts_LM.k16 hM, ts_LM.l16 hM, ts_LM.o18 hM, ts_LM.k18 hM, ts_LM.l18 hM, ts_LM.o19 hM, ts_LM.k19 hM, ts_LM.l19 hM, ts_LM.o20 hM, ts_LM.k20 hM, ts_LM.l20 hM, ts_LM.o21 hM, ts_LM.k21 hM, ts_LM.l21 hM, ts_LM.o22 hM, ts_LM.k22 hM, ts_LM.l22 hM, ts_LM.o23 hM, ts_LM.k23 hM, ts_LM.l23 hM]
              simp only [ts_l4, ts_l6, ts_l1, ts_l9, pk_mul, nI_add]
              rw [show (2 : Int32).toNatClampNeg = 2 from rfl, hO 411 (by omega) (by omega), r2, ts_le (by omega) (by omega), ts_cl (by omega), z, ts_ne (by omega) (by omega)]
              rw [ts_fd] at hf2
              refine ⟨trivial, by omega, trivial, ts_vin (i := 2) (by omega) (by omega), fun e => absurd e (by omega), fun _ => ⟨by omega, trivial, ts_vin (by omega) (by omega), fun c2 => ?_, fun c2 => ?_⟩⟩
              · rw [if_neg (by simp; exact c2)] at hf2
                exact ih2 (t + 1) (by omega) hf2
              · rw [if_pos (by simp; exact Decidable.not_not.mp c2)] at hf2
                rw [if_pos (by rw [← hf2]; simp; omega)] at hf
                rw [← hf, if_neg (by omega), ← hf2] at q
                refine ⟨fun c3 => ?_, fun c3 => ?_⟩
                · rw [if_neg c3] at q
                  exact q hi' (h.tri hS (fun b b1 b2 _ _ => hO b b1 b2)) (fun b hb => hO b (by omega) (by omega))
                · rw [if_pos (Decidable.not_not.mp c3)] at q
                  exact q hi' (h.tri hS (fun b b1 b2 _ _ => hO b b1 b2)) (fun b hb => hO b (by omega) (by omega))
          exact L2 (S.A 6 0) 0 (by omega) (by unfold ts_s9; rw [hcn])
      exact L 61 0 hi2 (by omega) hR2 (fun b b1 _ => ho2 b b1) rfl
    · rw [if_neg n1] at q
      exact q.st h
  · rw [if_pos c] at q
    exact q.st h
def ts_s_power (S : ts_S) (a1 : Int32) : Int32 × ts_S := (if ts_T S.A a1 then nI (ts_pw S.A a1.toNatClampNeg) else -1000001, S)
theorem x_power {d : Nat} {g : ts_G} {S : ts_S} {a1 : Int32} {hi : ts_I} {hk : ts_K} {Q : Int32 → ts_I → ts_K → Prop} (hX : ts_LX g) (hS : ts_SV S) (h : ts_XI S hi hk) (q : ts_QX (ts_s_power S a1) hi Q) : ts_E0 (d + 25) mX11_power [.ref 1, .int a1] g hi hk (ts_qi Q) := by
  refine ts_E0.of plX11_power rfl (Nat.le_of_ble_eq_true rfl) ?_
  refine wX11_power_0 ?_
  unfold ts_s_power at q
  refine ⟨hX.s0, c_XisTurnip hX h.1 (fun h1 => ⟨fun e => absurd e (by decide), fun _ => ?_⟩) (fun n1 => ⟨fun _ => ?_, fun e => absurd rfl e⟩)⟩
  · rw [if_pos h1] at q
    have hok := hS.1.1
    obtain ⟨t, ht, rfl⟩ := h1.get hok.1
    have hc := hok.1
    have hF := hX.now
    rw [ts_cl (by omega)] at q
    simp only [ts_LX.s0 hX, ts_LX.s1 hX, ts_LX.s2 hX, ts_LX.s3 hX, ts_LX.s4 hX, ts_LX.s5 hX, ts_LX.s6 hX, ts_LX.s7 hX, ts_LX.s8 hX, ts_LX.s9 hX, ts_LX.s10 hX, ts_LX.s11 hX, ts_LX.s12 hX, ts_LX.s13 hX, ts_LX.s14 hX, ts_LX.s15 hX, ts_LX.s16 hX, ts_LX.s17 hX, ts_LX.s18 hX, ts_LX.s19 hX, ts_LX.s20 hX, ts_LX.s21 hX, ts_LX.s22 hX, ts_LX.s23 hX, ts_LX.s24 hX, ts_LX.s25 hX, ts_LX.s26 hX, ts_LX.s27 hX, ts_LX.s28 hX, ts_LX.s29 hX, ts_LX.s30 hX, ts_LX.s31 hX, ts_LX.s32 hX, ts_LX.s33 hX, ts_LX.s34 hX, ts_LX.s35 hX, ts_LX.s36 hX, ts_LX.s37 hX, ts_LX.s38 hX]
    exact ⟨by omega, hF.kd, c_turnedBy hF h.1 hok ht (q.st h)⟩
  · rw [if_neg n1] at q
    exact q.st h
theorem ts_pwf_le (A : ts_A) (t s : Nat) : ts_pwf A t s ≤ 1 := by unfold ts_pwf; split <;> omega
theorem y_power {d : Nat} {g : ts_G} {S : ts_S} {a1 : Int32} {hi : ts_I} {hk : ts_K} {Q : Int32 → ts_I → ts_K → Prop} (hM : ts_LM g) (hS : ts_SV S) (h : ts_MI S hi) (q : ts_QM (ts_s_power S a1) hi hk Q) : ts_E0 (d + 25) mX12_power [.ref 405, .int a1] g hi hk (ts_qi Q) := by
  refine ts_E0.of plX12_power rfl (Nat.le_of_ble_eq_true rfl) ?_
  refine wX12_power_0 ?_
  unfold ts_s_power at q
  have hok := hS.1.1
  have hc := hok.1
  refine ⟨hM.kd, c_isTurnip hM h.1 hc (fun h1 => ⟨fun _ => ?_, fun e => absurd (by decide) e⟩) (fun n1 => ⟨fun e => absurd rfl e, fun _ => ?_⟩)⟩
  · rw [if_pos h1] at q
    obtain ⟨t, ht, rfl⟩ := h1.get hc
    rw [ts_cl (by omega)] at q
    have r2 := h.1.2.2.1
    rw [Nat.zero_add] at r2
    have hp := ts_p128 hc
    have L : ∀ m s, s + m = 2 ^ S.A 6 0 → ts_J0 (d + 25) mX12_power (ts_qi Q) g 15 [(0, .ref 405), (1, .int (nI t)), (2, .int (nI (ts_sm (ts_pwf S.A t) s))), (3, .int (nI s))] [] hi hk := by
      intro m
      induction m with
      | zero =>
        intro s hsm
        refine wX12_power_15 ?_
        simp only [ts_LM.kd hM, ts_LM.o0 hM, ts_LM.k0 hM, ts_LM.l0 hM, ts_LM.o1 hM, ts_LM.k1 hM, ts_LM.l1 hM, ts_LM.o2 hM, ts_LM.k2 hM, ts_LM.l2 hM, ts_LM.o3 hM, ts_LM.k3 hM, ts_LM.l3 hM, ts_LM.o5 hM, ts_LM.k5 hM, ts_LM.l5 hM, ts_LM.o13 hM, ts_LM.k13 hM, ts_LM.l13 hM, ts_LM.o14 hM, ts_LM.k14 hM, ts_LM.l14 hM, ts_LM.o15 hM, ts_LM.k15 hM, ts_LM.l15 hM, ts_LM.o16 hM, ts_LM.k16 hM, ts_LM.l16 hM, ts_LM.o18 hM, ts_LM.k18 hM, ts_LM.l18 hM, ts_LM.o19 hM, ts_LM.k19 hM, ts_LM.l19 hM, ts_LM.o20 hM, ts_LM.k20 hM, ts_LM.l20 hM, ts_LM.o21 hM, ts_LM.k21 hM, ts_LM.l21 hM, ts_LM.o22 hM, ts_LM.k22 hM, ts_LM.l22 hM, ts_LM.o23 hM, ts_LM.k23 hM, ts_LM.l23 hM]
        rw [show (2 : Int32).toNatClampNeg = 2 from rfl, r2, ts_shl1 _ (by omega), ts_le (by omega) (by omega)]
        refine ⟨trivial, by omega, trivial, ts_vin (i := 2) (by omega) (by omega), fun _ => ?_, fun e => absurd (by omega) e⟩
        rw [show s = 2 ^ S.A 6 0 by omega]
        exact q.st h
      | succ m ih =>
        intro s hsm
        refine wX12_power_15 ?_
        simp only [ts_LM.kd hM, ts_LM.o0 hM, ts_LM.k0 hM, ts_LM.l0 hM, ts_LM.o1 hM, ts_LM.k1 hM, ts_LM.l1 hM, ts_LM.o2 hM, ts_LM.k2 hM, ts_LM.l2 hM, ts_LM.o3 hM, ts_LM.k3 hM, ts_LM.l3 hM, ts_LM.o5 hM, ts_LM.k5 hM, ts_LM.l5 hM, ts_LM.o13 hM, ts_LM.k13 hM, ts_LM.l13 hM, ts_LM.o14 hM, ts_LM.k14 hM, ts_LM.l14 hM, ts_LM.o15 hM, ts_LM.k15 hM, ts_LM.l15 hM, ts_LM.o16 hM, ts_LM.k16 hM, ts_LM.l16 hM, ts_LM.o18 hM, ts_LM.k18 hM, ts_LM.l18 hM, ts_LM.o19 hM, ts_LM.k19 hM, ts_LM.l19 hM, ts_LM.o20 hM, ts_LM.k20 hM, ts_LM.l20 hM, ts_LM.o21 hM, ts_LM.k21 hM, ts_LM.l21 hM, ts_LM.o22 hM, ts_LM.k22 hM, ts_LM.l22 hM, ts_LM.o23 hM, ts_LM.k23 hM, ts_LM.l23 hM]
        rw [show (2 : Int32).toNatClampNeg = 2 from rfl, r2, ts_shl1 _ (by omega), ts_shl1 _ (by omega), ts_le (by omega) (by omega)]
        have z := ih (s + 1) (by omega)
        rw [ts_sm] at z
        have no : ts_pwf S.A t s = 0 → ts_J0 (d + 25) mX12_power (ts_qi Q) g 15 [(0, .ref 405), (1, .int (nI t)), (2, .int (nI (ts_sm (ts_pwf S.A t) s) + 0)), (3, .int (nI s + 1))] [] hi hk := fun e => by
          rw [e] at z
          rw [ts_l0, ts_l1, nI_add, nI_add]
          exact z
        refine ⟨trivial, by omega, trivial, ts_vin (i := 2) (by omega) (by omega), fun e => absurd e (by omega), fun _ => c_has (by omega) (by omega) ?_⟩
        rw [ts_l0, ts_ne (by omega) (by omega)]
        refine ⟨fun c => no (by unfold ts_pwf; rw [if_neg (by omega)]), fun c => c_wins hM h.1 hok (by omega) ?_⟩
        have hb : s / 2 ^ t % 2 = 0 := by omega
        by_cases c1 : ts_rk S.A < 2 * ts_vt S.A s
        · rw [if_pos c1]
          exact ⟨fun _ => no (by unfold ts_pwf; rw [if_neg (by omega)]), fun e => absurd (by decide) e⟩
        · rw [if_neg c1]
          refine ⟨fun e => absurd rfl e, fun _ => ?_⟩
          rw [ts_or128 s (by omega) t (by omega) hb]
          have hs2 : s + 2 ^ t < 2147483648 := by
            have := ts_p128 (c := t) (by omega)
            omega
          refine c_wins hM h.1 hok hs2 ?_
          rw [ts_vt_add hc (by omega) ht hb]
          by_cases c2 : ts_rk S.A < 2 * (ts_vt S.A s + S.A 1 t)
          · rw [if_pos c2]
            refine ⟨fun e => absurd e (by decide), fun _ => ?_⟩
            have e : ts_pwf S.A t s = 1 := by unfold ts_pwf; rw [if_pos ⟨hb, by omega, c2⟩]
            rw [e] at z
            rw [ts_l1, nI_add, nI_add]
            exact z
          · rw [if_neg c2]
            exact ⟨fun _ => no (by unfold ts_pwf; rw [if_neg (fun x => c2 x.2.2)]), fun e => absurd rfl e⟩
    exact L (2 ^ S.A 6 0) 0 (by omega)
  · rw [if_neg n1] at q
    exact q.st h
def ts_s_blocs (S : ts_S) (a1 : Int32) : Int32 × ts_S :=
  (if S.A 6 0 = 0 then -1000002 else if 0 ≤ a1 ∧ a1 ≤ 1 then (if ts_bl S.A (2 ^ S.A 6 0) = 0 then -1000000 else if a1 = 0 then nI (ts_pc (ts_bl S.A (2 ^ S.A 6 0))) else nI (ts_bl S.A (2 ^ S.A 6 0))) else -1000001, S)
theorem ts_bl_lt (A : ts_A) (n : Nat) : ts_bl A n = 0 ∨ ts_bl A n < n := by
  induction n with
  | zero => exact Or.inl rfl
  | succ n ih =>
    rw [ts_bl]
    split
    · exact Or.inr (by omega)
    · rcases ih with e | e
      · exact Or.inl e
      · exact Or.inr (by omega)
theorem x_blocs {d : Nat} {g : ts_G} {S : ts_S} {a1 : Int32} {hi : ts_I} {hk : ts_K} {Q : Int32 → ts_I → ts_K → Prop} (hX : ts_LX g) (hS : ts_SV S) (h : ts_XI S hi hk) (q : ts_QX (ts_s_blocs S a1) hi Q) : ts_E0 (d + 25) mX11_blocs [.ref 1, .int a1] g hi hk (ts_qi Q) := by
  refine ts_E0.of plX11_blocs rfl (Nat.le_of_ble_eq_true rfl) ?_
  refine wX11_blocs_0 ?_
  unfold ts_s_blocs at q
  have hok := hS.1.1
  have hc := hok.1
  have hF := hX.now
  have hp := ts_p128 hc
  have hb := ts_bl_lt S.A (2 ^ S.A 6 0)
  simp only [ts_LX.s0 hX, ts_LX.s1 hX, ts_LX.s2 hX, ts_LX.s3 hX, ts_LX.s4 hX, ts_LX.s5 hX, ts_LX.s6 hX, ts_LX.s7 hX, ts_LX.s8 hX, ts_LX.s9 hX, ts_LX.s10 hX, ts_LX.s11 hX, ts_LX.s12 hX, ts_LX.s13 hX, ts_LX.s14 hX, ts_LX.s15 hX, ts_LX.s16 hX, ts_LX.s17 hX, ts_LX.s18 hX, ts_LX.s19 hX, ts_LX.s20 hX, ts_LX.s21 hX, ts_LX.s22 hX, ts_LX.s23 hX, ts_LX.s24 hX, ts_LX.s25 hX, ts_LX.s26 hX, ts_LX.s27 hX, ts_LX.s28 hX, ts_LX.s29 hX, ts_LX.s30 hX, ts_LX.s31 hX, ts_LX.s32 hX, ts_LX.s33 hX, ts_LX.s34 hX, ts_LX.s35 hX, ts_LX.s36 hX, ts_LX.s37 hX, ts_LX.s38 hX, ts_FL.kd hF, ts_FL.k1 hF, ts_FL.k2 hF, ts_FL.k3 hF, ts_FL.k4 hF, ts_FL.k5 hF, ts_FL.k6 hF, ts_FL.k7 hF, ts_FL.k8 hF, ts_FL.k9 hF, ts_FL.l1 hF, ts_FL.l2 hF, ts_FL.l3 hF, ts_FL.l4 hF, ts_FL.l5 hF, ts_FL.l6 hF, ts_FL.l7 hF, ts_FL.l8 hF, ts_FL.l9 hF, ts_FL.o0 hF, ts_FL.o1 hF, ts_FL.o2 hF, ts_FL.o3 hF, ts_FL.o4 hF, ts_FL.o5 hF, ts_FL.o6 hF, ts_FL.o7 hF, ts_FL.o8 hF]
  rw [h.1.1, ts_l0, ts_ne (by omega) (by omega)]
  refine ⟨trivial, by omega, trivial, fun c => ?_, fun c => ?_⟩
  · rw [if_neg c] at q
    refine c_outside (fun h1 => ⟨fun _ => ?_, fun e => absurd rfl e⟩) (fun n1 => ⟨fun e => absurd e (by decide), fun _ => ?_⟩)
    · replace h1 : 0 ≤ a1 ∧ a1 ≤ 1 := h1
      rw [if_pos h1] at q
      refine c_leastBloc hF h.1 hok ?_
      rw [ts_ne (by omega) (by omega)]
      refine ⟨fun c2 => ?_, fun c2 => ?_⟩
      · rw [if_neg c2] at q
        refine ⟨fun c3 => ?_, fun c3 => c_bitCount (by omega) ?_⟩
        · replace c3 : ¬ a1 = 0 := c3
          rw [if_neg c3] at q
          exact q.st h
        · replace c3 : ¬ ¬ a1 = 0 := c3
          rw [if_pos (Decidable.not_not.mp c3)] at q
          exact q.st h
      · rw [if_pos (Decidable.not_not.mp c2)] at q
        exact q.st h
    · replace n1 : ¬ (0 ≤ a1 ∧ a1 ≤ 1) := n1
      rw [if_neg n1] at q
      exact q.st h
  · rw [if_pos (Decidable.not_not.mp c)] at q
    exact q.st h
theorem ts_vt0 (A : ts_A) : ts_vt A 0 = 0 := by
  unfold ts_vt
  have : ∀ n, ts_sm (fun t => if 0 / 2 ^ t % 2 = 1 then A 1 t else 0) n = 0 := fun n => by
    induction n with
    | zero => rfl
    | succ n ih => rw [ts_sm, ih, if_neg (by simp)]
  exact this _
theorem y_blocs {d : Nat} {g : ts_G} {S : ts_S} {a1 : Int32} {hi : ts_I} {hk : ts_K} {Q : Int32 → ts_I → ts_K → Prop} (hM : ts_LM g) (hS : ts_SV S) (h : ts_MI S hi) (q : ts_QM (ts_s_blocs S a1) hi hk Q) : ts_E0 (d + 25) mX12_blocs [.ref 405, .int a1] g hi hk (ts_qi Q) := by
  refine ts_E0.of plX12_blocs rfl (Nat.le_of_ble_eq_true rfl) ?_
  refine wX12_blocs_0 ?_
  unfold ts_s_blocs at q
  have hok := hS.1.1
  have hc := hok.1
  have hp := ts_p128 hc
  refine ⟨hM.kd, y_isField hM hS h (fun c => ⟨fun _ => ?_, fun e => absurd (by decide) e⟩) (fun c => ⟨fun e => absurd rfl e, fun _ => ?_⟩)⟩
  · rw [if_neg c] at q
    refine c_inq (fun h1 => ⟨fun _ => ?_, fun e => absurd (by decide) e⟩) (fun n1 => ⟨fun e => absurd rfl e, fun _ => ?_⟩)
    · rw [if_pos h1] at q
      have r2 := h.1.2.2.1
      rw [Nat.zero_add] at r2
      have L : ∀ m s v, s + m = 2 ^ S.A 6 0 → v = (if ts_bl S.A s = 0 then -1000000 else nI (ts_bl S.A s)) → ts_J0 (d + 25) mX12_blocs (ts_qi Q) g 27 [(0, .ref 405), (1, .int a1), (2, .int v), (3, .int (nI s))] [] hi hk := by
        intro m
        induction m with
        | zero =>
          intro s v hsm ev
          refine wX12_blocs_27 ?_
          simp only [ts_LM.kd hM, ts_LM.o0 hM, ts_LM.k0 hM, ts_LM.l0 hM, ts_LM.o1 hM, ts_LM.k1 hM, ts_LM.l1 hM, ts_LM.o2 hM, ts_LM.k2 hM, ts_LM.l2 hM, ts_LM.o3 hM, ts_LM.k3 hM, ts_LM.l3 hM, ts_LM.o5 hM, ts_LM.k5 hM, ts_LM.l5 hM, ts_LM.o13 hM, ts_LM.k13 hM, ts_LM.l13 hM, ts_LM.o14 hM, ts_LM.k14 hM, ts_LM.l14 hM, ts_LM.o15 hM, ts_LM.k15 hM, ts_LM.l15 hM, ts_LM.o16 hM, ts_LM.k16 hM, ts_LM.l16 hM, ts_LM.o18 hM, ts_LM.k18 hM, ts_LM.l18 hM, ts_LM.o19 hM, ts_LM.k19 hM, ts_LM.l19 hM, ts_LM.o20 hM, ts_LM.k20 hM, ts_LM.l20 hM, ts_LM.o21 hM, ts_LM.k21 hM, ts_LM.l21 hM, ts_LM.o22 hM, ts_LM.k22 hM, ts_LM.l22 hM, ts_LM.o23 hM, ts_LM.k23 hM, ts_LM.l23 hM]
          rw [show (2 : Int32).toNatClampNeg = 2 from rfl, r2, ts_shl1 _ (by omega), ts_le (by omega) (by omega)]
          refine ⟨trivial, by omega, trivial, ts_vin (i := 2) (by omega) (by omega), fun _ => ?_, fun e => absurd (by omega) e⟩
          rw [show s = 2 ^ S.A 6 0 by omega] at ev
          have hb := ts_bl_lt S.A (2 ^ S.A 6 0)
          by_cases c2 : ts_bl S.A (2 ^ S.A 6 0) = 0
          · rw [if_pos c2] at q ev
            subst ev
            exact ⟨fun _ => q.st h, fun e => absurd rfl e⟩
          · rw [if_neg c2] at q ev
            subst ev
            refine ⟨fun e => absurd e (ts_nIne (by omega)), fun _ => ⟨fun c3 => c_ones (by omega) ?_, fun c3 => ?_⟩⟩
            · obtain ⟨k, _, hk1, rfl⟩ := ts_rg (a := 0) (b := 1) (by omega) h1.1 h1.2 (by omega)
              rw [ts_l1, ts_ne (by omega) (by omega)] at c3
              have : k = 0 := by omega
              subst this
              rw [if_pos (by decide)] at q
              exact q.st h
            · rw [Decidable.not_not.mp c3, if_neg (by decide)] at q
              exact q.st h
        | succ m ih =>
          intro s v hsm ev
          refine wX12_blocs_27 ?_
          simp only [ts_LM.kd hM, ts_LM.o0 hM, ts_LM.k0 hM, ts_LM.l0 hM, ts_LM.o1 hM, ts_LM.k1 hM, ts_LM.l1 hM, ts_LM.o2 hM, ts_LM.k2 hM, ts_LM.l2 hM, ts_LM.o3 hM, ts_LM.k3 hM, ts_LM.l3 hM, ts_LM.o5 hM, ts_LM.k5 hM, ts_LM.l5 hM, ts_LM.o13 hM, ts_LM.k13 hM, ts_LM.l13 hM, ts_LM.o14 hM, ts_LM.k14 hM, ts_LM.l14 hM, ts_LM.o15 hM, ts_LM.k15 hM, ts_LM.l15 hM, ts_LM.o16 hM, ts_LM.k16 hM, ts_LM.l16 hM, ts_LM.o18 hM, ts_LM.k18 hM, ts_LM.l18 hM, ts_LM.o19 hM, ts_LM.k19 hM, ts_LM.l19 hM, ts_LM.o20 hM, ts_LM.k20 hM, ts_LM.l20 hM, ts_LM.o21 hM, ts_LM.k21 hM, ts_LM.l21 hM, ts_LM.o22 hM, ts_LM.k22 hM, ts_LM.l22 hM, ts_LM.o23 hM, ts_LM.k23 hM, ts_LM.l23 hM]
          rw [show (2 : Int32).toNatClampNeg = 2 from rfl, r2, ts_shl1 _ (by omega), ts_le (by omega) (by omega)]
          have hb := ts_bl_lt S.A s
          have ht : ∀ w, w = (if ts_bl S.A (s + 1) = 0 then -1000000 else nI (ts_bl S.A (s + 1))) → ts_J0 (d + 25) mX12_blocs (ts_qi Q) g 27 [(0, .ref 405), (1, .int a1), (2, .int w), (3, .int (nI s + 1))] [] hi hk := fun w ew => by
            rw [ts_l1, nI_add]
            exact ih (s + 1) w (by omega) ew
          refine ⟨trivial, by omega, trivial, ts_vin (i := 2) (by omega) (by omega), fun e => absurd e (by omega), fun _ => c_wins hM h.1 hok (by omega) ?_⟩
          by_cases c1 : ts_rk S.A < 2 * ts_vt S.A s
          · rw [if_pos c1]
            have s0 : s ≠ 0 := fun e => by
              rw [e, ts_vt0] at c1
              omega
            refine ⟨fun e => absurd e (by decide), fun _ => ?_⟩
            by_cases c2 : ts_bl S.A s = 0
            · rw [if_pos c2] at ev
              subst ev
              refine ⟨fun _ => ht (nI s) ?_, fun e => absurd rfl e⟩
              have e : ts_bl S.A (s + 1) = s := by rw [ts_bl, if_pos ⟨Or.inl c2, c1⟩]
              rw [e, if_neg s0]
            · rw [if_neg c2] at ev
              subst ev
              refine ⟨fun e => absurd e (ts_nIne (by omega)), fun _ => c_ones (by omega) (c_ones (by omega) ?_)⟩
              have p1 := ts_pc_le s
              have p2 := ts_pc_le (ts_bl S.A s)
              rw [ts_le (by omega) (by omega)]
              refine ⟨fun c3 => ht _ ?_, fun c3 => ht _ ?_⟩
              · have e : ts_bl S.A (s + 1) = ts_bl S.A s := by rw [ts_bl, if_neg (by omega)]
                rw [e, if_neg c2]
              · have e : ts_bl S.A (s + 1) = s := by rw [ts_bl, if_pos ⟨Or.inr (by omega), c1⟩]
                rw [e, if_neg s0]
          · rw [if_neg c1]
            refine ⟨fun _ => ht v ?_, fun e => absurd rfl e⟩
            have e : ts_bl S.A (s + 1) = ts_bl S.A s := by rw [ts_bl, if_neg (fun x => c1 x.2)]
            rw [e]
            exact ev
      exact L (2 ^ S.A 6 0) 0 _ (by omega) rfl
    · rw [if_neg n1] at q
      exact q.st h
  · rw [if_pos c] at q
    exact q.st h
