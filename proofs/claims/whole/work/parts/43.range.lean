/-! numbers of a caller: in a range or not -/
theorem ts_rg {a b : Nat} {x : Int32} (hb : b < 2147483648) (h1 : nI a ≤ x) (h2 : x ≤ nI b) (hab : a ≤ b) : ∃ n, a ≤ n ∧ n ≤ b ∧ x = nI n := by
  rw [Int32.le_iff_toInt_le, nI_toInt (by omega)] at h1 h2
  refine ⟨x.toInt.toNat, by omega, by omega, ?_⟩
  apply Int32.toInt_inj.mp
  rw [nI_toInt (by omega)]
  omega
abbrev ts_T (A : ts_A) (x : Int32) : Prop := 0 ≤ x ∧ x < nI (A 6 0)
theorem ts_T.get {A : ts_A} {x : Int32} (hc : A 6 0 ≤ 7) (h : ts_T A x) : ∃ n, n < A 6 0 ∧ x = nI n := by
  obtain ⟨h1, h2⟩ := h
  have h3 : ¬ A 6 0 = 0 := fun e => by
    rw [e] at h2
    exact absurd h2 (Int32.not_lt.mpr h1)
  have h4 : x ≤ nI (A 6 0 - 1) := by
    rw [Int32.lt_iff_toInt_lt, nI_toInt (by omega)] at h2
    rw [Int32.le_iff_toInt_le, nI_toInt (by omega)]
    omega
  obtain ⟨n, _, h6, h7⟩ := ts_rg (a := 0) (by omega) h1 h4 (by omega)
  exact ⟨n, by omega, h7⟩
theorem ts_T.of {A : ts_A} {n : Nat} (hc : A 6 0 ≤ 7) (h : n < A 6 0) : ts_T A (nI n) := by
  refine ⟨?_, ?_⟩
  · rw [ts_l0, ts_le (by omega) (by omega)]; omega
  · rw [ts_lt (by omega) (by omega)]; exact h
-- the model's
theorem c_isField {d : Nat} {g : ts_G} {A : ts_A} {hi : ts_I} {hk : ts_K} {Q : Int32 → ts_I → ts_K → Prop} (hM : ts_LM g) (hR : ts_MR 411 0 A hi) (hg : A 6 2 ≤ 9) (q : Q (if A 6 2 = 0 then 0 else 1) hi hk) : ts_E0 d mX12_isField [.ref 405] g hi hk (ts_qi Q) := by
  refine ts_E0.of plX12_isField rfl (Nat.le_of_ble_eq_true rfl) ?_
  refine wX12_isField_0 ?_
  simp only [ts_LM.kd hM, ts_LM.o0 hM, ts_LM.k0 hM, ts_LM.l0 hM, ts_LM.o1 hM, ts_LM.k1 hM, ts_LM.l1 hM, ts_LM.o2 hM, ts_LM.k2 hM, ts_LM.l2 hM, ts_LM.o3 hM, ts_LM.k3 hM, ts_LM.l3 hM, ts_LM.o5 hM, ts_LM.k5 hM, ts_LM.l5 hM, ts_LM.o13 hM, ts_LM.k13 hM, ts_LM.l13 hM, ts_LM.o14 hM, ts_LM.k14 hM, ts_LM.l14 hM, ts_LM.o15 hM, ts_LM.k15 hM, ts_LM.l15 hM, ts_LM.o16 hM, ts_LM.k16 hM, ts_LM.l16 hM, ts_LM.o18 hM, ts_LM.k18 hM, ts_LM.l18 hM, ts_LM.o19 hM, ts_LM.k19 hM, ts_LM.l19 hM, ts_LM.o20 hM, ts_LM.k20 hM, ts_LM.l20 hM, ts_LM.o21 hM, ts_LM.k21 hM, ts_LM.l21 hM, ts_LM.o22 hM, ts_LM.k22 hM, ts_LM.l22 hM, ts_LM.o23 hM, ts_LM.k23 hM, ts_LM.l23 hM]
  rw [show (0 : Int32).toNatClampNeg = 0 from rfl, hR.1, ts_l0, ts_le (by omega) (by omega)]
  refine ⟨trivial, by omega, trivial, ts_vin (by omega) (by omega), fun h => ?_, fun h => ?_⟩
  · rw [if_pos (by omega)] at q; exact q
  · rw [if_neg (by omega)] at q; exact q
theorem c_isTurnip {d : Nat} {g : ts_G} {A : ts_A} {x : Int32} {hi : ts_I} {hk : ts_K} {Q : Int32 → ts_I → ts_K → Prop} (hM : ts_LM g) (hR : ts_MR 411 0 A hi) (hc : A 6 0 ≤ 7) (q1 : ts_T A x → Q 1 hi hk) (q0 : ¬ ts_T A x → Q 0 hi hk) : ts_E0 (d + 1) mX12_isTurnip [.ref 405, .int x] g hi hk (ts_qi Q) := by
  refine ts_E0.of plX12_isTurnip rfl (Nat.le_of_ble_eq_true rfl) ?_
  refine wX12_isTurnip_0 ?_
  simp only [ts_LM.kd hM, ts_LM.o0 hM, ts_LM.k0 hM, ts_LM.l0 hM, ts_LM.o1 hM, ts_LM.k1 hM, ts_LM.l1 hM, ts_LM.o2 hM, ts_LM.k2 hM, ts_LM.l2 hM, ts_LM.o3 hM, ts_LM.k3 hM, ts_LM.l3 hM, ts_LM.o5 hM, ts_LM.k5 hM, ts_LM.l5 hM, ts_LM.o13 hM, ts_LM.k13 hM, ts_LM.l13 hM, ts_LM.o14 hM, ts_LM.k14 hM, ts_LM.l14 hM, ts_LM.o15 hM, ts_LM.k15 hM, ts_LM.l15 hM, ts_LM.o16 hM, ts_LM.k16 hM, ts_LM.l16 hM, ts_LM.o18 hM, ts_LM.k18 hM, ts_LM.l18 hM, ts_LM.o19 hM, ts_LM.k19 hM, ts_LM.l19 hM, ts_LM.o20 hM, ts_LM.k20 hM, ts_LM.l20 hM, ts_LM.o21 hM, ts_LM.k21 hM, ts_LM.l21 hM, ts_LM.o22 hM, ts_LM.k22 hM, ts_LM.l22 hM, ts_LM.o23 hM, ts_LM.k23 hM, ts_LM.l23 hM]
  have h2 : hi 411 2 = nI (A 6 0) := hR.2.2.1
  rw [show (2 : Int32).toNatClampNeg = 2 from rfl, h2]
  refine ⟨trivial, by omega, trivial, ts_vin (i := 2) (by omega) (by omega), c_in ?_⟩
  have e : (x ≤ nI (A 6 0) - 1) ↔ x < nI (A 6 0) := by
    by_cases h0 : A 6 0 = 0
    · rw [h0, Int32.le_iff_toInt_le, Int32.lt_iff_toInt_lt, show (nI 0 - 1).toInt = -1 from by decide, show (nI 0).toInt = 0 from by decide]
      omega
    · rw [ts_l1, ts_sub' (by omega), Int32.le_iff_toInt_le, Int32.lt_iff_toInt_lt, nI_toInt (by omega), nI_toInt (by omega)]
      omega
  by_cases h : ts_T A x
  · rw [if_pos ⟨h.1, e.mpr h.2⟩]
    exact ⟨Or.inr rfl, q1 h⟩
  · rw [if_neg (fun c => h ⟨c.1, e.mp c.2⟩)]
    exact ⟨Or.inl rfl, q0 h⟩
/-- a range of the model's, asked by its method in -/
theorem c_inq {d : Nat} {g : ts_G} {x a b : Int32} {hi : ts_I} {hk : ts_K} {Q : Int32 → ts_I → ts_K → Prop} (q1 : (a ≤ x ∧ x ≤ b) → Q 1 hi hk) (q0 : ¬ (a ≤ x ∧ x ≤ b) → Q 0 hi hk) : ts_E0 d mX12_in [.int x, .int a, .int b] g hi hk (ts_qi Q) := by
  refine c_in ?_
  by_cases h : a ≤ x ∧ x ≤ b
  · rw [if_pos h]; exact q1 h
  · rw [if_neg h]; exact q0 h
-- the class's
theorem c_outside {d : Nat} {g : ts_G} {x a b : Int32} {hi : ts_I} {hk : ts_K} {Q : Int32 → ts_I → ts_K → Prop} (q1 : (a ≤ x ∧ x ≤ b) → Q 0 hi hk) (q0 : ¬ (a ≤ x ∧ x ≤ b) → Q 1 hi hk) : ts_E0 d mX11_outside [.int x, .int a, .int b] g hi hk (ts_qi Q) := by
  refine ts_E0.of plX11_outside rfl (Nat.le_of_ble_eq_true rfl) ?_
  exact wX11_outside_0 ⟨fun h => q0 (fun c => (Int32.not_le.mpr h) c.1), fun h => ⟨fun h2 => q1 ⟨Int32.not_lt.mp h, h2⟩, fun h2 => q0 (fun c => h2 c.2)⟩⟩
theorem c_XisTurnip {d : Nat} {g : ts_G} {A : ts_A} {x : Int32} {hi : ts_I} {hk : ts_K} {Q : Int32 → ts_I → ts_K → Prop} (hX : ts_LX g) (hR : ts_FR 291 A hi hk) (q1 : ts_T A x → Q 1 hi hk) (q0 : ¬ ts_T A x → Q 0 hi hk) : ts_E0 d mX11_isTurnip [.ref 1, .int x] g hi hk (ts_qi Q) := by
  refine ts_E0.of plX11_isTurnip rfl (Nat.le_of_ble_eq_true rfl) ?_
  refine wX11_isTurnip_0 ?_
  simp only [ts_LX.s0 hX, ts_LX.s1 hX, ts_LX.s2 hX, ts_LX.s3 hX, ts_LX.s4 hX, ts_LX.s5 hX, ts_LX.s6 hX, ts_LX.s7 hX, ts_LX.s8 hX, ts_LX.s9 hX, ts_LX.s10 hX, ts_LX.s11 hX, ts_LX.s12 hX, ts_LX.s13 hX, ts_LX.s14 hX, ts_LX.s15 hX, ts_LX.s16 hX, ts_LX.s17 hX, ts_LX.s18 hX, ts_LX.s19 hX, ts_LX.s20 hX, ts_LX.s21 hX, ts_LX.s22 hX, ts_LX.s23 hX, ts_LX.s24 hX, ts_LX.s25 hX, ts_LX.s26 hX, ts_LX.s27 hX, ts_LX.s28 hX, ts_LX.s29 hX, ts_LX.s30 hX, ts_LX.s31 hX, ts_LX.s32 hX, ts_LX.s33 hX, ts_LX.s34 hX, ts_LX.s35 hX, ts_LX.s36 hX, ts_LX.s37 hX, ts_LX.s38 hX]
  rw [hR.1]
  exact ⟨fun h => q0 (fun c => (Int32.not_le.mpr h) c.1), fun h => ⟨trivial, by omega, hX.now.kd, fun h2 => q0 (fun c => (Int32.not_le.mpr c.2) h2), fun h2 => q1 ⟨Int32.not_lt.mp h, Int32.not_le.mp h2⟩⟩⟩
theorem c_mateToTell {d m : Nat} {g : ts_G} {hi : ts_I} {hk : ts_K} {Q : Int32 → ts_I → ts_K → Prop} (hm : m < 1000) (q : Q (ts_nN m) hi hk) : ts_E0 d mX11_mateToTell [.int (ts_mI m)] g hi hk (ts_qi Q) := by
  refine ts_E0.of plX11_mateToTell rfl (Nat.le_of_ble_eq_true rfl) ?_
  refine wX11_mateToTell_0 ⟨fun h => ?_, fun h => ?_⟩
  · rw [Ne, ts_mIeq hm] at h
    unfold ts_nN at q
    rw [if_neg h] at q
    unfold ts_mI
    rw [if_neg h]
    exact q
  · have h2 := Decidable.not_not.mp h
    rw [ts_mIeq hm] at h2
    unfold ts_nN at q
    rw [if_pos h2] at q
    exact q
/-- a row's number -/
abbrev ts_rw (x : Int32) : Prop := 0 ≤ x ∧ x ≤ 7
theorem c_isRow {d : Nat} {g : ts_G} {x : Int32} {hi : ts_I} {hk : ts_K} {Q : Int32 → ts_I → ts_K → Prop} (q1 : ts_rw x → Q 1 hi hk) (q0 : ¬ ts_rw x → Q 0 hi hk) : ts_E0 (d + 1) mX12_isRow [.int x] g hi hk (ts_qi Q) := by
  refine ts_E0.of plX12_isRow rfl (Nat.le_of_ble_eq_true rfl) ?_
  exact wX12_isRow_0 (c_inq (fun h => ⟨Or.inr rfl, q1 h⟩) (fun h => ⟨Or.inl rfl, q0 h⟩))
theorem ts_rw.get {x : Int32} (h : ts_rw x) : ∃ n, n < 8 ∧ x = nI n := by
  obtain ⟨n, _, h2, h3⟩ := ts_rg (a := 0) (b := 7) (by omega) h.1 h.2 (by omega)
  exact ⟨n, by omega, h3⟩
