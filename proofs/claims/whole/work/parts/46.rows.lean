/-! rows: row, set, copy, drop -/
def ts_ud {α : Type} (f : Nat → α) (i : Nat) (v : α) : Nat → α := fun j => if j = i then v else f j
theorem ts_ud_eq {α : Type} {f : Nat → α} {i : Nat} {v : α} : ts_ud f i v i = v := if_pos rfl
theorem ts_ud_ne {α : Type} {f : Nat → α} {i j : Nat} {v : α} (h : j ≠ i) : ts_ud f i v j = f j := if_neg h
theorem c_XisRow {d : Nat} {g : ts_G} {x : Int32} {hi : ts_I} {hk : ts_K} {Q : Int32 → ts_I → ts_K → Prop} (q1 : ts_rw x → Q 1 hi hk) (q0 : ¬ ts_rw x → Q 0 hi hk) : ts_E0 d mX11_isRow [.int x] g hi hk (ts_qi Q) := by
  refine ts_E0.of plX11_isRow rfl (Nat.le_of_ble_eq_true rfl) ?_
  refine wX11_isRow_0 ⟨fun h => q0 (fun c => (Int32.not_le.mpr h) c.1), fun h => ⟨fun h2 => q0 (fun c => ?_), fun h2 => q1 ⟨Int32.not_lt.mp h, ?_⟩⟩⟩
  · have c2 := c.2
    rw [Int32.le_iff_toInt_le] at h2 c2
    rw [show (8 : Int32).toInt = 8 from by decide] at h2
    rw [show (7 : Int32).toInt = 7 from by decide] at c2
    omega
  · rw [Int32.le_iff_toInt_le] at h2 ⊢
    rw [show (8 : Int32).toInt = 8 from by decide] at h2
    rw [show (7 : Int32).toInt = 7 from by decide]
    omega
/-- n items from i on are a row's own -/
abbrev ts_pt (z : Nat) (i n : Int32) : Prop := (0 ≤ i ∧ 0 ≤ n) ∧ i ≤ nI z ∧ n ≤ nI z - i
theorem ts_pt.get {z : Nat} {i n : Int32} (hz : z ≤ 40) (h : ts_pt z i n) : ∃ a b, a + b ≤ z ∧ i = nI a ∧ n = nI b := by
  obtain ⟨a, _, h2, rfl⟩ := ts_rg (a := 0) (by omega) h.1.1 h.2.1 (by omega)
  have h3 := h.2.2
  rw [ts_sub' (by omega)] at h3
  obtain ⟨b, _, h4, rfl⟩ := ts_rg (a := 0) (by omega) h.1.2 h3 (by omega)
  exact ⟨a, b, by omega, rfl, rfl⟩
theorem ts_pt1 {z : Nat} {i : Int32} (hz : z ≤ 40) : ts_pt z i 1 ↔ (0 ≤ i ∧ i ≤ nI z - 1) := by
  constructor
  · intro h
    obtain ⟨a, b, h1, rfl, h3⟩ := h.get hz
    refine ⟨h.1.1, ?_⟩
    rw [ts_l1, ts_eq (by omega) (by omega)] at h3
    rw [ts_l1, ts_sub' (by omega), ts_le (by omega) (by omega)]
    omega
  · intro h
    have hz0 : z ≠ 0 := fun e => by
      subst e
      have := Int32.le_trans h.1 h.2
      exact absurd this (by decide)
    have h2 := h.2
    rw [ts_l1, ts_sub' (by omega)] at h2
    obtain ⟨a, _, h4, rfl⟩ := ts_rg (a := 0) (by omega) h.1 h2 (by omega)
    refine ⟨⟨h.1, by decide⟩, ?_, ?_⟩
    · rw [ts_le (by omega) (by omega)]; omega
    · rw [ts_l1, ts_sub' (by omega), ts_le (by omega) (by omega)]; omega
theorem c_rowhas {d z o : Nat} {g : ts_G} {i n : Int32} {hi : ts_I} {hk : ts_K} {Q : Int32 → ts_I → ts_K → Prop} (ho : g.2.1 o = 5) (hz : hi o 3 = nI z) (q1 : ts_pt z i n → Q 1 hi hk) (q0 : ¬ ts_pt z i n → Q 0 hi hk) : ts_E0 d mX6_has [.ref o, .int i, .int n] g hi hk (ts_qi Q) := by
  refine ts_E0.of plX6_has rfl (Nat.le_of_ble_eq_true rfl) ?_
  refine wX6_has_0 ⟨fun h => q0 (fun c => (Int32.not_le.mpr h) c.1.1), fun h1 => ⟨fun h => q0 (fun c => (Int32.not_le.mpr h) c.1.2), fun h2 => ?_⟩⟩
  rw [hz]
  exact ⟨ho, fun h => q0 (fun c => (Int32.not_le.mpr h) c.2.1), fun h3 => ⟨fun h => q0 (fun c => (Int32.not_le.mpr h) c.2.2), fun h4 => q1 ⟨⟨Int32.not_lt.mp h1, Int32.not_lt.mp h2⟩, Int32.not_lt.mp h3, Int32.not_lt.mp h4⟩⟩⟩
theorem c_isPart {d z r : Nat} {g : ts_G} {i n : Int32} {hi : ts_I} {hk : ts_K} {Q : Int32 → ts_I → ts_K → Prop} (hM : ts_LM g) (hr : r < 8) (hz : hi 407 r = nI z) (q1 : ts_pt z i n → Q 1 hi hk) (q0 : ¬ ts_pt z i n → Q 0 hi hk) : ts_E0 d mX12_isPart [.ref 405, .int (nI r), .int i, .int n] g hi hk (ts_qi Q) := by
  refine ts_E0.of plX12_isPart rfl (Nat.le_of_ble_eq_true rfl) ?_
  refine wX12_isPart_0 ⟨fun h => q0 (fun c => (Int32.not_le.mpr h) c.1.1), fun h1 => ⟨fun h => q0 (fun c => (Int32.not_le.mpr h) c.1.2), fun h2 => ?_⟩⟩
  simp only [ts_LM.kd hM, ts_LM.o0 hM, ts_LM.k0 hM, ts_LM.l0 hM, ts_LM.o1 hM, ts_LM.k1 hM, ts_LM.l1 hM, ts_LM.o2 hM, ts_LM.k2 hM, ts_LM.l2 hM, ts_LM.o3 hM, ts_LM.k3 hM, ts_LM.l3 hM, ts_LM.o5 hM, ts_LM.k5 hM, ts_LM.l5 hM, ts_LM.o13 hM, ts_LM.k13 hM, ts_LM.l13 hM, ts_LM.o14 hM, ts_LM.k14 hM, ts_LM.l14 hM, ts_LM.o15 hM, ts_LM.k15 hM, ts_LM.l15 hM, ts_LM.o16 hM, ts_LM.k16 hM, ts_LM.l16 hM, ts_LM.o18 hM, ts_LM.k18 hM, ts_LM.l18 hM, ts_LM.o19 hM, ts_LM.k19 hM, ts_LM.l19 hM, ts_LM.o20 hM, ts_LM.k20 hM, ts_LM.l20 hM, ts_LM.o21 hM, ts_LM.k21 hM, ts_LM.l21 hM, ts_LM.o22 hM, ts_LM.k22 hM, ts_LM.l22 hM, ts_LM.o23 hM, ts_LM.k23 hM, ts_LM.l23 hM]
  rw [ts_cl (by omega), hz]
  exact ⟨trivial, by omega, trivial, ts_vin (by omega) (by omega), fun h => q0 (fun c => (Int32.not_le.mpr h) c.2.1), fun h3 => ⟨fun h => q0 (fun c => (Int32.not_le.mpr h) c.2.2), fun h4 => q1 ⟨⟨Int32.not_lt.mp h1, Int32.not_lt.mp h2⟩, Int32.not_lt.mp h3, Int32.not_lt.mp h4⟩⟩⟩
theorem ts_LnN {l : Nat} (hl : l ≤ 3) : ((if l = 3 then (-1000000 : Int32) else nI l) = -1000000) ↔ l = 3 := by
  by_cases h : l = 3
  · simp [h]
  · rw [if_neg h]
    constructor
    · intro c
      exact absurd c (ts_nIne (by omega))
    · intro c
      exact absurd c h
theorem c_isMissing {d r : Nat} {g : ts_G} {L z : Nat → Nat} {x : Nat → Nat → Int32} {hi : ts_I} {hk : ts_K} {Q : Int32 → ts_I → ts_K → Prop} (hM : ts_LM g) (hr : r < 8) (hl : L r ≤ 3) (h : ts_MW L z x hi) (q1 : L r = 3 → Q 1 hi hk) (q0 : L r ≠ 3 → Q 0 hi hk) : ts_E0 d mX12_isMissing [.ref 405, .int (nI r)] g hi hk (ts_qi Q) := by
  refine ts_E0.of plX12_isMissing rfl (Nat.le_of_ble_eq_true rfl) ?_
  refine wX12_isMissing_0 ?_
  simp only [ts_LM.kd hM, ts_LM.o0 hM, ts_LM.k0 hM, ts_LM.l0 hM, ts_LM.o1 hM, ts_LM.k1 hM, ts_LM.l1 hM, ts_LM.o2 hM, ts_LM.k2 hM, ts_LM.l2 hM, ts_LM.o3 hM, ts_LM.k3 hM, ts_LM.l3 hM, ts_LM.o5 hM, ts_LM.k5 hM, ts_LM.l5 hM, ts_LM.o13 hM, ts_LM.k13 hM, ts_LM.l13 hM, ts_LM.o14 hM, ts_LM.k14 hM, ts_LM.l14 hM, ts_LM.o15 hM, ts_LM.k15 hM, ts_LM.l15 hM, ts_LM.o16 hM, ts_LM.k16 hM, ts_LM.l16 hM, ts_LM.o18 hM, ts_LM.k18 hM, ts_LM.l18 hM, ts_LM.o19 hM, ts_LM.k19 hM, ts_LM.l19 hM, ts_LM.o20 hM, ts_LM.k20 hM, ts_LM.l20 hM, ts_LM.o21 hM, ts_LM.k21 hM, ts_LM.l21 hM, ts_LM.o22 hM, ts_LM.k22 hM, ts_LM.l22 hM, ts_LM.o23 hM, ts_LM.k23 hM, ts_LM.l23 hM]
  rw [ts_cl (by omega), (h r hr).1]
  exact ⟨trivial, by omega, trivial, ts_vin (by omega) (by omega), fun c => q0 (fun e => c ((ts_LnN hl).mpr e)), fun c => q1 ((ts_LnN hl).mp (Decidable.not_not.mp c))⟩
/-- how the class and the model hold rows once one has changed -/
theorem ts_XI.rows {S : ts_S} {hi hi' : ts_I} {hk : ts_K} {L z : Nat → Nat} {x : Nat → Nat → Int32} {f r : Nat} (hr : r < 8) (h : ts_XI S hi hk) (e : ∀ b, b ≠ 15 + 2 * r → b ≠ 16 + 2 * r → b ≠ 1 → hi' b = hi b) (e1 : ∀ s, s ≠ 9 → hi' 1 s = hi 1 s) (e9 : hi' 1 9 = nI f) (hR : ts_XR L z x hi') : ts_XI (S.setR L z x f) hi' hk := by
  obtain ⟨h1, ⟨p, p1, p2, p3, p4⟩, h3, h4, h5, h6, h7, h8, k1, k2, k3, k4⟩ := h
  exact ⟨h1.of (fun b x1 x2 => e b (by omega) (by omega) (by omega)) rfl, ⟨p, p1, by rw [e1 11 (by omega)]; exact p2, by rw [e1 12 (by omega)]; exact p3, fun i A hA => (p4 i A hA).of (fun b x1 x2 => e b (by omega) (by omega) (by omega)) rfl⟩, fun k hk2 => (h3 k hk2).of (fun b x1 x2 => e b (by omega) (by omega) (by omega)) rfl, hR, e9, by rw [e1 10 (by omega)]; exact h6, h7.of (by rw [e 3 (by omega) (by omega) (by omega)]) (e 4 (by omega) (by omega) (by omega)), h8.of (by rw [e 5 (by omega) (by omega) (by omega)]) (e 6 (by omega) (by omega) (by omega)), fun q hq => by rw [e _ (by omega) (by omega) (by omega)]; exact k1 q hq, k2, k3, k4⟩
theorem ts_MI.rows {S : ts_S} {hi hi' : ts_I} {L z : Nat → Nat} {x : Nat → Nat → Int32} {f : Nat} (hS : ts_SV S) (h : ts_MI S hi) (e : ∀ b, b ≠ 405 → b ≠ 406 → b ≠ 407 → b ≠ 408 → b ≠ 409 → hi' b = hi b) (e1 : ∀ s, s ≠ 4 → hi' 405 s = hi 405 s) (e9 : hi' 405 4 = nI f) (hR : ts_MW L z x hi') : ts_MI (S.setR L z x f) hi' := by
  obtain ⟨h1, ⟨b1, b2, b3⟩, h3, h4, h5, h6, h7, h8⟩ := h
  refine ⟨ts_MR.of hS.1.1.1 h1 (fun u _ => by rw [e 411 (by omega) (by omega) (by omega) (by omega) (by omega)]), ⟨by rw [e1 17 (by omega)]; exact b1, b2, fun i A hA => ts_MR.of ?_ (b3 i A hA) (fun u _ => by rw [e 414 (by omega) (by omega) (by omega) (by omega) (by omega)])⟩, fun k hk => ?_, hR, e9, by rw [e1 7 (by omega)]; exact h6, h7.of (e1 6 (by omega)) (e 410 (by omega) (by omega) (by omega) (by omega) (by omega)), h8.of (e1 24 (by omega)) (e 420 (by omega) (by omega) (by omega) (by omega) (by omega))⟩
  · exact (hS.2.1 A (List.mem_of_getElem? hA)).1.1
  · refine ⟨by rw [e 416 (by omega) (by omega) (by omega) (by omega) (by omega)]; exact (h3 k hk).1, fun hn => ts_MR.of ?_ ((h3 k hk).2 hn) (fun u _ => by rw [e 415 (by omega) (by omega) (by omega) (by omega) (by omega)])⟩
    exact (hS.2.2.2.1 k hk).1.1
def ts_s_row (S : ts_S) (a1 a2 a3 : Int32) : Int32 × ts_S :=
  if ts_rw a1 ∧ (0 ≤ a2 ∧ a2 ≤ 2) ∧ a3 ≤ 40 then
    if 0 ≤ a3 then (a3, S.setR (ts_ud S.L a1.toNatClampNeg a2.toNatClampNeg) (ts_ud S.z a1.toNatClampNeg a3.toNatClampNeg) (ts_ud S.x a1.toNatClampNeg (fun _ => 0)) 0) else (ts_fn 4, S.setS 4)
  else (-1000001, S)
theorem x_row {d : Nat} {g : ts_G} {S : ts_S} {a1 a2 a3 : Int32} {hi : ts_I} {hk : ts_K} {Q : Int32 → ts_I → ts_K → Prop} (hX : ts_LX g) (hS : ts_SV S) (h : ts_XI S hi hk) (q : ts_QX (ts_s_row S a1 a2 a3) hi Q) : ts_E0 (d + 25) mX11_row [.ref 1, .int a1, .int a2, .int a3] g hi hk (ts_qi Q) := by
  refine ts_E0.of plX11_row rfl (Nat.le_of_ble_eq_true rfl) ?_
  refine wX11_row_0 ?_
  unfold ts_s_row at q
  refine c_XisRow (fun h1 => ⟨fun e => absurd e (by decide), fun _ => c_outside (fun h2 => ⟨fun e => absurd rfl e, fun _ => ⟨fun h3 => ⟨fun h4 => ?_, fun h4 => ?_⟩, fun h3 => ?_⟩⟩) (fun n2 => ⟨fun _ => ?_, fun e => absurd (by decide) e⟩)⟩) (fun n1 => ⟨fun _ => ?_, fun e => absurd rfl e⟩)
  · rw [if_pos ⟨h1, h2, h3⟩, if_pos h4] at q
    obtain ⟨r, hr, rfl⟩ := h1.get
    obtain ⟨l, _, hl, rfl⟩ := ts_rg (a := 0) (b := 2) (by omega) h2.1 h2.2 (by omega)
    obtain ⟨n, _, hn, rfl⟩ := ts_rg (a := 0) (b := 40) (by omega) h4 h3 (by omega)
    obtain ⟨e1, e2, e3, e4, e5⟩ := hX.row r hr
    rw [ts_cl (n := r) (by omega), ts_cl (n := l) (by omega), ts_cl (n := n) (by omega)] at q
    simp only [ts_LX.s0 hX, ts_LX.s1 hX, ts_LX.s2 hX, ts_LX.s3 hX, ts_LX.s4 hX, ts_LX.s5 hX, ts_LX.s6 hX, ts_LX.s7 hX, ts_LX.s8 hX, ts_LX.s9 hX, ts_LX.s10 hX, ts_LX.s11 hX, ts_LX.s12 hX, ts_LX.s13 hX, ts_LX.s14 hX, ts_LX.s15 hX, ts_LX.s16 hX, ts_LX.s17 hX, ts_LX.s18 hX, ts_LX.s19 hX, ts_LX.s20 hX, ts_LX.s21 hX, ts_LX.s22 hX, ts_LX.s23 hX, ts_LX.s24 hX, ts_LX.s25 hX, ts_LX.s26 hX, ts_LX.s27 hX, ts_LX.s28 hX, ts_LX.s29 hX, ts_LX.s30 hX, ts_LX.s31 hX, ts_LX.s32 hX, ts_LX.s33 hX, ts_LX.s34 hX, ts_LX.s35 hX, ts_LX.s36 hX, ts_LX.s37 hX, ts_LX.s38 hX]
    rw [ts_cl (by omega), e1]
    refine ⟨trivial, by omega, trivial, ts_vin (by omega) (by omega), by omega, e2, ?_⟩
    refine ts_E0.of plX6_begin rfl (Nat.le_of_ble_eq_true rfl) ?_
    refine wX6_begin_0 ⟨e2, fun hi2 x2 hi3 x3 hi4 x4 => ?_⟩
    rw [e3]
    refine ⟨by omega, c_fill e4 (by rw [e5]; omega) (fun hi5 hI hO => ?_)⟩
    rw [e5] at hI
    have o5 : ∀ b, b ≠ 15 + 2 * r → b ≠ 16 + 2 * r → hi5 b = hi b := fun b y1 y2 => by rw [hO b y2, x4, x3, x2]; funext s; rw [ts_up_a y1, ts_up_a y1, ts_up_a y1]
    refine ts_E0.of plX11_fine rfl (Nat.le_of_ble_eq_true rfl) ?_
    refine wX11_fine_0 ⟨hX.s0, fun hi6 x6 => q hi6 hk (ts_XI.rows hr h (fun b y1 y2 y3 => by rw [x6]; funext s; rw [ts_up_a y3, o5 b y1 y2]) (fun s hs => by rw [x6, ts_up_s hs, o5 1 (by omega) (by omega)]) (by rw [x6, ts_up_eq]; rfl) (fun u hu => ?_)) (fun b hb => by rw [x6]; funext s; rw [ts_up_a (by omega), o5 b (by omega) (by omega)])⟩
    have z := h.2.2.2.1 u hu
    have o6 : ∀ b, b ≠ 1 → hi6 b = hi5 b := fun b hb => by rw [x6]; funext s; rw [ts_up_a hb]
    rw [o6 _ (by omega), o6 _ (by omega)]
    by_cases hur : u = r
    · subst hur
      rw [ts_ud_eq, ts_ud_eq, ts_ud_eq, if_neg (by omega), hO _ (by omega), x4, ts_up_s (by omega), x3, ts_up_s (by omega), x2, ts_up_eq]
      refine ⟨rfl, fun _ => ⟨?_, ?_, fun i hi9 => hI i hi9⟩⟩
      · rw [ts_up_s (by omega), ts_up_eq]
      · rw [ts_up_eq]
    · rw [ts_ud_ne hur, ts_ud_ne hur, ts_ud_ne hur, o5 _ (by omega) (by omega), o5 _ (by omega) (by omega)]
      exact z
  · rw [if_pos ⟨h1, h2, h3⟩, if_neg h4] at q
    exact ⟨hX.s0, c_found (f := 4) hX h q⟩
  · rw [if_neg (fun c => h3 c.2.2)] at q
    exact q.st h
  · rw [if_neg (fun c => n2 c.2.1)] at q
    exact q.st h
  · rw [if_neg (fun c => n1 c.1)] at q
    exact q.st h
theorem y_row {d : Nat} {g : ts_G} {S : ts_S} {a1 a2 a3 : Int32} {hi : ts_I} {hk : ts_K} {Q : Int32 → ts_I → ts_K → Prop} (hM : ts_LM g) (hS : ts_SV S) (h : ts_MI S hi) (q : ts_QM (ts_s_row S a1 a2 a3) hi hk Q) : ts_E0 (d + 25) mX12_row [.ref 405, .int a1, .int a2, .int a3] g hi hk (ts_qi Q) := by
  refine ts_E0.of plX12_row rfl (Nat.le_of_ble_eq_true rfl) ?_
  refine wX12_row_0 ?_
  unfold ts_s_row at q
  refine c_isRow (fun h1 => ⟨fun e => absurd e (by decide), fun _ => c_inq (fun h2 => ⟨fun e => absurd e (by decide), fun _ => ⟨fun h3 => ⟨fun h4 => ?_, fun h4 => ?_⟩, fun h3 => ?_⟩⟩) (fun n2 => ⟨fun _ => ?_, fun e => absurd rfl e⟩)⟩) (fun n1 => ⟨fun _ => ?_, fun e => absurd rfl e⟩)
  · rw [if_pos ⟨h1, h2, h3⟩, if_pos h4] at q
    obtain ⟨r, hr, rfl⟩ := h1.get
    obtain ⟨l, _, hl, rfl⟩ := ts_rg (a := 0) (b := 2) (by omega) h2.1 h2.2 (by omega)
    obtain ⟨n, _, hn, rfl⟩ := ts_rg (a := 0) (b := 40) (by omega) h4 h3 (by omega)
    rw [ts_cl (n := r) (by omega), ts_cl (n := l) (by omega), ts_cl (n := n) (by omega)] at q
    simp only [ts_LM.kd hM, ts_LM.o0 hM, ts_LM.k0 hM, ts_LM.l0 hM, ts_LM.o1 hM, ts_LM.k1 hM, ts_LM.l1 hM, ts_LM.o2 hM, ts_LM.k2 hM, ts_LM.l2 hM, ts_LM.o3 hM, ts_LM.k3 hM, ts_LM.l3 hM, ts_LM.o5 hM, ts_LM.k5 hM, ts_LM.l5 hM, ts_LM.o13 hM, ts_LM.k13 hM, ts_LM.l13 hM, ts_LM.o14 hM, ts_LM.k14 hM, ts_LM.l14 hM, ts_LM.o15 hM, ts_LM.k15 hM, ts_LM.l15 hM, ts_LM.o16 hM, ts_LM.k16 hM, ts_LM.l16 hM, ts_LM.o18 hM, ts_LM.k18 hM, ts_LM.l18 hM, ts_LM.o19 hM, ts_LM.k19 hM, ts_LM.l19 hM, ts_LM.o20 hM, ts_LM.k20 hM, ts_LM.l20 hM, ts_LM.o21 hM, ts_LM.k21 hM, ts_LM.l21 hM, ts_LM.o22 hM, ts_LM.k22 hM, ts_LM.l22 hM, ts_LM.o23 hM, ts_LM.k23 hM, ts_LM.l23 hM]
    rw [ts_cl (by omega)]
    refine ⟨trivial, by omega, trivial, ts_vin (by omega) (by omega), fun hi2 x2 => ⟨by omega, trivial, ts_vin (by omega) (by omega), fun hi3 x3 => ?_⟩⟩
    have o3 : ∀ b, b ≠ 406 → b ≠ 407 → hi3 b = hi b := fun b y1 y2 => by rw [x3, x2]; funext s; rw [ts_up_a y2, ts_up_a y1]
    have Lp : ∀ m k hi', k + m = 40 → (∀ b, b ≠ 408 → hi' b = hi3 b) → (∀ s, hi' 408 s = if 40 * r ≤ s ∧ s < 40 * r + k then 0 else hi 408 s) → ts_J0 (d + 25) mX12_row (ts_qi Q) g 52 [(0, .ref 405), (1, .int (nI r)), (3, .int (nI n)), (4, .int (nI k))] [] hi' hk := by
      intro m
      induction m with
      | zero =>
        intro k hi' hk0 hO hI
        refine wX12_row_52 ?_
        rw [show (40 : Int32) = nI 40 from rfl, ts_le (by omega) (by omega)]
        refine ⟨fun _ => ⟨hM.kd, ?_⟩, fun e => absurd (by omega) e⟩
        refine ts_E0.of plX12_well rfl (Nat.le_of_ble_eq_true rfl) ?_
        refine wX12_well_0 ⟨hM.kd, fun hi5 x5 => q hi5 (ts_MI.rows hS h (fun b y1 y2 y3 y4 y5 => ?_) (fun s hs => ?_) ?_ (fun u hu => ?_)) (fun b hb => ?_)⟩
        · rw [x5]; funext s; rw [ts_up_a y1, hO b y4, o3 b y2 y3]
        · rw [x5, ts_up_s hs, hO 405 (by omega), o3 405 (by omega) (by omega)]
        · rw [x5, ts_up_eq]; rfl
        · have z := h.2.2.2.1 u hu
          have ob : ∀ b, b ≠ 405 → hi5 b = hi' b := fun b hb => by rw [x5]; funext s; rw [ts_up_a hb]
          rw [ob 406 (by omega), ob 407 (by omega), ob 408 (by omega), hO 406 (by omega), hO 407 (by omega)]
          by_cases hur : u = r
          · subst hur
            rw [ts_ud_eq, ts_ud_eq, ts_ud_eq, if_neg (by omega), x3, ts_up_a (by omega), x2, ts_up_eq]
            refine ⟨rfl, fun _ => ⟨?_, fun i hi9 => ?_⟩⟩
            · rw [ts_up_eq]
            · rw [hI, if_pos (by omega)]
          · rw [ts_ud_ne hur, ts_ud_ne hur, ts_ud_ne hur, x3, ts_up_a (by omega), x2, ts_up_s hur, ts_up_s hur, ts_up_a (by omega)]
            refine ⟨z.1, fun hn => ⟨(z.2 hn).1, fun i hi9 => ?_⟩⟩
            rw [hI, if_neg (by omega)]
            exact (z.2 hn).2 i hi9
        · rw [x5]; funext s; rw [ts_up_a (by omega), hO b (by omega), o3 b (by omega) (by omega)]
      | succ m ih =>
        intro k hi' hk0 hO hI
        refine wX12_row_52 ?_
        simp only [ts_LM.kd hM, ts_LM.o0 hM, ts_LM.k0 hM, ts_LM.l0 hM, ts_LM.o1 hM, ts_LM.k1 hM, ts_LM.l1 hM, ts_LM.o2 hM, ts_LM.k2 hM, ts_LM.l2 hM, ts_LM.o3 hM, ts_LM.k3 hM, ts_LM.l3 hM, ts_LM.o5 hM, ts_LM.k5 hM, ts_LM.l5 hM, ts_LM.o13 hM, ts_LM.k13 hM, ts_LM.l13 hM, ts_LM.o14 hM, ts_LM.k14 hM, ts_LM.l14 hM, ts_LM.o15 hM, ts_LM.k15 hM, ts_LM.l15 hM, ts_LM.o16 hM, ts_LM.k16 hM, ts_LM.l16 hM, ts_LM.o18 hM, ts_LM.k18 hM, ts_LM.l18 hM, ts_LM.o19 hM, ts_LM.k19 hM, ts_LM.l19 hM, ts_LM.o20 hM, ts_LM.k20 hM, ts_LM.l20 hM, ts_LM.o21 hM, ts_LM.k21 hM, ts_LM.l21 hM, ts_LM.o22 hM, ts_LM.k22 hM, ts_LM.l22 hM, ts_LM.o23 hM, ts_LM.k23 hM, ts_LM.l23 hM]
        rw [show (40 : Int32) = nI 40 from rfl, ts_le (by omega) (by omega), pk_mul, nI_add, ts_cl (by omega), ts_l1, nI_add]
        refine ⟨fun e => absurd e (by omega), fun _ => ⟨trivial, by omega, trivial, ts_vin (by omega) (by omega), fun hi5 x5 => ih (k + 1) hi5 (by omega) (fun b hb => by rw [x5]; funext s; rw [ts_up_a hb, hO b hb]) (fun s => ?_)⟩⟩
        rw [x5]
        by_cases e : s = 40 * r + k
        · subst e
          rw [ts_up_eq, if_pos (by omega)]
        · rw [ts_up_s e, hI]
          have e2 : (40 * r ≤ s ∧ s < 40 * r + k) ↔ (40 * r ≤ s ∧ s < 40 * r + (k + 1)) := by omega
          simp only [e2]
    exact Lp 40 0 hi3 (by omega) (fun _ _ => rfl) (fun s => by rw [if_neg (by omega), o3 408 (by omega) (by omega)])
  · rw [if_pos ⟨h1, h2, h3⟩, if_neg h4] at q
    exact ⟨hM.kd, c_mfound (f := 4) hM hS h q⟩
  · rw [if_neg (fun c => h3 c.2.2)] at q
    exact q.st h
  · rw [if_neg (fun c => n2 c.2.1)] at q
    exact q.st h
  · rw [if_neg (fun c => n1 c.1)] at q
    exact q.st h
theorem ts_cut8 (v : Int32) : (v <<< ((24 : Int32) &&& 31)) >>> ((24 : Int32) &&& 31) = v.toInt8.toInt32 := by
  apply Int32.toBitVec_inj.mp
  rw [show ((24 : Int32) &&& 31) = 24 from by decide, Int32.toBitVec_shiftRight, Int32.toBitVec_shiftLeft]
  apply BitVec.eq_of_getLsbD_eq
  intro i hi
  simp [BitVec.getLsbD_signExtend, BitVec.getLsbD_sshiftRight]
  have e1 : (BitVec.signExtend 8 v.toBitVec).msb = v.toBitVec.getLsbD 7 := by rw [BitVec.msb_eq_getLsbD_last, BitVec.getLsbD_signExtend]; rfl
  have e2 : v.toBitVec.getMsbD 24 = v.toBitVec.getLsbD 7 := by simp [BitVec.getMsbD]
  rw [e1, e2]
  by_cases h : i < 8
  · have h2 : 24 + i < 32 := by omega
    have h3 : ¬ 24 + i < 24 := by omega
    have h4 : ¬ 32 ≤ i := by omega
    simp [h, hi, h2, h4]
  · have h2 : ¬ 24 + i < 32 := by omega
    have h4 : ¬ 32 ≤ i := by omega
    simp [h, hi, h2, h4]
theorem ts_cut16 (v : Int32) : (v <<< ((16 : Int32) &&& 31)) >>> ((16 : Int32) &&& 31) = v.toInt16.toInt32 := by
  apply Int32.toBitVec_inj.mp
  rw [show ((16 : Int32) &&& 31) = 16 from by decide, Int32.toBitVec_shiftRight, Int32.toBitVec_shiftLeft]
  apply BitVec.eq_of_getLsbD_eq
  intro i hi
  simp [BitVec.getLsbD_signExtend, BitVec.getLsbD_sshiftRight]
  have e1 : (BitVec.signExtend 16 v.toBitVec).msb = v.toBitVec.getLsbD 15 := by rw [BitVec.msb_eq_getLsbD_last, BitVec.getLsbD_signExtend]; rfl
  have e2 : v.toBitVec.getMsbD 16 = v.toBitVec.getLsbD 15 := by simp [BitVec.getMsbD]
  rw [e1, e2]
  by_cases h : i < 16
  · have h2 : 16 + i < 32 := by omega
    have h3 : ¬ 16 + i < 16 := by omega
    have h4 : ¬ 32 ≤ i := by omega
    simp [h, hi, h2, h4]
  · have h2 : ¬ 16 + i < 32 := by omega
    have h4 : ¬ 32 ≤ i := by omega
    simp [h, hi, h2, h4]
/-- a number cut to a lane -/
def ts_nw (l : Nat) (v : Int32) : Int32 := if l = 0 then v.toInt8.toInt32 else if l = 1 then v.toInt16.toInt32 else v
def ts_s_set (S : ts_S) (a1 a2 a3 : Int32) : Int32 × ts_S :=
  if ts_rw a1 then
    if S.L a1.toNatClampNeg = 3 then (ts_fn 1, S.setS 1)
    else if ts_pt (S.z a1.toNatClampNeg) a2 1 then (ts_nw (S.L a1.toNatClampNeg) a3, S.setR S.L S.z (ts_ud S.x a1.toNatClampNeg (ts_ud (S.x a1.toNatClampNeg) a2.toNatClampNeg (ts_nw (S.L a1.toNatClampNeg) a3))) 0)
    else (ts_fn 2, S.setS 2)
  else (-1000001, S)
theorem ts_there {l : Nat} : ((if l = 3 then (0 : Int32) else 1) ≠ 0) ↔ l ≠ 3 := by
  by_cases h : l = 3
  · simp [h]
  · simp [h]
theorem x_set {d : Nat} {g : ts_G} {S : ts_S} {a1 a2 a3 : Int32} {hi : ts_I} {hk : ts_K} {Q : Int32 → ts_I → ts_K → Prop} (hX : ts_LX g) (hS : ts_SV S) (h : ts_XI S hi hk) (q : ts_QX (ts_s_set S a1 a2 a3) hi Q) : ts_E0 (d + 25) mX11_set [.ref 1, .int a1, .int a2, .int a3] g hi hk (ts_qi Q) := by
  refine ts_E0.of plX11_set rfl (Nat.le_of_ble_eq_true rfl) ?_
  refine wX11_set_0 ?_
  unfold ts_s_set at q
  refine c_XisRow (fun h1 => ⟨fun _ => ?_, fun e => absurd (by decide) e⟩) (fun n1 => ⟨fun e => absurd rfl e, fun _ => ?_⟩)
  · rw [if_pos h1] at q
    obtain ⟨r, hr, rfl⟩ := h1.get
    obtain ⟨e1, e2, e3, e4, e5⟩ := hX.row r hr
    have hz := h.2.2.2.1 r hr
    have hv := hS.2.2.2.2.1 r hr
    simp only [ts_LX.s0 hX, ts_LX.s1 hX, ts_LX.s2 hX, ts_LX.s3 hX, ts_LX.s4 hX, ts_LX.s5 hX, ts_LX.s6 hX, ts_LX.s7 hX, ts_LX.s8 hX, ts_LX.s9 hX, ts_LX.s10 hX, ts_LX.s11 hX, ts_LX.s12 hX, ts_LX.s13 hX, ts_LX.s14 hX, ts_LX.s15 hX, ts_LX.s16 hX, ts_LX.s17 hX, ts_LX.s18 hX, ts_LX.s19 hX, ts_LX.s20 hX, ts_LX.s21 hX, ts_LX.s22 hX, ts_LX.s23 hX, ts_LX.s24 hX, ts_LX.s25 hX, ts_LX.s26 hX, ts_LX.s27 hX, ts_LX.s28 hX, ts_LX.s29 hX, ts_LX.s30 hX, ts_LX.s31 hX, ts_LX.s32 hX, ts_LX.s33 hX, ts_LX.s34 hX, ts_LX.s35 hX, ts_LX.s36 hX, ts_LX.s37 hX, ts_LX.s38 hX]
    rw [ts_cl (by omega)] at q ⊢
    rw [e1, e3, hz.1]
    refine ⟨trivial, by omega, trivial, ts_vin (by omega) (by omega), by omega, e2, fun c => ?_, fun c => ?_⟩
    · have hl := ts_there.mp c
      rw [if_neg hl] at q
      obtain ⟨z2, z3, z4⟩ := hz.2 hl
      refine c_rowhas e2 z3 (fun p1 => ⟨fun _ => ⟨by omega, ?_⟩, fun e => absurd (by decide) e⟩) (fun n => ⟨fun e => absurd rfl e, fun _ => ?_⟩)
      · rw [if_pos p1] at q
        obtain ⟨a, b, hab, rfl, hb⟩ := p1.get hv.2
        rw [ts_l1, ts_eq (by omega) (by omega)] at hb
        rw [ts_cl (by omega)] at q ⊢
        refine ts_E0.of plX6_narrowed rfl (Nat.le_of_ble_eq_true rfl) ?_
        refine wX6_narrowed_0 ⟨e2, ?_⟩
        rw [z2, ts_l0, ts_l1, ts_eq (by omega) (by omega), ts_eq (by omega) (by omega)]
        have fin : ∀ v, v = ts_nw (S.L r) a3 → (g.2.1 (16 + 2 * r) = 100 ∧ vp_in (nI a) (g.2.2.1 (16 + 2 * r)) ∧ ∀ hi22 : ts_I, hi22 = ts_up hi (16 + 2 * r) a v → ts_E0 (d + 24) mX11_fine [.ref 1, .int (hi22 (16 + 2 * r) a)] g hi22 hk (ts_qi (fun v25 hi23 hk24 => Q v25 hi23 hk24))) := by
          intro v ev
          refine ⟨e4, ts_vin (by omega) (by omega), fun hi4 x4 => ?_⟩
          rw [show hi4 (16 + 2 * r) a = ts_nw (S.L r) a3 by rw [x4, ts_up_eq, ev]]
          refine ts_E0.of plX11_fine rfl (Nat.le_of_ble_eq_true rfl) ?_
          refine wX11_fine_0 ⟨hX.s0, fun hi6 x6 => q hi6 hk (ts_XI.rows hr h (fun b y1 y2 y3 => by rw [x6]; funext s; rw [ts_up_a y3, x4, ts_up_a y2]) (fun s hs => by rw [x6, ts_up_s hs, x4, ts_up_a (by omega)]) (by rw [x6, ts_up_eq]; rfl) (fun u hu => ?_)) (fun b hb => by rw [x6]; funext s; rw [ts_up_a (by omega), x4, ts_up_a (by omega)])⟩
          have zu := h.2.2.2.1 u hu
          have o6 : ∀ b, b ≠ 1 → hi6 b = hi4 b := fun b hb => by rw [x6]; funext s; rw [ts_up_a hb]
          have o4 : ∀ b, b ≠ 16 + 2 * r → hi4 b = hi b := fun b hb => by rw [x4]; funext s; rw [ts_up_a hb]
          rw [o6 _ (by omega), o6 _ (by omega), o4 (15 + 2 * u) (by omega)]
          refine ⟨zu.1, fun hn => ⟨(zu.2 hn).1, (zu.2 hn).2.1, fun i hi9 => ?_⟩⟩
          by_cases hur : u = r
          · subst hur
            rw [ts_ud_eq, x4]
            by_cases hia : i = a
            · subst hia
              rw [ts_ud_eq, ts_up_eq, ev]
            · rw [ts_ud_ne hia, ts_up_s hia]
              exact (zu.2 hn).2.2 i hi9
          · rw [ts_ud_ne hur, o4 (16 + 2 * u) (by omega)]
            exact (zu.2 hn).2.2 i hi9
        refine ⟨fun c0 => fin _ ?_, fun c1 => fin _ ?_, fun c0 c1 => fin _ ?_⟩
        · unfold ts_nw; rw [if_pos c0]
        · unfold ts_nw; rw [if_neg (by omega), if_pos c1]
        · unfold ts_nw; rw [if_neg c0, if_neg c1]
      · rw [if_neg n] at q
        exact c_found (f := 2) hX h q
    · have hl : S.L r = 3 := Decidable.not_not.mp (fun x => c (ts_there.mpr x))
      rw [if_pos hl] at q
      exact c_found (f := 1) hX h q
  · rw [if_neg n1] at q
    exact q.st h
theorem y_set {d : Nat} {g : ts_G} {S : ts_S} {a1 a2 a3 : Int32} {hi : ts_I} {hk : ts_K} {Q : Int32 → ts_I → ts_K → Prop} (hM : ts_LM g) (hS : ts_SV S) (h : ts_MI S hi) (q : ts_QM (ts_s_set S a1 a2 a3) hi hk Q) : ts_E0 (d + 25) mX12_set [.ref 405, .int a1, .int a2, .int a3] g hi hk (ts_qi Q) := by
  refine ts_E0.of plX12_set rfl (Nat.le_of_ble_eq_true rfl) ?_
  refine wX12_set_0 ?_
  unfold ts_s_set at q
  refine c_isRow (fun h1 => ⟨fun _ => ?_, fun e => absurd (by decide) e⟩) (fun n1 => ⟨fun e => absurd rfl e, fun _ => ?_⟩)
  · rw [if_pos h1] at q
    obtain ⟨r, hr, rfl⟩ := h1.get
    have hz := h.2.2.2.1 r hr
    have hv := hS.2.2.2.2.1 r hr
    simp only [ts_LM.kd hM, ts_LM.o0 hM, ts_LM.k0 hM, ts_LM.l0 hM, ts_LM.o1 hM, ts_LM.k1 hM, ts_LM.l1 hM, ts_LM.o2 hM, ts_LM.k2 hM, ts_LM.l2 hM, ts_LM.o3 hM, ts_LM.k3 hM, ts_LM.l3 hM, ts_LM.o5 hM, ts_LM.k5 hM, ts_LM.l5 hM, ts_LM.o13 hM, ts_LM.k13 hM, ts_LM.l13 hM, ts_LM.o14 hM, ts_LM.k14 hM, ts_LM.l14 hM, ts_LM.o15 hM, ts_LM.k15 hM, ts_LM.l15 hM, ts_LM.o16 hM, ts_LM.k16 hM, ts_LM.l16 hM, ts_LM.o18 hM, ts_LM.k18 hM, ts_LM.l18 hM, ts_LM.o19 hM, ts_LM.k19 hM, ts_LM.l19 hM, ts_LM.o20 hM, ts_LM.k20 hM, ts_LM.l20 hM, ts_LM.o21 hM, ts_LM.k21 hM, ts_LM.l21 hM, ts_LM.o22 hM, ts_LM.k22 hM, ts_LM.l22 hM, ts_LM.o23 hM, ts_LM.k23 hM, ts_LM.l23 hM]
    rw [ts_cl (by omega)] at q ⊢
    refine ⟨trivial, c_isMissing hM hr hv.1 h.2.2.2.1 (fun hl => ⟨fun e => absurd e (by decide), fun _ => ?_⟩) (fun hl => ⟨fun _ => ?_, fun e => absurd rfl e⟩)⟩
    · rw [if_pos hl] at q
      exact c_mfound (f := 1) hM hS h q
    · rw [if_neg hl] at q
      obtain ⟨z3, z4⟩ := hz.2 hl
      rw [z3]
      refine ⟨by omega, trivial, ts_vin (by omega) (by omega), c_inq (fun p0 => ⟨fun _ => ?_, fun e => absurd (by decide) e⟩) (fun n => ⟨fun e => absurd rfl e, fun _ => ?_⟩)⟩
      · have p1 := (ts_pt1 hv.2).mpr p0
        rw [if_pos p1] at q
        obtain ⟨a, b, hab, rfl, hb⟩ := p1.get hv.2
        rw [ts_l1, ts_eq (by omega) (by omega)] at hb
        rw [ts_cl (by omega)] at q
        rw [hz.1, if_neg hl]
        refine ⟨by omega, by omega, trivial, ts_vin (by omega) (by omega), ?_⟩
        refine ts_E0.of plX12_cut rfl (Nat.le_of_ble_eq_true rfl) ?_
        refine wX12_cut_0 ?_
        rw [show (40 : Int32) = nI 40 from rfl, pk_mul, nI_add, ts_cl (by omega), ts_l0, ts_l1, ts_ne (by omega) (by omega), ts_ne (by omega) (by omega), ts_cut8, ts_cut16]
        have fin : ∀ v, v = ts_nw (S.L r) a3 → (True ∧ vp_in (nI (40 * r + a)) 320 ∧ ∀ hi22 : ts_I, hi22 = ts_up hi 408 (40 * r + a) v → ts_E0 (d + 24) mX12_well [.ref 405, .int (hi22 408 (40 * r + a))] g hi22 hk (ts_qi (fun v25 hi23 hk24 => Q v25 hi23 hk24))) := by
          intro v ev
          refine ⟨trivial, ts_vin (by omega) (by omega), fun hi4 x4 => ?_⟩
          rw [show hi4 408 (40 * r + a) = ts_nw (S.L r) a3 by rw [x4, ts_up_eq, ev]]
          refine ts_E0.of plX12_well rfl (Nat.le_of_ble_eq_true rfl) ?_
          refine wX12_well_0 ⟨hM.kd, fun hi6 x6 => q hi6 (ts_MI.rows hS h (fun b y1 y2 y3 y4 y5 => by rw [x6]; funext s; rw [ts_up_a y1, x4, ts_up_a y4]) (fun s hs => by rw [x6, ts_up_s hs, x4, ts_up_a (by omega)]) (by rw [x6, ts_up_eq]; rfl) (fun u hu => ?_)) (fun b hb => by rw [x6]; funext s; rw [ts_up_a (by omega), x4, ts_up_a (by omega)])⟩
          have zu := h.2.2.2.1 u hu
          have o6 : ∀ b, b ≠ 405 → hi6 b = hi4 b := fun b hb => by rw [x6]; funext s; rw [ts_up_a hb]
          have o4 : ∀ b, b ≠ 408 → hi4 b = hi b := fun b hb => by rw [x4]; funext s; rw [ts_up_a hb]
          rw [o6 _ (by omega), o6 _ (by omega), o6 _ (by omega), o4 406 (by omega), o4 407 (by omega)]
          refine ⟨zu.1, fun hn => ⟨(zu.2 hn).1, fun i hi9 => ?_⟩⟩
          rw [x4]
          by_cases hur : u = r
          · subst hur
            rw [ts_ud_eq]
            by_cases hia : i = a
            · subst hia
              rw [ts_ud_eq, ts_up_eq, ev]
            · rw [ts_ud_ne hia, ts_up_s (by omega)]
              exact (zu.2 hn).2 i hi9
          · rw [ts_ud_ne hur, ts_up_s (by omega)]
            exact (zu.2 hn).2 i hi9
        refine ⟨fun c0 => ⟨fun c1 => fin _ ?_, fun c1 => fin _ ?_⟩, fun c0 => fin _ ?_⟩
        · unfold ts_nw; rw [if_neg c0, if_neg c1]
        · unfold ts_nw; rw [if_neg c0, if_pos (Decidable.not_not.mp c1)]
        · unfold ts_nw; rw [if_pos (Decidable.not_not.mp c0)]
      · rw [if_neg (fun c => n ((ts_pt1 hv.2).mp c))] at q
        exact c_mfound (f := 2) hM hS h q
  · rw [if_neg n1] at q
    exact q.st h
def ts_s_drop (S : ts_S) (a1 : Int32) : Int32 × ts_S :=
  if ts_rw a1 then
    if S.L a1.toNatClampNeg = 3 then (ts_fn 1, S.setS 1) else (nI (S.z a1.toNatClampNeg), S.setR (ts_ud S.L a1.toNatClampNeg 3) S.z S.x 0)
  else (-1000001, S)
theorem x_drop {d : Nat} {g : ts_G} {S : ts_S} {a1 : Int32} {hi : ts_I} {hk : ts_K} {Q : Int32 → ts_I → ts_K → Prop} (hX : ts_LX g) (hS : ts_SV S) (h : ts_XI S hi hk) (q : ts_QX (ts_s_drop S a1) hi Q) : ts_E0 (d + 25) mX11_drop [.ref 1, .int a1] g hi hk (ts_qi Q) := by
  refine ts_E0.of plX11_drop rfl (Nat.le_of_ble_eq_true rfl) ?_
  refine wX11_drop_0 ?_
  unfold ts_s_drop at q
  refine c_XisRow (fun h1 => ⟨fun _ => ?_, fun e => absurd (by decide) e⟩) (fun n1 => ⟨fun e => absurd rfl e, fun _ => ?_⟩)
  · rw [if_pos h1] at q
    obtain ⟨r, hr, rfl⟩ := h1.get
    obtain ⟨e1, e2, e3, e4, e5⟩ := hX.row r hr
    have hz := h.2.2.2.1 r hr
    simp only [ts_LX.s0 hX, ts_LX.s1 hX, ts_LX.s2 hX, ts_LX.s3 hX, ts_LX.s4 hX, ts_LX.s5 hX, ts_LX.s6 hX, ts_LX.s7 hX, ts_LX.s8 hX, ts_LX.s9 hX, ts_LX.s10 hX, ts_LX.s11 hX, ts_LX.s12 hX, ts_LX.s13 hX, ts_LX.s14 hX, ts_LX.s15 hX, ts_LX.s16 hX, ts_LX.s17 hX, ts_LX.s18 hX, ts_LX.s19 hX, ts_LX.s20 hX, ts_LX.s21 hX, ts_LX.s22 hX, ts_LX.s23 hX, ts_LX.s24 hX, ts_LX.s25 hX, ts_LX.s26 hX, ts_LX.s27 hX, ts_LX.s28 hX, ts_LX.s29 hX, ts_LX.s30 hX, ts_LX.s31 hX, ts_LX.s32 hX, ts_LX.s33 hX, ts_LX.s34 hX, ts_LX.s35 hX, ts_LX.s36 hX, ts_LX.s37 hX, ts_LX.s38 hX]
    rw [ts_cl (by omega)] at q ⊢
    rw [e1, hz.1]
    refine ⟨trivial, by omega, trivial, ts_vin (by omega) (by omega), by omega, e2, fun c => ?_, fun c => ?_⟩
    · have hl := ts_there.mp c
      rw [if_neg hl] at q
      obtain ⟨z2, z3, z4⟩ := hz.2 hl
      intro hi4 x4
      rw [show hi4 (15 + 2 * r) 3 = nI (S.z r) by rw [x4, ts_up_s (by omega), z3]]
      refine ts_E0.of plX11_fine rfl (Nat.le_of_ble_eq_true rfl) ?_
      refine wX11_fine_0 ⟨hX.s0, fun hi6 x6 => q hi6 hk (ts_XI.rows hr h (fun b y1 y2 y3 => by rw [x6]; funext s; rw [ts_up_a y3, x4, ts_up_a y1]) (fun s hs => by rw [x6, ts_up_s hs, x4, ts_up_a (by omega)]) (by rw [x6, ts_up_eq]; rfl) (fun u hu => ?_)) (fun b hb => by rw [x6]; funext s; rw [ts_up_a (by omega), x4, ts_up_a (by omega)])⟩
      have zu := h.2.2.2.1 u hu
      have o6 : ∀ b, b ≠ 1 → hi6 b = hi4 b := fun b hb => by rw [x6]; funext s; rw [ts_up_a hb]
      have o4 : ∀ b, b ≠ 15 + 2 * r → hi4 b = hi b := fun b hb => by rw [x4]; funext s; rw [ts_up_a hb]
      rw [o6 _ (by omega), o6 _ (by omega), o4 (16 + 2 * u) (by omega)]
      by_cases hur : u = r
      · subst hur
        rw [ts_ud_eq, if_pos rfl, x4, ts_up_eq]
        exact ⟨rfl, fun e => absurd rfl e⟩
      · rw [ts_ud_ne hur, o4 _ (by omega)]
        exact zu
    · have hl : S.L r = 3 := Decidable.not_not.mp (fun x => c (ts_there.mpr x))
      rw [if_pos hl] at q
      exact c_found (f := 1) hX h q
  · rw [if_neg n1] at q
    exact q.st h
theorem y_drop {d : Nat} {g : ts_G} {S : ts_S} {a1 : Int32} {hi : ts_I} {hk : ts_K} {Q : Int32 → ts_I → ts_K → Prop} (hM : ts_LM g) (hS : ts_SV S) (h : ts_MI S hi) (q : ts_QM (ts_s_drop S a1) hi hk Q) : ts_E0 (d + 25) mX12_drop [.ref 405, .int a1] g hi hk (ts_qi Q) := by
  refine ts_E0.of plX12_drop rfl (Nat.le_of_ble_eq_true rfl) ?_
  refine wX12_drop_0 ?_
  unfold ts_s_drop at q
  refine c_isRow (fun h1 => ⟨fun _ => ?_, fun e => absurd (by decide) e⟩) (fun n1 => ⟨fun e => absurd rfl e, fun _ => ?_⟩)
  · rw [if_pos h1] at q
    obtain ⟨r, hr, rfl⟩ := h1.get
    have hz := h.2.2.2.1 r hr
    have hv := hS.2.2.2.2.1 r hr
    simp only [ts_LM.kd hM, ts_LM.o0 hM, ts_LM.k0 hM, ts_LM.l0 hM, ts_LM.o1 hM, ts_LM.k1 hM, ts_LM.l1 hM, ts_LM.o2 hM, ts_LM.k2 hM, ts_LM.l2 hM, ts_LM.o3 hM, ts_LM.k3 hM, ts_LM.l3 hM, ts_LM.o5 hM, ts_LM.k5 hM, ts_LM.l5 hM, ts_LM.o13 hM, ts_LM.k13 hM, ts_LM.l13 hM, ts_LM.o14 hM, ts_LM.k14 hM, ts_LM.l14 hM, ts_LM.o15 hM, ts_LM.k15 hM, ts_LM.l15 hM, ts_LM.o16 hM, ts_LM.k16 hM, ts_LM.l16 hM, ts_LM.o18 hM, ts_LM.k18 hM, ts_LM.l18 hM, ts_LM.o19 hM, ts_LM.k19 hM, ts_LM.l19 hM, ts_LM.o20 hM, ts_LM.k20 hM, ts_LM.l20 hM, ts_LM.o21 hM, ts_LM.k21 hM, ts_LM.l21 hM, ts_LM.o22 hM, ts_LM.k22 hM, ts_LM.l22 hM, ts_LM.o23 hM, ts_LM.k23 hM, ts_LM.l23 hM]
    rw [ts_cl (by omega)] at q ⊢
    refine ⟨trivial, c_isMissing hM hr hv.1 h.2.2.2.1 (fun hl => ⟨fun e => absurd e (by decide), fun _ => ?_⟩) (fun hl => ⟨fun _ => ?_, fun e => absurd rfl e⟩)⟩
    · rw [if_pos hl] at q
      exact c_mfound (f := 1) hM hS h q
    · rw [if_neg hl] at q
      obtain ⟨z3, z4⟩ := hz.2 hl
      refine ⟨by omega, trivial, ts_vin (by omega) (by omega), fun hi4 x4 => ?_⟩
      rw [show hi4 407 r = nI (S.z r) by rw [x4, ts_up_a (by omega), z3]]
      refine ⟨by omega, trivial, ts_vin (by omega) (by omega), ?_⟩
      refine ts_E0.of plX12_well rfl (Nat.le_of_ble_eq_true rfl) ?_
      refine wX12_well_0 ⟨hM.kd, fun hi6 x6 => q hi6 (ts_MI.rows hS h (fun b y1 y2 y3 y4 y5 => by rw [x6]; funext s; rw [ts_up_a y1, x4, ts_up_a y2]) (fun s hs => by rw [x6, ts_up_s hs, x4, ts_up_a (by omega)]) (by rw [x6, ts_up_eq]; rfl) (fun u hu => ?_)) (fun b hb => by rw [x6]; funext s; rw [ts_up_a (by omega), x4, ts_up_a (by omega)])⟩
      have zu := h.2.2.2.1 u hu
      have o6 : ∀ b, b ≠ 405 → hi6 b = hi4 b := fun b hb => by rw [x6]; funext s; rw [ts_up_a hb]
      have o4 : ∀ b, b ≠ 406 → hi4 b = hi b := fun b hb => by rw [x4]; funext s; rw [ts_up_a hb]
      rw [o6 _ (by omega), o6 _ (by omega), o6 _ (by omega), o4 407 (by omega), o4 408 (by omega), x4]
      by_cases hur : u = r
      · subst hur
        rw [ts_ud_eq, if_pos rfl, ts_up_eq]
        exact ⟨rfl, fun e => absurd rfl e⟩
      · rw [ts_ud_ne hur, ts_up_s hur]
        exact zu
  · rw [if_neg n1] at q
    exact q.st h
def ts_s_copy (S : ts_S) (a1 a2 a3 a4 a5 : Int32) : Int32 × ts_S :=
  if ts_rw a1 ∧ ts_rw a3 then
    if S.L a1.toNatClampNeg = 3 ∨ S.L a3.toNatClampNeg = 3 then (ts_fn 1, S.setS 1)
    else if S.L a1.toNatClampNeg ≠ S.L a3.toNatClampNeg then (ts_fn 5, S.setS 5)
    else if ts_pt (S.z a1.toNatClampNeg) a2 a5 ∧ ts_pt (S.z a3.toNatClampNeg) a4 a5 then (a5, S.setR S.L S.z (ts_ud S.x a3.toNatClampNeg (fun i => if a4.toNatClampNeg ≤ i ∧ i < a4.toNatClampNeg + a5.toNatClampNeg then S.x a1.toNatClampNeg (a2.toNatClampNeg + (i - a4.toNatClampNeg)) else S.x a3.toNatClampNeg i)) 0)
    else (ts_fn 2, S.setS 2)
  else (-1000001, S)
theorem x_copy {d : Nat} {g : ts_G} {S : ts_S} {a1 a2 a3 a4 a5 : Int32} {hi : ts_I} {hk : ts_K} {Q : Int32 → ts_I → ts_K → Prop} (hX : ts_LX g) (hS : ts_SV S) (h : ts_XI S hi hk) (q : ts_QX (ts_s_copy S a1 a2 a3 a4 a5) hi Q) : ts_E0 (d + 25) mX11_copy [.ref 1, .int a1, .int a2, .int a3, .int a4, .int a5] g hi hk (ts_qi Q) := by
  refine ts_E0.of plX11_copy rfl (Nat.le_of_ble_eq_true rfl) ?_
  refine wX11_copy_0 ?_
  unfold ts_s_copy at q
  refine c_XisRow (fun h1 => ⟨fun e => absurd e (by decide), fun _ => c_XisRow (fun h2 => ⟨fun _ => ?_, fun e => absurd (by decide) e⟩) (fun n2 => ⟨fun e => absurd rfl e, fun _ => ?_⟩)⟩) (fun n1 => ⟨fun _ => ?_, fun e => absurd rfl e⟩)
  · rw [if_pos ⟨h1, h2⟩] at q
    obtain ⟨r, hr, rfl⟩ := h1.get
    obtain ⟨s, hs, rfl⟩ := h2.get
    obtain ⟨e1, e2, e3, e4, e5⟩ := hX.row r hr
    obtain ⟨f1, f2, f3, f4, f5⟩ := hX.row s hs
    have hz := h.2.2.2.1 r hr
    have hy := h.2.2.2.1 s hs
    have hv := hS.2.2.2.2.1 r hr
    have hw := hS.2.2.2.2.1 s hs
    simp only [ts_LX.s0 hX, ts_LX.s1 hX, ts_LX.s2 hX, ts_LX.s3 hX, ts_LX.s4 hX, ts_LX.s5 hX, ts_LX.s6 hX, ts_LX.s7 hX, ts_LX.s8 hX, ts_LX.s9 hX, ts_LX.s10 hX, ts_LX.s11 hX, ts_LX.s12 hX, ts_LX.s13 hX, ts_LX.s14 hX, ts_LX.s15 hX, ts_LX.s16 hX, ts_LX.s17 hX, ts_LX.s18 hX, ts_LX.s19 hX, ts_LX.s20 hX, ts_LX.s21 hX, ts_LX.s22 hX, ts_LX.s23 hX, ts_LX.s24 hX, ts_LX.s25 hX, ts_LX.s26 hX, ts_LX.s27 hX, ts_LX.s28 hX, ts_LX.s29 hX, ts_LX.s30 hX, ts_LX.s31 hX, ts_LX.s32 hX, ts_LX.s33 hX, ts_LX.s34 hX, ts_LX.s35 hX, ts_LX.s36 hX, ts_LX.s37 hX, ts_LX.s38 hX]
    rw [ts_cl (n := r) (by omega), ts_cl (n := s) (by omega)] at q ⊢
    rw [e1, f1, e3, f3, hz.1, hy.1]
    refine ⟨trivial, by omega, trivial, ts_vin (by omega) (by omega), by omega, ts_vin (by omega) (by omega), by omega, e2, fun c => ?_, fun c => ⟨f2, fun c2 => ⟨fun c3 => ?_, fun c3 => ?_⟩, fun c2 => ?_⟩⟩
    · have hl : S.L r = 3 := Decidable.not_not.mp (fun x => (ts_there.mpr x) c)
      rw [if_pos (Or.inl hl)] at q
      exact c_found (f := 1) hX h q
    · have hl := ts_there.mp c
      have hl2 := ts_there.mp c2
      obtain ⟨z2, z3, z4⟩ := hz.2 hl
      obtain ⟨y2, y3, y4⟩ := hy.2 hl2
      rw [z2, y2, ts_eq (by omega) (by omega)] at c3
      rw [if_neg (by omega), if_neg (fun x => x c3)] at q
      refine c_rowhas e2 z3 (fun p1 => ⟨fun e => absurd e (by decide), fun _ => c_rowhas f2 y3 (fun p2 => ⟨fun _ => ?_, fun e => absurd (by decide) e⟩) (fun n2 => ⟨fun e => absurd rfl e, fun _ => ?_⟩)⟩) (fun n1 => ⟨fun _ => ?_, fun e => absurd rfl e⟩)
      · rw [if_pos ⟨p1, p2⟩] at q
        obtain ⟨a, n, han, rfl, rfl⟩ := p1.get hv.2
        obtain ⟨b, n', hbn, rfl, hn'⟩ := p2.get hw.2
        rw [ts_eq (by omega) (by omega)] at hn'
        rw [ts_cl (n := a) (by omega), ts_cl (n := b) (by omega), ts_cl (n := n) (by omega)] at q ⊢
        simp only [ts_l0]
        rw [ts_lt (by omega) (by omega), ts_lt (by omega) (by omega), ts_lt (by omega) (by omega)]
        refine ⟨by omega, by omega, e4, f4, by omega, by omega, by omega, by omega, by omega, fun hi4 x4 => ?_⟩
        refine ts_E0.of plX11_fine rfl (Nat.le_of_ble_eq_true rfl) ?_
        refine wX11_fine_0 ⟨hX.s0, fun hi6 x6 => q hi6 hk (ts_XI.rows hs h (fun b y1 y2 y3 => by rw [x6]; funext s; rw [ts_up_a y3, x4, ts_cp_a y2]) (fun s hs => by rw [x6, ts_up_s hs, x4, ts_cp_a (by omega)]) (by rw [x6, ts_up_eq]; rfl) (fun u hu => ?_)) (fun b hb => by rw [x6]; funext s; rw [ts_up_a (by omega), x4, ts_cp_a (by omega)])⟩
        have zu := h.2.2.2.1 u hu
        have o6 : ∀ b, b ≠ 1 → hi6 b = hi4 b := fun b hb => by rw [x6]; funext s; rw [ts_up_a hb]
        have o4 : ∀ b, b ≠ 16 + 2 * s → hi4 b = hi b := fun b hb => by rw [x4, ts_cp_a hb]
        rw [o6 _ (by omega), o6 _ (by omega), o4 (15 + 2 * u) (by omega)]
        refine ⟨zu.1, fun hn => ⟨(zu.2 hn).1, (zu.2 hn).2.1, fun i hi9 => ?_⟩⟩
        by_cases hur : u = s
        · subst hur
          rw [ts_ud_eq, x4]
          by_cases hia : b ≤ i ∧ i < b + n
          · rw [if_pos hia, ts_cp_at hia.1 hia.2]
            exact z4 _ (by omega)
          · rw [if_neg hia]
            unfold ts_cp
            rw [if_neg (fun x => hia x.2)]
            exact y4 i hi9
        · rw [ts_ud_ne hur, o4 (16 + 2 * u) (by omega)]
          exact (zu.2 hn).2.2 i hi9
      · rw [if_neg (fun x => n2 x.2)] at q
        exact c_found (f := 2) hX h q
      · rw [if_neg (fun x => n1 x.1)] at q
        exact c_found (f := 2) hX h q
    · have hl := ts_there.mp c
      have hl2 := ts_there.mp c2
      obtain ⟨z2, z3, z4⟩ := hz.2 hl
      obtain ⟨y2, y3, y4⟩ := hy.2 hl2
      rw [z2, y2, ts_eq (by omega) (by omega)] at c3
      rw [if_neg (by omega), if_pos c3] at q
      exact c_found (f := 5) hX h q
    · have hl : S.L s = 3 := Decidable.not_not.mp (fun x => c2 (ts_there.mpr x))
      rw [if_pos (Or.inr hl)] at q
      exact c_found (f := 1) hX h q
  · rw [if_neg (fun c => n2 c.2)] at q
    exact q.st h
  · rw [if_neg (fun c => n1 c.1)] at q
    exact q.st h
theorem y_copy {d : Nat} {g : ts_G} {S : ts_S} {a1 a2 a3 a4 a5 : Int32} {hi : ts_I} {hk : ts_K} {Q : Int32 → ts_I → ts_K → Prop} (hM : ts_LM g) (hS : ts_SV S) (h : ts_MI S hi) (q : ts_QM (ts_s_copy S a1 a2 a3 a4 a5) hi hk Q) : ts_E0 (d + 25) mX12_copy [.ref 405, .int a1, .int a2, .int a3, .int a4, .int a5] g hi hk (ts_qi Q) := by
  refine ts_E0.of plX12_copy rfl (Nat.le_of_ble_eq_true rfl) ?_
  refine wX12_copy_0 ?_
  unfold ts_s_copy at q
  refine c_isRow (fun h1 => ⟨fun e => absurd e (by decide), fun _ => c_isRow (fun h2 => ⟨fun _ => ?_, fun e => absurd (by decide) e⟩) (fun n2 => ⟨fun e => absurd rfl e, fun _ => ?_⟩)⟩) (fun n1 => ⟨fun _ => ?_, fun e => absurd rfl e⟩)
  · rw [if_pos ⟨h1, h2⟩] at q
    obtain ⟨r, hr, rfl⟩ := h1.get
    obtain ⟨s, hs, rfl⟩ := h2.get
    have hz := h.2.2.2.1 r hr
    have hy := h.2.2.2.1 s hs
    have hv := hS.2.2.2.2.1 r hr
    have hw := hS.2.2.2.2.1 s hs
    simp only [ts_LM.kd hM, ts_LM.o0 hM, ts_LM.k0 hM, ts_LM.l0 hM, ts_LM.o1 hM, ts_LM.k1 hM, ts_LM.l1 hM, ts_LM.o2 hM, ts_LM.k2 hM, ts_LM.l2 hM, ts_LM.o3 hM, ts_LM.k3 hM, ts_LM.l3 hM, ts_LM.o5 hM, ts_LM.k5 hM, ts_LM.l5 hM, ts_LM.o13 hM, ts_LM.k13 hM, ts_LM.l13 hM, ts_LM.o14 hM, ts_LM.k14 hM, ts_LM.l14 hM, ts_LM.o15 hM, ts_LM.k15 hM, ts_LM.l15 hM, ts_LM.o16 hM, ts_LM.k16 hM, ts_LM.l16 hM, ts_LM.o18 hM, ts_LM.k18 hM, ts_LM.l18 hM, ts_LM.o19 hM, ts_LM.k19 hM, ts_LM.l19 hM, ts_LM.o20 hM, ts_LM.k20 hM, ts_LM.l20 hM, ts_LM.o21 hM, ts_LM.k21 hM, ts_LM.l21 hM, ts_LM.o22 hM, ts_LM.k22 hM, ts_LM.l22 hM, ts_LM.o23 hM, ts_LM.k23 hM, ts_LM.l23 hM]
    rw [ts_cl (n := r) (by omega), ts_cl (n := s) (by omega)] at q
    refine ⟨trivial, c_isMissing hM hr hv.1 h.2.2.2.1 (fun hl => ⟨fun _ => ?_, fun e => absurd (by decide) e⟩) (fun hl => ⟨fun e => absurd rfl e, fun _ => c_isMissing hM hs hw.1 h.2.2.2.1 (fun hl2 => ⟨fun e => absurd e (by decide), fun _ => ?_⟩) (fun hl2 => ⟨fun _ => ?_, fun e => absurd rfl e⟩)⟩)⟩
    · rw [if_pos (Or.inl hl)] at q
      exact c_mfound (f := 1) hM hS h q
    · rw [if_pos (Or.inr hl2)] at q
      exact c_mfound (f := 1) hM hS h q
    · rw [if_neg (by omega)] at q
      obtain ⟨z3, z4⟩ := hz.2 hl
      obtain ⟨y3, y4⟩ := hy.2 hl2
      rw [ts_cl (n := r) (by omega), ts_cl (n := s) (by omega), hz.1, hy.1, if_neg hl, if_neg hl2, ts_eq (by omega) (by omega)]
      refine ⟨by omega, trivial, ts_vin (by omega) (by omega), ts_vin (by omega) (by omega), fun c3 => ?_, fun c3 => ?_⟩
      · rw [if_neg (fun x => x c3)] at q
        refine c_isPart hM hr z3 (fun p1 => ⟨fun e => absurd e (by decide), fun _ => c_isPart hM hs y3 (fun p2 => ⟨fun _ => ?_, fun e => absurd (by decide) e⟩) (fun n2 => ⟨fun e => absurd rfl e, fun _ => ?_⟩)⟩) (fun n1 => ⟨fun _ => ?_, fun e => absurd rfl e⟩)
        · rw [if_pos ⟨p1, p2⟩] at q
          obtain ⟨a, n, han, rfl, rfl⟩ := p1.get hv.2
          obtain ⟨b, n', hbn, rfl, hn'⟩ := p2.get hw.2
          rw [ts_eq (by omega) (by omega)] at hn'
          rw [ts_cl (n := a) (by omega), ts_cl (n := b) (by omega), ts_cl (n := n) (by omega)] at q
          -- back from the spare row
          have L2 : ∀ m k hi', k + m = n → (∀ c, c ≠ 408 → c ≠ 409 → hi' c = hi c) → (∀ u, u < n → hi' 409 u = S.x r (a + u)) → (∀ u, hi' 408 u = if 40 * s + b ≤ u ∧ u < 40 * s + b + k then S.x r (a + (u - (40 * s + b))) else hi 408 u) → ts_J0 (d + 25) mX12_copy (ts_qi Q) g 129 [(0, .ref 405), (3, .int (nI s)), (4, .int (nI b)), (5, .int (nI n)), (6, .int (nI k))] [] hi' hk := by
            intro m
            induction m with
            | zero =>
              intro k hi' hkm hO h9 hI
              refine wX12_copy_129 ?_
              simp only [ts_LM.kd hM, ts_LM.o0 hM, ts_LM.k0 hM, ts_LM.l0 hM, ts_LM.o1 hM, ts_LM.k1 hM, ts_LM.l1 hM, ts_LM.o2 hM, ts_LM.k2 hM, ts_LM.l2 hM, ts_LM.o3 hM, ts_LM.k3 hM, ts_LM.l3 hM, ts_LM.o5 hM, ts_LM.k5 hM, ts_LM.l5 hM, ts_LM.o13 hM, ts_LM.k13 hM, ts_LM.l13 hM, ts_LM.o14 hM, ts_LM.k14 hM, ts_LM.l14 hM, ts_LM.o15 hM, ts_LM.k15 hM, ts_LM.l15 hM, ts_LM.o16 hM, ts_LM.k16 hM, ts_LM.l16 hM, ts_LM.o18 hM, ts_LM.k18 hM, ts_LM.l18 hM, ts_LM.o19 hM, ts_LM.k19 hM, ts_LM.l19 hM, ts_LM.o20 hM, ts_LM.k20 hM, ts_LM.l20 hM, ts_LM.o21 hM, ts_LM.k21 hM, ts_LM.l21 hM, ts_LM.o22 hM, ts_LM.k22 hM, ts_LM.l22 hM, ts_LM.o23 hM, ts_LM.k23 hM, ts_LM.l23 hM]
              rw [ts_le (by omega) (by omega)]
              refine ⟨fun _ => ⟨trivial, ?_⟩, fun e => absurd (by omega) e⟩
              refine ts_E0.of plX12_well rfl (Nat.le_of_ble_eq_true rfl) ?_
              refine wX12_well_0 ⟨hM.kd, fun hi6 x6 => q hi6 (ts_MI.rows hS h (fun b y1 y2 y3 y4 y5 => by rw [x6]; funext s; rw [ts_up_a y1, hO b y4 y5]) (fun s hs => by rw [x6, ts_up_s hs, hO 405 (by omega) (by omega)]) (by rw [x6, ts_up_eq]; rfl) (fun u hu => ?_)) (fun b hb => by rw [x6]; funext s; rw [ts_up_a (by omega), hO b (by omega) (by omega)])⟩
              have zu := h.2.2.2.1 u hu
              have o6 : ∀ b, b ≠ 405 → hi6 b = hi' b := fun b hb => by rw [x6]; funext s; rw [ts_up_a hb]
              rw [o6 _ (by omega), o6 _ (by omega), o6 _ (by omega), hO 406 (by omega) (by omega), hO 407 (by omega) (by omega)]
              refine ⟨zu.1, fun hn => ⟨(zu.2 hn).1, fun i hi9 => ?_⟩⟩
              rw [hI]
              by_cases hur : u = s
              · subst hur
                rw [ts_ud_eq]
                by_cases hia : b ≤ i ∧ i < b + n
                · rw [if_pos hia, if_pos (by omega)]
                  congr 1
                  omega
                · rw [if_neg hia, if_neg (by omega)]
                  exact y4 i hi9
              · rw [ts_ud_ne hur, if_neg (by omega)]
                exact (zu.2 hn).2 i hi9
            | succ m ih =>
              intro k hi' hkm hO h9 hI
              refine wX12_copy_129 ?_
              simp only [ts_LM.kd hM, ts_LM.o0 hM, ts_LM.k0 hM, ts_LM.l0 hM, ts_LM.o1 hM, ts_LM.k1 hM, ts_LM.l1 hM, ts_LM.o2 hM, ts_LM.k2 hM, ts_LM.l2 hM, ts_LM.o3 hM, ts_LM.k3 hM, ts_LM.l3 hM, ts_LM.o5 hM, ts_LM.k5 hM, ts_LM.l5 hM, ts_LM.o13 hM, ts_LM.k13 hM, ts_LM.l13 hM, ts_LM.o14 hM, ts_LM.k14 hM, ts_LM.l14 hM, ts_LM.o15 hM, ts_LM.k15 hM, ts_LM.l15 hM, ts_LM.o16 hM, ts_LM.k16 hM, ts_LM.l16 hM, ts_LM.o18 hM, ts_LM.k18 hM, ts_LM.l18 hM, ts_LM.o19 hM, ts_LM.k19 hM, ts_LM.l19 hM, ts_LM.o20 hM, ts_LM.k20 hM, ts_LM.l20 hM, ts_LM.o21 hM, ts_LM.k21 hM, ts_LM.l21 hM, ts_LM.o22 hM, ts_LM.k22 hM, ts_LM.l22 hM, ts_LM.o23 hM, ts_LM.k23 hM, ts_LM.l23 hM]
              rw [ts_le (by omega) (by omega), show (40 : Int32) = nI 40 from rfl, pk_mul, nI_add, nI_add, ts_cl (by omega), ts_cl (by omega), h9 k (by omega), ts_l1, nI_add]
              refine ⟨fun e => absurd e (by omega), fun _ => ⟨trivial, by omega, by omega, trivial, ts_vin (by omega) (by omega), trivial, ts_vin (by omega) (by omega), fun hi5 x5 => ih (k + 1) hi5 (by omega) (fun c c1 c2 => by rw [x5]; funext s; rw [ts_up_a c1, hO c c1 c2]) (fun u hu => by rw [x5, ts_up_a (by omega)]; exact h9 u hu) (fun u => ?_)⟩⟩
              rw [x5]
              by_cases e : u = 40 * s + b + k
              · subst e
                rw [ts_up_eq, if_pos (by omega)]
                congr 1
                omega
              · rw [ts_up_s e, hI]
                have e2 : (40 * s + b ≤ u ∧ u < 40 * s + b + k) ↔ (40 * s + b ≤ u ∧ u < 40 * s + b + (k + 1)) := by omega
                simp only [e2]
          have L1 : ∀ m k hi', k + m = n → (∀ c, c ≠ 409 → hi' c = hi c) → (∀ u, u < k → hi' 409 u = S.x r (a + u)) → ts_J0 (d + 25) mX12_copy (ts_qi Q) g 92 [(0, .ref 405), (1, .int (nI r)), (2, .int (nI a)), (3, .int (nI s)), (4, .int (nI b)), (5, .int (nI n)), (6, .int (nI k))] [] hi' hk := by
            intro m
            induction m with
            | zero =>
              intro k hi' hkm hO hI
              refine wX12_copy_92 ?_
              rw [ts_le (by omega) (by omega)]
              exact ⟨fun _ => L2 n 0 hi' (by omega) (fun c _ c2 => hO c c2) (fun u hu => hI u (by omega)) (fun u => by rw [if_neg (by omega), hO 408 (by omega)]), fun e => absurd (by omega) e⟩
            | succ m ih =>
              intro k hi' hkm hO hI
              refine wX12_copy_92 ?_
              simp only [ts_LM.kd hM, ts_LM.o0 hM, ts_LM.k0 hM, ts_LM.l0 hM, ts_LM.o1 hM, ts_LM.k1 hM, ts_LM.l1 hM, ts_LM.o2 hM, ts_LM.k2 hM, ts_LM.l2 hM, ts_LM.o3 hM, ts_LM.k3 hM, ts_LM.l3 hM, ts_LM.o5 hM, ts_LM.k5 hM, ts_LM.l5 hM, ts_LM.o13 hM, ts_LM.k13 hM, ts_LM.l13 hM, ts_LM.o14 hM, ts_LM.k14 hM, ts_LM.l14 hM, ts_LM.o15 hM, ts_LM.k15 hM, ts_LM.l15 hM, ts_LM.o16 hM, ts_LM.k16 hM, ts_LM.l16 hM, ts_LM.o18 hM, ts_LM.k18 hM, ts_LM.l18 hM, ts_LM.o19 hM, ts_LM.k19 hM, ts_LM.l19 hM, ts_LM.o20 hM, ts_LM.k20 hM, ts_LM.l20 hM, ts_LM.o21 hM, ts_LM.k21 hM, ts_LM.l21 hM, ts_LM.o22 hM, ts_LM.k22 hM, ts_LM.l22 hM, ts_LM.o23 hM, ts_LM.k23 hM, ts_LM.l23 hM]
              rw [ts_le (by omega) (by omega), show (40 : Int32) = nI 40 from rfl, pk_mul, nI_add, nI_add, ts_cl (by omega), ts_cl (by omega), hO 408 (by omega), show hi 408 (40 * r + a + k) = S.x r (a + k) from by rw [← z4 (a + k) (by omega)]; congr 1; omega, ts_l1, nI_add]
              refine ⟨fun e => absurd e (by omega), fun _ => ⟨trivial, by omega, by omega, trivial, ts_vin (by omega) (by omega), trivial, ts_vin (by omega) (by omega), fun hi5 x5 => ih (k + 1) hi5 (by omega) (fun c c1 => by rw [x5]; funext s; rw [ts_up_a c1, hO c c1]) (fun u hu => ?_)⟩⟩
              rw [x5]
              by_cases e : u = k
              · subst e
                rw [ts_up_eq]
              · rw [ts_up_s e]
                exact hI u (by omega)
          exact L1 n 0 hi (by omega) (fun _ _ => rfl) (fun u hu => by omega)
        · rw [if_neg (fun x => n2 x.2)] at q
          exact c_mfound (f := 2) hM hS h q
        · rw [if_neg (fun x => n1 x.1)] at q
          exact c_mfound (f := 2) hM hS h q
      · rw [if_pos c3] at q
        exact c_mfound (f := 5) hM hS h q
  · rw [if_neg (fun c => n2 c.2)] at q
    exact q.st h
  · rw [if_neg (fun c => n1 c.1)] at q
    exact q.st h
theorem ts_SV.rows {S : ts_S} {L z : Nat → Nat} {x : Nat → Nat → Int32} {f : Nat} (hS : ts_SV S) (hf : f ≤ 5) (h : ∀ r, r < 8 → L r ≤ 3 ∧ z r ≤ 40) : ts_SV (S.setR L z x f) := by
  obtain ⟨h1, h2, h3, h4, h5, h6, h7⟩ := hS
  exact ⟨h1, h2, h3, h4, h, hf, h7⟩
theorem ts_SV.stat {S : ts_S} {f : Nat} (hS : ts_SV S) (hf : f ≤ 5) : ts_SV (S.setS f) := by
  obtain ⟨h1, h2, h3, h4, h5, h6, h7⟩ := hS
  exact ⟨h1, h2, h3, h4, h5, hf, h7⟩
theorem v_row {S : ts_S} {a1 a2 a3 : Int32} (hS : ts_SV S) : ts_SV (ts_s_row S a1 a2 a3).2 := by
  unfold ts_s_row
  by_cases h : ts_rw a1 ∧ (0 ≤ a2 ∧ a2 ≤ 2) ∧ a3 ≤ 40
  · rw [if_pos h]
    by_cases h4 : 0 ≤ a3
    · rw [if_pos h4]
      obtain ⟨r, hr, rfl⟩ := h.1.get
      obtain ⟨l, _, hl, rfl⟩ := ts_rg (a := 0) (b := 2) (by omega) h.2.1.1 h.2.1.2 (by omega)
      obtain ⟨n, _, hn, rfl⟩ := ts_rg (a := 0) (b := 40) (by omega) h4 h.2.2 (by omega)
      rw [ts_cl (n := r) (by omega), ts_cl (n := l) (by omega), ts_cl (n := n) (by omega)]
      refine hS.rows (by omega) (fun u hu => ?_)
      by_cases e : u = r
      · rw [e, ts_ud_eq, ts_ud_eq]; omega
      · rw [ts_ud_ne e, ts_ud_ne e]; exact hS.2.2.2.2.1 u hu
    · rw [if_neg h4]
      exact hS.stat (by omega)
  · rw [if_neg h]
    exact hS
theorem v_set {S : ts_S} {a1 a2 a3 : Int32} (hS : ts_SV S) : ts_SV (ts_s_set S a1 a2 a3).2 := by
  unfold ts_s_set
  repeat' split
  · exact hS.stat (by omega)
  · exact hS.rows (by omega) hS.2.2.2.2.1
  · exact hS.stat (by omega)
  · exact hS
theorem v_copy {S : ts_S} {a1 a2 a3 a4 a5 : Int32} (hS : ts_SV S) : ts_SV (ts_s_copy S a1 a2 a3 a4 a5).2 := by
  unfold ts_s_copy
  repeat' split
  · exact hS.stat (by omega)
  · exact hS.stat (by omega)
  · exact hS.rows (by omega) hS.2.2.2.2.1
  · exact hS.stat (by omega)
  · exact hS
theorem v_drop {S : ts_S} {a1 : Int32} (hS : ts_SV S) : ts_SV (ts_s_drop S a1).2 := by
  unfold ts_s_drop
  repeat' split
  · exact hS.stat (by omega)
  · refine hS.rows (by omega) (fun u hu => ?_)
    unfold ts_ud
    have := hS.2.2.2.2.1 u hu
    split <;> omega
  · exact hS
