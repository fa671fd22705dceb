/-! what is told of the field as it is -/
def ts_s_fault (S : ts_S) : Int32 × ts_S := (nI S.fa, S)
theorem x_fault {d : Nat} {g : ts_G} {S : ts_S} {hi : ts_I} {hk : ts_K} {Q : Int32 → ts_I → ts_K → Prop} (hX : ts_LX g) (hS : ts_SV S) (h : ts_XI S hi hk) (q : ts_QX (ts_s_fault S) hi Q) : ts_E0 (d + 25) mX11_fault [.ref 1] g hi hk (ts_qi Q) := by
  refine ts_E0.of plX11_fault rfl (Nat.le_of_ble_eq_true rfl) ?_
  refine wX11_fault_0 ?_
  rw [h.2.2.2.2.2.1]
  exact ⟨hX.s0, q.st h⟩
theorem y_fault {d : Nat} {g : ts_G} {S : ts_S} {hi : ts_I} {hk : ts_K} {Q : Int32 → ts_I → ts_K → Prop} (hM : ts_LM g) (hS : ts_SV S) (h : ts_MI S hi) (q : ts_QM (ts_s_fault S) hi hk Q) : ts_E0 (d + 25) mX12_fault [.ref 405] g hi hk (ts_qi Q) := by
  refine ts_E0.of plX12_fault rfl (Nat.le_of_ble_eq_true rfl) ?_
  refine wX12_fault_0 ?_
  rw [h.2.2.2.2.2.1]
  exact ⟨hM.kd, q.st h⟩
def ts_s_status (S : ts_S) : Int32 × ts_S := (nI S.st, S)
theorem x_status {d : Nat} {g : ts_G} {S : ts_S} {hi : ts_I} {hk : ts_K} {Q : Int32 → ts_I → ts_K → Prop} (hX : ts_LX g) (hS : ts_SV S) (h : ts_XI S hi hk) (q : ts_QX (ts_s_status S) hi Q) : ts_E0 (d + 25) mX11_status [.ref 1] g hi hk (ts_qi Q) := by
  refine ts_E0.of plX11_status rfl (Nat.le_of_ble_eq_true rfl) ?_
  refine wX11_status_0 ?_
  rw [h.2.2.2.2.1]
  exact ⟨hX.s0, q.st h⟩
theorem y_status {d : Nat} {g : ts_G} {S : ts_S} {hi : ts_I} {hk : ts_K} {Q : Int32 → ts_I → ts_K → Prop} (hM : ts_LM g) (hS : ts_SV S) (h : ts_MI S hi) (q : ts_QM (ts_s_status S) hi hk Q) : ts_E0 (d + 25) mX12_status [.ref 405] g hi hk (ts_qi Q) := by
  refine ts_E0.of plX12_status rfl (Nat.le_of_ble_eq_true rfl) ?_
  refine wX12_status_0 ?_
  rw [h.2.2.2.2.1]
  exact ⟨hM.kd, q.st h⟩
def ts_s_place (S : ts_S) (a1 : Int32) : Int32 × ts_S := (if ts_T S.A a1 then nI (S.A 7 a1.toNatClampNeg) else -1000001, S)
theorem x_place {d : Nat} {g : ts_G} {S : ts_S} {a1 : Int32} {hi : ts_I} {hk : ts_K} {Q : Int32 → ts_I → ts_K → Prop} (hX : ts_LX g) (hS : ts_SV S) (h : ts_XI S hi hk) (q : ts_QX (ts_s_place S a1) hi Q) : ts_E0 (d + 25) mX11_place [.ref 1, .int a1] g hi hk (ts_qi Q) := by
  refine ts_E0.of plX11_place rfl (Nat.le_of_ble_eq_true rfl) ?_
  refine wX11_place_0 ?_
  unfold ts_s_place at q
  refine ⟨hX.s0, c_XisTurnip hX h.1 (fun h1 => ⟨fun e => absurd e (by decide), fun _ => ?_⟩) (fun n1 => ⟨fun _ => ?_, fun e => absurd rfl e⟩)⟩
  · rw [if_pos h1] at q
    obtain ⟨t, ht, rfl⟩ := h1.get hS.1.1.1
    have hc := hS.1.1.1
    have hF := hX.now
    simp only [ts_LX.s0 hX, ts_LX.s1 hX, ts_LX.s2 hX, ts_LX.s3 hX, ts_LX.s4 hX, ts_LX.s5 hX, ts_LX.s6 hX, ts_LX.s7 hX, ts_LX.s8 hX, ts_LX.s9 hX, ts_LX.s10 hX, ts_LX.s11 hX, ts_LX.s12 hX, ts_LX.s13 hX, ts_LX.s14 hX, ts_LX.s15 hX, ts_LX.s16 hX, ts_LX.s17 hX, ts_LX.s18 hX, ts_LX.s19 hX, ts_LX.s20 hX, ts_LX.s21 hX, ts_LX.s22 hX, ts_LX.s23 hX, ts_LX.s24 hX, ts_LX.s25 hX, ts_LX.s26 hX, ts_LX.s27 hX, ts_LX.s28 hX, ts_LX.s29 hX, ts_LX.s30 hX, ts_LX.s31 hX, ts_LX.s32 hX, ts_LX.s33 hX, ts_LX.s34 hX, ts_LX.s35 hX, ts_LX.s36 hX, ts_LX.s37 hX, ts_LX.s38 hX, ts_FL.kd hF, ts_FL.k1 hF, ts_FL.k2 hF, ts_FL.k3 hF, ts_FL.k4 hF, ts_FL.k5 hF, ts_FL.k6 hF, ts_FL.k7 hF, ts_FL.k8 hF, ts_FL.k9 hF, ts_FL.l1 hF, ts_FL.l2 hF, ts_FL.l3 hF, ts_FL.l4 hF, ts_FL.l5 hF, ts_FL.l6 hF, ts_FL.l7 hF, ts_FL.l8 hF, ts_FL.l9 hF, ts_FL.o0 hF, ts_FL.o1 hF, ts_FL.o2 hF, ts_FL.o3 hF, ts_FL.o4 hF, ts_FL.o5 hF, ts_FL.o6 hF, ts_FL.o7 hF, ts_FL.o8 hF]
    rw [ts_cl (by omega)] at q ⊢
    rw [(h.1.2.2.2.2 t ht).2.2.2.2.2.2]
    exact ⟨by omega, trivial, by omega, trivial, ts_vin (by omega) (by omega), q.st h⟩
  · rw [if_neg n1] at q
    exact q.st h
theorem y_place {d : Nat} {g : ts_G} {S : ts_S} {a1 : Int32} {hi : ts_I} {hk : ts_K} {Q : Int32 → ts_I → ts_K → Prop} (hM : ts_LM g) (hS : ts_SV S) (h : ts_MI S hi) (q : ts_QM (ts_s_place S a1) hi hk Q) : ts_E0 (d + 25) mX12_place [.ref 405, .int a1] g hi hk (ts_qi Q) := by
  refine ts_E0.of plX12_place rfl (Nat.le_of_ble_eq_true rfl) ?_
  refine wX12_place_0 ?_
  unfold ts_s_place at q
  have hok := hS.1.1
  have hc := hok.1
  refine ⟨hM.kd, c_isTurnip hM h.1 hc (fun h1 => ⟨fun e => absurd e (by decide), fun _ => ?_⟩) (fun n1 => ⟨fun _ => ?_, fun e => absurd rfl e⟩)⟩
  · rw [if_pos h1] at q
    obtain ⟨t, ht, rfl⟩ := h1.get hc
    simp only [ts_LM.kd hM, ts_LM.o0 hM, ts_LM.k0 hM, ts_LM.l0 hM, ts_LM.o1 hM, ts_LM.k1 hM, ts_LM.l1 hM, ts_LM.o2 hM, ts_LM.k2 hM, ts_LM.l2 hM, ts_LM.o3 hM, ts_LM.k3 hM, ts_LM.l3 hM, ts_LM.o5 hM, ts_LM.k5 hM, ts_LM.l5 hM, ts_LM.o13 hM, ts_LM.k13 hM, ts_LM.l13 hM, ts_LM.o14 hM, ts_LM.k14 hM, ts_LM.l14 hM, ts_LM.o15 hM, ts_LM.k15 hM, ts_LM.l15 hM, ts_LM.o16 hM, ts_LM.k16 hM, ts_LM.l16 hM, ts_LM.o18 hM, ts_LM.k18 hM, ts_LM.l18 hM, ts_LM.o19 hM, ts_LM.k19 hM, ts_LM.l19 hM, ts_LM.o20 hM, ts_LM.k20 hM, ts_LM.l20 hM, ts_LM.o21 hM, ts_LM.k21 hM, ts_LM.l21 hM, ts_LM.o22 hM, ts_LM.k22 hM, ts_LM.l22 hM, ts_LM.o23 hM, ts_LM.k23 hM, ts_LM.l23 hM]
    rw [ts_cl (by omega)] at q
    refine ⟨by omega, c_inPlace hM.k13 hM.l13 h.1 hok (fun p hp hx => ?_) (fun hn => absurd rfl (hn t ht))⟩
    rw [ts_eq (by omega) (by omega)] at hx
    rw [← hx]
    exact q.st h
  · rw [if_neg n1] at q
    exact q.st h
def ts_s_kind (S : ts_S) (a1 : Int32) : Int32 × ts_S := (if ts_T S.A a1 then nI (S.A 0 a1.toNatClampNeg) else -1000001, S)
theorem ts_XK.k {S : ts_S} {hi : ts_I} {hk : ts_K} (h : ts_XI S hi hk) {q : Nat} (h1 : 1 ≤ q) (h2 : q ≤ 5) : hi (9 + q) 0 = nI q := by
  have z := h.2.2.2.2.2.2.2.2.1 (q - 1) (by omega)
  rw [show 10 + (q - 1) = 9 + q by omega, show q - 1 + 1 = q by omega] at z
  exact z
theorem x_kind {d : Nat} {g : ts_G} {S : ts_S} {a1 : Int32} {hi : ts_I} {hk : ts_K} {Q : Int32 → ts_I → ts_K → Prop} (hX : ts_LX g) (hS : ts_SV S) (h : ts_XI S hi hk) (q : ts_QX (ts_s_kind S a1) hi Q) : ts_E0 (d + 25) mX11_kind [.ref 1, .int a1] g hi hk (ts_qi Q) := by
  refine ts_E0.of plX11_kind rfl (Nat.le_of_ble_eq_true rfl) ?_
  refine wX11_kind_0 ?_
  unfold ts_s_kind at q
  refine ⟨hX.s0, c_XisTurnip hX h.1 (fun h1 => ⟨fun e => absurd e (by decide), fun _ => ?_⟩) (fun n1 => ⟨fun _ => ?_, fun e => absurd rfl e⟩)⟩
  · rw [if_pos h1] at q
    have hok := hS.1.1
    obtain ⟨t, ht, rfl⟩ := h1.get hok.1
    have hc := hok.1
    have hF := hX.now
    have hk1 := (hok.2.2.2.2 t ht).1
    simp only [ts_LX.s0 hX, ts_LX.s1 hX, ts_LX.s2 hX, ts_LX.s3 hX, ts_LX.s4 hX, ts_LX.s5 hX, ts_LX.s6 hX, ts_LX.s7 hX, ts_LX.s8 hX, ts_LX.s9 hX, ts_LX.s10 hX, ts_LX.s11 hX, ts_LX.s12 hX, ts_LX.s13 hX, ts_LX.s14 hX, ts_LX.s15 hX, ts_LX.s16 hX, ts_LX.s17 hX, ts_LX.s18 hX, ts_LX.s19 hX, ts_LX.s20 hX, ts_LX.s21 hX, ts_LX.s22 hX, ts_LX.s23 hX, ts_LX.s24 hX, ts_LX.s25 hX, ts_LX.s26 hX, ts_LX.s27 hX, ts_LX.s28 hX, ts_LX.s29 hX, ts_LX.s30 hX, ts_LX.s31 hX, ts_LX.s32 hX, ts_LX.s33 hX, ts_LX.s34 hX, ts_LX.s35 hX, ts_LX.s36 hX, ts_LX.s37 hX, ts_LX.s38 hX, ts_FL.kd hF, ts_FL.k1 hF, ts_FL.k2 hF, ts_FL.k3 hF, ts_FL.k4 hF, ts_FL.k5 hF, ts_FL.k6 hF, ts_FL.k7 hF, ts_FL.k8 hF, ts_FL.k9 hF, ts_FL.l1 hF, ts_FL.l2 hF, ts_FL.l3 hF, ts_FL.l4 hF, ts_FL.l5 hF, ts_FL.l6 hF, ts_FL.l7 hF, ts_FL.l8 hF, ts_FL.l9 hF, ts_FL.o0 hF, ts_FL.o1 hF, ts_FL.o2 hF, ts_FL.o3 hF, ts_FL.o4 hF, ts_FL.o5 hF, ts_FL.o6 hF, ts_FL.o7 hF, ts_FL.o8 hF]
    rw [ts_cl (by omega)] at q ⊢
    rw [(h.1.2.2.2.2 t ht).1, ts_XK.k h hk1.1 hk1.2]
    exact ⟨by omega, trivial, by omega, trivial, ts_vin (by omega) (by omega), by omega, hX.kl.is (by omega) (by omega), q.st h⟩
  · rw [if_neg n1] at q
    exact q.st h
theorem c_kindIn {d t : Nat} {g : ts_G} {A : ts_A} {hi : ts_I} {hk : ts_K} {Q : Int32 → ts_I → ts_K → Prop} (hM : ts_LM g) (hR : ts_MR 411 0 A hi) (hc : A 6 0 ≤ 7) (ht : t < A 6 0) (q : Q (nI (A 0 t)) hi hk) : ts_E0 d mX12_kindIn [.ref 405, .int (nI t)] g hi hk (ts_qi Q) := by
  refine ts_E0.of plX12_kindIn rfl (Nat.le_of_ble_eq_true rfl) ?_
  refine wX12_kindIn_0 ?_
  have z := (hR.2.2.2.2 t ht).1
  rw [Nat.zero_add] at z
  simp only [ts_LM.kd hM, ts_LM.o0 hM, ts_LM.k0 hM, ts_LM.l0 hM, ts_LM.o1 hM, ts_LM.k1 hM, ts_LM.l1 hM, ts_LM.o2 hM, ts_LM.k2 hM, ts_LM.l2 hM, ts_LM.o3 hM, ts_LM.k3 hM, ts_LM.l3 hM, ts_LM.o5 hM, ts_LM.k5 hM, ts_LM.l5 hM, ts_LM.o13 hM, ts_LM.k13 hM, ts_LM.l13 hM, ts_LM.o14 hM, ts_LM.k14 hM, ts_LM.l14 hM, ts_LM.o15 hM, ts_LM.k15 hM, ts_LM.l15 hM, ts_LM.o16 hM, ts_LM.k16 hM, ts_LM.l16 hM, ts_LM.o18 hM, ts_LM.k18 hM, ts_LM.l18 hM, ts_LM.o19 hM, ts_LM.k19 hM, ts_LM.l19 hM, ts_LM.o20 hM, ts_LM.k20 hM, ts_LM.l20 hM, ts_LM.o21 hM, ts_LM.k21 hM, ts_LM.l21 hM, ts_LM.o22 hM, ts_LM.k22 hM, ts_LM.l22 hM, ts_LM.o23 hM, ts_LM.k23 hM, ts_LM.l23 hM]
  simp only [ts_l4, ts_l6, pk_mul, nI_add]
  rw [ts_cl (by omega), z]
  exact ⟨trivial, by omega, trivial, ts_vin (by omega) (by omega), q⟩
theorem y_kind {d : Nat} {g : ts_G} {S : ts_S} {a1 : Int32} {hi : ts_I} {hk : ts_K} {Q : Int32 → ts_I → ts_K → Prop} (hM : ts_LM g) (hS : ts_SV S) (h : ts_MI S hi) (q : ts_QM (ts_s_kind S a1) hi hk Q) : ts_E0 (d + 25) mX12_kind [.ref 405, .int a1] g hi hk (ts_qi Q) := by
  refine ts_E0.of plX12_kind rfl (Nat.le_of_ble_eq_true rfl) ?_
  refine wX12_kind_0 ?_
  unfold ts_s_kind at q
  have hok := hS.1.1
  have hc := hok.1
  refine ⟨hM.kd, c_isTurnip hM h.1 hc (fun h1 => ⟨fun e => absurd e (by decide), fun _ => ?_⟩) (fun n1 => ⟨fun _ => ?_, fun e => absurd rfl e⟩)⟩
  · rw [if_pos h1] at q
    obtain ⟨t, ht, rfl⟩ := h1.get hc
    rw [ts_cl (by omega)] at q
    exact c_kindIn hM h.1 hc ht (q.st h)
  · rw [if_neg n1] at q
    exact q.st h
def ts_s_trace (S : ts_S) (a1 : Int32) : Int32 × ts_S := (if 0 ≤ a1 ∧ a1 < nI S.tr.length then nI (S.tr.getD a1.toNatClampNeg 0) else -1000000, S)
theorem ts_ltp {n : Nat} {x : Int32} (hn : n < 2147483648) : x < nI n ↔ x ≤ nI n - 1 := by
  by_cases h0 : n = 0
  · rw [h0, Int32.le_iff_toInt_le, Int32.lt_iff_toInt_lt, show (nI 0 - 1).toInt = -1 from by decide, show (nI 0).toInt = 0 from by decide]
    omega
  · rw [ts_l1, ts_sub' (by omega), Int32.le_iff_toInt_le, Int32.lt_iff_toInt_lt, nI_toInt (by omega), nI_toInt (by omega)]
    omega
theorem ts_rgl {n : Nat} {x : Int32} (hn : n < 2147483648) (h1 : 0 ≤ x) (h2 : x < nI n) : ∃ i, i < n ∧ x = nI i := by
  have h0 : n ≠ 0 := fun e => by
    rw [e] at h2
    exact absurd h2 (Int32.not_lt.mpr h1)
  have h3 := (ts_ltp hn).mp h2
  rw [ts_l1, ts_sub' (by omega)] at h3
  obtain ⟨i, _, h4, h5⟩ := ts_rg (a := 0) (by omega) h1 h3 (by omega)
  exact ⟨i, by omega, h5⟩
theorem ts_Li.at {l : List Nat} {o s a i : Nat} {hi : ts_I} (h : ts_Li l o s a hi) (hi9 : i < l.length) : hi a i = nI (l.getD i 0) := by
  refine h.2 i _ ?_
  rw [List.getD_eq_getElem?_getD, List.getElem?_eq_getElem hi9]
  rfl
theorem x_trace {d : Nat} {g : ts_G} {S : ts_S} {a1 : Int32} {hi : ts_I} {hk : ts_K} {Q : Int32 → ts_I → ts_K → Prop} (hX : ts_LX g) (hS : ts_SV S) (h : ts_XI S hi hk) (q : ts_QX (ts_s_trace S a1) hi Q) : ts_E0 (d + 25) mX11_trace [.ref 1, .int a1] g hi hk (ts_qi Q) := by
  refine ts_E0.of plX11_trace rfl (Nat.le_of_ble_eq_true rfl) ?_
  refine wX11_trace_0 ?_
  unfold ts_s_trace at q
  have ht := h.2.2.2.2.2.2.2.1
  have hl := hS.2.2.2.2.2.2.2.2.1
  simp only [ts_LX.s0 hX, ts_LX.s1 hX, ts_LX.s2 hX, ts_LX.s3 hX, ts_LX.s4 hX, ts_LX.s5 hX, ts_LX.s6 hX, ts_LX.s7 hX, ts_LX.s8 hX, ts_LX.s9 hX, ts_LX.s10 hX, ts_LX.s11 hX, ts_LX.s12 hX, ts_LX.s13 hX, ts_LX.s14 hX, ts_LX.s15 hX, ts_LX.s16 hX, ts_LX.s17 hX, ts_LX.s18 hX, ts_LX.s19 hX, ts_LX.s20 hX, ts_LX.s21 hX, ts_LX.s22 hX, ts_LX.s23 hX, ts_LX.s24 hX, ts_LX.s25 hX, ts_LX.s26 hX, ts_LX.s27 hX, ts_LX.s28 hX, ts_LX.s29 hX, ts_LX.s30 hX, ts_LX.s31 hX, ts_LX.s32 hX, ts_LX.s33 hX, ts_LX.s34 hX, ts_LX.s35 hX, ts_LX.s36 hX, ts_LX.s37 hX, ts_LX.s38 hX]
  rw [ht.1]
  refine ⟨fun c => ?_, fun c => ⟨trivial, by omega, trivial, fun c2 => ?_, fun c2 => ?_⟩⟩
  · rw [if_neg (fun x => (Int32.not_le.mpr c) x.1)] at q
    exact q.st h
  · rw [if_neg (fun x => (Int32.not_le.mpr x.2) c2)] at q
    exact q.st h
  · have c3 := Int32.not_lt.mp c
    have c4 := Int32.not_le.mp c2
    obtain ⟨i, hi9, rfl⟩ := ts_rgl (by omega) c3 c4
    rw [if_pos ⟨c3, c4⟩, ts_cl (by omega)] at q
    rw [ts_cl (by omega), ht.at hi9]
    exact ⟨by omega, trivial, ts_vin (by omega) (by omega), q.st h⟩
theorem y_trace {d : Nat} {g : ts_G} {S : ts_S} {a1 : Int32} {hi : ts_I} {hk : ts_K} {Q : Int32 → ts_I → ts_K → Prop} (hM : ts_LM g) (hS : ts_SV S) (h : ts_MI S hi) (q : ts_QM (ts_s_trace S a1) hi hk Q) : ts_E0 (d + 25) mX12_trace [.ref 405, .int a1] g hi hk (ts_qi Q) := by
  refine ts_E0.of plX12_trace rfl (Nat.le_of_ble_eq_true rfl) ?_
  refine wX12_trace_0 ?_
  unfold ts_s_trace at q
  have ht := h.2.2.2.2.2.2.2
  have hl := hS.2.2.2.2.2.2.2.2.1
  simp only [ts_LM.kd hM, ts_LM.o0 hM, ts_LM.k0 hM, ts_LM.l0 hM, ts_LM.o1 hM, ts_LM.k1 hM, ts_LM.l1 hM, ts_LM.o2 hM, ts_LM.k2 hM, ts_LM.l2 hM, ts_LM.o3 hM, ts_LM.k3 hM, ts_LM.l3 hM, ts_LM.o5 hM, ts_LM.k5 hM, ts_LM.l5 hM, ts_LM.o13 hM, ts_LM.k13 hM, ts_LM.l13 hM, ts_LM.o14 hM, ts_LM.k14 hM, ts_LM.l14 hM, ts_LM.o15 hM, ts_LM.k15 hM, ts_LM.l15 hM, ts_LM.o16 hM, ts_LM.k16 hM, ts_LM.l16 hM, ts_LM.o18 hM, ts_LM.k18 hM, ts_LM.l18 hM, ts_LM.o19 hM, ts_LM.k19 hM, ts_LM.l19 hM, ts_LM.o20 hM, ts_LM.k20 hM, ts_LM.l20 hM, ts_LM.o21 hM, ts_LM.k21 hM, ts_LM.l21 hM, ts_LM.o22 hM, ts_LM.k22 hM, ts_LM.l22 hM, ts_LM.o23 hM, ts_LM.k23 hM, ts_LM.l23 hM]
  rw [ht.1]
  refine ⟨trivial, c_inq (fun c => ⟨fun e => absurd e (by decide), fun _ => ?_⟩) (fun c => ⟨fun _ => ?_, fun e => absurd rfl e⟩)⟩
  · have c4 := (ts_ltp (by omega)).mpr c.2
    obtain ⟨i, hi9, rfl⟩ := ts_rgl (by omega) c.1 c4
    rw [if_pos ⟨c.1, c4⟩, ts_cl (by omega)] at q
    rw [ts_cl (by omega), ht.at hi9]
    exact ⟨by omega, trivial, ts_vin (by omega) (by omega), q.st h⟩
  · rw [if_neg (fun x => c ⟨x.1, (ts_ltp (by omega)).mp x.2⟩)] at q
    exact q.st h
def ts_s_feed (S : ts_S) (a1 : Int32) : Int32 × ts_S :=
  if 0 ≤ a1 ∧ a1 ≤ 255 then
    if S.tp.length = 90 then (-1000003, S) else (nI (S.tp.length + 1), S.setT S.fa (S.tp ++ [a1.toNatClampNeg]))
  else (-1000001, S)
theorem ts_Li.add {l : List Nat} {o s a v : Nat} {hi hi' : ts_I} (hoa : o ≠ a) (h : ts_Li l o s a hi) (e : hi' = ts_up (ts_up hi a l.length (nI v)) o s (nI (l.length + 1))) : ts_Li (l ++ [v]) o s a hi' := by
  refine ⟨by rw [e, ts_up_eq]; simp, fun i b hb => ?_⟩
  rw [e, ts_up_a (fun x => hoa x.symm)]
  rw [List.getElem?_append] at hb
  by_cases h1 : i < l.length
  · rw [if_pos h1] at hb
    rw [ts_up_s (by omega)]
    exact h.2 i b hb
  · rw [if_neg h1] at hb
    by_cases h2 : i - l.length = 0
    · rw [h2] at hb
      have hb2 : v = b := by simpa using hb
      have h3 : i = l.length := by omega
      rw [h3, ts_up_eq, hb2]
    · exfalso
      rw [List.getElem?_eq_none (by simp; omega)] at hb
      cases hb
/-- the state once the tape has changed -/
theorem ts_XI.tape {S : ts_S} {hi hi' : ts_I} {hk : ts_K} {tp : List Nat} (h : ts_XI S hi hk) (e : ∀ b, b ≠ 3 → b ≠ 4 → hi' b = hi b) (hT : ts_Li tp 3 1 4 hi') : ts_XI (S.setT S.fa tp) hi' hk := by
  obtain ⟨h1, ⟨p, p1, p2, p3, p4⟩, h3, h4, h5, h6, h7, h8, k1, k2, k3, k4⟩ := h
  refine ⟨h1.of (fun b x1 x2 => e b (by omega) (by omega)) rfl, ⟨p, p1, by rw [e 1 (by omega) (by omega)]; exact p2, by rw [e 1 (by omega) (by omega)]; exact p3, fun i A hA => (p4 i A hA).of (fun b x1 x2 => e b (by omega) (by omega)) rfl⟩, fun k hk2 => (h3 k hk2).of (fun b x1 x2 => e b (by omega) (by omega)) rfl, fun r hr => ?_, by rw [e 1 (by omega) (by omega)]; exact h5, by rw [e 1 (by omega) (by omega)]; exact h6, hT, h8.of (by rw [e 5 (by omega) (by omega)]) (e 6 (by omega) (by omega)), fun q hq => by rw [e _ (by omega) (by omega)]; exact k1 q hq, k2, k3, k4⟩
  rw [e (15 + 2 * r) (by omega) (by omega), e (16 + 2 * r) (by omega) (by omega)]
  exact h4 r hr
theorem ts_MI.tape {S : ts_S} {hi hi' : ts_I} {tp : List Nat} (hS : ts_SV S) (h : ts_MI S hi) (e5 : ∀ s, s ≠ 6 → hi' 405 s = hi 405 s) (e : ∀ b, b ≠ 405 → b ≠ 410 → hi' b = hi b) (hT : ts_Li tp 405 6 410 hi') : ts_MI (S.setT S.fa tp) hi' := by
  obtain ⟨h1, ⟨b1, b2, b3⟩, h3, h4, h5, h6, h7, h8⟩ := h
  refine ⟨ts_MR.of hS.1.1.1 h1 (fun u _ => by rw [e 411 (by omega) (by omega)]), ⟨by rw [e5 17 (by omega)]; exact b1, b2, fun i A hA => ts_MR.of ?_ (b3 i A hA) (fun u _ => by rw [e 414 (by omega) (by omega)])⟩, fun k hk => ?_, fun r hr => ?_, by rw [e5 4 (by omega)]; exact h5, by rw [e5 7 (by omega)]; exact h6, hT, h8.of (e5 24 (by omega)) (e 420 (by omega) (by omega))⟩
  · exact (hS.2.1 A (List.mem_of_getElem? hA)).1.1
  · refine ⟨by rw [e 416 (by omega) (by omega)]; exact (h3 k hk).1, fun hn => ts_MR.of ?_ ((h3 k hk).2 hn) (fun u _ => by rw [e 415 (by omega) (by omega)])⟩
    exact (hS.2.2.2.1 k hk).1.1
  · rw [e 406 (by omega) (by omega), e 407 (by omega) (by omega), e 408 (by omega) (by omega)]
    exact h4 r hr
theorem x_feed {d : Nat} {g : ts_G} {S : ts_S} {a1 : Int32} {hi : ts_I} {hk : ts_K} {Q : Int32 → ts_I → ts_K → Prop} (hX : ts_LX g) (hS : ts_SV S) (h : ts_XI S hi hk) (q : ts_QX (ts_s_feed S a1) hi Q) : ts_E0 (d + 25) mX11_feed [.ref 1, .int a1] g hi hk (ts_qi Q) := by
  refine ts_E0.of plX11_feed rfl (Nat.le_of_ble_eq_true rfl) ?_
  refine wX11_feed_0 ?_
  unfold ts_s_feed at q
  have ht := h.2.2.2.2.2.2.1
  have hl := hS.2.2.2.2.2.2.2.1.1
  refine c_outside (fun c => ⟨fun _ => ?_, fun e => absurd rfl e⟩) (fun c => ⟨fun e => absurd e (by decide), fun _ => ?_⟩)
  · rw [if_pos c] at q
    obtain ⟨v, _, hv, rfl⟩ := ts_rg (a := 0) (b := 255) (by omega) c.1 c.2 (by omega)
    rw [ts_cl (by omega)] at q
    simp only [ts_LX.s0 hX, ts_LX.s1 hX, ts_LX.s2 hX, ts_LX.s3 hX, ts_LX.s4 hX, ts_LX.s5 hX, ts_LX.s6 hX, ts_LX.s7 hX, ts_LX.s8 hX, ts_LX.s9 hX, ts_LX.s10 hX, ts_LX.s11 hX, ts_LX.s12 hX, ts_LX.s13 hX, ts_LX.s14 hX, ts_LX.s15 hX, ts_LX.s16 hX, ts_LX.s17 hX, ts_LX.s18 hX, ts_LX.s19 hX, ts_LX.s20 hX, ts_LX.s21 hX, ts_LX.s22 hX, ts_LX.s23 hX, ts_LX.s24 hX, ts_LX.s25 hX, ts_LX.s26 hX, ts_LX.s27 hX, ts_LX.s28 hX, ts_LX.s29 hX, ts_LX.s30 hX, ts_LX.s31 hX, ts_LX.s32 hX, ts_LX.s33 hX, ts_LX.s34 hX, ts_LX.s35 hX, ts_LX.s36 hX, ts_LX.s37 hX, ts_LX.s38 hX]
    refine ⟨trivial, by omega, trivial, ?_⟩
    refine ts_E0.of plX9_add rfl (Nat.le_of_ble_eq_true rfl) ?_
    refine wX9_add_0 ?_
    simp only [ts_LX.s0 hX, ts_LX.s1 hX, ts_LX.s2 hX, ts_LX.s3 hX, ts_LX.s4 hX, ts_LX.s5 hX, ts_LX.s6 hX, ts_LX.s7 hX, ts_LX.s8 hX, ts_LX.s9 hX, ts_LX.s10 hX, ts_LX.s11 hX, ts_LX.s12 hX, ts_LX.s13 hX, ts_LX.s14 hX, ts_LX.s15 hX, ts_LX.s16 hX, ts_LX.s17 hX, ts_LX.s18 hX, ts_LX.s19 hX, ts_LX.s20 hX, ts_LX.s21 hX, ts_LX.s22 hX, ts_LX.s23 hX, ts_LX.s24 hX, ts_LX.s25 hX, ts_LX.s26 hX, ts_LX.s27 hX, ts_LX.s28 hX, ts_LX.s29 hX, ts_LX.s30 hX, ts_LX.s31 hX, ts_LX.s32 hX, ts_LX.s33 hX, ts_LX.s34 hX, ts_LX.s35 hX, ts_LX.s36 hX, ts_LX.s37 hX, ts_LX.s38 hX]
    rw [ht.1, show (90 : Int32) = nI 90 from rfl, ts_lt (by omega) (by omega), ts_cl (by omega)]
    refine ⟨trivial, fun c2 => ⟨by omega, trivial, ts_vin (by omega) (by omega), fun hi2 x2 hi3 x3 => ⟨fun e => absurd e (by decide), fun _ => ?_⟩⟩, fun c2 => ⟨fun _ => ?_, fun e => absurd (by decide) e⟩⟩
    · rw [if_neg (by omega)] at q
      have e2 : hi2 3 1 = nI S.tp.length := by rw [x2, ts_up_a (by omega), ht.1]
      rw [e2, ts_l1, nI_add, x2] at x3
      have e3 : hi3 3 1 = nI (S.tp.length + 1) := by rw [x3, ts_up_eq]
      rw [e3]
      exact q hi3 hk (h.tape (fun b y1 y2 => by rw [x3]; funext s; rw [ts_up_a y1, ts_up_a y2]) (ht.add (by omega) x3)) (fun b hb => by rw [x3]; funext s; rw [ts_up_a (by omega), ts_up_a (by omega)])
    · rw [if_pos (by omega)] at q
      exact q.st h
  · rw [if_neg c] at q
    exact q.st h
theorem y_feed {d : Nat} {g : ts_G} {S : ts_S} {a1 : Int32} {hi : ts_I} {hk : ts_K} {Q : Int32 → ts_I → ts_K → Prop} (hM : ts_LM g) (hS : ts_SV S) (h : ts_MI S hi) (q : ts_QM (ts_s_feed S a1) hi hk Q) : ts_E0 (d + 25) mX12_feed [.ref 405, .int a1] g hi hk (ts_qi Q) := by
  refine ts_E0.of plX12_feed rfl (Nat.le_of_ble_eq_true rfl) ?_
  refine wX12_feed_0 ?_
  unfold ts_s_feed at q
  have ht := h.2.2.2.2.2.2.1
  have hl := hS.2.2.2.2.2.2.2.1.1
  refine c_inq (fun c => ⟨fun _ => ?_, fun e => absurd (by decide) e⟩) (fun c => ⟨fun e => absurd rfl e, fun _ => ?_⟩)
  · rw [if_pos c] at q
    obtain ⟨v, _, hv, rfl⟩ := ts_rg (a := 0) (b := 255) (by omega) c.1 c.2 (by omega)
    rw [ts_cl (by omega)] at q
    simp only [ts_LM.kd hM, ts_LM.o0 hM, ts_LM.k0 hM, ts_LM.l0 hM, ts_LM.o1 hM, ts_LM.k1 hM, ts_LM.l1 hM, ts_LM.o2 hM, ts_LM.k2 hM, ts_LM.l2 hM, ts_LM.o3 hM, ts_LM.k3 hM, ts_LM.l3 hM, ts_LM.o5 hM, ts_LM.k5 hM, ts_LM.l5 hM, ts_LM.o13 hM, ts_LM.k13 hM, ts_LM.l13 hM, ts_LM.o14 hM, ts_LM.k14 hM, ts_LM.l14 hM, ts_LM.o15 hM, ts_LM.k15 hM, ts_LM.l15 hM, ts_LM.o16 hM, ts_LM.k16 hM, ts_LM.l16 hM, ts_LM.o18 hM, ts_LM.k18 hM, ts_LM.l18 hM, ts_LM.o19 hM, ts_LM.k19 hM, ts_LM.l19 hM, ts_LM.o20 hM, ts_LM.k20 hM, ts_LM.l20 hM, ts_LM.o21 hM, ts_LM.k21 hM, ts_LM.l21 hM, ts_LM.o22 hM, ts_LM.k22 hM, ts_LM.l22 hM, ts_LM.o23 hM, ts_LM.k23 hM, ts_LM.l23 hM]
    rw [ht.1, show (90 : Int32) = nI 90 from rfl, ts_ne (by omega) (by omega), ts_cl (by omega)]
    refine ⟨trivial, fun c2 => ⟨by omega, trivial, ts_vin (by omega) (by omega), fun hi2 x2 hi3 x3 => ?_⟩, fun c2 => ?_⟩
    · rw [if_neg c2] at q
      have e2 : hi2 405 6 = nI S.tp.length := by rw [x2, ts_up_a (by omega), ht.1]
      rw [e2, ts_l1, nI_add, x2] at x3
      have e3 : hi3 405 6 = nI (S.tp.length + 1) := by rw [x3, ts_up_eq]
      rw [e3]
      exact q hi3 (h.tape hS (fun s hs => by rw [x3, ts_up_s hs, ts_up_a (by omega)]) (fun b y1 y2 => by rw [x3]; funext s; rw [ts_up_a y1, ts_up_a y2]) (ht.add (by omega) x3)) (fun b hb => by rw [x3]; funext s; rw [ts_up_a (by omega), ts_up_a (by omega)])
    · rw [if_pos (by omega)] at q
      exact q.st h
  · rw [if_neg c] at q
    exact q.st h
theorem v_feed {S : ts_S} {a1 : Int32} (hS : ts_SV S) : ts_SV (ts_s_feed S a1).2 := by
  unfold ts_s_feed
  by_cases c : 0 ≤ a1 ∧ a1 ≤ 255
  · rw [if_pos c]
    by_cases c2 : S.tp.length = 90
    · rw [if_pos c2]; exact hS
    · rw [if_neg c2]
      obtain ⟨v, _, hv, rfl⟩ := ts_rg (a := 0) (b := 255) (by omega) c.1 c.2 (by omega)
      rw [ts_cl (by omega)]
      obtain ⟨h1, h2, h3, h4, h5, h6, h7, h8, h9⟩ := hS
      refine ⟨h1, h2, h3, h4, h5, h6, h7, ⟨?_, fun b hb => ?_⟩, h9⟩
      · show (S.tp ++ [v]).length ≤ 90
        rw [List.length_append]
        have := h8.1
        simp; omega
      · have hb' : b ∈ S.tp ++ [v] := hb
        rw [List.mem_append] at hb'
        rcases hb' with x | x
        · exact h8.2 b x
        · rw [List.mem_singleton] at x
          omega
  · rw [if_neg c]; exact hS
