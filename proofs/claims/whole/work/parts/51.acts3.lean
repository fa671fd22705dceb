/-! swap, ground, years, undo, image, restore -/
def ts_s_swap (S : ts_S) (a1 a2 : Int32) : Int32 × ts_S :=
  if (ts_T S.A a1 ∧ ts_T S.A a2) ∧ a1 ≠ a2 then (nI (S.A 5 a2.toNatClampNeg), S.setF (ts_xc S.A a1.toNatClampNeg a2.toNatClampNeg) (ts_cs S.A S.B))
  else (-1000001, S)
theorem ts_xc5 {A : ts_A} {t u : Nat} (h : t ≠ u) : ts_xc A t u 5 t = A 5 u := by
  show (if t = u then A 5 t else if t = t then A 5 u else A 5 t) = A 5 u
  rw [if_neg h, if_pos rfl]
theorem x_swap {d : Nat} {g : ts_G} {S : ts_S} {a1 a2 : Int32} {hi : ts_I} {hk : ts_K} {Q : Int32 → ts_I → ts_K → Prop} (hX : ts_LX g) (hS : ts_SV S) (h : ts_XI S hi hk) (q : ts_QX (ts_s_swap S a1 a2) hi Q) : ts_E0 (d + 25) mX11_swap [.ref 1, .int a1, .int a2] g hi hk (ts_qi Q) := by
  refine ts_E0.of plX11_swap rfl (Nat.le_of_ble_eq_true rfl) ?_
  refine wX11_swap_0 ?_
  unfold ts_s_swap at q
  refine ⟨hX.s0, c_XisTurnip hX h.1 (fun h1 => ⟨fun e => absurd e (by decide), fun _ => c_XisTurnip hX h.1 (fun h2 => ⟨fun e => absurd e (by decide), fun _ => ⟨fun h3 => ?_, fun h3 => ?_⟩⟩) (fun n2 => ⟨fun _ => ?_, fun e => absurd rfl e⟩)⟩) (fun n1 => ⟨fun _ => ?_, fun e => absurd rfl e⟩)⟩
  · rw [if_pos ⟨⟨h1, h2⟩, h3⟩] at q
    have hok := hS.1.1
    obtain ⟨t, ht, rfl⟩ := h1.get hok.1
    obtain ⟨u, hu, rfl⟩ := h2.get hok.1
    have hc := hok.1
    have hF := hX.now
    have htu : t ≠ u := fun e => h3 (by rw [e])
    rw [ts_cl (n := t) (by omega), ts_cl (n := u) (by omega)] at q
    refine c_keepAct hX hS h (fun hi2 hk2 h2 ho hok2 => ?_)
    simp only [ts_LX.s0 hX, ts_LX.s1 hX, ts_LX.s2 hX, ts_LX.s3 hX, ts_LX.s4 hX, ts_LX.s5 hX, ts_LX.s6 hX, ts_LX.s7 hX, ts_LX.s8 hX, ts_LX.s9 hX, ts_LX.s10 hX, ts_LX.s11 hX, ts_LX.s12 hX, ts_LX.s13 hX, ts_LX.s14 hX, ts_LX.s15 hX, ts_LX.s16 hX, ts_LX.s17 hX, ts_LX.s18 hX, ts_LX.s19 hX, ts_LX.s20 hX, ts_LX.s21 hX, ts_LX.s22 hX, ts_LX.s23 hX, ts_LX.s24 hX, ts_LX.s25 hX, ts_LX.s26 hX, ts_LX.s27 hX, ts_LX.s28 hX, ts_LX.s29 hX, ts_LX.s30 hX, ts_LX.s31 hX, ts_LX.s32 hX, ts_LX.s33 hX, ts_LX.s34 hX, ts_LX.s35 hX, ts_LX.s36 hX, ts_LX.s37 hX, ts_LX.s38 hX, ts_FL.kd hF, ts_FL.k1 hF, ts_FL.k2 hF, ts_FL.k3 hF, ts_FL.k4 hF, ts_FL.k5 hF, ts_FL.k6 hF, ts_FL.k7 hF, ts_FL.k8 hF, ts_FL.k9 hF, ts_FL.l1 hF, ts_FL.l2 hF, ts_FL.l3 hF, ts_FL.l4 hF, ts_FL.l5 hF, ts_FL.l6 hF, ts_FL.l7 hF, ts_FL.l8 hF, ts_FL.l9 hF, ts_FL.o0 hF, ts_FL.o1 hF, ts_FL.o2 hF, ts_FL.o3 hF, ts_FL.o4 hF, ts_FL.o5 hF, ts_FL.o6 hF, ts_FL.o7 hF, ts_FL.o8 hF]
    refine ⟨by omega, trivial, c_exchange hF h2.1 hok ht hu (fun hi3 hR o3 => ?_)⟩
    have z := (hR.2.2.2.2 t ht).2.2.2.2.2.1
    rw [ts_xc5 htu] at z
    rw [ts_cl (by omega), z]
    exact ⟨by omega, trivial, ts_vin (by omega) (by omega), q hi3 hk2 (h2.field hR (h2.fk (j := 26) (by omega)) (fun b hb => o3 b (by omega) (by omega)) (fun _ _ => rfl)) (fun b hb => by rw [o3 b (by omega) (by omega), ho b (by omega)])⟩
  · rw [if_neg (fun x => h3 x.2)] at q
    exact q.st h
  · rw [if_neg (fun x => n2 x.1.2)] at q
    exact q.st h
  · rw [if_neg (fun x => n1 x.1.1)] at q
    exact q.st h
theorem y_swap {d : Nat} {g : ts_G} {S : ts_S} {a1 a2 : Int32} {hi : ts_I} {hk : ts_K} {Q : Int32 → ts_I → ts_K → Prop} (hM : ts_LM g) (hS : ts_SV S) (h : ts_MI S hi) (q : ts_QM (ts_s_swap S a1 a2) hi hk Q) : ts_E0 (d + 25) mX12_swap [.ref 405, .int a1, .int a2] g hi hk (ts_qi Q) := by
  refine ts_E0.of plX12_swap rfl (Nat.le_of_ble_eq_true rfl) ?_
  refine wX12_swap_0 ?_
  unfold ts_s_swap at q
  have hok := hS.1.1
  have hc := hok.1
  refine ⟨hM.kd, c_isTurnip hM h.1 hc (fun h1 => ⟨fun e => absurd e (by decide), fun _ => c_isTurnip hM h.1 hc (fun h2 => ⟨fun e => absurd e (by decide), fun _ => ⟨fun h3 => ?_, fun h3 => ?_⟩⟩) (fun n2 => ⟨fun _ => ?_, fun e => absurd rfl e⟩)⟩) (fun n1 => ⟨fun _ => ?_, fun e => absurd rfl e⟩)⟩
  · rw [if_pos ⟨⟨h1, h2⟩, h3⟩] at q
    obtain ⟨t, ht, rfl⟩ := h1.get hc
    obtain ⟨u, hu, rfl⟩ := h2.get hc
    have htu : t ≠ u := fun e => h3 (by rw [e])
    rw [ts_cl (n := t) (by omega), ts_cl (n := u) (by omega)] at q
    refine y_notes hM hS h (fun hi2 h2 ho => ?_)
    simp only [ts_LM.kd hM, ts_LM.o0 hM, ts_LM.k0 hM, ts_LM.l0 hM, ts_LM.o1 hM, ts_LM.k1 hM, ts_LM.l1 hM, ts_LM.o2 hM, ts_LM.k2 hM, ts_LM.l2 hM, ts_LM.o3 hM, ts_LM.k3 hM, ts_LM.l3 hM, ts_LM.o5 hM, ts_LM.k5 hM, ts_LM.l5 hM, ts_LM.o13 hM, ts_LM.k13 hM, ts_LM.l13 hM, ts_LM.o14 hM, ts_LM.k14 hM, ts_LM.l14 hM, ts_LM.o15 hM, ts_LM.k15 hM, ts_LM.l15 hM, ts_LM.o16 hM, ts_LM.k16 hM, ts_LM.l16 hM, ts_LM.o18 hM, ts_LM.k18 hM, ts_LM.l18 hM, ts_LM.o19 hM, ts_LM.k19 hM, ts_LM.l19 hM, ts_LM.o20 hM, ts_LM.k20 hM, ts_LM.l20 hM, ts_LM.o21 hM, ts_LM.k21 hM, ts_LM.l21 hM, ts_LM.o22 hM, ts_LM.k22 hM, ts_LM.l22 hM, ts_LM.o23 hM, ts_LM.k23 hM, ts_LM.l23 hM]
    refine ⟨by omega, c_changes hM.k13 hM.l13 h2.1 hc ht hu (fun hi3 hR o3 => ?_)⟩
    have z := (hR.2.2.2.2 t ht).2.2.2.1
    rw [ts_xc5 htu, Nat.zero_add] at z
    simp only [ts_l4, ts_l6, ts_l3, pk_mul, nI_add]
    rw [ts_cl (by omega), z]
    exact ⟨trivial, ts_vin (by omega) (by omega), q hi3 (h2.field hS.cs hR (fun b hb _ => o3 b hb)) (fun b hb => by rw [o3 b (by omega), ho b (by omega) (by omega)])⟩
  · rw [if_neg (fun x => h3 x.2)] at q
    exact q.st h
  · rw [if_neg (fun x => n2 x.1.2)] at q
    exact q.st h
  · rw [if_neg (fun x => n1 x.1.1)] at q
    exact q.st h
theorem v_swap {S : ts_S} {a1 a2 : Int32} (hS : ts_SV S) : ts_SV (ts_s_swap S a1 a2).2 := by
  unfold ts_s_swap
  by_cases c : (ts_T S.A a1 ∧ ts_T S.A a2) ∧ a1 ≠ a2
  · rw [if_pos c]
    have hok := hS.1.1
    obtain ⟨⟨h1, h2⟩, h3⟩ := c
    obtain ⟨t, ht, rfl⟩ := h1.get hok.1
    obtain ⟨u, hu, rfl⟩ := h2.get hok.1
    have hc := hok.1
    rw [ts_cl (n := t) (by omega), ts_cl (n := u) (by omega)]
    exact (hS.cs).field (A' := ts_xc S.A t u) ⟨ts_ok_xc hok ht hu, hS.1.2⟩
  · rw [if_neg c]; exact hS
def ts_s_ground (S : ts_S) (a1 : Int32) : Int32 × ts_S :=
  if S.A 6 0 = 0 then (-1000002, S) else if 1 ≤ a1 ∧ a1 ≤ 9 then (nI (S.A 6 2), S.setF (ts_sg S.A a1.toNatClampNeg) (ts_cs S.A S.B)) else (-1000001, S)
theorem x_ground {d : Nat} {g : ts_G} {S : ts_S} {a1 : Int32} {hi : ts_I} {hk : ts_K} {Q : Int32 → ts_I → ts_K → Prop} (hX : ts_LX g) (hS : ts_SV S) (h : ts_XI S hi hk) (q : ts_QX (ts_s_ground S a1) hi Q) : ts_E0 (d + 25) mX11_ground [.ref 1, .int a1] g hi hk (ts_qi Q) := by
  refine ts_E0.of plX11_ground rfl (Nat.le_of_ble_eq_true rfl) ?_
  refine wX11_ground_0 ?_
  unfold ts_s_ground at q
  have hok := hS.1.1
  have hc := hok.1
  have hF := hX.now
  simp only [ts_LX.s0 hX, ts_LX.s1 hX, ts_LX.s2 hX, ts_LX.s3 hX, ts_LX.s4 hX, ts_LX.s5 hX, ts_LX.s6 hX, ts_LX.s7 hX, ts_LX.s8 hX, ts_LX.s9 hX, ts_LX.s10 hX, ts_LX.s11 hX, ts_LX.s12 hX, ts_LX.s13 hX, ts_LX.s14 hX, ts_LX.s15 hX, ts_LX.s16 hX, ts_LX.s17 hX, ts_LX.s18 hX, ts_LX.s19 hX, ts_LX.s20 hX, ts_LX.s21 hX, ts_LX.s22 hX, ts_LX.s23 hX, ts_LX.s24 hX, ts_LX.s25 hX, ts_LX.s26 hX, ts_LX.s27 hX, ts_LX.s28 hX, ts_LX.s29 hX, ts_LX.s30 hX, ts_LX.s31 hX, ts_LX.s32 hX, ts_LX.s33 hX, ts_LX.s34 hX, ts_LX.s35 hX, ts_LX.s36 hX, ts_LX.s37 hX, ts_LX.s38 hX, ts_FL.kd hF, ts_FL.k1 hF, ts_FL.k2 hF, ts_FL.k3 hF, ts_FL.k4 hF, ts_FL.k5 hF, ts_FL.k6 hF, ts_FL.k7 hF, ts_FL.k8 hF, ts_FL.k9 hF, ts_FL.l1 hF, ts_FL.l2 hF, ts_FL.l3 hF, ts_FL.l4 hF, ts_FL.l5 hF, ts_FL.l6 hF, ts_FL.l7 hF, ts_FL.l8 hF, ts_FL.l9 hF, ts_FL.o0 hF, ts_FL.o1 hF, ts_FL.o2 hF, ts_FL.o3 hF, ts_FL.o4 hF, ts_FL.o5 hF, ts_FL.o6 hF, ts_FL.o7 hF, ts_FL.o8 hF]
  rw [h.1.1, ts_l0, ts_ne (by omega) (by omega)]
  refine ⟨trivial, by omega, trivial, fun c => ?_, fun c => ?_⟩
  · rw [if_neg c] at q
    refine c_outside (fun h1 => ⟨fun _ => ?_, fun e => absurd rfl e⟩) (fun n1 => ⟨fun e => absurd e (by decide), fun _ => ?_⟩)
    · rw [if_pos h1] at q
      obtain ⟨v, hv1, hv, rfl⟩ := ts_rg (a := 1) (b := 9) (by omega) h1.1 h1.2 (by omega)
      rw [ts_cl (by omega)] at q
      refine c_keepAct hX hS h (fun hi2 hk2 h2 ho hok2 => fun hi3 x3 => ?_)
      have hR : ts_FR 291 S.A hi2 hk2 := h2.1
      obtain ⟨r0, r1, r2, r3, rT⟩ := id hR
      rw [r2]
      have o3 : ∀ b, b ≠ 291 → hi3 b = hi2 b := fun b hb => by rw [x3]; funext s; rw [ts_up_a hb]
      refine q hi3 hk2 (h2.field (A' := ts_sg S.A v) ⟨?_, ?_, ?_, ?_, fun u hu => ?_⟩ (h2.fk (j := 26) (by omega)) (fun b hb => o3 b (by omega)) (fun _ _ => rfl)) (fun b hb => by rw [o3 b (by omega), ho b (by omega)])
      · rw [x3, ts_up_s (by omega)]; exact r0
      · rw [x3, ts_up_s (by omega)]; exact r1
      · rw [x3, ts_up_eq]; rfl
      · rw [x3, ts_up_s (by omega)]; exact r3
      · have z := rT u hu
        rw [o3 _ (by omega), o3 _ (by omega), o3 _ (by omega), o3 _ (by omega), o3 _ (by omega), o3 _ (by omega)]
        exact z
    · rw [if_neg n1] at q
      exact q.st h
  · rw [if_pos (Decidable.not_not.mp c)] at q
    exact q.st h
/-- the model asks for a field -/
theorem y_isField {d : Nat} {g : ts_G} {S : ts_S} {hi : ts_I} {hk : ts_K} {Q : Int32 → ts_I → ts_K → Prop} (hM : ts_LM g) (hS : ts_SV S) (h : ts_MI S hi) (q1 : S.A 6 0 ≠ 0 → Q 1 hi hk) (q0 : S.A 6 0 = 0 → Q 0 hi hk) : ts_E0 d mX12_isField [.ref 405] g hi hk (ts_qi Q) := by
  have hv := hS.1.2.2
  have h9 := hS.1.1.2.2.1
  refine c_isField hM h.1 h9 ?_
  by_cases c : S.A 6 2 = 0
  · rw [if_pos c]; exact q0 (hv.mpr c)
  · rw [if_neg c]; exact q1 (fun e => c (hv.mp e))
theorem y_ground {d : Nat} {g : ts_G} {S : ts_S} {a1 : Int32} {hi : ts_I} {hk : ts_K} {Q : Int32 → ts_I → ts_K → Prop} (hM : ts_LM g) (hS : ts_SV S) (h : ts_MI S hi) (q : ts_QM (ts_s_ground S a1) hi hk Q) : ts_E0 (d + 25) mX12_ground [.ref 405, .int a1] g hi hk (ts_qi Q) := by
  refine ts_E0.of plX12_ground rfl (Nat.le_of_ble_eq_true rfl) ?_
  refine wX12_ground_0 ?_
  unfold ts_s_ground at q
  have hok := hS.1.1
  have hc := hok.1
  refine ⟨hM.kd, y_isField hM hS h (fun c => ⟨fun _ => ?_, fun e => absurd (by decide) e⟩) (fun c => ⟨fun e => absurd rfl e, fun _ => ?_⟩)⟩
  · rw [if_neg c] at q
    refine c_inq (fun h1 => ⟨fun _ => ?_, fun e => absurd (by decide) e⟩) (fun n1 => ⟨fun e => absurd rfl e, fun _ => ?_⟩)
    · rw [if_pos h1] at q
      obtain ⟨v, hv1, hv, rfl⟩ := ts_rg (a := 1) (b := 9) (by omega) h1.1 h1.2 (by omega)
      rw [ts_cl (by omega)] at q
      refine y_notes hM hS h (fun hi2 h2 ho => ?_)
      simp only [ts_LM.kd hM, ts_LM.o0 hM, ts_LM.k0 hM, ts_LM.l0 hM, ts_LM.o1 hM, ts_LM.k1 hM, ts_LM.l1 hM, ts_LM.o2 hM, ts_LM.k2 hM, ts_LM.l2 hM, ts_LM.o3 hM, ts_LM.k3 hM, ts_LM.l3 hM, ts_LM.o5 hM, ts_LM.k5 hM, ts_LM.l5 hM, ts_LM.o13 hM, ts_LM.k13 hM, ts_LM.l13 hM, ts_LM.o14 hM, ts_LM.k14 hM, ts_LM.l14 hM, ts_LM.o15 hM, ts_LM.k15 hM, ts_LM.l15 hM, ts_LM.o16 hM, ts_LM.k16 hM, ts_LM.l16 hM, ts_LM.o18 hM, ts_LM.k18 hM, ts_LM.l18 hM, ts_LM.o19 hM, ts_LM.k19 hM, ts_LM.l19 hM, ts_LM.o20 hM, ts_LM.k20 hM, ts_LM.l20 hM, ts_LM.o21 hM, ts_LM.k21 hM, ts_LM.l21 hM, ts_LM.o22 hM, ts_LM.k22 hM, ts_LM.l22 hM, ts_LM.o23 hM, ts_LM.k23 hM, ts_LM.l23 hM]
      have hR : ts_MR 411 0 S.A hi2 := h2.1
      obtain ⟨r0, r1, r2, r3, rT⟩ := id hR
      rw [show (0 : Int32).toNatClampNeg = 0 from rfl, r0]
      refine ⟨by omega, trivial, ts_vin (i := 0) (by omega) (by omega), fun hi3 x3 => ?_⟩
      have o3 : ∀ b, b ≠ 411 → hi3 b = hi2 b := fun b hb => by rw [x3]; funext s; rw [ts_up_a hb]
      refine q hi3 (h2.field hS.cs (A' := ts_sg S.A v) ⟨?_, ?_, ?_, ?_, fun u hu => ?_⟩ (fun b hb _ => o3 b hb)) (fun b hb => by rw [o3 b (by omega), ho b (by omega) (by omega)])
      · rw [x3, ts_up_eq]; rfl
      · rw [x3, ts_up_s (by omega)]; exact r1
      · rw [x3, ts_up_s (by omega)]; exact r2
      · rw [x3, ts_up_s (by omega)]; exact r3
      · have z := rT u hu
        rw [x3, ts_up_s (by omega), ts_up_s (by omega), ts_up_s (by omega), ts_up_s (by omega), ts_up_s (by omega), ts_up_s (by omega)]
        exact z
    · rw [if_neg n1] at q
      exact q.st h
  · rw [if_pos c] at q
    exact q.st h
theorem v_ground {S : ts_S} {a1 : Int32} (hS : ts_SV S) : ts_SV (ts_s_ground S a1).2 := by
  unfold ts_s_ground
  by_cases c : S.A 6 0 = 0
  · rw [if_pos c]; exact hS
  · rw [if_neg c]
    by_cases h1 : 1 ≤ a1 ∧ a1 ≤ 9
    · rw [if_pos h1]
      obtain ⟨v, hv1, hv, rfl⟩ := ts_rg (a := 1) (b := 9) (by omega) h1.1 h1.2 (by omega)
      rw [ts_cl (by omega)]
      refine (hS.cs).field (A' := ts_sg S.A v) ⟨ts_ok_sg hS.1.1 hv, hS.1.2.1, ?_⟩
      show S.A 6 0 = 0 ↔ v = 0
      omega
    · rw [if_neg h1]; exact hS
/-- the acts kept behind n years -/
def ts_yb (A : ts_A) (B : List ts_A) : Nat → List ts_A
  | 0 => B
  | n + 1 => ts_cs (ts_pn A n) (ts_yb A B n)
def ts_s_years (S : ts_S) (a1 : Int32) : Int32 × ts_S :=
  if S.A 6 0 = 0 then (-1000002, S) else if 1 ≤ a1 ∧ a1 ≤ 24 then
    if S.A 6 1 + a1.toNatClampNeg ≤ 9999 then (nI (ts_rk (ts_pn S.A a1.toNatClampNeg)), S.setF (ts_pn S.A a1.toNatClampNeg) (ts_yb S.A S.B a1.toNatClampNeg)) else (-1000003, S)
  else (-1000001, S)
theorem ts_va_pn {A : ts_A} (h : ts_va A) {n : Nat} (hn : A 6 1 + n ≤ 9999) : ts_va (ts_pn A n) := by
  have e := ts_pn_c A n
  refine ⟨ts_pn_ok h.1 n (by omega), by omega, ?_⟩
  have e2 : ∀ m, ts_pn A m 6 2 = A 6 2 := fun m => by
    induction m with
    | zero => rfl
    | succ m ih => exact ih
  rw [e.1, e2]
  exact h.2.2
theorem v_yb {S : ts_S} (hS : ts_SV S) {n : Nat} (hn : S.A 6 1 + n ≤ 9999) : ts_SV (S.setF (ts_pn S.A n) (ts_yb S.A S.B n)) := by
  induction n with
  | zero => exact hS
  | succ n ih => exact (ih (by omega)).cs.field (ts_va_pn hS.1 hn)
theorem x_years {d : Nat} {g : ts_G} {S : ts_S} {a1 : Int32} {hi : ts_I} {hk : ts_K} {Q : Int32 → ts_I → ts_K → Prop} (hX : ts_LX g) (hS : ts_SV S) (h : ts_XI S hi hk) (q : ts_QX (ts_s_years S a1) hi Q) : ts_E0 (d + 25) mX11_years [.ref 1, .int a1] g hi hk (ts_qi Q) := by
  refine ts_E0.of plX11_years rfl (Nat.le_of_ble_eq_true rfl) ?_
  refine wX11_years_0 ?_
  unfold ts_s_years at q
  have hok := hS.1.1
  have hc := hok.1
  have hF := hX.now
  have hy := hS.1.2.1
  simp only [ts_LX.s0 hX, ts_LX.s1 hX, ts_LX.s2 hX, ts_LX.s3 hX, ts_LX.s4 hX, ts_LX.s5 hX, ts_LX.s6 hX, ts_LX.s7 hX, ts_LX.s8 hX, ts_LX.s9 hX, ts_LX.s10 hX, ts_LX.s11 hX, ts_LX.s12 hX, ts_LX.s13 hX, ts_LX.s14 hX, ts_LX.s15 hX, ts_LX.s16 hX, ts_LX.s17 hX, ts_LX.s18 hX, ts_LX.s19 hX, ts_LX.s20 hX, ts_LX.s21 hX, ts_LX.s22 hX, ts_LX.s23 hX, ts_LX.s24 hX, ts_LX.s25 hX, ts_LX.s26 hX, ts_LX.s27 hX, ts_LX.s28 hX, ts_LX.s29 hX, ts_LX.s30 hX, ts_LX.s31 hX, ts_LX.s32 hX, ts_LX.s33 hX, ts_LX.s34 hX, ts_LX.s35 hX, ts_LX.s36 hX, ts_LX.s37 hX, ts_LX.s38 hX, ts_FL.kd hF, ts_FL.k1 hF, ts_FL.k2 hF, ts_FL.k3 hF, ts_FL.k4 hF, ts_FL.k5 hF, ts_FL.k6 hF, ts_FL.k7 hF, ts_FL.k8 hF, ts_FL.k9 hF, ts_FL.l1 hF, ts_FL.l2 hF, ts_FL.l3 hF, ts_FL.l4 hF, ts_FL.l5 hF, ts_FL.l6 hF, ts_FL.l7 hF, ts_FL.l8 hF, ts_FL.l9 hF, ts_FL.o0 hF, ts_FL.o1 hF, ts_FL.o2 hF, ts_FL.o3 hF, ts_FL.o4 hF, ts_FL.o5 hF, ts_FL.o6 hF, ts_FL.o7 hF, ts_FL.o8 hF]
  rw [h.1.1, ts_l0, ts_ne (by omega) (by omega)]
  refine ⟨trivial, by omega, trivial, fun c => ?_, fun c => ?_⟩
  · rw [if_neg c] at q
    refine c_outside (fun h1 => ⟨fun _ => ?_, fun e => absurd rfl e⟩) (fun n1 => ⟨fun e => absurd e (by decide), fun _ => ?_⟩)
    · rw [if_pos h1] at q
      obtain ⟨n, hv1, hv, rfl⟩ := ts_rg (a := 1) (b := 24) (by omega) h1.1 h1.2 (by omega)
      rw [ts_cl (by omega)] at q
      rw [h.1.2.1, nI_add, show (9999 : Int32) = nI 9999 from rfl, ts_le (by omega) (by omega)]
      refine ⟨fun c2 => ?_, fun c2 => ?_⟩
      · rw [if_pos c2] at q
        have L : ∀ m k hi' hk', k + m = n → ts_XI (S.setF (ts_pn S.A k) (ts_yb S.A S.B k)) hi' hk' → (∀ b, 404 < b → hi' b = hi b) → ts_J0 (d + 25) mX11_years (ts_qi Q) g 46 [(0, .ref 1), (1, .int (nI n)), (2, .int (nI k))] [] hi' hk' := by
          intro m
          induction m with
          | zero =>
            intro k hi' hk' hkm h' hO
            refine wX11_years_46 ?_
            simp only [ts_LX.s0 hX, ts_LX.s1 hX, ts_LX.s2 hX, ts_LX.s3 hX, ts_LX.s4 hX, ts_LX.s5 hX, ts_LX.s6 hX, ts_LX.s7 hX, ts_LX.s8 hX, ts_LX.s9 hX, ts_LX.s10 hX, ts_LX.s11 hX, ts_LX.s12 hX, ts_LX.s13 hX, ts_LX.s14 hX, ts_LX.s15 hX, ts_LX.s16 hX, ts_LX.s17 hX, ts_LX.s18 hX, ts_LX.s19 hX, ts_LX.s20 hX, ts_LX.s21 hX, ts_LX.s22 hX, ts_LX.s23 hX, ts_LX.s24 hX, ts_LX.s25 hX, ts_LX.s26 hX, ts_LX.s27 hX, ts_LX.s28 hX, ts_LX.s29 hX, ts_LX.s30 hX, ts_LX.s31 hX, ts_LX.s32 hX, ts_LX.s33 hX, ts_LX.s34 hX, ts_LX.s35 hX, ts_LX.s36 hX, ts_LX.s37 hX, ts_LX.s38 hX, ts_FL.kd hF, ts_FL.k1 hF, ts_FL.k2 hF, ts_FL.k3 hF, ts_FL.k4 hF, ts_FL.k5 hF, ts_FL.k6 hF, ts_FL.k7 hF, ts_FL.k8 hF, ts_FL.k9 hF, ts_FL.l1 hF, ts_FL.l2 hF, ts_FL.l3 hF, ts_FL.l4 hF, ts_FL.l5 hF, ts_FL.l6 hF, ts_FL.l7 hF, ts_FL.l8 hF, ts_FL.l9 hF, ts_FL.o0 hF, ts_FL.o1 hF, ts_FL.o2 hF, ts_FL.o3 hF, ts_FL.o4 hF, ts_FL.o5 hF, ts_FL.o6 hF, ts_FL.o7 hF, ts_FL.o8 hF]
            rw [ts_le (by omega) (by omega)]
            have ekn : k = n := by omega
            subst ekn
            exact ⟨fun _ => ⟨trivial, by omega, trivial, c_allRanks hF h'.1 (ts_pn_ok hok k (by omega)) (q hi' hk' h' hO)⟩, fun e => absurd (by omega) e⟩
          | succ m ih =>
            intro k hi' hk' hkm h' hO
            refine wX11_years_46 ?_
            simp only [ts_LX.s0 hX, ts_LX.s1 hX, ts_LX.s2 hX, ts_LX.s3 hX, ts_LX.s4 hX, ts_LX.s5 hX, ts_LX.s6 hX, ts_LX.s7 hX, ts_LX.s8 hX, ts_LX.s9 hX, ts_LX.s10 hX, ts_LX.s11 hX, ts_LX.s12 hX, ts_LX.s13 hX, ts_LX.s14 hX, ts_LX.s15 hX, ts_LX.s16 hX, ts_LX.s17 hX, ts_LX.s18 hX, ts_LX.s19 hX, ts_LX.s20 hX, ts_LX.s21 hX, ts_LX.s22 hX, ts_LX.s23 hX, ts_LX.s24 hX, ts_LX.s25 hX, ts_LX.s26 hX, ts_LX.s27 hX, ts_LX.s28 hX, ts_LX.s29 hX, ts_LX.s30 hX, ts_LX.s31 hX, ts_LX.s32 hX, ts_LX.s33 hX, ts_LX.s34 hX, ts_LX.s35 hX, ts_LX.s36 hX, ts_LX.s37 hX, ts_LX.s38 hX, ts_FL.kd hF, ts_FL.k1 hF, ts_FL.k2 hF, ts_FL.k3 hF, ts_FL.k4 hF, ts_FL.k5 hF, ts_FL.k6 hF, ts_FL.k7 hF, ts_FL.k8 hF, ts_FL.k9 hF, ts_FL.l1 hF, ts_FL.l2 hF, ts_FL.l3 hF, ts_FL.l4 hF, ts_FL.l5 hF, ts_FL.l6 hF, ts_FL.l7 hF, ts_FL.l8 hF, ts_FL.l9 hF, ts_FL.o0 hF, ts_FL.o1 hF, ts_FL.o2 hF, ts_FL.o3 hF, ts_FL.o4 hF, ts_FL.o5 hF, ts_FL.o6 hF, ts_FL.o7 hF, ts_FL.o8 hF]
            rw [ts_le (by omega) (by omega)]
            refine ⟨fun e => absurd e (by omega), fun _ => ⟨trivial, c_keepAct hX (v_yb hS (n := k) (by omega)) h' (fun hi2 hk2 h2 ho hok2 => ?_)⟩⟩
            refine ⟨by omega, trivial, c_fpass hX.kl hF h2.1 (ts_pn_ok hok k (by omega)) (fun hi3 hR o3 => ?_)⟩
            rw [ts_l1, nI_add]
            exact ih (k + 1) hi3 hk2 (by omega) (h2.field hR (h2.fk (j := 26) (by omega)) (fun b hb => o3 b (by omega)) (fun _ _ => rfl)) (fun b hb => by rw [o3 b (by omega), ho b (by omega), hO b hb])
        exact L n 0 hi hk (by omega) h (fun _ _ => rfl)
      · rw [if_neg c2] at q
        exact q.st h
    · rw [if_neg n1] at q
      exact q.st h
  · rw [if_pos (Decidable.not_not.mp c)] at q
    exact q.st h
theorem y_years {d : Nat} {g : ts_G} {S : ts_S} {a1 : Int32} {hi : ts_I} {hk : ts_K} {Q : Int32 → ts_I → ts_K → Prop} (hM : ts_LM g) (hS : ts_SV S) (h : ts_MI S hi) (q : ts_QM (ts_s_years S a1) hi hk Q) : ts_E0 (d + 25) mX12_years [.ref 405, .int a1] g hi hk (ts_qi Q) := by
  refine ts_E0.of plX12_years rfl (Nat.le_of_ble_eq_true rfl) ?_
  refine wX12_years_0 ?_
  unfold ts_s_years at q
  have hok := hS.1.1
  have hc := hok.1
  have hy := hS.1.2.1
  refine ⟨hM.kd, y_isField hM hS h (fun c => ⟨fun _ => ?_, fun e => absurd (by decide) e⟩) (fun c => ⟨fun e => absurd rfl e, fun _ => ?_⟩)⟩
  · rw [if_neg c] at q
    refine c_inq (fun h1 => ⟨fun _ => ?_, fun e => absurd (by decide) e⟩) (fun n1 => ⟨fun e => absurd rfl e, fun _ => ?_⟩)
    · rw [if_pos h1] at q
      obtain ⟨n, hv1, hv, rfl⟩ := ts_rg (a := 1) (b := 24) (by omega) h1.1 h1.2 (by omega)
      rw [ts_cl (by omega)] at q
      have r3 := h.1.2.2.2.1
      rw [Nat.zero_add] at r3
      simp only [ts_LM.kd hM, ts_LM.o0 hM, ts_LM.k0 hM, ts_LM.l0 hM, ts_LM.o1 hM, ts_LM.k1 hM, ts_LM.l1 hM, ts_LM.o2 hM, ts_LM.k2 hM, ts_LM.l2 hM, ts_LM.o3 hM, ts_LM.k3 hM, ts_LM.l3 hM, ts_LM.o5 hM, ts_LM.k5 hM, ts_LM.l5 hM, ts_LM.o13 hM, ts_LM.k13 hM, ts_LM.l13 hM, ts_LM.o14 hM, ts_LM.k14 hM, ts_LM.l14 hM, ts_LM.o15 hM, ts_LM.k15 hM, ts_LM.l15 hM, ts_LM.o16 hM, ts_LM.k16 hM, ts_LM.l16 hM, ts_LM.o18 hM, ts_LM.k18 hM, ts_LM.l18 hM, ts_LM.o19 hM, ts_LM.k19 hM, ts_LM.l19 hM, ts_LM.o20 hM, ts_LM.k20 hM, ts_LM.l20 hM, ts_LM.o21 hM, ts_LM.k21 hM, ts_LM.l21 hM, ts_LM.o22 hM, ts_LM.k22 hM, ts_LM.l22 hM, ts_LM.o23 hM, ts_LM.k23 hM, ts_LM.l23 hM]
      rw [show (3 : Int32).toNatClampNeg = 3 from rfl, r3, nI_add, show (9999 : Int32) = nI 9999 from rfl, ts_le (by omega) (by omega)]
      refine ⟨by omega, trivial, ts_vin (i := 3) (by omega) (by omega), fun c2 => ?_, fun c2 => ?_⟩
      · rw [if_pos c2] at q
        have L : ∀ m k hi', k + m = n → ts_MI (S.setF (ts_pn S.A k) (ts_yb S.A S.B k)) hi' → (∀ b, b ≤ 404 → hi' b = hi b) → ts_J0 (d + 25) mX12_years (ts_qi Q) g 42 [(0, .ref 405), (1, .int (nI n)), (2, .int (nI k))] [] hi' hk := by
          intro m
          induction m with
          | zero =>
            intro k hi' hkm h' hO
            refine wX12_years_42 ?_
            simp only [ts_LM.kd hM, ts_LM.o0 hM, ts_LM.k0 hM, ts_LM.l0 hM, ts_LM.o1 hM, ts_LM.k1 hM, ts_LM.l1 hM, ts_LM.o2 hM, ts_LM.k2 hM, ts_LM.l2 hM, ts_LM.o3 hM, ts_LM.k3 hM, ts_LM.l3 hM, ts_LM.o5 hM, ts_LM.k5 hM, ts_LM.l5 hM, ts_LM.o13 hM, ts_LM.k13 hM, ts_LM.l13 hM, ts_LM.o14 hM, ts_LM.k14 hM, ts_LM.l14 hM, ts_LM.o15 hM, ts_LM.k15 hM, ts_LM.l15 hM, ts_LM.o16 hM, ts_LM.k16 hM, ts_LM.l16 hM, ts_LM.o18 hM, ts_LM.k18 hM, ts_LM.l18 hM, ts_LM.o19 hM, ts_LM.k19 hM, ts_LM.l19 hM, ts_LM.o20 hM, ts_LM.k20 hM, ts_LM.l20 hM, ts_LM.o21 hM, ts_LM.k21 hM, ts_LM.l21 hM, ts_LM.o22 hM, ts_LM.k22 hM, ts_LM.l22 hM, ts_LM.o23 hM, ts_LM.k23 hM, ts_LM.l23 hM]
            rw [ts_le (by omega) (by omega)]
            have ekn : k = n := by omega
            subst ekn
            exact ⟨fun _ => ⟨trivial, by omega, c_sumOf (w := 1) hM.k13 hM.l13 h'.1 (ts_pn_ok hok k (by omega)) (Or.inl rfl) (q hi' h' hO)⟩, fun e => absurd (by omega) e⟩
          | succ m ih =>
            intro k hi' hkm h' hO
            refine wX12_years_42 ?_
            simp only [ts_LM.kd hM, ts_LM.o0 hM, ts_LM.k0 hM, ts_LM.l0 hM, ts_LM.o1 hM, ts_LM.k1 hM, ts_LM.l1 hM, ts_LM.o2 hM, ts_LM.k2 hM, ts_LM.l2 hM, ts_LM.o3 hM, ts_LM.k3 hM, ts_LM.l3 hM, ts_LM.o5 hM, ts_LM.k5 hM, ts_LM.l5 hM, ts_LM.o13 hM, ts_LM.k13 hM, ts_LM.l13 hM, ts_LM.o14 hM, ts_LM.k14 hM, ts_LM.l14 hM, ts_LM.o15 hM, ts_LM.k15 hM, ts_LM.l15 hM, ts_LM.o16 hM, ts_LM.k16 hM, ts_LM.l16 hM, ts_LM.o18 hM, ts_LM.k18 hM, ts_LM.l18 hM, ts_LM.o19 hM, ts_LM.k19 hM, ts_LM.l19 hM, ts_LM.o20 hM, ts_LM.k20 hM, ts_LM.l20 hM, ts_LM.o21 hM, ts_LM.k21 hM, ts_LM.l21 hM, ts_LM.o22 hM, ts_LM.k22 hM, ts_LM.l22 hM, ts_LM.o23 hM, ts_LM.k23 hM, ts_LM.l23 hM]
            rw [ts_le (by omega) (by omega)]
            have hSk := v_yb hS (n := k) (by omega)
            refine ⟨fun e => absurd e (by omega), fun _ => ⟨trivial, y_notes hM hSk h' (fun hi2 h2 ho => ?_)⟩⟩
            refine ⟨by omega, c_passes hM hM.k13 hM.l13 (by omega) h2.1 (ts_pn_ok hok k (by omega)) (fun hi3 hR o3 => ?_)⟩
            rw [ts_l1, nI_add]
            exact ih (k + 1) hi3 (by omega) (h2.field hSk.cs hR (fun b hb hb2 => o3 b hb hb2)) (fun b hb => by rw [o3 b (by omega) (by omega), ho b (by omega) (by omega), hO b hb])
        exact L n 0 hi (by omega) h (fun _ _ => rfl)
      · rw [if_neg c2] at q
        exact q.st h
    · rw [if_neg n1] at q
      exact q.st h
  · rw [if_pos c] at q
    exact q.st h
theorem v_years {S : ts_S} {a1 : Int32} (hS : ts_SV S) : ts_SV (ts_s_years S a1).2 := by
  unfold ts_s_years
  by_cases c : S.A 6 0 = 0
  · rw [if_pos c]; exact hS
  · rw [if_neg c]
    by_cases h1 : 1 ≤ a1 ∧ a1 ≤ 24
    · rw [if_pos h1]
      by_cases h2 : S.A 6 1 + a1.toNatClampNeg ≤ 9999
      · rw [if_pos h2]
        exact v_yb hS h2
      · rw [if_neg h2]; exact hS
    · rw [if_neg h1]; exact hS
