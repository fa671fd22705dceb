/-! foretold: change, drawn -/
theorem ts_cg_ge {A : ts_A} {n a b : Nat} {w : Nat × Nat} : (ts_cg A n w a b).1 ≠ 0 := by
  unfold ts_cg
  split
  · exact Nat.succ_ne_zero _
  · omega
theorem ts_fo_ge {f : Nat × Nat → Nat → Nat × Nat} (hf : ∀ w i, w.1 ≠ 0 → (f w i).1 ≠ 0) : ∀ m o w, w.1 ≠ 0 → (ts_fo f m o w).1 ≠ 0 := by
  intro m
  induction m with
  | zero => intro o w hw; exact hw
  | succ m ih => intro o w hw; exact ih _ _ (hf w o hw)
theorem ts_cb_ge {A : ts_A} {n : Nat} (h : 2 ≤ A 6 0) : (ts_cb A n).1 ≠ 0 := by
  have h1 : ∀ w i, w.1 ≠ 0 → (ts_cin A n w i).1 ≠ 0 := fun w i hw => ts_fo_ge (fun w b _ => ts_cg_ge) _ _ _ hw
  obtain ⟨m, hm⟩ : ∃ m, A 6 0 = m + 1 := ⟨A 6 0 - 1, by omega⟩
  obtain ⟨k, hk⟩ : ∃ k, A 6 0 - (0 + 1) = k + 1 := ⟨A 6 0 - 2, by omega⟩
  unfold ts_cb
  rw [hm, ts_fo]
  refine ts_fo_ge h1 _ _ _ ?_
  unfold ts_cin
  rw [hk, ts_fo]
  exact ts_fo_ge (fun w b _ => ts_cg_ge) _ _ _ ts_cg_ge
theorem ts_cb_lt {A : ts_A} {n : Nat} (h : A 6 0 < 2) : (ts_cb A n).1 = 0 := by
  have h2 : A 6 0 = 0 ∨ A 6 0 = 1 := by omega
  unfold ts_cb
  rcases h2 with e | e
  · rw [e, ts_fo]
  · rw [e, ts_fo, ts_fo]
    unfold ts_cin
    rw [e, ts_fo]
def ts_s_change (S : ts_S) (a1 a2 : Int32) : Int32 × ts_S :=
  (if S.A 6 0 = 0 then -1000002 else if (1 ≤ a1 ∧ a1 ≤ 30) ∧ (0 ≤ a2 ∧ a2 ≤ 1) then (if (ts_cb S.A a1.toNatClampNeg).1 = 0 then -1000000 else if a2 = 0 then nI (ts_cb S.A a1.toNatClampNeg).2 else nI ((ts_cb S.A a1.toNatClampNeg).1 - 1)) else -1000001, S)
theorem x_change {d : Nat} {g : ts_G} {S : ts_S} {a1 a2 : Int32} {hi : ts_I} {hk : ts_K} {Q : Int32 → ts_I → ts_K → Prop} (hX : ts_LX g) (hS : ts_SV S) (h : ts_XI S hi hk) (q : ts_QX (ts_s_change S a1 a2) hi Q) : ts_E0 (d + 25) mX11_change [.ref 1, .int a1, .int a2] g hi hk (ts_qi Q) := by
  refine ts_E0.of plX11_change rfl (Nat.le_of_ble_eq_true rfl) ?_
  refine wX11_change_0 ?_
  unfold ts_s_change at q
  have hok := hS.1.1
  have hc := hok.1
  have hF := hX.now
  simp only [ts_LX.s0 hX, ts_LX.s1 hX, ts_LX.s2 hX, ts_LX.s3 hX, ts_LX.s4 hX, ts_LX.s5 hX, ts_LX.s6 hX, ts_LX.s7 hX, ts_LX.s8 hX, ts_LX.s9 hX, ts_LX.s10 hX, ts_LX.s11 hX, ts_LX.s12 hX, ts_LX.s13 hX, ts_LX.s14 hX, ts_LX.s15 hX, ts_LX.s16 hX, ts_LX.s17 hX, ts_LX.s18 hX, ts_LX.s19 hX, ts_LX.s20 hX, ts_LX.s21 hX, ts_LX.s22 hX, ts_LX.s23 hX, ts_LX.s24 hX, ts_LX.s25 hX, ts_LX.s26 hX, ts_LX.s27 hX, ts_LX.s28 hX, ts_LX.s29 hX, ts_LX.s30 hX, ts_LX.s31 hX, ts_LX.s32 hX, ts_LX.s33 hX, ts_LX.s34 hX, ts_LX.s35 hX, ts_LX.s36 hX, ts_LX.s37 hX, ts_LX.s38 hX, ts_FL.kd hF, ts_FL.k1 hF, ts_FL.k2 hF, ts_FL.k3 hF, ts_FL.k4 hF, ts_FL.k5 hF, ts_FL.k6 hF, ts_FL.k7 hF, ts_FL.k8 hF, ts_FL.k9 hF, ts_FL.l1 hF, ts_FL.l2 hF, ts_FL.l3 hF, ts_FL.l4 hF, ts_FL.l5 hF, ts_FL.l6 hF, ts_FL.l7 hF, ts_FL.l8 hF, ts_FL.l9 hF, ts_FL.o0 hF, ts_FL.o1 hF, ts_FL.o2 hF, ts_FL.o3 hF, ts_FL.o4 hF, ts_FL.o5 hF, ts_FL.o6 hF, ts_FL.o7 hF, ts_FL.o8 hF]
  rw [h.1.1, ts_l0, ts_ne (by omega) (by omega)]
  refine ⟨trivial, by omega, trivial, fun c => ?_, fun c => ?_⟩
  · rw [if_neg c] at q
    refine c_outside (fun h1 => ⟨fun e => absurd rfl e, fun _ => c_outside (fun h2 => ⟨fun _ => ?_, fun e => absurd rfl e⟩) (fun n2 => ⟨fun e => absurd e (by decide), fun _ => ?_⟩)⟩) (fun n1 => ⟨fun _ => ?_, fun e => absurd (by decide) e⟩)
    · replace h2 : 0 ≤ a2 ∧ a2 ≤ 1 := h2
      rw [if_pos ⟨h1, h2⟩] at q
      obtain ⟨n, hn1, hn, rfl⟩ := ts_rg (a := 1) (b := 30) (by omega) h1.1 h1.2 (by omega)
      rw [ts_cl (by omega)] at q
      rw [h.1.1, ts_l2, ts_le (by omega) (by omega)]
      refine ⟨fun c2 => ⟨by omega, trivial, c_bestChange hX h.1 (h.fk (j := 26) (by omega)) (h.tk 8 (by omega)) hok (ts_y1 hS (by omega)) (by omega) (fun hi2 hk2 hTF h6 => ?_)⟩, fun c2 => ?_⟩
      · have hX2 := h.tri hTF.2.2 (fun b hb => hTF.1 b (by omega) (by omega)) hTF.2.1
        have hf : ∀ b, 404 < b → hi2 b = hi b := fun b hb => hTF.1 b (by omega) (by omega)
        have hg := ts_cb_ge (n := n) c2
        rw [if_neg hg] at q
        refine ⟨fun e => ?_, fun e => ?_⟩
        · replace e : ¬ a2 = 0 := e
          rw [if_neg e] at q
          rw [h6]
          unfold ts_mo
          rw [if_neg hg]
          exact q hi2 hk2 hX2 hf
        · replace e : ¬ ¬ a2 = 0 := e
          rw [if_pos (Decidable.not_not.mp e)] at q
          exact q hi2 hk2 hX2 hf
      · rw [if_pos (ts_cb_lt (by omega))] at q
        exact q.st h
    · rw [if_neg (fun x => n2 x.2)] at q
      exact q.st h
    · rw [if_neg (fun x => n1 x.1)] at q
      exact q.st h
  · rw [if_pos (Decidable.not_not.mp c)] at q
    exact q.st h
/-- how much the model has found: NONE ahead of the first -/
def ts_no (m : Nat) : Int32 := if m = 0 then -1000000 else nI (m - 1)
theorem ts_no_le {r m : Nat} (hr : r < 1000) (hm : m < 1000) : (nI r ≤ ts_no m) ↔ r + 1 ≤ m := by
  unfold ts_no
  by_cases h : m = 0
  · rw [if_pos h, Int32.le_iff_toInt_le, nI_toInt (by omega)]
    have : (-1000000 : Int32).toInt = -1000000 := by decide
    omega
  · rw [if_neg h, ts_le (by omega) (by omega)]
    omega
theorem y_change {d : Nat} {g : ts_G} {S : ts_S} {a1 a2 : Int32} {hi : ts_I} {hk : ts_K} {Q : Int32 → ts_I → ts_K → Prop} (hM : ts_LM g) (hS : ts_SV S) (h : ts_MI S hi) (q : ts_QM (ts_s_change S a1 a2) hi hk Q) : ts_E0 (d + 25) mX12_change [.ref 405, .int a1, .int a2] g hi hk (ts_qi Q) := by
  refine ts_E0.of plX12_change rfl (Nat.le_of_ble_eq_true rfl) ?_
  refine wX12_change_0 ?_
  unfold ts_s_change at q
  have hok := hS.1.1
  have hc := hok.1
  refine ⟨hM.kd, y_isField hM hS h (fun c => ⟨fun _ => ?_, fun e => absurd (by decide) e⟩) (fun c => ⟨fun e => absurd rfl e, fun _ => ?_⟩)⟩
  · rw [if_neg c] at q
    refine c_inq (fun h1 => ⟨fun e => absurd e (by decide), fun _ => c_inq (fun h2 => ⟨fun _ => ?_, fun e => absurd (by decide) e⟩) (fun n2 => ⟨fun e => absurd rfl e, fun _ => ?_⟩)⟩) (fun n1 => ⟨fun _ => ?_, fun e => absurd rfl e⟩)
    · rw [if_pos ⟨h1, h2⟩] at q
      obtain ⟨n, hn1, hn, rfl⟩ := ts_rg (a := 1) (b := 30) (by omega) h1.1 h1.2 (by omega)
      rw [ts_cl (by omega)] at q
      have r2 := h.1.2.2.1
      rw [Nat.zero_add] at r2
      have O : ∀ m a (w : Nat × Nat) hi', a + m = S.A 6 0 → w.1 ≤ 64 → (∀ b, b ≠ 413 → b ≠ 417 → hi' b = hi b) → ts_fo (ts_cin S.A n) m a w = ts_cb S.A n → ts_J0 (d + 25) mX12_change (ts_qi Q) g 42 [(0, .ref 405), (1, .int (nI n)), (2, .int a2), (3, .int (if w.1 = 0 then -1000000 else nI w.2)), (4, .int (ts_no w.1)), (5, .int (nI a))] [] hi' hk := by
        intro m
        induction m with
        | zero =>
          intro a w hi' ham hw hO hf
          refine wX12_change_42 ?_
          simp only [ts_LM.kd hM, ts_LM.o0 hM, ts_LM.k0 hM, ts_LM.l0 hM, ts_LM.o1 hM, ts_LM.k1 hM, ts_LM.l1 hM, ts_LM.o2 hM, ts_LM.k2 hM, ts_LM.l2 hM, ts_LM.o3 hM, ts_LM.k3 hM, ts_LM.l3 hM, ts_LM.o5 hM, ts_LM.k5 hM, ts_LM.l5 hM, ts_LM.o13 hM, ts_LM.k13 hM, ts_LM.l13 hM, ts_LM.o14 hM, ts_LM.k14 hM, ts_LM.l14 hM, ts_LM.o15 hM, ts_LM.k15 hM, ts_LM.l15 hM, ts_LM.o16 hM, ts_LM.k16 hM, ts_LM.l16 hM, ts_LM.o18 hM, ts_LM.k18 hM, ts_LM.l18 hM, ts_LM.o19 hM, ts_LM.k19 hM, ts_LM.l19 hM, ts_LM.o20 hM, ts_LM.k20 hM, ts_LM.l20 hM, ts_LM.o21 hM, ts_LM.k21 hM, ts_LM.l21 hM, ts_LM.o22 hM, ts_LM.k22 hM, ts_LM.l22 hM, ts_LM.o23 hM, ts_LM.k23 hM, ts_LM.l23 hM]
          rw [show (2 : Int32).toNatClampNeg = 2 from rfl, hO 411 (by omega) (by omega), r2, ts_le (by omega) (by omega)]
          have hX2 := h.tri hS (fun b b1 b2 _ _ => hO b b1 b2)
          have hfr : ∀ b, b ≤ 404 → hi' b = hi b := fun b hb => hO b (by omega) (by omega)
          rw [ts_fo] at hf
          rw [← hf] at q
          unfold ts_no
          refine ⟨trivial, by omega, trivial, ts_vin (i := 2) (by omega) (by omega), fun _ => ⟨fun e => ?_, fun e => ?_⟩, fun e => absurd (by omega) e⟩
          · by_cases c0 : w.1 = 0
            · rw [if_pos c0] at q ⊢
              exact q hi' hX2 hfr
            · rw [if_neg c0, if_neg e] at q
              rw [if_neg c0]
              exact q hi' hX2 hfr
          · by_cases c0 : w.1 = 0
            · rw [if_pos c0] at q ⊢
              exact q hi' hX2 hfr
            · rw [if_neg c0, if_pos (Decidable.not_not.mp e)] at q
              rw [if_neg c0]
              exact q hi' hX2 hfr
        | succ m ih =>
          intro a w hi' ham hw hO hf
          refine wX12_change_42 ?_
          simp only [ts_LM.kd hM, ts_LM.o0 hM, ts_LM.k0 hM, ts_LM.l0 hM, ts_LM.o1 hM, ts_LM.k1 hM, ts_LM.l1 hM, ts_LM.o2 hM, ts_LM.k2 hM, ts_LM.l2 hM, ts_LM.o3 hM, ts_LM.k3 hM, ts_LM.l3 hM, ts_LM.o5 hM, ts_LM.k5 hM, ts_LM.l5 hM, ts_LM.o13 hM, ts_LM.k13 hM, ts_LM.l13 hM, ts_LM.o14 hM, ts_LM.k14 hM, ts_LM.l14 hM, ts_LM.o15 hM, ts_LM.k15 hM, ts_LM.l15 hM, ts_LM.o16 hM, ts_LM.k16 hM, ts_LM.l16 hM, ts_LM.o18 hM, ts_LM.k18 hM, ts_LM.l18 hM, ts_LM.o19 hM, ts_LM.k19 hM, ts_LM.l19 hM, ts_LM.o20 hM, ts_LM.k20 hM, ts_LM.l20 hM, ts_LM.o21 hM, ts_LM.k21 hM, ts_LM.l21 hM, ts_LM.o22 hM, ts_LM.k22 hM, ts_LM.l22 hM, ts_LM.o23 hM, ts_LM.k23 hM, ts_LM.l23 hM]
          rw [show (2 : Int32).toNatClampNeg = 2 from rfl, hO 411 (by omega) (by omega), r2, ts_le (by omega) (by omega), ts_l1, nI_add]
          refine ⟨trivial, by omega, trivial, ts_vin (i := 2) (by omega) (by omega), fun e => absurd e (by omega), fun _ => ?_⟩
          rw [ts_fo] at hf
          have I : ∀ k b (v : Nat × Nat) hi2, b + k = S.A 6 0 → a < b → v.1 ≤ 64 → (∀ b, b ≠ 413 → b ≠ 417 → hi2 b = hi b) → ts_fo (fun w b => ts_cg S.A n w a b) k b v = ts_cin S.A n w a → ts_J0 (d + 25) mX12_change (ts_qi Q) g 59 [(0, .ref 405), (1, .int (nI n)), (2, .int a2), (3, .int (if v.1 = 0 then -1000000 else nI v.2)), (4, .int (ts_no v.1)), (5, .int (nI a)), (6, .int (nI b))] [] hi2 hk := by
            intro k
            induction k with
            | zero =>
              intro b v hi2 hbk hab hv hO2 hf2
              refine wX12_change_59 ?_
              simp only [ts_LM.kd hM, ts_LM.o0 hM, ts_LM.k0 hM, ts_LM.l0 hM, ts_LM.o1 hM, ts_LM.k1 hM, ts_LM.l1 hM, ts_LM.o2 hM, ts_LM.k2 hM, ts_LM.l2 hM, ts_LM.o3 hM, ts_LM.k3 hM, ts_LM.l3 hM, ts_LM.o5 hM, ts_LM.k5 hM, ts_LM.l5 hM, ts_LM.o13 hM, ts_LM.k13 hM, ts_LM.l13 hM, ts_LM.o14 hM, ts_LM.k14 hM, ts_LM.l14 hM, ts_LM.o15 hM, ts_LM.k15 hM, ts_LM.l15 hM, ts_LM.o16 hM, ts_LM.k16 hM, ts_LM.l16 hM, ts_LM.o18 hM, ts_LM.k18 hM, ts_LM.l18 hM, ts_LM.o19 hM, ts_LM.k19 hM, ts_LM.l19 hM, ts_LM.o20 hM, ts_LM.k20 hM, ts_LM.l20 hM, ts_LM.o21 hM, ts_LM.k21 hM, ts_LM.l21 hM, ts_LM.o22 hM, ts_LM.k22 hM, ts_LM.l22 hM, ts_LM.o23 hM, ts_LM.k23 hM, ts_LM.l23 hM]
              rw [show (2 : Int32).toNatClampNeg = 2 from rfl, hO2 411 (by omega) (by omega), r2, ts_le (by omega) (by omega), ts_l1, nI_add]
              refine ⟨trivial, by omega, trivial, ts_vin (i := 2) (by omega) (by omega), fun _ => ?_, fun e => absurd (by omega) e⟩
              rw [ts_fo] at hf2
              refine ih (a + 1) v hi2 (by omega) hv hO2 ?_
              rw [hf2]
              exact hf
            | succ k ih2 =>
              intro b v hi2 hbk hab hv hO2 hf2
              refine wX12_change_59 ?_
              simp only [ts_LM.kd hM, ts_LM.o0 hM, ts_LM.k0 hM, ts_LM.l0 hM, ts_LM.o1 hM, ts_LM.k1 hM, ts_LM.l1 hM, ts_LM.o2 hM, ts_LM.k2 hM, ts_LM.l2 hM, ts_LM.o3 hM, ts_LM.k3 hM, ts_LM.l3 hM, ts_LM.o5 hM, ts_LM.k5 hM, ts_LM.l5 hM, ts_LM.o13 hM, ts_LM.k13 hM, ts_LM.l13 hM, ts_LM.o14 hM, ts_LM.k14 hM, ts_LM.l14 hM, ts_LM.o15 hM, ts_LM.k15 hM, ts_LM.l15 hM, ts_LM.o16 hM, ts_LM.k16 hM, ts_LM.l16 hM, ts_LM.o18 hM, ts_LM.k18 hM, ts_LM.l18 hM, ts_LM.o19 hM, ts_LM.k19 hM, ts_LM.l19 hM, ts_LM.o20 hM, ts_LM.k20 hM, ts_LM.l20 hM, ts_LM.o21 hM, ts_LM.k21 hM, ts_LM.l21 hM, ts_LM.o22 hM, ts_LM.k22 hM, ts_LM.l22 hM, ts_LM.o23 hM, ts_LM.k23 hM, ts_LM.l23 hM]
              rw [show (2 : Int32).toNatClampNeg = 2 from rfl, hO2 411 (by omega) (by omega), r2, ts_le (by omega) (by omega)]
              rw [ts_fo] at hf2
              have hR2 : ts_MR 411 0 S.A hi2 := ts_MR.of hc h.1 (fun u _ => by rw [hO2 411 (by omega) (by omega)])
              have hoka := ts_ok_xc hok (a := a) (b := b) (by omega) (by omega)
              have hokn := ts_pn_ok hoka n (ts_y1 hS (by omega))
              have hrk := ts_rk_le hokn
              refine ⟨trivial, by omega, trivial, ts_vin (i := 2) (by omega) (by omega), fun e => absurd e (by omega), fun _ => ⟨by omega, y_tries hM hS hR2 (fun hi3 hR3 ho3 => c_changes hM.k15 hM.l15 hR3 hc (by omega) (by omega) (fun hi4 hR4 ho4 => c_goesOn hM hR4 hoka (ts_y1 hS (by omega)) (fun hi5 hR5 ho5 => c_sumOf (w := 1) hM.k15 hM.l15 hR5 hokn (Or.inl rfl) ?_)))⟩⟩
              rw [if_pos rfl, ts_no_le (by omega) (by omega), ts_l1, nI_add, ts_l10, pk_mul, nI_add]
              have hO5 : ∀ b, b ≠ 413 → b ≠ 417 → hi5 b = hi b := fun b b1 b2 => by rw [ho5 b b1 b2, ho4 b b1, ho3 b b1, hO2 b b1 b2]
              refine ⟨fun e => ⟨fun _ => ?_, fun x => absurd e x⟩, fun e => ⟨fun x => absurd x e, fun _ => ?_⟩⟩
              · have eg : ts_cg S.A n v a b = v := by unfold ts_cg; rw [if_neg (by omega)]
                rw [eg] at hf2
                exact ih2 (b + 1) v hi5 (by omega) (by omega) hv hO5 hf2
              · have eg : ts_cg S.A n v a b = (ts_rk (ts_pn (ts_xc S.A a b) n) + 1, 10 * a + b) := by unfold ts_cg; rw [if_pos (by omega)]
                rw [eg] at hf2
                have z := ih2 (b + 1) _ hi5 (by omega) (by omega) (by show _ + 1 ≤ 64; omega) hO5 hf2
                unfold ts_no at z
                rw [if_neg (Nat.succ_ne_zero _), if_neg (Nat.succ_ne_zero _)] at z
                exact z
          exact I (S.A 6 0 - (a + 1)) (a + 1) w hi' (by omega) (by omega) hw hO rfl
      exact O (S.A 6 0) 0 (0, 0) hi (by omega) (by simp) (fun _ _ _ => rfl) rfl
    · rw [if_neg (fun x => n2 x.2)] at q
      exact q.st h
    · rw [if_neg (fun x => n1 x.1)] at q
      exact q.st h
  · rw [if_pos c] at q
    exact q.st h
def ts_s_drawn (S : ts_S) (a1 a2 a3 : Int32) : Int32 × ts_S :=
  (if S.A 6 0 = 0 then -1000002 else if ((0 ≤ a1 ∧ a1 ≤ 60) ∧ (1 ≤ a2 ∧ a2 ≤ 999999)) ∧ (0 ≤ a3 ∧ a3 ≤ 1) then (if a3 = 0 then nI (ts_rk (ts_ct a1.toNatClampNeg S.A a2.toNatClampNeg)) else nI (ts_gw (ts_ct a1.toNatClampNeg S.A a2.toNatClampNeg))) else -1000001, S)
theorem x_drawn {d : Nat} {g : ts_G} {S : ts_S} {a1 a2 a3 : Int32} {hi : ts_I} {hk : ts_K} {Q : Int32 → ts_I → ts_K → Prop} (hX : ts_LX g) (hS : ts_SV S) (h : ts_XI S hi hk) (q : ts_QX (ts_s_drawn S a1 a2 a3) hi Q) : ts_E0 (d + 25) mX11_drawn [.ref 1, .int a1, .int a2, .int a3] g hi hk (ts_qi Q) := by
  refine ts_E0.of plX11_drawn rfl (Nat.le_of_ble_eq_true rfl) ?_
  refine wX11_drawn_0 ?_
  unfold ts_s_drawn at q
  have hok := hS.1.1
  have hc := hok.1
  have hF := hX.now
  have hT : ts_FL g 395 := (hX.tri 8 (by omega)).2
  simp only [ts_LX.s0 hX, ts_LX.s1 hX, ts_LX.s2 hX, ts_LX.s3 hX, ts_LX.s4 hX, ts_LX.s5 hX, ts_LX.s6 hX, ts_LX.s7 hX, ts_LX.s8 hX, ts_LX.s9 hX, ts_LX.s10 hX, ts_LX.s11 hX, ts_LX.s12 hX, ts_LX.s13 hX, ts_LX.s14 hX, ts_LX.s15 hX, ts_LX.s16 hX, ts_LX.s17 hX, ts_LX.s18 hX, ts_LX.s19 hX, ts_LX.s20 hX, ts_LX.s21 hX, ts_LX.s22 hX, ts_LX.s23 hX, ts_LX.s24 hX, ts_LX.s25 hX, ts_LX.s26 hX, ts_LX.s27 hX, ts_LX.s28 hX, ts_LX.s29 hX, ts_LX.s30 hX, ts_LX.s31 hX, ts_LX.s32 hX, ts_LX.s33 hX, ts_LX.s34 hX, ts_LX.s35 hX, ts_LX.s36 hX, ts_LX.s37 hX, ts_LX.s38 hX, ts_FL.kd hF, ts_FL.k1 hF, ts_FL.k2 hF, ts_FL.k3 hF, ts_FL.k4 hF, ts_FL.k5 hF, ts_FL.k6 hF, ts_FL.k7 hF, ts_FL.k8 hF, ts_FL.k9 hF, ts_FL.l1 hF, ts_FL.l2 hF, ts_FL.l3 hF, ts_FL.l4 hF, ts_FL.l5 hF, ts_FL.l6 hF, ts_FL.l7 hF, ts_FL.l8 hF, ts_FL.l9 hF, ts_FL.o0 hF, ts_FL.o1 hF, ts_FL.o2 hF, ts_FL.o3 hF, ts_FL.o4 hF, ts_FL.o5 hF, ts_FL.o6 hF, ts_FL.o7 hF, ts_FL.o8 hF]
  rw [h.1.1, ts_l0, ts_ne (by omega) (by omega)]
  refine ⟨trivial, by omega, trivial, fun c => ?_, fun c => ?_⟩
  · rw [if_neg c] at q
    refine c_outside (fun h1 => ⟨fun e => absurd rfl e, fun _ => c_outside (fun h2 => ⟨fun e => absurd rfl e, fun _ => c_outside (fun h3 => ⟨fun _ => ?_, fun e => absurd rfl e⟩) (fun n3 => ⟨fun e => absurd e (by decide), fun _ => ?_⟩)⟩) (fun n2 => ⟨fun _ => ?_, fun e => absurd (by decide) e⟩)⟩) (fun n1 => ⟨fun _ => ?_, fun e => absurd (by decide) e⟩)
    · replace h1 : 0 ≤ a1 ∧ a1 ≤ 60 := h1
      replace h3 : 0 ≤ a3 ∧ a3 ≤ 1 := h3
      rw [if_pos ⟨⟨h1, h2⟩, h3⟩] at q
      obtain ⟨n, hn1, hn, rfl⟩ := ts_rg (a := 0) (b := 60) (by omega) h1.1 h1.2 (by omega)
      obtain ⟨x, hx1, hx, rfl⟩ := ts_rg (a := 1) (b := 999999) (by omega) h2.1 h2.2 (by omega)
      rw [ts_cl (n := n) (by omega), ts_cl (n := x) (by omega)] at q
      refine ⟨by omega, trivial, c_century hX h.1 (h.fk (j := 26) (by omega)) hok (by omega) (ts_y1 hS (by omega)) (by omega) (by omega) (fun hi2 hk2 hR hokc hTF => ?_)⟩
      have hX2 := h.tri hTF.2.2 (fun b hb => hTF.1 b (by omega) (by omega)) hTF.2.1
      have hf : ∀ b, 404 < b → hi2 b = hi b := fun b hb => hTF.1 b (by omega) (by omega)
      refine ⟨fun e => ⟨hT.kd, c_allGrown hT hR hokc ?_⟩, fun e => ⟨hT.kd, c_allRanks hT hR hokc ?_⟩⟩
      · replace e : ¬ a3 = 0 := e
        rw [if_neg e] at q
        exact q hi2 hk2 hX2 hf
      · replace e : ¬ ¬ a3 = 0 := e
        rw [if_pos (Decidable.not_not.mp e)] at q
        exact q hi2 hk2 hX2 hf
    · rw [if_neg (fun x => n3 x.2)] at q
      exact q.st h
    · rw [if_neg (fun x => n2 x.1.2)] at q
      exact q.st h
    · rw [if_neg (fun x => n1 x.1.1)] at q
      exact q.st h
  · rw [if_pos (Decidable.not_not.mp c)] at q
    exact q.st h
theorem ts_xc_same {A : ts_A} {a : Nat} (hA : ts_ok A) (ha : a < A 6 0) : ts_xc A a a = A := by
  have z := (hA.2.2.2.2 a ha).2.2.2.2.2.2.1
  funext c t
  show (if c = 5 then (if t = a then A 5 a else if t = a then A 5 a else A 5 t) else if c = 7 then (if t = A 5 a then a else if t = A 5 a then a else A 7 t) else A c t) = A c t
  by_cases c5 : c = 5
  · rw [if_pos c5, c5]
    by_cases e : t = a
    · rw [if_pos e, e]
    · rw [if_neg e, if_neg e]
  · rw [if_neg c5]
    by_cases c7 : c = 7
    · rw [if_pos c7, c7]
      by_cases e : t = A 5 a
      · rw [if_pos e, e, z]
      · rw [if_neg e, if_neg e]
    · rw [if_neg c7]
theorem y_drawn {d : Nat} {g : ts_G} {S : ts_S} {a1 a2 a3 : Int32} {hi : ts_I} {hk : ts_K} {Q : Int32 → ts_I → ts_K → Prop} (hM : ts_LM g) (hS : ts_SV S) (h : ts_MI S hi) (q : ts_QM (ts_s_drawn S a1 a2 a3) hi hk Q) : ts_E0 (d + 25) mX12_drawn [.ref 405, .int a1, .int a2, .int a3] g hi hk (ts_qi Q) := by
  refine ts_E0.of plX12_drawn rfl (Nat.le_of_ble_eq_true rfl) ?_
  refine wX12_drawn_0 ?_
  unfold ts_s_drawn at q
  have hok := hS.1.1
  have hc := hok.1
  refine ⟨hM.kd, y_isField hM hS h (fun c => ⟨fun _ => ?_, fun e => absurd (by decide) e⟩) (fun c => ⟨fun e => absurd rfl e, fun _ => ?_⟩)⟩
  · rw [if_neg c] at q
    refine c_inq (fun h1 => ⟨fun e => absurd e (by decide), fun _ => c_inq (fun h2 => ⟨fun e => absurd e (by decide), fun _ => c_inq (fun h3 => ⟨fun _ => ?_, fun e => absurd (by decide) e⟩) (fun n3 => ⟨fun e => absurd rfl e, fun _ => ?_⟩)⟩) (fun n2 => ⟨fun _ => ?_, fun e => absurd rfl e⟩)⟩) (fun n1 => ⟨fun _ => ?_, fun e => absurd rfl e⟩)
    · rw [if_pos ⟨⟨h1, h2⟩, h3⟩] at q
      obtain ⟨n, hn1, hn, rfl⟩ := ts_rg (a := 0) (b := 60) (by omega) h1.1 h1.2 (by omega)
      obtain ⟨x, hx1, hx, rfl⟩ := ts_rg (a := 1) (b := 999999) (by omega) h2.1 h2.2 (by omega)
      rw [ts_cl (n := n) (by omega), ts_cl (n := x) (by omega)] at q
      simp only [ts_LM.kd hM, ts_LM.o0 hM, ts_LM.k0 hM, ts_LM.l0 hM, ts_LM.o1 hM, ts_LM.k1 hM, ts_LM.l1 hM, ts_LM.o2 hM, ts_LM.k2 hM, ts_LM.l2 hM, ts_LM.o3 hM, ts_LM.k3 hM, ts_LM.l3 hM, ts_LM.o5 hM, ts_LM.k5 hM, ts_LM.l5 hM, ts_LM.o13 hM, ts_LM.k13 hM, ts_LM.l13 hM, ts_LM.o14 hM, ts_LM.k14 hM, ts_LM.l14 hM, ts_LM.o15 hM, ts_LM.k15 hM, ts_LM.l15 hM, ts_LM.o16 hM, ts_LM.k16 hM, ts_LM.l16 hM, ts_LM.o18 hM, ts_LM.k18 hM, ts_LM.l18 hM, ts_LM.o19 hM, ts_LM.k19 hM, ts_LM.l19 hM, ts_LM.o20 hM, ts_LM.k20 hM, ts_LM.l20 hM, ts_LM.o21 hM, ts_LM.k21 hM, ts_LM.l21 hM, ts_LM.o22 hM, ts_LM.k22 hM, ts_LM.l22 hM, ts_LM.o23 hM, ts_LM.k23 hM, ts_LM.l23 hM]
      rw [nI_l (by omega)]
      refine ⟨by omega, by omega, y_tries hM hS h.1 (fun hi2 hR2 ho2 => ?_)⟩
      have r2 := h.1.2.2.1
      rw [Nat.zero_add] at r2
      have hc0 : 0 < S.A 6 0 := by omega
      have hy0 : S.A 6 1 + 60 ≤ 1000000 := ts_y1 hS (by omega)
      have L : ∀ m i (B : ts_A) y hi', i + m = n → ts_ok B → B 6 0 = S.A 6 0 → B 6 1 = S.A 6 1 + i → y < 2147483647 → ts_MR 413 0 B hi' → (∀ b, b ≠ 413 → b ≠ 417 → hi' b = hi b) → ts_ct m B y = ts_ct n S.A x → ts_J0 (d + 25) mX12_drawn (ts_qi Q) g 62 [(0, .ref 405), (1, .int (nI n)), (3, .int a3), (4, .long (lN y)), (6, .int (nI i))] [] hi' hk := by
        intro m
        induction m with
        | zero =>
          intro i B y hi' him hB hB0 hB1 hy hR' hO hf
          refine wX12_drawn_62 ?_
          simp only [ts_LM.kd hM, ts_LM.o0 hM, ts_LM.k0 hM, ts_LM.l0 hM, ts_LM.o1 hM, ts_LM.k1 hM, ts_LM.l1 hM, ts_LM.o2 hM, ts_LM.k2 hM, ts_LM.l2 hM, ts_LM.o3 hM, ts_LM.k3 hM, ts_LM.l3 hM, ts_LM.o5 hM, ts_LM.k5 hM, ts_LM.l5 hM, ts_LM.o13 hM, ts_LM.k13 hM, ts_LM.l13 hM, ts_LM.o14 hM, ts_LM.k14 hM, ts_LM.l14 hM, ts_LM.o15 hM, ts_LM.k15 hM, ts_LM.l15 hM, ts_LM.o16 hM, ts_LM.k16 hM, ts_LM.l16 hM, ts_LM.o18 hM, ts_LM.k18 hM, ts_LM.l18 hM, ts_LM.o19 hM, ts_LM.k19 hM, ts_LM.l19 hM, ts_LM.o20 hM, ts_LM.k20 hM, ts_LM.l20 hM, ts_LM.o21 hM, ts_LM.k21 hM, ts_LM.l21 hM, ts_LM.o22 hM, ts_LM.k22 hM, ts_LM.l22 hM, ts_LM.o23 hM, ts_LM.k23 hM, ts_LM.l23 hM]
          rw [ts_le (by omega) (by omega)]
          rw [ts_ct] at hf
          rw [← hf] at q
          have hX2 := h.tri hS (fun b b1 b2 _ _ => hO b b1 b2)
          have hfr : ∀ b, b ≤ 404 → hi' b = hi b := fun b hb => hO b (by omega) (by omega)
          refine ⟨fun _ => ⟨trivial, by omega, fun e => c_sumOf (w := 2) hM.k15 hM.l15 hR' hB (Or.inr rfl) ?_, fun e => c_sumOf (w := 1) hM.k15 hM.l15 hR' hB (Or.inl rfl) ?_⟩, fun e => absurd (by omega) e⟩
          · rw [if_neg e] at q
            exact q hi' hX2 hfr
          · rw [if_pos (Decidable.not_not.mp e)] at q
            exact q hi' hX2 hfr
        | succ m ih =>
          intro i B y hi' him hB hB0 hB1 hy hR' hO hf
          refine wX12_drawn_62 ?_
          simp only [ts_LM.kd hM, ts_LM.o0 hM, ts_LM.k0 hM, ts_LM.l0 hM, ts_LM.o1 hM, ts_LM.k1 hM, ts_LM.l1 hM, ts_LM.o2 hM, ts_LM.k2 hM, ts_LM.l2 hM, ts_LM.o3 hM, ts_LM.k3 hM, ts_LM.l3 hM, ts_LM.o5 hM, ts_LM.k5 hM, ts_LM.l5 hM, ts_LM.o13 hM, ts_LM.k13 hM, ts_LM.l13 hM, ts_LM.o14 hM, ts_LM.k14 hM, ts_LM.l14 hM, ts_LM.o15 hM, ts_LM.k15 hM, ts_LM.l15 hM, ts_LM.o16 hM, ts_LM.k16 hM, ts_LM.l16 hM, ts_LM.o18 hM, ts_LM.k18 hM, ts_LM.l18 hM, ts_LM.o19 hM, ts_LM.k19 hM, ts_LM.l19 hM, ts_LM.o20 hM, ts_LM.k20 hM, ts_LM.l20 hM, ts_LM.o21 hM, ts_LM.k21 hM, ts_LM.l21 hM, ts_LM.o22 hM, ts_LM.k22 hM, ts_LM.l22 hM, ts_LM.o23 hM, ts_LM.k23 hM, ts_LM.l23 hM]
          have hcx : ts_cx y < 2147483647 := Nat.mod_lt _ (by omega)
          rw [ts_ct] at hf
          have hoky := ts_ok_cy (x := ts_cx y) hB (by omega) (by omega)
          have hs : ts_ok (ts_sg B (1 + ts_cx y % 9)) := ts_ok_sg hB (by omega)
          rw [ts_cxL (by omega), show (9 : Int64) = lN 9 from rfl, show (3 : Int64) = lN 3 from rfl, ts_l2L, pk_lRem (by omega) (by omega) (by omega), pk_lRem (by omega) (by omega) (by omega), pk_lDiv (by omega) (by omega) (by omega), lN_i, ts_le (by omega) (by omega), ts_l1, nI_add, nI_add]
          refine ⟨fun e => absurd e (by omega), fun _ => ⟨trivial, by omega, trivial, ts_vin (i := 0) (by omega) (by omega), fun hi3 x3 => ?_⟩⟩
          rw [show (0 : Int32).toNatClampNeg = 0 from rfl] at x3
          have o3 : ∀ b, b ≠ 413 → hi3 b = hi' b := fun b hb => by rw [x3]; funext s; rw [ts_up_a hb]
          rw [show (2 : Int32).toNatClampNeg = 2 from rfl, o3 411 (by omega), hO 411 (by omega) (by omega), r2, nI_l (by omega), pk_lRem (by omega) (by omega) (by omega), pk_lRem (by omega) (by omega) (by omega), lN_i, lN_i]
          have hRg : ts_MR 413 0 (ts_sg B (1 + ts_cx y % 9)) hi3 := by
            obtain ⟨z0, z1, z2, z3, zT⟩ := hR'
            rw [x3]
            refine ⟨?_, ?_, ?_, ?_, fun t ht => ?_⟩
            · rw [ts_up_eq, Nat.add_comm]; rfl
            · rw [ts_up_s (by omega)]; exact z1
            · rw [ts_up_s (by omega)]; exact z2
            · rw [ts_up_s (by omega)]; exact z3
            · have z := zT t ht
              rw [ts_up_s (by omega), ts_up_s (by omega), ts_up_s (by omega), ts_up_s (by omega), ts_up_s (by omega), ts_up_s (by omega)]
              exact z
          have m1 : ts_cx y % S.A 6 0 < B 6 0 := by rw [hB0]; exact Nat.mod_lt _ hc0
          have m2 : ts_cx y / 2 % S.A 6 0 < B 6 0 := by rw [hB0]; exact Nat.mod_lt _ hc0
          have hO3 : ∀ b, b ≠ 413 → b ≠ 417 → hi3 b = hi b := fun b b1 b2 => by rw [o3 b b1, hO b b1 b2]
          have go : ∀ (B' : ts_A) hi4, ts_ok B' → ts_cy B (ts_cx y) = ts_nx B' → ts_MR 413 0 B' hi4 → (∀ b, b ≠ 413 → b ≠ 417 → hi4 b = hi b) → ts_E0 (d + 24) mX12_passes [.ref 405, .ref 413] g hi4 hk (ts_qv (fun hi21 hk22 => ts_J0 (d + 24 + 1) mX12_drawn (ts_qi Q) g 62 [(0, .ref 405), (1, .int (nI n)), (3, .int a3), (4, .long (lN (ts_cx y))), (6, .int (nI (i + 1)))] [] hi21 hk22)) := by
            intro B' hi4 hB' ecy hR4 hO4
            refine c_passes hM hM.k15 hM.l15 (by omega) hR4 hB' (fun hi5 hR5 ho5 => ?_)
            have hR5' : ts_MR 413 0 (ts_nx B') hi5 := hR5
            rw [← ecy] at hR5'
            exact ih (i + 1) _ _ hi5 (by omega) hoky.1 (hoky.2.1.trans hB0) (by rw [hoky.2.2, hB1]; omega) hcx hR5' (fun b b1 b2 => by rw [ho5 b b1 b2, hO4 b b1 b2]) hf
          refine ⟨by omega, trivial, ts_vin (i := 2) (by omega) (by omega), fun e => ?_, fun e => ?_, fun e => ⟨fun e2 => ?_, fun e2 => ?_⟩⟩
          · rw [show (0 : Int64) = lN 0 from rfl, lN_eq (by omega) (by omega)] at e
            omega
          · have h0 : ¬ ts_cx y % 3 = 0 := fun e3 => by
              apply e
              rw [e3]
              decide
            exact go _ hi3 hs (by unfold ts_cy; rw [if_neg h0]) hRg hO3
          · have h0 : ts_cx y % 3 = 0 := by
              have h1 := Decidable.not_not.mp e
              rw [lg_cmp_eq, show (0 : Int64) = lN 0 from rfl, lN_eq (by omega) (by omega)] at h1
              exact h1
            rw [ts_eq (by omega) (by omega)] at e2
            refine go _ hi3 hs ?_ hRg hO3
            unfold ts_cy
            rw [if_pos h0, hB0, ← e2, ts_xc_same hs m1]
          · have h0 : ts_cx y % 3 = 0 := by
              have h1 := Decidable.not_not.mp e
              rw [lg_cmp_eq, show (0 : Int64) = lN 0 from rfl, lN_eq (by omega) (by omega)] at h1
              exact h1
            refine c_changes hM.k15 hM.l15 hRg hs.1 m1 m2 (fun hi4 hR4 ho4 => ?_)
            exact go _ hi4 (ts_ok_xc hs m1 m2) (by unfold ts_cy; rw [if_pos h0, hB0]) hR4 (fun b b1 b2 => by rw [ho4 b b1, hO3 b b1 b2])
      exact L n 0 S.A x hi2 (by omega) hok rfl rfl (by omega) hR2 (fun b b1 _ => ho2 b b1) rfl
    · rw [if_neg (fun x => n3 x.2)] at q
      exact q.st h
    · rw [if_neg (fun x => n2 x.1.2)] at q
      exact q.st h
    · rw [if_neg (fun x => n1 x.1.1)] at q
      exact q.st h
  · rw [if_pos c] at q
    exact q.st h
