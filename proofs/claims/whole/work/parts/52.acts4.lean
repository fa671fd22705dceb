/-! undo, image, restore -/
/-- the state once the field and the acts kept are others -/
theorem ts_XI.both {S : ts_S} {A' : ts_A} {B' : List ts_A} {hi hi' : ts_I} {hk hk' : ts_K} (h : ts_XI S hi hk) (hR : ts_FR 291 A' hi' hk') (hK : ts_FK 291 hk') (hB : ts_XB B' hi' hk') (e : ∀ b, b ≠ 1 → (b < 291 ∨ 300 < b) → hi' b = hi b) (e1 : ∀ s, s ≠ 11 → s ≠ 12 → hi' 1 s = hi 1 s) (ek : ∀ b, b ≠ 292 → hk' b = hk b) : ts_XI (S.setF A' B') hi' hk' := by
  obtain ⟨h1, -, h3, h4, h5, h6, h7, h8, k1, k2, k3, k4⟩ := h
  refine ⟨hR, hB, fun k hk2 => (h3 k hk2).of (fun b x1 x2 => e b (by omega) (by omega)) (ek _ (by omega)), fun r hr => ?_, by rw [e1 9 (by omega) (by omega)]; exact h5, by rw [e1 10 (by omega) (by omega)]; exact h6, h7.of (by rw [e 3 (by omega) (by omega)]) (e 4 (by omega) (by omega)), h8.of (by rw [e 5 (by omega) (by omega)]) (e 6 (by omega) (by omega)), fun q hq => by rw [e _ (by omega) (by omega)]; exact k1 q hq, ?_, fun j hj => ?_, fun j hj => (k4 j hj).of (ek _ (by omega))⟩
  · rw [e (15 + 2 * r) (by omega) (by omega), e (16 + 2 * r) (by omega) (by omega)]
    exact h4 r hr
  · unfold ts_KA
    rw [ek 7 (by omega)]
    exact k2
  · by_cases hj2 : j = 26
    · rw [hj2]; exact hK
    · exact (k3 j hj).of (ek _ (by omega))
theorem ts_MI.both {S : ts_S} {A' : ts_A} {B' : List ts_A} {hi hi' : ts_I} (hS : ts_SV S) (h : ts_MI S hi) (hR : ts_MR 411 0 A' hi') (hB : ts_MB B' hi') (e : ∀ b, b ≠ 411 → b ≠ 405 → hi' b = hi b) (e5 : ∀ s, s ≠ 17 → hi' 405 s = hi 405 s) : ts_MI (S.setF A' B') hi' := by
  obtain ⟨h1, -, h3, h4, h5, h6, h7, h8⟩ := h
  refine ⟨hR, hB, fun k hk => ?_, fun r hr => ?_, by rw [e5 4 (by omega)]; exact h5, by rw [e5 7 (by omega)]; exact h6, h7.of (e5 6 (by omega)) (e 410 (by omega) (by omega)), h8.of (e5 24 (by omega)) (e 420 (by omega) (by omega))⟩
  · refine ⟨by rw [e 416 (by omega) (by omega)]; exact (h3 k hk).1, fun hn => ts_MR.of ?_ ((h3 k hk).2 hn) (fun u _ => by rw [e 415 (by omega) (by omega)])⟩
    exact (hS.2.2.2.1 k hk).1.1
  · rw [e 406 (by omega) (by omega), e 407 (by omega) (by omega), e 408 (by omega) (by omega)]
    exact h4 r hr
def ts_s_undo (S : ts_S) : Int32 × ts_S :=
  if S.B.length = 0 then (-1000002, S) else (nI (S.B.length - 1), S.setF (S.B.headD S.A) S.B.tail)
theorem x_undo {d : Nat} {g : ts_G} {S : ts_S} {hi : ts_I} {hk : ts_K} {Q : Int32 → ts_I → ts_K → Prop} (hX : ts_LX g) (hS : ts_SV S) (h : ts_XI S hi hk) (q : ts_QX (ts_s_undo S) hi Q) : ts_E0 (d + 25) mX11_undo [.ref 1] g hi hk (ts_qi Q) := by
  refine ts_E0.of plX11_undo rfl (Nat.le_of_ble_eq_true rfl) ?_
  refine wX11_undo_0 ?_
  unfold ts_s_undo at q
  obtain ⟨p, p1, p2, p3, p4⟩ := h.2.1
  have hBl := hS.2.2.1
  simp only [ts_LX.s0 hX, ts_LX.s1 hX, ts_LX.s2 hX, ts_LX.s3 hX, ts_LX.s4 hX, ts_LX.s5 hX, ts_LX.s6 hX, ts_LX.s7 hX, ts_LX.s8 hX, ts_LX.s9 hX, ts_LX.s10 hX, ts_LX.s11 hX, ts_LX.s12 hX, ts_LX.s13 hX, ts_LX.s14 hX, ts_LX.s15 hX, ts_LX.s16 hX, ts_LX.s17 hX, ts_LX.s18 hX, ts_LX.s19 hX, ts_LX.s20 hX, ts_LX.s21 hX, ts_LX.s22 hX, ts_LX.s23 hX, ts_LX.s24 hX, ts_LX.s25 hX, ts_LX.s26 hX, ts_LX.s27 hX, ts_LX.s28 hX, ts_LX.s29 hX, ts_LX.s30 hX, ts_LX.s31 hX, ts_LX.s32 hX, ts_LX.s33 hX, ts_LX.s34 hX, ts_LX.s35 hX, ts_LX.s36 hX, ts_LX.s37 hX, ts_LX.s38 hX]
  rw [p3, ts_l0, ts_ne (by omega) (by omega)]
  refine ⟨trivial, fun c => ?_, fun c => ?_⟩
  · rw [if_neg c] at q
    obtain ⟨A0, B1, eB⟩ : ∃ A0 B1, S.B = A0 :: B1 := by
      cases hB : S.B with
      | nil => rw [hB] at c; exact absurd rfl c
      | cons a b => exact ⟨a, b, rfl⟩
    have hA0 := p4 0 A0 (by rw [eB]; rfl)
    have hl : S.B.length = B1.length + 1 := by rw [eB]; rfl
    have eh : S.B.headD S.A = A0 := by rw [eB]; rfl
    have et : S.B.tail = B1 := by rw [eB]; rfl
    have hv0 : ts_va A0 := hS.2.1 A0 (by rw [eB]; exact List.mem_cons_self)
    rw [eh, et] at q
    intro hi3 x3 hi4 x4
    rw [x3, ts_up_s (by omega), p2, show (24 : Int32) = nI 24 from rfl, nI_add, ts_l1, ts_sub' (by omega), ts_sub' (by omega), ts_rem (by omega) (by omega) (by omega)] at x4
    have e11 : hi4 1 11 = nI ((p + 23) % 24) := by rw [x4, ts_up_eq, show p + 24 - 1 = p + 23 by omega]
    have hp : (p + 23) % 24 < 24 := by omega
    obtain ⟨f1, f2⟩ := hX.act ((p + 23) % 24) hp
    rw [show (p + 23 - 0) % 24 = (p + 23) % 24 by omega] at hA0
    have o4 : ∀ b, b ≠ 1 → hi4 b = hi b := fun b hb => by rw [x4]; funext s; rw [ts_up_a hb, ts_up_a hb]
    rw [e11, ts_cl (by omega), f1]
    refine ⟨by omega, by omega, trivial, ts_vin (by omega) (by omega), by omega, hX.now.kd, c_become hX.kl hX.now f2 (by omega) (hA0.of (fun b y1 y2 => o4 b (by omega)) rfl) (h.fk (by omega)) hv0.1.1 (fun hi5 hk5 hR hK ho hok => ?_)⟩
    have o5 : ∀ s, hi5 1 s = hi4 1 s := fun s => by rw [ho 1 (by omega)]
    have e12 : hi5 1 12 = nI B1.length := by rw [o5, x4, ts_up_s (by omega), ts_up_eq, hl]; rfl
    rw [e12, show B1.length = S.B.length - 1 by omega]
    refine q hi5 hk5 (h.both hR hK ⟨(p + 23) % 24, hp, by rw [o5]; exact e11, e12, fun i A hA => ?_⟩ (fun b y1 y2 => by rw [ho b y2, o4 b y1]) (fun s s1 s2 => by rw [o5, x4, ts_up_s s1, ts_up_s s2]) (fun b hb => hok b (by omega))) (fun b hb => by rw [ho b (by omega), o4 b (by omega)])
    have z := p4 (i + 1) A (by rw [eB]; exact hA)
    rw [show ((p + 23) % 24 + 23 - i) % 24 = (p + 23 - (i + 1)) % 24 by
      have : i < B1.length := (List.getElem?_eq_some_iff.mp hA).1
      omega]
    exact z.of (fun b y1 y2 => by rw [ho b (by omega), o4 b (by omega)]) (hok _ (by omega))
  · rw [if_pos (Decidable.not_not.mp c)] at q
    exact q.st h
theorem y_undo {d : Nat} {g : ts_G} {S : ts_S} {hi : ts_I} {hk : ts_K} {Q : Int32 → ts_I → ts_K → Prop} (hM : ts_LM g) (hS : ts_SV S) (h : ts_MI S hi) (q : ts_QM (ts_s_undo S) hi hk Q) : ts_E0 (d + 25) mX12_undo [.ref 405] g hi hk (ts_qi Q) := by
  refine ts_E0.of plX12_undo rfl (Nat.le_of_ble_eq_true rfl) ?_
  refine wX12_undo_0 ?_
  unfold ts_s_undo at q
  obtain ⟨b1, b2, b3⟩ := h.2.1
  have hBl := hS.2.2.1
  simp only [ts_LM.kd hM, ts_LM.o0 hM, ts_LM.k0 hM, ts_LM.l0 hM, ts_LM.o1 hM, ts_LM.k1 hM, ts_LM.l1 hM, ts_LM.o2 hM, ts_LM.k2 hM, ts_LM.l2 hM, ts_LM.o3 hM, ts_LM.k3 hM, ts_LM.l3 hM, ts_LM.o5 hM, ts_LM.k5 hM, ts_LM.l5 hM, ts_LM.o13 hM, ts_LM.k13 hM, ts_LM.l13 hM, ts_LM.o14 hM, ts_LM.k14 hM, ts_LM.l14 hM, ts_LM.o15 hM, ts_LM.k15 hM, ts_LM.l15 hM, ts_LM.o16 hM, ts_LM.k16 hM, ts_LM.l16 hM, ts_LM.o18 hM, ts_LM.k18 hM, ts_LM.l18 hM, ts_LM.o19 hM, ts_LM.k19 hM, ts_LM.l19 hM, ts_LM.o20 hM, ts_LM.k20 hM, ts_LM.l20 hM, ts_LM.o21 hM, ts_LM.k21 hM, ts_LM.l21 hM, ts_LM.o22 hM, ts_LM.k22 hM, ts_LM.l22 hM, ts_LM.o23 hM, ts_LM.k23 hM, ts_LM.l23 hM]
  rw [b1, ts_l0, ts_ne (by omega) (by omega)]
  refine ⟨trivial, fun c => ?_, fun c => ?_⟩
  · rw [if_neg c] at q
    obtain ⟨A0, B1, eB⟩ : ∃ A0 B1, S.B = A0 :: B1 := by
      cases hB : S.B with
      | nil => rw [hB] at c; exact absurd rfl c
      | cons a b => exact ⟨a, b, rfl⟩
    have hA0 := b3 0 A0 (by rw [eB]; rfl)
    have hl : S.B.length = B1.length + 1 := by rw [eB]; rfl
    have eh : S.B.headD S.A = A0 := by rw [eB]; rfl
    have et : S.B.tail = B1 := by rw [eB]; rfl
    have hv0 : ts_va A0 := hS.2.1 A0 (by rw [eB]; exact List.mem_cons_self)
    rw [eh, et] at q
    intro hi3 x3
    rw [ts_l1, ts_sub' (by omega)] at x3
    have e17 : hi3 405 17 = nI (S.B.length - 1) := by rw [x3, ts_up_eq]
    have o3 : ∀ b, b ≠ 405 → hi3 b = hi b := fun b hb => by rw [x3]; funext s; rw [ts_up_a hb]
    rw [e17, show (46 : Int32) = nI 46 from rfl, pk_mul]
    refine ⟨by omega, by omega, c_copies hM.k16 hM.k13 (by omega) (by rw [hM.l16]; omega) (by rw [hM.l13]; omega) (by rw [hM.l16]; omega) (by rw [hM.l13]; omega) ?_⟩
    have e5 : ∀ s, ts_cp hi3 414 (46 * (S.B.length - 1)) 411 0 46 405 s = hi3 405 s := fun s => by rw [ts_cp_a (by omega)]
    rw [e5, e17]
    refine q _ (h.both hS (ts_MR.cp hv0.1.1 (ts_MR.of hv0.1.1 hA0 (fun u _ => by rw [o3 414 (by omega)]))) ⟨by rw [e5, e17]; congr 1; omega, by omega, fun i A hA => ?_⟩ (fun b y1 y2 => by rw [ts_cp_a y1, o3 b y2]) (fun s hs => by rw [e5, x3, ts_up_s hs])) (fun b hb => by rw [ts_cp_a (by omega), o3 b (by omega)])
    have z := b3 (i + 1) A (by rw [eB]; exact hA)
    rw [show S.B.length - 1 - (i + 1) = B1.length - 1 - i by omega] at z
    refine ts_MR.of ((hS.2.1 A (by rw [eB]; exact List.mem_cons_of_mem _ (List.mem_of_getElem? hA))).1.1) z (fun u _ => ?_)
    rw [ts_cp_a (by omega), o3 414 (by omega)]
  · rw [if_pos (Decidable.not_not.mp c)] at q
    exact q.st h
theorem v_undo {S : ts_S} (hS : ts_SV S) : ts_SV (ts_s_undo S).2 := by
  unfold ts_s_undo
  by_cases c : S.B.length = 0
  · rw [if_pos c]; exact hS
  · rw [if_neg c]
    obtain ⟨A0, B1, eB⟩ : ∃ A0 B1, S.B = A0 :: B1 := by
      cases hB : S.B with
      | nil => rw [hB] at c; exact absurd rfl c
      | cons a b => exact ⟨a, b, rfl⟩
    have hl : S.B.length = B1.length + 1 := by rw [eB]; rfl
    have eh : S.B.headD S.A = A0 := by rw [eB]; rfl
    have et : S.B.tail = B1 := by rw [eB]; rfl
    rw [eh, et]
    obtain ⟨h1, h2, h3, h4⟩ := hS
    refine ⟨h2 A0 (by rw [eB]; exact List.mem_cons_self), fun A hA => h2 A (by rw [eB]; exact List.mem_cons_of_mem _ hA), ?_, h4⟩
    show B1.length ≤ 24
    omega
def ts_s_image (S : ts_S) (a1 : Int32) : Int32 × ts_S :=
  if 0 ≤ a1 ∧ a1 ≤ 1 then if S.A 6 0 = 0 then (-1000002, S) else (1, S.setI (ts_ud S.I a1.toNatClampNeg S.A)) else (-1000001, S)
theorem x_image {d : Nat} {g : ts_G} {S : ts_S} {a1 : Int32} {hi : ts_I} {hk : ts_K} {Q : Int32 → ts_I → ts_K → Prop} (hX : ts_LX g) (hS : ts_SV S) (h : ts_XI S hi hk) (q : ts_QX (ts_s_image S a1) hi Q) : ts_E0 (d + 25) mX11_image [.ref 1, .int a1] g hi hk (ts_qi Q) := by
  refine ts_E0.of plX11_image rfl (Nat.le_of_ble_eq_true rfl) ?_
  refine wX11_image_0 ?_
  unfold ts_s_image at q
  have hok := hS.1.1
  have hc := hok.1
  refine c_outside (fun h1 => ⟨fun _ => ?_, fun e => absurd rfl e⟩) (fun n1 => ⟨fun e => absurd e (by decide), fun _ => ?_⟩)
  · rw [if_pos h1] at q
    obtain ⟨k, _, hk1, rfl⟩ := ts_rg (a := 0) (b := 1) (by omega) h1.1 h1.2 (by omega)
    rw [ts_cl (by omega)] at q
    have hF := hX.now
    obtain ⟨f1, f2⟩ := hX.img k (by omega)
    simp only [ts_LX.s0 hX, ts_LX.s1 hX, ts_LX.s2 hX, ts_LX.s3 hX, ts_LX.s4 hX, ts_LX.s5 hX, ts_LX.s6 hX, ts_LX.s7 hX, ts_LX.s8 hX, ts_LX.s9 hX, ts_LX.s10 hX, ts_LX.s11 hX, ts_LX.s12 hX, ts_LX.s13 hX, ts_LX.s14 hX, ts_LX.s15 hX, ts_LX.s16 hX, ts_LX.s17 hX, ts_LX.s18 hX, ts_LX.s19 hX, ts_LX.s20 hX, ts_LX.s21 hX, ts_LX.s22 hX, ts_LX.s23 hX, ts_LX.s24 hX, ts_LX.s25 hX, ts_LX.s26 hX, ts_LX.s27 hX, ts_LX.s28 hX, ts_LX.s29 hX, ts_LX.s30 hX, ts_LX.s31 hX, ts_LX.s32 hX, ts_LX.s33 hX, ts_LX.s34 hX, ts_LX.s35 hX, ts_LX.s36 hX, ts_LX.s37 hX, ts_LX.s38 hX, ts_FL.kd hF, ts_FL.k1 hF, ts_FL.k2 hF, ts_FL.k3 hF, ts_FL.k4 hF, ts_FL.k5 hF, ts_FL.k6 hF, ts_FL.k7 hF, ts_FL.k8 hF, ts_FL.k9 hF, ts_FL.l1 hF, ts_FL.l2 hF, ts_FL.l3 hF, ts_FL.l4 hF, ts_FL.l5 hF, ts_FL.l6 hF, ts_FL.l7 hF, ts_FL.l8 hF, ts_FL.l9 hF, ts_FL.o0 hF, ts_FL.o1 hF, ts_FL.o2 hF, ts_FL.o3 hF, ts_FL.o4 hF, ts_FL.o5 hF, ts_FL.o6 hF, ts_FL.o7 hF, ts_FL.o8 hF]
    rw [h.1.1, ts_l0, ts_ne (by omega) (by omega), ts_cl (by omega), f1]
    refine ⟨trivial, by omega, trivial, fun c => ?_, fun c => ?_⟩
    · rw [if_neg c] at q
      refine ⟨by omega, trivial, ts_vin (by omega) (by omega), by omega, f2.kd, c_become hX.kl f2 hX.now (by omega) h.1 (h.fk (j := 26) (by omega)) hc (fun hi2 hk2 hR hK ho hok2 => ?_)⟩
      refine q hi2 hk2 ?_ (fun b hb => ho b (by omega))
      obtain ⟨h1', ⟨p, p1, p2, p3, p4⟩, h3, h4, h5, h6, h7, h8, k1, k2, k3, k4⟩ := h
      refine ⟨h1'.of (fun b x1 x2 => ho b (by omega)) (hok2 _ (by omega)), ⟨p, p1, by rw [ho 1 (by omega)]; exact p2, by rw [ho 1 (by omega)]; exact p3, fun i A hA => (p4 i A hA).of (fun b x1 x2 => ho b (by omega)) (hok2 _ (by omega))⟩, fun j hj => ?_, fun r hr => ?_, by rw [ho 1 (by omega)]; exact h5, by rw [ho 1 (by omega)]; exact h6, h7.of (by rw [ho 3 (by omega)]) (ho 4 (by omega)), h8.of (by rw [ho 5 (by omega)]) (ho 6 (by omega)), fun q hq => by rw [ho _ (by omega)]; exact k1 q hq, ?_, fun j hj => ?_, fun j hj => (k4 j hj).of (hok2 _ (by omega))⟩
      · show ts_FR (271 + 10 * j) (ts_ud S.I k S.A j) hi2 hk2
        by_cases e : j = k
        · rw [e, ts_ud_eq]; exact hR
        · rw [ts_ud_ne e]
          exact (h3 j hj).of (fun b x1 x2 => ho b (by omega)) (hok2 _ (by omega))
      · rw [ho (15 + 2 * r) (by omega), ho (16 + 2 * r) (by omega)]
        exact h4 r hr
      · unfold ts_KA
        rw [hok2 7 (by omega)]
        exact k2
      · by_cases hj2 : j = 24 + k
        · rw [hj2, show 31 + 10 * (24 + k) = 271 + 10 * k by omega]; exact hK
        · exact (k3 j hj).of (hok2 _ (by omega))
    · rw [if_pos (Decidable.not_not.mp c)] at q
      exact q.st h
  · rw [if_neg n1] at q
    exact q.st h
theorem y_image {d : Nat} {g : ts_G} {S : ts_S} {a1 : Int32} {hi : ts_I} {hk : ts_K} {Q : Int32 → ts_I → ts_K → Prop} (hM : ts_LM g) (hS : ts_SV S) (h : ts_MI S hi) (q : ts_QM (ts_s_image S a1) hi hk Q) : ts_E0 (d + 25) mX12_image [.ref 405, .int a1] g hi hk (ts_qi Q) := by
  refine ts_E0.of plX12_image rfl (Nat.le_of_ble_eq_true rfl) ?_
  refine wX12_image_0 ?_
  unfold ts_s_image at q
  have hok := hS.1.1
  have hc := hok.1
  refine c_inq (fun h1 => ⟨fun _ => ?_, fun e => absurd (by decide) e⟩) (fun n1 => ⟨fun e => absurd rfl e, fun _ => ?_⟩)
  · rw [if_pos h1] at q
    obtain ⟨k, _, hk1, rfl⟩ := ts_rg (a := 0) (b := 1) (by omega) h1.1 h1.2 (by omega)
    rw [ts_cl (by omega)] at q
    refine ⟨hM.kd, y_isField hM hS h (fun c => ⟨fun _ => ?_, fun e => absurd (by decide) e⟩) (fun c => ⟨fun e => absurd rfl e, fun _ => ?_⟩)⟩
    · rw [if_neg c] at q
      simp only [ts_LM.kd hM, ts_LM.o0 hM, ts_LM.k0 hM, ts_LM.l0 hM, ts_LM.o1 hM, ts_LM.k1 hM, ts_LM.l1 hM, ts_LM.o2 hM, ts_LM.k2 hM, ts_LM.l2 hM, ts_LM.o3 hM, ts_LM.k3 hM, ts_LM.l3 hM, ts_LM.o5 hM, ts_LM.k5 hM, ts_LM.l5 hM, ts_LM.o13 hM, ts_LM.k13 hM, ts_LM.l13 hM, ts_LM.o14 hM, ts_LM.k14 hM, ts_LM.l14 hM, ts_LM.o15 hM, ts_LM.k15 hM, ts_LM.l15 hM, ts_LM.o16 hM, ts_LM.k16 hM, ts_LM.l16 hM, ts_LM.o18 hM, ts_LM.k18 hM, ts_LM.l18 hM, ts_LM.o19 hM, ts_LM.k19 hM, ts_LM.l19 hM, ts_LM.o20 hM, ts_LM.k20 hM, ts_LM.l20 hM, ts_LM.o21 hM, ts_LM.k21 hM, ts_LM.l21 hM, ts_LM.o22 hM, ts_LM.k22 hM, ts_LM.l22 hM, ts_LM.o23 hM, ts_LM.k23 hM, ts_LM.l23 hM]
      rw [show (46 : Int32) = nI 46 from rfl, pk_mul, ts_cl (by omega)]
      refine ⟨by omega, by omega, c_copies (a := 0) (b := 46 * k) hM.k13 hM.k18 (by omega) (by rw [hM.l13]; omega) (by rw [hM.l18]; omega) (by rw [hM.l13]; omega) (by rw [hM.l18]; omega) ⟨by omega, trivial, ts_vin (by omega) (by omega), fun hi3 x3 => ?_⟩⟩
      have o3 : ∀ b, b ≠ 416 → b ≠ 415 → hi3 b = hi b := fun b y1 y2 => by rw [x3]; funext s; rw [ts_up_a y1, ts_cp_a y2]
      refine q hi3 ?_ (fun b hb => o3 b (by omega) (by omega))
      obtain ⟨h1', ⟨b1, b2, b3⟩, h3, h4, h5, h6, h7, h8⟩ := id h
      refine ⟨ts_MR.of hS.1.1.1 h1' (fun u _ => by rw [o3 411 (by omega) (by omega)]), ⟨by rw [o3 405 (by omega) (by omega)]; exact b1, b2, fun i A hA => ts_MR.of ((hS.2.1 A (List.mem_of_getElem? hA)).1.1) (b3 i A hA) (fun u _ => by rw [o3 414 (by omega) (by omega)])⟩, fun j hj => ?_, fun r hr => ?_, by rw [o3 405 (by omega) (by omega)]; exact h5, by rw [o3 405 (by omega) (by omega)]; exact h6, h7.of (by rw [o3 405 (by omega) (by omega)]) (o3 410 (by omega) (by omega)), h8.of (by rw [o3 405 (by omega) (by omega)]) (o3 420 (by omega) (by omega))⟩
      · show hi3 416 j = (if ts_ud S.I k S.A j 6 0 = 0 then 0 else 1) ∧ (ts_ud S.I k S.A j 6 0 ≠ 0 → ts_MR 415 (46 * j) (ts_ud S.I k S.A j) hi3)
        by_cases e : j = k
        · rw [e, ts_ud_eq, if_neg c, x3, ts_up_eq]
          refine ⟨rfl, fun _ => ?_⟩
          rw [← x3]
          refine ts_MR.of hc (ts_MR.cp (t := 415) (b := 46 * k) hc h.1) (fun u _ => ?_)
          rw [x3, ts_up_a (by omega)]
        · rw [ts_ud_ne e]
          refine ⟨by rw [x3, ts_up_s e, ts_cp_a (by omega)]; exact (h3 j hj).1, fun hn => ts_MR.of ((hS.2.2.2.1 j hj).1.1) ((h3 j hj).2 hn) (fun u hu => ?_)⟩
          rw [x3, ts_up_a (by omega)]
          unfold ts_cp
          rw [if_neg (by omega)]
      · rw [o3 406 (by omega) (by omega), o3 407 (by omega) (by omega), o3 408 (by omega) (by omega)]
        exact h4 r hr
    · rw [if_pos c] at q
      exact q.st h
  · rw [if_neg n1] at q
    exact q.st h
theorem v_image {S : ts_S} {a1 : Int32} (hS : ts_SV S) : ts_SV (ts_s_image S a1).2 := by
  unfold ts_s_image
  by_cases h1 : 0 ≤ a1 ∧ a1 ≤ 1
  · rw [if_pos h1]
    by_cases c : S.A 6 0 = 0
    · rw [if_pos c]; exact hS
    · rw [if_neg c]
      obtain ⟨k, _, hk1, rfl⟩ := ts_rg (a := 0) (b := 1) (by omega) h1.1 h1.2 (by omega)
      rw [ts_cl (by omega)]
      obtain ⟨x1, x2, x3, x4, x5⟩ := hS
      refine ⟨x1, x2, x3, fun j hj => ?_, x5⟩
      show ts_va (ts_ud S.I k S.A j)
      by_cases e : j = k
      · rw [e, ts_ud_eq]; exact x1
      · rw [ts_ud_ne e]; exact x4 j hj
  · rw [if_neg h1]; exact hS
def ts_s_restore (S : ts_S) (a1 : Int32) : Int32 × ts_S :=
  if 0 ≤ a1 ∧ a1 ≤ 1 then if S.I a1.toNatClampNeg 6 0 = 0 then (-1000002, S) else (1, S.setF (S.I a1.toNatClampNeg) []) else (-1000001, S)
theorem x_restore {d : Nat} {g : ts_G} {S : ts_S} {a1 : Int32} {hi : ts_I} {hk : ts_K} {Q : Int32 → ts_I → ts_K → Prop} (hX : ts_LX g) (hS : ts_SV S) (h : ts_XI S hi hk) (q : ts_QX (ts_s_restore S a1) hi Q) : ts_E0 (d + 25) mX11_restore [.ref 1, .int a1] g hi hk (ts_qi Q) := by
  refine ts_E0.of plX11_restore rfl (Nat.le_of_ble_eq_true rfl) ?_
  refine wX11_restore_0 ?_
  unfold ts_s_restore at q
  refine c_outside (fun h1 => ⟨fun _ => ?_, fun e => absurd rfl e⟩) (fun n1 => ⟨fun e => absurd e (by decide), fun _ => ?_⟩)
  · rw [if_pos h1] at q
    obtain ⟨k, _, hk1, rfl⟩ := ts_rg (a := 0) (b := 1) (by omega) h1.1 h1.2 (by omega)
    rw [ts_cl (by omega)] at q
    obtain ⟨f1, f2⟩ := hX.img k (by omega)
    have hv := hS.2.2.2.1 k (by omega)
    have hc := hv.1.1
    have hI := h.2.2.1 k (by omega)
    simp only [ts_LX.s0 hX, ts_LX.s1 hX, ts_LX.s2 hX, ts_LX.s3 hX, ts_LX.s4 hX, ts_LX.s5 hX, ts_LX.s6 hX, ts_LX.s7 hX, ts_LX.s8 hX, ts_LX.s9 hX, ts_LX.s10 hX, ts_LX.s11 hX, ts_LX.s12 hX, ts_LX.s13 hX, ts_LX.s14 hX, ts_LX.s15 hX, ts_LX.s16 hX, ts_LX.s17 hX, ts_LX.s18 hX, ts_LX.s19 hX, ts_LX.s20 hX, ts_LX.s21 hX, ts_LX.s22 hX, ts_LX.s23 hX, ts_LX.s24 hX, ts_LX.s25 hX, ts_LX.s26 hX, ts_LX.s27 hX, ts_LX.s28 hX, ts_LX.s29 hX, ts_LX.s30 hX, ts_LX.s31 hX, ts_LX.s32 hX, ts_LX.s33 hX, ts_LX.s34 hX, ts_LX.s35 hX, ts_LX.s36 hX, ts_LX.s37 hX, ts_LX.s38 hX]
    rw [ts_cl (by omega), f1, hI.1, ts_l0, ts_ne (by omega) (by omega)]
    refine ⟨trivial, by omega, trivial, ts_vin (by omega) (by omega), by omega, f2.kd, fun c => ?_, fun c => ?_⟩
    · rw [if_neg c] at q
      have hK := h.fk (j := 24 + k) (by omega)
      rw [show 31 + 10 * (24 + k) = 271 + 10 * k by omega] at hK
      refine ⟨by omega, hX.now.kd, c_become hX.kl hX.now f2 (by omega) hI hK hc (fun hi2 hk2 hR hK2 ho hok2 => fun hi3 x3 => ?_)⟩
      obtain ⟨p, p1, p2, p3, p4⟩ := h.2.1
      have o3 : ∀ b, b ≠ 1 → hi3 b = hi2 b := fun b hb => by rw [x3]; funext s; rw [ts_up_a hb]
      refine q hi3 hk2 (h.both (hR.of (fun b y1 y2 => o3 b (by omega)) rfl) hK2 ⟨p, p1, by rw [x3, ts_up_s (by omega), ho 1 (by omega)]; exact p2, by rw [x3, ts_up_eq]; rfl, fun i A hA => by simp at hA⟩ (fun b y1 y2 => by rw [o3 b y1, ho b y2]) (fun s s1 s2 => by rw [x3, ts_up_s s2, ho 1 (by omega)]) (fun b hb => hok2 b (by omega))) (fun b hb => by rw [o3 b (by omega), ho b (by omega)])
    · rw [if_pos (Decidable.not_not.mp c)] at q
      exact q.st h
  · rw [if_neg n1] at q
    exact q.st h
theorem y_restore {d : Nat} {g : ts_G} {S : ts_S} {a1 : Int32} {hi : ts_I} {hk : ts_K} {Q : Int32 → ts_I → ts_K → Prop} (hM : ts_LM g) (hS : ts_SV S) (h : ts_MI S hi) (q : ts_QM (ts_s_restore S a1) hi hk Q) : ts_E0 (d + 25) mX12_restore [.ref 405, .int a1] g hi hk (ts_qi Q) := by
  refine ts_E0.of plX12_restore rfl (Nat.le_of_ble_eq_true rfl) ?_
  refine wX12_restore_0 ?_
  unfold ts_s_restore at q
  refine c_inq (fun h1 => ⟨fun _ => ?_, fun e => absurd (by decide) e⟩) (fun n1 => ⟨fun e => absurd rfl e, fun _ => ?_⟩)
  · rw [if_pos h1] at q
    obtain ⟨k, _, hk1, rfl⟩ := ts_rg (a := 0) (b := 1) (by omega) h1.1 h1.2 (by omega)
    rw [ts_cl (by omega)] at q
    have hv := hS.2.2.2.1 k (by omega)
    have hc := hv.1.1
    obtain ⟨g1, g2⟩ := h.2.2.1 k (by omega)
    simp only [ts_LM.kd hM, ts_LM.o0 hM, ts_LM.k0 hM, ts_LM.l0 hM, ts_LM.o1 hM, ts_LM.k1 hM, ts_LM.l1 hM, ts_LM.o2 hM, ts_LM.k2 hM, ts_LM.l2 hM, ts_LM.o3 hM, ts_LM.k3 hM, ts_LM.l3 hM, ts_LM.o5 hM, ts_LM.k5 hM, ts_LM.l5 hM, ts_LM.o13 hM, ts_LM.k13 hM, ts_LM.l13 hM, ts_LM.o14 hM, ts_LM.k14 hM, ts_LM.l14 hM, ts_LM.o15 hM, ts_LM.k15 hM, ts_LM.l15 hM, ts_LM.o16 hM, ts_LM.k16 hM, ts_LM.l16 hM, ts_LM.o18 hM, ts_LM.k18 hM, ts_LM.l18 hM, ts_LM.o19 hM, ts_LM.k19 hM, ts_LM.l19 hM, ts_LM.o20 hM, ts_LM.k20 hM, ts_LM.l20 hM, ts_LM.o21 hM, ts_LM.k21 hM, ts_LM.l21 hM, ts_LM.o22 hM, ts_LM.k22 hM, ts_LM.l22 hM, ts_LM.o23 hM, ts_LM.k23 hM, ts_LM.l23 hM]
    rw [ts_cl (by omega), g1]
    refine ⟨trivial, by omega, trivial, ts_vin (by omega) (by omega), fun c => ?_, fun c => ?_⟩
    · have c2 : S.I k 6 0 ≠ 0 := fun e => by rw [if_pos e] at c; exact c rfl
      rw [if_neg c2] at q
      rw [show (46 : Int32) = nI 46 from rfl, pk_mul]
      refine ⟨by omega, by omega, c_copies (a := 46 * k) (b := 0) hM.k18 hM.k13 (by omega) (by rw [hM.l18]; omega) (by rw [hM.l13]; omega) (by rw [hM.l18]; omega) (by rw [hM.l13]; omega) (fun hi3 x3 => ?_)⟩
      have o3 : ∀ b, b ≠ 405 → b ≠ 411 → hi3 b = hi b := fun b y1 y2 => by rw [x3]; funext s; rw [ts_up_a y1, ts_cp_a y2]
      refine q hi3 (h.both hS (ts_MR.of hc (ts_MR.cp (t := 411) (b := 0) hc (g2 c2)) (fun u _ => by rw [x3, ts_up_a (by omega)])) ⟨by rw [x3, ts_up_eq]; rfl, by simp, fun i A hA => by simp at hA⟩ (fun b y1 y2 => o3 b y2 y1) (fun s hs => by rw [x3, ts_up_s hs, ts_cp_a (by omega)])) (fun b hb => o3 b (by omega) (by omega))
    · have c2 : S.I k 6 0 = 0 := by
        by_cases c2 : S.I k 6 0 = 0
        · exact c2
        · rw [if_neg c2] at c; exact absurd (by decide) c
      rw [if_pos c2] at q
      exact q.st h
  · rw [if_neg n1] at q
    exact q.st h
theorem v_restore {S : ts_S} {a1 : Int32} (hS : ts_SV S) : ts_SV (ts_s_restore S a1).2 := by
  unfold ts_s_restore
  by_cases h1 : 0 ≤ a1 ∧ a1 ≤ 1
  · rw [if_pos h1]
    by_cases c : S.I a1.toNatClampNeg 6 0 = 0
    · rw [if_pos c]; exact hS
    · rw [if_neg c]
      obtain ⟨k, _, hk1, rfl⟩ := ts_rg (a := 0) (b := 1) (by omega) h1.1 h1.2 (by omega)
      rw [ts_cl (by omega)]
      obtain ⟨x1, x2, x3, x4, x5⟩ := hS
      refine ⟨x4 k (by omega), fun A hA => by simp [ts_S.setF, ts_S.B] at hA, ?_, x4, x5⟩
      show ([] : List ts_A).length ≤ 24
      simp
  · rw [if_neg h1]; exact hS
