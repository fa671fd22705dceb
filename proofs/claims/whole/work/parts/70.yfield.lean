/-! the model's field: the law's part -/
theorem ts_MR_A0 {gr fr : Nat} {hi : ts_I} (h0 : hi 412 0 = nI gr) (h1 : hi 412 1 = nI fr) (h2 : hi 412 2 = 0) (h3 : hi 412 3 = 0) : ts_MR 412 0 (ts_A0 gr fr) hi := ⟨h0, h1, h2, h3, fun t ht => absurd ht (Nat.not_lt_zero t)⟩
theorem y_field {d : Nat} {g : ts_G} {S : ts_S} {hi : ts_I} {hk : ts_K} {Q : Int32 → ts_I → ts_K → Prop} (hM : ts_LM g) (hS : ts_SV S) (h : ts_MI S hi) (q : ts_QM (ts_s_field S) hi hk Q) : ts_E0 (d + 25) mX12_field [.ref 405] g hi hk (ts_qi Q) := by
  refine ts_E0.of plX12_field rfl (Nat.le_of_ble_eq_true rfl) ?_
  refine wX12_field_0 ?_
  have hl := hS.2.2.2.2.2.2.2.1
  have ec0 : (0 : Int32).toNatClampNeg = 0 := rfl
  have ec1 : (1 : Int32).toNatClampNeg = 1 := rfl
  have v0 : vp_in (0 : Int32) 46 := by rw [ts_l0]; exact ts_vin (by omega) (by omega)
  have v1 : vp_in (1 : Int32) 46 := by rw [ts_l1]; exact ts_vin (by omega) (by omega)
  have hlen := ts_w_len S.tp
  have q0 := q
  -- the first turnip must be one
  have P132 : ∀ s0 hi', ts_MQ S.tp S.fa (ts_w5 S.tp) hi' → ((ts_w5 S.tp).1 = 0 → ts_MR 412 0 (ts_A0 (ts_nv S.tp (ts_w1 S.tp).2) (ts_nv S.tp (ts_w3 S.tp).2)) hi') → ts_MT hi hi' → ((ts_w5 S.tp).1 = 0 → if ts_kd (ts_bt S.tp (ts_w5 S.tp).2) = 0 then s0 = 0 else s0 = 1) → ts_J0 (d + 19 + 6) mX12_field (ts_qi Q) g 132 [(0, .ref 405)] [.int s0, .ref 405] hi' hk := by
    intro s0 hi' h' hR hF hs
    have erd : ts_rd S.tp = if (ts_w5 S.tp).1 ≠ 0 then (ts_w5 S.tp, ts_A0 0 0) else ts_lp S.tp 90 (ts_t7 S.tp 0 (ts_w5 S.tp).2) (ts_tA S.tp (ts_w5 S.tp).2 (ts_A0 (ts_nv S.tp (ts_w1 S.tp).2) (ts_nv S.tp (ts_w3 S.tp).2))) := rfl
    refine wX12_field_132 ⟨hM.kd, ?_⟩
    by_cases hw : (ts_w5 S.tp).1 ≠ 0
    · rw [if_pos hw] at erd
      refine c_must_x hM hl.1 h' (Or.inl hw) (c_mloop hM hS h q0 0 (ts_w5 S.tp) (ts_A0 0 0) hi' h' (fun e => absurd e hw) hF (Or.inl hw) (by rw [erd, ts_lp_st (Or.inl hw)]) (fun e => absurd e hw))
    · rw [if_neg hw] at erd
      replace hw := Decidable.not_not.mp hw
      have hs' := hs hw
      obtain ⟨n1, n2, n3⟩ := ts_w5_w hw
      have hA := ts_oA0 n2 n3
      have hR' := hR hw
      by_cases c : ts_kd (ts_bt S.tp (ts_w5 S.tp).2) = 0
      · rw [if_pos c] at hs'
        rw [hs']
        rw [ts_t7_0 c, ts_lp_st (Or.inl (by simp))] at erd
        rw [ts_p0 hw] at h'
        exact c_must_0 hM hl.1 h' (fun hi2 h2 u2 => c_mloop hM hS h q0 0 (1, (ts_w5 S.tp).2) (ts_A0 0 0) hi2 h2 (fun e => absurd e (by simp)) (hF.trans u2.mt) (Or.inl (by simp)) (by rw [erd, ts_lp_st (Or.inl (by simp))]) (fun e => absurd e (by simp)))
      · rw [if_neg c] at hs'
        have hlt : (ts_w5 S.tp).2 < S.tp.length := ts_bt_len (by have := ts_kd_in c; omega)
        have e1 : ts_lp S.tp 91 (ts_w5 S.tp) (ts_A0 (ts_nv S.tp (ts_w1 S.tp).2) (ts_nv S.tp (ts_w3 S.tp).2)) = ts_rd S.tp := by
          rw [erd, ts_lp, if_neg (fun x => by rcases x with x | x; exact x hw; exact absurd hlt (Nat.not_lt.mpr x))]
          rfl
        refine c_must_x hM hl.1 h' (Or.inr (by rw [hs']; decide)) (c_mloop hM hS h q0 91 (ts_w5 S.tp) _ hi' h' (fun _ => ⟨hR', hA⟩) hF (Or.inr (by omega)) (by rw [e1]) (fun _ => by rw [e1]))
  have P103 : ∀ s0 hi', ts_MQ S.tp S.fa (ts_w4 S.tp) hi' → ((ts_w5 S.tp).1 = 0 → ts_MR 412 0 (ts_A0 (ts_nv S.tp (ts_w1 S.tp).2) (ts_nv S.tp (ts_w3 S.tp).2)) hi') → ts_MT hi hi' → ((ts_w4 S.tp).1 = 0 → if ts_bt S.tp (ts_w4 S.tp).2 = 59 then s0 = 1 else s0 = 0) → ts_J0 (d + 19 + 6) mX12_field (ts_qi Q) g 103 [(0, .ref 405)] [.int s0, .ref 405] hi' hk := by
    intro s0 hi' h' hR hF hs
    refine wX12_field_103 ⟨hM.kd, c_takes_s (c := 59) hM hl.1 hl.2 (by omega) hs h' (fun v hi2 h2 u2 => ⟨hM.kd, fun c => ?_, fun c => ?_⟩)⟩
    · refine P132 0 hi2 h2 (fun e => ts_MR.of (Nat.zero_le _) (hR e) (fun u _ => by rw [u2.1 412 (by omega)])) (hF.trans u2.mt) (fun e => ?_)
      have i1 := h2.is1 e
      rw [i1] at c
      rw [if_pos]
      by_cases e2 : ts_kd (ts_bt S.tp (ts_w5 S.tp).2) = 0
      · exact e2
      · exact absurd (ts_kd_in e2) c
    · by_cases e : (ts_w5 S.tp).1 = 0
      · have i1 := h2.is1 e
        have hlet := h2.let e
        rw [i1] at c
        have c' := Decidable.not_not.mp c
        rw [(hlet c').1]
        have hx := ts_bt_le hl.2 (ts_w5 S.tp).2
        have hk5 := ts_kd_le (ts_bt S.tp (ts_w5 S.tp).2)
        refine c_kindOf hx ?_
        change ((nI (ts_kd (ts_bt S.tp (ts_w5 S.tp).2)) ≤ 0) → _) ∧ (¬ (nI (ts_kd (ts_bt S.tp (ts_w5 S.tp).2)) ≤ 0) → _)
        have ele : (nI (ts_kd (ts_bt S.tp (ts_w5 S.tp).2)) ≤ 0) = (ts_kd (ts_bt S.tp (ts_w5 S.tp).2) ≤ 0) := by rw [ts_l0, ts_le (by omega) (by omega)]
        rw [ele]
        refine ⟨fun c2 => P132 0 hi2 h2 (fun e => ts_MR.of (Nat.zero_le _) (hR e) (fun u _ => by rw [u2.1 412 (by omega)])) (hF.trans u2.mt) (fun _ => ?_), fun c2 => P132 1 hi2 h2 (fun e => ts_MR.of (Nat.zero_le _) (hR e) (fun u _ => by rw [u2.1 412 (by omega)])) (hF.trans u2.mt) (fun _ => ?_)⟩
        · rw [if_pos (by omega)]
        · rw [if_neg (by omega)]
      · exact c_kindOf_x (fun v => ⟨fun _ => P132 0 hi2 h2 (fun x => absurd x e) (hF.trans u2.mt) (fun x => absurd x e), fun _ => P132 1 hi2 h2 (fun x => absurd x e) (hF.trans u2.mt) (fun x => absurd x e)⟩)
  have P58 : ∀ s0 hi', ts_MQ S.tp S.fa (0, 0) hi' → (∀ u, u < 46 → hi' 412 u = 0) → ts_MT hi hi' → (if ts_bt S.tp 0 = 103 then s0 = 1 else s0 = 0) → ts_J0 (d + 19 + 6) mX12_field (ts_qi Q) g 58 [(0, .ref 405)] [.int s0, .ref 405] hi' hk := by
    intro s0 hi' h' hZ hF hs
    refine wX12_field_58 ?_
    refine ⟨hM.kd, c_takes_s (c := 103) hM hl.1 hl.2 (by omega) (fun _ => hs) h' (fun v hi1 h1 u1 => ⟨hM.kd, by rw [hM.o14]; omega, c_mfigure (lo := 1) (up := 9) hM hl.1 hl.2 (by omega) (by omega) h1 (fun v9 hi7 h7 u7 e7 => ?_)⟩)⟩
    simp only [ts_LM.kd hM, ts_LM.o0 hM, ts_LM.k0 hM, ts_LM.l0 hM, ts_LM.o1 hM, ts_LM.k1 hM, ts_LM.l1 hM, ts_LM.o2 hM, ts_LM.k2 hM, ts_LM.l2 hM, ts_LM.o3 hM, ts_LM.k3 hM, ts_LM.l3 hM, ts_LM.o5 hM, ts_LM.k5 hM, ts_LM.l5 hM, ts_LM.o13 hM, ts_LM.k13 hM, ts_LM.l13 hM, ts_LM.o14 hM, ts_LM.k14 hM, ts_LM.l14 hM, ts_LM.o15 hM, ts_LM.k15 hM, ts_LM.l15 hM, ts_LM.o16 hM, ts_LM.k16 hM, ts_LM.l16 hM, ts_LM.o18 hM, ts_LM.k18 hM, ts_LM.l18 hM, ts_LM.o19 hM, ts_LM.k19 hM, ts_LM.l19 hM, ts_LM.o20 hM, ts_LM.k20 hM, ts_LM.l20 hM, ts_LM.o21 hM, ts_LM.k21 hM, ts_LM.l21 hM, ts_LM.o22 hM, ts_LM.k22 hM, ts_LM.l22 hM, ts_LM.o23 hM, ts_LM.k23 hM, ts_LM.l23 hM]
    refine ⟨trivial, v0, fun hi12 x12 => ?_⟩
    rw [ec0] at x12
    have o12 : ∀ b, b ≠ 412 → hi12 b = hi7 b := fun b hb => by rw [x12]; funext s; rw [ts_up_a hb]
    refine c_mfollows (lo := 0) (up := 15) hM hl.1 hl.2 (by omega) (by omega) (h7.of (o12 405 (by omega)) (o12 410 (by omega))) (fun v15 hi13 h13 u13 e13 => ?_)
    refine ⟨v1, fun hi17 x17 => ?_⟩
    rw [ec1] at x17
    have o17 : ∀ b, b ≠ 412 → hi17 b = hi13 b := fun b hb => by rw [x17]; funext s; rw [ts_up_a hb]
    have h17 : ts_MQ S.tp S.fa (ts_w4 S.tp) hi17 := h13.of (o17 405 (by omega)) (o17 410 (by omega))
    have F17 : ts_MT hi hi17 := ⟨fun b b1 b2 => by rw [o17 b b2, u13.1 b b1, o12 b b2, u7.1 b b1, u1.1 b b1, hF.1 b b1 b2], fun s hs => by rw [o17 405 (by omega), u13.2 s hs, o12 405 (by omega), u7.2 s hs, u1.2 s hs, hF.2 s hs]⟩
    have z17 : ∀ u, u < 46 → u ≠ 0 → u ≠ 1 → hi17 412 u = 0 := fun u u0 u2 u3 => by rw [x17, ts_up_s u3, u13.1 412 (by omega), x12, ts_up_s u2, u7.1 412 (by omega), u1.1 412 (by omega), hZ u u0]
    have R17 : (ts_w5 S.tp).1 = 0 → ts_MR 412 0 (ts_A0 (ts_nv S.tp (ts_w1 S.tp).2) (ts_nv S.tp (ts_w3 S.tp).2)) hi17 := fun e => by
      have f4 := ts_sn_w e
      have f3 := ts_nu_w f4.1
      have f2 := ts_sn_w f3.1
      refine ts_MR_A0 ?_ ?_ (z17 2 (by omega) (by omega) (by omega)) (z17 3 (by omega) (by omega) (by omega))
      · rw [x17, ts_up_s (by omega), u13.1 412 (by omega), x12, ts_up_eq]
        exact e7 f2.1
      · rw [x17, ts_up_eq]
        exact e13 f4.1
    refine ⟨fun c => P103 0 hi17 h17 R17 F17 (fun e => ?_), fun c => P103 1 hi17 h17 R17 F17 (fun e => ?_)⟩
    · rw [h17.is4 e] at c
      rw [if_neg c]
    · rw [h17.is4 e] at c
      rw [if_pos (Decidable.not_not.mp c)]
  -- the draft is emptied
  have L : ∀ n t hi', t + n = 46 → (∀ b, b ≠ 412 → hi' b = hi b) → (∀ u, u < t → hi' 412 u = 0) → ts_J0 (d + 19 + 6) mX12_field (ts_qi Q) g 2 [(0, .ref 405), (1, .int (nI t))] [] hi' hk := by
    intro n
    induction n with
    | zero =>
      intro t hi' htn ho hZ
      refine wX12_field_2 ?_
      rw [show (46 : Int32) = nI 46 from rfl, ts_le (by omega) (by omega)]
      refine ⟨fun _ => ⟨hM.kd, fun hi3 x3 hi4 x4 => ?_⟩, fun c => absurd (by omega) c⟩
      have hT4 : ts_Li S.tp 405 6 410 hi4 := h.2.2.2.2.2.2.1.of (by rw [x4, ts_up_s (by omega), x3, ts_up_s (by omega), ho 405 (by omega)]) (by rw [x4, x3]; funext s; rw [ts_up_a (by omega), ts_up_a (by omega), ho 410 (by omega)])
      refine c_advances (p := 0) hM hT4 hl.1 hl.2 (Nat.zero_le _) (by rw [x4, ts_up_s (by omega), x3, ts_up_eq]; rfl) (fun hi5 T5 V5 => ?_)
      have h5 : ts_MQ S.tp S.fa (0, 0) hi5 := ⟨V5.li hT4, Nat.zero_le _, fun _ => ⟨by rw [V5.2 8 (by omega) (by omega) (by omega) (by omega), x4, ts_up_eq], by rw [V5.2 7 (by omega) (by omega) (by omega) (by omega), x4, ts_up_s (by omega), x3, ts_up_s (by omega), ho 405 (by omega)]; exact h.2.2.2.2.2.1, T5⟩, fun e => absurd rfl e⟩
      have F5 : ts_MT hi hi5 := ⟨fun b b1 b2 => by rw [V5.1 b b1, x4, x3]; funext s; rw [ts_up_a b1, ts_up_a b1, ho b b2], fun s hs => by rw [V5.2 s (by omega) (by omega) (by omega) (by omega), x4, ts_up_s (by omega), x3, ts_up_s (by omega), ho 405 (by omega)]⟩
      have Z5 : ∀ u, u < 46 → hi5 412 u = 0 := fun u hu => by rw [V5.1 412 (by omega), x4, ts_up_a (by omega), x3, ts_up_a (by omega)]; exact hZ u (by omega)
      have i1 := h5.is1 rfl
      have hlet := h5.let rfl
      rw [i1]
      have hx := ts_bt_le hl.2 0
      refine ⟨fun c => P58 0 hi5 h5 Z5 F5 ?_, fun c => ?_⟩
      · rw [if_neg (fun e => c (by show 97 ≤ ts_bt S.tp 0 ∧ ts_bt S.tp 0 ≤ 122; omega))]
      · rw [(hlet (Decidable.not_not.mp c)).1, show (103 : Int32) = nI 103 from rfl, ts_ne (by omega) (by omega)]
        refine ⟨fun c2 => P58 0 hi5 h5 Z5 F5 ?_, fun c2 => P58 1 hi5 h5 Z5 F5 ?_⟩
        · rw [if_neg c2]
        · rw [if_pos (Decidable.not_not.mp c2)]
    | succ n ih =>
      intro t hi' htn ho hZ
      refine wX12_field_2 ?_
      simp only [ts_LM.kd hM, ts_LM.o0 hM, ts_LM.k0 hM, ts_LM.l0 hM, ts_LM.o1 hM, ts_LM.k1 hM, ts_LM.l1 hM, ts_LM.o2 hM, ts_LM.k2 hM, ts_LM.l2 hM, ts_LM.o3 hM, ts_LM.k3 hM, ts_LM.l3 hM, ts_LM.o5 hM, ts_LM.k5 hM, ts_LM.l5 hM, ts_LM.o13 hM, ts_LM.k13 hM, ts_LM.l13 hM, ts_LM.o14 hM, ts_LM.k14 hM, ts_LM.l14 hM, ts_LM.o15 hM, ts_LM.k15 hM, ts_LM.l15 hM, ts_LM.o16 hM, ts_LM.k16 hM, ts_LM.l16 hM, ts_LM.o18 hM, ts_LM.k18 hM, ts_LM.l18 hM, ts_LM.o19 hM, ts_LM.k19 hM, ts_LM.l19 hM, ts_LM.o20 hM, ts_LM.k20 hM, ts_LM.l20 hM, ts_LM.o21 hM, ts_LM.k21 hM, ts_LM.l21 hM, ts_LM.o22 hM, ts_LM.k22 hM, ts_LM.l22 hM, ts_LM.o23 hM, ts_LM.k23 hM, ts_LM.l23 hM]
      rw [show (46 : Int32) = nI 46 from rfl, ts_le (by omega) (by omega), ts_cl (by omega), ts_l1, nI_add]
      refine ⟨fun c => absurd c (by omega), fun _ => ⟨trivial, by omega, trivial, ts_vin (by omega) (by omega), fun hi13 x13 => ih (t + 1) hi13 (by omega) (fun b hb => by rw [x13]; funext s; rw [ts_up_a hb, ho b hb]) (fun u hu => ?_)⟩⟩
      by_cases e : u = t
      · rw [x13, e, ts_up_eq]
      · rw [x13, ts_up_s e]
        exact hZ u (by omega)
  exact L 46 0 hi (by omega) (fun _ _ => rfl) (fun u hu => by omega)
