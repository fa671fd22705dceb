/-! the model reads a turnip, what it must find -/
theorem ts_MQ.of {tp : List Nat} {fa : Nat} {w : Nat × Nat} {hi hi' : ts_I} (h : ts_MQ tp fa w hi) (e1 : hi' 405 = hi 405) (e2 : hi' 410 = hi 410) : ts_MQ tp fa w hi' := by
  obtain ⟨h1, h2, h3, h4⟩ := h
  unfold ts_TO at h3
  rw [← e1] at h3 h4
  exact ⟨h1.of (by rw [e1]) e2, h2, h3, h4⟩
theorem ts_MQ.tok {tp : List Nat} {fa : Nat} {w : Nat × Nat} {hi : ts_I} (h : ts_MQ tp fa w hi) (hw : w.1 = 0) : hi 405 11 = nI (ts_tt tp w.2) := (h.2.2.1 hw).2.2.2.1
theorem ts_MQ.is4 {tp : List Nat} {fa : Nat} {w : Nat × Nat} {hi : ts_I} (h : ts_MQ tp fa w hi) (hw : w.1 = 0) : (hi 405 11 ≠ 4) = (ts_bt tp w.2 ≠ 59) := by
  have := ts_tt_le tp w.2
  have z := (@ts_tt3 tp w.2).2.1
  rw [h.tok hw, ts_l4, ts_ne (by omega) (by omega)]
  exact propext ⟨fun a b => a (z.mpr b), fun a b => a (z.mp b)⟩
theorem ts_MQ.is1 {tp : List Nat} {fa : Nat} {w : Nat × Nat} {hi : ts_I} (h : ts_MQ tp fa w hi) (hw : w.1 = 0) : (hi 405 11 ≠ 1) = ¬ (97 ≤ ts_bt tp w.2 ∧ ts_bt tp w.2 ≤ 122) := by
  have := ts_tt_le tp w.2
  have z := (@ts_tt3 tp w.2).2.2.1
  rw [h.tok hw, ts_l1, ts_ne (by omega) (by omega)]
  exact propext ⟨fun a b => a (z.mpr b), fun a b => a (z.mp b)⟩
theorem ts_MQ.is0 {tp : List Nat} {fa : Nat} {w : Nat × Nat} {hi : ts_I} (h : ts_MQ tp fa w hi) (hw : w.1 = 0) : (hi 405 11 ≠ 0) = (ts_bt tp w.2 ≠ 256) := by
  have := ts_tt_le tp w.2
  have z := (@ts_tt3 tp w.2).2.2.2
  rw [h.tok hw, ts_l0, ts_ne (by omega) (by omega)]
  exact propext ⟨fun a b => a (z.mpr b), fun a b => a (z.mp b)⟩
theorem ts_MQ.let {tp : List Nat} {fa : Nat} {w : Nat × Nat} {hi : ts_I} (h : ts_MQ tp fa w hi) (hw : w.1 = 0) (hc : 97 ≤ ts_bt tp w.2 ∧ ts_bt tp w.2 ≤ 122) : hi 405 12 = nI (ts_bt tp w.2) ∧ hi 405 9 = nI (w.2 + 1) := by
  have t := (h.2.2.1 hw).2.2.2.2
  have z := (@ts_tt3 tp w.2).2.2.1.mpr hc
  exact ⟨t.2.1 z, t.2.2 (Or.inl z)⟩
def ts_MT (hi hi' : ts_I) : Prop := (∀ b, b ≠ 405 → b ≠ 412 → hi' b = hi b) ∧ ∀ s, (s < 7 ∨ 12 < s) → hi' 405 s = hi 405 s
theorem ts_MU.mt {hi hi' : ts_I} (h : ts_MU hi hi') : ts_MT hi hi' := ⟨fun b b1 _ => h.1 b b1, h.2⟩
theorem ts_MT.trans {hi hi' hi'' : ts_I} (h1 : ts_MT hi hi') (h2 : ts_MT hi' hi'') : ts_MT hi hi'' := ⟨fun b b1 b2 => (h2.1 b b1 b2).trans (h1.1 b b1 b2), fun s hs => (h2.2 s hs).trans (h1.2 s hs)⟩
theorem c_kindOf_x {d : Nat} {x : Int32} {g : ts_G} {hi : ts_I} {hk : ts_K} {Q : Int32 → ts_I → ts_K → Prop} (q : ∀ v, Q v hi hk) : ts_E0 d mX12_kindOf [.int x] g hi hk (ts_qi Q) := by
  refine ts_E0.of plX12_kindOf rfl (Nat.le_of_ble_eq_true rfl) ?_
  exact wX12_kindOf_0 ⟨fun _ => ⟨fun _ => ⟨fun _ => ⟨fun _ => ⟨fun _ => q _, fun _ => q _⟩, fun _ => q _⟩, fun _ => q _⟩, fun _ => q _⟩, fun _ => q _⟩
theorem c_must_x {d fa : Nat} {tp : List Nat} {w : Nat × Nat} {a : Int32} {g : ts_G} {hi : ts_I} {hk : ts_K} {Q : ts_I → ts_K → Prop} (hM : ts_LM g) (hl : tp.length ≤ 90) (h : ts_MQ tp fa w hi) (hw : w.1 ≠ 0 ∨ a ≠ 0) (q : Q hi hk) : ts_E0 (d + 3) mX12_must [.ref 405, .int a] g hi hk (ts_qv Q) := by
  refine ts_E0.of plX12_must rfl (Nat.le_of_ble_eq_true rfl) ?_
  refine wX12_must_0 ⟨hM.kd, c_isWell hM hl h (fun e => ⟨fun x => absurd x (by decide), fun _ => ⟨fun _ => q, fun x => ?_⟩⟩) (fun e => ⟨fun _ => q, fun x => absurd rfl x⟩)⟩
  rcases hw with hw | hw
  · exact absurd e hw
  · exact absurd hw x
theorem c_must_0 {d fa p : Nat} {tp : List Nat} {g : ts_G} {hi : ts_I} {hk : ts_K} {Q : ts_I → ts_K → Prop} (hM : ts_LM g) (hl : tp.length ≤ 90) (h : ts_MQ tp fa (0, p) hi) (q : ∀ hi', ts_MQ tp fa (1, p) hi' → ts_MU hi hi' → Q hi' hk) : ts_E0 (d + 3) mX12_must [.ref 405, .int 0] g hi hk (ts_qv Q) := by
  refine ts_E0.of plX12_must rfl (Nat.le_of_ble_eq_true rfl) ?_
  exact wX12_must_0 ⟨hM.kd, c_isWell hM hl h (fun e => ⟨fun x => absurd x (by decide), fun _ => ⟨fun x => absurd rfl x, fun _ => c_takes_n (f := 1) hM hl (by omega) h (fun hi' h1 h2 => q hi' h1 h2)⟩⟩) (fun e => absurd rfl e)⟩
theorem c_readsTurnip {d fa p : Nat} {A : ts_A} {tp : List Nat} {g : ts_G} {hi : ts_I} {hk : ts_K} {Q : ts_I → ts_K → Prop} (hM : ts_LM g) (hl : tp.length ≤ 90) (hb : ∀ b, b ∈ tp → b ≤ 255) (hA : ts_oA A) (hR : ts_MR 412 0 A hi) (h : ts_MQ tp fa (0, p) hi) (hkd : ts_kd (ts_bt tp p) ≠ 0)
    (q : ∀ hi', ts_MQ tp fa (ts_t7 tp (A 6 0) p) hi' → ts_MR 412 0 (ts_tA tp p A) hi' → ts_MT hi hi' → Q hi' hk) : ts_E0 (d + 5) mX12_readsTurnip [.ref 405] g hi hk (ts_qv Q) := by
  refine ts_E0.of plX12_readsTurnip rfl (Nat.le_of_ble_eq_true rfl) ?_
  have hn := hA.1
  have hlt := ts_kd_in hkd
  obtain ⟨t12, t9⟩ := h.let rfl hlt
  replace t12 : hi 405 12 = nI (ts_bt tp p) := t12
  replace t9 : hi 405 9 = nI (p + 1) := t9
  have hpl := ts_bt_len (tp := tp) (i := p) (by omega)
  have r2 : ∀ hi', ts_MU hi hi' → hi' 412 2 = nI (A 6 0) := fun hi' u => by rw [u.1 412 (by omega)]; exact hR.2.2.1
  have ec2 : (2 : Int32).toNatClampNeg = 2 := rfl
  have P96 : ∀ l2 l3 l4 l5 s0 hi', ts_MQ tp fa (ts_t6 tp (A 6 0) p) hi' → ts_MU hi hi' → ((ts_t7 tp (A 6 0) p).1 = 0 → l2 = nI (4 + 6 * A 6 0) ∧ l3 = nI (ts_nv tp (ts_t1 tp (A 6 0) p).2) ∧ l4 = nI (ts_nv tp (ts_t3 tp (A 6 0) p).2) ∧ l5 = nI (ts_nv tp (ts_t5 tp (A 6 0) p).2)) → ((ts_t6 tp (A 6 0) p).1 = 0 → if ts_bt tp (ts_t6 tp (A 6 0) p).2 = 59 then s0 = 1 else s0 = 0) → ts_J0 (d + 5) mX12_readsTurnip (ts_qv Q) g 96 [(0, .ref 405), (1, .int (nI (ts_kd (ts_bt tp p)))), (2, .int l2), (3, .int l3), (4, .int l4), (5, .int l5)] [.int s0, .ref 405] hi' hk := by
    intro l2 l3 l4 l5 s0 hi' h' u' hv hs
    refine wX12_readsTurnip_96 ?_
    simp only [ts_LM.kd hM, ts_LM.o0 hM, ts_LM.k0 hM, ts_LM.l0 hM, ts_LM.o1 hM, ts_LM.k1 hM, ts_LM.l1 hM, ts_LM.o2 hM, ts_LM.k2 hM, ts_LM.l2 hM, ts_LM.o3 hM, ts_LM.k3 hM, ts_LM.l3 hM, ts_LM.o5 hM, ts_LM.k5 hM, ts_LM.l5 hM, ts_LM.o13 hM, ts_LM.k13 hM, ts_LM.l13 hM, ts_LM.o14 hM, ts_LM.k14 hM, ts_LM.l14 hM, ts_LM.o15 hM, ts_LM.k15 hM, ts_LM.l15 hM, ts_LM.o16 hM, ts_LM.k16 hM, ts_LM.l16 hM, ts_LM.o18 hM, ts_LM.k18 hM, ts_LM.l18 hM, ts_LM.o19 hM, ts_LM.k19 hM, ts_LM.l19 hM, ts_LM.o20 hM, ts_LM.k20 hM, ts_LM.l20 hM, ts_LM.o21 hM, ts_LM.k21 hM, ts_LM.l21 hM, ts_LM.o22 hM, ts_LM.k22 hM, ts_LM.l22 hM, ts_LM.o23 hM, ts_LM.k23 hM, ts_LM.l23 hM]
    refine ⟨trivial, c_takes_s (c := 59) hM hl hb (by omega) hs h' (fun v hi2 h2 u2 => ⟨trivial, c_isWell hM hl h2 (fun hw => ⟨fun e => absurd e (by decide), fun _ => ?_⟩) (fun hw => ⟨fun _ => ?_, fun e => absurd rfl e⟩)⟩)⟩
    · have hw' : (ts_t7 tp (A 6 0) p).1 = 0 := hw
      obtain ⟨rfl, rfl, rfl, rfl⟩ := hv hw'
      have hn7 := (ts_t7_w hw').2.1
      have etA : ts_tA tp p A = ts_aT A (ts_kd (ts_bt tp p)) (ts_nv tp (ts_t1 tp (A 6 0) p).2) (ts_nv tp (ts_t3 tp (A 6 0) p).2) (ts_nv tp (ts_t5 tp (A 6 0) p).2) := if_pos hw'
      rw [etA] at q
      have U := u'.trans u2
      have hr : ∀ b, b ≠ 405 → hi2 b = hi b := U.1
      have c0 : (nI (4 + 6 * A 6 0)).toNatClampNeg = 4 + 6 * A 6 0 := ts_cl (by omega)
      have c1 : (nI (4 + 6 * A 6 0) + 1).toNatClampNeg = 4 + 6 * A 6 0 + 1 := by rw [ts_l1, nI_add, ts_cl (by omega)]
      have c2 : (nI (4 + 6 * A 6 0) + 2).toNatClampNeg = 4 + 6 * A 6 0 + 2 := by rw [ts_l2, nI_add, ts_cl (by omega)]
      have c3 : (nI (4 + 6 * A 6 0) + 3).toNatClampNeg = 4 + 6 * A 6 0 + 3 := by rw [ts_l3, nI_add, ts_cl (by omega)]
      have c4 : (nI (4 + 6 * A 6 0) + 4).toNatClampNeg = 4 + 6 * A 6 0 + 4 := by rw [ts_l4, nI_add, ts_cl (by omega)]
      have c5 : (nI (4 + 6 * A 6 0) + 5).toNatClampNeg = 4 + 6 * A 6 0 + 5 := by rw [ts_l5, nI_add, ts_cl (by omega)]
      have v0 : vp_in (nI (4 + 6 * A 6 0)) 46 := ts_vin (by omega) (by omega)
      have v1 : vp_in (nI (4 + 6 * A 6 0) + 1) 46 := by rw [ts_l1, nI_add]; exact ts_vin (by omega) (by omega)
      have v2 : vp_in (nI (4 + 6 * A 6 0) + 2) 46 := by rw [ts_l2, nI_add]; exact ts_vin (by omega) (by omega)
      have v3 : vp_in (nI (4 + 6 * A 6 0) + 3) 46 := by rw [ts_l3, nI_add]; exact ts_vin (by omega) (by omega)
      have v4 : vp_in (nI (4 + 6 * A 6 0) + 4) 46 := by rw [ts_l4, nI_add]; exact ts_vin (by omega) (by omega)
      have v5 : vp_in (nI (4 + 6 * A 6 0) + 5) 46 := by rw [ts_l5, nI_add]; exact ts_vin (by omega) (by omega)
      have vv : vp_in (2 : Int32) 46 := by rw [ts_l2]; exact ts_vin (by omega) (by omega)
      rw [c0, c1, c2, c3, c4, c5, ec2]
      refine ⟨by omega, trivial, v0, fun hi13 x13 => ⟨v1, fun hi15 x15 => ⟨v2, fun hi17 x17 => ⟨vv, v3, fun hi20 x20 => ⟨v4, fun hi22 x22 => ⟨v5, fun hi24 x24 hi25 x25 => ?_⟩⟩⟩⟩⟩⟩
      have y2 : hi2 412 2 = nI (A 6 0) := r2 hi2 U
      have y17 : hi17 412 2 = nI (A 6 0) := by rw [x17, ts_up_s (by omega), x15, ts_up_s (by omega), x13, ts_up_s (by omega)]; exact y2
      rw [y17] at x20
      have y24 : hi24 412 2 = nI (A 6 0) := by rw [x24, ts_up_s (by omega), x22, ts_up_s (by omega), x20, ts_up_s (by omega)]; exact y17
      rw [y24, ts_l1, nI_add] at x25
      have o : ∀ b, b ≠ 412 → hi25 b = hi2 b := fun b hb => by rw [x25, x24, x22, x20, x17, x15, x13]; funext s; rw [ts_up_a hb, ts_up_a hb, ts_up_a hb, ts_up_a hb, ts_up_a hb, ts_up_a hb, ts_up_a hb]
      refine q hi25 (h2.of (o 405 (by omega)) (o 410 (by omega))) (ts_MR_aT hA hR (fun u u2 u3 => ?_) (by rw [x25, ts_up_eq]) ?_ ?_ ?_ ?_ ?_ ?_) ⟨fun b b1 b2 => by rw [o b b2, hr b b1], fun s hs => by rw [o 405 (by omega), U.2 s hs]⟩
      · rw [x25, ts_up_s u2, x24, ts_up_s (by omega), x22, ts_up_s (by omega), x20, ts_up_s (by omega), x17, ts_up_s (by omega), x15, ts_up_s (by omega), x13, ts_up_s (by omega), hr 412 (by omega)]
      · rw [x25, ts_up_s (by omega), x24, ts_up_s (by omega), x22, ts_up_s (by omega), x20, ts_up_s (by omega), x17, ts_up_s (by omega), x15, ts_up_s (by omega), x13, ts_up_eq]
      · rw [x25, ts_up_s (by omega), x24, ts_up_s (by omega), x22, ts_up_s (by omega), x20, ts_up_s (by omega), x17, ts_up_s (by omega), x15, ts_up_eq]
      · rw [x25, ts_up_s (by omega), x24, ts_up_s (by omega), x22, ts_up_s (by omega), x20, ts_up_s (by omega), x17, ts_up_eq]
      · rw [x25, ts_up_s (by omega), x24, ts_up_s (by omega), x22, ts_up_s (by omega), x20, ts_up_eq]
      · rw [x25, ts_up_s (by omega), x24, ts_up_s (by omega), x22, ts_up_eq]
      · rw [x25, ts_up_s (by omega), x24, ts_up_eq]
    · have hw' : (ts_t7 tp (A 6 0) p).1 ≠ 0 := hw
      have etA : ts_tA tp p A = A := if_neg hw'
      rw [etA] at q
      have U := u'.trans u2
      exact q hi2 h2 (ts_MR.of hn hR (fun u _ => by rw [U.1 412 (by omega)])) U.mt
  have P54 : ∀ s hi', ts_MQ tp fa (ts_t1 tp (A 6 0) p) hi' → ts_MU hi hi' → ((ts_t1 tp (A 6 0) p).1 = 0 → s = nI (A 6 0)) → ts_J0 (d + 5) mX12_readsTurnip (ts_qv Q) g 54 [(0, .ref 405), (1, .int (nI (ts_kd (ts_bt tp p))))] [.int s, .int 6, .int 4] hi' hk := by
    intro s hi' h' u' hs
    refine wX12_readsTurnip_54 ⟨hM.kd, c_mfigure (lo := 0) (up := 9) hM hl hb (by omega) (by omega) h' (fun v3 hi1 h1 u1 e1 => c_mfollows (lo := 0) (up := 9) hM hl hb (by omega) (by omega) h1 (fun v7 hi5 h5 u5 e5 => c_mfollows (lo := 0) (up := 1) hM hl hb (by omega) (by omega) h5 (fun v10 hi8 h8 u8 e8 => ?_)))⟩
    have U := ((u'.trans u1).trans u5).trans u8
    have hv : (ts_t7 tp (A 6 0) p).1 = 0 → (4 : Int32) + 6 * s = nI (4 + 6 * A 6 0) ∧ v3 = nI (ts_nv tp (ts_t1 tp (A 6 0) p).2) ∧ v7 = nI (ts_nv tp (ts_t3 tp (A 6 0) p).2) ∧ v10 = nI (ts_nv tp (ts_t5 tp (A 6 0) p).2) := fun hw => by
      have z := ts_t7_w hw
      refine ⟨?_, e1 z.2.2.2.1, e5 z.2.2.2.2.2.1, e8 z.2.2.2.2.2.2.2.1⟩
      rw [hs (by rw [z.2.2.1]), ts_l4, ts_l6, pk_mul, nI_add]
    refine ⟨fun c => P96 _ _ _ _ 0 hi8 h8 U hv (fun hw => ?_), fun c => P96 _ _ _ _ 1 hi8 h8 U hv (fun hw => ?_)⟩
    · rw [h8.is4 hw] at c
      exact (if_neg c).mpr rfl
    · rw [h8.is4 hw] at c
      exact (if_pos (Decidable.not_not.mp c)).mpr rfl
  refine wX12_readsTurnip_0 ?_
  simp only [ts_LM.kd hM, ts_LM.o0 hM, ts_LM.k0 hM, ts_LM.l0 hM, ts_LM.o1 hM, ts_LM.k1 hM, ts_LM.l1 hM, ts_LM.o2 hM, ts_LM.k2 hM, ts_LM.l2 hM, ts_LM.o3 hM, ts_LM.k3 hM, ts_LM.l3 hM, ts_LM.o5 hM, ts_LM.k5 hM, ts_LM.l5 hM, ts_LM.o13 hM, ts_LM.k13 hM, ts_LM.l13 hM, ts_LM.o14 hM, ts_LM.k14 hM, ts_LM.l14 hM, ts_LM.o15 hM, ts_LM.k15 hM, ts_LM.l15 hM, ts_LM.o16 hM, ts_LM.k16 hM, ts_LM.l16 hM, ts_LM.o18 hM, ts_LM.k18 hM, ts_LM.l18 hM, ts_LM.o19 hM, ts_LM.k19 hM, ts_LM.l19 hM, ts_LM.o20 hM, ts_LM.k20 hM, ts_LM.l20 hM, ts_LM.o21 hM, ts_LM.k21 hM, ts_LM.l21 hM, ts_LM.o22 hM, ts_LM.k22 hM, ts_LM.l22 hM, ts_LM.o23 hM, ts_LM.k23 hM, ts_LM.l23 hM]
  rw [t12]
  refine ⟨trivial, c_kindOf (by omega) ?_⟩
  have et1 : ts_t1 tp (A 6 0) p = if 7 ≤ A 6 0 then (3, p) else (0, p + 1) := if_neg hkd
  have vv : vp_in (2 : Int32) 46 := by rw [ts_l2]; exact ts_vin (by omega) (by omega)
  rw [ec2, r2 hi (ts_MU.refl hi), ts_l7, ts_le (by omega) (by omega)]
  refine ⟨by omega, trivial, vv, fun c => ?_, fun c => ?_⟩
  · rw [if_pos c] at et1
    refine wX12_readsTurnip_25 ⟨hM.kd, c_takes_n (f := 3) hM hl (by omega) h (fun hi2 h2 u2 => ?_)⟩
    simp only [ts_LM.kd hM, ts_LM.o0 hM, ts_LM.k0 hM, ts_LM.l0 hM, ts_LM.o1 hM, ts_LM.k1 hM, ts_LM.l1 hM, ts_LM.o2 hM, ts_LM.k2 hM, ts_LM.l2 hM, ts_LM.o3 hM, ts_LM.k3 hM, ts_LM.l3 hM, ts_LM.o5 hM, ts_LM.k5 hM, ts_LM.l5 hM, ts_LM.o13 hM, ts_LM.k13 hM, ts_LM.l13 hM, ts_LM.o14 hM, ts_LM.k14 hM, ts_LM.l14 hM, ts_LM.o15 hM, ts_LM.k15 hM, ts_LM.l15 hM, ts_LM.o16 hM, ts_LM.k16 hM, ts_LM.l16 hM, ts_LM.o18 hM, ts_LM.k18 hM, ts_LM.l18 hM, ts_LM.o19 hM, ts_LM.k19 hM, ts_LM.l19 hM, ts_LM.o20 hM, ts_LM.k20 hM, ts_LM.l20 hM, ts_LM.o21 hM, ts_LM.k21 hM, ts_LM.l21 hM, ts_LM.o22 hM, ts_LM.k22 hM, ts_LM.l22 hM, ts_LM.o23 hM, ts_LM.k23 hM, ts_LM.l23 hM]
    rw [ec2, r2 hi2 u2]
    exact ⟨trivial, by omega, trivial, vv, fun _ => P54 _ hi2 (by rw [et1]; exact h2) u2 (fun e => by rw [et1] at e; cases e), fun _ => P54 _ hi2 (by rw [et1]; exact h2) u2 (fun _ => rfl)⟩
  · rw [if_neg c] at et1
    refine wX12_readsTurnip_25 ⟨hM.kd, c_takes_y hM hl hb (by decide) h t9 hpl (fun hi2 h2 u2 => ?_)⟩
    simp only [ts_LM.kd hM, ts_LM.o0 hM, ts_LM.k0 hM, ts_LM.l0 hM, ts_LM.o1 hM, ts_LM.k1 hM, ts_LM.l1 hM, ts_LM.o2 hM, ts_LM.k2 hM, ts_LM.l2 hM, ts_LM.o3 hM, ts_LM.k3 hM, ts_LM.l3 hM, ts_LM.o5 hM, ts_LM.k5 hM, ts_LM.l5 hM, ts_LM.o13 hM, ts_LM.k13 hM, ts_LM.l13 hM, ts_LM.o14 hM, ts_LM.k14 hM, ts_LM.l14 hM, ts_LM.o15 hM, ts_LM.k15 hM, ts_LM.l15 hM, ts_LM.o16 hM, ts_LM.k16 hM, ts_LM.l16 hM, ts_LM.o18 hM, ts_LM.k18 hM, ts_LM.l18 hM, ts_LM.o19 hM, ts_LM.k19 hM, ts_LM.l19 hM, ts_LM.o20 hM, ts_LM.k20 hM, ts_LM.l20 hM, ts_LM.o21 hM, ts_LM.k21 hM, ts_LM.l21 hM, ts_LM.o22 hM, ts_LM.k22 hM, ts_LM.l22 hM, ts_LM.o23 hM, ts_LM.k23 hM, ts_LM.l23 hM]
    rw [ec2, r2 hi2 u2, ts_l7, ts_le (by omega) (by omega)]
    exact ⟨trivial, by omega, trivial, vv, fun e => absurd e c, fun _ => P54 _ hi2 (by rw [et1]; exact h2) u2 (fun _ => rfl)⟩
