/-! marry, part, swap, ground -/
def ts_wd (A : ts_A) (t u : Nat) : ts_A := fun c x => if c = 4 then (if x = u then t else if x = t then u else A 4 x) else A c x
theorem ts_ok_wd {A : ts_A} {t u : Nat} (hA : ts_ok A) (ht : t < A 6 0) (hu : u < A 6 0) (hn : t ≠ u) (h1 : A 4 t = 7) (h2 : A 4 u = 7) : ts_ok (ts_wd A t u) := by
  obtain ⟨a0, a1, a2, a3, aT⟩ := hA
  refine ⟨a0, a1, a2, a3, fun x hx => ?_⟩
  have hx' : x < A 6 0 := hx
  have z := aT x hx'
  refine ⟨z.1, z.2.1, z.2.2.1, z.2.2.2.1, ?_, z.2.2.2.2.2⟩
  have e : ∀ y, ts_wd A t u 4 y = if y = u then t else if y = t then u else A 4 y := fun y => rfl
  have e6 : ts_wd A t u 6 0 = A 6 0 := rfl
  rw [e6]
  by_cases c1 : x = u
  · have y1 : ts_wd A t u 4 x = t := by rw [e, if_pos c1]
    have y2 : ts_wd A t u 4 t = u := by rw [e, if_neg hn, if_pos rfl]
    rw [y1, y2]
    exact Or.inr ⟨ht, c1.symm, by omega⟩
  · by_cases c2 : x = t
    · have y1 : ts_wd A t u 4 x = u := by rw [e, if_neg c1, if_pos c2]
      have y2 : ts_wd A t u 4 u = t := by rw [e, if_pos rfl]
      rw [y1, y2]
      exact Or.inr ⟨hu, c2.symm, by omega⟩
    · have y1 : ts_wd A t u 4 x = A 4 x := by rw [e, if_neg c1, if_neg c2]
      rw [y1]
      rcases z.2.2.2.2.1 with w | w
      · exact Or.inl w
      · have n1 : A 4 x ≠ u := fun q => by rw [q, h2] at w; omega
        have n2 : A 4 x ≠ t := fun q => by rw [q, h1] at w; omega
        rw [show ts_wd A t u 4 (A 4 x) = A 4 (A 4 x) by rw [e, if_neg n1, if_neg n2]]
        exact Or.inr w
theorem ts_FR.mate {A A' : ts_A} {hi hi' : ts_I} {hk : ts_K} (h : ts_FR 291 A hi hk) (h6 : ∀ s, A' 6 s = A 6 s) (hc : ∀ c t, c ≠ 4 → A' c t = A c t) (o : ∀ b, b ≠ 296 → hi' b = hi b) (hm : ∀ t, t < A 6 0 → hi' 296 t = ts_mI (A' 4 t)) : ts_FR 291 A' hi' hk := by
  obtain ⟨r0, r1, r2, r3, rT⟩ := h
  refine ⟨by rw [o 291 (by omega), h6]; exact r0, by rw [o 291 (by omega), h6]; exact r1, by rw [o 291 (by omega), h6]; exact r2, by rw [o 291 (by omega), h6]; exact r3, fun t ht => ?_⟩
  rw [h6] at ht
  have z := rT t ht
  refine ⟨by rw [hc 0 t (by omega)]; exact z.1, by rw [o _ (by omega), hc 1 t (by omega)]; exact z.2.1, by rw [o _ (by omega), hc 2 t (by omega)]; exact z.2.2.1, by rw [o _ (by omega), hc 3 t (by omega)]; exact z.2.2.2.1, hm t ht, by rw [o _ (by omega), hc 5 t (by omega)]; exact z.2.2.2.2.2.1, by rw [o _ (by omega), hc 7 t (by omega)]; exact z.2.2.2.2.2.2⟩
theorem ts_MR.mate {m : Nat} {A A' : ts_A} {hi hi' : ts_I} (h : ts_MR m 0 A hi) (h6 : ∀ s, A' 6 s = A 6 s) (hc : ∀ c t, c ≠ 4 → A' c t = A c t) (o : ∀ s, (∀ t, t < A 6 0 → s ≠ 4 + 6 * t + 5) → hi' m s = hi m s) (hm : ∀ t, t < A 6 0 → hi' m (4 + 6 * t + 5) = ts_nN (A' 4 t)) : ts_MR m 0 A' hi' := by
  obtain ⟨r0, r1, r2, r3, rT⟩ := h
  refine ⟨by rw [o 0 (fun t _ => by omega), h6]; exact r0, ?_, ?_, ?_, fun t ht => ?_⟩
  · rw [o (0 + 1) (fun t _ => by omega), h6]; exact r1
  · rw [o (0 + 2) (fun t _ => by omega), h6]; exact r2
  · rw [o (0 + 3) (fun t _ => by omega), h6]; exact r3
  rw [h6] at ht
  have z := rT t ht
  simp only [Nat.zero_add] at z ⊢
  refine ⟨by rw [o _ (fun t _ => by omega), hc 0 t (by omega)]; exact z.1, by rw [o _ (fun t _ => by omega), hc 1 t (by omega)]; exact z.2.1, by rw [o _ (fun t _ => by omega), hc 2 t (by omega)]; exact z.2.2.1, by rw [o _ (fun t _ => by omega), hc 5 t (by omega)]; exact z.2.2.2.1, by rw [o _ (fun t _ => by omega), hc 3 t (by omega)]; exact z.2.2.2.2.1, hm t ht⟩
def ts_s_marry (S : ts_S) (a1 a2 : Int32) : Int32 × ts_S :=
  if (ts_T S.A a1 ∧ ts_T S.A a2) ∧ a1 ≠ a2 then
    if S.A 4 a1.toNatClampNeg = 7 ∧ S.A 4 a2.toNatClampNeg = 7 then (nI (ts_mc (ts_wd S.A a1.toNatClampNeg a2.toNatClampNeg)), S.setF (ts_wd S.A a1.toNatClampNeg a2.toNatClampNeg) (ts_cs S.A S.B))
    else (-1000002, S)
  else (-1000001, S)
theorem x_marry {d : Nat} {g : ts_G} {S : ts_S} {a1 a2 : Int32} {hi : ts_I} {hk : ts_K} {Q : Int32 → ts_I → ts_K → Prop} (hX : ts_LX g) (hS : ts_SV S) (h : ts_XI S hi hk) (q : ts_QX (ts_s_marry S a1 a2) hi Q) : ts_E0 (d + 25) mX11_marry [.ref 1, .int a1, .int a2] g hi hk (ts_qi Q) := by
  refine ts_E0.of plX11_marry rfl (Nat.le_of_ble_eq_true rfl) ?_
  refine wX11_marry_0 ?_
  unfold ts_s_marry at q
  refine ⟨hX.s0, c_XisTurnip hX h.1 (fun h1 => ⟨fun e => absurd e (by decide), fun _ => c_XisTurnip hX h.1 (fun h2 => ⟨fun e => absurd e (by decide), fun _ => ⟨fun h3 => ?_, fun h3 => ?_⟩⟩) (fun n2 => ⟨fun _ => ?_, fun e => absurd rfl e⟩)⟩) (fun n1 => ⟨fun _ => ?_, fun e => absurd rfl e⟩)⟩
  · rw [if_pos ⟨⟨h1, h2⟩, h3⟩] at q
    have hok := hS.1.1
    obtain ⟨t, ht, rfl⟩ := h1.get hok.1
    obtain ⟨u, hu, rfl⟩ := h2.get hok.1
    have hc := hok.1
    have hF := hX.now
    have hmt := (hok.2.2.2.2 t ht).2.2.2.2.1
    have hmu := (hok.2.2.2.2 u hu).2.2.2.2.1
    have htu : t ≠ u := fun e => h3 (by rw [e])
    simp only [ts_LX.s0 hX, ts_LX.s1 hX, ts_LX.s2 hX, ts_LX.s3 hX, ts_LX.s4 hX, ts_LX.s5 hX, ts_LX.s6 hX, ts_LX.s7 hX, ts_LX.s8 hX, ts_LX.s9 hX, ts_LX.s10 hX, ts_LX.s11 hX, ts_LX.s12 hX, ts_LX.s13 hX, ts_LX.s14 hX, ts_LX.s15 hX, ts_LX.s16 hX, ts_LX.s17 hX, ts_LX.s18 hX, ts_LX.s19 hX, ts_LX.s20 hX, ts_LX.s21 hX, ts_LX.s22 hX, ts_LX.s23 hX, ts_LX.s24 hX, ts_LX.s25 hX, ts_LX.s26 hX, ts_LX.s27 hX, ts_LX.s28 hX, ts_LX.s29 hX, ts_LX.s30 hX, ts_LX.s31 hX, ts_LX.s32 hX, ts_LX.s33 hX, ts_LX.s34 hX, ts_LX.s35 hX, ts_LX.s36 hX, ts_LX.s37 hX, ts_LX.s38 hX, ts_FL.kd hF, ts_FL.k1 hF, ts_FL.k2 hF, ts_FL.k3 hF, ts_FL.k4 hF, ts_FL.k5 hF, ts_FL.k6 hF, ts_FL.k7 hF, ts_FL.k8 hF, ts_FL.k9 hF, ts_FL.l1 hF, ts_FL.l2 hF, ts_FL.l3 hF, ts_FL.l4 hF, ts_FL.l5 hF, ts_FL.l6 hF, ts_FL.l7 hF, ts_FL.l8 hF, ts_FL.l9 hF, ts_FL.o0 hF, ts_FL.o1 hF, ts_FL.o2 hF, ts_FL.o3 hF, ts_FL.o4 hF, ts_FL.o5 hF, ts_FL.o6 hF, ts_FL.o7 hF, ts_FL.o8 hF]
    rw [ts_cl (n := t) (by omega), ts_cl (n := u) (by omega)] at q ⊢
    rw [(h.1.2.2.2.2 t ht).2.2.2.2.1, (h.1.2.2.2.2 u hu).2.2.2.2.1]
    have et := ts_mIeq (m := S.A 4 t) (by omega)
    have eu := ts_mIeq (m := S.A 4 u) (by omega)
    refine ⟨by omega, trivial, by omega, trivial, ts_vin (by omega) (by omega), fun c => ?_, fun c => ⟨ts_vin (by omega) (by omega), fun c2 => ?_, fun c2 => ?_⟩⟩
    · rw [if_neg (fun x => c (et.mpr x.1))] at q
      exact q.st h
    · have m1 := et.mp (Decidable.not_not.mp c)
      have m2 := eu.mp c2
      rw [if_pos ⟨m1, m2⟩] at q
      refine c_keepAct hX hS h (fun hi2 hk2 h2 ho hok2 => fun hi3 x3 hi4 x4 => ?_)
      have hok' := ts_ok_wd hok ht hu htu m1 m2
      have o4 : ∀ b, b ≠ 296 → hi4 b = hi2 b := fun b hb => by rw [x4, x3]; funext s; rw [ts_up_a hb, ts_up_a hb]
      have hR : ts_FR 291 (ts_wd S.A t u) hi4 hk2 := by
        refine ts_FR.mate h2.1 (fun _ => rfl) (fun c x hc9 => if_neg hc9) o4 (fun x hx => ?_)
        show hi4 296 x = ts_mI (if x = u then t else if x = t then u else S.A 4 x)
        rw [x4, x3]
        by_cases c1 : x = u
        · rw [c1, if_pos rfl, ts_up_eq]
          unfold ts_mI
          rw [if_neg (by omega)]
        · rw [if_neg c1, ts_up_s c1]
          by_cases c3 : x = t
          · rw [c3, if_pos rfl, ts_up_eq]
            unfold ts_mI
            rw [if_neg (by omega)]
          · rw [if_neg c3, ts_up_s c3]
            exact (h2.1.2.2.2.2 x hx).2.2.2.2.1
      exact c_allMarried hF hR hok' (q hi4 hk2 (h2.field hR (h2.fk (j := 26) (by omega)) (fun b hb => o4 b (by omega)) (fun _ _ => rfl)) (fun b hb => by rw [o4 b (by omega), ho b (by omega)]))
    · rw [if_neg (fun x => c2 (eu.mpr x.2))] at q
      exact q.st h
  · rw [if_neg (fun x => h3 x.2)] at q
    exact q.st h
  · rw [if_neg (fun x => n2 x.1.2)] at q
    exact q.st h
  · rw [if_neg (fun x => n1 x.1.1)] at q
    exact q.st h
theorem y_marry {d : Nat} {g : ts_G} {S : ts_S} {a1 a2 : Int32} {hi : ts_I} {hk : ts_K} {Q : Int32 → ts_I → ts_K → Prop} (hM : ts_LM g) (hS : ts_SV S) (h : ts_MI S hi) (q : ts_QM (ts_s_marry S a1 a2) hi hk Q) : ts_E0 (d + 25) mX12_marry [.ref 405, .int a1, .int a2] g hi hk (ts_qi Q) := by
  refine ts_E0.of plX12_marry rfl (Nat.le_of_ble_eq_true rfl) ?_
  refine wX12_marry_0 ?_
  unfold ts_s_marry at q
  have hok := hS.1.1
  have hc := hok.1
  refine ⟨hM.kd, c_isTurnip hM h.1 hc (fun h1 => ⟨fun e => absurd e (by decide), fun _ => c_isTurnip hM h.1 hc (fun h2 => ⟨fun e => absurd e (by decide), fun _ => ⟨fun h3 => ?_, fun h3 => ?_⟩⟩) (fun n2 => ⟨fun _ => ?_, fun e => absurd rfl e⟩)⟩) (fun n1 => ⟨fun _ => ?_, fun e => absurd rfl e⟩)⟩
  · rw [if_pos ⟨⟨h1, h2⟩, h3⟩] at q
    obtain ⟨t, ht, rfl⟩ := h1.get hc
    obtain ⟨u, hu, rfl⟩ := h2.get hc
    have hmt := (hok.2.2.2.2 t ht).2.2.2.2.1
    have hmu := (hok.2.2.2.2 u hu).2.2.2.2.1
    have htu : t ≠ u := fun e => h3 (by rw [e])
    have et := ts_nNeq (m := S.A 4 t) (by omega)
    have eu := ts_nNeq (m := S.A 4 u) (by omega)
    have zt := (h.1.2.2.2.2 t ht).2.2.2.2.2
    have zu := (h.1.2.2.2.2 u hu).2.2.2.2.2
    rw [Nat.zero_add] at zt zu
    simp only [ts_LM.kd hM, ts_LM.o0 hM, ts_LM.k0 hM, ts_LM.l0 hM, ts_LM.o1 hM, ts_LM.k1 hM, ts_LM.l1 hM, ts_LM.o2 hM, ts_LM.k2 hM, ts_LM.l2 hM, ts_LM.o3 hM, ts_LM.k3 hM, ts_LM.l3 hM, ts_LM.o5 hM, ts_LM.k5 hM, ts_LM.l5 hM, ts_LM.o13 hM, ts_LM.k13 hM, ts_LM.l13 hM, ts_LM.o14 hM, ts_LM.k14 hM, ts_LM.l14 hM, ts_LM.o15 hM, ts_LM.k15 hM, ts_LM.l15 hM, ts_LM.o16 hM, ts_LM.k16 hM, ts_LM.l16 hM, ts_LM.o18 hM, ts_LM.k18 hM, ts_LM.l18 hM, ts_LM.o19 hM, ts_LM.k19 hM, ts_LM.l19 hM, ts_LM.o20 hM, ts_LM.k20 hM, ts_LM.l20 hM, ts_LM.o21 hM, ts_LM.k21 hM, ts_LM.l21 hM, ts_LM.o22 hM, ts_LM.k22 hM, ts_LM.l22 hM, ts_LM.o23 hM, ts_LM.k23 hM, ts_LM.l23 hM]
    simp only [ts_l4, ts_l6, ts_l5, pk_mul, nI_add]
    rw [ts_cl (n := t) (by omega), ts_cl (n := u) (by omega)] at q
    rw [ts_cl (n := 4 + 6 * t + 5) (by omega), ts_cl (n := 4 + 6 * u + 5) (by omega), zt, zu]
    refine ⟨by omega, trivial, ts_vin (by omega) (by omega), fun c => ?_, fun c => ⟨ts_vin (by omega) (by omega), fun c2 => ?_, fun c2 => ?_⟩⟩
    · rw [if_neg (fun x => c (et.mpr x.1))] at q
      exact q.st h
    · have m1 := et.mp (Decidable.not_not.mp c)
      have m2 := eu.mp c2
      rw [if_pos ⟨m1, m2⟩] at q
      refine y_notes hM hS h (fun hi2 h2 ho => fun hi3 x3 hi4 x4 => ?_)
      have hok' := ts_ok_wd hok ht hu htu m1 m2
      have o4 : ∀ b, b ≠ 411 → hi4 b = hi2 b := fun b hb => by rw [x4, x3]; funext s; rw [ts_up_a hb, ts_up_a hb]
      have hR : ts_MR 411 0 (ts_wd S.A t u) hi4 := by
        refine ts_MR.mate h2.1 (fun _ => rfl) (fun c x hc9 => if_neg hc9) (fun s hs => by rw [x4, x3, ts_up_s (hs u hu), ts_up_s (hs t ht)]) (fun x hx => ?_)
        show hi4 411 (4 + 6 * x + 5) = ts_nN (if x = u then t else if x = t then u else S.A 4 x)
        rw [x4, x3]
        by_cases c1 : x = u
        · rw [c1, if_pos rfl, ts_up_eq]
          unfold ts_nN
          rw [if_neg (by omega)]
        · rw [if_neg c1, ts_up_s (by omega)]
          by_cases c3 : x = t
          · rw [c3, if_pos rfl, ts_up_eq]
            unfold ts_nN
            rw [if_neg (by omega)]
          · rw [if_neg c3, ts_up_s (by omega)]
            have z := (h2.1.2.2.2.2 x hx).2.2.2.2.2
            rw [Nat.zero_add] at z
            exact z
      exact c_married hM hR hok' (q hi4 (h2.field hS.cs hR (fun b hb _ => o4 b hb)) (fun b hb => by rw [o4 b (by omega), ho b (by omega) (by omega)]))
    · rw [if_neg (fun x => c2 (eu.mpr x.2))] at q
      exact q.st h
  · rw [if_neg (fun x => h3 x.2)] at q
    exact q.st h
  · rw [if_neg (fun x => n2 x.1.2)] at q
    exact q.st h
  · rw [if_neg (fun x => n1 x.1.1)] at q
    exact q.st h
theorem v_marry {S : ts_S} {a1 a2 : Int32} (hS : ts_SV S) : ts_SV (ts_s_marry S a1 a2).2 := by
  unfold ts_s_marry
  by_cases c : (ts_T S.A a1 ∧ ts_T S.A a2) ∧ a1 ≠ a2
  · rw [if_pos c]
    by_cases c2 : S.A 4 a1.toNatClampNeg = 7 ∧ S.A 4 a2.toNatClampNeg = 7
    · rw [if_pos c2]
      have hok := hS.1.1
      obtain ⟨⟨h1, h2⟩, h3⟩ := c
      obtain ⟨t, ht, rfl⟩ := h1.get hok.1
      obtain ⟨u, hu, rfl⟩ := h2.get hok.1
      have hc := hok.1
      rw [ts_cl (n := t) (by omega), ts_cl (n := u) (by omega)] at c2 ⊢
      exact (hS.cs).field (A' := ts_wd S.A t u) ⟨ts_ok_wd hok ht hu (fun e => h3 (by rw [e])) c2.1 c2.2, hS.1.2⟩
    · rw [if_neg c2]; exact hS
  · rw [if_neg c]; exact hS
def ts_pa (A : ts_A) (t : Nat) : ts_A := fun c x => if c = 4 then (if x = A 4 t ∨ x = t then 7 else A 4 x) else A c x
theorem ts_ok_pa {A : ts_A} {t : Nat} (hA : ts_ok A) (ht : t < A 6 0) (h1 : A 4 t ≠ 7) : ts_ok (ts_pa A t) := by
  obtain ⟨a0, a1, a2, a3, aT⟩ := hA
  refine ⟨a0, a1, a2, a3, fun x hx => ?_⟩
  have hx' : x < A 6 0 := hx
  have z := aT x hx'
  have zt := (aT t ht).2.2.2.2.1
  refine ⟨z.1, z.2.1, z.2.2.1, z.2.2.2.1, ?_, z.2.2.2.2.2⟩
  have e : ∀ y, ts_pa A t 4 y = if y = A 4 t ∨ y = t then 7 else A 4 y := fun y => rfl
  have e6 : ts_pa A t 6 0 = A 6 0 := rfl
  rw [e6]
  by_cases c1 : x = A 4 t ∨ x = t
  · exact Or.inl (by rw [e, if_pos c1])
  · have y1 : ts_pa A t 4 x = A 4 x := by rw [e, if_neg c1]
    rw [y1]
    rcases z.2.2.2.2.1 with w | w
    · exact Or.inl w
    · rcases zt with v | v
      · exact absurd v h1
      · have n1 : ¬ (A 4 x = A 4 t ∨ A 4 x = t) := fun q => by
          rcases q with q | q
          · rw [q, v.2.1] at w
            exact c1 (Or.inr w.2.1.symm)
          · rw [q] at w
            exact c1 (Or.inl w.2.1.symm)
        rw [show ts_pa A t 4 (A 4 x) = A 4 (A 4 x) by rw [e, if_neg n1]]
        exact Or.inr w
def ts_s_part (S : ts_S) (a1 : Int32) : Int32 × ts_S :=
  if ts_T S.A a1 then
    if S.A 4 a1.toNatClampNeg = 7 then (-1000002, S) else (nI (S.A 4 a1.toNatClampNeg), S.setF (ts_pa S.A a1.toNatClampNeg) (ts_cs S.A S.B))
  else (-1000001, S)
theorem x_part {d : Nat} {g : ts_G} {S : ts_S} {a1 : Int32} {hi : ts_I} {hk : ts_K} {Q : Int32 → ts_I → ts_K → Prop} (hX : ts_LX g) (hS : ts_SV S) (h : ts_XI S hi hk) (q : ts_QX (ts_s_part S a1) hi Q) : ts_E0 (d + 25) mX11_part [.ref 1, .int a1] g hi hk (ts_qi Q) := by
  refine ts_E0.of plX11_part rfl (Nat.le_of_ble_eq_true rfl) ?_
  refine wX11_part_0 ?_
  unfold ts_s_part at q
  refine ⟨hX.s0, c_XisTurnip hX h.1 (fun h1 => ⟨fun _ => ?_, fun e => absurd (by decide) e⟩) (fun n1 => ⟨fun e => absurd rfl e, fun _ => ?_⟩)⟩
  · rw [if_pos h1] at q
    have hok := hS.1.1
    obtain ⟨t, ht, rfl⟩ := h1.get hok.1
    have hc := hok.1
    have hF := hX.now
    have hmt := (hok.2.2.2.2 t ht).2.2.2.2.1
    simp only [ts_LX.s0 hX, ts_LX.s1 hX, ts_LX.s2 hX, ts_LX.s3 hX, ts_LX.s4 hX, ts_LX.s5 hX, ts_LX.s6 hX, ts_LX.s7 hX, ts_LX.s8 hX, ts_LX.s9 hX, ts_LX.s10 hX, ts_LX.s11 hX, ts_LX.s12 hX, ts_LX.s13 hX, ts_LX.s14 hX, ts_LX.s15 hX, ts_LX.s16 hX, ts_LX.s17 hX, ts_LX.s18 hX, ts_LX.s19 hX, ts_LX.s20 hX, ts_LX.s21 hX, ts_LX.s22 hX, ts_LX.s23 hX, ts_LX.s24 hX, ts_LX.s25 hX, ts_LX.s26 hX, ts_LX.s27 hX, ts_LX.s28 hX, ts_LX.s29 hX, ts_LX.s30 hX, ts_LX.s31 hX, ts_LX.s32 hX, ts_LX.s33 hX, ts_LX.s34 hX, ts_LX.s35 hX, ts_LX.s36 hX, ts_LX.s37 hX, ts_LX.s38 hX, ts_FL.kd hF, ts_FL.k1 hF, ts_FL.k2 hF, ts_FL.k3 hF, ts_FL.k4 hF, ts_FL.k5 hF, ts_FL.k6 hF, ts_FL.k7 hF, ts_FL.k8 hF, ts_FL.k9 hF, ts_FL.l1 hF, ts_FL.l2 hF, ts_FL.l3 hF, ts_FL.l4 hF, ts_FL.l5 hF, ts_FL.l6 hF, ts_FL.l7 hF, ts_FL.l8 hF, ts_FL.l9 hF, ts_FL.o0 hF, ts_FL.o1 hF, ts_FL.o2 hF, ts_FL.o3 hF, ts_FL.o4 hF, ts_FL.o5 hF, ts_FL.o6 hF, ts_FL.o7 hF, ts_FL.o8 hF]
    rw [ts_cl (n := t) (by omega)] at q ⊢
    rw [(h.1.2.2.2.2 t ht).2.2.2.2.1]
    refine ⟨by omega, trivial, by omega, trivial, ts_vin (by omega) (by omega), c_XisTurnip hX h.1 (fun h2 => ⟨fun _ => ?_, fun e => absurd (by decide) e⟩) (fun n2 => ⟨fun e => absurd rfl e, fun _ => ?_⟩)⟩
    · have m1 : S.A 4 t ≠ 7 := fun e => by
        rw [(ts_mIeq (m := S.A 4 t) (by omega)).mpr e] at h2
        exact absurd h2.1 (by decide)
      rw [if_neg m1] at q
      have em : ts_mI (S.A 4 t) = nI (S.A 4 t) := by unfold ts_mI; rw [if_neg m1]
      rw [em, ts_cl (by omega)]
      refine c_keepAct hX hS h (fun hi2 hk2 h2 ho hok2 => fun hi3 x3 => ⟨ts_vin (by omega) (by omega), fun hi4 x4 => ?_⟩)
      have o4 : ∀ b, b ≠ 296 → hi4 b = hi2 b := fun b hb => by rw [x4, x3]; funext s; rw [ts_up_a hb, ts_up_a hb]
      have hR : ts_FR 291 (ts_pa S.A t) hi4 hk2 := by
        refine ts_FR.mate h2.1 (fun _ => rfl) (fun c x hc9 => if_neg hc9) o4 (fun x hx => ?_)
        show hi4 296 x = ts_mI (if x = S.A 4 t ∨ x = t then 7 else S.A 4 x)
        rw [x4, x3]
        by_cases c1 : x = S.A 4 t
        · rw [if_pos (Or.inl c1), c1, ts_up_eq]; rfl
        · rw [ts_up_s c1]
          by_cases c3 : x = t
          · rw [if_pos (Or.inr c3), c3, ts_up_eq]; rfl
          · rw [if_neg (fun x => by rcases x with x | x; exact c1 x; exact c3 x), ts_up_s c3]
            exact (h2.1.2.2.2.2 x hx).2.2.2.2.1
      exact q hi4 hk2 (h2.field hR (h2.fk (j := 26) (by omega)) (fun b hb => o4 b (by omega)) (fun _ _ => rfl)) (fun b hb => by rw [o4 b (by omega), ho b (by omega)])
    · have m1 : S.A 4 t = 7 := by
        by_cases m1 : S.A 4 t = 7
        · exact m1
        · exfalso
          apply n2
          unfold ts_mI
          rw [if_neg m1]
          exact ts_T.of hc (by omega)
      rw [if_pos m1] at q
      exact q.st h
  · rw [if_neg n1] at q
    exact q.st h
theorem y_part {d : Nat} {g : ts_G} {S : ts_S} {a1 : Int32} {hi : ts_I} {hk : ts_K} {Q : Int32 → ts_I → ts_K → Prop} (hM : ts_LM g) (hS : ts_SV S) (h : ts_MI S hi) (q : ts_QM (ts_s_part S a1) hi hk Q) : ts_E0 (d + 25) mX12_part [.ref 405, .int a1] g hi hk (ts_qi Q) := by
  refine ts_E0.of plX12_part rfl (Nat.le_of_ble_eq_true rfl) ?_
  refine wX12_part_0 ?_
  unfold ts_s_part at q
  have hok := hS.1.1
  have hc := hok.1
  refine ⟨hM.kd, c_isTurnip hM h.1 hc (fun h1 => ⟨fun _ => ?_, fun e => absurd (by decide) e⟩) (fun n1 => ⟨fun e => absurd rfl e, fun _ => ?_⟩)⟩
  · rw [if_pos h1] at q
    obtain ⟨t, ht, rfl⟩ := h1.get hc
    have hmt := (hok.2.2.2.2 t ht).2.2.2.2.1
    have zt := (h.1.2.2.2.2 t ht).2.2.2.2.2
    rw [Nat.zero_add] at zt
    have et := ts_nNeq (m := S.A 4 t) (by omega)
    simp only [ts_LM.kd hM, ts_LM.o0 hM, ts_LM.k0 hM, ts_LM.l0 hM, ts_LM.o1 hM, ts_LM.k1 hM, ts_LM.l1 hM, ts_LM.o2 hM, ts_LM.k2 hM, ts_LM.l2 hM, ts_LM.o3 hM, ts_LM.k3 hM, ts_LM.l3 hM, ts_LM.o5 hM, ts_LM.k5 hM, ts_LM.l5 hM, ts_LM.o13 hM, ts_LM.k13 hM, ts_LM.l13 hM, ts_LM.o14 hM, ts_LM.k14 hM, ts_LM.l14 hM, ts_LM.o15 hM, ts_LM.k15 hM, ts_LM.l15 hM, ts_LM.o16 hM, ts_LM.k16 hM, ts_LM.l16 hM, ts_LM.o18 hM, ts_LM.k18 hM, ts_LM.l18 hM, ts_LM.o19 hM, ts_LM.k19 hM, ts_LM.l19 hM, ts_LM.o20 hM, ts_LM.k20 hM, ts_LM.l20 hM, ts_LM.o21 hM, ts_LM.k21 hM, ts_LM.l21 hM, ts_LM.o22 hM, ts_LM.k22 hM, ts_LM.l22 hM, ts_LM.o23 hM, ts_LM.k23 hM, ts_LM.l23 hM]
    simp only [ts_l4, ts_l6, ts_l5, pk_mul, nI_add]
    rw [ts_cl (n := t) (by omega)] at q
    rw [ts_cl (n := 4 + 6 * t + 5) (by omega), zt]
    refine ⟨by omega, trivial, ts_vin (by omega) (by omega), fun c => ?_, fun c => ?_⟩
    · have m1 : S.A 4 t ≠ 7 := fun e => c (et.mpr e)
      rw [if_neg m1] at q
      have em : ts_nN (S.A 4 t) = nI (S.A 4 t) := by unfold ts_nN; rw [if_neg m1]
      rw [em, pk_mul, nI_add, nI_add, ts_cl (by omega)]
      refine y_notes hM hS h (fun hi2 h2 ho => fun hi3 x3 => ⟨ts_vin (by omega) (by omega), fun hi4 x4 => ?_⟩)
      have o4 : ∀ b, b ≠ 411 → hi4 b = hi2 b := fun b hb => by rw [x4, x3]; funext s; rw [ts_up_a hb, ts_up_a hb]
      have hR : ts_MR 411 0 (ts_pa S.A t) hi4 := by
        refine ts_MR.mate h2.1 (fun _ => rfl) (fun c x hc9 => if_neg hc9) (fun s hs => by rw [x4, x3, ts_up_s (hs (S.A 4 t) (show S.A 4 t < S.A 6 0 by omega)), ts_up_s (hs t ht)]) (fun x hx => ?_)
        show hi4 411 (4 + 6 * x + 5) = ts_nN (if x = S.A 4 t ∨ x = t then 7 else S.A 4 x)
        rw [x4, x3]
        by_cases c1 : x = S.A 4 t
        · rw [if_pos (Or.inl c1), c1, ts_up_eq]; rfl
        · rw [ts_up_s (by omega)]
          by_cases c3 : x = t
          · rw [if_pos (Or.inr c3), c3, ts_up_eq]; rfl
          · rw [if_neg (fun x => by rcases x with x | x; exact c1 x; exact c3 x), ts_up_s (by omega)]
            have z := (h2.1.2.2.2.2 x hx).2.2.2.2.2
            rw [Nat.zero_add] at z
            exact z
      exact q hi4 (h2.field hS.cs hR (fun b hb _ => o4 b hb)) (fun b hb => by rw [o4 b (by omega), ho b (by omega) (by omega)])
    · rw [if_pos (et.mp (Decidable.not_not.mp c))] at q
      exact q.st h
  · rw [if_neg n1] at q
    exact q.st h
theorem v_part {S : ts_S} {a1 : Int32} (hS : ts_SV S) : ts_SV (ts_s_part S a1).2 := by
  unfold ts_s_part
  by_cases c : ts_T S.A a1
  · rw [if_pos c]
    by_cases c2 : S.A 4 a1.toNatClampNeg = 7
    · rw [if_pos c2]; exact hS
    · rw [if_neg c2]
      have hok := hS.1.1
      obtain ⟨t, ht, rfl⟩ := c.get hok.1
      have hc := hok.1
      rw [ts_cl (n := t) (by omega)] at c2 ⊢
      exact (hS.cs).field (A' := ts_pa S.A t) ⟨ts_ok_pa hok ht c2, hS.1.2⟩
  · rw [if_neg c]; exact hS
theorem v_lean {S : ts_S} {a1 : Int32} (hS : ts_SV S) : ts_SV (ts_s_lean S a1).2 := by
  unfold ts_s_lean
  by_cases c : ts_T S.A a1
  · rw [if_pos c]
    have hok := hS.1.1
    obtain ⟨t, ht, rfl⟩ := c.get hok.1
    have hc := hok.1
    rw [ts_cl (n := t) (by omega)]
    refine (hS.cs).field (A' := ts_sl S.A t) ⟨⟨hok.1, hok.2.1, hok.2.2.1, hok.2.2.2.1, fun x hx => ?_⟩, hS.1.2⟩
    have z := hok.2.2.2.2 x hx
    refine ⟨z.1, z.2.1, z.2.2.1, ?_, z.2.2.2.2⟩
    show (if 3 = 3 ∧ x = t then 1 - S.A 3 t else S.A 3 x) ≤ 1
    have z2 := z.2.2.2.1
    split <;> omega
  · rw [if_neg c]; exact hS
