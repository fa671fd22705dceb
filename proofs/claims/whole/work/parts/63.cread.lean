/-! the class reads a field -/
theorem ts_t7_6 {tp : List Nat} {n p : Nat} (h : (ts_t6 tp n p).1 ≠ 0) : ts_t7 tp n p = ts_t6 tp n p := ts_sn_st h
theorem ts_t7_5 {tp : List Nat} {n p : Nat} (h : (ts_t5 tp n p).1 ≠ 0) : ts_t7 tp n p = ts_t5 tp n p := by
  have e : ts_t6 tp n p = ts_t5 tp n p := ts_nu_st h
  rw [ts_t7_6 (by rw [e]; exact h), e]
theorem ts_t7_4 {tp : List Nat} {n p : Nat} (h : (ts_t4 tp n p).1 ≠ 0) : ts_t7 tp n p = ts_t4 tp n p := by
  have e : ts_t5 tp n p = ts_t4 tp n p := ts_sn_st h
  rw [ts_t7_5 (by rw [e]; exact h), e]
theorem ts_t7_3 {tp : List Nat} {n p : Nat} (h : (ts_t3 tp n p).1 ≠ 0) : ts_t7 tp n p = ts_t3 tp n p := by
  have e : ts_t4 tp n p = ts_t3 tp n p := ts_nu_st h
  rw [ts_t7_4 (by rw [e]; exact h), e]
theorem ts_t7_2 {tp : List Nat} {n p : Nat} (h : (ts_t2 tp n p).1 ≠ 0) : ts_t7 tp n p = ts_t2 tp n p := by
  have e : ts_t3 tp n p = ts_t2 tp n p := ts_sn_st h
  rw [ts_t7_3 (by rw [e]; exact h), e]
theorem ts_t7_1 {tp : List Nat} {n p : Nat} (h : (ts_t1 tp n p).1 ≠ 0) : ts_t7 tp n p = ts_t1 tp n p := by
  have e : ts_t2 tp n p = ts_t1 tp n p := ts_nu_st h
  rw [ts_t7_2 (by rw [e]; exact h), e]
theorem ts_p0 {w : Nat × Nat} (h : w.1 = 0) : w = (0, w.2) := by rw [← h]
/-- the draft of the class holds A -/
def ts_XD (A : ts_A) (hi : ts_I) (hk : ts_K) : Prop := ts_FR 301 A hi hk ∧ ∀ t, t < 7 → hi 306 t = -1 ∧ hi 307 t = nI t ∧ hi 308 t = nI t
/-- what may differ -/
def ts_XF (hi : ts_I) (hk : ts_K) (hi' : ts_I) (hk' : ts_K) : Prop := (∀ b, b ≠ 3 → (b < 301 ∨ 310 < b) → hi' b = hi b) ∧ (∀ b, b ≠ 302 → hk' b = hk b) ∧ ts_FK 301 hk'
theorem ts_if01 {w : Nat × Nat} {P : Int32 → Prop} (h0 : w.1 = 0 → P 1) (h1 : w.1 ≠ 0 → P 0) : P (if w.1 = 0 then 1 else 0) := by
  by_cases c : w.1 = 0
  · rw [if_pos c]; exact h0 c
  · rw [if_neg c]; exact h1 c
theorem c_XreadTurnip {d p : Nat} {tp : List Nat} {A : ts_A} {g : ts_G} {hi0 hi : ts_I} {hk : ts_K} {Q : Int32 → ts_I → ts_K → Prop} (hX : ts_LX g) (hT : ts_Li tp 3 1 4 hi0) (hl : tp.length ≤ 90) (hb : ∀ b, b ∈ tp → b ≤ 255) (hp : p ≤ tp.length) (hKA : ts_KA hk) (hK : ts_FK 301 hk) (hA : ts_oA A) (hD : ts_XD A hi hk) (h : ts_XP (0, p) hi0 hi)
    (q : ∀ hi' hk', ts_XP (ts_t7 tp (A 6 0) p) hi0 hi' → ts_XF hi hk hi' hk' → ((ts_t7 tp (A 6 0) p).1 = 0 → ts_XD (ts_tA tp p A) hi' hk') → Q (if (ts_t7 tp (A 6 0) p).1 = 0 then 1 else 0) hi' hk') : ts_E0 (d + 3) mX9_readTurnip [.ref 3, .ref 301, .ref 7] g hi hk (ts_qi Q) := by
  refine ts_E0.of plX9_readTurnip rfl (Nat.le_of_ble_eq_true rfl) ?_
  refine wX9_readTurnip_0 ?_
  have hF := hX.dra
  have hc := hA.1
  obtain ⟨f0, f1, f2, f3, fT⟩ := hD.1
  have h2 : hi 3 2 = nI p := h.1
  have hkd := ts_kd_le (ts_bt tp p)
  have hlen := ts_t_len (n := A 6 0) hp
  have ht1 := ts_t1_len (n := A 6 0) hp
  have bad : ∀ w hi' hk', w = ts_t7 tp (A 6 0) p → w.1 ≠ 0 → ts_XP w hi0 hi' → ts_XF hi hk hi' hk' → Q 0 hi' hk' := fun w hi' hk' ew hw hx hf => by
    have z := q hi' hk' (by rw [← ew]; exact hx) hf (fun e => absurd e (by rw [← ew]; exact hw))
    rw [if_neg (by rw [← ew]; exact hw)] at z
    exact z
  simp only [ts_LX.s0 hX, ts_LX.s1 hX, ts_LX.s2 hX, ts_LX.s3 hX, ts_LX.s4 hX, ts_LX.s5 hX, ts_LX.s6 hX, ts_LX.s7 hX, ts_LX.s8 hX, ts_LX.s9 hX, ts_LX.s10 hX, ts_LX.s11 hX, ts_LX.s12 hX, ts_LX.s13 hX, ts_LX.s14 hX, ts_LX.s15 hX, ts_LX.s16 hX, ts_LX.s17 hX, ts_LX.s18 hX, ts_LX.s19 hX, ts_LX.s20 hX, ts_LX.s21 hX, ts_LX.s22 hX, ts_LX.s23 hX, ts_LX.s24 hX, ts_LX.s25 hX, ts_LX.s26 hX, ts_LX.s27 hX, ts_LX.s28 hX, ts_LX.s29 hX, ts_LX.s30 hX, ts_LX.s31 hX, ts_LX.s32 hX, ts_LX.s33 hX, ts_LX.s34 hX, ts_LX.s35 hX, ts_LX.s36 hX, ts_LX.s37 hX, ts_LX.s38 hX, ts_FL.kd hF, ts_FL.k1 hF, ts_FL.k2 hF, ts_FL.k3 hF, ts_FL.k4 hF, ts_FL.k5 hF, ts_FL.k6 hF, ts_FL.k7 hF, ts_FL.k8 hF, ts_FL.k9 hF, ts_FL.l1 hF, ts_FL.l2 hF, ts_FL.l3 hF, ts_FL.l4 hF, ts_FL.l5 hF, ts_FL.l6 hF, ts_FL.l7 hF, ts_FL.l8 hF, ts_FL.l9 hF, ts_FL.o0 hF, ts_FL.o1 hF, ts_FL.o2 hF, ts_FL.o3 hF, ts_FL.o4 hF, ts_FL.o5 hF, ts_FL.o6 hF, ts_FL.o7 hF, ts_FL.o8 hF]
  rw [h2]
  refine ⟨trivial, c_XbyteAt hX (h.li hT) hl (by omega) hb (c_sortOf (ts_bt_le hb p) ?_)⟩
  by_cases k0 : ts_kd (ts_bt tp p) = 0
  · -- no kind
    rw [if_pos k0]
    have e1 : ts_t1 tp (A 6 0) p = (1, p) := if_pos k0
    refine ⟨fun _ => c_failed (f := 1) hX (fun hi2 x2 => ⟨Or.inl rfl, ?_⟩), fun e => absurd (by decide) e⟩
    have e7 := ts_t7_1 (tp := tp) (n := A 6 0) (p := p) (by rw [e1]; simp)
    refine bad _ _ _ e7.symm (by rw [e1]; simp) (by rw [e1]; exact h.fail rfl x2) ⟨fun b b1 b2 => by rw [x2]; funext s; rw [ts_up_a b1], fun _ _ => rfl, hK⟩
  · rw [if_neg k0, f0, ts_l0, ts_lt (by omega) (by omega), show (Int32.ofNat 6) = nI 6 from rfl, ts_lt (by omega) (by omega), ts_l7, ts_lt (by omega) (by omega)]
    refine ⟨fun e => absurd e (by omega), fun _ => ⟨trivial, fun _ => ⟨trivial, fun hn7 => ?_, fun hn7 => ?_⟩, fun e => absurd (by omega) e⟩⟩
    · have e1 : ts_t1 tp (A 6 0) p = (0, p + 1) := by
        unfold ts_t1
        rw [if_neg k0, if_neg (by omega)]
      intro hi3 x3
      rw [h2, ts_l1, nI_add] at x3
      have hp1 : p + 1 ≤ tp.length := by
        have z := ht1.1
        rw [e1] at z
        exact z
      rw [ts_cl (n := ts_kd (ts_bt tp p)) (by omega), ts_cl (n := A 6 0) (by omega), hKA.2 _ (by omega) hkd]
      refine ⟨by omega, ts_vin (by omega) (by omega), by omega, trivial, ts_vin (by omega) (by omega), hX.kl.is (by omega) (by omega), fun hk4 y4 => ?_⟩
      have h3 : ts_XP (0, p + 1) hi0 hi3 := ⟨by rw [x3, ts_up_eq], fun x => absurd rfl x, by rw [x3, ts_up_s (by omega)]; exact h.2.2.1, by rw [x3]; funext s; rw [ts_up_a (by omega), h.2.2.2]⟩
      have hK4 : ts_FK 301 hk4 := fun t ht => by
        rw [y4]
        by_cases e : t = A 6 0
        · rw [e, ts_uk_eq]; omega
        · rw [ts_uk_s e]; exact hK t ht
      have ok4 : ∀ b, b ≠ 302 → hk4 b = hk b := fun b hb9 => by rw [y4]; funext s; rw [ts_uk_a hb9]
      have o3 : ∀ b, b ≠ 3 → hi3 b = hi b := fun b hb9 => by rw [x3]; funext s; rw [ts_up_a hb9]
      have e2 : ts_t2 tp (A 6 0) p = ts_nu tp 0 9 (0, p + 1) := by unfold ts_t2; rw [e1]
      refine c_Xnumber (lo := 0) (up := 9) hX hT hl hb (by omega) (by omega) (by omega) h3 (fun hi5 h5 o5 v5 => ?_)
      rw [← e2] at h5 v5 ⊢
      by_cases w2 : (ts_t2 tp (A 6 0) p).1 ≠ 0
      · rw [if_neg w2]
        exact ⟨fun e => absurd rfl e, fun _ => bad _ _ _ (ts_t7_2 w2).symm w2 h5 ⟨fun b b1 b2 => by rw [o5 b b1, o3 b b1], ok4, hK4⟩⟩
      replace w2 := Decidable.not_not.mp w2
      rw [if_pos w2]
      refine ⟨fun _ => ?_, fun e => absurd (by decide) e⟩
      refine ⟨by omega, trivial, ts_vin (by omega) (by omega), fun hi6 x6 => ?_⟩
      rw [v5 w2] at x6
      have h6 : ts_XP (0, (ts_t2 tp (A 6 0) p).2) hi0 hi6 := by
        rw [ts_p0 w2] at h5
        exact h5.of (by rw [x6]; funext s; rw [ts_up_a (by omega)]) (by rw [x6]; funext s; rw [ts_up_a (by omega)])
      have e3 : ts_t3 tp (A 6 0) p = ts_sn tp 44 (0, (ts_t2 tp (A 6 0) p).2) := by unfold ts_t3; rw [ts_p0 w2]
      have o6 : ∀ b, b ≠ 3 → b ≠ 303 → hi6 b = hi b := fun b b1 b2 => by rw [x6]; funext s; rw [ts_up_a b2, o5 b b1, o3 b b1]
      refine c_Xsign (c := 44) hX hT hl hb (by omega) (by omega) h6 (fun hi7 h7 o7 => ?_)
      rw [← e3] at h7 ⊢
      by_cases w3 : (ts_t3 tp (A 6 0) p).1 ≠ 0
      · rw [if_neg w3]
        exact ⟨fun _ => bad _ _ _ (ts_t7_3 w3).symm w3 h7 ⟨fun b b1 b2 => by rw [o7 b b1, o6 b b1 (by omega)], ok4, hK4⟩, fun e => absurd rfl e⟩
      replace w3 := Decidable.not_not.mp w3
      rw [if_pos w3]
      refine ⟨fun e => absurd e (by decide), fun _ => ?_⟩
      rw [ts_p0 w3] at h7
      have e4 : ts_t4 tp (A 6 0) p = ts_nu tp 0 9 (0, (ts_t3 tp (A 6 0) p).2) := by unfold ts_t4; rw [ts_p0 w3]
      refine c_Xnumber (lo := 0) (up := 9) hX hT hl hb (by omega) (by omega) (by omega) h7 (fun hi8 h8 o8 v8 => ?_)
      rw [← e4] at h8 v8 ⊢
      by_cases w4 : (ts_t4 tp (A 6 0) p).1 ≠ 0
      · rw [if_neg w4]
        exact ⟨fun e => absurd rfl e, fun _ => bad _ _ _ (ts_t7_4 w4).symm w4 h8 ⟨fun b b1 b2 => by rw [o8 b b1, o7 b b1, o6 b b1 (by omega)], ok4, hK4⟩⟩
      replace w4 := Decidable.not_not.mp w4
      rw [if_pos w4]
      refine ⟨fun _ => ?_, fun e => absurd (by decide) e⟩
      refine ⟨by omega, trivial, ts_vin (by omega) (by omega), fun hi9 x9 => ?_⟩
      rw [v8 w4] at x9
      have h9 : ts_XP (0, (ts_t4 tp (A 6 0) p).2) hi0 hi9 := by
        rw [ts_p0 w4] at h8
        exact h8.of (by rw [x9]; funext s; rw [ts_up_a (by omega)]) (by rw [x9]; funext s; rw [ts_up_a (by omega)])
      have e5 : ts_t5 tp (A 6 0) p = ts_sn tp 44 (0, (ts_t4 tp (A 6 0) p).2) := by unfold ts_t5; rw [ts_p0 w4]
      have o9 : ∀ b, b ≠ 3 → b ≠ 303 → b ≠ 304 → hi9 b = hi b := fun b b1 b2 b3 => by rw [x9]; funext s; rw [ts_up_a b3, o8 b b1, o7 b b1, o6 b b1 b2]
      refine c_Xsign (c := 44) hX hT hl hb (by omega) (by omega) h9 (fun hi10 h10 o10 => ?_)
      rw [← e5] at h10 ⊢
      by_cases w5 : (ts_t5 tp (A 6 0) p).1 ≠ 0
      · rw [if_neg w5]
        exact ⟨fun _ => bad _ _ _ (ts_t7_5 w5).symm w5 h10 ⟨fun b b1 b2 => by rw [o10 b b1, o9 b b1 (by omega) (by omega)], ok4, hK4⟩, fun e => absurd rfl e⟩
      replace w5 := Decidable.not_not.mp w5
      rw [if_pos w5]
      refine ⟨fun e => absurd e (by decide), fun _ => ?_⟩
      rw [ts_p0 w5] at h10
      have e6 : ts_t6 tp (A 6 0) p = ts_nu tp 0 1 (0, (ts_t5 tp (A 6 0) p).2) := by unfold ts_t6; rw [ts_p0 w5]
      refine c_Xnumber (lo := 0) (up := 1) hX hT hl hb (by omega) (by omega) (by omega) h10 (fun hi11 h11 o11 v11 => ?_)
      rw [← e6] at h11 v11 ⊢
      by_cases w6 : (ts_t6 tp (A 6 0) p).1 ≠ 0
      · rw [if_neg w6]
        exact ⟨fun e => absurd rfl e, fun _ => bad _ _ _ (ts_t7_6 w6).symm w6 h11 ⟨fun b b1 b2 => by rw [o11 b b1, o10 b b1, o9 b b1 (by omega) (by omega)], ok4, hK4⟩⟩
      replace w6 := Decidable.not_not.mp w6
      rw [if_pos w6]
      refine ⟨fun _ => ?_, fun e => absurd (by decide) e⟩
      refine ⟨by omega, trivial, ts_vin (by omega) (by omega), fun hi12 x12 hi13 x13 => ?_⟩
      rw [v11 w6] at x12
      have n12 : hi12 301 9 = nI (A 6 0) := by rw [x12, ts_up_a (by omega), o11 301 (by omega), o10 301 (by omega), o9 301 (by omega) (by omega) (by omega), f0]
      rw [n12, ts_l1, nI_add] at x13
      have h13 : ts_XP (0, (ts_t6 tp (A 6 0) p).2) hi0 hi13 := by
        rw [ts_p0 w6] at h11
        exact h11.of (by rw [x13, x12]; funext s; rw [ts_up_a (by omega), ts_up_a (by omega)]) (by rw [x13, x12]; funext s; rw [ts_up_a (by omega), ts_up_a (by omega)])
      have e7 : ts_t7 tp (A 6 0) p = ts_sn tp 59 (0, (ts_t6 tp (A 6 0) p).2) := by unfold ts_t7; rw [ts_p0 w6]
      have o13 : ∀ b, b ≠ 3 → b ≠ 301 → b ≠ 303 → b ≠ 304 → b ≠ 305 → hi13 b = hi b := fun b b1 b2 b3 b4 b5 => by rw [x13, x12]; funext s; rw [ts_up_a b2, ts_up_a b5, o11 b b1, o10 b b1, o9 b b1 b3 b4]
      refine c_Xsign (c := 59) hX hT hl hb (by omega) (by omega) h13 (fun hi14 h14 o14 => ?_)
      rw [← e7] at h14 ⊢
      refine ⟨?_, q hi14 hk4 h14 ⟨fun b b1 b2 => by rw [o14 b b1, o13 b b1 (by omega) (by omega) (by omega) (by omega)], ok4, hK4⟩ (fun w7 => ?_)⟩
      · by_cases c : (ts_t7 tp (A 6 0) p).1 = 0
        · rw [if_pos c]; exact Or.inr rfl
        · rw [if_neg c]; exact Or.inl rfl
      -- the draft holds one more
      unfold ts_tA
      rw [if_pos w7]
      have e1' : (ts_t1 tp (A 6 0) p).2 = p + 1 := by rw [e1]
      rw [e1']
      generalize ha : ts_nv tp (p + 1) = a at *
      generalize hbb : ts_nv tp (ts_t3 tp (A 6 0) p).2 = b at *
      generalize hdd : ts_nv tp (ts_t5 tp (A 6 0) p).2 = l at *
      generalize hkk : ts_kd (ts_bt tp p) = k at *
      have c303 : hi14 303 = ts_up hi 303 (A 6 0) (nI a) 303 := by
        rw [o14 303 (by omega), x13, x12]; funext s
        rw [ts_up_a (by omega), ts_up_a (by omega), o11 303 (by omega), o10 303 (by omega), x9, ts_up_a (by omega), o8 303 (by omega), o7 303 (by omega), x6]
        by_cases es : s = A 6 0
        · rw [es, ts_up_eq, ts_up_eq]
        · rw [ts_up_s es, ts_up_s es, o5 303 (by omega), o3 303 (by omega)]
      have c304 : hi14 304 = ts_up hi 304 (A 6 0) (nI b) 304 := by
        rw [o14 304 (by omega), x13, x12]; funext s
        rw [ts_up_a (by omega), ts_up_a (by omega), o11 304 (by omega), o10 304 (by omega), x9]
        by_cases es : s = A 6 0
        · rw [es, ts_up_eq, ts_up_eq]
        · rw [ts_up_s es, ts_up_s es, o8 304 (by omega), o7 304 (by omega), o6 304 (by omega) (by omega)]
      have c305 : hi14 305 = ts_up hi 305 (A 6 0) (nI l) 305 := by
        rw [o14 305 (by omega), x13, x12]; funext s
        rw [ts_up_a (by omega)]
        by_cases es : s = A 6 0
        · rw [es, ts_up_eq, ts_up_eq]
        · rw [ts_up_s es, ts_up_s es, o11 305 (by omega), o10 305 (by omega), o9 305 (by omega) (by omega) (by omega)]
      have c301 : hi14 301 = ts_up hi 301 9 (nI (A 6 0 + 1)) 301 := by
        rw [o14 301 (by omega), x13]; funext s
        by_cases es : s = 9
        · rw [es, ts_up_eq, ts_up_eq]
        · rw [ts_up_s es, ts_up_s es, x12, ts_up_a (by omega), o11 301 (by omega), o10 301 (by omega), o9 301 (by omega) (by omega) (by omega)]
      have cR : ∀ b, b ≠ 3 → b ≠ 301 → b ≠ 303 → b ≠ 304 → b ≠ 305 → hi14 b = hi b := fun b b1 b2 b3 b4 b5 => by rw [o14 b b1, o13 b b1 b2 b3 b4 b5]
      refine ⟨⟨?_, ?_, ?_, ?_, fun t ht => ?_⟩, fun t ht => by rw [cR 306 (by omega) (by omega) (by omega) (by omega) (by omega), cR 307 (by omega) (by omega) (by omega) (by omega) (by omega), cR 308 (by omega) (by omega) (by omega) (by omega) (by omega)]; exact hD.2 t ht⟩
      · rw [c301, ts_up_eq]; rfl
      · rw [c301, ts_up_s (by omega)]; exact f1
      · rw [c301, ts_up_s (by omega)]; exact f2
      · rw [c301, ts_up_s (by omega)]; exact f3
      · have ht' : t < A 6 0 + 1 := ht
        have y := hD.2 t (by omega)
        have yP := hA.2.2.2.2.1 t
        have g4 : ts_aT A k a b l 4 t = 7 := yP.1
        have g5 : ts_aT A k a b l 5 t = t := yP.2.1
        have g7 : ts_aT A k a b l 7 t = t := yP.2.2
        rw [g4, g5, g7, cR (301 + 5) (by omega) (by omega) (by omega) (by omega) (by omega), cR (301 + 6) (by omega) (by omega) (by omega) (by omega) (by omega), cR (301 + 7) (by omega) (by omega) (by omega) (by omega) (by omega)]
        by_cases e : t = A 6 0
        · subst e
          refine ⟨?_, ?_, ?_, ?_, y.1, y.2.1, y.2.2⟩
          · rw [y4, ts_uk_eq]
            show 9 + k = 9 + (if 0 = 0 ∧ A 6 0 = A 6 0 then k else _)
            rw [if_pos ⟨rfl, rfl⟩]
          · rw [c303, ts_up_eq]
            show nI a = nI (if 1 = 0 ∧ A 6 0 = A 6 0 then k else if 1 = 1 ∧ A 6 0 = A 6 0 then a else _)
            rw [if_neg (by omega), if_pos ⟨rfl, rfl⟩]
          · rw [c304, ts_up_eq]
            show nI b = nI (if 2 = 0 ∧ A 6 0 = A 6 0 then k else if 2 = 1 ∧ A 6 0 = A 6 0 then a else if 2 = 2 ∧ A 6 0 = A 6 0 then b else _)
            rw [if_neg (by omega), if_neg (by omega), if_pos ⟨rfl, rfl⟩]
          · rw [c305, ts_up_eq]
            show nI l = nI (if 3 = 0 ∧ A 6 0 = A 6 0 then k else if 3 = 1 ∧ A 6 0 = A 6 0 then a else if 3 = 2 ∧ A 6 0 = A 6 0 then b else if 3 = 3 ∧ A 6 0 = A 6 0 then l else _)
            rw [if_neg (by omega), if_neg (by omega), if_neg (by omega), if_pos ⟨rfl, rfl⟩]
        · have e0 : ∀ c, c ≤ 3 → ts_aT A k a b l c t = A c t := fun c hc => by
            unfold ts_aT
            rw [if_neg (fun x => e x.2), if_neg (fun x => e x.2), if_neg (fun x => e x.2), if_neg (fun x => e x.2), if_neg (by omega)]
          have z := fT t (by omega)
          rw [e0 0 (by omega), e0 1 (by omega), e0 2 (by omega), e0 3 (by omega)]
          refine ⟨by rw [y4, ts_uk_s e]; exact z.1, by rw [c303, ts_up_s e]; exact z.2.1, by rw [c304, ts_up_s e]; exact z.2.2.1, by rw [c305, ts_up_s e]; exact z.2.2.2.1, y.1, y.2.1, y.2.2⟩
    · -- too many
      have e1 : ts_t1 tp (A 6 0) p = (3, p) := by
        unfold ts_t1
        rw [if_neg k0, if_pos (by omega)]
      refine c_failed (f := 3) hX (fun hi2 x2 => ⟨Or.inl rfl, ?_⟩)
      have e7 := ts_t7_1 (tp := tp) (n := A 6 0) (p := p) (by rw [e1]; simp)
      refine bad _ _ _ e7.symm (by rw [e1]; simp) (by rw [e1]; exact h.fail rfl x2) ⟨fun b b1 b2 => by rw [x2]; funext s; rw [ts_up_a b1], fun _ _ => rfl, hK⟩
