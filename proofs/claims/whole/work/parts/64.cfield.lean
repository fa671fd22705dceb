/-! the class reads a whole text -/
theorem ts_w5_4 {tp : List Nat} (h : (ts_w4 tp).1 ≠ 0) : ts_w5 tp = ts_w4 tp := ts_sn_st h
theorem ts_w5_3 {tp : List Nat} (h : (ts_w3 tp).1 ≠ 0) : ts_w5 tp = ts_w3 tp := by
  have e : ts_w4 tp = ts_w3 tp := ts_nu_st h
  rw [ts_w5_4 (by rw [e]; exact h), e]
theorem ts_w5_2 {tp : List Nat} (h : (ts_w2 tp).1 ≠ 0) : ts_w5 tp = ts_w2 tp := by
  have e : ts_w3 tp = ts_w2 tp := ts_sn_st h
  rw [ts_w5_3 (by rw [e]; exact h), e]
theorem ts_w5_1 {tp : List Nat} (h : (ts_w1 tp).1 ≠ 0) : ts_w5 tp = ts_w1 tp := by
  have e : ts_w2 tp = ts_w1 tp := ts_nu_st h
  rw [ts_w5_2 (by rw [e]; exact h), e]
theorem ts_w_len (tp : List Nat) : (ts_w1 tp).2 ≤ tp.length ∧ (ts_w2 tp).2 ≤ tp.length ∧ (ts_w3 tp).2 ≤ tp.length ∧ (ts_w4 tp).2 ≤ tp.length ∧ (ts_w5 tp).2 ≤ tp.length ∧ (ts_w5 tp).1 ≤ 3 := by
  have h1 : (ts_w1 tp).2 ≤ tp.length := ts_sn_len (by decide) (Nat.zero_le _)
  have h2 : (ts_w2 tp).2 ≤ tp.length := ts_nu_len h1
  have h3 : (ts_w3 tp).2 ≤ tp.length := ts_sn_len (by decide) h2
  have h4 : (ts_w4 tp).2 ≤ tp.length := ts_nu_len h3
  have h5 : (ts_w5 tp).2 ≤ tp.length := ts_sn_len (by decide) h4
  exact ⟨h1, h2, h3, h4, h5, ts_sn_f (ts_nu_f (ts_sn_f (ts_nu_f (ts_sn_f (Nat.zero_le _)))))⟩
/-- the law's numbers, well read -/
theorem ts_w5_w {tp : List Nat} (h : (ts_w5 tp).1 = 0) : 1 ≤ ts_nv tp (ts_w1 tp).2 ∧ ts_nv tp (ts_w1 tp).2 ≤ 9 ∧ ts_nv tp (ts_w3 tp).2 ≤ 15 := by
  have h4 := ts_sn_w h
  have h3 := ts_nu_w h4.1
  have h2 := ts_sn_w h3.1
  have h1 := ts_nu_w h2.1
  have z1 := (ts_nm0 h1.2.1).2
  have z3 := (ts_nm0 h3.2.1).2
  exact ⟨z1.1, z1.2, z3.2⟩
theorem ts_oA0 {gr fr : Nat} (h1 : gr ≤ 9) (h2 : fr ≤ 15) : ts_oA (ts_A0 gr fr) := ⟨Nat.zero_le _, rfl, h1, h2, fun t => ⟨rfl, rfl, rfl⟩, fun t ht => absurd ht (Nat.not_lt_zero t)⟩
/-- an empty draft -/
def ts_X0 (hi : ts_I) : Prop := hi 301 9 = nI 0 ∧ hi 301 10 = nI 0 ∧ ∀ t, t < 7 → hi 306 t = -1 ∧ hi 307 t = nI t ∧ hi 308 t = nI t
theorem c_begin {d : Nat} {g : ts_G} {hi : ts_I} {hk : ts_K} {Q : ts_I → ts_K → Prop} (hX : ts_LX g) (q : ∀ hi', ts_X0 hi' → (∀ b, (b < 301 ∨ 310 < b) → hi' b = hi b) → Q hi' hk) : ts_E0 d mX1_begin [.ref 301] g hi hk (ts_qv Q) := by
  refine ts_E0.of plX1_begin rfl (Nat.le_of_ble_eq_true rfl) ?_
  have hF := hX.dra
  refine wX1_begin_0 ⟨hF.kd, fun hi2 x2 hi3 x3 => ?_⟩
  have o3 : ∀ b, b ≠ 301 → hi3 b = hi b := fun b hb => by rw [x3, x2]; funext s; rw [ts_up_a hb, ts_up_a hb]
  have L : ∀ n t hi', t + n = 7 → (∀ b, b ≠ 306 → b ≠ 307 → b ≠ 308 → hi' b = hi3 b) → (∀ s, s < t → hi' 306 s = -1 ∧ hi' 307 s = nI s ∧ hi' 308 s = nI s) → ts_J0 d mX1_begin (ts_qv Q) g 12 [(0, .ref 301), (1, .int (nI t))] [] hi' hk := by
    intro n
    induction n with
    | zero =>
      intro t hi' htn hO hI
      refine wX1_begin_12 ?_
      rw [ts_l7, ts_le (by omega) (by omega)]
      refine ⟨fun _ => q hi' ⟨?_, ?_, fun s hs => hI s (by omega)⟩ (fun b hb => by rw [hO b (by omega) (by omega) (by omega), o3 b (by omega)]), fun e => absurd (by omega) e⟩
      · rw [hO 301 (by omega) (by omega) (by omega), x3, ts_up_s (by omega), x2, ts_up_eq]; rfl
      · rw [hO 301 (by omega) (by omega) (by omega), x3, ts_up_eq]; rfl
    | succ n ih =>
      intro t hi' htn hO hI
      refine wX1_begin_12 ?_
      simp only [ts_FL.kd hF, ts_FL.k1 hF, ts_FL.k2 hF, ts_FL.k3 hF, ts_FL.k4 hF, ts_FL.k5 hF, ts_FL.k6 hF, ts_FL.k7 hF, ts_FL.k8 hF, ts_FL.k9 hF, ts_FL.l1 hF, ts_FL.l2 hF, ts_FL.l3 hF, ts_FL.l4 hF, ts_FL.l5 hF, ts_FL.l6 hF, ts_FL.l7 hF, ts_FL.l8 hF, ts_FL.l9 hF, ts_FL.o0 hF, ts_FL.o1 hF, ts_FL.o2 hF, ts_FL.o3 hF, ts_FL.o4 hF, ts_FL.o5 hF, ts_FL.o6 hF, ts_FL.o7 hF, ts_FL.o8 hF]
      rw [ts_l7, ts_le (by omega) (by omega), ts_cl (by omega), ts_l1, nI_add]
      refine ⟨fun e => absurd e (by omega), fun _ => ⟨trivial, by omega, trivial, ts_vin (by omega) (by omega), fun hi4 x4 => ⟨by omega, trivial, ts_vin (by omega) (by omega), fun hi5 x5 => ⟨by omega, trivial, ts_vin (by omega) (by omega), fun hi6 x6 => ?_⟩⟩⟩⟩
      have c6 : hi6 306 = ts_up hi' 306 t (-1) 306 := by rw [x6, x5, x4]; funext s; rw [ts_up_a (by omega), ts_up_a (by omega)]; rfl
      have c7 : hi6 307 = ts_up hi' 307 t (nI t) 307 := by
        rw [x6]; funext s
        rw [ts_up_a (by omega), x5]
        by_cases es : s = t
        · rw [es, ts_up_eq, ts_up_eq]
        · rw [ts_up_s es, ts_up_s es, x4, ts_up_a (by omega)]
      have c8 : hi6 308 = ts_up hi' 308 t (nI t) 308 := by
        rw [x6]; funext s
        by_cases es : s = t
        · rw [es, ts_up_eq, ts_up_eq]
        · rw [ts_up_s es, ts_up_s es, x5, ts_up_a (by omega), x4, ts_up_a (by omega)]
      refine ih (t + 1) hi6 (by omega) (fun b b1 b2 b3 => by rw [x6, x5, x4]; funext s; rw [ts_up_a b3, ts_up_a b2, ts_up_a b1, hO b b1 b2 b3]) (fun s hs => ?_)
      rw [c6, c7, c8]
      by_cases es : s = t
      · subst es
        rw [ts_up_eq, ts_up_eq, ts_up_eq]
        exact ⟨rfl, rfl, rfl⟩
      · rw [ts_up_s es, ts_up_s es, ts_up_s es]
        exact hI s (by omega)
  exact L 7 0 hi3 (by omega) (fun _ _ _ _ => rfl) (fun s hs => by omega)
theorem c_XreadLaw {d : Nat} {tp : List Nat} {g : ts_G} {hi0 hi : ts_I} {hk : ts_K} {Q : Int32 → ts_I → ts_K → Prop} (hX : ts_LX g) (hT : ts_Li tp 3 1 4 hi0) (hl : tp.length ≤ 90) (hb : ∀ b, b ∈ tp → b ≤ 255) (hD : ts_X0 hi) (h : ts_XP (0, 0) hi0 hi)
    (q : ∀ hi', ts_XP (ts_w5 tp) hi0 hi' → (∀ b, b ≠ 3 → b ≠ 301 → hi' b = hi b) → ((ts_w5 tp).1 = 0 → ts_XD (ts_A0 (ts_nv tp (ts_w1 tp).2) (ts_nv tp (ts_w3 tp).2)) hi' hk) → Q (if (ts_w5 tp).1 = 0 then 1 else 0) hi' hk) : ts_E0 (d + 3) mX9_readLaw [.ref 3, .ref 301] g hi hk (ts_qi Q) := by
  refine ts_E0.of plX9_readLaw rfl (Nat.le_of_ble_eq_true rfl) ?_
  refine wX9_readLaw_0 ?_
  have hF := hX.dra
  have hlen := ts_w_len tp
  simp only [ts_LX.s0 hX, ts_LX.s1 hX, ts_LX.s2 hX, ts_LX.s3 hX, ts_LX.s4 hX, ts_LX.s5 hX, ts_LX.s6 hX, ts_LX.s7 hX, ts_LX.s8 hX, ts_LX.s9 hX, ts_LX.s10 hX, ts_LX.s11 hX, ts_LX.s12 hX, ts_LX.s13 hX, ts_LX.s14 hX, ts_LX.s15 hX, ts_LX.s16 hX, ts_LX.s17 hX, ts_LX.s18 hX, ts_LX.s19 hX, ts_LX.s20 hX, ts_LX.s21 hX, ts_LX.s22 hX, ts_LX.s23 hX, ts_LX.s24 hX, ts_LX.s25 hX, ts_LX.s26 hX, ts_LX.s27 hX, ts_LX.s28 hX, ts_LX.s29 hX, ts_LX.s30 hX, ts_LX.s31 hX, ts_LX.s32 hX, ts_LX.s33 hX, ts_LX.s34 hX, ts_LX.s35 hX, ts_LX.s36 hX, ts_LX.s37 hX, ts_LX.s38 hX, ts_FL.kd hF, ts_FL.k1 hF, ts_FL.k2 hF, ts_FL.k3 hF, ts_FL.k4 hF, ts_FL.k5 hF, ts_FL.k6 hF, ts_FL.k7 hF, ts_FL.k8 hF, ts_FL.k9 hF, ts_FL.l1 hF, ts_FL.l2 hF, ts_FL.l3 hF, ts_FL.l4 hF, ts_FL.l5 hF, ts_FL.l6 hF, ts_FL.l7 hF, ts_FL.l8 hF, ts_FL.l9 hF, ts_FL.o0 hF, ts_FL.o1 hF, ts_FL.o2 hF, ts_FL.o3 hF, ts_FL.o4 hF, ts_FL.o5 hF, ts_FL.o6 hF, ts_FL.o7 hF, ts_FL.o8 hF]
  have bad : ∀ w hi', w = ts_w5 tp → w.1 ≠ 0 → ts_XP w hi0 hi' → (∀ b, b ≠ 3 → b ≠ 301 → hi' b = hi b) → Q 0 hi' hk := fun w hi' ew hw hx hf => by
    have z := q hi' (by rw [← ew]; exact hx) hf (fun e => absurd e (by rw [← ew]; exact hw))
    rw [if_neg (by rw [← ew]; exact hw)] at z
    exact z
  refine ⟨trivial, c_Xsign (c := 103) hX hT hl hb (by omega) (by omega) h (fun hi2 h2 o2 => ?_)⟩
  have e1 : ts_sn tp 103 (0, 0) = ts_w1 tp := rfl
  rw [e1] at h2 ⊢
  by_cases w1 : (ts_w1 tp).1 ≠ 0
  · rw [if_neg w1]
    exact ⟨fun _ => bad _ _ (ts_w5_1 w1).symm w1 h2 (fun b b1 _ => o2 b b1), fun e => absurd rfl e⟩
  replace w1 := Decidable.not_not.mp w1
  rw [if_pos w1]
  rw [ts_p0 w1] at h2
  have e2 : ts_w2 tp = ts_nu tp 1 9 (0, (ts_w1 tp).2) := by unfold ts_w2; rw [ts_p0 w1]
  refine ⟨fun e => absurd e (by decide), fun _ => c_Xnumber (lo := 1) (up := 9) hX hT hl hb (by omega) (by omega) (by omega) h2 (fun hi3 h3 o3 v3 => ?_)⟩
  rw [← e2] at h3 v3 ⊢
  by_cases w2 : (ts_w2 tp).1 ≠ 0
  · rw [if_neg w2]
    exact ⟨fun e => absurd rfl e, fun _ => bad _ _ (ts_w5_2 w2).symm w2 h3 (fun b b1 _ => by rw [o3 b b1, o2 b b1])⟩
  replace w2 := Decidable.not_not.mp w2
  rw [if_pos w2]
  refine ⟨fun _ => ⟨trivial, fun hi4 x4 => ?_⟩, fun e => absurd (by decide) e⟩
  rw [v3 w2] at x4
  have h4 : ts_XP (0, (ts_w2 tp).2) hi0 hi4 := by
    rw [ts_p0 w2] at h3
    exact h3.of (by rw [x4]; funext s; rw [ts_up_a (by omega)]) (by rw [x4]; funext s; rw [ts_up_a (by omega)])
  have o4 : ∀ b, b ≠ 3 → b ≠ 301 → hi4 b = hi b := fun b b1 b2 => by rw [x4]; funext s; rw [ts_up_a b2, o3 b b1, o2 b b1]
  have e3 : ts_w3 tp = ts_sn tp 44 (0, (ts_w2 tp).2) := by unfold ts_w3; rw [ts_p0 w2]
  refine c_Xsign (c := 44) hX hT hl hb (by omega) (by omega) h4 (fun hi5 h5 o5 => ?_)
  rw [← e3] at h5 ⊢
  by_cases w3 : (ts_w3 tp).1 ≠ 0
  · rw [if_neg w3]
    exact ⟨fun _ => bad _ _ (ts_w5_3 w3).symm w3 h5 (fun b b1 b2 => by rw [o5 b b1, o4 b b1 b2]), fun e => absurd rfl e⟩
  replace w3 := Decidable.not_not.mp w3
  rw [if_pos w3]
  rw [ts_p0 w3] at h5
  have e4 : ts_w4 tp = ts_nu tp 0 15 (0, (ts_w3 tp).2) := by unfold ts_w4; rw [ts_p0 w3]
  refine ⟨fun e => absurd e (by decide), fun _ => c_Xnumber (lo := 0) (up := 15) hX hT hl hb (by omega) (by omega) (by omega) h5 (fun hi6 h6 o6 v6 => ?_)⟩
  rw [← e4] at h6 v6 ⊢
  by_cases w4 : (ts_w4 tp).1 ≠ 0
  · rw [if_neg w4]
    exact ⟨fun e => absurd rfl e, fun _ => bad _ _ (ts_w5_4 w4).symm w4 h6 (fun b b1 b2 => by rw [o6 b b1, o5 b b1, o4 b b1 b2])⟩
  replace w4 := Decidable.not_not.mp w4
  rw [if_pos w4]
  refine ⟨fun _ => fun hi7 x7 => ?_, fun e => absurd (by decide) e⟩
  rw [v6 w4] at x7
  have h7 : ts_XP (0, (ts_w4 tp).2) hi0 hi7 := by
    rw [ts_p0 w4] at h6
    exact h6.of (by rw [x7]; funext s; rw [ts_up_a (by omega)]) (by rw [x7]; funext s; rw [ts_up_a (by omega)])
  have o7 : ∀ b, b ≠ 3 → b ≠ 301 → hi7 b = hi b := fun b b1 b2 => by rw [x7]; funext s; rw [ts_up_a b2, o6 b b1, o5 b b1, o4 b b1 b2]
  have e5 : ts_w5 tp = ts_sn tp 59 (0, (ts_w4 tp).2) := by unfold ts_w5; rw [ts_p0 w4]
  refine c_Xsign (c := 59) hX hT hl hb (by omega) (by omega) h7 (fun hi8 h8 o8 => ?_)
  rw [← e5] at h8 ⊢
  refine ⟨?_, q hi8 h8 (fun b b1 b2 => by rw [o8 b b1, o7 b b1 b2]) (fun w5 => ?_)⟩
  · by_cases c : (ts_w5 tp).1 = 0
    · rw [if_pos c]; exact Or.inr rfl
    · rw [if_neg c]; exact Or.inl rfl
  obtain ⟨d1, d2, d3⟩ := hD
  have s8 : ∀ s, s ≠ 11 → s ≠ 12 → hi8 301 s = hi 301 s := fun s s1 s2 => by rw [o8 301 (by omega), x7, ts_up_s s2, o6 301 (by omega), o5 301 (by omega), x4, ts_up_s s1, o3 301 (by omega), o2 301 (by omega)]
  refine ⟨⟨?_, ?_, ?_, ?_, fun t ht => absurd ht (Nat.not_lt_zero t)⟩, fun t ht => by rw [o8 306 (by omega), o8 307 (by omega), o8 308 (by omega), o7 306 (by omega) (by omega), o7 307 (by omega) (by omega), o7 308 (by omega) (by omega)]; exact d3 t ht⟩
  · rw [s8 9 (by omega) (by omega)]; exact d1
  · rw [s8 10 (by omega) (by omega)]; exact d2
  · rw [o8 301 (by omega), x7, ts_up_s (by omega), o6 301 (by omega), o5 301 (by omega), x4, ts_up_eq]; rfl
  · rw [o8 301 (by omega), x7, ts_up_eq]; rfl
theorem ts_XF.trans {hi hi' hi'' : ts_I} {hk hk' hk'' : ts_K} (h1 : ts_XF hi hk hi' hk') (h2 : ts_XF hi' hk' hi'' hk'') : ts_XF hi hk hi'' hk'' := ⟨fun b b1 b2 => (h2.1 b b1 b2).trans (h1.1 b b1 b2), fun b hb => (h2.2.1 b hb).trans (h1.2.1 b hb), h2.2.2⟩
theorem ts_KA.of {hk hk' : ts_K} (h : ts_KA hk) (e : hk' 7 = hk 7) : ts_KA hk' := by
  unfold ts_KA
  rw [e]
  exact h
theorem c_readInto {d : Nat} {tp : List Nat} {g : ts_G} {hi : ts_I} {hk : ts_K} {Q : Int32 → ts_I → ts_K → Prop} (hX : ts_LX g) (hT : ts_Li tp 3 1 4 hi) (hl : tp.length ≤ 90) (hb : ∀ b, b ∈ tp → b ≤ 255) (hKA : ts_KA hk) (hK : ts_FK 301 hk)
    (q : ∀ hi' hk', ts_XP (ts_rd tp).1 hi hi' → ts_XF hi hk hi' hk' → ((ts_rd tp).1.1 = 0 → ts_XD (ts_rd tp).2 hi' hk' ∧ ts_oA (ts_rd tp).2) → (ts_rd tp).1.2 ≤ 90 → (ts_rd tp).1.1 ≤ 3 → Q (if (ts_rd tp).1.1 = 0 then 1 else 0) hi' hk') : ts_E0 (d + 4) mX9_readInto [.ref 3, .ref 301, .ref 7] g hi hk (ts_qi Q) := by
  refine ts_E0.of plX9_readInto rfl (Nat.le_of_ble_eq_true rfl) ?_
  refine wX9_readInto_0 ?_
  have hF := hX.dra
  have hlen := ts_w_len tp
  simp only [ts_LX.s0 hX, ts_LX.s1 hX, ts_LX.s2 hX, ts_LX.s3 hX, ts_LX.s4 hX, ts_LX.s5 hX, ts_LX.s6 hX, ts_LX.s7 hX, ts_LX.s8 hX, ts_LX.s9 hX, ts_LX.s10 hX, ts_LX.s11 hX, ts_LX.s12 hX, ts_LX.s13 hX, ts_LX.s14 hX, ts_LX.s15 hX, ts_LX.s16 hX, ts_LX.s17 hX, ts_LX.s18 hX, ts_LX.s19 hX, ts_LX.s20 hX, ts_LX.s21 hX, ts_LX.s22 hX, ts_LX.s23 hX, ts_LX.s24 hX, ts_LX.s25 hX, ts_LX.s26 hX, ts_LX.s27 hX, ts_LX.s28 hX, ts_LX.s29 hX, ts_LX.s30 hX, ts_LX.s31 hX, ts_LX.s32 hX, ts_LX.s33 hX, ts_LX.s34 hX, ts_LX.s35 hX, ts_LX.s36 hX, ts_LX.s37 hX, ts_LX.s38 hX, ts_FL.kd hF, ts_FL.k1 hF, ts_FL.k2 hF, ts_FL.k3 hF, ts_FL.k4 hF, ts_FL.k5 hF, ts_FL.k6 hF, ts_FL.k7 hF, ts_FL.k8 hF, ts_FL.k9 hF, ts_FL.l1 hF, ts_FL.l2 hF, ts_FL.l3 hF, ts_FL.l4 hF, ts_FL.l5 hF, ts_FL.l6 hF, ts_FL.l7 hF, ts_FL.l8 hF, ts_FL.l9 hF, ts_FL.o0 hF, ts_FL.o1 hF, ts_FL.o2 hF, ts_FL.o3 hF, ts_FL.o4 hF, ts_FL.o5 hF, ts_FL.o6 hF, ts_FL.o7 hF, ts_FL.o8 hF]
  -- the rest of the turnips
  have L : ∀ k i (w : Nat × Nat) (A : ts_A) hi' hk', i + k = 90 → ts_XP w hi hi' → w.2 ≤ tp.length → w.1 ≤ 3 → ts_oA A → (w.1 = 0 → ts_XD A hi' hk') → ts_XF hi hk hi' hk' → ts_lp tp k w A = ts_rd tp → ts_J0 (d + 4) mX9_readInto (ts_qi Q) g 35 [(0, .ref 3), (1, .ref 301), (2, .ref 7), (3, .int (if w.1 = 0 then 1 else 0)), (4, .int (nI i))] [] hi' hk' := by
    intro k
    induction k with
    | zero =>
      intro i w A hi' hk' hik hP hw hw3 hA hD hXF hf
      refine wX9_readInto_35 ?_
      simp only [ts_LX.s0 hX, ts_LX.s1 hX, ts_LX.s2 hX, ts_LX.s3 hX, ts_LX.s4 hX, ts_LX.s5 hX, ts_LX.s6 hX, ts_LX.s7 hX, ts_LX.s8 hX, ts_LX.s9 hX, ts_LX.s10 hX, ts_LX.s11 hX, ts_LX.s12 hX, ts_LX.s13 hX, ts_LX.s14 hX, ts_LX.s15 hX, ts_LX.s16 hX, ts_LX.s17 hX, ts_LX.s18 hX, ts_LX.s19 hX, ts_LX.s20 hX, ts_LX.s21 hX, ts_LX.s22 hX, ts_LX.s23 hX, ts_LX.s24 hX, ts_LX.s25 hX, ts_LX.s26 hX, ts_LX.s27 hX, ts_LX.s28 hX, ts_LX.s29 hX, ts_LX.s30 hX, ts_LX.s31 hX, ts_LX.s32 hX, ts_LX.s33 hX, ts_LX.s34 hX, ts_LX.s35 hX, ts_LX.s36 hX, ts_LX.s37 hX, ts_LX.s38 hX]
      rw [ts_lp] at hf
      rw [← hf] at q
      have z := q hi' hk' hP hXF (fun e => ⟨hD e, hA⟩) (by show w.2 ≤ 90; omega) hw3
      have b01 : (if w.1 = 0 then (1 : Int32) else 0) = 0 ∨ (if w.1 = 0 then (1 : Int32) else 0) = 1 := by
        by_cases c : w.1 = 0
        · rw [if_pos c]; exact Or.inr rfl
        · rw [if_neg c]; exact Or.inl rfl
      refine ⟨fun _ => ⟨b01, z⟩, fun _ => ⟨trivial, fun _ => ⟨b01, z⟩, fun _ => ⟨fun _ => ⟨b01, z⟩, fun e => absurd ?_ e⟩⟩⟩
      rw [show (90 : Int32) = nI 90 from rfl, ts_le (by omega) (by omega)]
      omega
    | succ k ih =>
      intro i w A hi' hk' hik hP hw hw3 hA hD hXF hf
      refine wX9_readInto_35 ?_
      simp only [ts_LX.s0 hX, ts_LX.s1 hX, ts_LX.s2 hX, ts_LX.s3 hX, ts_LX.s4 hX, ts_LX.s5 hX, ts_LX.s6 hX, ts_LX.s7 hX, ts_LX.s8 hX, ts_LX.s9 hX, ts_LX.s10 hX, ts_LX.s11 hX, ts_LX.s12 hX, ts_LX.s13 hX, ts_LX.s14 hX, ts_LX.s15 hX, ts_LX.s16 hX, ts_LX.s17 hX, ts_LX.s18 hX, ts_LX.s19 hX, ts_LX.s20 hX, ts_LX.s21 hX, ts_LX.s22 hX, ts_LX.s23 hX, ts_LX.s24 hX, ts_LX.s25 hX, ts_LX.s26 hX, ts_LX.s27 hX, ts_LX.s28 hX, ts_LX.s29 hX, ts_LX.s30 hX, ts_LX.s31 hX, ts_LX.s32 hX, ts_LX.s33 hX, ts_LX.s34 hX, ts_LX.s35 hX, ts_LX.s36 hX, ts_LX.s37 hX, ts_LX.s38 hX]
      have hl1 : hi' 3 1 = nI tp.length := by rw [hP.2.2.1, hT.1]
      have hl2 : hi' 3 2 = nI w.2 := hP.1
      rw [hl1, hl2, ts_le (by omega) (by omega), show (90 : Int32) = nI 90 from rfl, ts_le (by omega) (by omega)]
      rw [ts_lp] at hf
      by_cases c : w.1 ≠ 0
      · rw [if_pos (Or.inl c)] at hf
        rw [← hf] at q
        have z := q hi' hk' hP hXF (fun e => ⟨hD e, hA⟩) (by show w.2 ≤ 90; omega) hw3
        have z' : Q (if w.1 = 0 then 1 else 0) hi' hk' := z
        rw [if_neg c] at z' ⊢
        exact ⟨fun _ => ⟨Or.inl rfl, z'⟩, fun e => absurd rfl e⟩
      · have c0 := Decidable.not_not.mp c
        by_cases c2 : tp.length ≤ w.2
        · rw [if_pos (Or.inr c2)] at hf
          rw [← hf] at q
          have z := q hi' hk' hP hXF (fun e => ⟨hD e, hA⟩) (by show w.2 ≤ 90; omega) hw3
          have z' : Q (if w.1 = 0 then 1 else 0) hi' hk' := z
          rw [if_pos c0] at z' ⊢
          exact ⟨fun e => absurd e (by decide), fun _ => ⟨trivial, fun _ => ⟨Or.inr rfl, z'⟩, fun e => absurd c2 e⟩⟩
        · rw [if_neg (fun x => by rcases x with x | x; exact c x; exact c2 x)] at hf
          rw [if_pos c0]
          refine ⟨fun e => absurd e (by decide), fun _ => ⟨trivial, fun e => absurd e c2, fun _ => ⟨fun e => absurd e (by omega), fun _ => ?_⟩⟩⟩
          rw [ts_p0 c0] at hP
          refine c_XreadTurnip hX hT hl hb hw (hKA.of (hXF.2.1 7 (by omega))) hXF.2.2 hA (hD c0) hP (fun hi2 hk2 hP2 hXF2 hD2 => ?_)
          have hlt := ts_t_len (n := A 6 0) hw
          rw [ts_l1, nI_add]
          exact ih (i + 1) _ _ hi2 hk2 (by omega) hP2 hlt.2.2.2.2.2.1 hlt.2.2.2.2.2.2 (ts_oA_tA hA) hD2 (hXF.trans hXF2) hf
  refine ⟨trivial, fun hi2 x2 => ⟨trivial, c_begin hX (fun hi3 hD3 o3 => ?_)⟩⟩
  have o3' : ∀ b, b ≠ 3 → (b < 301 ∨ 310 < b) → hi3 b = hi b := fun b b1 b2 => by rw [o3 b b2, x2]; funext s; rw [ts_up_a b1]
  have h3 : ts_XP (0, 0) hi hi3 := ⟨by rw [o3 3 (by omega), x2, ts_up_eq]; rfl, fun x => absurd rfl x, by rw [o3 3 (by omega), x2, ts_up_s (by omega)], by rw [o3' 4 (by omega) (by omega)]⟩
  refine c_XreadLaw hX hT hl hb hD3 h3 (fun hi4 h4 o4 hD4 => ?_)
  have hXF4 : ts_XF hi hk hi4 hk := ⟨fun b b1 b2 => by rw [o4 b b1 (by omega), o3' b b1 b2], fun _ _ => rfl, hK⟩
  have erd : ts_rd tp = if (ts_w5 tp).1 ≠ 0 then (ts_w5 tp, ts_A0 0 0) else ts_lp tp 90 (ts_t7 tp 0 (ts_w5 tp).2) (ts_tA tp (ts_w5 tp).2 (ts_A0 (ts_nv tp (ts_w1 tp).2) (ts_nv tp (ts_w3 tp).2))) := rfl
  by_cases w5 : (ts_w5 tp).1 ≠ 0
  · rw [if_pos w5] at erd
    rw [if_neg w5]
    have z := L 90 0 (ts_w5 tp) (ts_A0 0 0) hi4 hk (by omega) h4 hlen.2.2.2.2.1 hlen.2.2.2.2.2 (ts_oA0 (by omega) (by omega)) (fun e => absurd e w5) hXF4 (by rw [erd, ts_lp, if_pos (Or.inl w5)])
    rw [if_neg w5] at z
    exact ⟨fun _ => z, fun e => absurd rfl e⟩
  · rw [if_neg w5] at erd
    replace w5 := Decidable.not_not.mp w5
    rw [if_pos w5]
    rw [ts_p0 w5] at h4
    obtain ⟨n1, n2, n3⟩ := ts_w5_w w5
    have hA := ts_oA0 n2 n3
    refine ⟨fun e => absurd e (by decide), fun _ => c_XreadTurnip hX hT hl hb hlen.2.2.2.2.1 hKA hK hA (hD4 w5) h4 (fun hi5 hk5 hP5 hXF5 hD5 => ?_)⟩
    have hlt := ts_t_len (n := 0) hlen.2.2.2.2.1
    have z := L 90 0 _ _ hi5 hk5 (by omega) hP5 hlt.2.2.2.2.2.1 hlt.2.2.2.2.2.2 (ts_oA_tA hA) hD5 (hXF4.trans hXF5) erd.symm
    by_cases c : (ts_t7 tp 0 (ts_w5 tp).2).1 = 0
    · have z' := z
      rw [show (ts_t7 tp (ts_A0 (ts_nv tp (ts_w1 tp).2) (ts_nv tp (ts_w3 tp).2) 6 0) (ts_w5 tp).2).1 = (ts_t7 tp 0 (ts_w5 tp).2).1 from rfl, if_pos c] at z'
      rw [show (ts_t7 tp (ts_A0 (ts_nv tp (ts_w1 tp).2) (ts_nv tp (ts_w3 tp).2) 6 0) (ts_w5 tp).2).1 = (ts_t7 tp 0 (ts_w5 tp).2).1 from rfl, if_pos c]
      exact ⟨fun e => absurd e (by decide), fun _ => z'⟩
    · have z' := z
      rw [show (ts_t7 tp (ts_A0 (ts_nv tp (ts_w1 tp).2) (ts_nv tp (ts_w3 tp).2) 6 0) (ts_w5 tp).2).1 = (ts_t7 tp 0 (ts_w5 tp).2).1 from rfl, if_neg c] at z'
      rw [show (ts_t7 tp (ts_A0 (ts_nv tp (ts_w1 tp).2) (ts_nv tp (ts_w3 tp).2) 6 0) (ts_w5 tp).2).1 = (ts_t7 tp 0 (ts_w5 tp).2).1 from rfl, if_neg c]
      exact ⟨fun _ => z', fun e => absurd rfl e⟩
