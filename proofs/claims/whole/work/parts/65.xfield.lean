/-! the class's field -/
theorem ts_XI.read {S : ts_S} {A' : ts_A} {B' : List ts_A} {fa : Nat} {tp : List Nat} {hi hi' : ts_I} {hk hk' : ts_K} (h : ts_XI S hi hk) (hR : ts_FR 291 A' hi' hk') (hK : ts_FK 291 hk') (hD : ts_FK 301 hk') (hB : ts_XB B' hi' hk') (e : ∀ b, b ≠ 1 → b ≠ 3 → (b < 291 ∨ 310 < b) → hi' b = hi b) (e1 : ∀ s, s ≠ 10 → s ≠ 11 → s ≠ 12 → hi' 1 s = hi 1 s) (e10 : hi' 1 10 = nI fa) (hT : ts_Li tp 3 1 4 hi') (ek : ∀ b, b ≠ 292 → b ≠ 302 → hk' b = hk b) : ts_XI ((S.setF A' B').setT fa tp) hi' hk' := by
  obtain ⟨h1, -, h3, h4, h5, h6, h7, h8, k1, k2, k3, k4⟩ := h
  refine ⟨hR, hB, fun k hk2 => (h3 k hk2).of (fun b x1 x2 => e b (by omega) (by omega) (by omega)) (ek _ (by omega) (by omega)), fun r hr => ?_, by rw [e1 9 (by omega) (by omega) (by omega)]; exact h5, e10, hT, h8.of (by rw [e 5 (by omega) (by omega) (by omega)]) (e 6 (by omega) (by omega) (by omega)), fun q hq => by rw [e _ (by omega) (by omega) (by omega)]; exact k1 q hq, ?_, fun j hj => ?_, fun j hj => (k4 j hj).of (ek _ (by omega) (by omega))⟩
  · rw [e (15 + 2 * r) (by omega) (by omega) (by omega), e (16 + 2 * r) (by omega) (by omega) (by omega)]
    exact h4 r hr
  · unfold ts_KA
    rw [ek 7 (by omega) (by omega)]
    exact k2
  · by_cases hj2 : j = 26
    · rw [hj2]; exact hK
    · by_cases hj3 : j = 27
      · rw [hj3]; exact hD
      · exact (k3 j hj).of (ek _ (by omega) (by omega))
theorem ts_XB.of {B : List ts_A} {hi hi' : ts_I} {hk hk' : ts_K} (h : ts_XB B hi hk) (e : ∀ b, 31 ≤ b → b ≤ 270 → hi' b = hi b) (e1 : hi' 1 11 = hi 1 11) (e2 : hi' 1 12 = hi 1 12) (ek : ∀ b, 31 ≤ b → b ≤ 270 → hk' b = hk b) : ts_XB B hi' hk' := by
  obtain ⟨p, p1, p2, p3, p4⟩ := h
  exact ⟨p, p1, by rw [e1]; exact p2, by rw [e2]; exact p3, fun i A hA => (p4 i A hA).of (fun b y1 y2 => e b (by omega) (by omega)) (ek _ (by omega) (by omega))⟩
theorem x_field {d : Nat} {g : ts_G} {S : ts_S} {hi : ts_I} {hk : ts_K} {Q : Int32 → ts_I → ts_K → Prop} (hX : ts_LX g) (hS : ts_SV S) (h : ts_XI S hi hk) (q : ts_QX (ts_s_field S) hi Q) : ts_E0 (d + 25) mX11_field [.ref 1] g hi hk (ts_qi Q) := by
  refine ts_E0.of plX11_field rfl (Nat.le_of_ble_eq_true rfl) ?_
  refine wX11_field_0 ?_
  unfold ts_s_field at q
  have ht := h.2.2.2.2.2.2.1
  have hl := hS.2.2.2.2.2.2.2.1
  simp only [ts_LX.s0 hX, ts_LX.s1 hX, ts_LX.s2 hX, ts_LX.s3 hX, ts_LX.s4 hX, ts_LX.s5 hX, ts_LX.s6 hX, ts_LX.s7 hX, ts_LX.s8 hX, ts_LX.s9 hX, ts_LX.s10 hX, ts_LX.s11 hX, ts_LX.s12 hX, ts_LX.s13 hX, ts_LX.s14 hX, ts_LX.s15 hX, ts_LX.s16 hX, ts_LX.s17 hX, ts_LX.s18 hX, ts_LX.s19 hX, ts_LX.s20 hX, ts_LX.s21 hX, ts_LX.s22 hX, ts_LX.s23 hX, ts_LX.s24 hX, ts_LX.s25 hX, ts_LX.s26 hX, ts_LX.s27 hX, ts_LX.s28 hX, ts_LX.s29 hX, ts_LX.s30 hX, ts_LX.s31 hX, ts_LX.s32 hX, ts_LX.s33 hX, ts_LX.s34 hX, ts_LX.s35 hX, ts_LX.s36 hX, ts_LX.s37 hX, ts_LX.s38 hX]
  refine ⟨trivial, by omega, by omega, by omega, trivial, c_readInto hX ht hl.1 hl.2 h.2.2.2.2.2.2.2.2.2.1 (h.fk (j := 27) (by omega)) (fun hi2 hk2 hP hXF hD hpl hfl hi9 x9 => ?_)⟩
  have o9 : ∀ b, b ≠ 3 → hi9 b = hi2 b := fun b hb => by rw [x9]; funext s; rw [ts_up_a hb]
  by_cases w : (ts_rd S.tp).1.1 = 0
  · rw [if_pos w] at q ⊢
    refine ⟨fun _ => ⟨by omega, hX.now.kd, c_become hX.kl hX.now hX.dra (by omega) ((hD w).1.1.of (fun b y1 y2 => o9 b (by omega)) rfl) hXF.2.2 (hD w).2.1 (fun hi12 hk13 hR hK ho hok hi15 x15 => ?_)⟩, fun e => absurd (by decide) e⟩
    have o15 : ∀ b, b ≠ 1 → b ≠ 3 → (b < 291 ∨ 310 < b) → hi15 b = hi b := fun b b1 b2 b3 => by rw [x15]; funext s; rw [ts_up_a b1, ho b (by omega), o9 b b2, hXF.1 b b2 (by omega)]
    have c1 : ∀ s, s ≠ 12 → hi15 1 s = hi 1 s := fun s hs => by rw [x15, ts_up_s hs, ho 1 (by omega), o9 1 (by omega), hXF.1 1 (by omega) (by omega)]
    have c3 : hi15 3 1 = nI 0 := by rw [x15, ts_up_a (by omega), ho 3 (by omega), x9, ts_up_eq]; rfl
    have hR' : ts_FR 291 (ts_rd S.tp).2 hi15 hk13 := hR.of (fun b y1 y2 => by rw [x15]; funext s; rw [ts_up_a (by omega)]) rfl
    rw [hR'.1]
    obtain ⟨p, p1, p2, p3, p4⟩ := h.2.1
    refine q hi15 hk13 (h.read hR' hK (hXF.2.2.of (hok 302 (by omega))) ⟨p, p1, by rw [c1 11 (by omega)]; exact p2, by rw [x15, ts_up_eq]; rfl, fun i A hA => by cases hA⟩ o15 (fun s _ _ s3 => c1 s s3) (by rw [c1 10 (by omega)]; exact h.2.2.2.2.2.1) ⟨c3, fun i b hb => by cases hb⟩ (fun b b1 b2 => by rw [hok b (by omega), hXF.2.1 b b2])) (fun b hb => o15 b (by omega) (by omega) (by omega))
  · rw [if_neg w] at q ⊢
    refine ⟨fun e => absurd rfl e, fun _ hi16 x16 => ?_⟩
    have o16 : ∀ b, b ≠ 1 → b ≠ 3 → (b < 291 ∨ 310 < b) → hi16 b = hi b := fun b b1 b2 b3 => by rw [x16]; funext s; rw [ts_up_a b1, o9 b b2, hXF.1 b b2 (by omega)]
    have c1 : ∀ s, s ≠ 10 → hi16 1 s = hi 1 s := fun s hs => by rw [x16, ts_up_s hs, o9 1 (by omega), hXF.1 1 (by omega) (by omega)]
    have c2 : hi16 3 2 = nI (ts_rd S.tp).1.2 := by rw [x16, ts_up_a (by omega), x9, ts_up_s (by omega)]; exact hP.1
    have c3 : hi16 3 1 = nI 0 := by rw [x16, ts_up_a (by omega), x9, ts_up_eq]; rfl
    have c10 : hi16 1 10 = nI (ts_rd S.tp).1.1 := by rw [x16, ts_up_eq, x9, ts_up_s (by omega)]; exact hP.2.1 w
    rw [c2]
    exact q hi16 hk2 (h.read (A' := S.A) (B' := S.B) (h.1.of (fun b y1 y2 => by rw [x16]; funext s; rw [ts_up_a (by omega), o9 b (by omega), hXF.1 b (by omega) (by omega)]) (hXF.2.1 292 (by omega))) ((h.fk (j := 26) (by omega)).of (hXF.2.1 292 (by omega))) hXF.2.2 (h.2.1.of (fun b y1 y2 => o16 b (by omega) (by omega) (by omega)) (c1 11 (by omega)) (c1 12 (by omega)) (fun b y1 y2 => hXF.2.1 b (by omega))) o16 (fun s s1 _ _ => c1 s s1) c10 ⟨c3, fun i b hb => by cases hb⟩ (fun b b1 b2 => hXF.2.1 b b2)) (fun b hb => o16 b (by omega) (by omega) (by omega))
theorem ts_tA62 (tp : List Nat) (p : Nat) (A : ts_A) : ts_tA tp p A 6 2 = A 6 2 := by
  unfold ts_tA
  split
  · rfl
  · rfl
theorem ts_tA60 {tp : List Nat} {p : Nat} {A : ts_A} (h : (ts_t7 tp (A 6 0) p).1 = 0) : ts_tA tp p A 6 0 = A 6 0 + 1 := by
  unfold ts_tA
  rw [if_pos h]
  rfl
theorem ts_tA61 {tp : List Nat} {p n : Nat} {A : ts_A} (hn : A 6 0 = n) (h : (ts_t7 tp n p).1 = 0) : 1 ≤ ts_tA tp p A 6 0 := by
  subst hn
  rw [ts_tA60 h]
  omega
theorem ts_lp_ok {tp : List Nat} : ∀ k (w : Nat × Nat) (A : ts_A), w.2 ≤ tp.length → w.1 ≤ 3 → ts_oA A → (w.1 = 0 → 1 ≤ A 6 0) → 1 ≤ A 6 2 → ts_oA (ts_lp tp k w A).2 ∧ ((ts_lp tp k w A).1.1 = 0 → 1 ≤ (ts_lp tp k w A).2 6 0) ∧ 1 ≤ (ts_lp tp k w A).2 6 2 ∧ (ts_lp tp k w A).1.1 ≤ 3 := by
  intro k
  induction k with
  | zero => intro w A h1 h2 h3 h4 h5; exact ⟨h3, h4, h5, h2⟩
  | succ k ih =>
    intro w A h1 h2 h3 h4 h5
    rw [ts_lp]
    by_cases c : w.1 ≠ 0 ∨ tp.length ≤ w.2
    · rw [if_pos c]; exact ⟨h3, h4, h5, h2⟩
    · rw [if_neg c]
      have z := ts_t_len (n := A 6 0) h1
      exact ih _ _ z.2.2.2.2.2.1 z.2.2.2.2.2.2 (ts_oA_tA h3) (fun e => by rw [ts_tA60 e]; omega) (by rw [ts_tA62]; exact h5)
theorem ts_rd_ok (tp : List Nat) : (ts_rd tp).1.1 ≤ 3 ∧ ((ts_rd tp).1.1 = 0 → ts_oA (ts_rd tp).2 ∧ 1 ≤ (ts_rd tp).2 6 0 ∧ 1 ≤ (ts_rd tp).2 6 2) := by
  unfold ts_rd
  have hw := ts_w_len tp
  by_cases c : (ts_w5 tp).1 ≠ 0
  · rw [if_pos c]
    exact ⟨hw.2.2.2.2.2, fun e => absurd e c⟩
  · rw [if_neg c]
    obtain ⟨n1, n2, n3⟩ := ts_w5_w (Decidable.not_not.mp c)
    have z := ts_t_len (n := 0) hw.2.2.2.2.1
    have y := ts_lp_ok 90 (ts_t7 tp 0 (ts_w5 tp).2) (ts_tA tp (ts_w5 tp).2 (ts_A0 (ts_nv tp (ts_w1 tp).2) (ts_nv tp (ts_w3 tp).2))) z.2.2.2.2.2.1 z.2.2.2.2.2.2 (ts_oA_tA (ts_oA0 n2 n3)) (fun e => ts_tA61 (n := 0) rfl e) (by rw [ts_tA62]; exact n1)
    exact ⟨y.2.2.2, fun e => ⟨y.1, y.2.1 e, y.2.2.1⟩⟩
theorem v_field {S : ts_S} (hS : ts_SV S) : ts_SV (ts_s_field S).2 := by
  have z := ts_rd_ok S.tp
  obtain ⟨s1, s2, s3, s4, s5, s6, s7, s8, s9⟩ := hS
  unfold ts_s_field
  by_cases c : (ts_rd S.tp).1.1 = 0
  · rw [if_pos c]
    obtain ⟨y1, y2, y3⟩ := z.2 c
    exact ⟨⟨y1.ok, by rw [show ((S.setF (ts_rd S.tp).2 []).setT S.fa []).A = (ts_rd S.tp).2 from rfl, y1.2.1]; omega, by rw [show ((S.setF (ts_rd S.tp).2 []).setT S.fa []).A = (ts_rd S.tp).2 from rfl]; omega⟩, (fun A hA => by cases hA), Nat.zero_le _, s4, s5, s6, s7, ⟨Nat.zero_le _, fun b hb => by cases hb⟩, s9⟩
  · rw [if_neg c]
    exact ⟨s1, s2, s3, s4, s5, s6, z.1, ⟨Nat.zero_le _, fun b hb => by cases hb⟩, s9⟩
