/-! ways to marry: how the class goes through them -/
def ts_en (c : Nat) : Nat → Nat → List Nat → List (List Nat)
  | 0, _, ms => [ms]
  | j + 1, f, ms => ts_en c j (f + 1) ms ++ if ms.getD f 7 = 7 then (List.range (c - (f + 1))).flatMap (fun i => if ms.getD (f + 1 + i) 7 = 7 then ts_en c j (f + 1) ((ms.set f (f + 1 + i)).set (f + 1 + i) f) else []) else []
def ts_wm (A : ts_A) (ms : List Nat) : ts_A := fun c t => if c = 4 then ms.getD t 7 else A c t
def ts_wg (A : ts_A) (n : Nat) (w : Nat × List Nat) (ms : List Nat) : Nat × List Nat := if w.1 < ts_rk (ts_pn (ts_wm A ms) n) + 1 then (ts_rk (ts_pn (ts_wm A ms) n) + 1, ms) else w
def ts_iv (c : Nat) (ms : List Nat) : Prop := ms.length = 7 ∧ ∀ t, t < 7 → ms.getD t 7 = 7 ∨ (t < c ∧ ms.getD t 7 < c ∧ ms.getD (ms.getD t 7) 7 = t ∧ ms.getD t 7 ≠ t)
theorem ts_gs (l : List Nat) (i x t : Nat) : (l.set i x).getD t 7 = if t = i ∧ i < l.length then x else l.getD t 7 := by
  simp only [List.getD_eq_getElem?_getD, List.getElem?_set]
  by_cases h : i = t
  · subst h
    by_cases h2 : i < l.length
    · simp [h2]
    · simp [h2]
  · have h3 : ¬ t = i := fun e => h e.symm
    simp [h, h3]
theorem ts_iv_set {c f o : Nat} {ms : List Nat} (h : ts_iv c ms) (hc : c ≤ 7) (hfo : f < o) (ho : o < c) (h1 : ms.getD f 7 = 7) (h2 : ms.getD o 7 = 7) : ts_iv c ((ms.set f o).set o f) := by
  obtain ⟨hl, hT⟩ := h
  refine ⟨by simp [hl], fun t ht => ?_⟩
  have e : ∀ u, ((ms.set f o).set o f).getD u 7 = if u = o then f else if u = f then o else ms.getD u 7 := by
    intro u
    rw [ts_gs, ts_gs, List.length_set, hl]
    have a1 : o < 7 := by omega
    have a2 : f < 7 := by omega
    simp [a1, a2]
  rw [e t]
  by_cases t1 : t = o
  · rw [if_pos t1, e f, if_neg (by omega), if_pos rfl]
    exact Or.inr ⟨by omega, by omega, t1.symm, by omega⟩
  · rw [if_neg t1]
    by_cases t2 : t = f
    · rw [if_pos t2, e o, if_pos rfl]
      exact Or.inr ⟨by omega, by omega, t2.symm, by omega⟩
    · rw [if_neg t2]
      rcases hT t ht with z | z
      · exact Or.inl z
      · refine Or.inr ⟨z.1, z.2.1, ?_, z.2.2.2⟩
        rw [e]
        have n1 : ms.getD t 7 ≠ o := fun q => by rw [q, h2] at z; omega
        have n2 : ms.getD t 7 ≠ f := fun q => by rw [q, h1] at z; omega
        rw [if_neg n1, if_neg n2]
        exact z.2.2.1
theorem ts_ok_wm {A : ts_A} {ms : List Nat} (hA : ts_ok A) (h : ts_iv (A 6 0) ms) : ts_ok (ts_wm A ms) := by
  obtain ⟨a0, a1, a2, a3, aT⟩ := hA
  refine ⟨a0, a1, a2, a3, fun t ht => ?_⟩
  have z := aT t ht
  refine ⟨z.1, z.2.1, z.2.2.1, z.2.2.2.1, ?_, z.2.2.2.2.2⟩
  have ht' : t < A 6 0 := ht
  rcases h.2 t (by omega) with y | y
  · exact Or.inl y
  · exact Or.inr ⟨y.2.1, y.2.2.1, y.2.2.2⟩
def ts_mo (m : Nat) : Int32 := if m = 0 then -1 else nI (m - 1)
theorem ts_mo_le {r m : Nat} (hr : r < 1000) (hm : m < 1000) : (nI r ≤ ts_mo m) ↔ r + 1 ≤ m := by
  unfold ts_mo
  by_cases h : m = 0
  · rw [if_pos h, Int32.le_iff_toInt_le, nI_toInt (by omega)]
    have : (-1 : Int32).toInt = -1 := by decide
    omega
  · rw [if_neg h, ts_le (by omega) (by omega)]
    omega
/-- how the trials stand: the marriages ms, the best so far -/
def ts_PS (A : ts_A) (ms : List Nat) (w : Nat × List Nat) (hi : ts_I) (hk : ts_K) : Prop := ts_FR 291 A hi hk ∧ ts_FK 291 hk ∧ ts_FK 395 hk ∧ (∀ t, t < 7 → hi 313 t = ts_mI (ms.getD t 7)) ∧ w.1 ≤ 64 ∧ hi 311 6 = ts_mo w.1 ∧ (w.1 ≠ 0 → ∀ t, t < 7 → hi 314 t = ts_mI (w.2.getD t 7))
def ts_PF (hi : ts_I) (hk : ts_K) (hi' : ts_I) (hk' : ts_K) : Prop := (∀ b, b ≠ 311 → b ≠ 313 → b ≠ 314 → (b < 395 ∨ 404 < b) → hi' b = hi b) ∧ (∀ b, b ≠ 396 → hk' b = hk b) ∧ ∀ s, s ≠ 6 → hi' 311 s = hi 311 s
theorem ts_PF.trans {hi hi' hi'' : ts_I} {hk hk' hk'' : ts_K} (h1 : ts_PF hi hk hi' hk') (h2 : ts_PF hi' hk' hi'' hk'') : ts_PF hi hk hi'' hk'' :=
  ⟨fun b x1 x2 x3 x4 => (h2.1 b x1 x2 x3 x4).trans (h1.1 b x1 x2 x3 x4), fun b hb => (h2.2.1 b hb).trans (h1.2.1 b hb), fun s hs => (h2.2.2 s hs).trans (h1.2.2 s hs)⟩
theorem ts_PF.rf {hi : ts_I} {hk : ts_K} : ts_PF hi hk hi hk := ⟨fun _ _ _ _ _ => rfl, fun _ _ => rfl, fun _ _ => rfl⟩
theorem ts_FR.of {k : Nat} {A : ts_A} {hi hi' : ts_I} {hk hk' : ts_K} (h : ts_FR k A hi hk) (e : ∀ b, k ≤ b → b ≤ k + 7 → hi' b = hi b) (ek : hk' (k + 1) = hk (k + 1)) : ts_FR k A hi' hk' := by
  obtain ⟨h1, h2, h3, h4, hT⟩ := h
  refine ⟨by rw [e k (by omega) (by omega)]; exact h1, by rw [e k (by omega) (by omega)]; exact h2, by rw [e k (by omega) (by omega)]; exact h3, by rw [e k (by omega) (by omega)]; exact h4, fun t ht => ?_⟩
  rw [ek, e _ (by omega) (by omega), e _ (by omega) (by omega), e _ (by omega) (by omega), e _ (by omega) (by omega), e _ (by omega) (by omega), e _ (by omega) (by omega)]
  exact hT t ht
theorem ts_FK.of {k : Nat} {hk hk' : ts_K} (h : ts_FK k hk) (ek : hk' (k + 1) = hk (k + 1)) : ts_FK k hk' := by
  intro t ht
  rw [ek]
  exact h t ht
theorem c_weighPairs {d n : Nat} {g : ts_G} {A : ts_A} {ms : List Nat} {w : Nat × List Nat} {hi : ts_I} {hk : ts_K} {Q : ts_I → ts_K → Prop} (hX : ts_LX g) (hA : ts_ok A) (hn : A 6 1 + n ≤ 1000000) (hv : ts_iv (A 6 0) ms) (hP : ts_PS A ms w hi hk)
    (q : ∀ hi' hk', ts_PS A ms (ts_wg A n w ms) hi' hk' → ts_PF hi hk hi' hk' → Q hi' hk') : ts_E0 (d + 4) mX7_weighPairs [.ref 311, .int (nI n)] g hi hk (ts_qv Q) := by
  refine ts_E0.of plX7_weighPairs rfl (Nat.le_of_ble_eq_true rfl) ?_
  refine wX7_weighPairs_0 ?_
  have hT : ts_FL g 395 := (hX.tri 8 (by omega)).2
  obtain ⟨p1, p2, p3, p4, p5, p6, p7⟩ := hP
  have a0 := hA.1
  simp only [ts_LX.s0 hX, ts_LX.s1 hX, ts_LX.s2 hX, ts_LX.s3 hX, ts_LX.s4 hX, ts_LX.s5 hX, ts_LX.s6 hX, ts_LX.s7 hX, ts_LX.s8 hX, ts_LX.s9 hX, ts_LX.s10 hX, ts_LX.s11 hX, ts_LX.s12 hX, ts_LX.s13 hX, ts_LX.s14 hX, ts_LX.s15 hX, ts_LX.s16 hX, ts_LX.s17 hX, ts_LX.s18 hX, ts_LX.s19 hX, ts_LX.s20 hX, ts_LX.s21 hX, ts_LX.s22 hX, ts_LX.s23 hX, ts_LX.s24 hX, ts_LX.s25 hX, ts_LX.s26 hX, ts_LX.s27 hX, ts_LX.s28 hX, ts_LX.s29 hX, ts_LX.s30 hX, ts_LX.s31 hX, ts_LX.s32 hX, ts_LX.s33 hX, ts_LX.s34 hX, ts_LX.s35 hX, ts_LX.s36 hX, ts_LX.s37 hX, ts_LX.s38 hX, ts_FL.kd hT, ts_FL.k1 hT, ts_FL.k2 hT, ts_FL.k3 hT, ts_FL.k4 hT, ts_FL.k5 hT, ts_FL.k6 hT, ts_FL.k7 hT, ts_FL.k8 hT, ts_FL.k9 hT, ts_FL.l1 hT, ts_FL.l2 hT, ts_FL.l3 hT, ts_FL.l4 hT, ts_FL.l5 hT, ts_FL.l6 hT, ts_FL.l7 hT, ts_FL.l8 hT, ts_FL.l9 hT, ts_FL.o0 hT, ts_FL.o1 hT, ts_FL.o2 hT, ts_FL.o3 hT, ts_FL.o4 hT, ts_FL.o5 hT, ts_FL.o6 hT, ts_FL.o7 hT, ts_FL.o8 hT]
  refine ⟨trivial, by omega, by omega, trivial, c_become hX.kl hT hX.now (by omega) p1 p2 hA.1 (fun hi1 hk1 hR1 hK1 ho1 hok1 => ⟨by omega, by omega, trivial, trivial, by decide, by decide, fun hi2 e2 => ?_⟩)⟩
  rw [show (0 : Int32).toNatClampNeg = 0 from rfl, show (7 : Int32).toNatClampNeg = 7 from rfl] at e2
  have hok : ts_ok (ts_wm A ms) := ts_ok_wm hA hv
  have hR2 : ts_FR 395 (ts_wm A ms) hi2 hk1 := by
    obtain ⟨h1, h2, h3, h4, hT1⟩ := hR1
    have o : ∀ b, b ≠ 395 + 5 → hi2 b = hi1 b := fun b hb => by rw [e2, ts_cp_a hb]
    refine ⟨by rw [o _ (by omega)]; exact h1, by rw [o _ (by omega)]; exact h2, by rw [o _ (by omega)]; exact h3, by rw [o _ (by omega)]; exact h4, fun t ht => ?_⟩
    have ht' : t < A 6 0 := ht
    have z := hT1 t ht'
    rw [o (395 + 2) (by omega), o (395 + 3) (by omega), o (395 + 4) (by omega), o (395 + 6) (by omega), o (395 + 7) (by omega)]
    refine ⟨z.1, z.2.1, z.2.2.1, z.2.2.2.1, ?_, z.2.2.2.2.2⟩
    rw [e2, ts_cp_at (by omega) (by omega), ho1 313 (by omega)]
    show hi 313 (0 + (t - 0)) = ts_mI (ms.getD t 7)
    rw [show 0 + (t - 0) = t by omega]
    exact p4 t (by omega)
  have hO2 : ∀ b, (b < 395 ∨ 404 < b) → hi2 b = hi b := fun b hb => by rw [e2, ts_cp_a (by omega), ho1 b (by omega)]
  have L : ∀ m i hi', i + m = n → ts_FR 395 (ts_pn (ts_wm A ms) i) hi' hk1 → (∀ b, (b < 395 ∨ 404 < b) → hi' b = hi b) → ts_J0 (d + 4) mX7_weighPairs (ts_qv Q) g 31 [(0, .ref 311), (1, .int (nI n)), (2, .int (nI i))] [] hi' hk1 := by
    intro m
    induction m with
    | zero =>
      intro i hi' hin hR' hO
      refine wX7_weighPairs_31 ?_
      simp only [ts_LX.s0 hX, ts_LX.s1 hX, ts_LX.s2 hX, ts_LX.s3 hX, ts_LX.s4 hX, ts_LX.s5 hX, ts_LX.s6 hX, ts_LX.s7 hX, ts_LX.s8 hX, ts_LX.s9 hX, ts_LX.s10 hX, ts_LX.s11 hX, ts_LX.s12 hX, ts_LX.s13 hX, ts_LX.s14 hX, ts_LX.s15 hX, ts_LX.s16 hX, ts_LX.s17 hX, ts_LX.s18 hX, ts_LX.s19 hX, ts_LX.s20 hX, ts_LX.s21 hX, ts_LX.s22 hX, ts_LX.s23 hX, ts_LX.s24 hX, ts_LX.s25 hX, ts_LX.s26 hX, ts_LX.s27 hX, ts_LX.s28 hX, ts_LX.s29 hX, ts_LX.s30 hX, ts_LX.s31 hX, ts_LX.s32 hX, ts_LX.s33 hX, ts_LX.s34 hX, ts_LX.s35 hX, ts_LX.s36 hX, ts_LX.s37 hX, ts_LX.s38 hX]
      rw [ts_le (by omega) (by omega)]
      refine ⟨fun _ => ⟨trivial, by omega, hT.kd, ?_⟩, fun h => absurd (by omega) h⟩
      have ei : i = n := by omega
      subst ei
      have hokn := ts_pn_ok hok i hn
      have hrk := ts_rk_le hokn
      refine c_allRanks hT hR' hokn ?_
      rw [hO 311 (by omega), p6, ts_mo_le (by omega) (by omega)]
      refine ⟨fun c => ?_, fun c hi9 e9 => ⟨by omega, by omega, trivial, trivial, by decide, by decide, fun hi16 e16 => ?_⟩⟩
      · refine q hi' hk1 ⟨p1.of (fun b h1 h2 => hO b (by omega)) (hok1 _ (by omega)), p2.of (hok1 _ (by omega)), hK1, fun t ht => by rw [hO 313 (by omega)]; exact p4 t ht, ?_, ?_, ?_⟩ ⟨fun b x1 x2 x3 x4 => hO b x4, hok1, fun s _ => by rw [hO 311 (by omega)]⟩
        · unfold ts_wg
          rw [if_neg (by omega)]; exact p5
        · unfold ts_wg
          rw [if_neg (by omega), hO 311 (by omega)]; exact p6
        · unfold ts_wg
          rw [if_neg (by omega), hO 314 (by omega)]; exact p7
      · rw [show (0 : Int32).toNatClampNeg = 0 from rfl, show (7 : Int32).toNatClampNeg = 7 from rfl] at e16
        have ew : ts_wg A i w ms = (ts_rk (ts_pn (ts_wm A ms) i) + 1, ms) := by
          unfold ts_wg
          rw [if_pos (by omega)]
        have o9 : ∀ b, b ≠ 311 → hi9 b = hi' b := fun b hb => by rw [e9]; funext s; rw [ts_up_a hb]
        have o16 : ∀ b, b ≠ 311 → b ≠ 314 → hi16 b = hi' b := fun b h1 h2 => by rw [e16, ts_cp_a h2, o9 b h1]
        refine q hi16 hk1 ⟨p1.of (fun b h1 h2 => by rw [o16 b (by omega) (by omega), hO b (by omega)]) (hok1 _ (by omega)), p2.of (hok1 _ (by omega)), hK1, fun t ht => by rw [o16 313 (by omega) (by omega), hO 313 (by omega)]; exact p4 t ht, ?_, ?_, ?_⟩ ⟨fun b x1 x2 x3 x4 => by rw [o16 b x1 x3, hO b x4], hok1, fun s hs => by rw [e16, ts_cp_a (by omega), e9, ts_up_s hs, hO 311 (by omega)]⟩
        · rw [ew]
          show ts_rk _ + 1 ≤ 64
          omega
        · rw [ew, e16, ts_cp_a (by omega), e9, ts_up_eq]
          unfold ts_mo
          rw [if_neg (by simp)]
          rfl
        · rw [ew]
          intro _ t ht
          rw [e16, ts_cp_at (by omega) (by omega), o9 313 (by omega), hO 313 (by omega), show 0 + (t - 0) = t by omega]
          exact p4 t ht
    | succ m ih =>
      intro i hi' hin hR' hO
      refine wX7_weighPairs_31 ?_
      simp only [ts_LX.s0 hX, ts_LX.s1 hX, ts_LX.s2 hX, ts_LX.s3 hX, ts_LX.s4 hX, ts_LX.s5 hX, ts_LX.s6 hX, ts_LX.s7 hX, ts_LX.s8 hX, ts_LX.s9 hX, ts_LX.s10 hX, ts_LX.s11 hX, ts_LX.s12 hX, ts_LX.s13 hX, ts_LX.s14 hX, ts_LX.s15 hX, ts_LX.s16 hX, ts_LX.s17 hX, ts_LX.s18 hX, ts_LX.s19 hX, ts_LX.s20 hX, ts_LX.s21 hX, ts_LX.s22 hX, ts_LX.s23 hX, ts_LX.s24 hX, ts_LX.s25 hX, ts_LX.s26 hX, ts_LX.s27 hX, ts_LX.s28 hX, ts_LX.s29 hX, ts_LX.s30 hX, ts_LX.s31 hX, ts_LX.s32 hX, ts_LX.s33 hX, ts_LX.s34 hX, ts_LX.s35 hX, ts_LX.s36 hX, ts_LX.s37 hX, ts_LX.s38 hX]
      rw [ts_le (by omega) (by omega)]
      refine ⟨fun h => absurd h (by omega), fun _ => ⟨trivial, by omega, hT.kd, c_fpass hX.kl hT hR' (ts_pn_ok hok i (by show A 6 1 + i ≤ _; omega)) (fun hi3 hR3 ho3 => ?_)⟩⟩
      rw [ts_l1, nI_add]
      exact ih (i + 1) hi3 (by omega) hR3 (fun b hb => by rw [ho3 b (by omega), hO b hb])
  exact L n 0 hi2 (by omega) hR2 hO2
theorem ts_range1 {α : Type} (k : Nat) (h : Nat → List α) : (List.range (k + 1)).flatMap h = h 0 ++ (List.range k).flatMap (fun i => h (i + 1)) := by
  rw [List.range_succ_eq_map, List.flatMap_cons, List.flatMap_map]
theorem c_tryPairs {d n : Nat} {g : ts_G} {A : ts_A} (hX : ts_LX g) (hA : ts_ok A) (hn : A 6 1 + n ≤ 1000000) : ∀ (j f : Nat) (ms : List Nat) (w : Nat × List Nat) (hi : ts_I) (hk : ts_K) (Q : ts_I → ts_K → Prop), f + j = A 6 0 → ts_iv (A 6 0) ms → ts_PS A ms w hi hk →
    (∀ hi' hk', ts_PS A ms ((ts_en (A 6 0) j f ms).foldl (ts_wg A n) w) hi' hk' → ts_PF hi hk hi' hk' → Q hi' hk') → ts_E0 (d + 5 + j) mX7_tryPairs [.ref 311, .int (nI f), .int (nI n)] g hi hk (ts_qv Q) := by
  have a0 := hA.1
  intro j
  induction j with
  | zero =>
    intro f ms w hi hk Q hfj hv hP q
    refine ts_E0.of plX7_tryPairs rfl (Nat.le_of_ble_eq_true rfl) ?_
    refine wX7_tryPairs_0 ?_
    simp only [ts_LX.s0 hX, ts_LX.s1 hX, ts_LX.s2 hX, ts_LX.s3 hX, ts_LX.s4 hX, ts_LX.s5 hX, ts_LX.s6 hX, ts_LX.s7 hX, ts_LX.s8 hX, ts_LX.s9 hX, ts_LX.s10 hX, ts_LX.s11 hX, ts_LX.s12 hX, ts_LX.s13 hX, ts_LX.s14 hX, ts_LX.s15 hX, ts_LX.s16 hX, ts_LX.s17 hX, ts_LX.s18 hX, ts_LX.s19 hX, ts_LX.s20 hX, ts_LX.s21 hX, ts_LX.s22 hX, ts_LX.s23 hX, ts_LX.s24 hX, ts_LX.s25 hX, ts_LX.s26 hX, ts_LX.s27 hX, ts_LX.s28 hX, ts_LX.s29 hX, ts_LX.s30 hX, ts_LX.s31 hX, ts_LX.s32 hX, ts_LX.s33 hX, ts_LX.s34 hX, ts_LX.s35 hX, ts_LX.s36 hX, ts_LX.s37 hX, ts_LX.s38 hX]
    rw [hP.1.1, ts_le (by omega) (by omega)]
    exact ⟨trivial, by omega, hX.now.kd, fun _ => c_weighPairs hX hA hn hv hP q, fun h => absurd (by omega) h⟩
  | succ j ih =>
    intro f ms w hi hk Q hfj hv hP q
    refine ts_E0.of plX7_tryPairs rfl (Nat.le_of_ble_eq_true rfl) ?_
    refine wX7_tryPairs_0 ?_
    simp only [ts_LX.s0 hX, ts_LX.s1 hX, ts_LX.s2 hX, ts_LX.s3 hX, ts_LX.s4 hX, ts_LX.s5 hX, ts_LX.s6 hX, ts_LX.s7 hX, ts_LX.s8 hX, ts_LX.s9 hX, ts_LX.s10 hX, ts_LX.s11 hX, ts_LX.s12 hX, ts_LX.s13 hX, ts_LX.s14 hX, ts_LX.s15 hX, ts_LX.s16 hX, ts_LX.s17 hX, ts_LX.s18 hX, ts_LX.s19 hX, ts_LX.s20 hX, ts_LX.s21 hX, ts_LX.s22 hX, ts_LX.s23 hX, ts_LX.s24 hX, ts_LX.s25 hX, ts_LX.s26 hX, ts_LX.s27 hX, ts_LX.s28 hX, ts_LX.s29 hX, ts_LX.s30 hX, ts_LX.s31 hX, ts_LX.s32 hX, ts_LX.s33 hX, ts_LX.s34 hX, ts_LX.s35 hX, ts_LX.s36 hX, ts_LX.s37 hX, ts_LX.s38 hX]
    rw [hP.1.1, ts_l7, ts_l1, nI_add, ts_le (by omega) (by omega), ts_lt (by omega) (by omega)]
    refine ⟨trivial, by omega, hX.now.kd, fun h => absurd h (by omega), fun _ => ⟨fun _ => ?_, fun h => absurd (by omega) h⟩⟩
    refine ih (f + 1) ms w hi hk _ (by omega) hv hP (fun hi8 hk9 hP8 hF8 => ?_)
    rw [ts_cl (by omega), hP8.2.2.2.1 f (by omega)]
    have hm7 : ms.getD f 7 < 1000 := by
      rcases hv.2 f (by omega) with z | z <;> omega
    rw [show (-nI 1) = (-1 : Int32) from rfl, ts_mIeq hm7]
    refine ⟨by omega, trivial, ts_vin (by omega) (by omega), fun c => ?_, fun c => ?_⟩
    · rw [ts_en, if_pos c, List.foldl_append] at q
      have L : ∀ m o w' hi' hk', o + m = A 6 0 → f < o → ts_PS A ms w' hi' hk' → ts_PF hi hk hi' hk' → ((List.range m).flatMap (fun i => if ms.getD (o + i) 7 = 7 then ts_en (A 6 0) j (f + 1) ((ms.set f (o + i)).set (o + i) f) else [])).foldl (ts_wg A n) w' = ((List.range (A 6 0 - (f + 1))).flatMap (fun i => if ms.getD (f + 1 + i) 7 = 7 then ts_en (A 6 0) j (f + 1) ((ms.set f (f + 1 + i)).set (f + 1 + i) f) else [])).foldl (ts_wg A n) ((ts_en (A 6 0) j (f + 1) ms).foldl (ts_wg A n) w) → ts_J0 (d + 5 + j + 1) mX7_tryPairs (ts_qv Q) g 46 [(0, .ref 311), (1, .int (nI f)), (2, .int (nI n)), (3, .int (nI o))] [] hi' hk' := by
        intro m
        induction m with
        | zero =>
          intro o w' hi' hk' hom hfo hP' hF' hf
          refine wX7_tryPairs_46 ?_
          simp only [ts_LX.s0 hX, ts_LX.s1 hX, ts_LX.s2 hX, ts_LX.s3 hX, ts_LX.s4 hX, ts_LX.s5 hX, ts_LX.s6 hX, ts_LX.s7 hX, ts_LX.s8 hX, ts_LX.s9 hX, ts_LX.s10 hX, ts_LX.s11 hX, ts_LX.s12 hX, ts_LX.s13 hX, ts_LX.s14 hX, ts_LX.s15 hX, ts_LX.s16 hX, ts_LX.s17 hX, ts_LX.s18 hX, ts_LX.s19 hX, ts_LX.s20 hX, ts_LX.s21 hX, ts_LX.s22 hX, ts_LX.s23 hX, ts_LX.s24 hX, ts_LX.s25 hX, ts_LX.s26 hX, ts_LX.s27 hX, ts_LX.s28 hX, ts_LX.s29 hX, ts_LX.s30 hX, ts_LX.s31 hX, ts_LX.s32 hX, ts_LX.s33 hX, ts_LX.s34 hX, ts_LX.s35 hX, ts_LX.s36 hX, ts_LX.s37 hX, ts_LX.s38 hX]
          rw [hP'.1.1, ts_le (by omega) (by omega)]
          refine ⟨trivial, by omega, hX.now.kd, fun _ => ?_, fun h => absurd (by omega) h⟩
          refine q hi' hk' ?_ hF'
          rw [← hf]
          exact hP'
        | succ m ih2 =>
          intro o w' hi' hk' hom hfo hP' hF' hf
          refine wX7_tryPairs_46 ?_
          simp only [ts_LX.s0 hX, ts_LX.s1 hX, ts_LX.s2 hX, ts_LX.s3 hX, ts_LX.s4 hX, ts_LX.s5 hX, ts_LX.s6 hX, ts_LX.s7 hX, ts_LX.s8 hX, ts_LX.s9 hX, ts_LX.s10 hX, ts_LX.s11 hX, ts_LX.s12 hX, ts_LX.s13 hX, ts_LX.s14 hX, ts_LX.s15 hX, ts_LX.s16 hX, ts_LX.s17 hX, ts_LX.s18 hX, ts_LX.s19 hX, ts_LX.s20 hX, ts_LX.s21 hX, ts_LX.s22 hX, ts_LX.s23 hX, ts_LX.s24 hX, ts_LX.s25 hX, ts_LX.s26 hX, ts_LX.s27 hX, ts_LX.s28 hX, ts_LX.s29 hX, ts_LX.s30 hX, ts_LX.s31 hX, ts_LX.s32 hX, ts_LX.s33 hX, ts_LX.s34 hX, ts_LX.s35 hX, ts_LX.s36 hX, ts_LX.s37 hX, ts_LX.s38 hX]
          have hmo : ms.getD o 7 < 1000 := by
            rcases hv.2 o (by omega) with z | z <;> omega
          rw [ts_range1] at hf
          have ef : (fun i => if ms.getD (o + (i + 1)) 7 = 7 then ts_en (A 6 0) j (f + 1) ((ms.set f (o + (i + 1))).set (o + (i + 1)) f) else []) = (fun i => if ms.getD (o + 1 + i) 7 = 7 then ts_en (A 6 0) j (f + 1) ((ms.set f (o + 1 + i)).set (o + 1 + i) f) else []) := by
            funext i
            rw [show o + (i + 1) = o + 1 + i by omega]
          rw [ef, Nat.add_zero] at hf
          rw [hP'.1.1, ts_le (by omega) (by omega), ts_cl (n := o) (by omega), ts_cl (n := f) (by omega), hP'.2.2.2.1 o (by omega)]
          refine ⟨trivial, by omega, hX.now.kd, fun h => absurd h (by omega), fun _ => ⟨by omega, trivial, ts_vin (by omega) (by omega), fun c2 => ?_, fun c2 => ⟨ts_vin (by omega) (by omega), fun hi10 e10 hi11 e11 => ?_⟩⟩⟩
          · rw [Ne, ts_mIeq hmo] at c2
            rw [if_neg c2, List.nil_append] at hf
            rw [ts_l1, nI_add]
            exact ih2 (o + 1) w' hi' hk' (by omega) (by omega) hP' hF' hf
          · have c3 := Decidable.not_not.mp c2
            rw [ts_mIeq hmo] at c3
            rw [if_pos c3, List.foldl_append] at hf
            have hv2 := ts_iv_set hv a0 hfo (by omega) c c3
            obtain ⟨p1, p2, p3, p4, p5, p6, p7⟩ := hP'
            have o11 : ∀ b, b ≠ 313 → hi11 b = hi' b := fun b hb => by rw [e11]; funext s; rw [ts_up_a hb, e10, ts_up_a hb]
            have e13 : ∀ t, t < 7 → hi11 313 t = ts_mI (((ms.set f o).set o f).getD t 7) := fun t ht => by
              rw [ts_gs, ts_gs, List.length_set, hv.1, e11]
              by_cases t1 : t = o
              · subst t1
                rw [ts_up_eq, if_pos ⟨rfl, by omega⟩]
                unfold ts_mI
                rw [if_neg (by omega)]
              · rw [ts_up_s t1, if_neg (by omega), e10]
                by_cases t2 : t = f
                · subst t2
                  rw [ts_up_eq, if_pos ⟨rfl, by omega⟩]
                  unfold ts_mI
                  rw [if_neg (by omega)]
                · rw [ts_up_s t2, if_neg (by omega)]
                  exact p4 t ht
            rw [ts_l1, nI_add]
            refine ih (f + 1) _ w' hi11 hk' _ (by omega) hv2 ⟨p1.of (fun b h1 h2 => o11 b (by omega)) rfl, p2, p3, e13, p5, by rw [o11 311 (by omega)]; exact p6, by rw [o11 314 (by omega)]; exact p7⟩ (fun hi12 hk13 hP12 hF12 => ?_)
            intro hi14 e14 hi15 e15
            rw [nI_add]
            obtain ⟨r1, r2, r3, r4, r5, r6, r7⟩ := hP12
            have o15 : ∀ b, b ≠ 313 → hi15 b = hi12 b := fun b hb => by rw [e15]; funext s; rw [ts_up_a hb, e14, ts_up_a hb]
            refine ih2 (o + 1) _ hi15 hk13 (by omega) (by omega) ⟨r1.of (fun b h1 h2 => o15 b (by omega)) rfl, r2, r3, fun t ht => ?_, r5, by rw [o15 311 (by omega)]; exact r6, by rw [o15 314 (by omega)]; exact r7⟩ (hF'.trans ⟨fun b x1 x2 x3 x4 => ?_, hF12.2.1, fun s hs => ?_⟩) hf
            · rw [e15]
              by_cases t1 : t = o
              · subst t1
                rw [ts_up_eq, c3]
                rfl
              · rw [ts_up_s t1, e14]
                by_cases t2 : t = f
                · subst t2
                  rw [ts_up_eq, c]
                  rfl
                · rw [ts_up_s t2, r4 t ht, ts_gs, ts_gs, if_neg (by omega), if_neg (by omega)]
            · rw [o15 b x2, hF12.1 b x1 x2 x3 x4, o11 b x2]
            · rw [o15 311 (by omega), hF12.2.2 s hs, o11 311 (by omega)]
      refine L (A 6 0 - (f + 1)) (f + 1) _ hi8 hk9 (by omega) (by omega) hP8 hF8 rfl
    · rw [ts_en, if_neg c, List.append_nil] at q
      exact q hi8 hk9 hP8 hF8
theorem c_fill {d a : Nat} {v : Int32} {g : ts_G} {hi : ts_I} {hk : ts_K} {Q : ts_I → ts_K → Prop} (ha : g.2.1 a = 100) (hl : g.2.2.1 a < 100000) (q : ∀ hi', (∀ s, s < g.2.2.1 a → hi' a s = v) → (∀ b, b ≠ a → hi' b = hi b) → Q hi' hk) : ts_E0 d mJ7_fill_53178 [.ref a, .int v] g hi hk (ts_qv Q) := by
  refine ts_E0.of plJ7_fill_53178 rfl (Nat.le_of_ble_eq_true rfl) ?_
  refine wJ7_fill_53178_0 ⟨ha, ?_⟩
  have L : ∀ m t hi', t + m = g.2.2.1 a → (∀ s, s < t → hi' a s = v) → (∀ b, b ≠ a → hi' b = hi b) → ts_J0 d mJ7_fill_53178 (ts_qv Q) g 5 [(0, .ref a), (1, .int v), (2, .int (nI t)), (3, .int (nI (g.2.2.1 a)))] [] hi' hk := by
    intro m
    induction m with
    | zero =>
      intro t hi' htm hI hO
      refine wJ7_fill_53178_5 ?_
      rw [ts_le (by omega) (by omega)]
      exact ⟨fun _ => q hi' (fun s hs => hI s (by omega)) hO, fun h => absurd (by omega) h⟩
    | succ m ih =>
      intro t hi' htm hI hO
      refine wJ7_fill_53178_5 ?_
      rw [ts_le (by omega) (by omega), ts_cl (by omega), ts_l1, nI_add]
      refine ⟨fun h => absurd h (by omega), fun _ => ⟨ha, ts_vin (by omega) (by omega), fun hi4 e4 => ih (t + 1) hi4 (by omega) (fun s hs => ?_) (fun b hb => ?_)⟩⟩
      · rw [e4]
        by_cases h : s = t
        · rw [h, ts_up_eq]
        · rw [ts_up_s h]; exact hI s (by omega)
      · rw [e4]; funext s; rw [ts_up_a hb, hO b hb]
  exact L (g.2.2.1 a) 0 hi (by omega) (fun s hs => by omega) (fun _ _ => rfl)
def ts_e7 : List Nat := [7, 7, 7, 7, 7, 7, 7]
/-- the best of all ways to marry for n years: how much and 1, who whom -/
def ts_bp (A : ts_A) (n : Nat) : Nat × List Nat := (ts_en (A 6 0) (A 6 0) 0 ts_e7).foldl (ts_wg A n) (0, ts_e7)
theorem ts_e7_7 : ∀ t, ts_e7.getD t 7 = 7 := by
  intro t
  match t with
  | 0 => rfl
  | 1 => rfl
  | 2 => rfl
  | 3 => rfl
  | 4 => rfl
  | 5 => rfl
  | 6 => rfl
  | t + 7 => simp [ts_e7]
theorem ts_iv7 (c : Nat) : ts_iv c ts_e7 := ⟨rfl, fun t _ => Or.inl (ts_e7_7 t)⟩
theorem c_findBestPairs {d n : Nat} {g : ts_G} {A : ts_A} {hi : ts_I} {hk : ts_K} {Q : ts_I → ts_K → Prop} (hX : ts_LX g) (hA : ts_ok A) (hn : A 6 1 + n ≤ 1000000) (hR : ts_FR 291 A hi hk) (hK : ts_FK 291 hk) (hK2 : ts_FK 395 hk)
    (q : ∀ hi' hk', ts_PS A ts_e7 (ts_bp A n) hi' hk' → ts_PF hi hk hi' hk' → Q hi' hk') : ts_E0 (d + 6 + 7) mX7_findBestPairs [.ref 311, .int (nI n)] g hi hk (ts_qv Q) := by
  refine ts_E0.of plX7_findBestPairs rfl (Nat.le_of_ble_eq_true rfl) ?_
  refine wX7_findBestPairs_0 ?_
  have a0 := hA.1
  simp only [ts_LX.s0 hX, ts_LX.s1 hX, ts_LX.s2 hX, ts_LX.s3 hX, ts_LX.s4 hX, ts_LX.s5 hX, ts_LX.s6 hX, ts_LX.s7 hX, ts_LX.s8 hX, ts_LX.s9 hX, ts_LX.s10 hX, ts_LX.s11 hX, ts_LX.s12 hX, ts_LX.s13 hX, ts_LX.s14 hX, ts_LX.s15 hX, ts_LX.s16 hX, ts_LX.s17 hX, ts_LX.s18 hX, ts_LX.s19 hX, ts_LX.s20 hX, ts_LX.s21 hX, ts_LX.s22 hX, ts_LX.s23 hX, ts_LX.s24 hX, ts_LX.s25 hX, ts_LX.s26 hX, ts_LX.s27 hX, ts_LX.s28 hX, ts_LX.s29 hX, ts_LX.s30 hX, ts_LX.s31 hX, ts_LX.s32 hX, ts_LX.s33 hX, ts_LX.s34 hX, ts_LX.s35 hX, ts_LX.s36 hX, ts_LX.s37 hX, ts_LX.s38 hX]
  refine ⟨trivial, by omega, c_fill hX.s35 (by rw [hX.s36]; omega) (fun hi1 hI1 hO1 hi2 e2 => ?_)⟩
  rw [hX.s36] at hI1
  have o2 : ∀ b, b ≠ 311 → b ≠ 313 → hi2 b = hi b := fun b h1 h2 => by rw [e2]; funext s; rw [ts_up_a h1, hO1 b h2]
  have z := c_tryPairs (d := d + (7 - A 6 0)) hX hA hn (A 6 0) 0 ts_e7 (0, ts_e7) hi2 hk Q (by omega) (ts_iv7 _) ⟨hR.of (fun b h1 h2 => o2 b (by omega) (by omega)) rfl, hK, hK2, fun t ht => ?_, by simp, ?_, fun h => absurd rfl h⟩ (fun hi' hk' hP' hF' => q hi' hk' hP' ⟨fun b x1 x2 x3 x4 => by rw [hF'.1 b x1 x2 x3 x4, o2 b x1 x2], hF'.2.1, fun s hs => ?_⟩)
  · rw [show d + (7 - A 6 0) + 5 + A 6 0 = d + 5 + 7 by omega] at z
    exact z
  · rw [e2, ts_up_a (by omega), hI1 t ht, ts_e7_7]
    rfl
  · rw [e2, ts_up_eq]
    rfl
  · rw [hF'.2.2 s hs, e2, ts_up_s hs, hO1 311 (by omega)]
