/-! what else is done to a field of the class -/
theorem ts_cp_at {hi : ts_I} {b i a j n t : Nat} (h1 : j ≤ t) (h2 : t < j + n) : ts_cp hi b i a j n a t = hi b (i + (t - j)) := by simp [ts_cp, h1, h2]
theorem ts_cp_a {hi : ts_I} {b i a j n c : Nat} (h : c ≠ a) : ts_cp hi b i a j n c = hi c := by funext t; simp [ts_cp, h]
theorem c_become {d : Nat} {g : ts_G} {k p : Nat} {A : ts_A} {hi : ts_I} {hk : ts_K} {Q : ts_I → ts_K → Prop} (hL : ts_KL g) (hF : ts_FL g k) (hG : ts_FL g p) (hkp : k + 10 ≤ p ∨ p + 10 ≤ k) (hR : ts_FR p A hi hk) (hK : ts_FK p hk) (hc : A 6 0 ≤ 7)
    (q : ∀ hi' hk', ts_FR k A hi' hk' → ts_FK k hk' → (∀ b, (b < k ∨ k + 9 < b) → hi' b = hi b) → (∀ b, b ≠ k + 1 → hk' b = hk b) → Q hi' hk') : ts_E0 (d + 1) mX1_become [.ref k, .ref p] g hi hk (ts_qv Q) := by
  refine ts_E0.of plX1_become rfl (Nat.le_of_ble_eq_true rfl) ?_
  refine wX1_become_0 ⟨hG.kd, hF.kd, fun hi1 e1 hi2 e2 hi3 e3 hi4 e4 => ?_⟩
  have o4 : ∀ b, b ≠ k → hi4 b = hi b := fun b hb => by
    rw [e4]; funext s
    rw [ts_up_a hb, e3, ts_up_a hb, e2, ts_up_a hb, e1, ts_up_a hb]
  have p4 : ∀ b, b = p → hi4 b = hi b := fun b hb => o4 b (by omega)
  have L : ∀ n t hk', t + n = 7 → (∀ s, s < t → hk' (k + 1) s = hk (p + 1) s) → (∀ b, b ≠ k + 1 → hk' b = hk b) → ts_J0 (d + 1) mX1_become (ts_qv Q) g 34 [(0, .ref k), (1, .ref p), (2, .int (nI t))] [] hi4 hk' := by
    intro n
    induction n with
    | zero =>
      intro t hk' htn hI hO
      refine wX1_become_34 ?_
      simp only [ts_FL.kd hF, ts_FL.k1 hF, ts_FL.k2 hF, ts_FL.k3 hF, ts_FL.k4 hF, ts_FL.k5 hF, ts_FL.k6 hF, ts_FL.k7 hF, ts_FL.k8 hF, ts_FL.k9 hF, ts_FL.l1 hF, ts_FL.l2 hF, ts_FL.l3 hF, ts_FL.l4 hF, ts_FL.l5 hF, ts_FL.l6 hF, ts_FL.l7 hF, ts_FL.l8 hF, ts_FL.l9 hF, ts_FL.o0 hF, ts_FL.o1 hF, ts_FL.o2 hF, ts_FL.o3 hF, ts_FL.o4 hF, ts_FL.o5 hF, ts_FL.o6 hF, ts_FL.o7 hF, ts_FL.o8 hF, ts_FL.kd hG, ts_FL.k1 hG, ts_FL.k2 hG, ts_FL.k3 hG, ts_FL.k4 hG, ts_FL.k5 hG, ts_FL.k6 hG, ts_FL.k7 hG, ts_FL.k8 hG, ts_FL.k9 hG, ts_FL.l1 hG, ts_FL.l2 hG, ts_FL.l3 hG, ts_FL.l4 hG, ts_FL.l5 hG, ts_FL.l6 hG, ts_FL.l7 hG, ts_FL.l8 hG, ts_FL.l9 hG, ts_FL.o0 hG, ts_FL.o1 hG, ts_FL.o2 hG, ts_FL.o3 hG, ts_FL.o4 hG, ts_FL.o5 hG, ts_FL.o6 hG, ts_FL.o7 hG, ts_FL.o8 hG]
      rw [ts_l7, ts_le (by omega) (by omega)]
      have d7 : (0 : Int32).toNatClampNeg + (nI 7).toNatClampNeg ≤ 7 := by decide
      refine ⟨fun _ => ⟨trivial, by omega, trivial, by omega, trivial, trivial, d7, d7, fun h1 x1 => ⟨by omega, by omega, trivial, trivial, d7, d7, fun h2 x2 => ⟨by omega, by omega, trivial, trivial, d7, d7, fun h3 x3 => ⟨by omega, by omega, trivial, trivial, d7, d7, fun h4 x4 => ⟨by omega, by omega, trivial, trivial, d7, d7, fun h5 x5 => ⟨by omega, by omega, trivial, trivial, d7, d7, fun h6 x6 => ?_⟩⟩⟩⟩⟩⟩, fun h => absurd (by omega) h⟩
      rw [show (0 : Int32).toNatClampNeg = 0 from rfl, show (nI 7).toNatClampNeg = 7 from rfl] at x1 x2 x3 x4 x5 x6
      have oo : ∀ b, b ≠ k + 2 → b ≠ k + 3 → b ≠ k + 4 → b ≠ k + 5 → b ≠ k + 6 → b ≠ k + 7 → h6 b = hi4 b := fun b b2 b3 b4 b5 b6 b7 => by
        rw [x6, ts_cp_a b7, x5, ts_cp_a b6, x4, ts_cp_a b5, x3, ts_cp_a b4, x2, ts_cp_a b3, x1, ts_cp_a b2]
      have c2 : ∀ s, s < 7 → h6 (k + 2) s = hi (p + 2) s := fun s hs => by
        rw [x6, ts_cp_a (by omega), x5, ts_cp_a (by omega), x4, ts_cp_a (by omega), x3, ts_cp_a (by omega), x2, ts_cp_a (by omega), x1, ts_cp_at (by omega) (by omega), o4 _ (by omega)]; simp
      have c3 : ∀ s, s < 7 → h6 (k + 3) s = hi (p + 3) s := fun s hs => by
        rw [x6, ts_cp_a (by omega), x5, ts_cp_a (by omega), x4, ts_cp_a (by omega), x3, ts_cp_a (by omega), x2, ts_cp_at (by omega) (by omega), x1, ts_cp_a (by omega), o4 _ (by omega)]; simp
      have c4 : ∀ s, s < 7 → h6 (k + 4) s = hi (p + 4) s := fun s hs => by
        rw [x6, ts_cp_a (by omega), x5, ts_cp_a (by omega), x4, ts_cp_a (by omega), x3, ts_cp_at (by omega) (by omega), x2, ts_cp_a (by omega), x1, ts_cp_a (by omega), o4 _ (by omega)]; simp
      have c5 : ∀ s, s < 7 → h6 (k + 5) s = hi (p + 5) s := fun s hs => by
        rw [x6, ts_cp_a (by omega), x5, ts_cp_a (by omega), x4, ts_cp_at (by omega) (by omega), x3, ts_cp_a (by omega), x2, ts_cp_a (by omega), x1, ts_cp_a (by omega), o4 _ (by omega)]; simp
      have c6 : ∀ s, s < 7 → h6 (k + 6) s = hi (p + 6) s := fun s hs => by
        rw [x6, ts_cp_a (by omega), x5, ts_cp_at (by omega) (by omega), x4, ts_cp_a (by omega), x3, ts_cp_a (by omega), x2, ts_cp_a (by omega), x1, ts_cp_a (by omega), o4 _ (by omega)]; simp
      have c7 : ∀ s, s < 7 → h6 (k + 7) s = hi (p + 7) s := fun s hs => by
        rw [x6, ts_cp_at (by omega) (by omega), x5, ts_cp_a (by omega), x4, ts_cp_a (by omega), x3, ts_cp_a (by omega), x2, ts_cp_a (by omega), x1, ts_cp_a (by omega), o4 _ (by omega)]; simp
      obtain ⟨h9, h10, h11, h12, hT⟩ := hR
      have hkk : h6 k = hi4 k := oo k (by omega) (by omega) (by omega) (by omega) (by omega) (by omega)
      refine q h6 hk' ⟨?_, ?_, ?_, ?_, fun s hs => ?_⟩ (fun s hs => ?_) (fun b hb => ?_) hO
      · rw [hkk, e4, ts_up_s (by omega), e3, ts_up_s (by omega), e2, ts_up_s (by omega), e1, ts_up_eq, h9]
      · rw [hkk, e4, ts_up_s (by omega), e3, ts_up_s (by omega), e2, ts_up_eq, e1, ts_up_a (by omega), h10]
      · rw [hkk, e4, ts_up_s (by omega), e3, ts_up_eq, e2, ts_up_a (by omega), e1, ts_up_a (by omega), h11]
      · rw [hkk, e4, ts_up_eq, e3, ts_up_a (by omega), e2, ts_up_a (by omega), e1, ts_up_a (by omega), h12]
      · rw [hI s (by omega), c2 s (by omega), c3 s (by omega), c4 s (by omega), c5 s (by omega), c6 s (by omega), c7 s (by omega)]
        exact hT s hs
      · rw [hI s (by omega)]
        exact hK s hs
      · rw [oo b (by omega) (by omega) (by omega) (by omega) (by omega) (by omega), o4 b (by omega)]
    | succ n ih =>
      intro t hk' htn hI hO
      refine wX1_become_34 ?_
      simp only [ts_FL.kd hF, ts_FL.k1 hF, ts_FL.k2 hF, ts_FL.k3 hF, ts_FL.k4 hF, ts_FL.k5 hF, ts_FL.k6 hF, ts_FL.k7 hF, ts_FL.k8 hF, ts_FL.k9 hF, ts_FL.l1 hF, ts_FL.l2 hF, ts_FL.l3 hF, ts_FL.l4 hF, ts_FL.l5 hF, ts_FL.l6 hF, ts_FL.l7 hF, ts_FL.l8 hF, ts_FL.l9 hF, ts_FL.o0 hF, ts_FL.o1 hF, ts_FL.o2 hF, ts_FL.o3 hF, ts_FL.o4 hF, ts_FL.o5 hF, ts_FL.o6 hF, ts_FL.o7 hF, ts_FL.o8 hF, ts_FL.kd hG, ts_FL.k1 hG, ts_FL.k2 hG, ts_FL.k3 hG, ts_FL.k4 hG, ts_FL.k5 hG, ts_FL.k6 hG, ts_FL.k7 hG, ts_FL.k8 hG, ts_FL.k9 hG, ts_FL.l1 hG, ts_FL.l2 hG, ts_FL.l3 hG, ts_FL.l4 hG, ts_FL.l5 hG, ts_FL.l6 hG, ts_FL.l7 hG, ts_FL.l8 hG, ts_FL.l9 hG, ts_FL.o0 hG, ts_FL.o1 hG, ts_FL.o2 hG, ts_FL.o3 hG, ts_FL.o4 hG, ts_FL.o5 hG, ts_FL.o6 hG, ts_FL.o7 hG, ts_FL.o8 hG]
      rw [ts_l7, ts_le (by omega) (by omega), ts_cl (n := t) (by omega), hO (p + 1) (by omega)]
      have hb := hK t (by omega)
      refine ⟨fun h => absurd h (by omega), fun _ => ⟨trivial, by omega, trivial, by omega, trivial, ts_vin (by omega) (by omega), by omega, trivial, ts_vin (by omega) (by omega), hL.is hb.1 hb.2, fun hk1 x1 => ?_⟩⟩
      rw [ts_l1, nI_add]
      refine ih (t + 1) hk1 (by omega) (fun s hs => ?_) (fun b hb => ?_)
      · rw [x1]
        by_cases e : s = t
        · subst e; rw [ts_uk_eq]
        · rw [ts_uk_s e]; exact hI s (by omega)
      · rw [x1]
        funext s
        rw [ts_uk_a hb, hO b hb]
  exact L 7 0 hk (by omega) (fun s hs => by omega) (fun b _ => rfl)
def ts_xc (A : ts_A) (a b : Nat) : ts_A := fun c t => if c = 5 then (if t = b then A 5 a else if t = a then A 5 b else A 5 t) else if c = 7 then (if t = A 5 a then b else if t = A 5 b then a else A 7 t) else A c t
theorem ts_ok_xc {A : ts_A} {a b : Nat} (hA : ts_ok A) (ha : a < A 6 0) (hb : b < A 6 0) : ts_ok (ts_xc A a b) := by
  obtain ⟨a0, a1, a2, a3, aT⟩ := hA
  refine ⟨a0, a1, a2, a3, fun t ht => ?_⟩
  have h := aT t ht
  have ua := aT a ha
  have ub := aT b hb
  have inj : ∀ u v, u < A 6 0 → v < A 6 0 → A 5 u = A 5 v → u = v := fun u v hu hv e => by
    rw [← (aT u hu).2.2.2.2.2.2.1, e, (aT v hv).2.2.2.2.2.2.1]
  refine ⟨h.1, h.2.1, h.2.2.1, h.2.2.2.1, h.2.2.2.2.1, ?_, ?_, ?_, ?_⟩
  · show (if t = b then A 5 a else if t = a then A 5 b else A 5 t) < A 6 0
    split
    · exact ua.2.2.2.2.2.1
    · split
      · exact ub.2.2.2.2.2.1
      · exact h.2.2.2.2.2.1
  · show (if (if t = b then A 5 a else if t = a then A 5 b else A 5 t) = A 5 a then b else if (if t = b then A 5 a else if t = a then A 5 b else A 5 t) = A 5 b then a else A 7 (if t = b then A 5 a else if t = a then A 5 b else A 5 t)) = t
    by_cases e1 : t = b
    · simp [e1]
    · rw [if_neg e1]
      by_cases e2 : t = a
      · subst e2
        rw [if_pos rfl]
        by_cases e3 : A 5 b = A 5 t
        · exact absurd (inj b t hb ht e3) (fun c => e1 c.symm)
        · rw [if_neg e3, if_pos rfl]
      · rw [if_neg e2, if_neg (fun c => e2 (inj t a ht ha c)), if_neg (fun c => e1 (inj t b ht hb c))]
        exact h.2.2.2.2.2.2.1
  · show (if t = A 5 a then b else if t = A 5 b then a else A 7 t) < A 6 0
    split
    · exact hb
    · split
      · exact ha
      · exact h.2.2.2.2.2.2.2.1
  · show (if (if t = A 5 a then b else if t = A 5 b then a else A 7 t) = b then A 5 a else if (if t = A 5 a then b else if t = A 5 b then a else A 7 t) = a then A 5 b else A 5 (if t = A 5 a then b else if t = A 5 b then a else A 7 t)) = t
    by_cases e1 : t = A 5 a
    · rw [if_pos e1, if_pos rfl]; exact e1.symm
    · rw [if_neg e1]
      by_cases e2 : t = A 5 b
      · rw [if_pos e2]
        by_cases e3 : a = b
        · rw [if_pos e3, e3]; exact e2.symm
        · rw [if_neg e3, if_pos rfl]; exact e2.symm
      · rw [if_neg e2]
        have e3 : A 7 t ≠ b := fun c => e2 (by rw [← c]; exact h.2.2.2.2.2.2.2.2.symm)
        have e4 : A 7 t ≠ a := fun c => e1 (by rw [← c]; exact h.2.2.2.2.2.2.2.2.symm)
        rw [if_neg e3, if_neg e4]
        exact h.2.2.2.2.2.2.2.2
theorem c_exchange {d : Nat} {g : ts_G} {k a b : Nat} {A : ts_A} {hi : ts_I} {hk : ts_K} {Q : ts_I → ts_K → Prop} (hF : ts_FL g k) (hR : ts_FR k A hi hk) (hA : ts_ok A) (ha : a < A 6 0) (hb : b < A 6 0)
    (q : ∀ hi', ts_FR k (ts_xc A a b) hi' hk → (∀ c, c ≠ k + 6 → c ≠ k + 7 → hi' c = hi c) → Q hi' hk) : ts_E0 d mX1_exchange [.ref k, .int (nI a), .int (nI b)] g hi hk (ts_qv Q) := by
  refine ts_E0.of plX1_exchange rfl (Nat.le_of_ble_eq_true rfl) ?_
  refine wX1_exchange_0 ?_
  obtain ⟨h9, h10, h11, h12, hT⟩ := hR
  obtain ⟨a0, a1, a2, a3, aT⟩ := id hA
  have ua := aT a ha
  have ub := aT b hb
  simp only [ts_FL.kd hF, ts_FL.k1 hF, ts_FL.k2 hF, ts_FL.k3 hF, ts_FL.k4 hF, ts_FL.k5 hF, ts_FL.k6 hF, ts_FL.k7 hF, ts_FL.k8 hF, ts_FL.k9 hF, ts_FL.l1 hF, ts_FL.l2 hF, ts_FL.l3 hF, ts_FL.l4 hF, ts_FL.l5 hF, ts_FL.l6 hF, ts_FL.l7 hF, ts_FL.l8 hF, ts_FL.l9 hF, ts_FL.o0 hF, ts_FL.o1 hF, ts_FL.o2 hF, ts_FL.o3 hF, ts_FL.o4 hF, ts_FL.o5 hF, ts_FL.o6 hF, ts_FL.o7 hF, ts_FL.o8 hF]
  rw [ts_cl (by omega), ts_cl (by omega), (hT a ha).2.2.2.2.2.1, (hT b hb).2.2.2.2.2.1]
  refine ⟨trivial, by omega, trivial, ts_vin (by omega) (by omega), ts_vin (by omega) (by omega), fun hi6 e6 hi7 e7 => ?_⟩
  have z1 : hi7 (k + 6) a = nI (A 5 b) := by
    rw [e7]
    by_cases e : a = b
    · rw [e, ts_up_eq]
    · rw [ts_up_s e, e6, ts_up_eq]
  have z2 : hi7 (k + 6) b = nI (A 5 a) := by rw [e7, ts_up_eq]
  rw [z1]
  have w1 := ua.2.2.2.2.2.1
  have w2 := ub.2.2.2.2.2.1
  rw [ts_cl (by omega)]
  refine ⟨by omega, trivial, ts_vin (by omega) (by omega), fun hi11 e11 => ?_⟩
  have z3 : hi11 (k + 6) b = nI (A 5 a) := by rw [e11, ts_up_a (by omega), z2]
  rw [z3, ts_cl (by omega)]
  refine ⟨ts_vin (by omega) (by omega), fun hi13 e13 => ?_⟩
  have o : ∀ c, c ≠ k + 6 → c ≠ k + 7 → hi13 c = hi c := fun c c6 c7 => by
    rw [e13]; funext s
    rw [ts_up_a c7, e11, ts_up_a c7, e7, ts_up_a c6, e6, ts_up_a c6]
  refine q hi13 ⟨?_, ?_, ?_, ?_, fun s hs => ?_⟩ o
  · rw [o k (by omega) (by omega)]; exact h9
  · rw [o k (by omega) (by omega)]; exact h10
  · rw [o k (by omega) (by omega)]; exact h11
  · rw [o k (by omega) (by omega)]; exact h12
  · have hs' : s < A 6 0 := hs
    have z := hT s hs'
    rw [o (k + 2) (by omega) (by omega), o (k + 3) (by omega) (by omega), o (k + 4) (by omega) (by omega), o (k + 5) (by omega) (by omega)]
    refine ⟨z.1, z.2.1, z.2.2.1, z.2.2.2.1, z.2.2.2.2.1, ?_, ?_⟩
    · show _ = nI (if s = b then A 5 a else if s = a then A 5 b else A 5 s)
      rw [e13, ts_up_a (by omega), e11, ts_up_a (by omega), e7]
      by_cases e1 : s = b
      · rw [e1, ts_up_eq, if_pos rfl]
      · rw [ts_up_s e1, if_neg e1, e6]
        by_cases e2 : s = a
        · rw [e2, ts_up_eq, if_pos rfl]
        · rw [ts_up_s e2, if_neg e2]
          exact z.2.2.2.2.2.1
    · show _ = nI (if s = A 5 a then b else if s = A 5 b then a else A 7 s)
      rw [e13]
      by_cases e1 : s = A 5 a
      · rw [e1, ts_up_eq, if_pos rfl]
      · rw [ts_up_s e1, if_neg e1, e11]
        by_cases e2 : s = A 5 b
        · rw [e2, ts_up_eq, if_pos rfl]
        · rw [ts_up_s e2, if_neg e2, e7, ts_up_a (by omega), e6, ts_up_a (by omega)]
          exact z.2.2.2.2.2.2
/-- sums -/
def ts_sm (f : Nat → Nat) : Nat → Nat
  | 0 => 0
  | n + 1 => ts_sm f n + f n
theorem ts_sm_congr {f h : Nat → Nat} {n : Nat} (e : ∀ i, i < n → f i = h i) : ts_sm f n = ts_sm h n := by
  induction n with
  | zero => rfl
  | succ n ih => rw [ts_sm, ts_sm, ih (fun i hi => e i (by omega)), e n (by omega)]
theorem ts_sm_le {f : Nat → Nat} {n b : Nat} (e : ∀ i, i < n → f i ≤ b) : ts_sm f n ≤ n * b := by
  induction n with
  | zero => simp [ts_sm]
  | succ n ih =>
    have h1 := ih (fun i hi => e i (by omega))
    have h2 := e n (by omega)
    rw [ts_sm, Nat.succ_mul]
    omega
/-- the votes of a set -/
def ts_vt (A : ts_A) (s : Nat) : Nat := ts_sm (fun t => if s / 2 ^ t % 2 = 1 then A 1 t else 0) (A 6 0)
def ts_rk (A : ts_A) : Nat := ts_sm (A 1) (A 6 0)
def ts_gw (A : ts_A) : Nat := ts_sm (A 2) (A 6 0)
def ts_mc (A : ts_A) : Nat := ts_sm (fun t => if A 4 t = 7 then 0 else 1) (A 6 0)
theorem ts_vt_le {A : ts_A} (hA : ts_ok A) (s : Nat) : ts_vt A s ≤ 63 := by
  have h := ts_sm_le (f := fun t => if s / 2 ^ t % 2 = 1 then A 1 t else 0) (n := A 6 0) (b := 9) (fun i hi => by
    have := (hA.2.2.2.2 i hi).2.1
    show (if _ then _ else _) ≤ 9
    split <;> omega)
  have := hA.1
  unfold ts_vt
  omega
theorem ts_rk_le {A : ts_A} (hA : ts_ok A) : ts_rk A ≤ 63 := by
  have h := ts_sm_le (f := A 1) (n := A 6 0) (b := 9) (fun i hi => (hA.2.2.2.2 i hi).2.1)
  have := hA.1
  unfold ts_rk
  omega
theorem ts_vt_all {A : ts_A} (hc : A 6 0 ≤ 7) : ts_vt A (2 ^ A 6 0 - 1) = ts_rk A := by
  unfold ts_vt ts_rk
  refine ts_sm_congr (fun i hi => ?_)
  have h : ∀ c, c < 8 → ∀ i, i < c → (2 ^ c - 1) / 2 ^ i % 2 = 1 := by decide
  rw [if_pos (h _ (by omega) i hi)]
theorem c_votesOf {d : Nat} {g : ts_G} {k s : Nat} {A : ts_A} {hi : ts_I} {hk : ts_K} {Q : Int32 → ts_I → ts_K → Prop} (hF : ts_FL g k) (hR : ts_FR k A hi hk) (hA : ts_ok A) (hs : s < 2147483648) (q : Q (nI (ts_vt A s)) hi hk) : ts_E0 d mX1_votesOf [.ref k, .int (nI s)] g hi hk (ts_qi Q) := by
  refine ts_E0.of plX1_votesOf rfl (Nat.le_of_ble_eq_true rfl) ?_
  refine wX1_votesOf_0 ?_
  obtain ⟨h9, -, -, -, hT⟩ := hR
  have a0 := hA.1
  have L : ∀ n t, t + n = A 6 0 → ts_J0 d mX1_votesOf (ts_qi Q) g 4 [(0, .ref k), (1, .int (nI s)), (2, .int (nI (ts_sm (fun t => if s / 2 ^ t % 2 = 1 then A 1 t else 0) t))), (3, .int (nI t))] [] hi hk := by
    intro n
    induction n with
    | zero =>
      intro t htn
      refine wX1_votesOf_4 ?_
      rw [h9, ts_le (by omega) (by omega)]
      refine ⟨hF.kd, fun _ => ?_, fun h => absurd (by omega) h⟩
      rw [show t = A 6 0 by omega]
      exact q
    | succ n ih =>
      intro t htn
      refine wX1_votesOf_4 ?_
      have ht : t < A 6 0 := by omega
      simp only [ts_FL.kd hF, ts_FL.k1 hF, ts_FL.k2 hF, ts_FL.k3 hF, ts_FL.k4 hF, ts_FL.k5 hF, ts_FL.k6 hF, ts_FL.k7 hF, ts_FL.k8 hF, ts_FL.k9 hF, ts_FL.l1 hF, ts_FL.l2 hF, ts_FL.l3 hF, ts_FL.l4 hF, ts_FL.l5 hF, ts_FL.l6 hF, ts_FL.l7 hF, ts_FL.l8 hF, ts_FL.l9 hF, ts_FL.o0 hF, ts_FL.o1 hF, ts_FL.o2 hF, ts_FL.o3 hF, ts_FL.o4 hF, ts_FL.o5 hF, ts_FL.o6 hF, ts_FL.o7 hF, ts_FL.o8 hF]
      rw [h9, ts_le (by omega) (by omega), ts_bitk hs (by omega), ts_l1, ts_cl (by omega), (hT t ht).2.1, nI_add, nI_add, Ne, ts_eq (by omega) (by omega)]
      refine ⟨trivial, fun h => absurd h (by omega), fun _ => ⟨fun c => ?_, fun c => ⟨by omega, trivial, ts_vin (by omega) (by omega), ?_⟩⟩⟩
      · have z := ih (t + 1) (by omega)
        rw [ts_sm, if_neg c, Nat.add_zero] at z
        exact z
      · have z := ih (t + 1) (by omega)
        rw [ts_sm, if_pos (Decidable.not_not.mp c)] at z
        exact z
  exact L (A 6 0) 0 (by omega)
theorem c_allRanks {d : Nat} {g : ts_G} {k : Nat} {A : ts_A} {hi : ts_I} {hk : ts_K} {Q : Int32 → ts_I → ts_K → Prop} (hF : ts_FL g k) (hR : ts_FR k A hi hk) (hA : ts_ok A) (q : Q (nI (ts_rk A)) hi hk) : ts_E0 (d + 1) mX1_allRanks [.ref k] g hi hk (ts_qi Q) := by
  refine ts_E0.of plX1_allRanks rfl (Nat.le_of_ble_eq_true rfl) ?_
  refine wX1_allRanks_0 ⟨hF.kd, ?_⟩
  have a0 := hA.1
  have hp : 1 ≤ 2 ^ A 6 0 := Nat.one_le_two_pow
  have hp2 : 2 ^ A 6 0 ≤ 128 := by
    have : 2 ^ A 6 0 ≤ 2 ^ 7 := Nat.pow_le_pow_right (by decide) a0
    omega
  rw [hR.1, ts_shl1 _ (by omega), ts_l1, ts_sub' hp]
  refine c_votesOf hF hR hA (by omega) ?_
  rw [ts_vt_all a0]
  exact q
theorem c_allGrown {d : Nat} {g : ts_G} {k : Nat} {A : ts_A} {hi : ts_I} {hk : ts_K} {Q : Int32 → ts_I → ts_K → Prop} (hF : ts_FL g k) (hR : ts_FR k A hi hk) (hA : ts_ok A) (q : Q (nI (ts_gw A)) hi hk) : ts_E0 d mX1_allGrown [.ref k] g hi hk (ts_qi Q) := by
  refine ts_E0.of plX1_allGrown rfl (Nat.le_of_ble_eq_true rfl) ?_
  refine wX1_allGrown_0 ?_
  obtain ⟨h9, -, -, -, hT⟩ := hR
  have a0 := hA.1
  have L : ∀ n t, t + n = A 6 0 → ts_J0 d mX1_allGrown (ts_qi Q) g 4 [(0, .ref k), (1, .int (nI (ts_sm (A 2) t))), (2, .int (nI t))] [] hi hk := by
    intro n
    induction n with
    | zero =>
      intro t htn
      refine wX1_allGrown_4 ?_
      rw [h9, ts_le (by omega) (by omega)]
      refine ⟨hF.kd, fun _ => ?_, fun h => absurd (by omega) h⟩
      rw [show t = A 6 0 by omega]
      exact q
    | succ n ih =>
      intro t htn
      refine wX1_allGrown_4 ?_
      have ht : t < A 6 0 := by omega
      simp only [ts_FL.kd hF, ts_FL.k1 hF, ts_FL.k2 hF, ts_FL.k3 hF, ts_FL.k4 hF, ts_FL.k5 hF, ts_FL.k6 hF, ts_FL.k7 hF, ts_FL.k8 hF, ts_FL.k9 hF, ts_FL.l1 hF, ts_FL.l2 hF, ts_FL.l3 hF, ts_FL.l4 hF, ts_FL.l5 hF, ts_FL.l6 hF, ts_FL.l7 hF, ts_FL.l8 hF, ts_FL.l9 hF, ts_FL.o0 hF, ts_FL.o1 hF, ts_FL.o2 hF, ts_FL.o3 hF, ts_FL.o4 hF, ts_FL.o5 hF, ts_FL.o6 hF, ts_FL.o7 hF, ts_FL.o8 hF]
      rw [h9, ts_le (by omega) (by omega), ts_l1, ts_cl (by omega), (hT t ht).2.2.1, nI_add, nI_add]
      exact ⟨trivial, fun h => absurd h (by omega), fun _ => ⟨by omega, trivial, ts_vin (by omega) (by omega), ih (t + 1) (by omega)⟩⟩
  exact L (A 6 0) 0 (by omega)
theorem ts_mIeq {m : Nat} (hm : m < 1000) : (ts_mI m = (-1 : Int32)) ↔ m = 7 := by
  unfold ts_mI
  by_cases h : m = 7
  · rw [if_pos h]; simp [h]
  · rw [if_neg h]
    refine ⟨fun c => ?_, fun c => absurd c h⟩
    have h1 := congrArg Int32.toInt c
    rw [nI_toInt (by omega)] at h1
    have : (-1 : Int32).toInt = -1 := by decide
    omega
theorem c_allMarried {d : Nat} {g : ts_G} {k : Nat} {A : ts_A} {hi : ts_I} {hk : ts_K} {Q : Int32 → ts_I → ts_K → Prop} (hF : ts_FL g k) (hR : ts_FR k A hi hk) (hA : ts_ok A) (q : Q (nI (ts_mc A)) hi hk) : ts_E0 d mX1_allMarried [.ref k] g hi hk (ts_qi Q) := by
  refine ts_E0.of plX1_allMarried rfl (Nat.le_of_ble_eq_true rfl) ?_
  refine wX1_allMarried_0 ?_
  obtain ⟨h9, -, -, -, hT⟩ := hR
  have a0 := hA.1
  have L : ∀ n t, t + n = A 6 0 → ts_J0 d mX1_allMarried (ts_qi Q) g 4 [(0, .ref k), (1, .int (nI (ts_sm (fun t => if A 4 t = 7 then 0 else 1) t))), (2, .int (nI t))] [] hi hk := by
    intro n
    induction n with
    | zero =>
      intro t htn
      refine wX1_allMarried_4 ?_
      rw [h9, ts_le (by omega) (by omega)]
      refine ⟨hF.kd, fun _ => ?_, fun h => absurd (by omega) h⟩
      rw [show t = A 6 0 by omega]
      exact q
    | succ n ih =>
      intro t htn
      refine wX1_allMarried_4 ?_
      have ht : t < A 6 0 := by omega
      have hm := (hA.2.2.2.2 t ht).2.2.2.2.1
      simp only [ts_FL.kd hF, ts_FL.k1 hF, ts_FL.k2 hF, ts_FL.k3 hF, ts_FL.k4 hF, ts_FL.k5 hF, ts_FL.k6 hF, ts_FL.k7 hF, ts_FL.k8 hF, ts_FL.k9 hF, ts_FL.l1 hF, ts_FL.l2 hF, ts_FL.l3 hF, ts_FL.l4 hF, ts_FL.l5 hF, ts_FL.l6 hF, ts_FL.l7 hF, ts_FL.l8 hF, ts_FL.l9 hF, ts_FL.o0 hF, ts_FL.o1 hF, ts_FL.o2 hF, ts_FL.o3 hF, ts_FL.o4 hF, ts_FL.o5 hF, ts_FL.o6 hF, ts_FL.o7 hF, ts_FL.o8 hF]
      rw [h9, ts_le (by omega) (by omega), ts_cl (by omega), (hT t ht).2.2.2.2.1, ts_mIeq (by omega), ts_l1, nI_add, nI_add]
      have z := ih (t + 1) (by omega)
      refine ⟨trivial, fun h => absurd h (by omega), fun _ => ⟨by omega, trivial, ts_vin (by omega) (by omega), fun c => ?_, fun c => ?_⟩⟩
      · rw [ts_sm, if_pos c, Nat.add_zero] at z; exact z
      · rw [ts_sm, if_neg c] at z; exact z
  exact L (A 6 0) 0 (by omega)
