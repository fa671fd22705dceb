/-- where the cells of the class lie -/
def ts_LX (g : ts_G) : Prop := g.2.1 1 = 10 ∧ g.2.2.2 1 0 = 2 ∧ g.2.2.2 1 1 = 3 ∧ g.2.2.2 1 2 = 5 ∧ g.2.2.2 1 3 = 7 ∧ g.2.2.2 1 4 = 8 ∧ g.2.2.2 1 5 = 9 ∧ g.2.2.2 1 6 = 291 ∧ g.2.2.2 1 7 = 301 ∧ g.2.2.2 1 8 = 311 ∧ g.2.1 2 = 102 ∧ g.2.2.1 2 = 8 ∧ g.2.1 3 = 8 ∧ g.2.2.2 3 0 = 4 ∧ g.2.1 4 = 100 ∧ g.2.2.1 4 = 90 ∧ g.2.1 5 = 9 ∧ g.2.2.2 5 0 = 6 ∧ g.2.1 6 = 100 ∧ g.2.2.1 6 = 16 ∧ g.2.1 7 = 103 ∧ g.2.2.1 7 = 6 ∧ g.2.1 8 = 104 ∧ g.2.2.1 8 = 24 ∧ g.2.1 9 = 104 ∧ g.2.2.1 9 = 2 ∧ g.2.1 311 = 6 ∧ g.2.2.2 311 0 = 291 ∧ g.2.2.2 311 1 = 7 ∧ g.2.2.2 311 2 = 312 ∧ g.2.2.2 311 3 = 395 ∧ g.2.2.2 311 4 = 313 ∧ g.2.2.2 311 5 = 314 ∧ g.2.1 312 = 104 ∧ g.2.2.1 312 = 9 ∧ g.2.1 313 = 100 ∧ g.2.2.1 313 = 7 ∧ g.2.1 314 = 100 ∧ g.2.2.1 314 = 7 ∧ (∀ i, i < 8 → g.2.2.2 2 i = 15 + 2 * i ∧ g.2.1 (15 + 2 * i) = 5 ∧ g.2.2.2 (15 + 2 * i) 0 = 16 + 2 * i ∧ g.2.1 (16 + 2 * i) = 100 ∧ g.2.2.1 (16 + 2 * i) = 40) ∧ (∀ i, i < 24 → g.2.2.2 8 i = 31 + 10 * i ∧ ts_FL g (31 + 10 * i)) ∧ (∀ i, i < 2 → g.2.2.2 9 i = 271 + 10 * i ∧ ts_FL g (271 + 10 * i)) ∧ ts_KL g ∧ ts_FL g 291 ∧ ts_FL g 301 ∧ (∀ i, i < 9 → g.2.2.2 312 i = 315 + 10 * i ∧ ts_FL g (315 + 10 * i))
theorem ts_LX.s0 {g : ts_G} (h : ts_LX g) : g.2.1 1 = 10 := h.1
theorem ts_LX.s1 {g : ts_G} (h : ts_LX g) : g.2.2.2 1 0 = 2 := h.2.1
theorem ts_LX.s2 {g : ts_G} (h : ts_LX g) : g.2.2.2 1 1 = 3 := h.2.2.1
theorem ts_LX.s3 {g : ts_G} (h : ts_LX g) : g.2.2.2 1 2 = 5 := h.2.2.2.1
theorem ts_LX.s4 {g : ts_G} (h : ts_LX g) : g.2.2.2 1 3 = 7 := h.2.2.2.2.1
theorem ts_LX.s5 {g : ts_G} (h : ts_LX g) : g.2.2.2 1 4 = 8 := h.2.2.2.2.2.1
theorem ts_LX.s6 {g : ts_G} (h : ts_LX g) : g.2.2.2 1 5 = 9 := h.2.2.2.2.2.2.1
theorem ts_LX.s7 {g : ts_G} (h : ts_LX g) : g.2.2.2 1 6 = 291 := h.2.2.2.2.2.2.2.1
theorem ts_LX.s8 {g : ts_G} (h : ts_LX g) : g.2.2.2 1 7 = 301 := h.2.2.2.2.2.2.2.2.1
theorem ts_LX.s9 {g : ts_G} (h : ts_LX g) : g.2.2.2 1 8 = 311 := h.2.2.2.2.2.2.2.2.2.1
theorem ts_LX.s10 {g : ts_G} (h : ts_LX g) : g.2.1 2 = 102 := h.2.2.2.2.2.2.2.2.2.2.1
theorem ts_LX.s11 {g : ts_G} (h : ts_LX g) : g.2.2.1 2 = 8 := h.2.2.2.2.2.2.2.2.2.2.2.1
theorem ts_LX.s12 {g : ts_G} (h : ts_LX g) : g.2.1 3 = 8 := h.2.2.2.2.2.2.2.2.2.2.2.2.1
theorem ts_LX.s13 {g : ts_G} (h : ts_LX g) : g.2.2.2 3 0 = 4 := h.2.2.2.2.2.2.2.2.2.2.2.2.2.1
theorem ts_LX.s14 {g : ts_G} (h : ts_LX g) : g.2.1 4 = 100 := h.2.2.2.2.2.2.2.2.2.2.2.2.2.2.1
theorem ts_LX.s15 {g : ts_G} (h : ts_LX g) : g.2.2.1 4 = 90 := h.2.2.2.2.2.2.2.2.2.2.2.2.2.2.2.1
theorem ts_LX.s16 {g : ts_G} (h : ts_LX g) : g.2.1 5 = 9 := h.2.2.2.2.2.2.2.2.2.2.2.2.2.2.2.2.1
theorem ts_LX.s17 {g : ts_G} (h : ts_LX g) : g.2.2.2 5 0 = 6 := h.2.2.2.2.2.2.2.2.2.2.2.2.2.2.2.2.2.1
theorem ts_LX.s18 {g : ts_G} (h : ts_LX g) : g.2.1 6 = 100 := h.2.2.2.2.2.2.2.2.2.2.2.2.2.2.2.2.2.2.1
theorem ts_LX.s19 {g : ts_G} (h : ts_LX g) : g.2.2.1 6 = 16 := h.2.2.2.2.2.2.2.2.2.2.2.2.2.2.2.2.2.2.2.1
theorem ts_LX.s20 {g : ts_G} (h : ts_LX g) : g.2.1 7 = 103 := h.2.2.2.2.2.2.2.2.2.2.2.2.2.2.2.2.2.2.2.2.1
theorem ts_LX.s21 {g : ts_G} (h : ts_LX g) : g.2.2.1 7 = 6 := h.2.2.2.2.2.2.2.2.2.2.2.2.2.2.2.2.2.2.2.2.2.1
theorem ts_LX.s22 {g : ts_G} (h : ts_LX g) : g.2.1 8 = 104 := h.2.2.2.2.2.2.2.2.2.2.2.2.2.2.2.2.2.2.2.2.2.2.1
theorem ts_LX.s23 {g : ts_G} (h : ts_LX g) : g.2.2.1 8 = 24 := h.2.2.2.2.2.2.2.2.2.2.2.2.2.2.2.2.2.2.2.2.2.2.2.1
theorem ts_LX.s24 {g : ts_G} (h : ts_LX g) : g.2.1 9 = 104 := h.2.2.2.2.2.2.2.2.2.2.2.2.2.2.2.2.2.2.2.2.2.2.2.2.1
theorem ts_LX.s25 {g : ts_G} (h : ts_LX g) : g.2.2.1 9 = 2 := h.2.2.2.2.2.2.2.2.2.2.2.2.2.2.2.2.2.2.2.2.2.2.2.2.2.1
theorem ts_LX.s26 {g : ts_G} (h : ts_LX g) : g.2.1 311 = 6 := h.2.2.2.2.2.2.2.2.2.2.2.2.2.2.2.2.2.2.2.2.2.2.2.2.2.2.1
theorem ts_LX.s27 {g : ts_G} (h : ts_LX g) : g.2.2.2 311 0 = 291 := h.2.2.2.2.2.2.2.2.2.2.2.2.2.2.2.2.2.2.2.2.2.2.2.2.2.2.2.1
theorem ts_LX.s28 {g : ts_G} (h : ts_LX g) : g.2.2.2 311 1 = 7 := h.2.2.2.2.2.2.2.2.2.2.2.2.2.2.2.2.2.2.2.2.2.2.2.2.2.2.2.2.1
theorem ts_LX.s29 {g : ts_G} (h : ts_LX g) : g.2.2.2 311 2 = 312 := h.2.2.2.2.2.2.2.2.2.2.2.2.2.2.2.2.2.2.2.2.2.2.2.2.2.2.2.2.2.1
theorem ts_LX.s30 {g : ts_G} (h : ts_LX g) : g.2.2.2 311 3 = 395 := h.2.2.2.2.2.2.2.2.2.2.2.2.2.2.2.2.2.2.2.2.2.2.2.2.2.2.2.2.2.2.1
theorem ts_LX.s31 {g : ts_G} (h : ts_LX g) : g.2.2.2 311 4 = 313 := h.2.2.2.2.2.2.2.2.2.2.2.2.2.2.2.2.2.2.2.2.2.2.2.2.2.2.2.2.2.2.2.1
theorem ts_LX.s32 {g : ts_G} (h : ts_LX g) : g.2.2.2 311 5 = 314 := h.2.2.2.2.2.2.2.2.2.2.2.2.2.2.2.2.2.2.2.2.2.2.2.2.2.2.2.2.2.2.2.2.1
theorem ts_LX.s33 {g : ts_G} (h : ts_LX g) : g.2.1 312 = 104 := h.2.2.2.2.2.2.2.2.2.2.2.2.2.2.2.2.2.2.2.2.2.2.2.2.2.2.2.2.2.2.2.2.2.1
theorem ts_LX.s34 {g : ts_G} (h : ts_LX g) : g.2.2.1 312 = 9 := h.2.2.2.2.2.2.2.2.2.2.2.2.2.2.2.2.2.2.2.2.2.2.2.2.2.2.2.2.2.2.2.2.2.2.1
theorem ts_LX.s35 {g : ts_G} (h : ts_LX g) : g.2.1 313 = 100 := h.2.2.2.2.2.2.2.2.2.2.2.2.2.2.2.2.2.2.2.2.2.2.2.2.2.2.2.2.2.2.2.2.2.2.2.1
theorem ts_LX.s36 {g : ts_G} (h : ts_LX g) : g.2.2.1 313 = 7 := h.2.2.2.2.2.2.2.2.2.2.2.2.2.2.2.2.2.2.2.2.2.2.2.2.2.2.2.2.2.2.2.2.2.2.2.2.1
theorem ts_LX.s37 {g : ts_G} (h : ts_LX g) : g.2.1 314 = 100 := h.2.2.2.2.2.2.2.2.2.2.2.2.2.2.2.2.2.2.2.2.2.2.2.2.2.2.2.2.2.2.2.2.2.2.2.2.2.1
theorem ts_LX.s38 {g : ts_G} (h : ts_LX g) : g.2.2.1 314 = 7 := h.2.2.2.2.2.2.2.2.2.2.2.2.2.2.2.2.2.2.2.2.2.2.2.2.2.2.2.2.2.2.2.2.2.2.2.2.2.2.1
theorem ts_LX.row {g : ts_G} (h : ts_LX g) : (∀ i, i < 8 → g.2.2.2 2 i = 15 + 2 * i ∧ g.2.1 (15 + 2 * i) = 5 ∧ g.2.2.2 (15 + 2 * i) 0 = 16 + 2 * i ∧ g.2.1 (16 + 2 * i) = 100 ∧ g.2.2.1 (16 + 2 * i) = 40) := h.2.2.2.2.2.2.2.2.2.2.2.2.2.2.2.2.2.2.2.2.2.2.2.2.2.2.2.2.2.2.2.2.2.2.2.2.2.2.2.1
theorem ts_LX.act {g : ts_G} (h : ts_LX g) : (∀ i, i < 24 → g.2.2.2 8 i = 31 + 10 * i ∧ ts_FL g (31 + 10 * i)) := h.2.2.2.2.2.2.2.2.2.2.2.2.2.2.2.2.2.2.2.2.2.2.2.2.2.2.2.2.2.2.2.2.2.2.2.2.2.2.2.2.1
theorem ts_LX.img {g : ts_G} (h : ts_LX g) : (∀ i, i < 2 → g.2.2.2 9 i = 271 + 10 * i ∧ ts_FL g (271 + 10 * i)) := h.2.2.2.2.2.2.2.2.2.2.2.2.2.2.2.2.2.2.2.2.2.2.2.2.2.2.2.2.2.2.2.2.2.2.2.2.2.2.2.2.2.1
theorem ts_LX.kl {g : ts_G} (h : ts_LX g) : ts_KL g := h.2.2.2.2.2.2.2.2.2.2.2.2.2.2.2.2.2.2.2.2.2.2.2.2.2.2.2.2.2.2.2.2.2.2.2.2.2.2.2.2.2.2.1
theorem ts_LX.now {g : ts_G} (h : ts_LX g) : ts_FL g 291 := h.2.2.2.2.2.2.2.2.2.2.2.2.2.2.2.2.2.2.2.2.2.2.2.2.2.2.2.2.2.2.2.2.2.2.2.2.2.2.2.2.2.2.2.1
theorem ts_LX.dra {g : ts_G} (h : ts_LX g) : ts_FL g 301 := h.2.2.2.2.2.2.2.2.2.2.2.2.2.2.2.2.2.2.2.2.2.2.2.2.2.2.2.2.2.2.2.2.2.2.2.2.2.2.2.2.2.2.2.2.1
theorem ts_LX.tri {g : ts_G} (h : ts_LX g) : (∀ i, i < 9 → g.2.2.2 312 i = 315 + 10 * i ∧ ts_FL g (315 + 10 * i)) := h.2.2.2.2.2.2.2.2.2.2.2.2.2.2.2.2.2.2.2.2.2.2.2.2.2.2.2.2.2.2.2.2.2.2.2.2.2.2.2.2.2.2.2.2.2

/-! years on -/
theorem ts_ne {a b : Nat} (ha : a < 2147483648) (hb : b < 2147483648) : (nI a ≠ nI b) = (a ≠ b) := by rw [Ne, Ne, ts_eq ha hb]
def ts_nx (A : ts_A) : ts_A := ts_ps A (ts_fr A)
def ts_pn (A : ts_A) : Nat → ts_A
  | 0 => A
  | n + 1 => ts_nx (ts_pn A n)
theorem ts_pn_c (A : ts_A) (n : Nat) : ts_pn A n 6 0 = A 6 0 ∧ ts_pn A n 6 1 = A 6 1 + n := by
  induction n with
  | zero => exact ⟨rfl, rfl⟩
  | succ n ih =>
    refine ⟨ih.1, ?_⟩
    show ts_pn A n 6 1 + 1 = _
    omega
theorem ts_pn_ok {A : ts_A} (hA : ts_ok A) (n : Nat) (h : A 6 1 + n ≤ 1000000) : ts_ok (ts_pn A n) := by
  induction n with
  | zero => exact hA
  | succ n ih =>
    have := ts_pn_c A n
    exact ts_ok_ps (ih (by omega)) (by omega)
/-- the first i from i0 on, n of them tried, of which p is told; else 1000 -/
def ts_fd (p : Nat → Bool) : Nat → Nat → Nat
  | 0, _ => 1000
  | n + 1, i => if p i = true then i else ts_fd p n (i + 1)
theorem ts_fd_lt {p : Nat → Bool} {n i : Nat} (h : ts_fd p n i ≠ 1000) : ts_fd p n i < i + n ∧ p (ts_fd p n i) = true := by
  induction n generalizing i with
  | zero => exact absurd rfl h
  | succ n ih =>
    rw [ts_fd] at h ⊢
    by_cases e : p i = true
    · rw [if_pos e]
      exact ⟨by omega, e⟩
    · rw [if_neg e] at h ⊢
      have := ih h
      exact ⟨by omega, this.2⟩
theorem ts_fr_le (A : ts_A) : ts_fr A ≤ 1 := by unfold ts_fr; omega
theorem c_fpass {d : Nat} {g : ts_G} {k : Nat} {A : ts_A} {hi : ts_I} {hk : ts_K} {P : ts_I → ts_K → Prop} (hL : ts_KL g) (hF : ts_FL g k) (hR : ts_FR k A hi hk) (hA : ts_ok A)
    (q : ∀ hi', ts_FR k (ts_nx A) hi' hk → (∀ b, (b < k ∨ k + 9 < b) → hi' b = hi b) → P hi' hk) : ts_E0 (d + 3) mX1_hasFrost [.ref k] g hi hk (ts_qi (fun v hi5 hk6 => ts_E0 (d + 3) mX1_pass [.ref k, .int v] g hi5 hk6 (ts_qv P))) :=
  c_hasFrost hF hR hA (c_pass hL hF hR hA (ts_fr_le A) q)
theorem c_afterYears {d n : Nat} {g : ts_G} {A : ts_A} {hi : ts_I} {hk : ts_K} {Q : Nat → ts_I → ts_K → Prop} (hX : ts_LX g) (hR : ts_FR 291 A hi hk) (hK : ts_FK 291 hk) (hA : ts_ok A) (hn : A 6 1 + n ≤ 1000000) (hn2 : n < 2147483648)
    (q : ∀ hi' hk', ts_FR 395 (ts_pn A n) hi' hk' → ts_FK 395 hk' → (∀ b, (b < 395 ∨ 404 < b) → hi' b = hi b) → (∀ b, b ≠ 396 → hk' b = hk b) → Q 395 hi' hk') : ts_E0 (d + 4) mX7_afterYears [.ref 311, .int (nI n)] g hi hk (ts_qr Q) := by
  refine ts_E0.of plX7_afterYears rfl (Nat.le_of_ble_eq_true rfl) ?_
  refine wX7_afterYears_0 ?_
  have hT : ts_FL g 395 := (hX.tri 8 (by omega)).2
  simp only [ts_LX.s0 hX, ts_LX.s1 hX, ts_LX.s2 hX, ts_LX.s3 hX, ts_LX.s4 hX, ts_LX.s5 hX, ts_LX.s6 hX, ts_LX.s7 hX, ts_LX.s8 hX, ts_LX.s9 hX, ts_LX.s10 hX, ts_LX.s11 hX, ts_LX.s12 hX, ts_LX.s13 hX, ts_LX.s14 hX, ts_LX.s15 hX, ts_LX.s16 hX, ts_LX.s17 hX, ts_LX.s18 hX, ts_LX.s19 hX, ts_LX.s20 hX, ts_LX.s21 hX, ts_LX.s22 hX, ts_LX.s23 hX, ts_LX.s24 hX, ts_LX.s25 hX, ts_LX.s26 hX, ts_LX.s27 hX, ts_LX.s28 hX, ts_LX.s29 hX, ts_LX.s30 hX, ts_LX.s31 hX, ts_LX.s32 hX, ts_LX.s33 hX, ts_LX.s34 hX, ts_LX.s35 hX, ts_LX.s36 hX, ts_LX.s37 hX, ts_LX.s38 hX]
  refine ⟨trivial, by omega, by omega, hT.kd, c_become hX.kl hT hX.now (by omega) hR hK hA.1 (fun hi1 hk1 hR1 hK1 ho1 hok1 => ?_)⟩
  have L : ∀ m i hi', i + m = n → ts_FR 395 (ts_pn A i) hi' hk1 → (∀ b, (b < 395 ∨ 404 < b) → hi' b = hi b) → ts_J0 (d + 4) mX7_afterYears (ts_qr Q) g 13 [(0, .ref 311), (1, .int (nI n)), (2, .int (nI i))] [] hi' hk1 := by
    intro m
    induction m with
    | zero =>
      intro i hi' hin hR' hO
      refine wX7_afterYears_13 ?_
      simp only [ts_LX.s0 hX, ts_LX.s1 hX, ts_LX.s2 hX, ts_LX.s3 hX, ts_LX.s4 hX, ts_LX.s5 hX, ts_LX.s6 hX, ts_LX.s7 hX, ts_LX.s8 hX, ts_LX.s9 hX, ts_LX.s10 hX, ts_LX.s11 hX, ts_LX.s12 hX, ts_LX.s13 hX, ts_LX.s14 hX, ts_LX.s15 hX, ts_LX.s16 hX, ts_LX.s17 hX, ts_LX.s18 hX, ts_LX.s19 hX, ts_LX.s20 hX, ts_LX.s21 hX, ts_LX.s22 hX, ts_LX.s23 hX, ts_LX.s24 hX, ts_LX.s25 hX, ts_LX.s26 hX, ts_LX.s27 hX, ts_LX.s28 hX, ts_LX.s29 hX, ts_LX.s30 hX, ts_LX.s31 hX, ts_LX.s32 hX, ts_LX.s33 hX, ts_LX.s34 hX, ts_LX.s35 hX, ts_LX.s36 hX, ts_LX.s37 hX, ts_LX.s38 hX]
      rw [ts_le (by omega) (by omega)]
      refine ⟨fun _ => ⟨trivial, by omega, ?_⟩, fun h => absurd (by omega) h⟩
      rw [show i = n by omega] at hR'
      exact q hi' hk1 hR' hK1 hO hok1
    | succ m ih =>
      intro i hi' hin hR' hO
      refine wX7_afterYears_13 ?_
      simp only [ts_LX.s0 hX, ts_LX.s1 hX, ts_LX.s2 hX, ts_LX.s3 hX, ts_LX.s4 hX, ts_LX.s5 hX, ts_LX.s6 hX, ts_LX.s7 hX, ts_LX.s8 hX, ts_LX.s9 hX, ts_LX.s10 hX, ts_LX.s11 hX, ts_LX.s12 hX, ts_LX.s13 hX, ts_LX.s14 hX, ts_LX.s15 hX, ts_LX.s16 hX, ts_LX.s17 hX, ts_LX.s18 hX, ts_LX.s19 hX, ts_LX.s20 hX, ts_LX.s21 hX, ts_LX.s22 hX, ts_LX.s23 hX, ts_LX.s24 hX, ts_LX.s25 hX, ts_LX.s26 hX, ts_LX.s27 hX, ts_LX.s28 hX, ts_LX.s29 hX, ts_LX.s30 hX, ts_LX.s31 hX, ts_LX.s32 hX, ts_LX.s33 hX, ts_LX.s34 hX, ts_LX.s35 hX, ts_LX.s36 hX, ts_LX.s37 hX, ts_LX.s38 hX]
      rw [ts_le (by omega) (by omega)]
      refine ⟨fun h => absurd h (by omega), fun _ => ⟨trivial, by omega, hT.kd, c_fpass hX.kl hT hR' (ts_pn_ok hA i (by omega)) (fun hi2 hR2 ho2 => ?_)⟩⟩
      rw [ts_l1, nI_add]
      exact ih (i + 1) hi2 (by omega) hR2 (fun b hb => by rw [ho2 b (by omega), hO b hb])
  exact L n 0 hi1 (by omega) hR1 (fun b hb => ho1 b (by omega))
def ts_yu (A : ts_A) (t r : Nat) : Nat := ts_fd (fun i => decide (r ≤ ts_pn A i 1 t)) 61 0
theorem c_yearsUntil {d t r : Nat} {g : ts_G} {A : ts_A} {hi : ts_I} {hk : ts_K} {Q : Int32 → ts_I → ts_K → Prop} (hX : ts_LX g) (hR : ts_FR 291 A hi hk) (hK : ts_FK 291 hk) (hA : ts_ok A) (hn : A 6 1 + 100 ≤ 1000000) (ht : t < A 6 0) (hr : r ≤ 9)
    (q : ∀ hi' hk', ts_FK 395 hk' → (∀ b, (b < 395 ∨ 404 < b) → hi' b = hi b) → (∀ b, b ≠ 396 → hk' b = hk b) → Q (if ts_yu A t r = 1000 then -1000000 else nI (ts_yu A t r)) hi' hk') : ts_E0 (d + 4) mX7_yearsUntil [.ref 311, .int (nI t), .int (nI r)] g hi hk (ts_qi Q) := by
  refine ts_E0.of plX7_yearsUntil rfl (Nat.le_of_ble_eq_true rfl) ?_
  refine wX7_yearsUntil_0 ?_
  have hT : ts_FL g 395 := (hX.tri 8 (by omega)).2
  have a0 := hA.1
  simp only [ts_LX.s0 hX, ts_LX.s1 hX, ts_LX.s2 hX, ts_LX.s3 hX, ts_LX.s4 hX, ts_LX.s5 hX, ts_LX.s6 hX, ts_LX.s7 hX, ts_LX.s8 hX, ts_LX.s9 hX, ts_LX.s10 hX, ts_LX.s11 hX, ts_LX.s12 hX, ts_LX.s13 hX, ts_LX.s14 hX, ts_LX.s15 hX, ts_LX.s16 hX, ts_LX.s17 hX, ts_LX.s18 hX, ts_LX.s19 hX, ts_LX.s20 hX, ts_LX.s21 hX, ts_LX.s22 hX, ts_LX.s23 hX, ts_LX.s24 hX, ts_LX.s25 hX, ts_LX.s26 hX, ts_LX.s27 hX, ts_LX.s28 hX, ts_LX.s29 hX, ts_LX.s30 hX, ts_LX.s31 hX, ts_LX.s32 hX, ts_LX.s33 hX, ts_LX.s34 hX, ts_LX.s35 hX, ts_LX.s36 hX, ts_LX.s37 hX, ts_LX.s38 hX]
  refine ⟨trivial, by omega, by omega, hT.kd, c_become hX.kl hT hX.now (by omega) hR hK hA.1 (fun hi1 hk1 hR1 hK1 ho1 hok1 => ?_)⟩
  have L : ∀ m i hi', i + m = 61 → ts_FR 395 (ts_pn A i) hi' hk1 → (∀ b, (b < 395 ∨ 404 < b) → hi' b = hi b) → ts_fd (fun i => decide (r ≤ ts_pn A i 1 t)) m i = ts_yu A t r → ts_J0 (d + 4) mX7_yearsUntil (ts_qi Q) g 13 [(0, .ref 311), (1, .int (nI t)), (2, .int (nI r)), (3, .int (nI i))] [] hi' hk1 := by
    intro m
    induction m with
    | zero =>
      intro i hi' hin hR' hO hf
      refine wX7_yearsUntil_13 ?_
      rw [show (60 : Int32) = nI 60 from rfl, ts_lt (by omega) (by omega)]
      refine ⟨fun _ => ?_, fun h => absurd (by omega) h⟩
      have z := q hi' hk1 hK1 hO hok1
      rw [if_pos (show ts_yu A t r = 1000 by rw [← hf, ts_fd])] at z
      exact z
    | succ m ih =>
      intro i hi' hin hR' hO hf
      refine wX7_yearsUntil_13 ?_
      have hc := ts_pn_c A i
      have hok := ts_pn_ok hA i (by omega)
      have hrk := (hok.2.2.2.2 t (by omega)).2.1
      simp only [ts_LX.s0 hX, ts_LX.s1 hX, ts_LX.s2 hX, ts_LX.s3 hX, ts_LX.s4 hX, ts_LX.s5 hX, ts_LX.s6 hX, ts_LX.s7 hX, ts_LX.s8 hX, ts_LX.s9 hX, ts_LX.s10 hX, ts_LX.s11 hX, ts_LX.s12 hX, ts_LX.s13 hX, ts_LX.s14 hX, ts_LX.s15 hX, ts_LX.s16 hX, ts_LX.s17 hX, ts_LX.s18 hX, ts_LX.s19 hX, ts_LX.s20 hX, ts_LX.s21 hX, ts_LX.s22 hX, ts_LX.s23 hX, ts_LX.s24 hX, ts_LX.s25 hX, ts_LX.s26 hX, ts_LX.s27 hX, ts_LX.s28 hX, ts_LX.s29 hX, ts_LX.s30 hX, ts_LX.s31 hX, ts_LX.s32 hX, ts_LX.s33 hX, ts_LX.s34 hX, ts_LX.s35 hX, ts_LX.s36 hX, ts_LX.s37 hX, ts_LX.s38 hX, ts_FL.kd hT, ts_FL.k1 hT, ts_FL.k2 hT, ts_FL.k3 hT, ts_FL.k4 hT, ts_FL.k5 hT, ts_FL.k6 hT, ts_FL.k7 hT, ts_FL.k8 hT, ts_FL.k9 hT, ts_FL.l1 hT, ts_FL.l2 hT, ts_FL.l3 hT, ts_FL.l4 hT, ts_FL.l5 hT, ts_FL.l6 hT, ts_FL.l7 hT, ts_FL.l8 hT, ts_FL.l9 hT, ts_FL.o0 hT, ts_FL.o1 hT, ts_FL.o2 hT, ts_FL.o3 hT, ts_FL.o4 hT, ts_FL.o5 hT, ts_FL.o6 hT, ts_FL.o7 hT, ts_FL.o8 hT]
      rw [show (60 : Int32) = nI 60 from rfl, ts_lt (by omega) (by omega), ts_cl (by omega), show (395 + 2 : Nat) = 395 + 2 from rfl, (hR'.2.2.2.2 t (by omega)).2.1, ts_lt (by omega) (by omega)]
      rw [ts_fd] at hf
      refine ⟨fun h => absurd h (by omega), fun _ => ⟨trivial, by omega, trivial, by omega, trivial, ts_vin (by omega) (by omega), fun c => c_fpass hX.kl hT hR' hok (fun hi2 hR2 ho2 => ?_), fun c => ?_⟩⟩
      · rw [ts_l1, nI_add]
        rw [if_neg (by simp; omega)] at hf
        exact ih (i + 1) hi2 (by omega) hR2 (fun b hb => by rw [ho2 b (by omega), hO b hb]) hf
      · rw [if_pos (by simp; omega)] at hf
        have z := q hi' hk1 hK1 hO hok1
        rw [← hf, if_neg (by omega)] at z
        exact z
  exact L 61 0 hi1 (by omega) hR1 (fun b hb => ho1 b (by omega)) rfl
/-- who has rank 9 in a field, the least; 1000: nobody -/
def ts_s9 (A : ts_A) : Nat := ts_fd (fun t => decide (A 1 t = 9)) (A 6 0) 0
/-- behind how many years somebody has; 1000: never -/
def ts_sy (A : ts_A) : Nat := ts_fd (fun i => decide (ts_s9 (ts_pn A i) ≠ 1000)) 61 0
theorem c_firstSquire {d : Nat} {g : ts_G} {A : ts_A} {hi : ts_I} {hk : ts_K} {Q : Int32 → ts_I → ts_K → Prop} (hX : ts_LX g) (hR : ts_FR 291 A hi hk) (hK : ts_FK 291 hk) (hA : ts_ok A) (hn : A 6 1 + 100 ≤ 1000000)
    (q : ∀ hi' hk', ts_FK 395 hk' → (∀ b, b ≠ 311 → (b < 395 ∨ 404 < b) → hi' b = hi b) → (∀ b, b ≠ 396 → hk' b = hk b) → (ts_sy A ≠ 1000 → hi' 311 7 = nI (ts_sy A)) → Q (if ts_sy A = 1000 then -1 else nI (ts_s9 (ts_pn A (ts_sy A)))) hi' hk') : ts_E0 (d + 4) mX7_firstSquire [.ref 311] g hi hk (ts_qi Q) := by
  refine ts_E0.of plX7_firstSquire rfl (Nat.le_of_ble_eq_true rfl) ?_
  refine wX7_firstSquire_0 ?_
  have hT : ts_FL g 395 := (hX.tri 8 (by omega)).2
  have a0 := hA.1
  simp only [ts_LX.s0 hX, ts_LX.s1 hX, ts_LX.s2 hX, ts_LX.s3 hX, ts_LX.s4 hX, ts_LX.s5 hX, ts_LX.s6 hX, ts_LX.s7 hX, ts_LX.s8 hX, ts_LX.s9 hX, ts_LX.s10 hX, ts_LX.s11 hX, ts_LX.s12 hX, ts_LX.s13 hX, ts_LX.s14 hX, ts_LX.s15 hX, ts_LX.s16 hX, ts_LX.s17 hX, ts_LX.s18 hX, ts_LX.s19 hX, ts_LX.s20 hX, ts_LX.s21 hX, ts_LX.s22 hX, ts_LX.s23 hX, ts_LX.s24 hX, ts_LX.s25 hX, ts_LX.s26 hX, ts_LX.s27 hX, ts_LX.s28 hX, ts_LX.s29 hX, ts_LX.s30 hX, ts_LX.s31 hX, ts_LX.s32 hX, ts_LX.s33 hX, ts_LX.s34 hX, ts_LX.s35 hX, ts_LX.s36 hX, ts_LX.s37 hX, ts_LX.s38 hX]
  refine ⟨trivial, by omega, by omega, hT.kd, c_become hX.kl hT hX.now (by omega) hR hK hA.1 (fun hi1 hk1 hR1 hK1 ho1 hok1 => ?_)⟩
  have L : ∀ m i hi', i + m = 61 → ts_FR 395 (ts_pn A i) hi' hk1 → (∀ b, (b < 395 ∨ 404 < b) → hi' b = hi b) → ts_fd (fun i => decide (ts_s9 (ts_pn A i) ≠ 1000)) m i = ts_sy A → ts_J0 (d + 4) mX7_firstSquire (ts_qi Q) g 13 [(0, .ref 311), (1, .int (nI i))] [] hi' hk1 := by
    intro m
    induction m with
    | zero =>
      intro i hi' hin hR' hO hf
      refine wX7_firstSquire_13 ?_
      rw [show (60 : Int32) = nI 60 from rfl, ts_lt (by omega) (by omega)]
      refine ⟨fun _ => ?_, fun h => absurd (by omega) h⟩
      have e : ts_sy A = 1000 := by rw [← hf, ts_fd]
      have z := q hi' hk1 hK1 (fun b _ hb => hO b hb) hok1 (fun h => absurd e h)
      rw [if_pos e] at z
      exact z
    | succ m ih =>
      intro i hi' hin hR' hO hf
      refine wX7_firstSquire_13 ?_
      rw [show (60 : Int32) = nI 60 from rfl, ts_lt (by omega) (by omega)]
      refine ⟨fun h => absurd h (by omega), fun _ => ?_⟩
      have hc := ts_pn_c A i
      have hok := ts_pn_ok hA i (by omega)
      rw [ts_fd] at hf
      have M : ∀ n t, t + n = A 6 0 → ts_fd (fun t => decide (ts_pn A i 1 t = 9)) n t = ts_s9 (ts_pn A i) → ts_J0 (d + 4) mX7_firstSquire (ts_qi Q) g 21 [(0, .ref 311), (1, .int (nI i)), (2, .int (nI t))] [] hi' hk1 := by
        intro n
        induction n with
        | zero =>
          intro t htn he
          refine wX7_firstSquire_21 ?_
          simp only [ts_LX.s0 hX, ts_LX.s1 hX, ts_LX.s2 hX, ts_LX.s3 hX, ts_LX.s4 hX, ts_LX.s5 hX, ts_LX.s6 hX, ts_LX.s7 hX, ts_LX.s8 hX, ts_LX.s9 hX, ts_LX.s10 hX, ts_LX.s11 hX, ts_LX.s12 hX, ts_LX.s13 hX, ts_LX.s14 hX, ts_LX.s15 hX, ts_LX.s16 hX, ts_LX.s17 hX, ts_LX.s18 hX, ts_LX.s19 hX, ts_LX.s20 hX, ts_LX.s21 hX, ts_LX.s22 hX, ts_LX.s23 hX, ts_LX.s24 hX, ts_LX.s25 hX, ts_LX.s26 hX, ts_LX.s27 hX, ts_LX.s28 hX, ts_LX.s29 hX, ts_LX.s30 hX, ts_LX.s31 hX, ts_LX.s32 hX, ts_LX.s33 hX, ts_LX.s34 hX, ts_LX.s35 hX, ts_LX.s36 hX, ts_LX.s37 hX, ts_LX.s38 hX]
          rw [hR'.1, ts_le (by omega) (by omega)]
          refine ⟨trivial, by omega, hT.kd, fun _ => ?_, fun h => absurd (by omega) h⟩
          refine c_fpass hX.kl hT hR' hok (fun hi2 hR2 ho2 => ?_)
          rw [ts_l1, nI_add]
          rw [ts_fd] at he
          rw [if_neg (by simp [← he])] at hf
          exact ih (i + 1) hi2 (by omega) hR2 (fun b hb => by rw [ho2 b (by omega), hO b hb]) hf
        | succ n ih2 =>
          intro t htn he
          refine wX7_firstSquire_21 ?_
          have hrk := (hok.2.2.2.2 t (by omega)).2.1
          simp only [ts_LX.s0 hX, ts_LX.s1 hX, ts_LX.s2 hX, ts_LX.s3 hX, ts_LX.s4 hX, ts_LX.s5 hX, ts_LX.s6 hX, ts_LX.s7 hX, ts_LX.s8 hX, ts_LX.s9 hX, ts_LX.s10 hX, ts_LX.s11 hX, ts_LX.s12 hX, ts_LX.s13 hX, ts_LX.s14 hX, ts_LX.s15 hX, ts_LX.s16 hX, ts_LX.s17 hX, ts_LX.s18 hX, ts_LX.s19 hX, ts_LX.s20 hX, ts_LX.s21 hX, ts_LX.s22 hX, ts_LX.s23 hX, ts_LX.s24 hX, ts_LX.s25 hX, ts_LX.s26 hX, ts_LX.s27 hX, ts_LX.s28 hX, ts_LX.s29 hX, ts_LX.s30 hX, ts_LX.s31 hX, ts_LX.s32 hX, ts_LX.s33 hX, ts_LX.s34 hX, ts_LX.s35 hX, ts_LX.s36 hX, ts_LX.s37 hX, ts_LX.s38 hX, ts_FL.kd hT, ts_FL.k1 hT, ts_FL.k2 hT, ts_FL.k3 hT, ts_FL.k4 hT, ts_FL.k5 hT, ts_FL.k6 hT, ts_FL.k7 hT, ts_FL.k8 hT, ts_FL.k9 hT, ts_FL.l1 hT, ts_FL.l2 hT, ts_FL.l3 hT, ts_FL.l4 hT, ts_FL.l5 hT, ts_FL.l6 hT, ts_FL.l7 hT, ts_FL.l8 hT, ts_FL.l9 hT, ts_FL.o0 hT, ts_FL.o1 hT, ts_FL.o2 hT, ts_FL.o3 hT, ts_FL.o4 hT, ts_FL.o5 hT, ts_FL.o6 hT, ts_FL.o7 hT, ts_FL.o8 hT]
          rw [hR'.1, ts_le (by omega) (by omega), ts_cl (by omega), (hR'.2.2.2.2 t (by omega)).2.1, ts_l9, ts_ne (by omega) (by omega)]
          rw [ts_fd] at he
          refine ⟨trivial, by omega, trivial, fun h => absurd h (by omega), fun _ => ⟨by omega, trivial, ts_vin (by omega) (by omega), fun c => ?_, fun c hi14 e14 => ?_⟩⟩
          · rw [ts_l1, nI_add]
            rw [if_neg (by simp; exact c)] at he
            exact ih2 (t + 1) (by omega) he
          · rw [if_pos (by simp; exact Decidable.not_not.mp c)] at he
            rw [if_pos (by simp [← he]; omega)] at hf
            have z := q hi14 hk1 hK1 (fun b hb1 hb2 => by rw [e14]; funext s; rw [ts_up_a hb1, hO b hb2]) hok1 (fun _ => by rw [e14, ts_up_eq, hf])
            rw [if_neg (by omega), ← hf, ← he] at z
            exact z
      exact M (A 6 0) 0 (by omega) (by rw [← hc.1]; rfl)
  exact L 61 0 hi1 (by omega) hR1 (fun b hb => ho1 b (by omega)) rfl
