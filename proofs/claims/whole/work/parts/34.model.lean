/-! the model: its cells, its rows of numbers -/
/-- where the cells of the model lie -/
def ts_LM (g : ts_G) : Prop := g.2.1 405 = 11 ∧ (g.2.2.2 405 0 = 406 ∧ g.2.1 406 = 100 ∧ g.2.2.1 406 = 8) ∧ (g.2.2.2 405 1 = 407 ∧ g.2.1 407 = 100 ∧ g.2.2.1 407 = 8) ∧ (g.2.2.2 405 2 = 408 ∧ g.2.1 408 = 100 ∧ g.2.2.1 408 = 320) ∧ (g.2.2.2 405 3 = 409 ∧ g.2.1 409 = 100 ∧ g.2.2.1 409 = 40) ∧ (g.2.2.2 405 5 = 410 ∧ g.2.1 410 = 100 ∧ g.2.2.1 410 = 90) ∧ (g.2.2.2 405 13 = 411 ∧ g.2.1 411 = 100 ∧ g.2.2.1 411 = 46) ∧ (g.2.2.2 405 14 = 412 ∧ g.2.1 412 = 100 ∧ g.2.2.1 412 = 46) ∧ (g.2.2.2 405 15 = 413 ∧ g.2.1 413 = 100 ∧ g.2.2.1 413 = 46) ∧ (g.2.2.2 405 16 = 414 ∧ g.2.1 414 = 100 ∧ g.2.2.1 414 = 1104) ∧ (g.2.2.2 405 18 = 415 ∧ g.2.1 415 = 100 ∧ g.2.2.1 415 = 92) ∧ (g.2.2.2 405 19 = 416 ∧ g.2.1 416 = 101 ∧ g.2.2.1 416 = 2) ∧ (g.2.2.2 405 20 = 417 ∧ g.2.1 417 = 100 ∧ g.2.2.1 417 = 7) ∧ (g.2.2.2 405 21 = 418 ∧ g.2.1 418 = 100 ∧ g.2.2.1 418 = 7) ∧ (g.2.2.2 405 22 = 419 ∧ g.2.1 419 = 100 ∧ g.2.2.1 419 = 7) ∧ (g.2.2.2 405 23 = 420 ∧ g.2.1 420 = 100 ∧ g.2.2.1 420 = 16)
theorem ts_LM.kd {g : ts_G} (h : ts_LM g) : g.2.1 405 = 11 := h.1
theorem ts_LM.o0 {g : ts_G} (h : ts_LM g) : g.2.2.2 405 0 = 406 := (h.2.1).1
theorem ts_LM.k0 {g : ts_G} (h : ts_LM g) : g.2.1 406 = 100 := (h.2.1).2.1
theorem ts_LM.l0 {g : ts_G} (h : ts_LM g) : g.2.2.1 406 = 8 := (h.2.1).2.2
theorem ts_LM.o1 {g : ts_G} (h : ts_LM g) : g.2.2.2 405 1 = 407 := (h.2.2.1).1
theorem ts_LM.k1 {g : ts_G} (h : ts_LM g) : g.2.1 407 = 100 := (h.2.2.1).2.1
theorem ts_LM.l1 {g : ts_G} (h : ts_LM g) : g.2.2.1 407 = 8 := (h.2.2.1).2.2
theorem ts_LM.o2 {g : ts_G} (h : ts_LM g) : g.2.2.2 405 2 = 408 := (h.2.2.2.1).1
theorem ts_LM.k2 {g : ts_G} (h : ts_LM g) : g.2.1 408 = 100 := (h.2.2.2.1).2.1
theorem ts_LM.l2 {g : ts_G} (h : ts_LM g) : g.2.2.1 408 = 320 := (h.2.2.2.1).2.2
theorem ts_LM.o3 {g : ts_G} (h : ts_LM g) : g.2.2.2 405 3 = 409 := (h.2.2.2.2.1).1
theorem ts_LM.k3 {g : ts_G} (h : ts_LM g) : g.2.1 409 = 100 := (h.2.2.2.2.1).2.1
theorem ts_LM.l3 {g : ts_G} (h : ts_LM g) : g.2.2.1 409 = 40 := (h.2.2.2.2.1).2.2
theorem ts_LM.o5 {g : ts_G} (h : ts_LM g) : g.2.2.2 405 5 = 410 := (h.2.2.2.2.2.1).1
theorem ts_LM.k5 {g : ts_G} (h : ts_LM g) : g.2.1 410 = 100 := (h.2.2.2.2.2.1).2.1
theorem ts_LM.l5 {g : ts_G} (h : ts_LM g) : g.2.2.1 410 = 90 := (h.2.2.2.2.2.1).2.2
theorem ts_LM.o13 {g : ts_G} (h : ts_LM g) : g.2.2.2 405 13 = 411 := (h.2.2.2.2.2.2.1).1
theorem ts_LM.k13 {g : ts_G} (h : ts_LM g) : g.2.1 411 = 100 := (h.2.2.2.2.2.2.1).2.1
theorem ts_LM.l13 {g : ts_G} (h : ts_LM g) : g.2.2.1 411 = 46 := (h.2.2.2.2.2.2.1).2.2
theorem ts_LM.o14 {g : ts_G} (h : ts_LM g) : g.2.2.2 405 14 = 412 := (h.2.2.2.2.2.2.2.1).1
theorem ts_LM.k14 {g : ts_G} (h : ts_LM g) : g.2.1 412 = 100 := (h.2.2.2.2.2.2.2.1).2.1
theorem ts_LM.l14 {g : ts_G} (h : ts_LM g) : g.2.2.1 412 = 46 := (h.2.2.2.2.2.2.2.1).2.2
theorem ts_LM.o15 {g : ts_G} (h : ts_LM g) : g.2.2.2 405 15 = 413 := (h.2.2.2.2.2.2.2.2.1).1
theorem ts_LM.k15 {g : ts_G} (h : ts_LM g) : g.2.1 413 = 100 := (h.2.2.2.2.2.2.2.2.1).2.1
theorem ts_LM.l15 {g : ts_G} (h : ts_LM g) : g.2.2.1 413 = 46 := (h.2.2.2.2.2.2.2.2.1).2.2
theorem ts_LM.o16 {g : ts_G} (h : ts_LM g) : g.2.2.2 405 16 = 414 := (h.2.2.2.2.2.2.2.2.2.1).1
theorem ts_LM.k16 {g : ts_G} (h : ts_LM g) : g.2.1 414 = 100 := (h.2.2.2.2.2.2.2.2.2.1).2.1
theorem ts_LM.l16 {g : ts_G} (h : ts_LM g) : g.2.2.1 414 = 1104 := (h.2.2.2.2.2.2.2.2.2.1).2.2
theorem ts_LM.o18 {g : ts_G} (h : ts_LM g) : g.2.2.2 405 18 = 415 := (h.2.2.2.2.2.2.2.2.2.2.1).1
theorem ts_LM.k18 {g : ts_G} (h : ts_LM g) : g.2.1 415 = 100 := (h.2.2.2.2.2.2.2.2.2.2.1).2.1
theorem ts_LM.l18 {g : ts_G} (h : ts_LM g) : g.2.2.1 415 = 92 := (h.2.2.2.2.2.2.2.2.2.2.1).2.2
theorem ts_LM.o19 {g : ts_G} (h : ts_LM g) : g.2.2.2 405 19 = 416 := (h.2.2.2.2.2.2.2.2.2.2.2.1).1
theorem ts_LM.k19 {g : ts_G} (h : ts_LM g) : g.2.1 416 = 101 := (h.2.2.2.2.2.2.2.2.2.2.2.1).2.1
theorem ts_LM.l19 {g : ts_G} (h : ts_LM g) : g.2.2.1 416 = 2 := (h.2.2.2.2.2.2.2.2.2.2.2.1).2.2
theorem ts_LM.o20 {g : ts_G} (h : ts_LM g) : g.2.2.2 405 20 = 417 := (h.2.2.2.2.2.2.2.2.2.2.2.2.1).1
theorem ts_LM.k20 {g : ts_G} (h : ts_LM g) : g.2.1 417 = 100 := (h.2.2.2.2.2.2.2.2.2.2.2.2.1).2.1
theorem ts_LM.l20 {g : ts_G} (h : ts_LM g) : g.2.2.1 417 = 7 := (h.2.2.2.2.2.2.2.2.2.2.2.2.1).2.2
theorem ts_LM.o21 {g : ts_G} (h : ts_LM g) : g.2.2.2 405 21 = 418 := (h.2.2.2.2.2.2.2.2.2.2.2.2.2.1).1
theorem ts_LM.k21 {g : ts_G} (h : ts_LM g) : g.2.1 418 = 100 := (h.2.2.2.2.2.2.2.2.2.2.2.2.2.1).2.1
theorem ts_LM.l21 {g : ts_G} (h : ts_LM g) : g.2.2.1 418 = 7 := (h.2.2.2.2.2.2.2.2.2.2.2.2.2.1).2.2
theorem ts_LM.o22 {g : ts_G} (h : ts_LM g) : g.2.2.2 405 22 = 419 := (h.2.2.2.2.2.2.2.2.2.2.2.2.2.2.1).1
theorem ts_LM.k22 {g : ts_G} (h : ts_LM g) : g.2.1 419 = 100 := (h.2.2.2.2.2.2.2.2.2.2.2.2.2.2.1).2.1
theorem ts_LM.l22 {g : ts_G} (h : ts_LM g) : g.2.2.1 419 = 7 := (h.2.2.2.2.2.2.2.2.2.2.2.2.2.2.1).2.2
theorem ts_LM.o23 {g : ts_G} (h : ts_LM g) : g.2.2.2 405 23 = 420 := (h.2.2.2.2.2.2.2.2.2.2.2.2.2.2.2).1
theorem ts_LM.k23 {g : ts_G} (h : ts_LM g) : g.2.1 420 = 100 := (h.2.2.2.2.2.2.2.2.2.2.2.2.2.2.2).2.1
theorem ts_LM.l23 {g : ts_G} (h : ts_LM g) : g.2.2.1 420 = 16 := (h.2.2.2.2.2.2.2.2.2.2.2.2.2.2.2).2.2

def ts_nN (m : Nat) : Int32 := if m = 7 then -1000000 else nI m
/-- the 46 numbers of row m from o on hold A -/
def ts_MR (m o : Nat) (A : ts_A) (hi : ts_I) : Prop := hi m o = nI (A 6 2) ∧ hi m (o + 1) = nI (A 6 3) ∧ hi m (o + 2) = nI (A 6 0) ∧ hi m (o + 3) = nI (A 6 1) ∧ ∀ t, t < A 6 0 → hi m (o + (4 + 6 * t)) = nI (A 0 t) ∧ hi m (o + (4 + 6 * t + 1)) = nI (A 1 t) ∧ hi m (o + (4 + 6 * t + 2)) = nI (A 2 t) ∧ hi m (o + (4 + 6 * t + 3)) = nI (A 5 t) ∧ hi m (o + (4 + 6 * t + 4)) = nI (A 3 t) ∧ hi m (o + (4 + 6 * t + 5)) = ts_nN (A 4 t)
theorem ts_sm31 : ∀ k, k < 31 → ((nI k).toBitVec.smod 32).toNat = k := by decide +kernel
theorem ts_bitk {s k : Nat} (hs : s < 2147483648) (hk : k < 31) : ((nI s >>> (nI k &&& 31)) &&& 1) = nI (s / 2 ^ k % 2) := by
  rw [pk_andN (n := k) (by omega) 5 (by decide), show k % 2 ^ 5 = k by omega, pk_shrN hs _ k (ts_sm31 k hk), pk_andN (n := s / 2 ^ k) (Nat.lt_of_le_of_lt (Nat.div_le_self _ _) (by omega)) 1 (by decide)]
theorem ts_shl1 : ∀ k, k < 31 → ((1 : Int32) <<< (nI k &&& 31)) = nI (2 ^ k) := by decide +kernel
theorem c_in {d : Nat} {g : ts_G} {x a b : Int32} {hi : ts_I} {hk : ts_K} {Q : Int32 → ts_I → ts_K → Prop} (q : Q (if a ≤ x ∧ x ≤ b then 1 else 0) hi hk) : ts_E0 d mX12_in [.int x, .int a, .int b] g hi hk (ts_qi Q) := by
  refine ts_E0.of plX12_in rfl (Nat.le_of_ble_eq_true rfl) ?_
  refine wX12_in_0 ⟨fun h => ?_, fun h => ⟨fun h2 => ?_, fun h2 => ?_⟩⟩
  · rw [if_neg (fun c => (Int32.not_le.mpr h) c.1)] at q; exact q
  · rw [if_neg (fun c => (Int32.not_le.mpr h2) c.2)] at q; exact q
  · rw [if_pos ⟨Int32.not_lt.mp h, Int32.not_lt.mp h2⟩] at q; exact q
theorem c_has {d : Nat} {g : ts_G} {s k : Nat} {hi : ts_I} {hk : ts_K} {Q : Int32 → ts_I → ts_K → Prop} (hs : s < 2147483648) (hk1 : k < 31) (q : Q (nI (s / 2 ^ k % 2)) hi hk) : ts_E0 d mX12_has [.int (nI s), .int (nI k)] g hi hk (ts_qi Q) := by
  refine ts_E0.of plX12_has rfl (Nat.le_of_ble_eq_true rfl) ?_
  refine wX12_has_0 ?_
  rw [ts_bitk hs hk1]
  have e : s / 2 ^ k % 2 = 0 ∨ s / 2 ^ k % 2 = 1 := by omega
  rcases e with e | e <;> rw [e] at q ⊢
  · exact ⟨fun _ => q, fun h => absurd (by decide) h⟩
  · exact ⟨fun h => absurd rfl h, fun _ => q⟩
theorem ts_nIne {p : Nat} (hp : p < 1000) : ¬ nI p = (-1000000 : Int32) := by
  intro h
  have h1 := congrArg Int32.toInt h
  rw [nI_toInt (by omega)] at h1
  have : (-1000000 : Int32).toInt = -1000000 := by decide
  omega
theorem c_inPlace {d : Nat} {g : ts_G} {m : Nat} {A : ts_A} {x : Int32} {hi : ts_I} {hk : ts_K} {Q : Int32 → ts_I → ts_K → Prop} (hm : g.2.1 m = 100) (hl : g.2.2.1 m = 46) (hR : ts_MR m 0 A hi) (hA : ts_ok A)
    (q1 : ∀ p, p < A 6 0 → x = nI p → Q (nI (A 7 p)) hi hk) (q2 : (∀ p, p < A 6 0 → ¬ nI p = x) → Q (-1000000) hi hk) : ts_E0 d mX12_inPlace [.ref m, .int x] g hi hk (ts_qi Q) := by
  refine ts_E0.of plX12_inPlace rfl (Nat.le_of_ble_eq_true rfl) ?_
  refine wX12_inPlace_0 ?_
  obtain ⟨r0, r1, r2, r3, rT⟩ := hR
  simp only [Nat.zero_add] at r1 r2 r3 rT
  obtain ⟨a0, -, -, -, aT⟩ := hA
  have L : ∀ n t, t + n = A 6 0 → (∀ s, s < t → ¬ nI (A 5 s) = x) → ts_J0 d mX12_inPlace (ts_qi Q) g 2 [(0, .ref m), (1, .int x), (2, .int (nI t))] [] hi hk := by
    intro n
    induction n with
    | zero =>
      intro t htn hI
      refine wX12_inPlace_2 ?_
      rw [hm, hl, show (2 : Int32).toNatClampNeg = 2 from rfl, r2, ts_le (by omega) (by omega)]
      refine ⟨rfl, ts_vin (i := 2) (by omega) (by omega), fun _ => ?_, fun h => absurd (by omega) h⟩
      refine q2 (fun p hp => ?_)
      have := hI (A 7 p) (by have := (aT p hp).2.2.2.2.2.2.2.1; omega)
      rw [(aT p hp).2.2.2.2.2.2.2.2] at this
      exact this
    | succ n ih =>
      intro t htn hI
      refine wX12_inPlace_2 ?_
      have ht : t < A 6 0 := by omega
      rw [hm, hl, show (2 : Int32).toNatClampNeg = 2 from rfl, r2, ts_le (by omega) (by omega), ts_l4, ts_l6, ts_l3, ts_l1, pk_mul, nI_add, nI_add, nI_add, ts_cl (by omega), (rT t ht).2.2.2.1]
      refine ⟨rfl, ts_vin (i := 2) (by omega) (by omega), fun h => absurd h (by omega), fun _ => ⟨ts_vin (by omega) (by omega), fun h => ?_, fun h => ?_⟩⟩
      · refine ih (t + 1) (by omega) (fun s hs => ?_)
        by_cases e : s = t
        · rw [e]; exact h
        · exact hI s (by omega)
      · have e : nI (A 5 t) = x := Decidable.not_not.mp h
        have := q1 (A 5 t) (aT t ht).2.2.2.2.2.1 e.symm
        rw [(aT t ht).2.2.2.2.2.2.1] at this
        exact this
  exact L (A 6 0) 0 (by omega) (fun s hs => by omega)
theorem c_isHigher {d : Nat} {g : ts_G} {m t : Nat} {A : ts_A} {x : Int32} {hi : ts_I} {hk : ts_K} {Q : Int32 → ts_I → ts_K → Prop} (hm : g.2.1 m = 100) (hl : g.2.2.1 m = 46) (hR : ts_MR m 0 A hi) (hA : ts_ok A) (ht : t < A 6 0)
    (q1 : ∀ p, p < A 6 0 → x = nI p → Q (nI (if A 1 t < A 1 (A 7 p) then 1 else 0)) hi hk) (q2 : (∀ p, p < A 6 0 → ¬ nI p = x) → Q (nI 0) hi hk) : ts_E0 (d + 1) mX12_isHigher [.ref m, .int (nI t), .int x] g hi hk (ts_qi Q) := by
  refine ts_E0.of plX12_isHigher rfl (Nat.le_of_ble_eq_true rfl) ?_
  refine wX12_isHigher_0 ?_
  refine c_inPlace hm hl hR hA (fun p hp hx => ?_) (fun hno => ⟨fun _ => q2 hno, fun h => absurd rfl h⟩)
  obtain ⟨r0, r1, r2, r3, rT⟩ := hR
  simp only [Nat.zero_add] at r1 r2 r3 rT
  obtain ⟨a0, -, -, -, aT⟩ := hA
  have u := (aT p hp).2.2.2.2.2.2.2.1
  have b1 := (aT t ht).2.1
  have b2 := (aT _ u).2.1
  rw [hm, hl, ts_l4, ts_l6, ts_l1, pk_mul, pk_mul, nI_add, nI_add, nI_add, nI_add, ts_cl (by omega), ts_cl (by omega), (rT t ht).2.1, (rT _ u).2.1, ts_le (by omega) (by omega)]
  refine ⟨fun h => absurd h (ts_nIne (by omega)), fun _ => ⟨rfl, ts_vin (by omega) (by omega), ts_vin (by omega) (by omega), fun h => ?_, fun h => ?_⟩⟩
  · have := q1 p hp hx
    rw [if_neg (by omega)] at this
    exact this
  · have := q1 p hp hx
    rw [if_pos (by omega)] at this
    exact this
theorem c_isDn {d : Nat} {g : ts_G} {m t : Nat} {A : ts_A} {hi : ts_I} {hk : ts_K} {Q : Int32 → ts_I → ts_K → Prop} (hm : g.2.1 m = 100) (hl : g.2.2.1 m = 46) (hR : ts_MR m 0 A hi) (hA : ts_ok A) (ht : t < A 6 0)
    (q : Q (nI (ts_dn A t)) hi hk) : ts_E0 (d + 1) mX12_isHigher [.ref m, .int (nI t), .int (nI (A 5 t) - 1)] g hi hk (ts_qi Q) := by
  have aT := hA.2.2.2.2 t ht
  have a0 := hA.1
  refine c_isHigher hm hl hR hA ht (fun p hp hx => ?_) (fun hno => ?_)
  · by_cases h0 : A 5 t = 0
    · exfalso
      rw [h0] at hx
      have h1 := congrArg Int32.toInt hx
      rw [nI_toInt (by omega), show (nI 0 - 1).toInt = -1 from by decide] at h1
      omega
    · rw [ts_l1, ts_sub' (by omega), ts_eq (by omega) (by omega)] at hx
      unfold ts_dn at q
      rw [← hx]
      by_cases h1 : A 1 t < A 1 (A 7 (A 5 t - 1))
      · rw [if_pos h1]; rw [if_pos ⟨h0, h1⟩] at q; exact q
      · rw [if_neg h1]; rw [if_neg (fun c => h1 c.2)] at q; exact q
  · have h0 : A 5 t = 0 := by
      by_cases h0 : A 5 t = 0
      · exact h0
      · exfalso
        refine hno (A 5 t - 1) (by omega) ?_
        rw [ts_l1, ts_sub' (by omega)]
    unfold ts_dn at q
    rw [if_neg (by omega)] at q
    exact q
theorem c_isUn {d : Nat} {g : ts_G} {m t : Nat} {A : ts_A} {hi : ts_I} {hk : ts_K} {Q : Int32 → ts_I → ts_K → Prop} (hm : g.2.1 m = 100) (hl : g.2.2.1 m = 46) (hR : ts_MR m 0 A hi) (hA : ts_ok A) (ht : t < A 6 0)
    (q : Q (nI (ts_un A t)) hi hk) : ts_E0 (d + 1) mX12_isHigher [.ref m, .int (nI t), .int (nI (A 5 t) + 1)] g hi hk (ts_qi Q) := by
  have aT := hA.2.2.2.2 t ht
  have a0 := hA.1
  refine c_isHigher hm hl hR hA ht (fun p hp hx => ?_) (fun hno => ?_)
  · rw [ts_l1, nI_add, ts_eq (by omega) (by omega)] at hx
    unfold ts_un at q
    rw [← hx]
    by_cases h1 : A 1 t < A 1 (A 7 (A 5 t + 1))
    · rw [if_pos h1]; rw [if_pos ⟨by omega, h1⟩] at q; exact q
    · rw [if_neg h1]; rw [if_neg (fun c => h1 c.2)] at q; exact q
  · have h0 : ¬ A 5 t + 1 < A 6 0 := by
      intro h0
      refine hno (A 5 t + 1) h0 ?_
      rw [ts_l1, nI_add]
    unfold ts_un at q
    rw [if_neg (fun c => h0 c.1)] at q
    exact q
theorem c_higherBeside {d : Nat} {g : ts_G} {m t : Nat} {A : ts_A} {hi : ts_I} {hk : ts_K} {Q : Int32 → ts_I → ts_K → Prop} (hm : g.2.1 m = 100) (hl : g.2.2.1 m = 46) (hR : ts_MR m 0 A hi) (hA : ts_ok A) (ht : t < A 6 0)
    (q : Q (nI (ts_dn A t + ts_un A t)) hi hk) : ts_E0 (d + 2) mX12_higherBeside [.ref m, .int (nI t)] g hi hk (ts_qi Q) := by
  refine ts_E0.of plX12_higherBeside rfl (Nat.le_of_ble_eq_true rfl) ?_
  refine wX12_higherBeside_0 ?_
  have a0 := hA.1
  have rT := hR.2.2.2.2 t ht
  simp only [Nat.zero_add] at rT
  have hb := ts_hb_le A t
  have h1 : ts_dn A t = 0 ∨ ts_dn A t = 1 := by omega
  have h2 : ts_un A t = 0 ∨ ts_un A t = 1 := by omega
  have e5 : hi m ((4 : Int32) + 6 * nI t + 3).toNatClampNeg = nI (A 5 t) := by
    rw [ts_l4, ts_l6, ts_l3, pk_mul, nI_add, nI_add, ts_cl (by omega), rT.2.2.2.1]
  have ev : vp_in ((4 : Int32) + 6 * nI t + 3) 46 := by
    rw [ts_l4, ts_l6, ts_l3, pk_mul, nI_add, nI_add]
    exact ts_vin (by omega) (by omega)
  rw [hm, hl, e5]
  refine ⟨rfl, ev, c_isDn hm hl hR hA ht ⟨fun c => c_isUn hm hl hR hA ht ⟨fun c2 => ?_, fun c2 => ?_⟩, fun c => c_isUn hm hl hR hA ht ⟨fun c2 => ?_, fun c2 => ?_⟩⟩⟩
  all_goals (rcases h1 with h1 | h1 <;> rcases h2 with h2 | h2 <;> rw [h1, h2] at q)
  all_goals (rw [h1] at c; rw [h2] at c2)
  all_goals first
    | exact q
    | exact absurd c (by decide)
    | exact absurd c2 (by decide)
    | exact absurd (by decide) c
    | exact absurd (by decide) c2
theorem c_gainOf {d : Nat} {g : ts_G} {m t : Nat} {A : ts_A} {hi : ts_I} {hk : ts_K} {Q : Int32 → ts_I → ts_K → Prop} (hm : g.2.1 m = 100) (hl : g.2.2.1 m = 46) (hR : ts_MR m 0 A hi) (hA : ts_ok A) (ht : t < A 6 0)
    (q : Q (nI (ts_bg A (ts_fr A) t)) hi hk) : ts_E0 (d + 3) mX12_gainOf [.ref m, .int (nI t)] g hi hk (ts_qi Q) := by
  refine ts_E0.of plX12_gainOf rfl (Nat.le_of_ble_eq_true rfl) ?_
  refine wX12_gainOf_0 ?_
  have hR' := hR
  obtain ⟨r0, r1, r2, r3, rT⟩ := hR
  simp only [Nat.zero_add] at r1 r2 r3 rT
  obtain ⟨a0, a1, a2, a3, aT⟩ := id hA
  have z := rT t ht
  have hk5 := (aT t ht).1
  have hr := (aT t ht).2.1
  have hb := ts_hb_le A t
  have e0 : hi m ((4 : Int32) + 6 * nI t).toNatClampNeg = nI (A 0 t) := by
    rw [ts_l4, ts_l6, pk_mul, nI_add, ts_cl (by omega), z.1]
  have v0 : vp_in ((4 : Int32) + 6 * nI t) 46 := by
    rw [ts_l4, ts_l6, pk_mul, nI_add]
    exact ts_vin (by omega) (by omega)
  have e1 : hi m ((4 : Int32) + 6 * nI t + 1).toNatClampNeg = nI (A 1 t) := by
    rw [ts_l4, ts_l6, ts_l1, pk_mul, nI_add, nI_add, ts_cl (by omega), z.2.1]
  have v1 : vp_in ((4 : Int32) + 6 * nI t + 1) 46 := by
    rw [ts_l4, ts_l6, ts_l1, pk_mul, nI_add, nI_add]
    exact ts_vin (by omega) (by omega)
  have f0 : hi m (0 : Int32).toNatClampNeg = nI (A 6 2) := r0
  have f1 : hi m (1 : Int32).toNatClampNeg = nI (A 6 3) := r1
  have f3 : hi m (3 : Int32).toNatClampNeg = nI (A 6 1) := r3
  have e4 : nI (A 6 1) - nI (A 6 1) / 4 * 4 = nI (A 6 1 % 4) := pk_rem (a := A 6 1) (d := 4) (by omega) (by omega) (by omega)
  unfold ts_bg at q
  rw [hm, hl, e0, e1, f0, f1, f3, e4]
  refine ⟨rfl, ts_vin (i := 0) (by omega) (by omega), v0, fun h => ?_, fun h => ⟨ts_vin (i := 1) (by omega) (by omega), ts_vin (i := 3) (by omega) (by omega), ?_⟩, fun h => ?_, fun h => ⟨v1, fun h3 => ?_, fun h3 => ?_⟩, fun n1 n2 n3 n4 => ⟨v1, fun h3 => ?_, fun h3 => ?_⟩⟩
  · rw [ts_l1, ts_eq (by omega) (by omega)] at h
    rw [if_pos h] at q
    exact q
  · rw [ts_l2, ts_eq (by omega) (by omega)] at h
    rw [if_neg (by omega), if_pos h] at q
    refine c_has (by omega) (by omega) ⟨fun c => ?_, fun c => ?_⟩
    · rw [ts_l0, ts_eq (by omega) (by omega)] at c
      rw [if_pos (show ts_fr A = 0 from c)] at q
      rw [ts_l2, ts_div (by omega) (by omega) (by omega)]
      exact q
    · rw [ts_l0, ts_eq (by omega) (by omega)] at c
      rw [if_neg (show ¬ ts_fr A = 0 from c)] at q
      exact q
  · rw [ts_l3, ts_eq (by omega) (by omega)] at h
    rw [if_neg (by omega), if_neg (by omega), if_pos h] at q
    refine c_higherBeside hm hl hR' hA ht ?_
    rw [nI_add]
    exact q
  · rw [ts_l4, ts_eq (by omega) (by omega)] at h
    rw [ts_l3, ts_le (by omega) (by omega)] at h3
    rw [if_neg (by omega), if_neg (by omega), if_neg (by omega), if_pos h, if_neg (by omega)] at q
    exact q
  · rw [ts_l4, ts_eq (by omega) (by omega)] at h
    rw [ts_l3, ts_le (by omega) (by omega)] at h3
    rw [if_neg (by omega), if_neg (by omega), if_neg (by omega), if_pos h, if_pos (by omega)] at q
    rw [ts_l2, pk_mul]
    exact q
  all_goals
    rw [ts_l1, ts_eq (by omega) (by omega)] at n1
    rw [ts_l2, ts_eq (by omega) (by omega)] at n2
    rw [ts_l3, ts_eq (by omega) (by omega)] at n3
    rw [ts_l4, ts_eq (by omega) (by omega)] at n4
    rw [ts_l3, ts_lt (by omega) (by omega)] at h3
    rw [if_neg n1, if_neg n2, if_neg n3, if_neg n4] at q
  · rw [if_neg (by omega)] at q
    rw [ts_l2, pk_mul]
    exact q
  · refine c_higherBeside hm hl hR' hA ht ⟨fun c => ?_, fun c => ?_⟩
    · rw [ts_l0, ts_le (by omega) (by omega)] at c
      rw [if_pos ⟨by unfold ts_hb; omega, by omega⟩] at q
      exact q
    · rw [ts_l0, ts_le (by omega) (by omega)] at c
      rw [if_neg (fun x => by have := x.1; unfold ts_hb at this; omega)] at q
      rw [ts_l2, pk_mul]
      exact q
