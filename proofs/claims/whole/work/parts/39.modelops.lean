/-! what else the model does to its rows -/
theorem c_copies {d s a t b : Nat} {g : ts_G} {hi : ts_I} {hk : ts_K} {Q : ts_I → ts_K → Prop} (hs : g.2.1 s = 100) (ht : g.2.1 t = 100) (hst : s ≠ t) (hls : a + 46 ≤ g.2.2.1 s) (hlt : b + 46 ≤ g.2.2.1 t) (hbs : g.2.2.1 s ≤ 2000) (hbt : g.2.2.1 t ≤ 2000)
    (q : Q (ts_cp hi s a t b 46) hk) : ts_E0 d mX12_copies [.ref s, .int (nI a), .ref t, .int (nI b)] g hi hk (ts_qv Q) := by
  refine ts_E0.of plX12_copies rfl (Nat.le_of_ble_eq_true rfl) ?_
  refine wX12_copies_0 ?_
  have L : ∀ n k, k + n = 46 → ts_J0 d mX12_copies (ts_qv Q) g 3 [(0, .ref s), (1, .int (nI a)), (2, .ref t), (3, .int (nI b)), (4, .int (nI k))] [] (ts_cp hi s a t b k) hk := by
    intro n
    induction n with
    | zero =>
      intro k hkn
      refine wX12_copies_3 ?_
      rw [show (46 : Int32) = nI 46 from rfl, ts_le (by omega) (by omega)]
      refine ⟨fun _ => ?_, fun h => absurd (by omega) h⟩
      rw [show k = 46 by omega]
      exact q
    | succ n ih =>
      intro k hkn
      refine wX12_copies_3 ?_
      rw [show (46 : Int32) = nI 46 from rfl, ts_le (by omega) (by omega), nI_add, nI_add, ts_cl (by omega), ts_cl (by omega)]
      refine ⟨fun h => absurd h (by omega), fun _ => ⟨hs, ts_vin (by omega) (by omega), ht, ts_vin (by omega) (by omega), fun hi6 e6 => ?_⟩⟩
      have e : hi6 = ts_cp hi s a t b (k + 1) := by
        rw [e6]
        funext c u
        show (if c = t ∧ u = b + k then ts_cp hi s a t b k s (a + k) else ts_cp hi s a t b k c u) = _
        rw [ts_cp_a hst]
        unfold ts_cp
        by_cases h1 : c = t ∧ u = b + k
        · rw [if_pos h1, if_pos ⟨h1.1, by omega, by omega⟩]
          congr 1
          omega
        · rw [if_neg h1]
          by_cases h2 : c = t ∧ b ≤ u ∧ u < b + k
          · rw [if_pos h2, if_pos ⟨h2.1, h2.2.1, by omega⟩]
          · rw [if_neg h2, if_neg (fun h3 => by
              by_cases h4 : u = b + k
              · exact h1 ⟨h3.1, h4⟩
              · exact h2 ⟨h3.1, h3.2.1, by omega⟩)]
      rw [e, ts_l1, nI_add]
      exact ih (k + 1) (by omega)
  have z := L 46 0 (by omega)
  have e0 : ts_cp hi s a t b 0 = hi := by
    funext c u
    unfold ts_cp
    rw [if_neg (by omega)]
  rw [e0] at z
  exact z
theorem ts_MR.cp {s a t b : Nat} {A : ts_A} {hi : ts_I} (hc : A 6 0 ≤ 7) (h : ts_MR s a A hi) : ts_MR t b A (ts_cp hi s a t b 46) := by
  obtain ⟨r0, r1, r2, r3, rT⟩ := h
  have e : ∀ u, u < 46 → ts_cp hi s a t b 46 t (b + u) = hi s (a + u) := fun u hu => by
    rw [ts_cp_at (by omega) (by omega)]
    congr 1
    omega
  refine ⟨(e 0 (by omega)).trans r0, (e 1 (by omega)).trans r1, (e 2 (by omega)).trans r2, (e 3 (by omega)).trans r3, fun u hu => ?_⟩
  have z := rT u hu
  exact ⟨(e _ (by omega)).trans z.1, (e _ (by omega)).trans z.2.1, (e _ (by omega)).trans z.2.2.1, (e _ (by omega)).trans z.2.2.2.1, (e _ (by omega)).trans z.2.2.2.2.1, (e _ (by omega)).trans z.2.2.2.2.2⟩
/-- only the 46 numbers behind o count -/
theorem ts_MR.of {m o : Nat} {A : ts_A} {hi hi' : ts_I} (hc : A 6 0 ≤ 7) (h : ts_MR m o A hi) (e : ∀ u, u < 46 → hi' m (o + u) = hi m (o + u)) : ts_MR m o A hi' := by
  obtain ⟨r0, r1, r2, r3, rT⟩ := h
  refine ⟨(e 0 (by omega)).trans r0, (e 1 (by omega)).trans r1, (e 2 (by omega)).trans r2, (e 3 (by omega)).trans r3, fun u hu => ?_⟩
  have z := rT u hu
  exact ⟨(e _ (by omega)).trans z.1, (e _ (by omega)).trans z.2.1, (e _ (by omega)).trans z.2.2.1, (e _ (by omega)).trans z.2.2.2.1, (e _ (by omega)).trans z.2.2.2.2.1, (e _ (by omega)).trans z.2.2.2.2.2⟩
theorem c_changes {d : Nat} {g : ts_G} {m a b : Nat} {A : ts_A} {hi : ts_I} {hk : ts_K} {Q : ts_I → ts_K → Prop} (hm : g.2.1 m = 100) (hl : g.2.2.1 m = 46) (hR : ts_MR m 0 A hi) (hc : A 6 0 ≤ 7) (ha : a < A 6 0) (hb : b < A 6 0)
    (q : ∀ hi', ts_MR m 0 (ts_xc A a b) hi' → (∀ c, c ≠ m → hi' c = hi c) → Q hi' hk) : ts_E0 d mX12_changes [.ref m, .int (nI a), .int (nI b)] g hi hk (ts_qv Q) := by
  refine ts_E0.of plX12_changes rfl (Nat.le_of_ble_eq_true rfl) ?_
  refine wX12_changes_0 ?_
  obtain ⟨r0, r1, r2, r3, rT⟩ := hR
  simp only [Nat.zero_add] at r1 r2 r3 rT
  simp only [ts_l4, ts_l6, ts_l3, pk_mul, nI_add]
  rw [hm, hl, ts_cl (by omega), ts_cl (by omega), (rT a ha).2.2.2.1, (rT b hb).2.2.2.1]
  refine ⟨rfl, ts_vin (by omega) (by omega), ts_vin (by omega) (by omega), fun hi4 e4 hi5 e5 => ?_⟩
  refine q hi5 ⟨?_, ?_, ?_, ?_, fun s hs => ?_⟩ (fun c hc => by rw [e5]; funext u; rw [ts_up_a hc, e4, ts_up_a hc])
  · rw [e5, ts_up_s (by omega), e4, ts_up_s (by omega)]; exact r0
  · rw [e5, ts_up_s (by omega), e4, ts_up_s (by omega)]; exact r1
  · rw [e5, ts_up_s (by omega), e4, ts_up_s (by omega)]; exact r2
  · rw [e5, ts_up_s (by omega), e4, ts_up_s (by omega)]; exact r3
  · have hs' : s < A 6 0 := hs
    have z := rT s hs'
    simp only [Nat.zero_add]
    refine ⟨?_, ?_, ?_, ?_, ?_, ?_⟩
    · rw [e5, ts_up_s (by omega), e4, ts_up_s (by omega)]; exact z.1
    · rw [e5, ts_up_s (by omega), e4, ts_up_s (by omega)]; exact z.2.1
    · rw [e5, ts_up_s (by omega), e4, ts_up_s (by omega)]; exact z.2.2.1
    · show _ = nI (if s = b then A 5 a else if s = a then A 5 b else A 5 s)
      rw [e5]
      by_cases h1 : s = b
      · rw [h1, ts_up_eq, if_pos rfl]
      · rw [ts_up_s (by omega), if_neg h1, e4]
        by_cases h2 : s = a
        · rw [h2, ts_up_eq, if_pos rfl]
        · rw [ts_up_s (by omega), if_neg h2]
          exact z.2.2.2.1
    · rw [e5, ts_up_s (by omega), e4, ts_up_s (by omega)]; exact z.2.2.2.2.1
    · rw [e5, ts_up_s (by omega), e4, ts_up_s (by omega)]; exact z.2.2.2.2.2
theorem c_married {d : Nat} {g : ts_G} {A : ts_A} {hi : ts_I} {hk : ts_K} {Q : Int32 → ts_I → ts_K → Prop} (hM : ts_LM g) (hR : ts_MR 411 0 A hi) (hA : ts_ok A) (q : Q (nI (ts_mc A)) hi hk) : ts_E0 d mX12_married [.ref 405] g hi hk (ts_qi Q) := by
  refine ts_E0.of plX12_married rfl (Nat.le_of_ble_eq_true rfl) ?_
  refine wX12_married_0 ?_
  obtain ⟨r0, r1, r2, r3, rT⟩ := hR
  simp only [Nat.zero_add] at r1 r2 r3 rT
  have a0 := hA.1
  have L : ∀ n t, t + n = A 6 0 → ts_J0 d mX12_married (ts_qi Q) g 4 [(0, .ref 405), (1, .int (nI (ts_sm (fun t => if A 4 t = 7 then 0 else 1) t))), (2, .int (nI t))] [] hi hk := by
    intro n
    induction n with
    | zero =>
      intro t htn
      refine wX12_married_4 ?_
      simp only [ts_LM.kd hM, ts_LM.o0 hM, ts_LM.k0 hM, ts_LM.l0 hM, ts_LM.o1 hM, ts_LM.k1 hM, ts_LM.l1 hM, ts_LM.o2 hM, ts_LM.k2 hM, ts_LM.l2 hM, ts_LM.o3 hM, ts_LM.k3 hM, ts_LM.l3 hM, ts_LM.o5 hM, ts_LM.k5 hM, ts_LM.l5 hM, ts_LM.o13 hM, ts_LM.k13 hM, ts_LM.l13 hM, ts_LM.o14 hM, ts_LM.k14 hM, ts_LM.l14 hM, ts_LM.o15 hM, ts_LM.k15 hM, ts_LM.l15 hM, ts_LM.o16 hM, ts_LM.k16 hM, ts_LM.l16 hM, ts_LM.o18 hM, ts_LM.k18 hM, ts_LM.l18 hM, ts_LM.o19 hM, ts_LM.k19 hM, ts_LM.l19 hM, ts_LM.o20 hM, ts_LM.k20 hM, ts_LM.l20 hM, ts_LM.o21 hM, ts_LM.k21 hM, ts_LM.l21 hM, ts_LM.o22 hM, ts_LM.k22 hM, ts_LM.l22 hM, ts_LM.o23 hM, ts_LM.k23 hM, ts_LM.l23 hM]
      rw [show (2 : Int32).toNatClampNeg = 2 from rfl, r2, ts_le (by omega) (by omega)]
      refine ⟨trivial, by omega, trivial, ts_vin (i := 2) (by omega) (by omega), fun _ => ?_, fun h => absurd (by omega) h⟩
      rw [show t = A 6 0 by omega]
      exact q
    | succ n ih =>
      intro t htn
      refine wX12_married_4 ?_
      have ht : t < A 6 0 := by omega
      have hm := (hA.2.2.2.2 t ht).2.2.2.2.1
      simp only [ts_LM.kd hM, ts_LM.o0 hM, ts_LM.k0 hM, ts_LM.l0 hM, ts_LM.o1 hM, ts_LM.k1 hM, ts_LM.l1 hM, ts_LM.o2 hM, ts_LM.k2 hM, ts_LM.l2 hM, ts_LM.o3 hM, ts_LM.k3 hM, ts_LM.l3 hM, ts_LM.o5 hM, ts_LM.k5 hM, ts_LM.l5 hM, ts_LM.o13 hM, ts_LM.k13 hM, ts_LM.l13 hM, ts_LM.o14 hM, ts_LM.k14 hM, ts_LM.l14 hM, ts_LM.o15 hM, ts_LM.k15 hM, ts_LM.l15 hM, ts_LM.o16 hM, ts_LM.k16 hM, ts_LM.l16 hM, ts_LM.o18 hM, ts_LM.k18 hM, ts_LM.l18 hM, ts_LM.o19 hM, ts_LM.k19 hM, ts_LM.l19 hM, ts_LM.o20 hM, ts_LM.k20 hM, ts_LM.l20 hM, ts_LM.o21 hM, ts_LM.k21 hM, ts_LM.l21 hM, ts_LM.o22 hM, ts_LM.k22 hM, ts_LM.l22 hM, ts_LM.o23 hM, ts_LM.k23 hM, ts_LM.l23 hM]
      rw [show (2 : Int32).toNatClampNeg = 2 from rfl, r2, ts_le (by omega) (by omega)]
      simp only [ts_l4, ts_l6, ts_l5, ts_l1, ts_l0, pk_mul, nI_add]
      rw [ts_cl (by omega), (rT t ht).2.2.2.2.2]
      have z := ih (t + 1) (by omega)
      rw [ts_sm] at z
      refine ⟨trivial, by omega, trivial, ts_vin (i := 2) (by omega) (by omega), fun h => absurd h (by omega), fun _ => ⟨ts_vin (by omega) (by omega), fun c => ?_, fun c => ?_⟩⟩
      · rw [Ne, ts_nNeq (by omega)] at c
        rw [if_neg c] at z; exact z
      · have c2 := Decidable.not_not.mp c
        rw [ts_nNeq (by omega)] at c2
        rw [if_pos c2, Nat.add_zero] at z
        exact z
  exact L (A 6 0) 0 (by omega)
theorem c_goesOn {d n : Nat} {g : ts_G} {A : ts_A} {hi : ts_I} {hk : ts_K} {Q : ts_I → ts_K → Prop} (hM : ts_LM g) (hR : ts_MR 413 0 A hi) (hA : ts_ok A) (hn : A 6 1 + n ≤ 1000000)
    (q : ∀ hi', ts_MR 413 0 (ts_pn A n) hi' → (∀ b, b ≠ 413 → b ≠ 417 → hi' b = hi b) → Q hi' hk) : ts_E0 (d + 6) mX12_goesOn [.ref 405, .int (nI n)] g hi hk (ts_qv Q) := by
  refine ts_E0.of plX12_goesOn rfl (Nat.le_of_ble_eq_true rfl) ?_
  refine wX12_goesOn_0 ?_
  have L : ∀ m i hi', i + m = n → ts_MR 413 0 (ts_pn A i) hi' → (∀ b, b ≠ 413 → b ≠ 417 → hi' b = hi b) → ts_J0 (d + 6) mX12_goesOn (ts_qv Q) g 2 [(0, .ref 405), (1, .int (nI n)), (2, .int (nI i))] [] hi' hk := by
    intro m
    induction m with
    | zero =>
      intro i hi' hin hR' hO
      refine wX12_goesOn_2 ?_
      rw [ts_le (by omega) (by omega)]
      refine ⟨fun _ => ?_, fun h => absurd (by omega) h⟩
      rw [show i = n by omega] at hR'
      exact q hi' hR' hO
    | succ m ih =>
      intro i hi' hin hR' hO
      refine wX12_goesOn_2 ?_
      simp only [ts_LM.kd hM, ts_LM.o0 hM, ts_LM.k0 hM, ts_LM.l0 hM, ts_LM.o1 hM, ts_LM.k1 hM, ts_LM.l1 hM, ts_LM.o2 hM, ts_LM.k2 hM, ts_LM.l2 hM, ts_LM.o3 hM, ts_LM.k3 hM, ts_LM.l3 hM, ts_LM.o5 hM, ts_LM.k5 hM, ts_LM.l5 hM, ts_LM.o13 hM, ts_LM.k13 hM, ts_LM.l13 hM, ts_LM.o14 hM, ts_LM.k14 hM, ts_LM.l14 hM, ts_LM.o15 hM, ts_LM.k15 hM, ts_LM.l15 hM, ts_LM.o16 hM, ts_LM.k16 hM, ts_LM.l16 hM, ts_LM.o18 hM, ts_LM.k18 hM, ts_LM.l18 hM, ts_LM.o19 hM, ts_LM.k19 hM, ts_LM.l19 hM, ts_LM.o20 hM, ts_LM.k20 hM, ts_LM.l20 hM, ts_LM.o21 hM, ts_LM.k21 hM, ts_LM.l21 hM, ts_LM.o22 hM, ts_LM.k22 hM, ts_LM.l22 hM, ts_LM.o23 hM, ts_LM.k23 hM, ts_LM.l23 hM]
      rw [ts_le (by omega) (by omega)]
      refine ⟨fun h => absurd h (by omega), fun _ => ⟨trivial, by omega, c_passes hM hM.k15 hM.l15 (by omega) hR' (ts_pn_ok hA i (by omega)) (fun hi2 hR2 ho2 => ?_)⟩⟩
      rw [ts_l1, nI_add]
      exact ih (i + 1) hi2 (by omega) hR2 (fun b b1 b2 => by rw [ho2 b b1 b2, hO b b1 b2])
  exact L n 0 hi (by omega) hR (fun b _ _ => rfl)
/-- the acts of the model: the latest first -/
def ts_MB (B : List ts_A) (hi : ts_I) : Prop := hi 405 17 = nI B.length ∧ B.length ≤ 24 ∧ ∀ i A, B[i]? = some A → ts_MR 414 (46 * (B.length - 1 - i)) A hi
def ts_cs (A : ts_A) (B : List ts_A) : List ts_A := (A :: B).take 24
theorem c_notes {d : Nat} {g : ts_G} {A : ts_A} {B : List ts_A} {hi : ts_I} {hk : ts_K} {Q : ts_I → ts_K → Prop} (hM : ts_LM g) (hR : ts_MR 411 0 A hi) (hc : A 6 0 ≤ 7) (hBc : ∀ A ∈ B, A 6 0 ≤ 7) (hB : ts_MB B hi)
    (q : ∀ hi', ts_MB (ts_cs A B) hi' → (∀ b, b ≠ 414 → b ≠ 405 → hi' b = hi b) → (∀ s, s ≠ 17 → hi' 405 s = hi 405 s) → Q hi' hk) : ts_E0 (d + 1) mX12_notes [.ref 405] g hi hk (ts_qv Q) := by
  refine ts_E0.of plX12_notes rfl (Nat.le_of_ble_eq_true rfl) ?_
  refine wX12_notes_0 ?_
  obtain ⟨b0, b1, bT⟩ := hB
  -- the end: behind n acts (23 at most) the field is kept
  have fin : ∀ n hi1, n ≤ 23 → n = min B.length 23 → hi1 405 17 = nI n → (∀ b, b ≠ 414 → b ≠ 405 → hi1 b = hi b) → (∀ s, s ≠ 17 → hi1 405 s = hi 405 s) → (∀ i A, i < n → B[i]? = some A → ts_MR 414 (46 * (n - 1 - i)) A hi1) → ts_E0 d mX12_copies [.ref 411, .int (nI 0), .ref 414, .int (nI (46 * n))] g hi1 hk (ts_qv (fun hi5 hk6 => ∀ hi7 : ts_I, hi7 = ts_up hi5 405 17 ((hi5 405 17) + 1) → Q hi7 hk6)) := by
    intro n hi1 hn hnB h17 hO h405 hT
    refine c_copies hM.k13 hM.k16 (by omega) (by rw [hM.l13]; omega) (by rw [hM.l16]; omega) (by rw [hM.l13]; omega) (by rw [hM.l16]; omega) ?_
    intro hi7 e7
    have hl : (ts_cs A B).length = n + 1 := by
      unfold ts_cs
      rw [List.length_take, List.length_cons]
      omega
    rw [ts_cp_a (by omega), h17, ts_l1, nI_add] at e7
    have e414 : hi7 414 = ts_cp hi1 411 0 414 (46 * n) 46 414 := by rw [e7]; funext u; rw [ts_up_a (by omega)]
    refine q hi7 ⟨?_, by omega, fun i A' hA' => ?_⟩ (fun b x1 x2 => ?_) (fun s hs => ?_)
    · rw [e7, ts_up_eq, hl]
    · rw [hl]
      have hi24 : i < n + 1 := by
        have := (List.getElem?_eq_some_iff.mp hA').1
        omega
      have hA2 : (A :: B)[i]? = some A' := by
        unfold ts_cs at hA'
        rw [List.getElem?_take] at hA'
        by_cases h : i < 24
        · rw [if_pos h] at hA'; exact hA'
        · omega
      cases i with
      | zero =>
        have : A = A' := by simpa using hA2
        subst this
        have z := ts_MR.cp (t := 414) (b := 46 * n) hc (show ts_MR 411 0 A hi1 from by unfold ts_MR; rw [hO 411 (by omega) (by omega)]; exact hR)
        rw [show n + 1 - 1 - 0 = n by omega]
        exact ts_MR.of hc z (fun u hu => by rw [e414])
      | succ i =>
        have hB' : B[i]? = some A' := by simpa using hA2
        have z := hT i A' (by omega) hB'
        rw [show n + 1 - 1 - (i + 1) = n - 1 - i by omega]
        refine ts_MR.of (hBc A' (List.mem_of_getElem? hB')) z (fun u hu => ?_)
        rw [e414]
        unfold ts_cp
        rw [if_neg (by omega)]
    · rw [e7]
      funext u
      rw [ts_up_a x2, ts_cp_a x1, hO b x1 x2]
    · rw [e7, ts_up_s hs, ts_cp_a (by omega), h405 s hs]
  simp only [ts_LM.kd hM, ts_LM.o0 hM, ts_LM.k0 hM, ts_LM.l0 hM, ts_LM.o1 hM, ts_LM.k1 hM, ts_LM.l1 hM, ts_LM.o2 hM, ts_LM.k2 hM, ts_LM.l2 hM, ts_LM.o3 hM, ts_LM.k3 hM, ts_LM.l3 hM, ts_LM.o5 hM, ts_LM.k5 hM, ts_LM.l5 hM, ts_LM.o13 hM, ts_LM.k13 hM, ts_LM.l13 hM, ts_LM.o14 hM, ts_LM.k14 hM, ts_LM.l14 hM, ts_LM.o15 hM, ts_LM.k15 hM, ts_LM.l15 hM, ts_LM.o16 hM, ts_LM.k16 hM, ts_LM.l16 hM, ts_LM.o18 hM, ts_LM.k18 hM, ts_LM.l18 hM, ts_LM.o19 hM, ts_LM.k19 hM, ts_LM.l19 hM, ts_LM.o20 hM, ts_LM.k20 hM, ts_LM.l20 hM, ts_LM.o21 hM, ts_LM.k21 hM, ts_LM.l21 hM, ts_LM.o22 hM, ts_LM.k22 hM, ts_LM.l22 hM, ts_LM.o23 hM, ts_LM.k23 hM, ts_LM.l23 hM]
  rw [b0, show (24 : Int32) = nI 24 from rfl, ts_ne (by omega) (by omega)]
  refine ⟨trivial, fun c => ⟨by omega, by omega, ?_⟩, fun c => ?_⟩
  · rw [show (46 : Int32) = nI 46 from rfl, pk_mul]
    exact fin B.length hi (by omega) (by omega) b0 (fun _ _ _ => rfl) (fun _ _ => rfl) (fun i A hi9 h => bT i A h)
  · have h24 : B.length = 24 := by omega
    have L : ∀ m k hi', k + m = 1058 → (∀ b, b ≠ 414 → hi' b = hi b) → (∀ u, hi' 414 u = if u < k then hi 414 (u + 46) else hi 414 u) → ts_J0 (d + 1) mX12_notes (ts_qv Q) g 11 [(0, .ref 405), (1, .int (nI k))] [] hi' hk := by
      intro m
      induction m with
      | zero =>
        intro k hi' hkm hO hI
        refine wX12_notes_11 ?_
        simp only [ts_LM.kd hM, ts_LM.o0 hM, ts_LM.k0 hM, ts_LM.l0 hM, ts_LM.o1 hM, ts_LM.k1 hM, ts_LM.l1 hM, ts_LM.o2 hM, ts_LM.k2 hM, ts_LM.l2 hM, ts_LM.o3 hM, ts_LM.k3 hM, ts_LM.l3 hM, ts_LM.o5 hM, ts_LM.k5 hM, ts_LM.l5 hM, ts_LM.o13 hM, ts_LM.k13 hM, ts_LM.l13 hM, ts_LM.o14 hM, ts_LM.k14 hM, ts_LM.l14 hM, ts_LM.o15 hM, ts_LM.k15 hM, ts_LM.l15 hM, ts_LM.o16 hM, ts_LM.k16 hM, ts_LM.l16 hM, ts_LM.o18 hM, ts_LM.k18 hM, ts_LM.l18 hM, ts_LM.o19 hM, ts_LM.k19 hM, ts_LM.l19 hM, ts_LM.o20 hM, ts_LM.k20 hM, ts_LM.l20 hM, ts_LM.o21 hM, ts_LM.k21 hM, ts_LM.l21 hM, ts_LM.o22 hM, ts_LM.k22 hM, ts_LM.l22 hM, ts_LM.o23 hM, ts_LM.k23 hM, ts_LM.l23 hM]
        rw [show (1058 : Int32) = nI 1058 from rfl, ts_le (by omega) (by omega), hO 405 (by omega), b0, h24]
        refine ⟨fun _ => ⟨trivial, fun hi3 e3 => ⟨by omega, by omega, ?_⟩⟩, fun h => absurd (by omega) h⟩
        rw [ts_l1, ts_sub' (by omega)] at e3
        have e17 : hi3 405 17 = nI 23 := by rw [e3, ts_up_eq]
        rw [e17, show (46 : Int32) = nI 46 from rfl, pk_mul]
        refine fin 23 hi3 (by omega) (by omega) e17 (fun b x1 x2 => by rw [e3]; funext u; rw [ts_up_a x2, hO b x1]) (fun s hs => by rw [e3, ts_up_s hs, hO 405 (by omega)]) (fun i A' hi9 hA' => ?_)
        have z := bT i A' hA'
        rw [h24] at z
        obtain ⟨r0, r1, r2, r3, rT⟩ := z
        have e : ∀ u, u < 46 → hi3 414 (46 * (23 - 1 - i) + u) = hi 414 (46 * (24 - 1 - i) + u) := fun u hu => by
          rw [e3, ts_up_a (by omega), hI, if_pos (by omega)]
          congr 1
          omega
        have hc' := hBc A' (List.mem_of_getElem? hA')
        refine ⟨(e 0 (by omega)).trans r0, (e 1 (by omega)).trans r1, (e 2 (by omega)).trans r2, (e 3 (by omega)).trans r3, fun u hu => ?_⟩
        have z := rT u hu
        exact ⟨(e _ (by omega)).trans z.1, (e _ (by omega)).trans z.2.1, (e _ (by omega)).trans z.2.2.1, (e _ (by omega)).trans z.2.2.2.1, (e _ (by omega)).trans z.2.2.2.2.1, (e _ (by omega)).trans z.2.2.2.2.2⟩
      | succ m ih =>
        intro k hi' hkm hO hI
        refine wX12_notes_11 ?_
        simp only [ts_LM.kd hM, ts_LM.o0 hM, ts_LM.k0 hM, ts_LM.l0 hM, ts_LM.o1 hM, ts_LM.k1 hM, ts_LM.l1 hM, ts_LM.o2 hM, ts_LM.k2 hM, ts_LM.l2 hM, ts_LM.o3 hM, ts_LM.k3 hM, ts_LM.l3 hM, ts_LM.o5 hM, ts_LM.k5 hM, ts_LM.l5 hM, ts_LM.o13 hM, ts_LM.k13 hM, ts_LM.l13 hM, ts_LM.o14 hM, ts_LM.k14 hM, ts_LM.l14 hM, ts_LM.o15 hM, ts_LM.k15 hM, ts_LM.l15 hM, ts_LM.o16 hM, ts_LM.k16 hM, ts_LM.l16 hM, ts_LM.o18 hM, ts_LM.k18 hM, ts_LM.l18 hM, ts_LM.o19 hM, ts_LM.k19 hM, ts_LM.l19 hM, ts_LM.o20 hM, ts_LM.k20 hM, ts_LM.l20 hM, ts_LM.o21 hM, ts_LM.k21 hM, ts_LM.l21 hM, ts_LM.o22 hM, ts_LM.k22 hM, ts_LM.l22 hM, ts_LM.o23 hM, ts_LM.k23 hM, ts_LM.l23 hM]
        rw [show (1058 : Int32) = nI 1058 from rfl, show (46 : Int32) = nI 46 from rfl, ts_le (by omega) (by omega), nI_add, ts_cl (by omega), ts_cl (by omega), hI (k + 46), if_neg (by omega)]
        refine ⟨fun h => absurd h (by omega), fun _ => ⟨trivial, by omega, trivial, ts_vin (by omega) (by omega), ts_vin (by omega) (by omega), fun hi14 e14 => ?_⟩⟩
        rw [ts_l1, nI_add]
        refine ih (k + 1) hi14 (by omega) (fun b hb => by rw [e14]; funext u; rw [ts_up_a hb, hO b hb]) (fun u => ?_)
        rw [e14]
        by_cases h1 : u = k
        · rw [h1, ts_up_eq, if_pos (by omega)]
        · rw [ts_up_s h1, hI u]
          by_cases h2 : u < k
          · rw [if_pos h2, if_pos (by omega)]
          · rw [if_neg h2, if_neg (by omega)]
    exact L 1058 0 hi (by omega) (fun _ _ => rfl) (fun u => by rw [if_neg (by omega)])
