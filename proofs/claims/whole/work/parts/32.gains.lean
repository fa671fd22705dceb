/-! gains, a year -/
def ts_bc1 (p : Int32) : Int32 := p - ((p.toUInt32 >>> ((1 : Int32).toUInt32 &&& Int32.toUInt32 31)).toInt32 &&& 1431655765)
def ts_bc2 (p : Int32) : Int32 := (p &&& 858993459) + ((p.toUInt32 >>> ((2 : Int32).toUInt32 &&& Int32.toUInt32 31)).toInt32 &&& 858993459)
def ts_bc3 (p : Int32) : Int32 := (p + (p.toUInt32 >>> ((4 : Int32).toUInt32 &&& Int32.toUInt32 31)).toInt32) &&& 252645135
def ts_bc4 (p : Int32) : Int32 := p + (p.toUInt32 >>> ((8 : Int32).toUInt32 &&& Int32.toUInt32 31)).toInt32
def ts_bc5 (p : Int32) : Int32 := p + (p.toUInt32 >>> ((16 : Int32).toUInt32 &&& Int32.toUInt32 31)).toInt32
/-- how many bits of the first seven -/
def ts_pc (x : Nat) : Nat := x % 2 + x / 2 % 2 + x / 4 % 2 + x / 8 % 2 + x / 16 % 2 + x / 32 % 2 + x / 64 % 2
theorem ts_bce : ∀ x, x < 128 → (ts_bc5 (ts_bc4 (ts_bc3 (ts_bc2 (ts_bc1 (nI x))))) &&& 63) = nI (ts_pc x) := by decide +kernel
theorem c_bitCount {d : Nat} {g : ts_G} {x : Nat} {hi : ts_I} {hk : ts_K} {Q : Int32 → ts_I → ts_K → Prop} (hx : x < 128) (q : Q (nI (ts_pc x)) hi hk) : ts_E0 d mJ6_bitCount_0f7a4 [.int (nI x)] g hi hk (ts_qi Q) := by
  refine ts_E0.of plJ6_bitCount_0f7a4 rfl (Nat.le_of_ble_eq_true rfl) ?_
  refine wJ6_bitCount_0f7a4_0 ?_
  rw [← ts_bce x hx] at q
  exact q
def ts_bg (A : ts_A) (fr t : Nat) : Nat :=
  if A 0 t = 1 then A 6 2 else if A 0 t = 2 then (if fr = 0 then A 6 2 / 2 else A 6 2) else if A 0 t = 3 then A 6 2 + (ts_dn A t + ts_un A t)
  else if A 0 t = 4 then (if A 1 t < 3 then 2 * A 6 2 else 0) else if ts_hb A t = 0 ∧ 3 ≤ A 1 t then 0 else 2 * A 6 2
theorem ts_bg_le {A : ts_A} (h : A 6 2 ≤ 9) (fr t : Nat) : ts_bg A fr t ≤ 18 := by
  have := ts_hb_le A t
  unfold ts_bg
  repeat' split
  all_goals omega
def ts_GR (k : Nat) (A : ts_A) (hi : ts_I) : Prop := hi k 11 = nI (A 6 2) ∧ ∀ t, t < A 6 0 → hi (k + 2) t = nI (A 1 t) ∧ hi (k + 9) t = nI (ts_hb A t)
theorem c_X4_gainIn {d : Nat} {g : ts_G} {k o t fr : Nat} {A : ts_A} {hi : ts_I} {hk : ts_K} {Q : Int32 → ts_I → ts_K → Prop} (hF : ts_FL g k) (hG : ts_GR k A hi) (q : Q (nI (A 6 2)) hi hk) : ts_E0 d mX4_gainIn [.ref o, .ref k, .int (nI t), .int (nI fr)] g hi hk (ts_qi Q) := by
  refine ts_E0.of plX4_gainIn rfl (Nat.le_of_ble_eq_true rfl) ?_
  refine wX4_gainIn_0 ?_
  rw [hG.1]
  exact ⟨hF.kd, q⟩
theorem c_X3_gainIn {d : Nat} {g : ts_G} {k o t fr : Nat} {A : ts_A} {hi : ts_I} {hk : ts_K} {Q : Int32 → ts_I → ts_K → Prop} (hF : ts_FL g k) (hG : ts_GR k A hi) (ha : A 6 2 ≤ 9) (hf : fr ≤ 1) (q : Q (nI (if fr = 0 then A 6 2 / 2 else A 6 2)) hi hk) : ts_E0 d mX3_gainIn [.ref o, .ref k, .int (nI t), .int (nI fr)] g hi hk (ts_qi Q) := by
  refine ts_E0.of plX3_gainIn rfl (Nat.le_of_ble_eq_true rfl) ?_
  refine wX3_gainIn_0 ?_
  rw [hG.1, ts_l0, ts_l2, ts_eq (by omega) (by omega), ts_div (by omega) (by omega) (by omega)]
  refine ⟨fun h => ⟨hF.kd, ?_⟩, fun h => ⟨hF.kd, ?_⟩⟩
  · rw [if_pos h] at q; exact q
  · rw [if_neg h] at q; exact q
theorem c_X5_gainIn {d : Nat} {g : ts_G} {k o t fr : Nat} {A : ts_A} {hi : ts_I} {hk : ts_K} {Q : Int32 → ts_I → ts_K → Prop} (hF : ts_FL g k) (hG : ts_GR k A hi) (hA : ts_ok A) (ht : t < A 6 0) (q : Q (nI (A 6 2 + (ts_dn A t + ts_un A t))) hi hk) : ts_E0 (d + 1) mX5_gainIn [.ref o, .ref k, .int (nI t), .int (nI fr)] g hi hk (ts_qi Q) := by
  refine ts_E0.of plX5_gainIn rfl (Nat.le_of_ble_eq_true rfl) ?_
  refine wX5_gainIn_0 ?_
  have hc := hA.1
  have hb := ts_hb_le A t
  simp only [ts_FL.kd hF, ts_FL.k1 hF, ts_FL.k2 hF, ts_FL.k3 hF, ts_FL.k4 hF, ts_FL.k5 hF, ts_FL.k6 hF, ts_FL.k7 hF, ts_FL.k8 hF, ts_FL.k9 hF, ts_FL.l1 hF, ts_FL.l2 hF, ts_FL.l3 hF, ts_FL.l4 hF, ts_FL.l5 hF, ts_FL.l6 hF, ts_FL.l7 hF, ts_FL.l8 hF, ts_FL.l9 hF, ts_FL.o0 hF, ts_FL.o1 hF, ts_FL.o2 hF, ts_FL.o3 hF, ts_FL.o4 hF, ts_FL.o5 hF, ts_FL.o6 hF, ts_FL.o7 hF, ts_FL.o8 hF]
  rw [ts_cl (by omega), hG.1, (hG.2 t ht).2]
  refine ⟨trivial, by omega, trivial, ts_vin (by omega) (by omega), ?_⟩
  refine c_bitCount (by unfold ts_hb; omega) ?_
  have e : ts_pc (ts_hb A t) = ts_dn A t + ts_un A t := by
    unfold ts_hb ts_pc
    have h1 : ts_dn A t = 0 ∨ ts_dn A t = 1 := by omega
    have h2 : ts_un A t = 0 ∨ ts_un A t = 1 := by omega
    rcases h1 with h1 | h1 <;> rcases h2 with h2 | h2 <;> rw [h1, h2]
  rw [e, nI_add]
  exact q
theorem c_X0_gainIn {d : Nat} {g : ts_G} {k o t fr : Nat} {A : ts_A} {hi : ts_I} {hk : ts_K} {Q : Int32 → ts_I → ts_K → Prop} (hF : ts_FL g k) (hG : ts_GR k A hi) (hA : ts_ok A) (ht : t < A 6 0) (q : Q (nI (if A 1 t < 3 then 2 * A 6 2 else 0)) hi hk) : ts_E0 d mX0_gainIn [.ref o, .ref k, .int (nI t), .int (nI fr)] g hi hk (ts_qi Q) := by
  refine ts_E0.of plX0_gainIn rfl (Nat.le_of_ble_eq_true rfl) ?_
  refine wX0_gainIn_0 ?_
  have hc := hA.1
  have hr := (hA.2.2.2.2 t ht).2.1
  simp only [ts_FL.kd hF, ts_FL.k1 hF, ts_FL.k2 hF, ts_FL.k3 hF, ts_FL.k4 hF, ts_FL.k5 hF, ts_FL.k6 hF, ts_FL.k7 hF, ts_FL.k8 hF, ts_FL.k9 hF, ts_FL.l1 hF, ts_FL.l2 hF, ts_FL.l3 hF, ts_FL.l4 hF, ts_FL.l5 hF, ts_FL.l6 hF, ts_FL.l7 hF, ts_FL.l8 hF, ts_FL.l9 hF, ts_FL.o0 hF, ts_FL.o1 hF, ts_FL.o2 hF, ts_FL.o3 hF, ts_FL.o4 hF, ts_FL.o5 hF, ts_FL.o6 hF, ts_FL.o7 hF, ts_FL.o8 hF]
  rw [ts_cl (by omega), hG.1, (hG.2 t ht).1, ts_l2, ts_l3, pk_mul, ts_le (by omega) (by omega)]
  refine ⟨trivial, by omega, trivial, ts_vin (by omega) (by omega), fun h => ?_, fun h => ?_⟩
  · rw [if_neg (by omega)] at q; exact q
  · rw [if_pos (by omega)] at q; exact q
theorem c_X8_gainIn {d : Nat} {g : ts_G} {k o t fr : Nat} {A : ts_A} {hi : ts_I} {hk : ts_K} {Q : Int32 → ts_I → ts_K → Prop} (hF : ts_FL g k) (hG : ts_GR k A hi) (hA : ts_ok A) (ht : t < A 6 0) (ho : g.2.1 o = 7) (q : Q (nI (if ts_hb A t = 0 ∧ 3 ≤ A 1 t then 0 else 2 * A 6 2)) hi hk) : ts_E0 (d + 1) mX8_gainIn [.ref o, .ref k, .int (nI t), .int (nI fr)] g hi hk (ts_qi Q) := by
  refine ts_E0.of plX8_gainIn rfl (Nat.le_of_ble_eq_true rfl) ?_
  refine wX8_gainIn_0 ?_
  have hc := hA.1
  have hr := (hA.2.2.2.2 t ht).2.1
  have hb := ts_hb_le A t
  have hb2 : ts_hb A t ≤ 3 := by unfold ts_hb; omega
  simp only [ts_FL.kd hF, ts_FL.k1 hF, ts_FL.k2 hF, ts_FL.k3 hF, ts_FL.k4 hF, ts_FL.k5 hF, ts_FL.k6 hF, ts_FL.k7 hF, ts_FL.k8 hF, ts_FL.k9 hF, ts_FL.l1 hF, ts_FL.l2 hF, ts_FL.l3 hF, ts_FL.l4 hF, ts_FL.l5 hF, ts_FL.l6 hF, ts_FL.l7 hF, ts_FL.l8 hF, ts_FL.l9 hF, ts_FL.o0 hF, ts_FL.o1 hF, ts_FL.o2 hF, ts_FL.o3 hF, ts_FL.o4 hF, ts_FL.o5 hF, ts_FL.o6 hF, ts_FL.o7 hF, ts_FL.o8 hF]
  rw [ts_cl (by omega), hG.1, (hG.2 t ht).2, ts_l2, ts_l0, pk_mul, ts_eq (by omega) (by omega)]
  refine ⟨trivial, by omega, trivial, ts_vin (by omega) (by omega), fun h => ⟨by omega, ?_⟩, fun h => ?_⟩
  · refine c_X0_gainIn hF hG hA ht ?_
    by_cases h3 : A 1 t < 3
    · rw [if_neg (by omega)] at q
      rw [if_pos h3]; exact q
    · rw [if_pos (by omega)] at q
      rw [if_neg h3]; exact q
  · rw [if_neg (by omega)] at q; exact q
theorem c_gainIn {d : Nat} {g : ts_G} {k t fr : Nat} {A : ts_A} {hi : ts_I} {hk : ts_K} {Q : Int32 → ts_I → ts_K → Prop} (hL : ts_KL g) (hF : ts_FL g k) (hG : ts_GR k A hi) (hA : ts_ok A) (ht : t < A 6 0) (hf : fr ≤ 1) (q : Q (nI (ts_bg A fr t)) hi hk) :
    ts_EV [(0, mX0_gainIn), (2, mX3_gainIn), (3, mX4_gainIn), (4, mX5_gainIn), (7, mX8_gainIn)] (d + 1) (9 + A 0 t) [.ref (9 + A 0 t), .ref k, .int (nI t), .int (nI fr)] g hi hk (ts_qi Q) := by
  obtain ⟨l1, l2, l3, l4, l5⟩ := hL
  have hk5 := (hA.2.2.2.2 t ht).1
  have h3 : A 0 t = 1 ∨ A 0 t = 2 ∨ A 0 t = 3 ∨ A 0 t = 4 ∨ A 0 t = 5 := by omega
  unfold ts_bg at q
  rcases h3 with e | e | e | e | e <;> rw [e] at q ⊢
  · exact ⟨mX4_gainIn, by rw [l1]; simp, c_X4_gainIn hF hG (by simpa using q)⟩
  · exact ⟨mX3_gainIn, by rw [l2]; simp, c_X3_gainIn hF hG hA.2.2.1 hf (by simpa using q)⟩
  · exact ⟨mX5_gainIn, by rw [l3]; simp, c_X5_gainIn hF hG hA ht (by simpa using q)⟩
  · exact ⟨mX0_gainIn, by rw [l4]; simp, c_X0_gainIn hF hG hA ht (by simpa using q)⟩
  · exact ⟨mX8_gainIn, by rw [l5]; simp, c_X8_gainIn hF hG hA ht l5 (by simpa using q)⟩
def ts_mg (A : ts_A) (fr t : Nat) : Nat := if A 4 t = 7 then ts_bg A fr t else (ts_bg A fr t + ts_bg A fr (A 4 t)) / 2
def ts_lb (A : ts_A) (t : Nat) : Nat := if A 3 t = 0 then ts_dn A t else ts_un A t
def ts_ga (A : ts_A) (fr t : Nat) : Nat := ts_mg A fr t + ts_lb A t
def ts_mgp (A : ts_A) (fr p t : Nat) : Nat := if A 4 t = 7 then ts_bg A fr t else if t < p ∨ A 4 t < p then (ts_bg A fr t + ts_bg A fr (A 4 t)) / 2 else ts_bg A fr t
theorem ts_lb4 : ∀ a, a < 2 → ∀ b, b < 2 → ∀ l, l < 2 → ((nI (a + 2 * b) >>> (nI l &&& 31)) &&& 1) = nI (if l = 0 then a else b) := by decide +kernel
theorem ts_mI_le {m t c : Nat} (hm : m = 7 ∨ m < c) (hc : c ≤ 7) (ht : t < c) : (ts_mI m ≤ nI t) ↔ (m = 7 ∨ m ≤ t) := by
  unfold ts_mI
  rcases hm with e | e
  · rw [if_pos e]
    have h1 : (-1 : Int32) ≤ nI t := by
      rw [Int32.le_iff_toInt_le, nI_toInt (by omega)]
      have : (-1 : Int32).toInt = -1 := by decide
      omega
    simp [e, h1]
  · rw [if_neg (by omega), ts_le (by omega) (by omega)]
    omega
theorem c_findGains {d : Nat} {g : ts_G} {k fr : Nat} {A : ts_A} {hi : ts_I} {hk : ts_K} {Q : ts_I → ts_K → Prop} (hL : ts_KL g) (hF : ts_FL g k) (hR : ts_FR k A hi hk) (hA : ts_ok A) (hf : fr ≤ 1)
    (q : ∀ hi', (∀ t, t < A 6 0 → hi' (k + 8) t = nI (ts_ga A fr t)) → (∀ b, b ≠ k + 8 → b ≠ k + 9 → hi' b = hi b) → Q hi' hk) : ts_E0 (d + 2) mX1_findGains [.ref k, .int (nI fr)] g hi hk (ts_qv Q) := by
  refine ts_E0.of plX1_findGains rfl (Nat.le_of_ble_eq_true rfl) ?_
  refine wX1_findGains_0 ⟨hF.kd, ?_⟩
  refine c_findHigher hF hR hA (fun hi1 hb1 ho1 => ?_)
  obtain ⟨h9, -, h11, -, hT⟩ := hR
  obtain ⟨a0, -, a2, -, aT⟩ := id hA
  -- third: leaning
  have L3 : ∀ n t hi', t + n = A 6 0 → (∀ s, s < A 6 0 → hi' (k + 8) s = nI (if s < t then ts_ga A fr s else ts_mg A fr s)) → (∀ b, b ≠ k + 8 → hi' b = hi1 b) → ts_J0 (d + 2) mX1_findGains (ts_qv Q) g 109 [(0, .ref k), (2, .int (nI t))] [] hi' hk := by
    intro n
    induction n with
    | zero =>
      intro t hi' htn hI hO
      refine wX1_findGains_109 ?_
      rw [hO k (by omega), ho1 k (by omega), h9, ts_le (by omega) (by omega)]
      refine ⟨hF.kd, fun _ => ?_, fun h => absurd (by omega) h⟩
      refine q hi' (fun s hs => ?_) (fun b hb1 hb2 => (hO b hb1).trans (ho1 b hb2))
      rw [hI s hs, if_pos (by omega)]
    | succ n ih =>
      intro t hi' htn hI hO
      refine wX1_findGains_109 ?_
      have ht : t < A 6 0 := by omega
      have hl := (aT t ht).2.2.2.1
      have hb := ts_hb_le A t
      simp only [ts_FL.kd hF, ts_FL.k1 hF, ts_FL.k2 hF, ts_FL.k3 hF, ts_FL.k4 hF, ts_FL.k5 hF, ts_FL.k6 hF, ts_FL.k7 hF, ts_FL.k8 hF, ts_FL.k9 hF, ts_FL.l1 hF, ts_FL.l2 hF, ts_FL.l3 hF, ts_FL.l4 hF, ts_FL.l5 hF, ts_FL.l6 hF, ts_FL.l7 hF, ts_FL.l8 hF, ts_FL.l9 hF, ts_FL.o0 hF, ts_FL.o1 hF, ts_FL.o2 hF, ts_FL.o3 hF, ts_FL.o4 hF, ts_FL.o5 hF, ts_FL.o6 hF, ts_FL.o7 hF, ts_FL.o8 hF]
      rw [ts_cl (by omega), hI t ht, if_neg (by omega), hO (k + 9) (by omega), hb1 t ht, hO (k + 4) (by omega), ho1 (k + 4) (by omega), (hT t ht).2.2.2.1, hO k (by omega), ho1 k (by omega), h9, ts_le (by omega) (by omega)]
      refine ⟨trivial, fun h => absurd h (by omega), fun _ => ⟨by omega, trivial, ts_vin (by omega) (by omega), by omega, trivial, ts_vin (by omega) (by omega), by omega, trivial, ts_vin (by omega) (by omega), fun hi2 e2 => ?_⟩⟩
      unfold ts_hb at e2
      rw [ts_lb4 _ (by omega) _ (by omega) _ (by omega), nI_add] at e2
      rw [ts_l1, nI_add]
      refine ih (t + 1) hi2 (by omega) (fun s hs => ?_) (fun b hb => ?_)
      · rw [e2]
        by_cases n1 : s = t
        · subst n1
          rw [ts_up_eq, if_pos (show s < s + 1 by omega)]
          rfl
        · rw [ts_up_s n1, hI s hs]
          congr 1
          have e : s < t ↔ s < t + 1 := by omega
          simp only [e]
      · rw [e2]
        funext s
        rw [ts_up_a hb, hO b hb]
  -- second: the married
  have L2 : ∀ n t hi', t + n = A 6 0 → (∀ s, s < A 6 0 → hi' (k + 8) s = nI (ts_mgp A fr t s)) → (∀ b, b ≠ k + 8 → hi' b = hi1 b) → ts_J0 (d + 2) mX1_findGains (ts_qv Q) g 40 [(0, .ref k), (2, .int (nI t))] [] hi' hk := by
    intro n
    induction n with
    | zero =>
      intro t hi' htn hI hO
      refine wX1_findGains_40 ?_
      rw [hO k (by omega), ho1 k (by omega), h9, ts_le (by omega) (by omega)]
      refine ⟨hF.kd, fun _ => ?_, fun h => absurd (by omega) h⟩
      refine L3 (A 6 0) 0 hi' (by omega) (fun s hs => ?_) hO
      rw [hI s hs, if_neg (by omega)]
      unfold ts_mgp ts_mg
      by_cases e7 : A 4 s = 7
      · rw [if_pos e7, if_pos e7]
      · rw [if_neg e7, if_neg e7, if_pos (by omega)]
    | succ n ih =>
      intro t hi' htn hI hO
      refine wX1_findGains_40 ?_
      have ht : t < A 6 0 := by omega
      have hm := (aT t ht).2.2.2.2.1
      have hm4 : hi' (k + 5) t = ts_mI (A 4 t) := by rw [hO (k + 5) (by omega), ho1 (k + 5) (by omega), (hT t ht).2.2.2.2.1]
      simp only [ts_FL.kd hF, ts_FL.k1 hF, ts_FL.k2 hF, ts_FL.k3 hF, ts_FL.k4 hF, ts_FL.k5 hF, ts_FL.k6 hF, ts_FL.k7 hF, ts_FL.k8 hF, ts_FL.k9 hF, ts_FL.l1 hF, ts_FL.l2 hF, ts_FL.l3 hF, ts_FL.l4 hF, ts_FL.l5 hF, ts_FL.l6 hF, ts_FL.l7 hF, ts_FL.l8 hF, ts_FL.l9 hF, ts_FL.o0 hF, ts_FL.o1 hF, ts_FL.o2 hF, ts_FL.o3 hF, ts_FL.o4 hF, ts_FL.o5 hF, ts_FL.o6 hF, ts_FL.o7 hF, ts_FL.o8 hF]
      rw [ts_cl (by omega), hm4, hO k (by omega), ho1 k (by omega), h9, ts_le (by omega) (by omega), ts_mI_le (c := A 6 0) (by omega) a0 ht]
      -- the step that changes nothing
      have skip : (A 4 t = 7 ∨ A 4 t ≤ t) → ts_J0 (d + 2) mX1_findGains (ts_qv Q) g 40 [(0, .ref k), (2, .int (nI (t + 1)))] [] hi' hk := by
        intro hs0
        refine ih (t + 1) hi' (by omega) (fun s hs => ?_) hO
        rw [hI s hs]
        congr 1
        unfold ts_mgp
        by_cases e7 : A 4 s = 7
        · rw [if_pos e7, if_pos e7]
        · rw [if_neg e7, if_neg e7]
          have hms := (aT s hs).2.2.2.2.1
          have e : (s < t ∨ A 4 s < t) ↔ (s < t + 1 ∨ A 4 s < t + 1) := by
            constructor
            · omega
            · intro h
              by_cases h1 : s = t
              · subst h1; omega
              · by_cases h2 : A 4 s = t
                · have h3 : A 4 t = s := by rw [← h2]; omega
                  omega
                · omega
          simp only [e]
      refine ⟨trivial, fun h => absurd h (by omega), fun _ => ⟨by omega, trivial, ts_vin (by omega) (by omega), fun h => ?_, fun h => ?_⟩⟩
      · rw [ts_l1, nI_add]; exact skip h
      · have hm7 : A 4 t ≠ 7 := by omega
        have hmc : A 4 t < A 6 0 := by omega
        have e5 : ts_mI (A 4 t) = nI (A 4 t) := by unfold ts_mI; rw [if_neg hm7]
        have g1 : ts_mgp A fr t t = ts_bg A fr t := by
          unfold ts_mgp
          rw [if_neg hm7, if_neg (by omega)]
        have hmm : A 4 (A 4 t) = t := by omega
        have g2 : ts_mgp A fr t (A 4 t) = ts_bg A fr (A 4 t) := by
          unfold ts_mgp
          rw [hmm, if_neg (by omega), if_neg (by omega)]
        have b1 := ts_bg_le (A := A) a2 fr t
        have b2 := ts_bg_le (A := A) a2 fr (A 4 t)
        rw [e5, ts_cl (by omega), hI t ht, hI _ hmc, g1, g2, ts_le (by omega) (by omega), nI_add, ts_l2, ts_div (by omega) (by omega) (by omega)]
        refine ⟨fun h => absurd h (by omega), fun _ => ⟨by omega, trivial, ts_vin (by omega) (by omega), ts_vin (by omega) (by omega), fun hi2 e2 hi3 e3 => ?_⟩⟩
        rw [ts_l1, nI_add]
        refine ih (t + 1) hi3 (by omega) (fun s hs => ?_) (fun b hb => ?_)
        · rw [e3]
          by_cases n1 : s = A 4 t
          · subst n1
            rw [ts_up_eq]
            unfold ts_mgp
            rw [hmm, if_neg (by omega), if_pos (by omega)]
            congr 2
            omega
          · rw [ts_up_s n1, e2]
            by_cases n2 : s = t
            · subst n2
              rw [ts_up_eq]
              unfold ts_mgp
              rw [if_neg hm7, if_pos (by omega)]
            · rw [ts_up_s n2, hI s hs]
              congr 1
              unfold ts_mgp
              by_cases e7 : A 4 s = 7
              · rw [if_pos e7, if_pos e7]
              · rw [if_neg e7, if_neg e7]
                have hms := (aT s hs).2.2.2.2.1
                have h2 : A 4 s ≠ t := fun h2 => n1 (by rw [← h2]; omega)
                have e : (s < t ∨ A 4 s < t) ↔ (s < t + 1 ∨ A 4 s < t + 1) := by omega
                simp only [e]
        · rw [e3]
          funext s
          rw [ts_up_a hb, e2, ts_up_a hb, hO b hb]
  -- first: each by itself
  have L1 : ∀ n t hi', t + n = A 6 0 → (∀ s, s < t → hi' (k + 8) s = nI (ts_bg A fr s)) → (∀ b, b ≠ k + 8 → hi' b = hi1 b) → ts_J0 (d + 2) mX1_findGains (ts_qv Q) g 6 [(0, .ref k), (1, .int (nI fr)), (2, .int (nI t))] [] hi' hk := by
    intro n
    induction n with
    | zero =>
      intro t hi' htn hI hO
      refine wX1_findGains_6 ?_
      rw [hO k (by omega), ho1 k (by omega), h9, ts_le (by omega) (by omega)]
      refine ⟨hF.kd, fun _ => ?_, fun h => absurd (by omega) h⟩
      refine L2 (A 6 0) 0 hi' (by omega) (fun s hs => ?_) hO
      rw [hI s (by omega)]
      unfold ts_mgp
      by_cases e7 : A 4 s = 7
      · rw [if_pos e7]
      · rw [if_neg e7, if_neg (by omega)]
    | succ n ih =>
      intro t hi' htn hI hO
      refine wX1_findGains_6 ?_
      have ht : t < A 6 0 := by omega
      simp only [ts_FL.kd hF, ts_FL.k1 hF, ts_FL.k2 hF, ts_FL.k3 hF, ts_FL.k4 hF, ts_FL.k5 hF, ts_FL.k6 hF, ts_FL.k7 hF, ts_FL.k8 hF, ts_FL.k9 hF, ts_FL.l1 hF, ts_FL.l2 hF, ts_FL.l3 hF, ts_FL.l4 hF, ts_FL.l5 hF, ts_FL.l6 hF, ts_FL.l7 hF, ts_FL.l8 hF, ts_FL.l9 hF, ts_FL.o0 hF, ts_FL.o1 hF, ts_FL.o2 hF, ts_FL.o3 hF, ts_FL.o4 hF, ts_FL.o5 hF, ts_FL.o6 hF, ts_FL.o7 hF, ts_FL.o8 hF]
      rw [ts_cl (by omega), (hT t ht).1, hO k (by omega), ho1 k (by omega), h9, ts_le (by omega) (by omega)]
      refine ⟨trivial, fun h => absurd h (by omega), fun _ => ⟨by omega, by omega, trivial, ts_vin (by omega) (by omega), by omega, ?_⟩⟩
      refine c_gainIn (A := A) hL hF ⟨by rw [hO k (by omega), ho1 k (by omega), h11], fun s hs => ⟨by rw [hO (k + 2) (by omega), ho1 (k + 2) (by omega), (hT s hs).2.1], by rw [hO (k + 9) (by omega), hb1 s hs]⟩⟩ hA ht hf ?_
      refine ⟨trivial, ts_vin (by omega) (by omega), fun hi2 e2 => ?_⟩
      rw [ts_l1, nI_add]
      refine ih (t + 1) hi2 (by omega) (fun s hs => ?_) (fun b hb => ?_)
      · rw [e2]
        by_cases n1 : s = t
        · subst n1
          rw [ts_up_eq]
        · rw [ts_up_s n1]
          exact hI s (by omega)
      · rw [e2]
        funext s
        rw [ts_up_a hb, hO b hb]
  exact L1 (A 6 0) 0 hi1 (by omega) (fun s hs => by omega) (fun b _ => rfl)
