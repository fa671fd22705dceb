/-! votes: the class and the model -/
def ts_pwf (A : ts_A) (t s : Nat) : Nat := if s / 2 ^ t % 2 = 0 ∧ 2 * ts_vt A s ≤ ts_rk A ∧ ts_rk A < 2 * (ts_vt A s + A 1 t) then 1 else 0
def ts_pw (A : ts_A) (t : Nat) : Nat := ts_sm (ts_pwf A t) (2 ^ A 6 0)
def ts_bl (A : ts_A) : Nat → Nat
  | 0 => 0
  | n + 1 => if (ts_bl A n = 0 ∨ ts_pc n < ts_pc (ts_bl A n)) ∧ ts_rk A < 2 * ts_vt A n then n else ts_bl A n
theorem ts_bl_le (A : ts_A) (n : Nat) : ts_bl A n ≤ n := by
  induction n with
  | zero => simp [ts_bl]
  | succ n ih =>
    rw [ts_bl]
    split <;> omega
theorem ts_p128 {c : Nat} (hc : c ≤ 7) : 1 ≤ 2 ^ c ∧ 2 ^ c ≤ 128 := by
  refine ⟨Nat.one_le_two_pow, ?_⟩
  have : 2 ^ c ≤ 2 ^ 7 := Nat.pow_le_pow_right (by decide) hc
  omega
theorem ts_pc_le (x : Nat) : ts_pc x ≤ 7 := by unfold ts_pc; omega
theorem c_turnedBy {d : Nat} {g : ts_G} {k u : Nat} {A : ts_A} {hi : ts_I} {hk : ts_K} {Q : Int32 → ts_I → ts_K → Prop} (hF : ts_FL g k) (hR : ts_FR k A hi hk) (hA : ts_ok A) (hu : u < A 6 0) (q : Q (nI (ts_pw A u)) hi hk) : ts_E0 (d + 2) mX1_turnedBy [.ref k, .int (nI u)] g hi hk (ts_qi Q) := by
  refine ts_E0.of plX1_turnedBy rfl (Nat.le_of_ble_eq_true rfl) ?_
  refine wX1_turnedBy_0 ⟨hF.kd, c_allRanks hF hR hA ?_⟩
  obtain ⟨h9, -, -, -, hT⟩ := id hR
  have a0 := hA.1
  have hp := ts_p128 a0
  have hrk := ts_rk_le hA
  have hr := (hA.2.2.2.2 u hu).2.1
  have L : ∀ n s, s + n = 2 ^ A 6 0 → ts_J0 (d + 2) mX1_turnedBy (ts_qi Q) g 10 [(0, .ref k), (1, .int (nI u)), (2, .int (nI (ts_rk A))), (3, .int (nI (ts_sm (ts_pwf A u) s))), (4, .int (nI s))] [] hi hk := by
    intro n
    induction n with
    | zero =>
      intro s hsn
      refine wX1_turnedBy_10 ?_
      rw [h9, ts_shl1 _ (by omega), ts_le (by omega) (by omega)]
      refine ⟨hF.kd, fun _ => ?_, fun h => absurd (by omega) h⟩
      rw [show s = 2 ^ A 6 0 by omega]
      exact q
    | succ n ih =>
      intro s hsn
      refine wX1_turnedBy_10 ?_
      have hv := ts_vt_le hA s
      rw [h9, ts_shl1 _ (by omega), ts_le (by omega) (by omega)]
      refine ⟨hF.kd, fun h => absurd h (by omega), fun _ => c_votesOf hF hR hA (by omega) ?_⟩
      simp only [ts_FL.kd hF, ts_FL.k1 hF, ts_FL.k2 hF, ts_FL.k3 hF, ts_FL.k4 hF, ts_FL.k5 hF, ts_FL.k6 hF, ts_FL.k7 hF, ts_FL.k8 hF, ts_FL.k9 hF, ts_FL.l1 hF, ts_FL.l2 hF, ts_FL.l3 hF, ts_FL.l4 hF, ts_FL.l5 hF, ts_FL.l6 hF, ts_FL.l7 hF, ts_FL.l8 hF, ts_FL.l9 hF, ts_FL.o0 hF, ts_FL.o1 hF, ts_FL.o2 hF, ts_FL.o3 hF, ts_FL.o4 hF, ts_FL.o5 hF, ts_FL.o6 hF, ts_FL.o7 hF, ts_FL.o8 hF]
      rw [ts_bitk (by omega) (by omega), ts_l2, ts_l1, ts_l0, pk_mul, ts_cl (by omega), (hT u hu).2.1, nI_add, nI_add, pk_mul, Ne, ts_eq (by omega) (by omega), ts_lt (by omega) (by omega), ts_le (by omega) (by omega)]
      have z := ih (s + 1) (by omega)
      rw [ts_sm] at z
      refine ⟨fun c => ?_, fun c => ⟨fun c2 => ?_, fun c2 => ⟨by omega, trivial, ts_vin (by omega) (by omega), fun c3 => ?_, fun c3 => ?_⟩⟩⟩
      · have e : ts_pwf A u s = 0 := by unfold ts_pwf; rw [if_neg (by omega)]
        rw [e, Nat.add_zero] at z
        exact z
      · have e : ts_pwf A u s = 0 := by unfold ts_pwf; rw [if_neg (by omega)]
        rw [e, Nat.add_zero] at z
        exact z
      · have e : ts_pwf A u s = 0 := by unfold ts_pwf; rw [if_neg (by omega)]
        rw [e, Nat.add_zero] at z
        exact z
      · have e : ts_pwf A u s = 1 := by unfold ts_pwf; rw [if_pos (by omega)]
        rw [e] at z
        rw [nI_add]
        exact z
  exact L (2 ^ A 6 0) 0 (by omega)
theorem c_leastBloc {d : Nat} {g : ts_G} {k : Nat} {A : ts_A} {hi : ts_I} {hk : ts_K} {Q : Int32 → ts_I → ts_K → Prop} (hF : ts_FL g k) (hR : ts_FR k A hi hk) (hA : ts_ok A) (q : Q (nI (ts_bl A (2 ^ A 6 0))) hi hk) : ts_E0 (d + 2) mX1_leastBloc [.ref k] g hi hk (ts_qi Q) := by
  refine ts_E0.of plX1_leastBloc rfl (Nat.le_of_ble_eq_true rfl) ?_
  refine wX1_leastBloc_0 ⟨hF.kd, c_allRanks hF hR hA ?_⟩
  obtain ⟨h9, -, -, -, hT⟩ := id hR
  have a0 := hA.1
  have hp := ts_p128 a0
  have hrk := ts_rk_le hA
  have L : ∀ n s, s + n = 2 ^ A 6 0 → ts_J0 (d + 2) mX1_leastBloc (ts_qi Q) g 9 [(0, .ref k), (1, .int (nI (ts_rk A))), (2, .int (nI (ts_bl A s))), (3, .int (nI s))] [] hi hk := by
    intro n
    induction n with
    | zero =>
      intro s hsn
      refine wX1_leastBloc_9 ?_
      rw [h9, ts_shl1 _ (by omega), ts_le (by omega) (by omega)]
      refine ⟨hF.kd, fun _ => ?_, fun h => absurd (by omega) h⟩
      rw [show s = 2 ^ A 6 0 by omega]
      exact q
    | succ n ih =>
      intro s hsn
      refine wX1_leastBloc_9 ?_
      have hv := ts_vt_le hA s
      have hb := ts_bl_le A s
      have p1 := ts_pc_le s
      have p2 := ts_pc_le (ts_bl A s)
      have z := ih (s + 1) (by omega)
      rw [ts_bl] at z
      -- the votes of the set decide
      have V : (ts_bl A s = 0 ∨ ts_pc s < ts_pc (ts_bl A s)) → ts_E0 (d + 1) mX1_votesOf [.ref k, .int (nI s)] g hi hk (ts_qi (fun v7 hi5 hk6 => (((2 * v7) ≤ nI (ts_rk A)) → ts_J0 (d + 2) mX1_leastBloc (ts_qi Q) g 9 [(0, .ref k), (1, .int (nI (ts_rk A))), (2, .int (nI (ts_bl A s))), (3, .int (nI s + 1))] [] hi5 hk6) ∧ (¬ ((2 * v7) ≤ nI (ts_rk A)) → ts_J0 (d + 2) mX1_leastBloc (ts_qi Q) g 9 [(0, .ref k), (1, .int (nI (ts_rk A))), (2, .int (nI s)), (3, .int (nI s + 1))] [] hi5 hk6))) := by
        intro hsm
        refine c_votesOf hF hR hA (by omega) ?_
        rw [ts_l2, ts_l1, pk_mul, nI_add, ts_le (by omega) (by omega)]
        refine ⟨fun c => ?_, fun c => ?_⟩
        · rw [if_neg (by omega)] at z; exact z
        · rw [if_pos ⟨hsm, by omega⟩] at z; exact z
      rw [h9, ts_shl1 _ (by omega), ts_le (by omega) (by omega)]
      refine ⟨hF.kd, fun h => absurd h (by omega), fun _ => ⟨fun c => ?_, fun c => ?_⟩⟩
      · rw [ts_l0, ts_eq (by omega) (by omega)] at c
        exact V (Or.inl c)
      · rw [ts_l0, ts_eq (by omega) (by omega)] at c
        refine c_bitCount (by omega) (c_bitCount (by omega) ?_)
        rw [ts_le (by omega) (by omega)]
        refine ⟨fun c2 => ?_, fun c2 => V (Or.inr (by omega))⟩
        rw [if_neg (by omega)] at z
        rw [ts_l1, nI_add]
        exact z
  have z := L (2 ^ A 6 0 - 1) 1 (by omega)
  have e : ts_bl A 1 = 0 := by
    have := ts_bl_le A 0
    rw [ts_bl]
    split <;> omega
  rw [e] at z
  exact z
-- the model
theorem c_sumOf {d : Nat} {g : ts_G} {m w : Nat} {A : ts_A} {hi : ts_I} {hk : ts_K} {Q : Int32 → ts_I → ts_K → Prop} (hm : g.2.1 m = 100) (hl : g.2.2.1 m = 46) (hR : ts_MR m 0 A hi) (hA : ts_ok A) (hw : w = 1 ∨ w = 2) (q : Q (nI (if w = 1 then ts_rk A else ts_gw A)) hi hk) : ts_E0 d mX12_sumOf [.ref m, .int (nI w)] g hi hk (ts_qi Q) := by
  refine ts_E0.of plX12_sumOf rfl (Nat.le_of_ble_eq_true rfl) ?_
  refine wX12_sumOf_0 ?_
  obtain ⟨r0, r1, r2, r3, rT⟩ := hR
  simp only [Nat.zero_add] at r1 r2 r3 rT
  have a0 := hA.1
  have hq : Q (nI (ts_sm (A w) (A 6 0))) hi hk := by
    rcases hw with rfl | rfl
    · exact q
    · exact q
  have L : ∀ n t, t + n = A 6 0 → ts_J0 d mX12_sumOf (ts_qi Q) g 4 [(0, .ref m), (1, .int (nI w)), (2, .int (nI (ts_sm (A w) t))), (3, .int (nI t))] [] hi hk := by
    intro n
    induction n with
    | zero =>
      intro t htn
      refine wX12_sumOf_4 ?_
      rw [hm, hl, show (2 : Int32).toNatClampNeg = 2 from rfl, r2, ts_le (by omega) (by omega)]
      refine ⟨rfl, ts_vin (i := 2) (by omega) (by omega), fun _ => ?_, fun h => absurd (by omega) h⟩
      rw [show t = A 6 0 by omega]
      exact hq
    | succ n ih =>
      intro t htn
      refine wX12_sumOf_4 ?_
      have ht : t < A 6 0 := by omega
      have z := rT t ht
      have e : hi m (4 + 6 * t + w) = nI (A w t) := by
        rcases hw with rfl | rfl
        · exact z.2.1
        · exact z.2.2.1
      rw [hm, hl, show (2 : Int32).toNatClampNeg = 2 from rfl, r2, ts_le (by omega) (by omega), ts_l4, ts_l6, ts_l1, pk_mul, nI_add, nI_add, nI_add, ts_cl (by omega), e, nI_add]
      exact ⟨rfl, ts_vin (i := 2) (by omega) (by omega), fun h => absurd h (by omega), fun _ => ⟨ts_vin (by omega) (by omega), ih (t + 1) (by omega)⟩⟩
  exact L (A 6 0) 0 (by omega)
theorem ts_or128 : ∀ s, s < 128 → ∀ t, t < 7 → s / 2 ^ t % 2 = 0 → (nI s ||| nI (2 ^ t)) = nI (s + 2 ^ t) := by decide +kernel
theorem ts_bit128 : ∀ s, s < 128 → ∀ t, t < 7 → s / 2 ^ t % 2 = 0 → ∀ u, u < 7 → (s + 2 ^ t) / 2 ^ u % 2 = if u = t then 1 else s / 2 ^ u % 2 := by decide +kernel
theorem ts_vt_add {A : ts_A} {s t : Nat} (hc : A 6 0 ≤ 7) (hs : s < 128) (ht : t < A 6 0) (h : s / 2 ^ t % 2 = 0) : ts_vt A (s + 2 ^ t) = ts_vt A s + A 1 t := by
  have L : ∀ n, n ≤ A 6 0 → ts_sm (fun u => if (s + 2 ^ t) / 2 ^ u % 2 = 1 then A 1 u else 0) n = ts_sm (fun u => if s / 2 ^ u % 2 = 1 then A 1 u else 0) n + if t < n then A 1 t else 0 := by
    intro n
    induction n with
    | zero => intro _; simp [ts_sm]
    | succ n ih =>
      intro hn
      rw [ts_sm, ts_sm, ih (by omega), ts_bit128 s hs t (by omega) h n (by omega)]
      by_cases e : n = t
      · subst e
        rw [if_neg (by omega), if_pos rfl, if_pos rfl, h, if_neg (by omega), if_pos (by omega)]
      · rw [if_neg e]
        by_cases e2 : t < n
        · have e3 : t < n + 1 := by omega
          rw [if_pos e2, if_pos e3]; omega
        · have e3 : ¬ t < n + 1 := by omega
          rw [if_neg e2, if_neg e3]; omega
  have z := L (A 6 0) (Nat.le_refl _)
  rw [if_pos ht] at z
  exact z
theorem c_wins {d : Nat} {g : ts_G} {s : Nat} {A : ts_A} {hi : ts_I} {hk : ts_K} {Q : Int32 → ts_I → ts_K → Prop} (hM : ts_LM g) (hR : ts_MR 411 0 A hi) (hA : ts_ok A) (hs : s < 2147483648) (q : Q (if ts_rk A < 2 * ts_vt A s then 1 else 0) hi hk) : ts_E0 (d + 1) mX12_wins [.ref 405, .int (nI s)] g hi hk (ts_qi Q) := by
  refine ts_E0.of plX12_wins rfl (Nat.le_of_ble_eq_true rfl) ?_
  refine wX12_wins_0 ?_
  obtain ⟨r0, r1, r2, r3, rT⟩ := id hR
  simp only [Nat.zero_add] at r1 r2 r3 rT
  have a0 := hA.1
  have hrk := ts_rk_le hA
  have L : ∀ n t, t + n = A 6 0 → ts_J0 (d + 1) mX12_wins (ts_qi Q) g 4 [(0, .ref 405), (1, .int (nI s)), (2, .int (nI (ts_sm (fun t => if s / 2 ^ t % 2 = 1 then A 1 t else 0) t))), (3, .int (nI t))] [] hi hk := by
    intro n
    induction n with
    | zero =>
      intro t htn
      refine wX12_wins_4 ?_
      simp only [ts_LM.kd hM, ts_LM.o0 hM, ts_LM.k0 hM, ts_LM.l0 hM, ts_LM.o1 hM, ts_LM.k1 hM, ts_LM.l1 hM, ts_LM.o2 hM, ts_LM.k2 hM, ts_LM.l2 hM, ts_LM.o3 hM, ts_LM.k3 hM, ts_LM.l3 hM, ts_LM.o5 hM, ts_LM.k5 hM, ts_LM.l5 hM, ts_LM.o13 hM, ts_LM.k13 hM, ts_LM.l13 hM, ts_LM.o14 hM, ts_LM.k14 hM, ts_LM.l14 hM, ts_LM.o15 hM, ts_LM.k15 hM, ts_LM.l15 hM, ts_LM.o16 hM, ts_LM.k16 hM, ts_LM.l16 hM, ts_LM.o18 hM, ts_LM.k18 hM, ts_LM.l18 hM, ts_LM.o19 hM, ts_LM.k19 hM, ts_LM.l19 hM, ts_LM.o20 hM, ts_LM.k20 hM, ts_LM.l20 hM, ts_LM.o21 hM, ts_LM.k21 hM, ts_LM.l21 hM, ts_LM.o22 hM, ts_LM.k22 hM, ts_LM.l22 hM, ts_LM.o23 hM, ts_LM.k23 hM, ts_LM.l23 hM]
      rw [show (2 : Int32).toNatClampNeg = 2 from rfl, r2, ts_le (by omega) (by omega)]
      refine ⟨trivial, by omega, trivial, ts_vin (i := 2) (by omega) (by omega), fun _ => ?_, fun h => absurd (by omega) h⟩
      refine c_sumOf (w := 1) hM.k13 hM.l13 hR hA (Or.inl rfl) ?_
      have hv := ts_vt_le hA s
      have e : ts_sm (fun t => if s / 2 ^ t % 2 = 1 then A 1 t else 0) t = ts_vt A s := by rw [show t = A 6 0 by omega]; rfl
      rw [e, if_pos rfl, ts_l2, pk_mul, ts_le (by omega) (by omega)]
      refine ⟨fun c => ?_, fun c => ?_⟩
      · rw [if_neg (by omega)] at q; exact q
      · rw [if_pos (by omega)] at q; exact q
    | succ n ih =>
      intro t htn
      refine wX12_wins_4 ?_
      have ht : t < A 6 0 := by omega
      have z := rT t ht
      simp only [ts_LM.kd hM, ts_LM.o0 hM, ts_LM.k0 hM, ts_LM.l0 hM, ts_LM.o1 hM, ts_LM.k1 hM, ts_LM.l1 hM, ts_LM.o2 hM, ts_LM.k2 hM, ts_LM.l2 hM, ts_LM.o3 hM, ts_LM.k3 hM, ts_LM.l3 hM, ts_LM.o5 hM, ts_LM.k5 hM, ts_LM.l5 hM, ts_LM.o13 hM, ts_LM.k13 hM, ts_LM.l13 hM, ts_LM.o14 hM, ts_LM.k14 hM, ts_LM.l14 hM, ts_LM.o15 hM, ts_LM.k15 hM, ts_LM.l15 hM, ts_LM.o16 hM, ts_LM.k16 hM, ts_LM.l16 hM, ts_LM.o18 hM, ts_LM.k18 hM, ts_LM.l18 hM, ts_LM.o19 hM, ts_LM.k19 hM, ts_LM.l19 hM, ts_LM.o20 hM, ts_LM.k20 hM, ts_LM.l20 hM, ts_LM.o21 hM, ts_LM.k21 hM, ts_LM.l21 hM, ts_LM.o22 hM, ts_LM.k22 hM, ts_LM.l22 hM, ts_LM.o23 hM, ts_LM.k23 hM, ts_LM.l23 hM]
      rw [show (2 : Int32).toNatClampNeg = 2 from rfl, r2, ts_le (by omega) (by omega)]
      refine ⟨trivial, by omega, trivial, ts_vin (i := 2) (by omega) (by omega), fun h => absurd h (by omega), fun _ => c_has hs (by omega) ?_⟩
      have y := ih (t + 1) (by omega)
      rw [ts_sm] at y
      simp only [ts_l4, ts_l6, ts_l1, ts_l0, pk_mul, nI_add]
      rw [ts_cl (by omega), z.2.1, ts_eq (by omega) (by omega), nI_add]
      refine ⟨fun c => ?_, fun c => ⟨ts_vin (by omega) (by omega), ?_⟩⟩
      · rw [if_neg (by omega)] at y; exact y
      · rw [if_pos (by omega)] at y; exact y
  exact L (A 6 0) 0 (by omega)
theorem c_ones {d : Nat} {g : ts_G} {x : Nat} {hi : ts_I} {hk : ts_K} {Q : Int32 → ts_I → ts_K → Prop} (hx : x < 128) (q : Q (nI (ts_pc x)) hi hk) : ts_E0 d mX12_ones [.int (nI x)] g hi hk (ts_qi Q) := by
  refine ts_E0.of plX12_ones rfl (Nat.le_of_ble_eq_true rfl) ?_
  refine wX12_ones_0 ?_
  have e7 : ts_sm (fun k => x / 2 ^ k % 2) 7 = ts_pc x := by
    simp [ts_sm, ts_pc]
  have L : ∀ n t, t + n = 7 → ts_J0 d mX12_ones (ts_qi Q) g 4 [(0, .int (nI x)), (1, .int (nI (ts_sm (fun k => x / 2 ^ k % 2) t))), (2, .int (nI t))] [] hi hk := by
    intro n
    induction n with
    | zero =>
      intro t htn
      refine wX12_ones_4 ?_
      rw [ts_l7, ts_le (by omega) (by omega)]
      refine ⟨fun _ => ?_, fun h => absurd (by omega) h⟩
      rw [show t = 7 by omega, e7]
      exact q
    | succ n ih =>
      intro t htn
      refine wX12_ones_4 ?_
      rw [ts_bitk (by omega) (by omega), ts_l7, ts_l1, ts_le (by omega) (by omega), nI_add, nI_add]
      exact ⟨fun h => absurd h (by omega), fun _ => ih (t + 1) (by omega)⟩
  exact L 7 0 (by omega)
