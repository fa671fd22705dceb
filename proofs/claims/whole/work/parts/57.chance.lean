/-! chance -/
/-- the field with another frost -/
def ts_sf (A : ts_A) (v : Nat) : ts_A := fun c t => if c = 6 ∧ t = 3 then v else A c t
theorem ts_sf_ps (A : ts_A) (v fr : Nat) : ts_ps (ts_sf A v) fr = ts_sf (ts_ps A fr) v := by
  have e1 : ∀ t, ts_nr (ts_sf A v) fr t = ts_nr A fr t := fun _ => rfl
  have e2 : ∀ t, ts_ng (ts_sf A v) fr t = ts_ng A fr t := fun _ => rfl
  funext c t
  show (if c = 1 then ts_nr (ts_sf A v) fr t else if c = 2 then ts_ng (ts_sf A v) fr t else if c = 6 ∧ t = 1 then A 6 1 + 1 else ts_sf A v c t) = (if c = 6 ∧ t = 3 then v else if c = 1 then ts_nr A fr t else if c = 2 then ts_ng A fr t else if c = 6 ∧ t = 1 then A 6 1 + 1 else A c t)
  rw [e1, e2]
  by_cases h1 : c = 1
  · rw [if_pos h1, if_neg (by omega), if_pos h1]
  · rw [if_neg h1]
    by_cases h2 : c = 2
    · rw [if_pos h2, if_neg (by omega), if_neg h1, if_pos h2]
    · rw [if_neg h2]
      by_cases h3 : c = 6 ∧ t = 1
      · rw [if_pos h3, if_neg (by omega), if_neg h1, if_neg h2, if_pos h3]
      · rw [if_neg h3]
        by_cases h4 : c = 6 ∧ t = 3
        · rw [if_pos h4]
          show (if c = 6 ∧ t = 3 then v else A c t) = v
          rw [if_pos h4]
        · rw [if_neg h4, if_neg h1, if_neg h2, if_neg h3]
          show (if c = 6 ∧ t = 3 then v else A c t) = A c t
          rw [if_neg h4]
theorem ts_sf_sf (A : ts_A) (v w : Nat) : ts_sf (ts_sf A v) w = ts_sf A w := by
  funext c t
  show (if c = 6 ∧ t = 3 then w else if c = 6 ∧ t = 3 then v else A c t) = if c = 6 ∧ t = 3 then w else A c t
  by_cases h : c = 6 ∧ t = 3
  · rw [if_pos h, if_pos h]
  · rw [if_neg h, if_neg h, if_neg h]
theorem ts_sf_id (A : ts_A) : ts_sf A (A 6 3) = A := by
  funext c t
  show (if c = 6 ∧ t = 3 then A 6 3 else A c t) = A c t
  by_cases h : c = 6 ∧ t = 3
  · rw [if_pos h, h.1, h.2]
  · rw [if_neg h]
theorem ts_ok_sf {A : ts_A} {v : Nat} (hA : ts_ok A) (hv : v ≤ 15) : ts_ok (ts_sf A v) := ⟨hA.1, hA.2.1, hA.2.2.1, hv, hA.2.2.2.2⟩
theorem ts_fr15 (A : ts_A) : ts_fr (ts_sf A 15) = 1 := by
  show 15 / 2 ^ (A 6 1 % 4) % 2 = 1
  have h : A 6 1 % 4 = 0 ∨ A 6 1 % 4 = 1 ∨ A 6 1 % 4 = 2 ∨ A 6 1 % 4 = 3 := by omega
  rcases h with h | h | h | h <;> rw [h]
theorem ts_fr0 (A : ts_A) : ts_fr (ts_sf A 0) = 0 := by
  show 0 / 2 ^ (A 6 1 % 4) % 2 = 0
  rw [Nat.zero_div]
theorem ts_MR.sf {A : ts_A} {v w : Nat} {hi hi' : ts_I} (h : ts_MR 413 0 (ts_sf A w) hi) (e : hi' = ts_up hi 413 1 (nI v)) : ts_MR 413 0 (ts_sf A v) hi' := by
  obtain ⟨r0, r1, r2, r3, rT⟩ := h
  subst e
  refine ⟨by rw [ts_up_s (by omega)]; exact r0, by rw [ts_up_eq]; rfl, by rw [ts_up_s (by omega)]; exact r2, by rw [ts_up_s (by omega)]; exact r3, fun u hu => ?_⟩
  have z := rT u hu
  rw [ts_up_s (by omega), ts_up_s (by omega), ts_up_s (by omega), ts_up_s (by omega), ts_up_s (by omega), ts_up_s (by omega)]
  exact z
/-- the field behind n years, frost as the bits of s say; in how many ways that is so -/
def ts_ff : Nat → Nat → ts_A → ts_A
  | 0, _, A => A
  | n + 1, s, A => ts_ff n (s / 2) (ts_ps A (s % 2))
def ts_fw (c : Nat) : Nat → Nat → Nat
  | 0, _ => 1
  | n + 1, s => (if s % 2 = 1 then c else 10 - c) * ts_fw c n (s / 2)
def ts_fx (t r c n : Nat) (A : ts_A) (s : Nat) : Nat := if r ≤ ts_ff n s A 1 t then ts_fw c n s else 0
theorem ts_sm2 (f : Nat → Nat) (m : Nat) : ts_sm f (2 * m) = ts_sm (fun s => f (2 * s) + f (2 * s + 1)) m := by
  induction m with
  | zero => rfl
  | succ m ih =>
    rw [show 2 * (m + 1) = 2 * m + 1 + 1 by omega, ts_sm, ts_sm, ts_sm, ih]
    omega
theorem ts_sm_mul (a b : Nat) (f h : Nat → Nat) (m : Nat) : ts_sm (fun s => a * f s + b * h s) m = a * ts_sm f m + b * ts_sm h m := by
  induction m with
  | zero => rfl
  | succ m ih =>
    rw [ts_sm, ts_sm, ts_sm, ih, Nat.mul_add, Nat.mul_add]
    omega
theorem ts_fx_wy {t r c : Nat} : ∀ n (A : ts_A), ts_sm (ts_fx t r c n A) (2 ^ n) = ts_wy t r c n A := by
  intro n
  induction n with
  | zero =>
    intro A
    show 0 + ts_fx t r c 0 A 0 = ts_wy t r c 0 A
    rw [Nat.zero_add]
    rfl
  | succ n ih =>
    intro A
    rw [Nat.pow_succ, Nat.mul_comm (2 ^ n) 2, ts_sm2, ts_wy, ← ih, ← ih]
    refine Eq.trans (ts_sm_congr (fun s _ => ?_)) ((ts_sm_mul (10 - c) c (ts_fx t r c n (ts_ps A 0)) (ts_fx t r c n (ts_ps A 1)) (2 ^ n)).trans (Nat.add_comm _ _))
    have e0 : ts_fx t r c (n + 1) A (2 * s) = (10 - c) * ts_fx t r c n (ts_ps A 0) s := by
      unfold ts_fx
      rw [ts_ff, ts_fw, show 2 * s % 2 = 0 by omega, show 2 * s / 2 = s by omega, if_neg (show ¬ 0 = 1 by omega)]
      split
      · rfl
      · rfl
    have e1 : ts_fx t r c (n + 1) A (2 * s + 1) = c * ts_fx t r c n (ts_ps A 1) s := by
      unfold ts_fx
      rw [ts_ff, ts_fw, show (2 * s + 1) % 2 = 1 by omega, show (2 * s + 1) / 2 = s by omega, if_pos rfl]
      split
      · rfl
      · rfl
    rw [e0, e1]
theorem ts_wy_le {t r c : Nat} (hc : c ≤ 10) : ∀ n (A : ts_A), ts_wy t r c n A ≤ 10 ^ n := by
  intro n
  induction n with
  | zero =>
    intro A
    rw [ts_wy]
    split
    · exact Nat.le_refl _
    · exact Nat.zero_le _
  | succ n ih =>
    intro A
    rw [ts_wy, Nat.pow_succ]
    have h1 := Nat.mul_le_mul_left c (ih (ts_ps A 1))
    have h2 := Nat.mul_le_mul_left (10 - c) (ih (ts_ps A 0))
    have h3 : c * 10 ^ n + (10 - c) * 10 ^ n = 10 ^ n * 10 := by
      rw [← Nat.add_mul, show c + (10 - c) = 10 by omega, Nat.mul_comm]
    omega
theorem ts_p10 {n : Nat} (h : n ≤ 8) : 1 ≤ 10 ^ n ∧ 10 ^ n ≤ 100000000 := by
  have h2 : n = 0 ∨ n = 1 ∨ n = 2 ∨ n = 3 ∨ n = 4 ∨ n = 5 ∨ n = 6 ∨ n = 7 ∨ n = 8 := by omega
  rcases h2 with rfl | rfl | rfl | rfl | rfl | rfl | rfl | rfl | rfl <;> decide
/-- how far the class has cut: the factor s is gone, 2^x 5^y stands below -/
def ts_ct5 (n i a0 a b : Nat) : Prop := ∃ s x y, a0 = a * s ∧ 10 ^ n = b * s ∧ b = 2 ^ x * 5 ^ y ∧ n ≤ x + i ∧ n ≤ y + i ∧ (a % 2 ≠ 0 ∨ x + i = n) ∧ (a % 5 ≠ 0 ∨ y + i = n)
theorem ts_ct5_0 (n a0 : Nat) : ts_ct5 n 0 a0 a0 (10 ^ n) := ⟨1, n, n, (Nat.mul_one _).symm, (Nat.mul_one _).symm, by rw [← Nat.mul_pow], by omega, by omega, Or.inr rfl, Or.inr rfl⟩
/-- one round of cutting -/
def ts_c2 (p : Nat × Nat) : Nat × Nat := if p.1 % 2 = 0 then (p.1 / 2, p.2 / 2) else p
def ts_c5 (p : Nat × Nat) : Nat × Nat := if p.1 % 5 = 0 then (p.1 / 5, p.2 / 5) else p
theorem ts_ct5_s {n i a0 a b : Nat} (hi : i < n) (h : ts_ct5 n i a0 a b) : ts_ct5 n (i + 1) a0 (ts_c5 (ts_c2 (a, b))).1 (ts_c5 (ts_c2 (a, b))).2 := by
  obtain ⟨s, x, y, h1, h2, h3, h4, h5, h6, h7⟩ := h
  -- by two
  have S2 : ∃ s x', a0 = (ts_c2 (a, b)).1 * s ∧ 10 ^ n = (ts_c2 (a, b)).2 * s ∧ (ts_c2 (a, b)).2 = 2 ^ x' * 5 ^ y ∧ n ≤ x' + (i + 1) ∧ ((ts_c2 (a, b)).1 % 2 ≠ 0 ∨ x' + (i + 1) = n) ∧ ((ts_c2 (a, b)).1 % 5 ≠ 0 ∨ y + i = n) := by
    unfold ts_c2
    by_cases c : a % 2 = 0
    · have hx : x + i = n := by omega
      obtain ⟨w, rfl⟩ : ∃ w, x = w + 1 := ⟨x - 1, by omega⟩
      have hb : b = 2 * (2 ^ w * 5 ^ y) := by rw [h3, Nat.pow_succ, Nat.mul_comm (2 ^ w) 2, Nat.mul_assoc]
      have hb2 : b / 2 = 2 ^ w * 5 ^ y := by omega
      have ha2 : a = 2 * (a / 2) := by omega
      rw [if_pos c]
      refine ⟨2 * s, w, ?_, ?_, hb2, by omega, Or.inr (by omega), ?_⟩
      · show a0 = a / 2 * (2 * s)
        rw [← Nat.mul_assoc, Nat.mul_comm (a / 2) 2, ← ha2]
        exact h1
      · show 10 ^ n = b / 2 * (2 * s)
        rw [← Nat.mul_assoc, Nat.mul_comm (b / 2) 2, hb2, ← hb]
        exact h2
      · rcases h7 with z | z
        · left
          show a / 2 % 5 ≠ 0
          omega
        · exact Or.inr z
    · rw [if_neg c]
      exact ⟨s, x, h1, h2, h3, by omega, Or.inl c, h7⟩
  obtain ⟨a1, b1, hp⟩ : ∃ a1 b1, ts_c2 (a, b) = (a1, b1) := ⟨_, _, rfl⟩
  rw [hp] at S2 ⊢
  obtain ⟨s', x', k1, k2, k3, k4, k5, k6⟩ := S2
  replace k1 : a0 = a1 * s' := k1
  replace k2 : 10 ^ n = b1 * s' := k2
  replace k3 : b1 = 2 ^ x' * 5 ^ y := k3
  replace k5 : a1 % 2 ≠ 0 ∨ x' + (i + 1) = n := k5
  replace k6 : a1 % 5 ≠ 0 ∨ y + i = n := k6
  unfold ts_c5
  by_cases c : a1 % 5 = 0
  · have hy : y + i = n := by omega
    obtain ⟨w, rfl⟩ : ∃ w, y = w + 1 := ⟨y - 1, by omega⟩
    have hb : b1 = 5 * (2 ^ x' * 5 ^ w) := by rw [k3, Nat.pow_succ, ← Nat.mul_assoc, Nat.mul_comm (2 ^ x' * 5 ^ w) 5]
    have hb2 : b1 / 5 = 2 ^ x' * 5 ^ w := by omega
    have ha2 : a1 = 5 * (a1 / 5) := by omega
    rw [if_pos c]
    refine ⟨5 * s', x', w, ?_, ?_, hb2, k4, by omega, ?_, Or.inr (by omega)⟩
    · show a0 = a1 / 5 * (5 * s')
      rw [← Nat.mul_assoc, Nat.mul_comm (a1 / 5) 5, ← ha2]
      exact k1
    · show 10 ^ n = b1 / 5 * (5 * s')
      rw [← Nat.mul_assoc, Nat.mul_comm (b1 / 5) 5, hb2, ← hb]
      exact k2
    · rcases k5 with z | z
      · left
        show a1 / 5 % 2 ≠ 0
        omega
      · exact Or.inr z
  · rw [if_neg c]
    exact ⟨s', x', y, k1, k2, k3, k4, by omega, k5, Or.inl c⟩
theorem ts_cop2 {a : Nat} (h : a % 2 ≠ 0) : Nat.Coprime a 2 := by
  show Nat.gcd a 2 = 1
  rw [Nat.gcd_comm, Nat.gcd_rec, show a % 2 = 1 by omega, Nat.gcd_one_left]
theorem ts_cop5 {a : Nat} (h : a % 5 ≠ 0) : Nat.Coprime a 5 := by
  show Nat.gcd a 5 = 1
  rw [Nat.gcd_comm, Nat.gcd_rec]
  have h2 : a % 5 = 1 ∨ a % 5 = 2 ∨ a % 5 = 3 ∨ a % 5 = 4 := by omega
  rcases h2 with e | e | e | e <;> rw [e] <;> decide
theorem ts_ct5_e {n a0 a b : Nat} (h : ts_ct5 n n a0 a b) : a = a0 / Nat.gcd a0 (10 ^ n) ∧ b = 10 ^ n / Nat.gcd a0 (10 ^ n) := by
  obtain ⟨s, x, y, h1, h2, h3, h4, h5, h6, h7⟩ := h
  have hs : 0 < s := by
    rcases Nat.eq_zero_or_pos s with e | e
    · rw [e, Nat.mul_zero] at h2
      have := Nat.pow_pos (n := n) (show 0 < 10 by omega)
      omega
    · exact e
  have c2 : Nat.Coprime a (2 ^ x) := by
    rcases h6 with z | z
    · exact Nat.Coprime.pow_right _ (ts_cop2 z)
    · have : x = 0 := by omega
      rw [this]
      exact Nat.coprime_one_right a
  have c5 : Nat.Coprime a (5 ^ y) := by
    rcases h7 with z | z
    · exact Nat.Coprime.pow_right _ (ts_cop5 z)
    · have : y = 0 := by omega
      rw [this]
      exact Nat.coprime_one_right a
  have cb : Nat.gcd a b = 1 := by
    rw [h3]
    exact Nat.Coprime.mul_right c2 c5
  have hg : Nat.gcd a0 (10 ^ n) = s := by
    rw [h1, h2, Nat.gcd_mul_right, cb, Nat.one_mul]
  rw [hg, h1, h2]
  exact ⟨(Nat.mul_div_cancel a hs).symm, (Nat.mul_div_cancel b hs).symm⟩
def ts_s_chance (S : ts_S) (a1 a2 a3 a4 a5 : Int32) : Int32 × ts_S :=
  (if (ts_T S.A a1 ∧ (0 ≤ a2 ∧ a2 ≤ 9)) ∧ (0 ≤ a3 ∧ a3 ≤ 8) ∧ (0 ≤ a4 ∧ a4 ≤ 10) ∧ (0 ≤ a5 ∧ a5 ≤ 1) then
    (if a5 = 0 then nI (ts_wy a1.toNatClampNeg a2.toNatClampNeg a4.toNatClampNeg a3.toNatClampNeg S.A / Nat.gcd (ts_wy a1.toNatClampNeg a2.toNatClampNeg a4.toNatClampNeg a3.toNatClampNeg S.A) (10 ^ a3.toNatClampNeg)) else nI (10 ^ a3.toNatClampNeg / Nat.gcd (ts_wy a1.toNatClampNeg a2.toNatClampNeg a4.toNatClampNeg a3.toNatClampNeg S.A) (10 ^ a3.toNatClampNeg)))
  else -1000001, S)
theorem x_chance {d : Nat} {g : ts_G} {S : ts_S} {a1 a2 a3 a4 a5 : Int32} {hi : ts_I} {hk : ts_K} {Q : Int32 → ts_I → ts_K → Prop} (hX : ts_LX g) (hS : ts_SV S) (h : ts_XI S hi hk) (q : ts_QX (ts_s_chance S a1 a2 a3 a4 a5) hi Q) : ts_E0 (d + 25) mX11_chance [.ref 1, .int a1, .int a2, .int a3, .int a4, .int a5] g hi hk (ts_qi Q) := by
  refine ts_E0.of plX11_chance rfl (Nat.le_of_ble_eq_true rfl) ?_
  refine wX11_chance_0 ?_
  unfold ts_s_chance at q
  refine ⟨hX.s0, c_XisTurnip hX h.1 (fun h1 => ⟨fun e => absurd e (by decide), fun _ => c_outside (fun h2 => ⟨fun e => absurd rfl e, fun _ => c_outside (fun h3 => ⟨fun e => absurd rfl e, fun _ => c_outside (fun h4 => ⟨fun e => absurd rfl e, fun _ => c_outside (fun h5 => ⟨fun _ => ?_, fun e => absurd rfl e⟩) (fun n5 => ⟨fun e => absurd e (by decide), fun _ => ?_⟩)⟩) (fun n4 => ⟨fun _ => ?_, fun e => absurd (by decide) e⟩)⟩) (fun n3 => ⟨fun _ => ?_, fun e => absurd (by decide) e⟩)⟩) (fun n2 => ⟨fun _ => ?_, fun e => absurd (by decide) e⟩)⟩) (fun n1 => ⟨fun _ => ?_, fun e => absurd rfl e⟩)⟩
  · rw [if_pos ⟨⟨h1, h2⟩, h3, h4, h5⟩] at q
    have hok := hS.1.1
    obtain ⟨t, ht, rfl⟩ := h1.get hok.1
    obtain ⟨r, _, hr, rfl⟩ := ts_rg (a := 0) (b := 9) (by omega) h2.1 h2.2 (by omega)
    obtain ⟨n, _, hn, rfl⟩ := ts_rg (a := 0) (b := 8) (by omega) h3.1 h3.2 (by omega)
    obtain ⟨c, _, hc10, rfl⟩ := ts_rg (a := 0) (b := 10) (by omega) h4.1 h4.2 (by omega)
    have hc := hok.1
    have hp := ts_p10 hn
    have hw := ts_wy_le (t := t) (r := r) hc10 n S.A
    simp only [ts_LX.s0 hX, ts_LX.s1 hX, ts_LX.s2 hX, ts_LX.s3 hX, ts_LX.s4 hX, ts_LX.s5 hX, ts_LX.s6 hX, ts_LX.s7 hX, ts_LX.s8 hX, ts_LX.s9 hX, ts_LX.s10 hX, ts_LX.s11 hX, ts_LX.s12 hX, ts_LX.s13 hX, ts_LX.s14 hX, ts_LX.s15 hX, ts_LX.s16 hX, ts_LX.s17 hX, ts_LX.s18 hX, ts_LX.s19 hX, ts_LX.s20 hX, ts_LX.s21 hX, ts_LX.s22 hX, ts_LX.s23 hX, ts_LX.s24 hX, ts_LX.s25 hX, ts_LX.s26 hX, ts_LX.s27 hX, ts_LX.s28 hX, ts_LX.s29 hX, ts_LX.s30 hX, ts_LX.s31 hX, ts_LX.s32 hX, ts_LX.s33 hX, ts_LX.s34 hX, ts_LX.s35 hX, ts_LX.s36 hX, ts_LX.s37 hX, ts_LX.s38 hX]
    rw [ts_cl (n := t) (by omega), ts_cl (n := r) (by omega), ts_cl (n := n) (by omega), ts_cl (n := c) (by omega)] at q
    refine ⟨by omega, trivial, c_waysToRise hX hr hc10 hn hok (ts_y1 hS (by omega)) ht h.1 (h.fk (j := 26) (by omega)) h.tk (fun hi2 hk2 ho hok2 hTK => ?_)⟩
    have hX2 : ts_XI S hi2 hk2 := h.of (fun b hb => ho b (by omega)) (fun b hb => hok2 b (by omega)) hTK
    have hf : ∀ b, 404 < b → hi2 b = hi b := fun b hb => ho b (by omega)
    -- the cutting
    have L2 : ∀ m i a b, i + m = n → a ≤ 100000000 → b ≤ 100000000 → ts_ct5 n i (ts_wy t r c n S.A) a b → ts_J0 (d + 25) mX11_chance (ts_qi Q) g 94 [(3, .int (nI n)), (5, .int a5), (6, .int (nI a)), (7, .int (nI b)), (8, .int (nI i))] [] hi2 hk2 := by
      intro m
      induction m with
      | zero =>
        intro i a b him ha hb hct
        refine wX11_chance_94 ?_
        rw [ts_le (by omega) (by omega)]
        rw [show i = n by omega] at hct
        obtain ⟨y1, y2⟩ := ts_ct5_e hct
        rw [← y1, ← y2] at q
        refine ⟨fun _ => ⟨fun e => ?_, fun e => ?_⟩, fun e => absurd (by omega) e⟩
        · rw [if_neg e] at q
          exact q hi2 hk2 hX2 hf
        · rw [if_pos (Decidable.not_not.mp e)] at q
          exact q hi2 hk2 hX2 hf
      | succ m ih =>
        intro i a b him ha hb hct
        have hst := ts_ct5_s (by omega) hct
        refine wX11_chance_94 ?_
        simp only [ts_l2, ts_l5, ts_l0]
        rw [ts_le (by omega) (by omega), ts_rem (a := a) (n := 2) (by omega) (by omega) (by omega), ts_rem (a := a) (n := 5) (by omega) (by omega) (by omega), ts_div (a := a) (d := 2) (by omega) (by omega) (by omega), ts_div (a := b) (d := 2) (by omega) (by omega) (by omega), ts_rem (a := a / 2) (n := 5) (by omega) (by omega) (by omega), ts_div (a := a) (d := 5) (by omega) (by omega) (by omega), ts_div (a := b) (d := 5) (by omega) (by omega) (by omega), ts_div (a := a / 2) (d := 5) (by omega) (by omega) (by omega), ts_div (a := b / 2) (d := 5) (by omega) (by omega) (by omega), ts_ne (by omega) (by omega), ts_ne (by omega) (by omega), ts_ne (by omega) (by omega), ts_l1, nI_add]
        unfold ts_c2 ts_c5 at hst
        refine ⟨fun e => absurd e (by omega), fun _ => ⟨fun e => ⟨fun e2 => ?_, fun e2 => ?_⟩, fun e => ⟨fun e2 => ?_, fun e2 => ?_⟩⟩⟩
        · rw [if_neg e] at hst
          rw [if_neg e2] at hst
          exact ih (i + 1) _ _ (by omega) (by omega) (by omega) hst
        · rw [if_neg e] at hst
          rw [if_pos (Decidable.not_not.mp e2)] at hst
          exact ih (i + 1) _ _ (by omega) (by omega) (by omega) hst
        · rw [if_pos (Decidable.not_not.mp e)] at hst
          rw [if_neg e2] at hst
          exact ih (i + 1) _ _ (by omega) (by omega) (by omega) hst
        · rw [if_pos (Decidable.not_not.mp e)] at hst
          rw [if_pos (Decidable.not_not.mp e2)] at hst
          exact ih (i + 1) _ _ (by omega) (by omega) (by omega) hst
    have L1 : ∀ m i, i + m = n → ts_J0 (d + 25) mX11_chance (ts_qi Q) g 72 [(3, .int (nI n)), (5, .int a5), (6, .int (nI (ts_wy t r c n S.A))), (7, .int (nI (10 ^ i))), (8, .int (nI i))] [] hi2 hk2 := by
      intro m
      induction m with
      | zero =>
        intro i him
        refine wX11_chance_72 ?_
        rw [ts_le (by omega) (by omega), show i = n by omega]
        exact ⟨fun _ => L2 n 0 _ _ (by omega) (by omega) (by omega) (ts_ct5_0 n _), fun e => absurd (by omega) e⟩
      | succ m ih =>
        intro i him
        refine wX11_chance_72 ?_
        rw [ts_le (by omega) (by omega), ts_l10, pk_mul, ts_l1, nI_add, ← Nat.pow_succ]
        exact ⟨fun e => absurd e (by omega), fun _ => ih (i + 1) (by omega)⟩
    exact L1 n 0 (by omega)
  · rw [if_neg (fun x => n5 x.2.2.2)] at q
    exact q.st h
  · rw [if_neg (fun x => n4 x.2.2.1)] at q
    exact q.st h
  · rw [if_neg (fun x => n3 x.2.1)] at q
    exact q.st h
  · rw [if_neg (fun x => n2 x.1.2)] at q
    exact q.st h
  · rw [if_neg (fun x => n1 x.1.1)] at q
    exact q.st h
