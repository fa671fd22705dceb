/-! chance, the model -/
theorem y_chance {d : Nat} {g : ts_G} {S : ts_S} {a1 a2 a3 a4 a5 : Int32} {hi : ts_I} {hk : ts_K} {Q : Int32 → ts_I → ts_K → Prop} (hM : ts_LM g) (hS : ts_SV S) (h : ts_MI S hi) (q : ts_QM (ts_s_chance S a1 a2 a3 a4 a5) hi hk Q) : ts_E0 (d + 25) mX12_chance [.ref 405, .int a1, .int a2, .int a3, .int a4, .int a5] g hi hk (ts_qi Q) := by
  refine ts_E0.of plX12_chance rfl (Nat.le_of_ble_eq_true rfl) ?_
  refine wX12_chance_0 ?_
  unfold ts_s_chance at q
  have hok := hS.1.1
  have hc := hok.1
  refine ⟨hM.kd, c_isTurnip hM h.1 hc (fun h1 => ⟨fun e => absurd e (by decide), fun _ => c_inq (fun h2 => ⟨fun e => absurd e (by decide), fun _ => c_inq (fun h3 => ⟨fun e => absurd e (by decide), fun _ => c_inq (fun h4 => ⟨fun e => absurd e (by decide), fun _ => c_inq (fun h5 => ⟨fun _ => ?_, fun e => absurd (by decide) e⟩) (fun n5 => ⟨fun e => absurd rfl e, fun _ => ?_⟩)⟩) (fun n4 => ⟨fun _ => ?_, fun e => absurd rfl e⟩)⟩) (fun n3 => ⟨fun _ => ?_, fun e => absurd rfl e⟩)⟩) (fun n2 => ⟨fun _ => ?_, fun e => absurd rfl e⟩)⟩) (fun n1 => ⟨fun _ => ?_, fun e => absurd rfl e⟩)⟩
  · rw [if_pos ⟨⟨h1, h2⟩, h3, h4, h5⟩] at q
    obtain ⟨t, ht, rfl⟩ := h1.get hc
    obtain ⟨r, _, hr, rfl⟩ := ts_rg (a := 0) (b := 9) (by omega) h2.1 h2.2 (by omega)
    obtain ⟨n, _, hn, rfl⟩ := ts_rg (a := 0) (b := 8) (by omega) h3.1 h3.2 (by omega)
    obtain ⟨c, _, hc10, rfl⟩ := ts_rg (a := 0) (b := 10) (by omega) h4.1 h4.2 (by omega)
    have hp := ts_p10 hn
    have hw := ts_wy_le (t := t) (r := r) hc10 n S.A
    have hy := ts_y1 hS (n := n) (by omega)
    have hp2 : 1 ≤ 2 ^ n ∧ 2 ^ n ≤ 256 := by
      have h2 : n = 0 ∨ n = 1 ∨ n = 2 ∨ n = 3 ∨ n = 4 ∨ n = 5 ∨ n = 6 ∨ n = 7 ∨ n = 8 := by omega
      rcases h2 with rfl | rfl | rfl | rfl | rfl | rfl | rfl | rfl | rfl <;> decide
    rw [ts_cl (n := t) (by omega), ts_cl (n := r) (by omega), ts_cl (n := n) (by omega), ts_cl (n := c) (by omega)] at q
    have hG : 0 < Nat.gcd (ts_wy t r c n S.A) (10 ^ n) := Nat.gcd_pos_of_pos_right _ (by omega)
    have hGb : Nat.gcd (ts_wy t r c n S.A) (10 ^ n) ≤ 10 ^ n := Nat.gcd_le_right _ (by omega)
    -- the greatest common divisor
    have E : ∀ y x hi', (∀ b, b ≠ 413 → b ≠ 417 → hi' b = hi b) → x ≤ 100000000 → y ≤ 100000000 → Nat.gcd x y = Nat.gcd (ts_wy t r c n S.A) (10 ^ n) → ts_J0 (d + 25) mX12_chance (ts_qi Q) g 219 [(5, .int a5), (6, .int (nI (ts_wy t r c n S.A))), (7, .int (nI (10 ^ n))), (8, .int (nI x)), (9, .int (nI y))] [] hi' hk := by
      intro y
      induction y using Nat.strongRecOn with
      | ind y ih =>
        intro x hi' hO hx hy9 hg
        refine wX12_chance_219 ?_
        have hM2 : ts_MI S hi' := h.tri hS (fun b b1 b2 _ _ => hO b b1 b2)
        have hfr : ∀ b, b ≤ 404 → hi' b = hi b := fun b hb => hO b (by omega) (by omega)
        by_cases y0 : y = 0
        · subst y0
          rw [Nat.gcd_zero_right] at hg
          rw [hg, ts_div (by omega) hG (by omega), ts_div (by omega) hG (by omega)]
          refine ⟨fun _ => ⟨fun e => ⟨fun e2 => ?_, ?_⟩, fun e => ⟨fun e2 => ?_, ?_⟩⟩, fun e => absurd (by decide) e⟩
          · rw [ts_l0, ts_eq (by omega) (by omega)] at e2
            omega
          · rw [if_neg e] at q
            exact q hi' hM2 hfr
          · rw [ts_l0, ts_eq (by omega) (by omega)] at e2
            omega
          · rw [if_pos (Decidable.not_not.mp e)] at q
            exact q hi' hM2 hfr
        · have ny : ¬ nI y = 0 := fun e => by
            rw [ts_l0, ts_eq (by omega) (by omega)] at e
            exact y0 e
          refine ⟨fun e => absurd e ny, fun _ => ⟨ny, ?_⟩⟩
          rw [ts_rem (by omega) (by omega) (by omega)]
          have hlt := Nat.mod_lt x (show 0 < y by omega)
          refine ih (x % y) hlt y hi' hO hy9 (by omega) ?_
          rw [← hg, Nat.gcd_comm y (x % y), ← Nat.gcd_rec, Nat.gcd_comm]
    -- a set of years with frost
    have L3 : ∀ m s hi', s + m = 2 ^ n → (∀ b, b ≠ 413 → b ≠ 417 → hi' b = hi b) → ts_J0 (d + 25) mX12_chance (ts_qi Q) g 83 [(0, .ref 405), (1, .int (nI t)), (2, .int (nI r)), (3, .int (nI n)), (4, .int (nI c)), (5, .int a5), (6, .int (nI (ts_sm (ts_fx t r c n S.A) s))), (7, .int (nI (10 ^ n))), (8, .int (nI s))] [] hi' hk := by
      intro m
      induction m with
      | zero =>
        intro s hi' hsm hO
        refine wX12_chance_83 ?_
        rw [ts_shl1 n (by omega), ts_le (by omega) (by omega), show s = 2 ^ n by omega, ts_fx_wy]
        exact ⟨fun _ => E _ _ hi' hO (by omega) (by omega) rfl, fun e => absurd (by omega) e⟩
      | succ m ih =>
        intro s hi' hsm hO
        refine wX12_chance_83 ?_
        rw [ts_shl1 n (by omega), ts_le (by omega) (by omega)]
        simp only [ts_LM.kd hM, ts_LM.o0 hM, ts_LM.k0 hM, ts_LM.l0 hM, ts_LM.o1 hM, ts_LM.k1 hM, ts_LM.l1 hM, ts_LM.o2 hM, ts_LM.k2 hM, ts_LM.l2 hM, ts_LM.o3 hM, ts_LM.k3 hM, ts_LM.l3 hM, ts_LM.o5 hM, ts_LM.k5 hM, ts_LM.l5 hM, ts_LM.o13 hM, ts_LM.k13 hM, ts_LM.l13 hM, ts_LM.o14 hM, ts_LM.k14 hM, ts_LM.l14 hM, ts_LM.o15 hM, ts_LM.k15 hM, ts_LM.l15 hM, ts_LM.o16 hM, ts_LM.k16 hM, ts_LM.l16 hM, ts_LM.o18 hM, ts_LM.k18 hM, ts_LM.l18 hM, ts_LM.o19 hM, ts_LM.k19 hM, ts_LM.l19 hM, ts_LM.o20 hM, ts_LM.k20 hM, ts_LM.l20 hM, ts_LM.o21 hM, ts_LM.k21 hM, ts_LM.l21 hM, ts_LM.o22 hM, ts_LM.k22 hM, ts_LM.l22 hM, ts_LM.o23 hM, ts_LM.k23 hM, ts_LM.l23 hM]
        have hR : ts_MR 411 0 S.A hi' := ts_MR.of hc h.1 (fun u _ => by rw [hO 411 (by omega) (by omega)])
        refine ⟨fun e => absurd e (by omega), fun _ => ⟨trivial, by omega, by omega, y_tries hM hS hR (fun hi2 hR2 ho2 => ?_)⟩⟩
        have L4 : ∀ m2 k (B : ts_A) f w hi3, k + m2 = n → f ≤ 15 → ts_ok B → B 6 0 = S.A 6 0 → B 6 1 = S.A 6 1 + k → ts_MR 413 0 (ts_sf B f) hi3 → (∀ b, b ≠ 413 → b ≠ 417 → hi3 b = hi b) → ts_ff m2 (s / 2 ^ k) B = ts_ff n s S.A → w * ts_fw c m2 (s / 2 ^ k) = ts_fw c n s → ts_J0 (d + 25) mX12_chance (ts_qi Q) g 110 [(0, .ref 405), (1, .int (nI t)), (2, .int (nI r)), (3, .int (nI n)), (4, .int (nI c)), (5, .int a5), (6, .int (nI (ts_sm (ts_fx t r c n S.A) s))), (7, .int (nI (10 ^ n))), (8, .int (nI s)), (9, .int (nI w)), (10, .int (nI k))] [] hi3 hk := by
          intro m2
          induction m2 with
          | zero =>
            intro k B f w hi3 hkm hf hB hB0 hB1 hR3 hO3 hff hfw
            refine wX12_chance_110 ?_
            have ht' : t < B 6 0 := by omega
            have z : hi3 413 (0 + (4 + 6 * t + 1)) = nI (B 1 t) := (hR3.2.2.2.2 t ht').2.1
            have hrk := (hB.2.2.2.2 t ht').2.1
            rw [Nat.zero_add] at z
            rw [ts_ff] at hff
            rw [ts_fw, Nat.mul_one] at hfw
            simp only [ts_LM.kd hM, ts_LM.o0 hM, ts_LM.k0 hM, ts_LM.l0 hM, ts_LM.o1 hM, ts_LM.k1 hM, ts_LM.l1 hM, ts_LM.o2 hM, ts_LM.k2 hM, ts_LM.l2 hM, ts_LM.o3 hM, ts_LM.k3 hM, ts_LM.l3 hM, ts_LM.o5 hM, ts_LM.k5 hM, ts_LM.l5 hM, ts_LM.o13 hM, ts_LM.k13 hM, ts_LM.l13 hM, ts_LM.o14 hM, ts_LM.k14 hM, ts_LM.l14 hM, ts_LM.o15 hM, ts_LM.k15 hM, ts_LM.l15 hM, ts_LM.o16 hM, ts_LM.k16 hM, ts_LM.l16 hM, ts_LM.o18 hM, ts_LM.k18 hM, ts_LM.l18 hM, ts_LM.o19 hM, ts_LM.k19 hM, ts_LM.l19 hM, ts_LM.o20 hM, ts_LM.k20 hM, ts_LM.l20 hM, ts_LM.o21 hM, ts_LM.k21 hM, ts_LM.l21 hM, ts_LM.o22 hM, ts_LM.k22 hM, ts_LM.l22 hM, ts_LM.o23 hM, ts_LM.k23 hM, ts_LM.l23 hM]
            simp only [ts_l4, ts_l6, ts_l1, ts_l0, pk_mul, nI_add]
            rw [ts_le (by omega) (by omega), ts_cl (by omega), z, ts_lt (by omega) (by omega)]
            have y := ih (s + 1) hi3 (by omega) hO3
            rw [ts_sm] at y
            unfold ts_fx at y
            rw [← hff, ← hfw] at y
            refine ⟨fun _ => ⟨trivial, by omega, trivial, ts_vin (by omega) (by omega), fun e => ?_, fun e => ?_⟩, fun e => absurd (by omega) e⟩
            · rw [if_neg (by omega)] at y
              exact y
            · rw [if_pos (by omega)] at y
              exact y
          | succ m2 ih2 =>
            intro k B f w hi3 hkm hf hB hB0 hB1 hR3 hO3 hff hfw
            refine wX12_chance_110 ?_
            simp only [ts_LM.kd hM, ts_LM.o0 hM, ts_LM.k0 hM, ts_LM.l0 hM, ts_LM.o1 hM, ts_LM.k1 hM, ts_LM.l1 hM, ts_LM.o2 hM, ts_LM.k2 hM, ts_LM.l2 hM, ts_LM.o3 hM, ts_LM.k3 hM, ts_LM.l3 hM, ts_LM.o5 hM, ts_LM.k5 hM, ts_LM.l5 hM, ts_LM.o13 hM, ts_LM.k13 hM, ts_LM.l13 hM, ts_LM.o14 hM, ts_LM.k14 hM, ts_LM.l14 hM, ts_LM.o15 hM, ts_LM.k15 hM, ts_LM.l15 hM, ts_LM.o16 hM, ts_LM.k16 hM, ts_LM.l16 hM, ts_LM.o18 hM, ts_LM.k18 hM, ts_LM.l18 hM, ts_LM.o19 hM, ts_LM.k19 hM, ts_LM.l19 hM, ts_LM.o20 hM, ts_LM.k20 hM, ts_LM.l20 hM, ts_LM.o21 hM, ts_LM.k21 hM, ts_LM.l21 hM, ts_LM.o22 hM, ts_LM.k22 hM, ts_LM.l22 hM, ts_LM.o23 hM, ts_LM.k23 hM, ts_LM.l23 hM]
            rw [ts_le (by omega) (by omega), show (1 : Int32).toNatClampNeg = 1 from rfl, ts_l10, ts_sub' (a := 10) (b := c) (by omega), pk_mul, pk_mul, show nI k + 1 = nI (k + 1) from by rw [ts_l1, nI_add]]
            rw [ts_ff] at hff
            rw [ts_fw] at hfw
            have es : s / 2 ^ k / 2 = s / 2 ^ (k + 1) := by rw [Nat.div_div_eq_div_mul, ← Nat.pow_succ]
            rw [es] at hff hfw
            have hB2 : ∀ fr, fr ≤ 1 → ts_ok (ts_ps B fr) := fun fr hfr => ts_ok_ps hB (by omega)
            -- the year passes
            have P : ∀ (bit v : Nat) hi4, bit ≤ 1 → v ≤ 15 → ts_fr (ts_sf B v) = bit → s / 2 ^ k % 2 = bit → hi4 = ts_up hi3 413 1 (nI v) → ts_E0 (d + 24) mX12_passes [.ref 405, .ref 413] g hi4 hk (ts_qv (fun hi20 hk21 => ts_J0 (d + 24 + 1) mX12_chance (ts_qi Q) g 110 [(0, .ref 405), (1, .int (nI t)), (2, .int (nI r)), (3, .int (nI n)), (4, .int (nI c)), (5, .int a5), (6, .int (nI (ts_sm (ts_fx t r c n S.A) s))), (7, .int (nI (10 ^ n))), (8, .int (nI s)), (9, .int (nI (w * (if bit = 1 then c else 10 - c)))), (10, .int (nI (k + 1)))] [] hi20 hk21)) := by
              intro bit v hi4 hbit hv hfr hb x4
              have hR4 := ts_MR.sf hR3 x4
              refine c_passes hM hM.k15 hM.l15 (by omega) hR4 (ts_ok_sf hB hv) (fun hi5 hR5 ho5 => ?_)
              rw [hfr, ts_sf_ps] at hR5
              refine ih2 (k + 1) (ts_ps B bit) v _ hi5 (by omega) hv (hB2 bit hbit) hB0 (by show B 6 1 + 1 = _; omega) hR5 (fun b b1 b2 => by rw [ho5 b b1 b2, x4]; funext u; rw [ts_up_a b1, hO3 b b1 b2]) (by rw [← hb]; exact hff) ?_
              rw [← hfw, hb, Nat.mul_assoc]
            have hs8 : s < 2147483648 := by omega
            refine ⟨fun e => absurd e (by omega), fun _ => c_has hs8 (by omega) ⟨fun e => ⟨trivial, by omega, c_has hs8 (by omega) ⟨fun e2 => ⟨trivial, ts_vin (i := 1) (by omega) (by omega), fun hi4 x4 => ?_⟩, fun e2 => absurd e e2⟩⟩, fun e => ⟨trivial, by omega, c_has hs8 (by omega) ⟨fun e2 => absurd e2 e, fun e2 => ⟨trivial, ts_vin (i := 1) (by omega) (by omega), fun hi4 x4 => ?_⟩⟩⟩⟩⟩
            · rw [ts_l0, ts_eq (by omega) (by omega)] at e
              have z := P 0 0 hi4 (by omega) (by omega) (ts_fr0 B) e x4
              rw [if_neg (by omega)] at z
              exact z
            · rw [ts_l0, ts_eq (by omega) (by omega)] at e
              have z := P 1 15 hi4 (by omega) (by omega) (ts_fr15 B) (by omega) x4
              rw [if_pos rfl] at z
              exact z
        exact L4 n 0 S.A (S.A 6 3) 1 hi2 (by omega) hok.2.2.2.1 hok rfl rfl (by rw [ts_sf_id]; exact hR2) (fun b b1 b2 => by rw [ho2 b b1, hO b b1 b2]) (by rw [Nat.pow_zero, Nat.div_one]) (by rw [Nat.pow_zero, Nat.div_one, Nat.one_mul])
    have L1 : ∀ m i, i + m = n → ts_J0 (d + 25) mX12_chance (ts_qi Q) g 61 [(0, .ref 405), (1, .int (nI t)), (2, .int (nI r)), (3, .int (nI n)), (4, .int (nI c)), (5, .int a5), (6, .int 0), (7, .int (nI (10 ^ i))), (8, .int (nI i))] [] hi hk := by
      intro m
      induction m with
      | zero =>
        intro i him
        refine wX12_chance_61 ?_
        rw [ts_le (by omega) (by omega), show i = n by omega]
        exact ⟨fun _ => L3 (2 ^ n) 0 hi (by omega) (fun _ _ _ => rfl), fun e => absurd (by omega) e⟩
      | succ m ih =>
        intro i him
        refine wX12_chance_61 ?_
        rw [ts_le (by omega) (by omega), ts_l10, pk_mul, ts_l1, nI_add, ← Nat.pow_succ]
        exact ⟨fun e => absurd e (by omega), fun _ => ih (i + 1) (by omega)⟩
    exact L1 n 0 (by omega)
  · rw [if_neg (fun x => n5 x.2.2.2)] at q
    exact q.st h
  · rw [if_neg (fun x => n4 x.2.2.1)] at q
    exact q.st h
  · rw [if_neg (fun x => n3 x.2.1)] at q
    exact q.st h
  · rw [if_neg (fun x => n2 x.1.2)] at q
    exact q.st h
  · rw [if_neg (fun x => n1 x.1.1)] at q
    exact q.st h
