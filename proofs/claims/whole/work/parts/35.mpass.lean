/-! a year of the model -/
theorem ts_nNeq {m : Nat} (hm : m < 1000) : (ts_nN m = (-1000000 : Int32)) ↔ m = 7 := by
  unfold ts_nN
  by_cases h : m = 7
  · rw [if_pos h]; simp [h]
  · rw [if_neg h]
    exact ⟨fun c => absurd c (ts_nIne hm), fun c => absurd c h⟩
theorem c_gain {d : Nat} {g : ts_G} {m t : Nat} {A : ts_A} {hi : ts_I} {hk : ts_K} {Q : Int32 → ts_I → ts_K → Prop} (hm : g.2.1 m = 100) (hl : g.2.2.1 m = 46) (hR : ts_MR m 0 A hi) (hA : ts_ok A) (ht : t < A 6 0)
    (q : Q (nI (ts_ga A (ts_fr A) t)) hi hk) : ts_E0 (d + 4) mX12_gain [.ref m, .int (nI t)] g hi hk (ts_qi Q) := by
  refine ts_E0.of plX12_gain rfl (Nat.le_of_ble_eq_true rfl) ?_
  refine wX12_gain_0 ?_
  have z := hR.2.2.2.2 t ht
  simp only [Nat.zero_add] at z
  obtain ⟨a0, a1, a2, a3, aT⟩ := id hA
  have hmate := (aT t ht).2.2.2.2.1
  have hlean := (aT t ht).2.2.2.1
  have hb := ts_hb_le A t
  have h1 : ts_dn A t = 0 ∨ ts_dn A t = 1 := by omega
  have h2 : ts_un A t = 0 ∨ ts_un A t = 1 := by omega
  have e5 : hi m ((4 : Int32) + 6 * nI t + 5).toNatClampNeg = ts_nN (A 4 t) := by
    rw [ts_l4, ts_l6, ts_l5, pk_mul, nI_add, nI_add, ts_cl (by omega), z.2.2.2.2.2]
  have v5 : vp_in ((4 : Int32) + 6 * nI t + 5) 46 := by
    rw [ts_l4, ts_l6, ts_l5, pk_mul, nI_add, nI_add]; exact ts_vin (by omega) (by omega)
  have e4 : hi m ((4 : Int32) + 6 * nI t + 4).toNatClampNeg = nI (A 3 t) := by
    rw [ts_l4, ts_l6, pk_mul, nI_add, nI_add, ts_cl (by omega), z.2.2.2.2.1]
  have v4 : vp_in ((4 : Int32) + 6 * nI t + 4) 46 := by
    rw [ts_l4, ts_l6, pk_mul, nI_add, nI_add]; exact ts_vin (by omega) (by omega)
  have e3 : hi m ((4 : Int32) + 6 * nI t + 3).toNatClampNeg = nI (A 5 t) := by
    rw [ts_l4, ts_l6, ts_l3, pk_mul, nI_add, nI_add, ts_cl (by omega), z.2.2.2.1]
  have v3 : vp_in ((4 : Int32) + 6 * nI t + 3) 46 := by
    rw [ts_l4, ts_l6, ts_l3, pk_mul, nI_add, nI_add]; exact ts_vin (by omega) (by omega)
  have b1 := ts_bg_le (A := A) a2 (ts_fr A) t
  have b2 := ts_bg_le (A := A) a2 (ts_fr A) (A 4 t)
  -- the end: leaning
  have lean0 : ∀ v : Nat, Q (nI (v + ts_lb A t)) hi hk → ((nI (A 3 t) ≠ 1) → ts_E0 (d + 3) mX12_isHigher [.ref m, .int (nI t), .int (nI (A 5 t) - 1)] g hi hk (ts_qi (fun v12 hi10 hk11 => ((v12 = 0) → Q (nI v + 0) hi10 hk11) ∧ (¬ (v12 = 0) → Q (nI v + 1) hi10 hk11)))) ∧ (¬ (nI (A 3 t) ≠ 1) → ts_E0 (d + 3) mX12_isHigher [.ref m, .int (nI t), .int (nI (A 5 t) + 1)] g hi hk (ts_qi (fun v17 hi15 hk16 => ((v17 = 0) → Q (nI v + 0) hi15 hk16) ∧ (¬ (v17 = 0) → Q (nI v + 1) hi15 hk16)))) := by
    intro v qv
    unfold ts_lb at qv
    refine ⟨fun c => c_isDn hm hl hR hA ht ?_, fun c => c_isUn hm hl hR hA ht ?_⟩
    · rw [ts_l1, Ne, ts_eq (by omega) (by omega)] at c
      rw [if_pos (by omega)] at qv
      rcases h1 with h1 | h1 <;> rw [h1] at qv ⊢
      · exact ⟨fun _ => by rw [ts_l0, nI_add]; exact qv, fun h => absurd rfl h⟩
      · exact ⟨fun h => absurd h (by decide), fun _ => by rw [ts_l1, nI_add]; exact qv⟩
    · rw [ts_l1, Ne, ts_eq (by omega) (by omega)] at c
      rw [if_neg (by omega)] at qv
      rcases h2 with h2 | h2 <;> rw [h2] at qv ⊢
      · exact ⟨fun _ => by rw [ts_l0, nI_add]; exact qv, fun h => absurd rfl h⟩
      · exact ⟨fun h => absurd h (by decide), fun _ => by rw [ts_l1, nI_add]; exact qv⟩
  unfold ts_ga ts_mg at q
  refine c_gainOf hm hl hR hA ht ?_
  rw [hm, hl, e5, e4, e3, ts_nNeq (by omega)]
  refine ⟨rfl, v5, fun c => ?_, fun c => ?_⟩
  · rw [if_pos c] at q
    exact ⟨v4, fun k => ⟨v3, (lean0 _ q).1 k⟩, fun k => ⟨v3, (lean0 _ q).2 k⟩⟩
  · rw [if_neg c] at q
    have e7 : ts_nN (A 4 t) = nI (A 4 t) := by unfold ts_nN; rw [if_neg c]
    rw [e7]
    refine c_gainOf hm hl hR hA (by omega) ?_
    rw [e4, e3, nI_add, ts_l2, ts_div (by omega) (by omega) (by omega)]
    exact ⟨v4, fun k => ⟨v3, (lean0 _ q).1 k⟩, fun k => ⟨v3, (lean0 _ q).2 k⟩⟩
theorem c_grows {d : Nat} {g : ts_G} {m t r w by0 : Nat} {hi : ts_I} {hk : ts_K} {Q : ts_I → ts_K → Prop} (hm : g.2.1 m = 100) (hl : g.2.2.1 m = 46) (ht : t < 7) (hr : hi m (4 + 6 * t + 1) = nI r) (hw : hi m (4 + 6 * t + 2) = nI w) (hr9 : r ≤ 9) (hw9 : w + by0 < 1000)
    (q : ∀ hi', hi' m (4 + 6 * t + 1) = nI (r + ts_st (w + by0) r) → hi' m (4 + 6 * t + 2) = nI (if r + ts_st (w + by0) r = 9 then min (w + by0 - 10 * ts_st (w + by0) r) 9 else w + by0 - 10 * ts_st (w + by0) r) → (∀ b s, ¬ (b = m ∧ (s = 4 + 6 * t + 1 ∨ s = 4 + 6 * t + 2)) → hi' b s = hi b s) → Q hi' hk) : ts_E0 d mX12_grows [.ref m, .int (nI t), .int (nI by0)] g hi hk (ts_qv Q) := by
  refine ts_E0.of plX12_grows rfl (Nat.le_of_ble_eq_true rfl) ?_
  refine wX12_grows_0 ?_
  rw [hm, hl, ts_l4, ts_l6, ts_l2, pk_mul, nI_add, nI_add, ts_cl (by omega), hw, nI_add]
  refine ⟨rfl, ts_vin (by omega) (by omega), fun hi3 e3 => ?_⟩
  have L : ∀ n x y hi', y + n = 9 → x < 1000 → hi' m (4 + 6 * t + 1) = nI y → hi' m (4 + 6 * t + 2) = nI x → y + ts_st x y = r + ts_st (w + by0) r → x - 10 * ts_st x y = w + by0 - 10 * ts_st (w + by0) r → (∀ b s, ¬ (b = m ∧ (s = 4 + 6 * t + 1 ∨ s = 4 + 6 * t + 2)) → hi' b s = hi b s) → ts_J0 d mX12_grows (ts_qv Q) g 16 [(0, .ref m), (3, .int (nI (4 + 6 * t)))] [] hi' hk := by
    -- the end of it
    have fin : ∀ x y hi', y ≤ 9 → x < 1000 → (y = 9 ∨ x ≤ 9) → hi' m (4 + 6 * t + 1) = nI y → hi' m (4 + 6 * t + 2) = nI x → y = r + ts_st (w + by0) r → x = w + by0 - 10 * ts_st (w + by0) r → (∀ b s, ¬ (b = m ∧ (s = 4 + 6 * t + 1 ∨ s = 4 + 6 * t + 2)) → hi' b s = hi b s) → ((nI x ≤ nI 9) → ∀ hi5 : ts_I, hi5 = ts_up hi' m (4 + 6 * t + 2) (nI x) → Q hi5 hk) ∧ (¬ (nI x ≤ nI 9) → ∀ hi6 : ts_I, hi6 = ts_up hi' m (4 + 6 * t + 2) (nI 9) → Q hi6 hk) := by
      intro x y hi' hy hx hxy h1 h2 ey ex hO
      have go : ∀ v hi5, v = (if r + ts_st (w + by0) r = 9 then min (w + by0 - 10 * ts_st (w + by0) r) 9 else w + by0 - 10 * ts_st (w + by0) r) → hi5 = ts_up hi' m (4 + 6 * t + 2) (nI v) → Q hi5 hk := by
        intro v hi5 ev e5
        refine q hi5 ?_ ?_ (fun b s hbs => ?_)
        · rw [e5, ts_up_s (by omega), h1, ey]
        · rw [e5, ts_up_eq, ev]
        · rw [e5]
          have : ¬ (b = m ∧ s = 4 + 6 * t + 2) := fun c => hbs ⟨c.1, Or.inr c.2⟩
          show (if b = m ∧ s = 4 + 6 * t + 2 then _ else _) = _
          rw [if_neg this, hO b s hbs]
      rw [ts_le (by omega) (by omega)]
      refine ⟨fun c hi5 e5 => go x hi5 ?_ e5, fun c hi5 e5 => go 9 hi5 ?_ e5⟩
      · rw [← ey, ← ex]
        by_cases h9 : y = 9
        · rw [if_pos h9]; omega
        · rw [if_neg h9]
      · rw [← ey, ← ex, if_pos (by omega)]
        omega
    intro n
    induction n with
    | zero =>
      intro x y hi' hyn hx h1 h2 ey ex hO
      refine wX12_grows_16 ?_
      have hs : ts_st x y = 0 := by unfold ts_st; omega
      rw [hs] at ey ex
      rw [hm, hl, ts_l2, ts_l1, ts_l9, ts_l10, nI_add, nI_add, ts_cl (by omega), ts_cl (by omega), h1, h2]
      have f := fin x y hi' (by omega) hx (Or.inl (by omega)) h1 h2 (by omega) (by omega) hO
      refine ⟨rfl, ts_vin (by omega) (by omega), fun c => ⟨fun c2 => f.1 c2, fun c2 => f.2 c2⟩, fun c => ⟨ts_vin (by omega) (by omega), fun c3 => ⟨fun c2 => f.1 c2, fun c2 => f.2 c2⟩, fun c3 => ?_⟩⟩
      rw [ts_le (by omega) (by omega)] at c3
      omega
    | succ n ih =>
      intro x y hi' hyn hx h1 h2 ey ex hO
      refine wX12_grows_16 ?_
      rw [hm, hl, ts_l2, ts_l1, ts_l9, ts_l10, nI_add, nI_add, ts_cl (by omega), ts_cl (by omega), h1, h2]
      refine ⟨rfl, ts_vin (by omega) (by omega), fun c => ?_, fun c => ⟨ts_vin (by omega) (by omega), fun c3 => ?_, fun c3 hi12 e12 hi13 e13 => ?_⟩⟩
      · have c' := c
        rw [ts_le (by omega) (by omega)] at c'
        have hs : ts_st x y = 0 := by unfold ts_st; omega
        rw [hs] at ey ex
        have f := fin x y hi' (by omega) hx (Or.inr c') h1 h2 (by omega) (by omega) hO
        exact ⟨fun c2 => f.1 c2, fun c2 => f.2 c2⟩
      · rw [ts_le (by omega) (by omega)] at c3
        omega
      · rw [ts_le (by omega) (by omega)] at c c3
        rw [ts_sub' (by omega)] at e12
        have e1 : hi12 m (4 + 6 * t + 1) = nI y := by rw [e12, ts_up_s (by omega), h1]
        rw [e1, nI_add] at e13
        have hs : ts_st x y = ts_st (x - 10) (y + 1) + 1 := by unfold ts_st; omega
        refine ih (x - 10) (y + 1) hi13 (by omega) (by omega) ?_ ?_ (by omega) (by omega) (fun b s hbs => ?_)
        · rw [e13, ts_up_eq]
        · rw [e13, ts_up_s (by omega), e12, ts_up_eq]
        · rw [e13, e12]
          show (if b = m ∧ s = 4 + 6 * t + 1 then _ else if b = m ∧ s = 4 + 6 * t + 2 then _ else _) = _
          rw [if_neg (fun c => hbs ⟨c.1, Or.inl c.2⟩), if_neg (fun c => hbs ⟨c.1, Or.inr c.2⟩), hO b s hbs]
  refine L (9 - r) (w + by0) r hi3 (by omega) hw9 ?_ ?_ rfl rfl (fun b s hbs => ?_)
  · rw [e3, ts_up_s (by omega), hr]
  · rw [e3, ts_up_eq]
  · rw [e3]
    show (if b = m ∧ s = 4 + 6 * t + 2 then _ else _) = _
    rw [if_neg (fun c => hbs ⟨c.1, Or.inr c.2⟩)]
theorem c_passes {d : Nat} {g : ts_G} {m : Nat} {A : ts_A} {hi : ts_I} {hk : ts_K} {Q : ts_I → ts_K → Prop} (hM : ts_LM g) (hm : g.2.1 m = 100) (hl : g.2.2.1 m = 46) (hm7 : m ≠ 417) (hR : ts_MR m 0 A hi) (hA : ts_ok A)
    (q : ∀ hi', ts_MR m 0 (ts_ps A (ts_fr A)) hi' → (∀ b, b ≠ m → b ≠ 417 → hi' b = hi b) → Q hi' hk) : ts_E0 (d + 5) mX12_passes [.ref 405, .ref m] g hi hk (ts_qv Q) := by
  refine ts_E0.of plX12_passes rfl (Nat.le_of_ble_eq_true rfl) ?_
  refine wX12_passes_0 ?_
  obtain ⟨a0, a1, a2, a3, aT⟩ := id hA
  have hfr : ts_fr A ≤ 1 := by unfold ts_fr; omega
  -- the second loop: they grow
  have L2 : ∀ n t hi', t + n = A 6 0 → hi' m 0 = nI (A 6 2) → hi' m 1 = nI (A 6 3) → hi' m 2 = nI (A 6 0) → hi' m 3 = nI (A 6 1) → (∀ s, s < A 6 0 → hi' m (4 + 6 * s) = nI (A 0 s) ∧ hi' m (4 + 6 * s + 1) = nI (if s < t then ts_nr A (ts_fr A) s else A 1 s) ∧ hi' m (4 + 6 * s + 2) = nI (if s < t then ts_ng A (ts_fr A) s else A 2 s) ∧ hi' m (4 + 6 * s + 3) = nI (A 5 s) ∧ hi' m (4 + 6 * s + 4) = nI (A 3 s) ∧ hi' m (4 + 6 * s + 5) = ts_nN (A 4 s)) → (∀ s, s < A 6 0 → hi' 417 s = nI (ts_ga A (ts_fr A) s)) → (∀ b, b ≠ m → b ≠ 417 → hi' b = hi b) → ts_J0 (d + 5) mX12_passes (ts_qv Q) g 28 [(0, .ref 405), (1, .ref m), (2, .int (nI t))] [] hi' hk := by
    intro n
    induction n with
    | zero =>
      intro t hi' htn r0 r1 r2 r3 rT rG hO
      refine wX12_passes_28 ?_
      rw [hm, hl, show (2 : Int32).toNatClampNeg = 2 from rfl, show (3 : Int32).toNatClampNeg = 3 from rfl, r2, r3, ts_le (by omega) (by omega), ts_l1, nI_add]
      refine ⟨rfl, ts_vin (i := 2) (by omega) (by omega), fun _ => ⟨ts_vin (i := 3) (by omega) (by omega), fun hi5 e5 => ?_⟩, fun h => absurd (by omega) h⟩
      refine q hi5 ⟨?_, ?_, ?_, ?_, fun s hs => ?_⟩ (fun b b1 b2 => ?_)
      · rw [e5, ts_up_s (by omega)]; exact r0
      · rw [e5, ts_up_s (by omega)]; exact r1
      · rw [e5, ts_up_s (by omega)]; exact r2
      · rw [e5, ts_up_eq]; rfl
      · have hs' : s < A 6 0 := hs
        have z := rT s hs'
        rw [if_pos (show s < t by omega), if_pos (show s < t by omega)] at z
        simp only [Nat.zero_add]
        refine ⟨?_, ?_, ?_, ?_, ?_, ?_⟩
        · rw [e5, ts_up_s (by omega)]; exact z.1
        · rw [e5, ts_up_s (by omega)]; exact z.2.1
        · rw [e5, ts_up_s (by omega)]; exact z.2.2.1
        · rw [e5, ts_up_s (by omega)]; exact z.2.2.2.1
        · rw [e5, ts_up_s (by omega)]; exact z.2.2.2.2.1
        · rw [e5, ts_up_s (by omega)]; exact z.2.2.2.2.2
      · rw [e5]
        funext s
        rw [ts_up_a b1, hO b b1 b2]
    | succ n ih =>
      intro t hi' htn r0 r1 r2 r3 rT rG hO
      refine wX12_passes_28 ?_
      have ht : t < A 6 0 := by omega
      have z := rT t ht
      rw [if_neg (show ¬ t < t by omega), if_neg (show ¬ t < t by omega)] at z
      have hr := (aT t ht).2.1
      have hw := (aT t ht).2.2.1
      have hga := ts_ga_le a2 (ts_fr A) t
      simp only [ts_LM.kd hM, ts_LM.o0 hM, ts_LM.k0 hM, ts_LM.l0 hM, ts_LM.o1 hM, ts_LM.k1 hM, ts_LM.l1 hM, ts_LM.o2 hM, ts_LM.k2 hM, ts_LM.l2 hM, ts_LM.o3 hM, ts_LM.k3 hM, ts_LM.l3 hM, ts_LM.o5 hM, ts_LM.k5 hM, ts_LM.l5 hM, ts_LM.o13 hM, ts_LM.k13 hM, ts_LM.l13 hM, ts_LM.o14 hM, ts_LM.k14 hM, ts_LM.l14 hM, ts_LM.o15 hM, ts_LM.k15 hM, ts_LM.l15 hM, ts_LM.o16 hM, ts_LM.k16 hM, ts_LM.l16 hM, ts_LM.o18 hM, ts_LM.k18 hM, ts_LM.l18 hM, ts_LM.o19 hM, ts_LM.k19 hM, ts_LM.l19 hM, ts_LM.o20 hM, ts_LM.k20 hM, ts_LM.l20 hM, ts_LM.o21 hM, ts_LM.k21 hM, ts_LM.l21 hM, ts_LM.o22 hM, ts_LM.k22 hM, ts_LM.l22 hM, ts_LM.o23 hM, ts_LM.k23 hM, ts_LM.l23 hM]
      rw [hm, hl, show (2 : Int32).toNatClampNeg = 2 from rfl, r2, ts_le (by omega) (by omega), ts_cl (by omega), rG t ht]
      refine ⟨rfl, ts_vin (i := 2) (by omega) (by omega), fun h => absurd h (by omega), fun _ => ⟨trivial, by omega, trivial, ts_vin (by omega) (by omega), ?_⟩⟩
      refine c_grows hm hl (by omega) z.2.1 z.2.2.1 hr (by omega) (fun hi2 g1 g2 gO => ?_)
      rw [ts_l1, nI_add]
      have o : ∀ s, (∀ u, u < 7 → u = t → s ≠ 4 + 6 * u + 1 ∧ s ≠ 4 + 6 * u + 2) → hi2 m s = hi' m s := fun s hs => gO m s (fun c => by have := hs t (by omega) rfl; omega)
      refine ih (t + 1) hi2 (by omega) ?_ ?_ ?_ ?_ (fun s hs => ?_) (fun s hs => ?_) (fun b b1 b2 => ?_)
      · rw [gO m 0 (by omega)]; exact r0
      · rw [gO m 1 (by omega)]; exact r1
      · rw [gO m 2 (by omega)]; exact r2
      · rw [gO m 3 (by omega)]; exact r3
      · by_cases e : s = t
        · subst e
          rw [if_pos (show s < s + 1 by omega), if_pos (show s < s + 1 by omega), g1, g2, gO m _ (by omega), gO m _ (by omega), gO m _ (by omega), gO m _ (by omega)]
          exact ⟨z.1, rfl, rfl, z.2.2.2⟩
        · have e2 : s < t + 1 ↔ s < t := by omega
          simp only [e2]
          rw [gO m _ (by omega), gO m _ (by omega), gO m _ (by omega), gO m _ (by omega), gO m _ (by omega), gO m _ (by omega)]
          exact rT s hs
      · rw [gO 417 s (by omega)]; exact rG s hs
      · funext s
        rw [gO b s (by omega), hO b b1 b2]
  -- the first loop: what each gains
  have L1 : ∀ n t hi', t + n = A 6 0 → (∀ s, s < t → hi' 417 s = nI (ts_ga A (ts_fr A) s)) → (∀ b, b ≠ 417 → hi' b = hi b) → ts_J0 (d + 5) mX12_passes (ts_qv Q) g 2 [(0, .ref 405), (1, .ref m), (2, .int (nI t))] [] hi' hk := by
    intro n
    induction n with
    | zero =>
      intro t hi' htn rG hO
      refine wX12_passes_2 ?_
      obtain ⟨r0, r1, r2, r3, rT⟩ := id hR
      simp only [Nat.zero_add] at r1 r2 r3 rT
      rw [hm, hl, show (2 : Int32).toNatClampNeg = 2 from rfl, hO m hm7, r2, ts_le (by omega) (by omega)]
      refine ⟨rfl, ts_vin (i := 2) (by omega) (by omega), fun _ => ?_, fun h => absurd (by omega) h⟩
      refine L2 (A 6 0) 0 hi' (by omega) ?_ ?_ ?_ ?_ (fun s hs => ?_) (fun s hs => rG s (by omega)) (fun b b1 b2 => hO b b2)
      · rw [hO m hm7]; exact r0
      · rw [hO m hm7]; exact r1
      · rw [hO m hm7]; exact r2
      · rw [hO m hm7]; exact r3
      · rw [hO m hm7, if_neg (by omega), if_neg (by omega)]
        exact rT s hs
    | succ n ih =>
      intro t hi' htn rG hO
      refine wX12_passes_2 ?_
      have ht : t < A 6 0 := by omega
      have hR' : ts_MR m 0 A hi' := by unfold ts_MR; rw [hO m hm7]; exact hR
      have r2 : hi' m 2 = nI (A 6 0) := hR'.2.2.1
      simp only [ts_LM.kd hM, ts_LM.o0 hM, ts_LM.k0 hM, ts_LM.l0 hM, ts_LM.o1 hM, ts_LM.k1 hM, ts_LM.l1 hM, ts_LM.o2 hM, ts_LM.k2 hM, ts_LM.l2 hM, ts_LM.o3 hM, ts_LM.k3 hM, ts_LM.l3 hM, ts_LM.o5 hM, ts_LM.k5 hM, ts_LM.l5 hM, ts_LM.o13 hM, ts_LM.k13 hM, ts_LM.l13 hM, ts_LM.o14 hM, ts_LM.k14 hM, ts_LM.l14 hM, ts_LM.o15 hM, ts_LM.k15 hM, ts_LM.l15 hM, ts_LM.o16 hM, ts_LM.k16 hM, ts_LM.l16 hM, ts_LM.o18 hM, ts_LM.k18 hM, ts_LM.l18 hM, ts_LM.o19 hM, ts_LM.k19 hM, ts_LM.l19 hM, ts_LM.o20 hM, ts_LM.k20 hM, ts_LM.l20 hM, ts_LM.o21 hM, ts_LM.k21 hM, ts_LM.l21 hM, ts_LM.o22 hM, ts_LM.k22 hM, ts_LM.l22 hM, ts_LM.o23 hM, ts_LM.k23 hM, ts_LM.l23 hM]
      rw [hm, hl, show (2 : Int32).toNatClampNeg = 2 from rfl, r2, ts_le (by omega) (by omega), ts_cl (by omega)]
      refine ⟨rfl, ts_vin (i := 2) (by omega) (by omega), fun h => absurd h (by omega), fun _ => ⟨trivial, by omega, ?_⟩⟩
      refine c_gain hm hl hR' hA ht ⟨trivial, ts_vin (by omega) (by omega), fun hi2 e2 => ?_⟩
      rw [ts_l1, nI_add]
      refine ih (t + 1) hi2 (by omega) (fun s hs => ?_) (fun b hb => ?_)
      · rw [e2]
        by_cases e : s = t
        · subst e; rw [ts_up_eq]
        · rw [ts_up_s e]; exact rG s (by omega)
      · rw [e2]
        funext s
        rw [ts_up_a hb, hO b hb]
  exact L1 (A 6 0) 0 hi (by omega) (fun s hs => by omega) (fun b _ => rfl)
