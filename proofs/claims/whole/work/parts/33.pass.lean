/-! a year: what rises -/
theorem ts_addneg {a b : Nat} (h : b ≤ a) : nI a + -nI b = nI (a - b) := by
  rw [← Int32.sub_eq_add_neg, ts_sub' h]
theorem ts_min {a b : Nat} (ha : a < 2147483648) (hb : b < 2147483648) : (if nI a < nI b then nI a else nI b) = nI (min b a) := by
  by_cases h : a < b
  · rw [if_pos ((nI_ltI ha hb).mpr h)]
    congr 1
    omega
  · rw [if_neg (fun q => h ((nI_ltI ha hb).mp q))]
    congr 1
    omega
def ts_st (m r : Nat) : Nat := min (m / 10) (9 - r)
def ts_nr (A : ts_A) (fr t : Nat) : Nat := A 1 t + ts_st (A 2 t + ts_ga A fr t) (A 1 t)
def ts_ng (A : ts_A) (fr t : Nat) : Nat := if ts_nr A fr t = 9 then min (A 2 t + ts_ga A fr t - 10 * ts_st (A 2 t + ts_ga A fr t) (A 1 t)) 9 else A 2 t + ts_ga A fr t - 10 * ts_st (A 2 t + ts_ga A fr t) (A 1 t)
/-- the field behind a year, with frost (1) or without (0) -/
def ts_ps (A : ts_A) (fr : Nat) : ts_A := fun c t => if c = 1 then ts_nr A fr t else if c = 2 then ts_ng A fr t else if c = 6 ∧ t = 1 then A 6 1 + 1 else A c t
theorem ts_ga_le {A : ts_A} (h : A 6 2 ≤ 9) (fr t : Nat) : ts_ga A fr t ≤ 19 := by
  have h1 := ts_bg_le h fr t
  have h2 := ts_bg_le h fr (A 4 t)
  have h3 := ts_hb_le A t
  have h4 : ts_mg A fr t ≤ 18 := by unfold ts_mg; split <;> omega
  have h5 : ts_lb A t ≤ 1 := by unfold ts_lb; split <;> omega
  unfold ts_ga
  omega
theorem ts_nr_le {A : ts_A} {fr t : Nat} (h : A 1 t ≤ 9) : A 1 t ≤ ts_nr A fr t ∧ ts_nr A fr t ≤ 9 := by
  unfold ts_nr ts_st
  omega
theorem ts_ng_le {A : ts_A} {fr t : Nat} (h : A 1 t ≤ 9) : ts_ng A fr t ≤ 9 := by
  unfold ts_ng ts_nr ts_st
  split <;> omega
theorem ts_ok_ps {A : ts_A} {fr : Nat} (hA : ts_ok A) (hy : A 6 1 < 1000000) : ts_ok (ts_ps A fr) := by
  obtain ⟨a0, a1, a2, a3, aT⟩ := hA
  refine ⟨a0, by show A 6 1 + 1 ≤ _; omega, a2, a3, fun t ht => ?_⟩
  have h := aT t ht
  exact ⟨h.1, (ts_nr_le h.2.1).2, ts_ng_le h.2.1, h.2.2.2⟩
theorem c_pass {d : Nat} {g : ts_G} {k fr : Nat} {A : ts_A} {hi : ts_I} {hk : ts_K} {Q : ts_I → ts_K → Prop} (hL : ts_KL g) (hF : ts_FL g k) (hR : ts_FR k A hi hk) (hA : ts_ok A) (hf : fr ≤ 1)
    (q : ∀ hi', ts_FR k (ts_ps A fr) hi' hk → (∀ b, (b < k ∨ k + 9 < b) → hi' b = hi b) → Q hi' hk) : ts_E0 (d + 3) mX1_pass [.ref k, .int (nI fr)] g hi hk (ts_qv Q) := by
  refine ts_E0.of plX1_pass rfl (Nat.le_of_ble_eq_true rfl) ?_
  refine wX1_pass_0 ⟨hF.kd, ?_⟩
  refine c_findGains hL hF hR hA hf (fun hi1 hg1 ho1 => ?_)
  obtain ⟨h9, h10, h11, h12, hT⟩ := hR
  obtain ⟨a0, a1, a2, a3, aT⟩ := id hA
  have L1 : ∀ n t hi', t + n = A 6 0 → (∀ s, s < A 6 0 → hi' (k + 2) s = nI (if s < t then ts_nr A fr s else A 1 s) ∧ hi' (k + 3) s = nI (if s < t then ts_ng A fr s else A 2 s)) → (∀ b, b ≠ k + 2 → b ≠ k + 3 → hi' b = hi1 b) → ts_J0 (d + 3) mX1_pass (ts_qv Q) g 7 [(0, .ref k), (2, .int (nI t))] [] hi' hk := by
    intro n
    induction n with
    | zero =>
      intro t hi' htn hI hO
      refine wX1_pass_7 ?_
      have ho : ∀ b, b ≠ k + 2 → b ≠ k + 3 → b ≠ k + 8 → b ≠ k + 9 → hi' b = hi b := fun b b1 b2 b3 b4 => (hO b b1 b2).trans (ho1 b b3 b4)
      rw [ho k (by omega) (by omega) (by omega) (by omega), h9, ts_le (by omega) (by omega)]
      refine ⟨hF.kd, fun _ hi3 e3 => ?_, fun h => absurd (by omega) h⟩
      rw [h10, ts_l1, nI_add] at e3
      have hob : ∀ b, b ≠ k → hi3 b = hi' b := fun b hb => by rw [e3]; funext s; rw [ts_up_a hb]
      refine q hi3 ⟨?_, ?_, ?_, ?_, fun s hs => ?_⟩ (fun b hb => ?_)
      · rw [e3, ts_up_s (by omega), ho k (by omega) (by omega) (by omega) (by omega), h9]; rfl
      · rw [e3, ts_up_eq]; rfl
      · rw [e3, ts_up_s (by omega), ho k (by omega) (by omega) (by omega) (by omega), h11]; rfl
      · rw [e3, ts_up_s (by omega), ho k (by omega) (by omega) (by omega) (by omega), h12]; rfl
      · have hs' : s < A 6 0 := hs
        have z := hT s hs'
        have z2 := hI s hs'
        rw [if_pos (show s < t by omega), if_pos (show s < t by omega)] at z2
        refine ⟨z.1, ?_, ?_, ?_, ?_, ?_, ?_⟩
        · rw [hob _ (by omega)]; exact z2.1
        · rw [hob _ (by omega)]; exact z2.2
        · rw [hob _ (by omega), ho _ (by omega) (by omega) (by omega) (by omega)]; exact z.2.2.2.1
        · rw [hob _ (by omega), ho _ (by omega) (by omega) (by omega) (by omega)]; exact z.2.2.2.2.1
        · rw [hob _ (by omega), ho _ (by omega) (by omega) (by omega) (by omega)]; exact z.2.2.2.2.2.1
        · rw [hob _ (by omega), ho _ (by omega) (by omega) (by omega) (by omega)]; exact z.2.2.2.2.2.2
      · rw [hob b (by omega), ho b (by omega) (by omega) (by omega) (by omega)]
    | succ n ih =>
      intro t hi' htn hI hO
      refine wX1_pass_7 ?_
      have ht : t < A 6 0 := by omega
      have z2 := hI t ht
      rw [if_neg (show ¬ t < t by omega), if_neg (show ¬ t < t by omega)] at z2
      have hr := (aT t ht).2.1
      have hw := (aT t ht).2.2.1
      have hga := ts_ga_le a2 fr t
      simp only [ts_FL.kd hF, ts_FL.k1 hF, ts_FL.k2 hF, ts_FL.k3 hF, ts_FL.k4 hF, ts_FL.k5 hF, ts_FL.k6 hF, ts_FL.k7 hF, ts_FL.k8 hF, ts_FL.k9 hF, ts_FL.l1 hF, ts_FL.l2 hF, ts_FL.l3 hF, ts_FL.l4 hF, ts_FL.l5 hF, ts_FL.l6 hF, ts_FL.l7 hF, ts_FL.l8 hF, ts_FL.l9 hF, ts_FL.o0 hF, ts_FL.o1 hF, ts_FL.o2 hF, ts_FL.o3 hF, ts_FL.o4 hF, ts_FL.o5 hF, ts_FL.o6 hF, ts_FL.o7 hF, ts_FL.o8 hF]
      rw [ts_cl (by omega), z2.1, z2.2, hO (k + 8) (by omega) (by omega), hg1 t ht, nI_add, hO k (by omega) (by omega), ho1 k (by omega) (by omega), h9, ts_le (by omega) (by omega)]
      refine ⟨trivial, fun h => absurd h (by omega), fun _ => ⟨by omega, trivial, ts_vin (by omega) (by omega), by omega, trivial, ts_vin (by omega) (by omega), by omega, trivial, ts_vin (by omega) (by omega), ?_⟩⟩
      -- the rise of one
      have L2 : ∀ n m r, r + n = 9 → r + ts_st m r = ts_nr A fr t → m - 10 * ts_st m r = A 2 t + ts_ga A fr t - 10 * ts_st (A 2 t + ts_ga A fr t) (A 1 t) → m < 1000 → ts_J0 (d + 3) mX1_pass (ts_qv Q) g 37 [(0, .ref k), (2, .int (nI t)), (3, .int (nI m)), (4, .int (nI r))] [] hi' hk := by
        have fin : ∀ m r, r ≤ 9 → r = ts_nr A fr t → m = A 2 t + ts_ga A fr t - 10 * ts_st (A 2 t + ts_ga A fr t) (A 1 t) → m < 1000 → ∀ hi2, hi2 = ts_up hi' (k + 2) t (nI r) → ((nI r ≠ nI 9) → ∀ hi3 : ts_I, hi3 = ts_up hi2 (k + 3) t (nI m) → ts_J0 (d + 3) mX1_pass (ts_qv Q) g 7 [(0, .ref k), (2, .int (nI t + nI 1))] [] hi3 hk) ∧ (¬ (nI r ≠ nI 9) → ∀ hi3 : ts_I, hi3 = ts_up hi2 (k + 3) t (if nI 9 < nI m then nI 9 else nI m) → ts_J0 (d + 3) mX1_pass (ts_qv Q) g 7 [(0, .ref k), (2, .int (nI t + nI 1))] [] hi3 hk) := by
          intro m r hr9 er em hm hi2 e2
          have go : ∀ hi3, hi3 = ts_up hi2 (k + 3) t (nI (ts_ng A fr t)) → ts_J0 (d + 3) mX1_pass (ts_qv Q) g 7 [(0, .ref k), (2, .int (nI t + nI 1))] [] hi3 hk := by
            intro hi3 e3
            rw [nI_add]
            refine ih (t + 1) hi3 (by omega) (fun s hs => ?_) (fun b b1 b2 => ?_)
            · rw [e3]
              by_cases n1 : s = t
              · subst n1
                rw [ts_up_a (by omega), ts_up_eq, e2, ts_up_eq, if_pos (show s < s + 1 by omega), if_pos (show s < s + 1 by omega), er]
                exact ⟨rfl, rfl⟩
              · rw [ts_up_a (by omega), ts_up_s n1, e2, ts_up_s n1, ts_up_a (by omega)]
                have e : s < t + 1 ↔ s < t := by omega
                simp only [e]
                exact hI s hs
            · rw [e3, e2]
              funext s
              rw [ts_up_a b2, ts_up_a b1, hO b b1 b2]
          refine ⟨fun h hi3 e3 => go hi3 ?_, fun h hi3 e3 => go hi3 ?_⟩
          · have h9' : r ≠ 9 := fun e => h (by rw [e])
            rw [e3]
            congr 2
            unfold ts_ng
            rw [if_neg (by omega)]
            exact em
          · have h9' : r = 9 := by
              have : nI r = nI 9 := Decidable.not_not.mp h
              rw [ts_eq (by omega) (by omega)] at this
              exact this
            rw [e3, ts_min (by omega) (by omega)]
            congr 2
            unfold ts_ng
            rw [if_pos (by omega), ← em]
        intro n
        induction n with
        | zero =>
          intro m r hrn h1 h2 hm
          refine wX1_pass_37 ?_
          simp only [ts_FL.kd hF, ts_FL.k1 hF, ts_FL.k2 hF, ts_FL.k3 hF, ts_FL.k4 hF, ts_FL.k5 hF, ts_FL.k6 hF, ts_FL.k7 hF, ts_FL.k8 hF, ts_FL.k9 hF, ts_FL.l1 hF, ts_FL.l2 hF, ts_FL.l3 hF, ts_FL.l4 hF, ts_FL.l5 hF, ts_FL.l6 hF, ts_FL.l7 hF, ts_FL.l8 hF, ts_FL.l9 hF, ts_FL.o0 hF, ts_FL.o1 hF, ts_FL.o2 hF, ts_FL.o3 hF, ts_FL.o4 hF, ts_FL.o5 hF, ts_FL.o6 hF, ts_FL.o7 hF, ts_FL.o8 hF]
          have hs : ts_st m r = 0 := by unfold ts_st; omega
          rw [hs] at h1 h2
          rw [ts_cl (by omega), ts_l10, ts_l9, ts_l1, ts_lt (by omega) (by omega), ts_le (by omega) (by omega)]
          refine ⟨fun _ => ⟨trivial, by omega, trivial, ts_vin (by omega) (by omega), fun hi6 e6 => ⟨by omega, fun c => ⟨trivial, ts_vin (by omega) (by omega), ?_⟩, fun c => ⟨trivial, ts_vin (by omega) (by omega), ?_⟩⟩⟩, fun _ => ⟨fun _ => ⟨trivial, by omega, trivial, ts_vin (by omega) (by omega), fun hi6 e6 => ⟨by omega, fun c => ⟨trivial, ts_vin (by omega) (by omega), ?_⟩, fun c => ⟨trivial, ts_vin (by omega) (by omega), ?_⟩⟩⟩, fun h => absurd (by omega) h⟩⟩
          · exact (fin m r (by omega) (by omega) (by omega) hm hi6 e6).1 c
          · exact (fin m r (by omega) (by omega) (by omega) hm hi6 e6).2 c
          · exact (fin m r (by omega) (by omega) (by omega) hm hi6 e6).1 c
          · exact (fin m r (by omega) (by omega) (by omega) hm hi6 e6).2 c
        | succ n ih2 =>
          intro m r hrn h1 h2 hm
          refine wX1_pass_37 ?_
          simp only [ts_FL.kd hF, ts_FL.k1 hF, ts_FL.k2 hF, ts_FL.k3 hF, ts_FL.k4 hF, ts_FL.k5 hF, ts_FL.k6 hF, ts_FL.k7 hF, ts_FL.k8 hF, ts_FL.k9 hF, ts_FL.l1 hF, ts_FL.l2 hF, ts_FL.l3 hF, ts_FL.l4 hF, ts_FL.l5 hF, ts_FL.l6 hF, ts_FL.l7 hF, ts_FL.l8 hF, ts_FL.l9 hF, ts_FL.o0 hF, ts_FL.o1 hF, ts_FL.o2 hF, ts_FL.o3 hF, ts_FL.o4 hF, ts_FL.o5 hF, ts_FL.o6 hF, ts_FL.o7 hF, ts_FL.o8 hF]
          rw [ts_cl (by omega), ts_l10, ts_l9, ts_l1, ts_lt (by omega) (by omega), ts_le (by omega) (by omega)]
          refine ⟨fun hlt => ⟨trivial, by omega, trivial, ts_vin (by omega) (by omega), fun hi6 e6 => ⟨by omega, fun c => ⟨trivial, ts_vin (by omega) (by omega), ?_⟩, fun c => ⟨trivial, ts_vin (by omega) (by omega), ?_⟩⟩⟩, fun hge => ⟨fun h => absurd h (by omega), fun _ => ?_⟩⟩
          · have hs : ts_st m r = 0 := by unfold ts_st; omega
            rw [hs] at h1 h2
            exact (fin m r (by omega) (by omega) (by omega) hm hi6 e6).1 c
          · have hs : ts_st m r = 0 := by unfold ts_st; omega
            rw [hs] at h1 h2
            exact (fin m r (by omega) (by omega) (by omega) hm hi6 e6).2 c
          · rw [ts_addneg (by omega), nI_add]
            have hs : ts_st m r = ts_st (m - 10) (r + 1) + 1 := by unfold ts_st; omega
            exact ih2 (m - 10) (r + 1) (by omega) (by omega) (by omega) (by omega)
      exact L2 (9 - A 1 t) (A 2 t + ts_ga A fr t) (A 1 t) (by omega) rfl rfl (by omega)
  exact L1 (A 6 0) 0 hi1 (by omega) (fun s hs => by rw [if_neg (by omega), if_neg (by omega), ho1 _ (by omega) (by omega), ho1 _ (by omega) (by omega)]; exact ⟨(hT s hs).2.1, (hT s hs).2.2.1⟩) (fun b _ _ => rfl)
