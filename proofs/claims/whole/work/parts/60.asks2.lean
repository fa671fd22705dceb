/-! asks, the model -/
theorem ts_ZT.mr {l : List Nat} {A : ts_A} {hi0 hi : ts_I} (hc : A 6 0 ≤ 7) (h : ts_ZT l 405 24 420 hi0 hi) (hR : ts_MR 411 0 A hi0) : ts_MR 411 0 A hi := ts_MR.of hc hR (fun u _ => by rw [h.2.2.1 411 (by omega) (by omega)])
theorem ts_lvs_app (l a b : List Nat) : ts_lvs (ts_lvs l a) b = ts_lvs l (a ++ b) := (List.foldl_append).symm
section
variable {d t : Nat} {l : List Nat} {g : ts_G} {A : ts_A} {hi0 hi : ts_I} {hk : ts_K} {Q : Int32 → ts_I → ts_K → Prop}
theorem c_plainMark : ts_LM g → ts_MR 411 0 A hi0 → A 6 0 ≤ 7 → t < A 6 0 → 1 ≤ A 0 t → A 0 t ≤ 3 → A 5 t ≤ 7 → ts_ZT l 405 24 420 hi0 hi → (∀ hi', ts_ZT (ts_lvs l (ts_pmL (A 0 t))) 405 24 420 hi0 hi' → Q (ts_pm (A 0 t) t (A 5 t)) hi' hk) → ts_E0 (d + 1) mX12_plainMark [.ref 405, .int (nI t)] g hi hk (ts_qi Q) := by
  intro hM hR hc ht hk1 hk2 h5 h q
  refine ts_E0.of plX12_plainMark rfl (Nat.le_of_ble_eq_true rfl) ?_
  refine wX12_plainMark_0 ⟨hM.kd, c_kindIn hM (h.mr hc hR) hc ht ?_⟩
  have fin : ∀ (l2 : List Nat) hi2, ts_lvs l2 [21, 20] = ts_lvs l (ts_pmL (A 0 t)) → ts_ZT l2 405 24 420 hi0 hi2 → ts_E0 d mX12_begins [.ref 405, .int 21] g hi2 hk (ts_qv (fun hi18 hk19 => ts_E0 d mX12_begins [.ref 405, .int 20] g hi18 hk19 (ts_qv (fun hi20 hk21 => (g.2.2.2 405 13 ≠ 0) ∧ (g.2.1 (g.2.2.2 405 13) = 100) ∧ (vp_in ((4 + (6 * nI t)) + 3) (g.2.2.1 (g.2.2.2 405 13))) ∧ ((nI (A 0 t) ≠ 2) → ((nI (A 0 t) ≠ 3) → Q (nI t + (hi20 (g.2.2.2 405 13) ((4 + (6 * nI t)) + 3).toNatClampNeg)) hi20 hk21) ∧ (¬ (nI (A 0 t) ≠ 3) → Q ((nI t + (hi20 (g.2.2.2 405 13) ((4 + (6 * nI t)) + 3).toNatClampNeg)) - 1000) hi20 hk21)) ∧ (¬ (nI (A 0 t) ≠ 2) → Q (2 * (nI t + (hi20 (g.2.2.2 405 13) ((4 + (6 * nI t)) + 3).toNatClampNeg))) hi20 hk21))))) := by
    intro l2 hi2 el z
    refine c_begins (b := 21) hM z (fun hi3 z3 => c_begins (b := 20) hM z3 (fun hi4 z4 => ?_))
    have z5 : ts_ZT (ts_lvs l2 [21, 20]) 405 24 420 hi0 hi4 := z4
    rw [el] at z5
    have q4 := q hi4 z5
    have zr := ((z4.mr hc hR).2.2.2.2 t ht).2.2.2.1
    rw [Nat.zero_add] at zr
    simp only [ts_LM.kd hM, ts_LM.o0 hM, ts_LM.k0 hM, ts_LM.l0 hM, ts_LM.o1 hM, ts_LM.k1 hM, ts_LM.l1 hM, ts_LM.o2 hM, ts_LM.k2 hM, ts_LM.l2 hM, ts_LM.o3 hM, ts_LM.k3 hM, ts_LM.l3 hM, ts_LM.o5 hM, ts_LM.k5 hM, ts_LM.l5 hM, ts_LM.o13 hM, ts_LM.k13 hM, ts_LM.l13 hM, ts_LM.o14 hM, ts_LM.k14 hM, ts_LM.l14 hM, ts_LM.o15 hM, ts_LM.k15 hM, ts_LM.l15 hM, ts_LM.o16 hM, ts_LM.k16 hM, ts_LM.l16 hM, ts_LM.o18 hM, ts_LM.k18 hM, ts_LM.l18 hM, ts_LM.o19 hM, ts_LM.k19 hM, ts_LM.l19 hM, ts_LM.o20 hM, ts_LM.k20 hM, ts_LM.l20 hM, ts_LM.o21 hM, ts_LM.k21 hM, ts_LM.l21 hM, ts_LM.o22 hM, ts_LM.k22 hM, ts_LM.l22 hM, ts_LM.o23 hM, ts_LM.k23 hM, ts_LM.l23 hM]
    have e2 : (4 + (6 * nI t)) + 3 = nI (4 + 6 * t + 3) := by rw [ts_l4, ts_l6, ts_l3, pk_mul, nI_add, nI_add]
    rw [e2, ts_cl (by omega), zr, ts_l2, ts_l3, ts_ne (by omega) (by omega), ts_ne (by omega) (by omega)]
    unfold ts_pm at q4
    refine ⟨by omega, trivial, ts_vin (by omega) (by omega), fun c => ⟨fun c2 => ?_, fun c2 => ?_⟩, fun c => ?_⟩
    · rw [if_neg c, if_neg c2] at q4; exact q4
    · rw [if_neg c, if_pos (Decidable.not_not.mp c2)] at q4; exact q4
    · rw [if_pos (Decidable.not_not.mp c)] at q4; exact q4
  refine ⟨fun c => ?_, fun c => ⟨fun c2 => ?_, fun c2 => ?_⟩⟩
  · rw [ts_l1, ts_eq (by omega) (by omega)] at c
    exact fin l hi (by rw [c]; rfl) h
  · rw [ts_l1, ts_eq (by omega) (by omega)] at c
    have c2' : A 0 t ≠ 2 := fun e => c2 (by rw [e]; rfl)
    have e3 : A 0 t = 3 := by omega
    exact c_begins (b := 22) hM h (fun hi3 z3 => fin _ hi3 (by rw [e3]; rfl) z3)
  · have e2 : A 0 t = 2 := by
      have c3 := Decidable.not_not.mp c2
      rw [ts_l2, ts_eq (by omega) (by omega)] at c3
      exact c3
    exact c_begins (b := 24) hM h (fun hi3 z3 => fin _ hi3 (by rw [e2]; rfl) z3)
theorem c_fellowSize : ts_LM g → ts_MR 411 0 A hi0 → A 6 0 ≤ 7 → t < A 6 0 → 4 ≤ A 0 t → A 0 t ≤ 5 → ts_ZT l 405 24 420 hi0 hi → (∀ hi', ts_ZT (ts_lvs l (ts_fzL (A 0 t))) 405 24 420 hi0 hi' → Q (ts_fz (A 0 t) (A 1 t)) hi' hk) → ts_E0 (d + 1) mX12_fellowSize [.ref 405, .int (nI t)] g hi hk (ts_qi Q) := by
  intro hM hR hc ht hk1 hk2 h q
  refine ts_E0.of plX12_fellowSize rfl (Nat.le_of_ble_eq_true rfl) ?_
  refine wX12_fellowSize_0 ⟨hM.kd, c_kindIn hM (h.mr hc hR) hc ht ?_⟩
  have e2 : (4 + (6 * nI t)) + 1 = nI (4 + 6 * t + 1) := by rw [ts_l4, ts_l6, ts_l1, pk_mul, nI_add, nI_add]
  unfold ts_fz ts_fzL at q
  simp only [ts_LM.kd hM, ts_LM.o0 hM, ts_LM.k0 hM, ts_LM.l0 hM, ts_LM.o1 hM, ts_LM.k1 hM, ts_LM.l1 hM, ts_LM.o2 hM, ts_LM.k2 hM, ts_LM.l2 hM, ts_LM.o3 hM, ts_LM.k3 hM, ts_LM.l3 hM, ts_LM.o5 hM, ts_LM.k5 hM, ts_LM.l5 hM, ts_LM.o13 hM, ts_LM.k13 hM, ts_LM.l13 hM, ts_LM.o14 hM, ts_LM.k14 hM, ts_LM.l14 hM, ts_LM.o15 hM, ts_LM.k15 hM, ts_LM.l15 hM, ts_LM.o16 hM, ts_LM.k16 hM, ts_LM.l16 hM, ts_LM.o18 hM, ts_LM.k18 hM, ts_LM.l18 hM, ts_LM.o19 hM, ts_LM.k19 hM, ts_LM.l19 hM, ts_LM.o20 hM, ts_LM.k20 hM, ts_LM.l20 hM, ts_LM.o21 hM, ts_LM.k21 hM, ts_LM.l21 hM, ts_LM.o22 hM, ts_LM.k22 hM, ts_LM.l22 hM, ts_LM.o23 hM, ts_LM.k23 hM, ts_LM.l23 hM]
  rw [e2, ts_cl (by omega), ts_l5, ts_ne (by omega) (by omega)]
  refine ⟨fun c => ?_, fun c => ?_⟩
  · rw [if_neg c, if_neg c] at q
    refine c_begins (b := 13) hM h (fun hi3 z3 => c_begins (b := 10) hM z3 (fun hi4 z4 => ?_))
    have zr := ((z4.mr hc hR).2.2.2.2 t ht).2.1
    rw [Nat.zero_add] at zr
    rw [zr]
    exact ⟨by omega, trivial, ts_vin (by omega) (by omega), q hi4 z4⟩
  · rw [if_pos (Decidable.not_not.mp c), if_pos (Decidable.not_not.mp c)] at q
    refine c_begins (b := 14) hM h (fun hi2 z2 => c_begins (b := 13) hM z2 (fun hi3 z3 => c_begins (b := 10) hM z3 (fun hi4 z4 => ?_)))
    have zr := ((z4.mr hc hR).2.2.2.2 t ht).2.1
    rw [Nat.zero_add] at zr
    rw [zr]
    exact ⟨by omega, trivial, ts_vin (by omega) (by omega), q hi4 z4⟩
theorem c_plainSize : ts_LM g → ts_MR 411 0 A hi0 → A 6 0 ≤ 7 → t < A 6 0 → 1 ≤ A 0 t → A 0 t ≤ 3 → A 5 t ≤ 7 → ts_ZT l 405 24 420 hi0 hi → (∀ hi', ts_ZT (ts_lvs l (ts_pzL (A 0 t))) 405 24 420 hi0 hi' → Q (ts_pz (A 0 t) t (A 5 t) (A 1 t)) hi' hk) → ts_E0 (d + 2) mX12_plainSize [.ref 405, .int (nI t)] g hi hk (ts_qi Q) := by
  intro hM hR hc ht hk1 hk2 h5 h q
  refine ts_E0.of plX12_plainSize rfl (Nat.le_of_ble_eq_true rfl) ?_
  refine wX12_plainSize_0 ⟨hM.kd, c_kindIn hM (h.mr hc hR) hc ht ?_⟩
  have e2 : (4 + (6 * nI t)) + 1 = nI (4 + 6 * t + 1) := by rw [ts_l4, ts_l6, ts_l1, pk_mul, nI_add, nI_add]
  simp only [ts_LM.kd hM, ts_LM.o0 hM, ts_LM.k0 hM, ts_LM.l0 hM, ts_LM.o1 hM, ts_LM.k1 hM, ts_LM.l1 hM, ts_LM.o2 hM, ts_LM.k2 hM, ts_LM.l2 hM, ts_LM.o3 hM, ts_LM.k3 hM, ts_LM.l3 hM, ts_LM.o5 hM, ts_LM.k5 hM, ts_LM.l5 hM, ts_LM.o13 hM, ts_LM.k13 hM, ts_LM.l13 hM, ts_LM.o14 hM, ts_LM.k14 hM, ts_LM.l14 hM, ts_LM.o15 hM, ts_LM.k15 hM, ts_LM.l15 hM, ts_LM.o16 hM, ts_LM.k16 hM, ts_LM.l16 hM, ts_LM.o18 hM, ts_LM.k18 hM, ts_LM.l18 hM, ts_LM.o19 hM, ts_LM.k19 hM, ts_LM.l19 hM, ts_LM.o20 hM, ts_LM.k20 hM, ts_LM.l20 hM, ts_LM.o21 hM, ts_LM.k21 hM, ts_LM.l21 hM, ts_LM.o22 hM, ts_LM.k22 hM, ts_LM.l22 hM, ts_LM.o23 hM, ts_LM.k23 hM, ts_LM.l23 hM]
  rw [e2, ts_cl (by omega), ts_l2, ts_ne (by omega) (by omega)]
  refine ⟨fun c => ?_, fun c => ?_⟩
  · refine c_begins (b := 11) hM h (fun hi3 z3 => c_begins (b := 10) hM z3 (fun hi4 z4 => ?_))
    have zr := ((z4.mr hc hR).2.2.2.2 t ht).2.1
    rw [Nat.zero_add] at zr
    rw [zr]
    refine ⟨by omega, trivial, ts_vin (by omega) (by omega), c_plainMark hM hR hc ht hk1 hk2 h5 z4 (fun hi5 z5 => ?_)⟩
    have z6 : ts_ZT (ts_lvs (ts_lvs l [11, 10]) (ts_pmL (A 0 t))) 405 24 420 hi0 hi5 := z5
    rw [ts_lvs_app] at z6
    have e4 : [11, 10] ++ ts_pmL (A 0 t) = ts_pzL (A 0 t) := by
      have e3 : A 0 t = 1 ∨ A 0 t = 3 := by omega
      rcases e3 with e3 | e3 <;> rw [e3] <;> rfl
    rw [e4] at z6
    have q5 := q hi5 z6
    unfold ts_pz at q5
    rw [if_neg c] at q5
    exact q5
  · have c2 := Decidable.not_not.mp c
    refine c_begins (b := 12) hM h (fun hi2 z2 => c_begins (b := 11) hM z2 (fun hi3 z3 => c_begins (b := 10) hM z3 (fun hi4 z4 => ?_)))
    have zr := ((z4.mr hc hR).2.2.2.2 t ht).2.1
    rw [Nat.zero_add] at zr
    rw [zr]
    refine ⟨by omega, trivial, ts_vin (by omega) (by omega), c_plainMark hM hR hc ht hk1 hk2 h5 z4 (fun hi5 z5 => ?_)⟩
    have z6 : ts_ZT (ts_lvs (ts_lvs l [12, 11, 10]) (ts_pmL (A 0 t))) 405 24 420 hi0 hi5 := z5
    rw [ts_lvs_app] at z6
    have e4 : [12, 11, 10] ++ ts_pmL (A 0 t) = ts_pzL (A 0 t) := by rw [c2]; rfl
    rw [e4] at z6
    have q5 := q hi5 z6
    unfold ts_pz at q5
    rw [if_pos c2] at q5
    exact q5
end
theorem y_ask {d : Nat} {g : ts_G} {S : ts_S} {a1 a2 : Int32} {hi : ts_I} {hk : ts_K} {Q : Int32 → ts_I → ts_K → Prop} (hM : ts_LM g) (hS : ts_SV S) (h : ts_MI S hi) (q : ts_QM (ts_s_ask S a1 a2) hi hk Q) : ts_E0 (d + 25) mX12_ask [.ref 405, .int a1, .int a2] g hi hk (ts_qi Q) := by
  refine ts_E0.of plX12_ask rfl (Nat.le_of_ble_eq_true rfl) ?_
  refine wX12_ask_0 ?_
  unfold ts_s_ask at q
  have hok := hS.1.1
  have hc := hok.1
  refine ⟨hM.kd, c_isTurnip hM h.1 hc (fun h1 => ⟨fun e => absurd e (by decide), fun _ => c_inq (fun h2 => ⟨fun _ => fun hi2 x2 => ?_, fun e => absurd (by decide) e⟩) (fun n2 => ⟨fun e => absurd rfl e, fun _ => ?_⟩)⟩) (fun n1 => ⟨fun _ => ?_, fun e => absurd rfl e⟩)⟩
  · rw [if_pos ⟨h1, h2⟩] at q
    obtain ⟨t, ht, rfl⟩ := h1.get hc
    rw [ts_cl (n := t) (by omega)] at q
    have hk1 := (hok.2.2.2.2 t ht).1
    have h5 := (hok.2.2.2.2 t ht).2.2.2.2.2.1
    have z0 : ts_ZT [] 405 24 420 hi hi2 := ⟨⟨by rw [x2, ts_up_eq]; rfl, fun i b hb => by simp at hb⟩, by simp, fun c c1 _ => by rw [x2]; funext s; rw [ts_up_a c1], fun u hu => by rw [x2, ts_up_s hu]⟩
    have fin : ∀ v tr hi', (∀ hi'', ts_MI (S.setC tr) hi'' → (∀ b, b ≤ 404 → hi'' b = hi b) → Q v hi'' hk) → ts_ZT tr 405 24 420 hi hi' → Q v hi' hk := fun v tr hi' q' z => q' hi' (h.trace hS z.2.2.2 z.2.2.1 z.1) (fun b hb => z.2.2.1 b (by omega) (by omega))
    refine c_kindIn hM (z0.mr hc h.1) hc ht ?_
    rw [ts_l4, ts_lt (by omega) (by omega)]
    refine ⟨fun c4 => ⟨fun e => ?_, fun e => ?_⟩, fun c4 => ⟨fun e => ?_, fun e => ?_⟩⟩
    · rw [if_neg e, if_pos c4] at q
      exact c_plainMark hM h.1 hc ht hk1.1 (by omega) (by omega) z0 (fun hi3 z => fin _ _ hi3 q z)
    · rw [if_pos (Decidable.not_not.mp e), if_pos c4] at q
      exact c_plainSize hM h.1 hc ht hk1.1 (by omega) (by omega) z0 (fun hi3 z => fin _ _ hi3 q z)
    · rw [if_neg e, if_neg c4] at q
      refine ts_E0.of plX12_fellowMark rfl (Nat.le_of_ble_eq_true rfl) ?_
      refine wX12_fellowMark_0 ⟨hM.kd, c_begins (b := 23) hM z0 (fun hi3 z3 => c_begins (b := 20) hM z3 (fun hi4 z4 => c_fellowSize hM h.1 hc ht (by omega) hk1.2 z4 (fun hi5 z5 => fin _ _ hi5 q ?_)))⟩
      have e3 : S.A 0 t = 4 ∨ S.A 0 t = 5 := by omega
      rcases e3 with e3 | e3 <;> rw [e3] at z5 ⊢ <;> exact z5
    · rw [if_pos (Decidable.not_not.mp e), if_neg c4] at q
      exact c_fellowSize hM h.1 hc ht (by omega) hk1.2 z0 (fun hi3 z => fin _ _ hi3 q z)
  · rw [if_neg (fun x => n2 x.2)] at q
    exact q.st h
  · rw [if_neg (fun x => n1 x.1)] at q
    exact q.st h
theorem ts_SV.trace {S : ts_S} {bs : List Nat} (hS : ts_SV S) (hb : ∀ b, b ∈ bs → b ≤ 24) : ts_SV (S.setC (ts_lvs [] bs)) := by
  obtain ⟨h1, h2, h3, h4, h5, h6, h7, h8, h9⟩ := hS
  refine ⟨h1, h2, h3, h4, h5, h6, h7, h8, ?_, ?_⟩
  · exact ts_lvs_len (l := []) (by simp)
  · exact ts_lvs_mem hb (l := []) (fun b hb => by simp at hb)
theorem v_ask {S : ts_S} {a1 a2 : Int32} (hS : ts_SV S) : ts_SV (ts_s_ask S a1 a2).2 := by
  unfold ts_s_ask
  repeat' split
  · refine hS.trace ?_
    unfold ts_pzL
    repeat' split
    all_goals (intro b hb; simp at hb; omega)
  · refine hS.trace ?_
    unfold ts_fzL
    repeat' split
    all_goals (intro b hb; simp at hb; omega)
  · refine hS.trace ?_
    unfold ts_pmL
    repeat' split
    all_goals (intro b hb; simp at hb; omega)
  · refine hS.trace ?_
    unfold ts_fmL
    repeat' split
    all_goals (intro b hb; simp at hb; omega)
  · exact hS
