/-! foretold: pairs, change, drawn -/
theorem ts_ch_iv {c : Nat} {ms : List Nat} {r : List (List Nat)} (h : ts_ch c (ms :: r) = true) : ts_iv c ms := by
  rw [ts_ch.eq_def] at h
  simp only [Bool.and_eq_true, decide_eq_true_eq, List.all_eq_true, List.mem_range, Bool.or_eq_true] at h
  refine ⟨h.1.1, fun t ht => ?_⟩
  have z := h.1.2 t ht
  rcases z with z | z
  · exact Or.inl z
  · exact Or.inr ⟨z.1.1.1, z.1.1.2, z.1.2, z.2⟩
theorem ts_ch_nil {c : Nat} {ms : List Nat} (h : ts_ch c [ms] = true) : ts_nt c ms c = [] := by
  rw [ts_ch.eq_def] at h
  simp only [Bool.and_eq_true, decide_eq_true_eq] at h
  exact h.2
theorem ts_ch_cons {c : Nat} {ms ms2 : List Nat} {r : List (List Nat)} (h : ts_ch c (ms :: ms2 :: r) = true) : ts_nt c ms c = ms2 ∧ ms2 ≠ [] ∧ ts_ch c (ms2 :: r) = true := by
  rw [ts_ch.eq_def] at h
  simp only [Bool.and_eq_true, decide_eq_true_eq] at h
  exact ⟨h.2.1.1, h.2.1.2, h.2.2⟩
/-- the best so far is a way, if there is one -/
theorem ts_wg_iv {A : ts_A} {n : Nat} : ∀ (l : List (List Nat)) (w : Nat × List Nat), (∀ m ∈ l, ts_iv (A 6 0) m) → ts_iv (A 6 0) w.2 → ts_iv (A 6 0) (l.foldl (ts_wg A n) w).2 := by
  intro l
  induction l with
  | nil => intro w _ hw; exact hw
  | cons m r ih =>
    intro w hl hw
    rw [List.foldl_cons]
    refine ih _ (fun x hx => hl x (List.mem_cons_of_mem _ hx)) ?_
    unfold ts_wg
    split
    · exact hl m List.mem_cons_self
    · exact hw
theorem ts_wg_ge {A : ts_A} {n : Nat} : ∀ (l : List (List Nat)) (w : Nat × List Nat), w.1 ≠ 0 → (l.foldl (ts_wg A n) w).1 ≠ 0 := by
  intro l
  induction l with
  | nil => intro w hw; exact hw
  | cons m r ih =>
    intro w hw
    rw [List.foldl_cons]
    refine ih _ ?_
    unfold ts_wg
    split
    · exact Nat.succ_ne_zero _
    · exact hw
theorem ts_ch_all {c : Nat} : ∀ l, ts_ch c l = true → ∀ m ∈ l, ts_iv c m := by
  intro l
  induction l with
  | nil => intro _ m hm; cases hm
  | cons a r ih =>
    intro h m hm
    rw [List.mem_cons] at hm
    rcases hm with e | e
    · rw [e]; exact ts_ch_iv h
    · cases r with
      | nil => cases e
      | cons b r => exact ih (ts_ch_cons h).2.2 m e
theorem ts_en_cons {c : Nat} (hc : c < 8) : ∃ r, ts_en c c 0 ts_e7 = ts_e7 :: r := by
  have z := (ts_chk c hc).1
  cases h : ts_en c c 0 ts_e7 with
  | nil => rw [h] at z; cases z
  | cons a r =>
    rw [h] at z
    have e : a = ts_e7 := by simpa using z
    exact ⟨r, by rw [e]⟩
theorem ts_bp_ok {A : ts_A} (hc : A 6 0 ≤ 7) (n : Nat) : (ts_bp A n).1 ≠ 0 ∧ ts_iv (A 6 0) (ts_bp A n).2 := by
  have hch := (ts_chk (A 6 0) (by omega)).2
  refine ⟨?_, ts_wg_iv _ _ (ts_ch_all _ hch) (ts_iv7 _)⟩
  obtain ⟨r, hr⟩ := ts_en_cons (c := A 6 0) (by omega)
  unfold ts_bp
  rw [hr, List.foldl_cons]
  refine ts_wg_ge _ _ ?_
  unfold ts_wg
  rw [if_pos (Nat.succ_pos _)]
  exact Nat.succ_ne_zero _
def ts_s_pairs (S : ts_S) (a1 a2 : Int32) : Int32 × ts_S :=
  (if S.A 6 0 = 0 then -1000002 else if (1 ≤ a1 ∧ a1 ≤ 20) ∧ (a2 = -1 ∨ ts_T S.A a2) then (if a2 = -1 then ts_mo (ts_bp S.A a1.toNatClampNeg).1 else ts_nN ((ts_bp S.A a1.toNatClampNeg).2.getD a2.toNatClampNeg 7)) else -1000001, S)
theorem ts_TK.of2 {hk hk' : ts_K} (h : ts_TK hk) (hok : ∀ b, b ≠ 396 → hk' b = hk b) (hK : ts_FK 395 hk') : ts_TK hk' := h.tri hK hok
theorem x_pairs {d : Nat} {g : ts_G} {S : ts_S} {a1 a2 : Int32} {hi : ts_I} {hk : ts_K} {Q : Int32 → ts_I → ts_K → Prop} (hX : ts_LX g) (hS : ts_SV S) (h : ts_XI S hi hk) (q : ts_QX (ts_s_pairs S a1 a2) hi Q) : ts_E0 (d + 25) mX11_pairs [.ref 1, .int a1, .int a2] g hi hk (ts_qi Q) := by
  refine ts_E0.of plX11_pairs rfl (Nat.le_of_ble_eq_true rfl) ?_
  refine wX11_pairs_0 ?_
  unfold ts_s_pairs at q
  have hok := hS.1.1
  have hc := hok.1
  have hF := hX.now
  simp only [ts_LX.s0 hX, ts_LX.s1 hX, ts_LX.s2 hX, ts_LX.s3 hX, ts_LX.s4 hX, ts_LX.s5 hX, ts_LX.s6 hX, ts_LX.s7 hX, ts_LX.s8 hX, ts_LX.s9 hX, ts_LX.s10 hX, ts_LX.s11 hX, ts_LX.s12 hX, ts_LX.s13 hX, ts_LX.s14 hX, ts_LX.s15 hX, ts_LX.s16 hX, ts_LX.s17 hX, ts_LX.s18 hX, ts_LX.s19 hX, ts_LX.s20 hX, ts_LX.s21 hX, ts_LX.s22 hX, ts_LX.s23 hX, ts_LX.s24 hX, ts_LX.s25 hX, ts_LX.s26 hX, ts_LX.s27 hX, ts_LX.s28 hX, ts_LX.s29 hX, ts_LX.s30 hX, ts_LX.s31 hX, ts_LX.s32 hX, ts_LX.s33 hX, ts_LX.s34 hX, ts_LX.s35 hX, ts_LX.s36 hX, ts_LX.s37 hX, ts_LX.s38 hX, ts_FL.kd hF, ts_FL.k1 hF, ts_FL.k2 hF, ts_FL.k3 hF, ts_FL.k4 hF, ts_FL.k5 hF, ts_FL.k6 hF, ts_FL.k7 hF, ts_FL.k8 hF, ts_FL.k9 hF, ts_FL.l1 hF, ts_FL.l2 hF, ts_FL.l3 hF, ts_FL.l4 hF, ts_FL.l5 hF, ts_FL.l6 hF, ts_FL.l7 hF, ts_FL.l8 hF, ts_FL.l9 hF, ts_FL.o0 hF, ts_FL.o1 hF, ts_FL.o2 hF, ts_FL.o3 hF, ts_FL.o4 hF, ts_FL.o5 hF, ts_FL.o6 hF, ts_FL.o7 hF, ts_FL.o8 hF]
  rw [h.1.1, ts_l0, ts_ne (by omega) (by omega)]
  refine ⟨trivial, by omega, trivial, fun c => ?_, fun c => ?_⟩
  · rw [if_neg c] at q
    refine c_outside (fun h1 => ⟨fun e => absurd rfl e, fun _ => ?_⟩) (fun n1 => ⟨fun _ => ?_, fun e => absurd (by decide) e⟩)
    · obtain ⟨n, hn1, hn, rfl⟩ := ts_rg (a := 1) (b := 20) (by omega) h1.1 h1.2 (by omega)
      rw [ts_cl (by omega)] at q
      have hbp := ts_bp_ok (A := S.A) hc n
      have K : (a2 = -1 ∨ ts_T S.A a2) → ts_E0 (d + 24) mX7_findBestPairs [.ref 311, .int (nI n)] g hi hk (ts_qv (fun hi11 hk12 => ((a2 ≠ (-1)) → (314 ≠ 0) ∧ True ∧ (vp_in a2 7) ∧ ts_E0 (d + 24) mX11_mateToTell [.int (hi11 314 a2.toNatClampNeg)] g hi11 hk12 (ts_qi (fun v20 hi18 hk19 => Q v20 hi18 hk19))) ∧ (¬ (a2 ≠ (-1)) → Q (hi11 311 6) hi11 hk12))) := by
        intro ha
        rw [if_pos ⟨h1, ha⟩] at q
        refine c_findBestPairs hX hok (ts_y1 hS (by omega)) h.1 (h.fk (j := 26) (by omega)) (h.tk 8 (by omega)) (fun hi2 hk2 hP hPF => ?_)
        obtain ⟨p1, p2, p3, p4, p5, p6, p7⟩ := hP
        have hX2 := h.tri p3 (fun b hb => hPF.1 b (by omega) (by omega) (by omega) (by omega)) hPF.2.1
        have hf : ∀ b, 404 < b → hi2 b = hi b := fun b hb => hPF.1 b (by omega) (by omega) (by omega) (by omega)
        by_cases e : a2 = -1
        · rw [if_pos e] at q
          refine ⟨fun x => absurd e x, fun _ => ?_⟩
          rw [p6]
          exact q hi2 hk2 hX2 hf
        · rw [if_neg e] at q
          have hT : ts_T S.A a2 := by
            rcases ha with x | x
            · exact absurd x e
            · exact x
          obtain ⟨t, ht, rfl⟩ := hT.get hc
          rw [ts_cl (by omega)] at q ⊢
          rw [p7 hbp.1 t (by omega)]
          have hb7 : (ts_bp S.A n).2.getD t 7 < 1000 := by
            rcases hbp.2.2 t (by omega) with z | z <;> omega
          exact ⟨fun _ => ⟨by omega, trivial, ts_vin (by omega) (by omega), c_mateToTell hb7 (q hi2 hk2 hX2 hf)⟩, fun x => absurd e x⟩
      refine ⟨fun e => ⟨by omega, trivial, K (Or.inl e)⟩, fun e => c_XisTurnip hX h.1 (fun h2 => ⟨fun _ => ⟨by omega, trivial, K (Or.inr h2)⟩, fun e => absurd (by decide) e⟩) (fun n2 => ⟨fun e => absurd rfl e, fun _ => ?_⟩)⟩
      rw [if_neg (fun x => by rcases x.2 with y | y; exact e y; exact n2 y)] at q
      exact q.st h
    · rw [if_neg (fun x => n1 x.1)] at q
      exact q.st h
  · rw [if_pos (Decidable.not_not.mp c)] at q
    exact q.st h
/-- the model weighs one way, then looks for the next -/
theorem y_pairs_step {d n : Nat} {g : ts_G} {S : ts_S} {a2 : Int32} {hk : ts_K} {hi hi' : ts_I} {ms : List Nat} {w : Nat × List Nat} {Q : Int32 → ts_I → ts_K → Prop} (hM : ts_LM g) (hS : ts_SV S) (h : ts_MI S hi) (hn : n ≤ 100) (hv : ts_iv (S.A 6 0) ms) (hw : w.1 ≤ 64)
    (hO : ∀ b, b ≠ 413 → b ≠ 417 → b ≠ 418 → b ≠ 419 → hi' b = hi b) (hL : ts_ML ms hi') (hB : w.1 ≠ 0 → ∀ t, t < 7 → hi' 419 t = ts_nN (w.2.getD t 7))
    (K : ∀ hi3, (∀ b, b ≠ 413 → b ≠ 417 → b ≠ 418 → b ≠ 419 → hi3 b = hi b) → ts_ML ms hi3 → ((ts_wg S.A n w ms).1 ≠ 0 → ∀ t, t < 7 → hi3 419 t = ts_nN ((ts_wg S.A n w ms).2.getD t 7)) → (ts_wg S.A n w ms).1 ≤ 64 → ts_E0 (d + 24) mX12_marries [.ref 405] g hi3 hk (ts_qi (fun v hi4 hk4 => ts_J0 (d + 25) mX12_pairs (ts_qi Q) g 63 [(0, .ref 405), (1, .int (nI n)), (2, .int a2), (3, .int (ts_mo (ts_wg S.A n w ms).1)), (4, .int v)] [] hi4 hk4))) :
    ts_J0 (d + 25) mX12_pairs (ts_qi Q) g 63 [(0, .ref 405), (1, .int (nI n)), (2, .int a2), (3, .int (ts_mo w.1)), (4, .int 1)] [] hi' hk := by
  have hok := hS.1.1
  have hc := hok.1
  have r2 := h.1.2.2.1
  rw [Nat.zero_add] at r2
  refine wX12_pairs_63 ⟨fun e => absurd e (by decide), fun _ => ?_⟩
  simp only [ts_LM.kd hM, ts_LM.o0 hM, ts_LM.k0 hM, ts_LM.l0 hM, ts_LM.o1 hM, ts_LM.k1 hM, ts_LM.l1 hM, ts_LM.o2 hM, ts_LM.k2 hM, ts_LM.l2 hM, ts_LM.o3 hM, ts_LM.k3 hM, ts_LM.l3 hM, ts_LM.o5 hM, ts_LM.k5 hM, ts_LM.l5 hM, ts_LM.o13 hM, ts_LM.k13 hM, ts_LM.l13 hM, ts_LM.o14 hM, ts_LM.k14 hM, ts_LM.l14 hM, ts_LM.o15 hM, ts_LM.k15 hM, ts_LM.l15 hM, ts_LM.o16 hM, ts_LM.k16 hM, ts_LM.l16 hM, ts_LM.o18 hM, ts_LM.k18 hM, ts_LM.l18 hM, ts_LM.o19 hM, ts_LM.k19 hM, ts_LM.l19 hM, ts_LM.o20 hM, ts_LM.k20 hM, ts_LM.l20 hM, ts_LM.o21 hM, ts_LM.k21 hM, ts_LM.l21 hM, ts_LM.o22 hM, ts_LM.k22 hM, ts_LM.l22 hM, ts_LM.o23 hM, ts_LM.k23 hM, ts_LM.l23 hM]
  have hR' : ts_MR 411 0 S.A hi' := ts_MR.of hc h.1 (fun u _ => by rw [hO 411 (by omega) (by omega) (by omega) (by omega)])
  refine ⟨trivial, by omega, by omega, y_tries hM hS hR' (fun hi2 hR2 ho2 => ?_)⟩
  have hokw := ts_ok_wm hok hv
  have hyw : ts_wm S.A ms 6 1 + n ≤ 1000000 := ts_y1 hS hn
  have hokn := ts_pn_ok hokw n hyw
  have hrk := ts_rk_le hokn
  -- the best line is laid down
  have L3 : ∀ hi4, ¬ ts_rk (ts_pn (ts_wm S.A ms) n) + 1 ≤ w.1 → (∀ b, b ≠ 413 → b ≠ 417 → b ≠ 418 → b ≠ 419 → hi4 b = hi b) → ts_ML ms hi4 → ∀ m k hi5, k + m = 7 → (∀ b, b ≠ 419 → hi5 b = hi4 b) → (∀ u, u < k → hi5 419 u = ts_nN (ms.getD u 7)) → ts_J0 (d + 25) mX12_pairs (ts_qi Q) g 140 [(0, .ref 405), (1, .int (nI n)), (2, .int a2), (3, .int (ts_mo w.1)), (5, .int (nI (ts_rk (ts_pn (ts_wm S.A ms) n)))), (6, .int (nI k))] [] hi5 hk := by
    intro hi4 hgt hO4 hL4 m
    have ewg : ts_wg S.A n w ms = (ts_rk (ts_pn (ts_wm S.A ms) n) + 1, ms) := by
      unfold ts_wg
      rw [if_pos (by omega)]
    have emo : ts_mo (ts_wg S.A n w ms).1 = nI (ts_rk (ts_pn (ts_wm S.A ms) n)) := by
      rw [ewg]
      unfold ts_mo
      rw [if_neg (Nat.succ_ne_zero _)]
      rfl
    induction m with
    | zero =>
      intro k hi5 hkm hO5 hI
      refine wX12_pairs_140 ?_
      rw [ts_l7, ts_le (by omega) (by omega), ts_mo_le (by omega) (by omega)]
      refine ⟨fun _ => ⟨fun e => absurd e hgt, fun _ => ⟨hM.kd, ?_⟩⟩, fun e => absurd (by omega) e⟩
      rw [← emo]
      refine K hi5 (fun b b1 b2 b3 b4 => by rw [hO5 b b4, hO4 b b1 b2 b3 b4]) (fun t ht => by rw [hO5 418 (by omega)]; exact hL4 t ht) (fun _ t ht => ?_) (by rw [ewg]; show _ + 1 ≤ 64; omega)
      rw [ewg]
      exact hI t (by omega)
    | succ m ih =>
      intro k hi5 hkm hO5 hI
      refine wX12_pairs_140 ?_
      simp only [ts_LM.kd hM, ts_LM.o0 hM, ts_LM.k0 hM, ts_LM.l0 hM, ts_LM.o1 hM, ts_LM.k1 hM, ts_LM.l1 hM, ts_LM.o2 hM, ts_LM.k2 hM, ts_LM.l2 hM, ts_LM.o3 hM, ts_LM.k3 hM, ts_LM.l3 hM, ts_LM.o5 hM, ts_LM.k5 hM, ts_LM.l5 hM, ts_LM.o13 hM, ts_LM.k13 hM, ts_LM.l13 hM, ts_LM.o14 hM, ts_LM.k14 hM, ts_LM.l14 hM, ts_LM.o15 hM, ts_LM.k15 hM, ts_LM.l15 hM, ts_LM.o16 hM, ts_LM.k16 hM, ts_LM.l16 hM, ts_LM.o18 hM, ts_LM.k18 hM, ts_LM.l18 hM, ts_LM.o19 hM, ts_LM.k19 hM, ts_LM.l19 hM, ts_LM.o20 hM, ts_LM.k20 hM, ts_LM.l20 hM, ts_LM.o21 hM, ts_LM.k21 hM, ts_LM.l21 hM, ts_LM.o22 hM, ts_LM.k22 hM, ts_LM.l22 hM, ts_LM.o23 hM, ts_LM.k23 hM, ts_LM.l23 hM]
      rw [ts_l7, ts_le (by omega) (by omega), ts_mo_le (by omega) (by omega), ts_cl (by omega), hO5 418 (by omega), hL4 k (by omega), ts_l1, nI_add]
      refine ⟨fun e => absurd e (by omega), fun _ => ⟨fun e => absurd e hgt, fun _ => ⟨trivial, by omega, by omega, trivial, ts_vin (by omega) (by omega), trivial, ts_vin (by omega) (by omega), fun hi6 x6 => ih (k + 1) hi6 (by omega) (fun b hb => by rw [x6]; funext s; rw [ts_up_a hb, hO5 b hb]) (fun u hu => ?_)⟩⟩⟩
      rw [x6]
      by_cases e : u = k
      · rw [e, ts_up_eq]
      · rw [ts_up_s e]; exact hI u (by omega)
  -- the mates of what is tried
  have L1 : ∀ m t hi3, t + m = S.A 6 0 → (∀ b, b ≠ 413 → hi3 b = hi2 b) → (∀ s, (∀ u, u < S.A 6 0 → s ≠ 4 + 6 * u + 5) → hi3 413 s = hi2 413 s) → (∀ u, u < t → hi3 413 (4 + 6 * u + 5) = ts_nN (ms.getD u 7)) → ts_J0 (d + 25) mX12_pairs (ts_qi Q) g 84 [(0, .ref 405), (1, .int (nI n)), (2, .int a2), (3, .int (ts_mo w.1)), (5, .int (nI t))] [] hi3 hk := by
    intro m
    induction m with
    | zero =>
      intro t hi3 htm hO3 hI1 hI2
      refine wX12_pairs_84 ?_
      simp only [ts_LM.kd hM, ts_LM.o0 hM, ts_LM.k0 hM, ts_LM.l0 hM, ts_LM.o1 hM, ts_LM.k1 hM, ts_LM.l1 hM, ts_LM.o2 hM, ts_LM.k2 hM, ts_LM.l2 hM, ts_LM.o3 hM, ts_LM.k3 hM, ts_LM.l3 hM, ts_LM.o5 hM, ts_LM.k5 hM, ts_LM.l5 hM, ts_LM.o13 hM, ts_LM.k13 hM, ts_LM.l13 hM, ts_LM.o14 hM, ts_LM.k14 hM, ts_LM.l14 hM, ts_LM.o15 hM, ts_LM.k15 hM, ts_LM.l15 hM, ts_LM.o16 hM, ts_LM.k16 hM, ts_LM.l16 hM, ts_LM.o18 hM, ts_LM.k18 hM, ts_LM.l18 hM, ts_LM.o19 hM, ts_LM.k19 hM, ts_LM.l19 hM, ts_LM.o20 hM, ts_LM.k20 hM, ts_LM.l20 hM, ts_LM.o21 hM, ts_LM.k21 hM, ts_LM.l21 hM, ts_LM.o22 hM, ts_LM.k22 hM, ts_LM.l22 hM, ts_LM.o23 hM, ts_LM.k23 hM, ts_LM.l23 hM]
      rw [show (2 : Int32).toNatClampNeg = 2 from rfl, hO3 411 (by omega), ho2 411 (by omega), hO 411 (by omega) (by omega) (by omega) (by omega), r2, ts_le (by omega) (by omega)]
      refine ⟨trivial, by omega, trivial, ts_vin (i := 2) (by omega) (by omega), fun _ => ?_, fun e => absurd (by omega) e⟩
      have hRw : ts_MR 413 0 (ts_wm S.A ms) hi3 := ts_MR.mate hR2 (fun _ => rfl) (fun c t hc9 => if_neg hc9) hI1 (fun u hu => hI2 u (by omega))
      refine c_goesOn hM hRw hokw hyw (fun hi4 hR4 ho4 => ⟨by omega, c_sumOf (w := 1) hM.k15 hM.l15 hR4 hokn (Or.inl rfl) ?_⟩)
      rw [if_pos rfl]
      have hO4 : ∀ b, b ≠ 413 → b ≠ 417 → b ≠ 418 → b ≠ 419 → hi4 b = hi b := fun b b1 b2 b3 b4 => by rw [ho4 b b1 b2, hO3 b b1, ho2 b b1, hO b b1 b2 b3 b4]
      have hO4' : ∀ b, b ≠ 413 → b ≠ 417 → hi4 b = hi' b := fun b b1 b2 => by rw [ho4 b b1 b2, hO3 b b1, ho2 b b1]
      have hL4 : ts_ML ms hi4 := fun t ht => by rw [hO4' 418 (by omega) (by omega)]; exact hL t ht
      by_cases hle : ts_rk (ts_pn (ts_wm S.A ms) n) + 1 ≤ w.1
      · have ewg : ts_wg S.A n w ms = w := by
          unfold ts_wg
          rw [if_neg (by omega)]
        rw [ewg] at K
        refine wX12_pairs_140 ?_
        rw [ts_l7, ts_l0, ts_le (by omega) (by omega), ts_mo_le (by omega) (by omega)]
        exact ⟨fun e => absurd e (by omega), fun _ => ⟨fun _ => ⟨fun _ => ⟨hM.kd, K hi4 hO4 hL4 (fun hw0 t ht => by rw [hO4' 419 (by omega) (by omega)]; exact hB hw0 t ht) hw⟩, fun e => absurd hle e⟩, fun e => absurd hle e⟩⟩
      · exact L3 hi4 hle hO4 hL4 7 0 hi4 (by omega) (fun _ _ => rfl) (fun u hu => by omega)
    | succ m ih =>
      intro t hi3 htm hO3 hI1 hI2
      refine wX12_pairs_84 ?_
      simp only [ts_LM.kd hM, ts_LM.o0 hM, ts_LM.k0 hM, ts_LM.l0 hM, ts_LM.o1 hM, ts_LM.k1 hM, ts_LM.l1 hM, ts_LM.o2 hM, ts_LM.k2 hM, ts_LM.l2 hM, ts_LM.o3 hM, ts_LM.k3 hM, ts_LM.l3 hM, ts_LM.o5 hM, ts_LM.k5 hM, ts_LM.l5 hM, ts_LM.o13 hM, ts_LM.k13 hM, ts_LM.l13 hM, ts_LM.o14 hM, ts_LM.k14 hM, ts_LM.l14 hM, ts_LM.o15 hM, ts_LM.k15 hM, ts_LM.l15 hM, ts_LM.o16 hM, ts_LM.k16 hM, ts_LM.l16 hM, ts_LM.o18 hM, ts_LM.k18 hM, ts_LM.l18 hM, ts_LM.o19 hM, ts_LM.k19 hM, ts_LM.l19 hM, ts_LM.o20 hM, ts_LM.k20 hM, ts_LM.l20 hM, ts_LM.o21 hM, ts_LM.k21 hM, ts_LM.l21 hM, ts_LM.o22 hM, ts_LM.k22 hM, ts_LM.l22 hM, ts_LM.o23 hM, ts_LM.k23 hM, ts_LM.l23 hM]
      rw [show (2 : Int32).toNatClampNeg = 2 from rfl, hO3 411 (by omega), ho2 411 (by omega), hO 411 (by omega) (by omega) (by omega) (by omega), r2, ts_le (by omega) (by omega)]
      simp only [ts_l4, ts_l6, ts_l5, pk_mul, nI_add, ts_l1]
      rw [ts_cl (n := t) (by omega), ts_cl (n := 4 + 6 * t + 5) (by omega), hO3 418 (by omega), ho2 418 (by omega), hL t (by omega)]
      refine ⟨trivial, by omega, trivial, ts_vin (i := 2) (by omega) (by omega), fun e => absurd e (by omega), fun _ => ⟨by omega, by omega, trivial, ts_vin (by omega) (by omega), trivial, ts_vin (by omega) (by omega), fun hi4 x4 => ih (t + 1) hi4 (by omega) (fun b hb => by rw [x4]; funext s; rw [ts_up_a hb, hO3 b hb]) (fun s hs => by rw [x4, ts_up_s (hs t (by omega)), hI1 s hs]) (fun u hu => ?_)⟩⟩
      rw [x4]
      by_cases e : u = t
      · rw [e, ts_up_eq]
      · rw [ts_up_s (by omega)]; exact hI2 u (by omega)
  exact L1 (S.A 6 0) 0 hi2 (by omega) (fun _ _ => rfl) (fun _ _ => rfl) (fun u hu => by omega)
/-- the model goes through the ways from ms on -/
theorem y_pairs_loop {d n : Nat} {g : ts_G} {S : ts_S} {a2 : Int32} {hk : ts_K} {hi : ts_I} {Q : Int32 → ts_I → ts_K → Prop} (hM : ts_LM g) (hS : ts_SV S) (h : ts_MI S hi) (hn : n ≤ 100)
    (q : ∀ hi', (∀ b, b ≠ 413 → b ≠ 417 → b ≠ 418 → b ≠ 419 → hi' b = hi b) → (∀ t, t < 7 → hi' 419 t = ts_nN ((ts_bp S.A n).2.getD t 7)) → ts_J0 (d + 25) mX12_pairs (ts_qi Q) g 63 [(0, .ref 405), (1, .int (nI n)), (2, .int a2), (3, .int (ts_mo (ts_bp S.A n).1)), (4, .int 0)] [] hi' hk) :
    ∀ (r : List (List Nat)) (ms : List Nat) (w : Nat × List Nat) (hi' : ts_I), ts_ch (S.A 6 0) (ms :: r) = true → (ms :: r).foldl (ts_wg S.A n) w = ts_bp S.A n → w.1 ≤ 64 → (∀ b, b ≠ 413 → b ≠ 417 → b ≠ 418 → b ≠ 419 → hi' b = hi b) → ts_ML ms hi' → (w.1 ≠ 0 → ∀ t, t < 7 → hi' 419 t = ts_nN (w.2.getD t 7)) → ts_J0 (d + 25) mX12_pairs (ts_qi Q) g 63 [(0, .ref 405), (1, .int (nI n)), (2, .int a2), (3, .int (ts_mo w.1)), (4, .int 1)] [] hi' hk := by
  have hok := hS.1.1
  have hc := hok.1
  intro r
  induction r with
  | nil =>
    intro ms w hi' hch hf hw hO hL hB
    have hb := ts_bp_ok (A := S.A) hc n
    rw [List.foldl_cons, List.foldl_nil] at hf
    have hv := ts_ch_iv hch
    refine y_pairs_step hM hS h hn hv hw hO hL hB (fun hi3 hO3 hL3 hB3 _ => ?_)
    rw [hf] at hB3 ⊢
    have hR3 : ts_MR 411 0 S.A hi3 := ts_MR.of hc h.1 (fun u _ => by rw [hO3 411 (by omega) (by omega) (by omega) (by omega)])
    exact c_marries hM hR3 hc hv hL3 (fun _ => q hi3 hO3 (hB3 hb.1)) (fun hi4 hne _ _ => absurd (ts_ch_nil hch) hne)
  | cons ms2 r ih =>
    intro ms w hi' hch hf hw hO hL hB
    rw [List.foldl_cons] at hf
    have hv := ts_ch_iv hch
    obtain ⟨c1, c2, c3⟩ := ts_ch_cons hch
    refine y_pairs_step hM hS h hn hv hw hO hL hB (fun hi3 hO3 hL3 hB3 hw3 => ?_)
    have hR3 : ts_MR 411 0 S.A hi3 := ts_MR.of hc h.1 (fun u _ => by rw [hO3 411 (by omega) (by omega) (by omega) (by omega)])
    refine c_marries hM hR3 hc hv hL3 (fun e => absurd (c1.symm.trans e) c2) (fun hi4 hne hL4 hO4 => ?_)
    rw [c1] at hL4
    exact ih ms2 _ hi4 c3 hf hw3 (fun b b1 b2 b3 b4 => by rw [hO4 b b3, hO3 b b1 b2 b3 b4]) hL4 (fun hw0 t ht => by rw [hO4 419 (by omega)]; exact hB3 hw0 t ht)
theorem y_pairs {d : Nat} {g : ts_G} {S : ts_S} {a1 a2 : Int32} {hi : ts_I} {hk : ts_K} {Q : Int32 → ts_I → ts_K → Prop} (hM : ts_LM g) (hS : ts_SV S) (h : ts_MI S hi) (q : ts_QM (ts_s_pairs S a1 a2) hi hk Q) : ts_E0 (d + 25) mX12_pairs [.ref 405, .int a1, .int a2] g hi hk (ts_qi Q) := by
  refine ts_E0.of plX12_pairs rfl (Nat.le_of_ble_eq_true rfl) ?_
  refine wX12_pairs_0 ?_
  unfold ts_s_pairs at q
  have hok := hS.1.1
  have hc := hok.1
  refine ⟨hM.kd, y_isField hM hS h (fun c => ⟨fun _ => ?_, fun e => absurd (by decide) e⟩) (fun c => ⟨fun e => absurd rfl e, fun _ => ?_⟩)⟩
  · rw [if_neg c] at q
    refine c_inq (fun h1 => ⟨fun e => absurd e (by decide), fun _ => ?_⟩) (fun n1 => ⟨fun _ => ?_, fun e => absurd rfl e⟩)
    · obtain ⟨n, hn1, hn, rfl⟩ := ts_rg (a := 1) (b := 20) (by omega) h1.1 h1.2 (by omega)
      rw [ts_cl (by omega)] at q
      have hbp := ts_bp_ok (A := S.A) hc n
      have K : (a2 = -1 ∨ ts_T S.A a2) → ts_J0 (d + 25) mX12_pairs (ts_qi Q) g 38 [(0, .ref 405), (1, .int (nI n)), (2, .int a2), (3, .int 0)] [] hi hk := by
        intro ha
        rw [if_pos ⟨h1, ha⟩] at q
        have L : ∀ m k hi', k + m = 7 → (∀ b, b ≠ 418 → hi' b = hi b) → (∀ u, u < k → hi' 418 u = ts_nN 7) → ts_J0 (d + 25) mX12_pairs (ts_qi Q) g 38 [(0, .ref 405), (1, .int (nI n)), (2, .int a2), (3, .int (nI k))] [] hi' hk := by
          intro m
          induction m with
          | zero =>
            intro k hi' hkm hO hI
            refine wX12_pairs_38 ?_
            rw [ts_l7, ts_le (by omega) (by omega)]
            refine ⟨fun _ => ?_, fun e => absurd (by omega) e⟩
            obtain ⟨r, hr⟩ := ts_en_cons (c := S.A 6 0) (by omega)
            have hch := (ts_chk (S.A 6 0) (by omega)).2
            rw [hr] at hch
            refine y_pairs_loop (a2 := a2) hM hS h (n := n) (by omega) (fun hi2 hO2 hB2 => ?_) r ts_e7 (0, ts_e7) hi' hch (by unfold ts_bp; rw [hr]) (by simp) (fun b _ _ b3 _ => hO b b3) (fun t ht => by rw [hI t (by omega), ts_e7_7]) (fun e => absurd rfl e)
            have hX2 : ts_MI S hi2 := h.tri hS hO2
            have hf : ∀ b, b ≤ 404 → hi2 b = hi b := fun b hb => hO2 b (by omega) (by omega) (by omega) (by omega)
            refine wX12_pairs_63 ?_
            simp only [ts_LM.kd hM, ts_LM.o0 hM, ts_LM.k0 hM, ts_LM.l0 hM, ts_LM.o1 hM, ts_LM.k1 hM, ts_LM.l1 hM, ts_LM.o2 hM, ts_LM.k2 hM, ts_LM.l2 hM, ts_LM.o3 hM, ts_LM.k3 hM, ts_LM.l3 hM, ts_LM.o5 hM, ts_LM.k5 hM, ts_LM.l5 hM, ts_LM.o13 hM, ts_LM.k13 hM, ts_LM.l13 hM, ts_LM.o14 hM, ts_LM.k14 hM, ts_LM.l14 hM, ts_LM.o15 hM, ts_LM.k15 hM, ts_LM.l15 hM, ts_LM.o16 hM, ts_LM.k16 hM, ts_LM.l16 hM, ts_LM.o18 hM, ts_LM.k18 hM, ts_LM.l18 hM, ts_LM.o19 hM, ts_LM.k19 hM, ts_LM.l19 hM, ts_LM.o20 hM, ts_LM.k20 hM, ts_LM.l20 hM, ts_LM.o21 hM, ts_LM.k21 hM, ts_LM.l21 hM, ts_LM.o22 hM, ts_LM.k22 hM, ts_LM.l22 hM, ts_LM.o23 hM, ts_LM.k23 hM, ts_LM.l23 hM]
            refine ⟨fun _ => ⟨fun e => ?_, fun e => ?_⟩, fun e => absurd (by decide) e⟩
            · rw [if_neg e] at q
              have hT : ts_T S.A a2 := by
                rcases ha with x | x
                · exact absurd x e
                · exact x
              obtain ⟨t, ht, rfl⟩ := hT.get hc
              rw [ts_cl (by omega)] at q ⊢
              rw [hB2 t (by omega)]
              exact ⟨trivial, by omega, trivial, ts_vin (by omega) (by omega), q hi2 hX2 hf⟩
            · rw [if_pos (Decidable.not_not.mp e)] at q
              exact q hi2 hX2 hf
          | succ m ih =>
            intro k hi' hkm hO hI
            refine wX12_pairs_38 ?_
            simp only [ts_LM.kd hM, ts_LM.o0 hM, ts_LM.k0 hM, ts_LM.l0 hM, ts_LM.o1 hM, ts_LM.k1 hM, ts_LM.l1 hM, ts_LM.o2 hM, ts_LM.k2 hM, ts_LM.l2 hM, ts_LM.o3 hM, ts_LM.k3 hM, ts_LM.l3 hM, ts_LM.o5 hM, ts_LM.k5 hM, ts_LM.l5 hM, ts_LM.o13 hM, ts_LM.k13 hM, ts_LM.l13 hM, ts_LM.o14 hM, ts_LM.k14 hM, ts_LM.l14 hM, ts_LM.o15 hM, ts_LM.k15 hM, ts_LM.l15 hM, ts_LM.o16 hM, ts_LM.k16 hM, ts_LM.l16 hM, ts_LM.o18 hM, ts_LM.k18 hM, ts_LM.l18 hM, ts_LM.o19 hM, ts_LM.k19 hM, ts_LM.l19 hM, ts_LM.o20 hM, ts_LM.k20 hM, ts_LM.l20 hM, ts_LM.o21 hM, ts_LM.k21 hM, ts_LM.l21 hM, ts_LM.o22 hM, ts_LM.k22 hM, ts_LM.l22 hM, ts_LM.o23 hM, ts_LM.k23 hM, ts_LM.l23 hM]
            rw [ts_l7, ts_le (by omega) (by omega), ts_cl (by omega), ts_l1, nI_add]
            refine ⟨fun e => absurd e (by omega), fun _ => ⟨trivial, by omega, trivial, ts_vin (by omega) (by omega), fun hi3 x3 => ih (k + 1) hi3 (by omega) (fun b hb => by rw [x3]; funext s; rw [ts_up_a hb, hO b hb]) (fun u hu => ?_)⟩⟩
            rw [x3]
            by_cases e : u = k
            · rw [e, ts_up_eq]; rfl
            · rw [ts_up_s e]; exact hI u (by omega)
        exact L 7 0 hi (by omega) (fun _ _ => rfl) (fun u hu => by omega)
      refine ⟨fun e => K (Or.inl e), fun e => c_isTurnip hM h.1 hc (fun h2 => ⟨fun _ => K (Or.inr h2), fun e => absurd (by decide) e⟩) (fun n2 => ⟨fun e => absurd rfl e, fun _ => ?_⟩)⟩
      rw [if_neg (fun x => by rcases x.2 with y | y; exact e y; exact n2 y)] at q
      exact q.st h
    · rw [if_neg (fun x => n1 x.1)] at q
      exact q.st h
  · rw [if_pos c] at q
    exact q.st h
