/-! the model's field -/
theorem ts_MI.read {S : ts_S} {A' : ts_A} {B' : List ts_A} {fa : Nat} {tp : List Nat} {hi hi' : ts_I} (hS : ts_SV S) (h : ts_MI S hi) (hR : ts_MR 411 0 A' hi') (hB : ts_MB B' hi') (e : ∀ b, b ≠ 411 → b ≠ 405 → b ≠ 412 → hi' b = hi b) (e5 : ∀ s, (s = 4 ∨ s = 24) → hi' 405 s = hi 405 s) (e7 : hi' 405 7 = nI fa) (hT : ts_Li tp 405 6 410 hi') : ts_MI ((S.setF A' B').setT fa tp) hi' := by
  obtain ⟨h1, -, h3, h4, h5, h6, h7, h8⟩ := h
  refine ⟨hR, hB, fun k hk => ?_, fun r hr => ?_, by rw [e5 4 (by omega)]; exact h5, e7, hT, h8.of (e5 24 (by omega)) (e 420 (by omega) (by omega) (by omega))⟩
  · refine ⟨by rw [e 416 (by omega) (by omega) (by omega)]; exact (h3 k hk).1, fun hn => ts_MR.of ?_ ((h3 k hk).2 hn) (fun u _ => by rw [e 415 (by omega) (by omega) (by omega)])⟩
    exact (hS.2.2.2.1 k hk).1.1
  · rw [e 406 (by omega) (by omega) (by omega), e 407 (by omega) (by omega) (by omega), e 408 (by omega) (by omega) (by omega)]
    exact h4 r hr
theorem c_isWell8 {d w1 p : Nat} {g : ts_G} {hi : ts_I} {hk : ts_K} {Q : Int32 → ts_I → ts_K → Prop} (hM : ts_LM g) (hp : p < 1000) (h1 : w1 = 0 → hi 405 8 = -1) (h2 : w1 ≠ 0 → hi 405 8 = nI p) (q1 : w1 = 0 → Q 1 hi hk) (q0 : w1 ≠ 0 → Q 0 hi hk) : ts_E0 d mX12_isWell [.ref 405] g hi hk (ts_qi Q) := by
  refine ts_E0.of plX12_isWell rfl (Nat.le_of_ble_eq_true rfl) ?_
  refine wX12_isWell_0 ⟨hM.kd, fun c => ?_, fun c => ?_⟩
  · refine q0 (fun e => ?_)
    rw [h1 e] at c
    exact absurd c (by decide)
  · refine q1 ?_
    by_cases e : w1 = 0
    · exact e
    · rw [h2 e, ts_l0, ts_le (by omega) (by omega)] at c
      omega
theorem c_mfin {d : Nat} {w : Nat × Nat} {A : ts_A} {S : ts_S} {g : ts_G} {hi0 hi7 : ts_I} {hk : ts_K} {Q : Int32 → ts_I → ts_K → Prop} (hM : ts_LM g) (hS : ts_SV S) (h0 : ts_MI S hi0) (h : ts_MQ S.tp S.fa w hi7) (hR : w.1 = 0 → ts_MR 412 0 A hi7 ∧ ts_oA A) (hF : ts_MT hi0 hi7) (hrd : (ts_rd S.tp).1 = w) (hA : w.1 = 0 → (ts_rd S.tp).2 = A) (q : ts_QM (ts_s_field S) hi0 hk Q) :
    ∀ hi9 : ts_I, hi9 = ts_up hi7 405 6 0 → ts_E0 (d + 3) mX12_isWell [.ref 405] g hi9 hk (ts_qi (fun v12 hi10 hk11 => ((v12 ≠ 0) → (g.2.2.2 405 14 ≠ 0) ∧ (g.2.2.2 405 13 ≠ 0) ∧ ts_E0 (d + 3) mX12_copies [.ref (g.2.2.2 405 14), .int 0, .ref (g.2.2.2 405 13), .int 0] g hi10 hk11 (ts_qv (fun hi16 hk17 => ∀ hi18 : ts_I, hi18 = ts_up hi16 405 17 0 → (g.2.1 (g.2.2.2 405 13) = 100) ∧ (vp_in 2 (g.2.2.1 (g.2.2.2 405 13))) ∧ Q (hi18 (g.2.2.2 405 13) (2 : Int32).toNatClampNeg) hi18 hk17))) ∧ (¬ (v12 ≠ 0) → Q ((-1000100) - (hi10 405 8)) hi10 hk11))) := by
  intro hi9 x9
  have hl := hS.2.2.2.2.2.2.2.1
  obtain ⟨h1, h2, h3, h4⟩ := h
  have ec2 : (2 : Int32).toNatClampNeg = 2 := rfl
  have vv : vp_in (2 : Int32) 46 := by rw [ts_l2]; exact ts_vin (by omega) (by omega)
  simp only [ts_LM.kd hM, ts_LM.o0 hM, ts_LM.k0 hM, ts_LM.l0 hM, ts_LM.o1 hM, ts_LM.k1 hM, ts_LM.l1 hM, ts_LM.o2 hM, ts_LM.k2 hM, ts_LM.l2 hM, ts_LM.o3 hM, ts_LM.k3 hM, ts_LM.l3 hM, ts_LM.o5 hM, ts_LM.k5 hM, ts_LM.l5 hM, ts_LM.o13 hM, ts_LM.k13 hM, ts_LM.l13 hM, ts_LM.o14 hM, ts_LM.k14 hM, ts_LM.l14 hM, ts_LM.o15 hM, ts_LM.k15 hM, ts_LM.l15 hM, ts_LM.o16 hM, ts_LM.k16 hM, ts_LM.l16 hM, ts_LM.o18 hM, ts_LM.k18 hM, ts_LM.l18 hM, ts_LM.o19 hM, ts_LM.k19 hM, ts_LM.l19 hM, ts_LM.o20 hM, ts_LM.k20 hM, ts_LM.l20 hM, ts_LM.o21 hM, ts_LM.k21 hM, ts_LM.l21 hM, ts_LM.o22 hM, ts_LM.k22 hM, ts_LM.l22 hM, ts_LM.o23 hM, ts_LM.k23 hM, ts_LM.l23 hM]
  have s9 : ∀ s, s ≠ 6 → hi9 405 s = hi7 405 s := fun s hs => by rw [x9, ts_up_s hs]
  have o9 : ∀ b, b ≠ 405 → hi9 b = hi7 b := fun b hb => by rw [x9]; funext s; rw [ts_up_a hb]
  have e6 : hi9 405 6 = nI 0 := by rw [x9, ts_up_eq]; rfl
  unfold ts_s_field at q
  refine c_isWell8 (w1 := w.1) (p := w.2) hM (by omega) (fun e => by rw [s9 8 (by omega)]; exact (h3 e).1) (fun e => by rw [s9 8 (by omega)]; exact (h4 e).1) (fun e => ⟨fun _ => ⟨by omega, by omega, ?_⟩, fun x => absurd (by decide) x⟩) (fun e => ⟨fun x => absurd rfl x, fun _ => ?_⟩)
  · obtain ⟨r1, r2⟩ := hR e
    rw [hrd, if_pos e, hA e] at q
    refine c_copies (a := 0) (b := 0) hM.k14 hM.k13 (by omega) (by rw [hM.l14]; omega) (by rw [hM.l13]; omega) (by rw [hM.l14]; omega) (by rw [hM.l13]; omega) (fun hi18 x18 => ⟨trivial, vv, ?_⟩)
    have m9 : ts_MR 412 0 A hi9 := ts_MR.of r2.1 r1 (fun u _ => by rw [o9 412 (by omega)])
    have m18 : ts_MR 411 0 A hi18 := ts_MR.of r2.1 (ts_MR.cp (t := 411) (b := 0) r2.1 m9) (fun u _ => by rw [x18, ts_up_a (by omega)])
    have c5 : ∀ s, s ≠ 17 → hi18 405 s = hi9 405 s := fun s hs => by rw [x18, ts_up_s hs, ts_cp_a (by omega)]
    have co : ∀ b, b ≠ 405 → b ≠ 411 → hi18 b = hi9 b := fun b b1 b2 => by rw [x18]; funext s; rw [ts_up_a b1, ts_cp_a b2]
    rw [ec2, show hi18 411 2 = nI (A 6 0) from m18.2.2.1]
    exact q hi18 (h0.read hS m18 ⟨by rw [x18, ts_up_eq]; rfl, Nat.zero_le _, fun i A hA => by cases hA⟩ (fun b b1 b2 b3 => by rw [co b b2 b1, o9 b b2, hF.1 b b2 b3]) (fun s hs => by rw [c5 s (by omega), s9 s (by omega), hF.2 s (by omega)]) (by rw [c5 7 (by omega), s9 7 (by omega)]; exact (h3 e).2.1) ⟨by rw [c5 6 (by omega)]; exact e6, fun i b hb => by cases hb⟩) (fun b hb => by rw [co b (by omega) (by omega), o9 b (by omega), hF.1 b (by omega) (by omega)])
  · rw [hrd, if_neg e] at q
    rw [s9 8 (by omega), (h4 e).1]
    refine q hi9 (h0.read (A' := S.A) (B' := S.B) hS (ts_MR.of hS.1.1.1 h0.1 (fun u _ => by rw [o9 411 (by omega), hF.1 411 (by omega) (by omega)])) ?_ (fun b b1 b2 b3 => by rw [o9 b b2, hF.1 b b2 b3]) (fun s hs => by rw [s9 s (by omega), hF.2 s (by omega)]) (by rw [s9 7 (by omega)]; exact (h4 e).2) ⟨e6, fun i b hb => by cases hb⟩) (fun b hb => by rw [o9 b (by omega), hF.1 b (by omega) (by omega)])
    obtain ⟨b1, b2, b3⟩ := h0.2.1
    exact ⟨by rw [s9 17 (by omega), hF.2 17 (by omega)]; exact b1, b2, fun i A hA => ts_MR.of (hS.2.1 A (List.mem_of_getElem? hA)).1.1 (b3 i A hA) (fun u _ => by rw [o9 414 (by omega), hF.1 414 (by omega) (by omega)])⟩
theorem ts_lp_st {tp : List Nat} {k : Nat} {w : Nat × Nat} {A : ts_A} (h : w.1 ≠ 0 ∨ tp.length ≤ w.2) : ts_lp tp k w A = (w, A) := by
  cases k with
  | zero => rfl
  | succ k => rw [ts_lp, if_pos h]
theorem ts_t7_0 {tp : List Nat} {n p : Nat} (h : ts_kd (ts_bt tp p) = 0) : ts_t7 tp n p = (1, p) := by
  have e : ts_t1 tp n p = (1, p) := if_pos h
  rw [ts_t7_1 (by rw [e]; simp), e]
/-- the turnips, from one to the next -/
theorem c_mloop {d : Nat} {S : ts_S} {g : ts_G} {hi0 : ts_I} {hk : ts_K} {Q : Int32 → ts_I → ts_K → Prop} (hM : ts_LM g) (hS : ts_SV S) (h0 : ts_MI S hi0) (q : ts_QM (ts_s_field S) hi0 hk Q) :
    ∀ k (w : Nat × Nat) (A : ts_A) hi', ts_MQ S.tp S.fa w hi' → (w.1 = 0 → ts_MR 412 0 A hi' ∧ ts_oA A) → ts_MT hi0 hi' → (w.1 ≠ 0 ∨ S.tp.length < w.2 + k) → (ts_rd S.tp).1 = (ts_lp S.tp k w A).1 → (w.1 = 0 → (ts_rd S.tp).2 = (ts_lp S.tp k w A).2) → ts_J0 (d + 6) mX12_field (ts_qi Q) g 135 [(0, .ref 405)] [] hi' hk := by
  have hl := hS.2.2.2.2.2.2.2.1
  have N : ∀ (w : Nat × Nat) (A : ts_A) hi', ts_MQ S.tp S.fa w hi' → w.1 ≠ 0 → ts_MT hi0 hi' → (ts_rd S.tp).1 = w → ts_J0 (d + 6) mX12_field (ts_qi Q) g 135 [(0, .ref 405)] [] hi' hk := by
    intro w A hi' h hw hF hrd
    have F := c_mfin (d := d + 2) (A := A) hM hS h0 h (fun e => absurd e hw) hF hrd (fun e => absurd e hw) q
    exact wX12_field_135 ⟨hM.kd, c_isWell hM hl.1 h (fun e => absurd e hw) (fun _ => ⟨fun _ => ⟨fun _ => c_must_x hM hl.1 h (Or.inl hw) F, fun _ => c_must_x hM hl.1 h (Or.inl hw) F⟩, fun e => absurd rfl e⟩)⟩
  intro k
  induction k with
  | zero =>
    intro w A hi' h hR hF hk' hrd hA
    have hw : w.1 ≠ 0 := by
      rcases hk' with x | x
      · exact x
      · have := h.2.1
        omega
    exact N w A hi' h hw hF hrd
  | succ k ih =>
    intro w A hi' h hR hF hk' hrd hA
    by_cases hw : w.1 ≠ 0
    · rw [ts_lp_st (Or.inl hw)] at hrd
      exact N w A hi' h hw hF hrd
    · replace hw := Decidable.not_not.mp hw
      obtain ⟨w1, p⟩ := w
      have hw1 : w1 = 0 := hw
      subst hw1
      have hpl : p ≤ S.tp.length := h.2.1
      obtain ⟨r1, r2⟩ := hR rfl
      have hx := ts_bt_le hl.2 p
      have hA' := hA rfl
      have i0 : (hi' 405 11 ≠ 0) = (ts_bt S.tp p ≠ 256) := h.is0 hw
      have i1 : (hi' 405 11 ≠ 1) = ¬ (97 ≤ ts_bt S.tp p ∧ ts_bt S.tp p ≤ 122) := h.is1 hw
      have hlet : (97 ≤ ts_bt S.tp p ∧ ts_bt S.tp p ≤ 122) → hi' 405 12 = nI (ts_bt S.tp p) ∧ hi' 405 9 = nI (p + 1) := h.let hw
      rw [ts_lp] at hrd hA'
      -- no turnip
      have M0 : ts_bt S.tp p ≠ 256 → ts_kd (ts_bt S.tp p) = 0 → ts_E0 (d + 5) mX12_must [.ref 405, .int 0] g hi' hk (ts_qv (fun hi7 hk8 => ∀ hi9 : ts_I, hi9 = ts_up hi7 405 6 0 → ts_E0 (d + 5) mX12_isWell [.ref 405] g hi9 hk8 (ts_qi (fun v12 hi10 hk11 => ((v12 ≠ 0) → (g.2.2.2 405 14 ≠ 0) ∧ (g.2.2.2 405 13 ≠ 0) ∧ ts_E0 (d + 5) mX12_copies [.ref (g.2.2.2 405 14), .int 0, .ref (g.2.2.2 405 13), .int 0] g hi10 hk11 (ts_qv (fun hi16 hk17 => ∀ hi18 : ts_I, hi18 = ts_up hi16 405 17 0 → (g.2.1 (g.2.2.2 405 13) = 100) ∧ (vp_in 2 (g.2.2.1 (g.2.2.2 405 13))) ∧ Q (hi18 (g.2.2.2 405 13) (2 : Int32).toNatClampNeg) hi18 hk17))) ∧ (¬ (v12 ≠ 0) → Q ((-1000100) - (hi10 405 8)) hi10 hk11))))) := fun n1 n2 => by
        have hlt := ts_bt_len n1
        rw [if_neg (fun x => by rcases x with x | x; exact x rfl; exact absurd hlt (Nat.not_lt.mpr x)), show ((0, p) : Nat × Nat).2 = p from rfl, ts_t7_0 n2, ts_lp_st (Or.inl (by simp))] at hrd
        exact c_must_0 hM hl.1 h (fun hi2 h2 u2 => c_mfin (d := d + 2) (A := A) hM hS h0 h2 (fun e => absurd e (by simp)) (hF.trans u2.mt) hrd (fun e => absurd e (by simp)) q)
      -- the end
      have M1 : ts_bt S.tp p = 256 → ts_E0 (d + 5) mX12_must [.ref 405, .int 1] g hi' hk (ts_qv (fun hi7 hk8 => ∀ hi9 : ts_I, hi9 = ts_up hi7 405 6 0 → ts_E0 (d + 5) mX12_isWell [.ref 405] g hi9 hk8 (ts_qi (fun v12 hi10 hk11 => ((v12 ≠ 0) → (g.2.2.2 405 14 ≠ 0) ∧ (g.2.2.2 405 13 ≠ 0) ∧ ts_E0 (d + 5) mX12_copies [.ref (g.2.2.2 405 14), .int 0, .ref (g.2.2.2 405 13), .int 0] g hi10 hk11 (ts_qv (fun hi16 hk17 => ∀ hi18 : ts_I, hi18 = ts_up hi16 405 17 0 → (g.2.1 (g.2.2.2 405 13) = 100) ∧ (vp_in 2 (g.2.2.1 (g.2.2.2 405 13))) ∧ Q (hi18 (g.2.2.2 405 13) (2 : Int32).toNatClampNeg) hi18 hk17))) ∧ (¬ (v12 ≠ 0) → Q ((-1000100) - (hi10 405 8)) hi10 hk11))))) := fun n1 => by
        have hge : S.tp.length ≤ p := by
          by_cases c : p < S.tp.length
          · have := ts_bt_in hl.2 c
            omega
          · omega
        rw [if_pos (Or.inr hge)] at hrd hA'
        exact c_must_x hM hl.1 h (Or.inr (by decide)) (c_mfin (d := d + 2) (A := A) hM hS h0 h (fun _ => ⟨r1, r2⟩) hF hrd (fun _ => hA') q)
      refine wX12_field_135 ⟨hM.kd, c_isWell hM hl.1 h (fun _ => ⟨fun e => absurd e (by decide), fun _ => ?_⟩) (fun e => absurd rfl e)⟩
      rw [i0, i1]
      refine ⟨fun c1 => ⟨fun c0 => M0 c0 ?_, fun c0 => M1 (Decidable.not_not.mp c0)⟩, fun c1 => ?_⟩
      · by_cases e : ts_kd (ts_bt S.tp p) = 0
        · exact e
        · exact absurd (ts_kd_in e) c1
      · replace c1 := Decidable.not_not.mp c1
        rw [(hlet c1).1]
        refine c_kindOf (by omega) ?_
        have hk5 := ts_kd_le (ts_bt S.tp p)
        rw [i0, ts_l0, ts_le (by omega) (by omega)]
        refine ⟨fun c => ⟨fun c0 => M0 c0 (by omega), fun c0 => M1 (Decidable.not_not.mp c0)⟩, fun c => ?_⟩
        have n2 : ts_kd (ts_bt S.tp p) ≠ 0 := by omega
        have hlt : p < S.tp.length := ts_bt_len (by have : ts_bt S.tp p ≤ 122 := c1.2; omega)
        rw [if_neg (fun x => by rcases x with x | x; exact x rfl; exact absurd hlt (Nat.not_lt.mpr x))] at hrd hA'
        refine c_readsTurnip hM hl.1 hl.2 r2 r1 h n2 (fun hi2 h2 m2 t2 => ih _ _ hi2 h2 (fun _ => ⟨m2, ts_oA_tA r2⟩) (hF.trans t2) ?_ hrd (fun _ => hA'))
        by_cases e : (ts_t7 S.tp (A 6 0) p).1 = 0
        · have z := (ts_t7_w e).2.2.2.2.2.2.2.2.1
          rcases hk' with x | x
          · exact absurd rfl x
          · have x' : S.tp.length < p + (k + 1) := x
            exact Or.inr (by omega)
        · exact Or.inl e
