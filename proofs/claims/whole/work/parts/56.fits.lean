/-! fits -/
theorem ts_to_congr {t : Nat} {f h : Nat → Int32} : ∀ n i (A : ts_A), (∀ k, i ≤ k → k < i + n → f k = h k) → ts_to t f n i A = ts_to t h n i A := by
  intro n
  induction n with
  | zero => intro i A _; rfl
  | succ n ih =>
    intro i A e
    rw [ts_to, ts_to, e i (by omega) (by omega), ih (i + 1) (ts_nx A) (fun k h1 h2 => e k (by omega) (by omega))]
theorem ts_af_congr {A : ts_A} {t what i n : Nat} {f h : Nat → Int32} (e : ∀ k, i ≤ k → k < i + n → f k = h k) : ts_af A t what f i n = ts_af A t what h i n := by
  unfold ts_af
  have e2 : ts_bs A t what f i n = ts_bs A t what h i n := by
    funext b v
    unfold ts_bs
    rw [ts_to_congr n i _ e]
  rw [e2]
def ts_s_fits (S : ts_S) (a1 a2 a3 a4 a5 : Int32) : Int32 × ts_S :=
  if (ts_T S.A a1 ∧ ts_rw a2) ∧ (1 ≤ a4 ∧ a4 ≤ 12) ∧ (0 ≤ a5 ∧ a5 ≤ 3) then
    if S.L a2.toNatClampNeg = 3 then (ts_fn 1, S.setS 1)
    else if ts_pt (S.z a2.toNatClampNeg) a3 a4 then (ts_af S.A a1.toNatClampNeg a5.toNatClampNeg (S.x a2.toNatClampNeg) a3.toNatClampNeg a4.toNatClampNeg, S.setS 0)
    else (ts_fn 2, S.setS 2)
  else (-1000001, S)
theorem x_fits {d : Nat} {g : ts_G} {S : ts_S} {a1 a2 a3 a4 a5 : Int32} {hi : ts_I} {hk : ts_K} {Q : Int32 → ts_I → ts_K → Prop} (hX : ts_LX g) (hS : ts_SV S) (h : ts_XI S hi hk) (q : ts_QX (ts_s_fits S a1 a2 a3 a4 a5) hi Q) : ts_E0 (d + 25) mX11_fits [.ref 1, .int a1, .int a2, .int a3, .int a4, .int a5] g hi hk (ts_qi Q) := by
  refine ts_E0.of plX11_fits rfl (Nat.le_of_ble_eq_true rfl) ?_
  refine wX11_fits_0 ?_
  unfold ts_s_fits at q
  refine ⟨hX.s0, c_XisTurnip hX h.1 (fun h1 => ⟨fun e => absurd e (by decide), fun _ => c_XisRow (fun h2 => ⟨fun e => absurd e (by decide), fun _ => c_outside (fun h3 => ⟨fun e => absurd rfl e, fun _ => c_outside (fun h4 => ⟨fun _ => ?_, fun e => absurd rfl e⟩) (fun n4 => ⟨fun e => absurd e (by decide), fun _ => ?_⟩)⟩) (fun n3 => ⟨fun _ => ?_, fun e => absurd (by decide) e⟩)⟩) (fun n2 => ⟨fun _ => ?_, fun e => absurd rfl e⟩)⟩) (fun n1 => ⟨fun _ => ?_, fun e => absurd rfl e⟩)⟩
  · rw [if_pos ⟨⟨h1, h2⟩, h3, h4⟩] at q
    have hok := hS.1.1
    obtain ⟨t, ht, rfl⟩ := h1.get hok.1
    obtain ⟨r, hr, rfl⟩ := h2.get
    obtain ⟨n, hn1, hn, rfl⟩ := ts_rg (a := 1) (b := 12) (by omega) h3.1 h3.2 (by omega)
    obtain ⟨w, _, hw, rfl⟩ := ts_rg (a := 0) (b := 3) (by omega) h4.1 h4.2 (by omega)
    have hc := hok.1
    obtain ⟨e1, e2, e3, e4, e5⟩ := hX.row r hr
    have hz := h.2.2.2.1 r hr
    have hv := hS.2.2.2.2.1 r hr
    simp only [ts_LX.s0 hX, ts_LX.s1 hX, ts_LX.s2 hX, ts_LX.s3 hX, ts_LX.s4 hX, ts_LX.s5 hX, ts_LX.s6 hX, ts_LX.s7 hX, ts_LX.s8 hX, ts_LX.s9 hX, ts_LX.s10 hX, ts_LX.s11 hX, ts_LX.s12 hX, ts_LX.s13 hX, ts_LX.s14 hX, ts_LX.s15 hX, ts_LX.s16 hX, ts_LX.s17 hX, ts_LX.s18 hX, ts_LX.s19 hX, ts_LX.s20 hX, ts_LX.s21 hX, ts_LX.s22 hX, ts_LX.s23 hX, ts_LX.s24 hX, ts_LX.s25 hX, ts_LX.s26 hX, ts_LX.s27 hX, ts_LX.s28 hX, ts_LX.s29 hX, ts_LX.s30 hX, ts_LX.s31 hX, ts_LX.s32 hX, ts_LX.s33 hX, ts_LX.s34 hX, ts_LX.s35 hX, ts_LX.s36 hX, ts_LX.s37 hX, ts_LX.s38 hX]
    rw [ts_cl (n := t) (by omega), ts_cl (n := r) (by omega), ts_cl (n := n) (by omega), ts_cl (n := w) (by omega)] at q
    rw [ts_cl (n := r) (by omega), e1, hz.1]
    refine ⟨by omega, trivial, ts_vin (by omega) (by omega), by omega, e2, fun c => ?_, fun c => ?_⟩
    · have hl := ts_there.mp c
      rw [if_neg hl] at q
      obtain ⟨z2, z3, z4⟩ := hz.2 hl
      refine c_rowhas e2 z3 (fun p1 => ⟨fun _ => ⟨by omega, trivial, ?_⟩, fun e => absurd (by decide) e⟩) (fun np => ⟨fun e => absurd rfl e, fun _ => ?_⟩)
      · rw [if_pos p1] at q
        obtain ⟨i, n', hin, rfl, hn'⟩ := p1.get hv.2
        rw [ts_eq (by omega) (by omega)] at hn'
        rw [ts_cl (n := i) (by omega)] at q
        refine c_allFitting hX h.1 (h.fk (j := 26) (by omega)) (h.tk 8 (by omega)) h.2.2.2.2.2.2.2.2.2.1 hok (ts_y1 hS (by omega)) ht hw e2 e3 e4 e5 (by omega) (by omega) (fun hi2 hk2 hTF h311 => ?_)
        have hX2 := h.tri hTF.2.2 (fun b hb => hTF.1 b (by omega) (by omega)) hTF.2.1
        rw [ts_af_congr (h := S.x r) (fun k k1 k2 => z4 k (by omega))]
        exact c_fine hX hX2 (fun hi3 hk3 hX3 hf3 => q hi3 hk3 hX3 (fun b hb => by rw [hf3 b hb, hTF.1 b (by omega) (by omega)]))
      · rw [if_neg np] at q
        exact c_found (f := 2) hX h q
    · have hl : S.L r = 3 := Decidable.not_not.mp (fun x => c (ts_there.mpr x))
      rw [if_pos hl] at q
      exact c_found (f := 1) hX h q
  · rw [if_neg (fun x => n4 x.2.2)] at q
    exact q.st h
  · rw [if_neg (fun x => n3 x.2.1)] at q
    exact q.st h
  · rw [if_neg (fun x => n2 x.1.2)] at q
    exact q.st h
  · rw [if_neg (fun x => n1 x.1.1)] at q
    exact q.st h
/-- which number of the field is another one -/
def ts_pl (t what : Nat) : Nat := if what = 0 then 4 + 6 * t else if what = 1 then 4 + 6 * t + 2 else if what = 2 then 0 else 1
theorem ts_MR.sp {A : ts_A} {t what v : Nat} {hi hi' : ts_I} (h : ts_MR 413 0 A hi) (hw : what ≤ 3) (ht : t < A 6 0) (e : hi' = ts_up hi 413 (ts_pl t what) (nI v)) : ts_MR 413 0 (ts_sp A t what v) hi' := by
  obtain ⟨r0, r1, r2, r3, rT⟩ := h
  simp only [Nat.zero_add] at r1 r2 r3 rT
  have hw' : what = 0 ∨ what = 1 ∨ what = 2 ∨ what = 3 := by omega
  rcases hw' with rfl | rfl | rfl | rfl
  · have ep : ts_pl t 0 = 4 + 6 * t := rfl
    rw [ep] at e
    subst e
    refine ⟨by rw [ts_up_s (by omega)]; exact r0, by rw [ts_up_s (by omega)]; exact r1, by rw [ts_up_s (by omega)]; exact r2, by rw [ts_up_s (by omega)]; exact r3, fun u hu => ?_⟩
    have z := rT u hu
    simp only [Nat.zero_add]
    refine ⟨?_, by rw [ts_up_s (by omega)]; exact z.2.1, by rw [ts_up_s (by omega)]; exact z.2.2.1, by rw [ts_up_s (by omega)]; exact z.2.2.2.1, by rw [ts_up_s (by omega)]; exact z.2.2.2.2.1, by rw [ts_up_s (by omega)]; exact z.2.2.2.2.2⟩
    show _ = nI (if 0 = 0 ∧ u = t then v else A 0 u)
    by_cases c : u = t
    · rw [c, if_pos ⟨rfl, rfl⟩, ts_up_eq]
    · rw [if_neg (fun x => c x.2), ts_up_s (by omega)]; exact z.1
  · have ep : ts_pl t 1 = 4 + 6 * t + 2 := rfl
    rw [ep] at e
    subst e
    refine ⟨by rw [ts_up_s (by omega)]; exact r0, by rw [ts_up_s (by omega)]; exact r1, by rw [ts_up_s (by omega)]; exact r2, by rw [ts_up_s (by omega)]; exact r3, fun u hu => ?_⟩
    have z := rT u hu
    simp only [Nat.zero_add]
    refine ⟨by rw [ts_up_s (by omega)]; exact z.1, by rw [ts_up_s (by omega)]; exact z.2.1, ?_, by rw [ts_up_s (by omega)]; exact z.2.2.2.1, by rw [ts_up_s (by omega)]; exact z.2.2.2.2.1, by rw [ts_up_s (by omega)]; exact z.2.2.2.2.2⟩
    show _ = nI (if 2 = 2 ∧ u = t then v else A 2 u)
    by_cases c : u = t
    · rw [c, if_pos ⟨rfl, rfl⟩, ts_up_eq]
    · rw [if_neg (fun x => c x.2), ts_up_s (by omega)]; exact z.2.2.1
  · have ep : ts_pl t 2 = 0 := rfl
    rw [ep] at e
    subst e
    refine ⟨by rw [ts_up_eq]; rfl, by rw [ts_up_s (by omega)]; exact r1, by rw [ts_up_s (by omega)]; exact r2, by rw [ts_up_s (by omega)]; exact r3, fun u hu => ?_⟩
    have z := rT u hu
    simp only [Nat.zero_add]
    exact ⟨by rw [ts_up_s (by omega)]; exact z.1, by rw [ts_up_s (by omega)]; exact z.2.1, by rw [ts_up_s (by omega)]; exact z.2.2.1, by rw [ts_up_s (by omega)]; exact z.2.2.2.1, by rw [ts_up_s (by omega)]; exact z.2.2.2.2.1, by rw [ts_up_s (by omega)]; exact z.2.2.2.2.2⟩
  · have ep : ts_pl t 3 = 1 := rfl
    rw [ep] at e
    subst e
    refine ⟨by rw [ts_up_s (by omega)]; exact r0, by rw [ts_up_eq]; rfl, by rw [ts_up_s (by omega)]; exact r2, by rw [ts_up_s (by omega)]; exact r3, fun u hu => ?_⟩
    have z := rT u hu
    simp only [Nat.zero_add]
    exact ⟨by rw [ts_up_s (by omega)]; exact z.1, by rw [ts_up_s (by omega)]; exact z.2.1, by rw [ts_up_s (by omega)]; exact z.2.2.1, by rw [ts_up_s (by omega)]; exact z.2.2.2.1, by rw [ts_up_s (by omega)]; exact z.2.2.2.2.1, by rw [ts_up_s (by omega)]; exact z.2.2.2.2.2⟩
theorem y_risesSo {d t r i n what v : Nat} {x : Nat → Int32} {g : ts_G} {S : ts_S} {hi hi0 : ts_I} {hk : ts_K} {Q : Int32 → ts_I → ts_K → Prop} (hM : ts_LM g) (hS : ts_SV S) (h : ts_MR 411 0 S.A hi) (ht : t < S.A 6 0) (hw : what ≤ 3) (hv : ts_vok what v) (hr : r < 8) (hin : i + n ≤ 40) (hn : n ≤ 100) (h8 : hi 408 = hi0 408) (hx : ∀ k, k < 40 → hi0 408 (40 * r + k) = x k)
    (q : ∀ hi', (∀ b, b ≠ 413 → b ≠ 417 → hi' b = hi b) → Q (if ts_to t x n i (ts_sp S.A t what v) = true then 1 else 0) hi' hk) : ts_E0 (d + 8) mX12_risesSo [.ref 405, .int (nI t), .int (nI (40 * r + i)), .int (nI n), .int (nI (ts_pl t what)), .int (nI v)] g hi hk (ts_qi Q) := by
  refine ts_E0.of plX12_risesSo rfl (Nat.le_of_ble_eq_true rfl) ?_
  refine wX12_risesSo_0 ?_
  have hok := hS.1.1
  have hc := hok.1
  have hp : ts_pl t what < 46 := by
    unfold ts_pl
    repeat' split
    all_goals omega
  simp only [ts_LM.kd hM, ts_LM.o0 hM, ts_LM.k0 hM, ts_LM.l0 hM, ts_LM.o1 hM, ts_LM.k1 hM, ts_LM.l1 hM, ts_LM.o2 hM, ts_LM.k2 hM, ts_LM.l2 hM, ts_LM.o3 hM, ts_LM.k3 hM, ts_LM.l3 hM, ts_LM.o5 hM, ts_LM.k5 hM, ts_LM.l5 hM, ts_LM.o13 hM, ts_LM.k13 hM, ts_LM.l13 hM, ts_LM.o14 hM, ts_LM.k14 hM, ts_LM.l14 hM, ts_LM.o15 hM, ts_LM.k15 hM, ts_LM.l15 hM, ts_LM.o16 hM, ts_LM.k16 hM, ts_LM.l16 hM, ts_LM.o18 hM, ts_LM.k18 hM, ts_LM.l18 hM, ts_LM.o19 hM, ts_LM.k19 hM, ts_LM.l19 hM, ts_LM.o20 hM, ts_LM.k20 hM, ts_LM.l20 hM, ts_LM.o21 hM, ts_LM.k21 hM, ts_LM.l21 hM, ts_LM.o22 hM, ts_LM.k22 hM, ts_LM.l22 hM, ts_LM.o23 hM, ts_LM.k23 hM, ts_LM.l23 hM]
  rw [ts_cl (by omega)]
  refine ⟨trivial, by omega, by omega, y_tries hM hS h (fun hi2 hR2 ho2 => ⟨trivial, ts_vin (by omega) (by omega), fun hi3 x3 => ?_⟩)⟩
  have hR3 := ts_MR.sp hR2 hw ht x3
  have hsp := ts_ok_sp (t := t) hok hv
  have o3 : ∀ b, b ≠ 413 → hi3 b = hi b := fun b hb => by rw [x3]; funext s; rw [ts_up_a hb, ho2 b hb]
  have L : ∀ m k (B : ts_A) (fl : Bool) hi', k + m = n → ts_ok B → B 6 0 = S.A 6 0 → B 6 1 + m ≤ 1000000 → ts_MR 413 0 B hi' → (∀ b, b ≠ 413 → b ≠ 417 → hi' b = hi b) → (fl && ts_to t x m (i + k) B) = ts_to t x n i (ts_sp S.A t what v) → ts_J0 (d + 8) mX12_risesSo (ts_qi Q) g 28 [(0, .ref 405), (1, .int (nI t)), (2, .int (nI (40 * r + i))), (3, .int (nI n)), (6, .int (if fl = true then 1 else 0)), (7, .int (nI k))] [] hi' hk := by
    intro m
    induction m with
    | zero =>
      intro k B fl hi' hkm hB hB0 hB1 hR hO hf
      refine wX12_risesSo_28 ?_
      rw [ts_le (by omega) (by omega)]
      rw [ts_to, Bool.and_true] at hf
      refine ⟨fun _ => ⟨?_, ?_⟩, fun e => absurd (by omega) e⟩
      · cases fl
        · exact Or.inl rfl
        · exact Or.inr rfl
      · have z := q hi' hO
        rw [← hf] at z
        exact z
    | succ m ih =>
      intro k B fl hi' hkm hB hB0 hB1 hR hO hf
      refine wX12_risesSo_28 ?_
      simp only [ts_LM.kd hM, ts_LM.o0 hM, ts_LM.k0 hM, ts_LM.l0 hM, ts_LM.o1 hM, ts_LM.k1 hM, ts_LM.l1 hM, ts_LM.o2 hM, ts_LM.k2 hM, ts_LM.l2 hM, ts_LM.o3 hM, ts_LM.k3 hM, ts_LM.l3 hM, ts_LM.o5 hM, ts_LM.k5 hM, ts_LM.l5 hM, ts_LM.o13 hM, ts_LM.k13 hM, ts_LM.l13 hM, ts_LM.o14 hM, ts_LM.k14 hM, ts_LM.l14 hM, ts_LM.o15 hM, ts_LM.k15 hM, ts_LM.l15 hM, ts_LM.o16 hM, ts_LM.k16 hM, ts_LM.l16 hM, ts_LM.o18 hM, ts_LM.k18 hM, ts_LM.l18 hM, ts_LM.o19 hM, ts_LM.k19 hM, ts_LM.l19 hM, ts_LM.o20 hM, ts_LM.k20 hM, ts_LM.l20 hM, ts_LM.o21 hM, ts_LM.k21 hM, ts_LM.l21 hM, ts_LM.o22 hM, ts_LM.k22 hM, ts_LM.l22 hM, ts_LM.o23 hM, ts_LM.k23 hM, ts_LM.l23 hM]
      simp only [ts_l4, ts_l6, pk_mul, nI_add]
      rw [ts_le (by omega) (by omega)]
      rw [ts_to] at hf
      refine ⟨fun e => absurd e (by omega), fun _ => ⟨trivial, by omega, c_passes hM hM.k15 hM.l15 (by omega) hR hB (fun hi4 hR4 ho4 => ?_)⟩⟩
      have hO4 : ∀ b, b ≠ 413 → b ≠ 417 → hi4 b = hi b := fun b b1 b2 => by rw [ho4 b b1 b2, hO b b1 b2]
      have hokx : ts_ok (ts_nx B) := ts_ok_ps hB (by omega)
      have z := ((show ts_MR 413 0 (ts_nx B) hi4 from hR4).2.2.2.2 t (by show t < B 6 0; omega)).2.1
      rw [Nat.zero_add] at z
      have nxt : ∀ f2 : Bool, (f2 && ts_to t x m (i + k + 1) (ts_nx B)) = ts_to t x n i (ts_sp S.A t what v) → ts_J0 (d + 8) mX12_risesSo (ts_qi Q) g 28 [(0, .ref 405), (1, .int (nI t)), (2, .int (nI (40 * r + i))), (3, .int (nI n)), (6, .int (if f2 = true then 1 else 0)), (7, .int (nI k + 1))] [] hi4 hk := fun f2 hf2 => by
        rw [ts_l1, nI_add]
        exact ih (k + 1) (ts_nx B) f2 hi4 (by omega) hokx hB0 (by show B 6 1 + 1 + m ≤ _; omega) hR4 hO4 (by rw [show i + (k + 1) = i + k + 1 by omega]; exact hf2)
      refine ⟨fun e => ?_, fun e => ?_⟩
      · have hfl : fl = false := by
          cases fl
          · rfl
          · exact absurd e (by decide)
        rw [hfl] at hf
        exact nxt false hf
      · have hfl : fl = true := by
          cases fl
          · exact absurd rfl e
          · rfl
        rw [hfl, Bool.true_and] at hf
        rw [ts_l1, nI_add, ts_cl (n := 4 + 6 * t + 1) (by omega), ts_cl (n := 40 * r + i + k) (by omega), z, hO4 408 (by omega) (by omega), h8, show 40 * r + i + k = 40 * r + (i + k) by omega, hx (i + k) (by omega)]
        refine ⟨trivial, ts_vin (by omega) (by omega), by omega, trivial, ts_vin (by omega) (by omega), fun c => ?_, fun c => ?_⟩
        · have e2 : decide (nI (ts_nx B 1 t) = x (i + k)) = false := decide_eq_false c
          rw [e2, Bool.false_and] at hf
          exact nxt false hf
        · have e2 : decide (nI (ts_nx B 1 t) = x (i + k)) = true := decide_eq_true (Decidable.not_not.mp c)
          rw [e2, Bool.true_and] at hf
          exact nxt true hf
  exact L n 0 (ts_sp S.A t what v) true hi3 (by omega) hsp.1 hsp.2.1 (by rw [hsp.2.2]; exact ts_y1 hS hn) hR3 (fun b b1 _ => o3 b b1) rfl
theorem y_fits {d : Nat} {g : ts_G} {S : ts_S} {a1 a2 a3 a4 a5 : Int32} {hi : ts_I} {hk : ts_K} {Q : Int32 → ts_I → ts_K → Prop} (hM : ts_LM g) (hS : ts_SV S) (h : ts_MI S hi) (q : ts_QM (ts_s_fits S a1 a2 a3 a4 a5) hi hk Q) : ts_E0 (d + 25) mX12_fits [.ref 405, .int a1, .int a2, .int a3, .int a4, .int a5] g hi hk (ts_qi Q) := by
  refine ts_E0.of plX12_fits rfl (Nat.le_of_ble_eq_true rfl) ?_
  refine wX12_fits_0 ?_
  unfold ts_s_fits at q
  have hok := hS.1.1
  have hc := hok.1
  refine ⟨hM.kd, c_isTurnip hM h.1 hc (fun h1 => ⟨fun e => absurd e (by decide), fun _ => c_isRow (fun h2 => ⟨fun e => absurd e (by decide), fun _ => c_inq (fun h3 => ⟨fun e => absurd e (by decide), fun _ => c_inq (fun h4 => ⟨fun _ => ?_, fun e => absurd (by decide) e⟩) (fun n4 => ⟨fun e => absurd rfl e, fun _ => ?_⟩)⟩) (fun n3 => ⟨fun _ => ?_, fun e => absurd rfl e⟩)⟩) (fun n2 => ⟨fun _ => ?_, fun e => absurd rfl e⟩)⟩) (fun n1 => ⟨fun _ => ?_, fun e => absurd rfl e⟩)⟩
  · rw [if_pos ⟨⟨h1, h2⟩, h3, h4⟩] at q
    obtain ⟨t, ht, rfl⟩ := h1.get hc
    obtain ⟨r, hr, rfl⟩ := h2.get
    obtain ⟨n, hn1, hn, rfl⟩ := ts_rg (a := 1) (b := 12) (by omega) h3.1 h3.2 (by omega)
    obtain ⟨w, _, hw, rfl⟩ := ts_rg (a := 0) (b := 3) (by omega) h4.1 h4.2 (by omega)
    have hz := h.2.2.2.1 r hr
    have hv := hS.2.2.2.2.1 r hr
    rw [ts_cl (n := t) (by omega), ts_cl (n := r) (by omega), ts_cl (n := n) (by omega), ts_cl (n := w) (by omega)] at q
    refine c_isMissing hM hr hv.1 h.2.2.2.1 (fun hl => ⟨fun e => absurd e (by decide), fun _ => ?_⟩) (fun hl => ⟨fun _ => ?_, fun e => absurd rfl e⟩)
    · rw [if_pos hl] at q
      exact c_mfound (f := 1) hM hS h q
    · rw [if_neg hl] at q
      obtain ⟨z3, z4⟩ := hz.2 hl
      refine c_isPart hM hr z3 (fun p1 => ⟨fun _ => ?_, fun e => absurd (by decide) e⟩) (fun np => ⟨fun e => absurd rfl e, fun _ => ?_⟩)
      · rw [if_pos p1] at q
        obtain ⟨i, n', hin, rfl, hn'⟩ := p1.get hv.2
        rw [ts_eq (by omega) (by omega)] at hn'
        rw [ts_cl (n := i) (by omega)] at q
        -- the loop over what it may be
        have L : ∀ m v b hi', v + m = ts_hi w + 1 → ts_lo w ≤ v → (∀ b, b ≠ 413 → b ≠ 417 → hi' b = hi b) → ts_fo (ts_bs S.A t w (S.x r) i n) m v b = ts_af S.A t w (S.x r) i n → ts_J0 (d + 25) mX12_fits (ts_qi Q) g 155 [(0, .ref 405), (1, .int (nI t)), (2, .int (nI r)), (3, .int (nI i)), (4, .int (nI n)), (7, .int (nI (ts_pl t w))), (8, .int (nI (ts_hi w))), (9, .int b), (10, .int (nI v))] [] hi' hk := by
          have hh : ts_hi w ≤ 15 := by
            unfold ts_hi
            repeat' split
            all_goals omega
          intro m
          induction m with
          | zero =>
            intro v b hi' hvm hv1 hO hf
            refine wX12_fits_155 ?_
            rw [ts_lt (by omega) (by omega)]
            refine ⟨fun _ => ⟨hM.kd, ?_⟩, fun e => absurd (by omega) e⟩
            rw [ts_fo] at hf
            rw [hf]
            have hM2 : ts_MI S hi' := h.tri hS (fun b b1 b2 _ _ => hO b b1 b2)
            exact c_well hM hS hM2 (fun hi3 hM3 hf3 => q hi3 hM3 (fun b hb => by rw [hf3 b hb, hO b (by omega) (by omega)]))
          | succ m ih =>
            intro v b hi' hvm hv1 hO hf
            refine wX12_fits_155 ?_
            rw [ts_lt (by omega) (by omega), show (40 : Int32) = nI 40 from rfl, pk_mul, nI_add]
            rw [ts_fo] at hf
            have hvok : ts_vok w v := by
              have hw' : w = 0 ∨ w = 1 ∨ w = 2 ∨ w = 3 := by omega
              rcases hw' with rfl | rfl | rfl | rfl
              · have y1 : ts_lo 0 = 1 := rfl
                have y2 : ts_hi 0 = 5 := rfl
                exact Or.inl ⟨rfl, by omega, by omega⟩
              · have y2 : ts_hi 1 = 9 := rfl
                exact Or.inr (Or.inl ⟨rfl, by omega⟩)
              · have y1 : ts_lo 2 = 1 := rfl
                have y2 : ts_hi 2 = 9 := rfl
                exact Or.inr (Or.inr (Or.inl ⟨rfl, by omega, by omega⟩))
              · have y2 : ts_hi 3 = 15 := rfl
                exact Or.inr (Or.inr (Or.inr ⟨rfl, by omega⟩))
            have hR : ts_MR 411 0 S.A hi' := ts_MR.of hc h.1 (fun u _ => by rw [hO 411 (by omega) (by omega)])
            refine ⟨fun e => absurd e (by omega), fun _ => ⟨hM.kd, y_risesSo hM hS hR ht hw hvok hr (by omega) (by omega) (by rw [hO 408 (by omega) (by omega)]) z4 (fun hi2 ho2 => ?_)⟩⟩
            have hO2 : ∀ b, b ≠ 413 → b ≠ 417 → hi2 b = hi b := fun b b1 b2 => by rw [ho2 b b1 b2, hO b b1 b2]
            rw [show nI v + 1 = nI (v + 1) from by rw [ts_l1, nI_add]]
            unfold ts_bs at hf
            by_cases c : ts_to t (S.x r) n i (ts_sp S.A t w v) = true
            · rw [if_pos c] at hf ⊢
              exact ⟨fun e => absurd e (by decide), fun _ => ih (v + 1) _ hi2 (by omega) (by omega) hO2 hf⟩
            · rw [if_neg c] at hf ⊢
              rw [show b ||| (0 : Int32) = b from Int32.or_zero]
              exact ⟨fun _ => ih (v + 1) _ hi2 (by omega) (by omega) hO2 hf, fun e => absurd rfl e⟩
        have z := L (ts_hi w + 1 - ts_lo w) (ts_lo w) 0 hi (by
          unfold ts_hi ts_lo
          repeat' split
          all_goals omega) (Nat.le_refl _) (fun _ _ _ => rfl) rfl
        have hw' : w = 0 ∨ w = 1 ∨ w = 2 ∨ w = 3 := by omega
        rcases hw' with rfl | rfl | rfl | rfl
        · refine ⟨fun e => absurd rfl e, fun _ => ?_⟩
          simp only [ts_l4, ts_l6, pk_mul, nI_add]
          exact wX12_fits_112 ⟨fun e => absurd rfl e, fun _ => wX12_fits_136 ⟨fun e => absurd (by decide) e, fun _ => wX12_fits_153 z⟩⟩
        · refine ⟨fun _ => ⟨fun e => absurd rfl e, fun _ => ?_⟩, fun e => absurd (by decide) e⟩
          simp only [ts_l4, ts_l6, ts_l2, pk_mul, nI_add]
          exact wX12_fits_112 ⟨fun _ => ⟨fun _ => wX12_fits_136 ⟨fun _ => wX12_fits_153 z, fun e => absurd (by decide) e⟩, fun e => absurd (by decide) e⟩, fun e => absurd (by decide) e⟩
        · refine ⟨fun _ => ⟨fun _ => ⟨fun e => absurd rfl e, fun _ => ?_⟩, fun e => absurd (by decide) e⟩, fun e => absurd (by decide) e⟩
          exact wX12_fits_112 ⟨fun _ => ⟨fun _ => wX12_fits_136 ⟨fun e => absurd (by decide) e, fun _ => wX12_fits_153 z⟩, fun e => absurd (by decide) e⟩, fun e => absurd (by decide) e⟩
        · refine ⟨fun _ => ⟨fun _ => ⟨fun _ => ?_, fun e => absurd (by decide) e⟩, fun e => absurd (by decide) e⟩, fun e => absurd (by decide) e⟩
          exact wX12_fits_112 ⟨fun _ => ⟨fun e => absurd rfl e, fun _ => wX12_fits_136 ⟨fun _ => wX12_fits_153 z, fun e => absurd (by decide) e⟩⟩, fun e => absurd (by decide) e⟩
      · rw [if_neg np] at q
        exact c_mfound (f := 2) hM hS h q
  · rw [if_neg (fun x => n4 x.2.2)] at q
    exact q.st h
  · rw [if_neg (fun x => n3 x.2.1)] at q
    exact q.st h
  · rw [if_neg (fun x => n2 x.1.2)] at q
    exact q.st h
  · rw [if_neg (fun x => n1 x.1.1)] at q
    exact q.st h
theorem v_fits {S : ts_S} {a1 a2 a3 a4 a5 : Int32} (hS : ts_SV S) : ts_SV (ts_s_fits S a1 a2 a3 a4 a5).2 := by
  unfold ts_s_fits
  repeat' split
  · exact hS.stat (by omega)
  · exact hS.stat (by omega)
  · exact hS.stat (by omega)
  · exact hS
