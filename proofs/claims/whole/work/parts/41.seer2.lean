/-! changes, centuries, what fits, ways to rise: the class -/
/-- h over o, o + 1, .., m of them -/
def ts_fo {σ : Type} (h : σ → Nat → σ) : Nat → Nat → σ → σ
  | 0, _, w => w
  | m + 1, o, w => ts_fo h m (o + 1) (h w o)
def ts_cg (A : ts_A) (n : Nat) (w : Nat × Nat) (a b : Nat) : Nat × Nat := if w.1 < ts_rk (ts_pn (ts_xc A a b) n) + 1 then (ts_rk (ts_pn (ts_xc A a b) n) + 1, 10 * a + b) else w
def ts_cin (A : ts_A) (n : Nat) (w : Nat × Nat) (a : Nat) : Nat × Nat := ts_fo (fun w b => ts_cg A n w a b) (A 6 0 - (a + 1)) (a + 1) w
/-- the best change for n years: how much and 1, the pair -/
def ts_cb (A : ts_A) (n : Nat) : Nat × Nat := ts_fo (ts_cin A n) (A 6 0) 0 (0, 0)
/-- how a trial stands: only the trial's cells and the seer's own numbers differ -/
def ts_TF (hi : ts_I) (hk : ts_K) (hi' : ts_I) (hk' : ts_K) : Prop := (∀ b, b ≠ 311 → (b < 395 ∨ 404 < b) → hi' b = hi b) ∧ (∀ b, b ≠ 396 → hk' b = hk b) ∧ ts_FK 395 hk'
theorem c_bestChange {d n : Nat} {g : ts_G} {A : ts_A} {hi : ts_I} {hk : ts_K} {Q : Int32 → ts_I → ts_K → Prop} (hX : ts_LX g) (hR : ts_FR 291 A hi hk) (hK : ts_FK 291 hk) (hK2 : ts_FK 395 hk) (hA : ts_ok A) (hn : A 6 1 + n ≤ 1000000) (hn2 : n < 2147483648)
    (q : ∀ hi' hk', ts_TF hi hk hi' hk' → hi' 311 6 = ts_mo (ts_cb A n).1 → Q (nI (ts_cb A n).2) hi' hk') : ts_E0 (d + 4) mX7_bestChange [.ref 311, .int (nI n)] g hi hk (ts_qi Q) := by
  refine ts_E0.of plX7_bestChange rfl (Nat.le_of_ble_eq_true rfl) ?_
  refine wX7_bestChange_0 ?_
  have hT : ts_FL g 395 := (hX.tri 8 (by omega)).2
  have a0 := hA.1
  refine ⟨hX.s26, fun hi2 e2 => ?_⟩
  have O : ∀ m a w hi' hk', a + m = A 6 0 → w.1 ≤ 64 → ts_TF hi hk hi' hk' → hi' 311 6 = ts_mo w.1 → ts_fo (ts_cin A n) m a w = ts_cb A n → ts_J0 (d + 4) mX7_bestChange (ts_qi Q) g 9 [(0, .ref 311), (1, .int (nI n)), (2, .int (nI w.2)), (3, .int (nI a))] [] hi' hk' := by
    intro m
    induction m with
    | zero =>
      intro a w hi' hk' ham hw hO h6 hf
      refine wX7_bestChange_9 ?_
      simp only [ts_LX.s0 hX, ts_LX.s1 hX, ts_LX.s2 hX, ts_LX.s3 hX, ts_LX.s4 hX, ts_LX.s5 hX, ts_LX.s6 hX, ts_LX.s7 hX, ts_LX.s8 hX, ts_LX.s9 hX, ts_LX.s10 hX, ts_LX.s11 hX, ts_LX.s12 hX, ts_LX.s13 hX, ts_LX.s14 hX, ts_LX.s15 hX, ts_LX.s16 hX, ts_LX.s17 hX, ts_LX.s18 hX, ts_LX.s19 hX, ts_LX.s20 hX, ts_LX.s21 hX, ts_LX.s22 hX, ts_LX.s23 hX, ts_LX.s24 hX, ts_LX.s25 hX, ts_LX.s26 hX, ts_LX.s27 hX, ts_LX.s28 hX, ts_LX.s29 hX, ts_LX.s30 hX, ts_LX.s31 hX, ts_LX.s32 hX, ts_LX.s33 hX, ts_LX.s34 hX, ts_LX.s35 hX, ts_LX.s36 hX, ts_LX.s37 hX, ts_LX.s38 hX]
      have hR' : ts_FR 291 A hi' hk' := hR.of (fun b h1 h2 => hO.1 b (by omega) (by omega)) (hO.2.1 _ (by omega))
      rw [hR'.1, ts_le (by omega) (by omega)]
      refine ⟨trivial, by omega, hX.now.kd, fun _ => ?_, fun h => absurd (by omega) h⟩
      rw [ts_fo] at hf
      rw [hf]
      exact q hi' hk' hO (by rw [h6, hf])
    | succ m ih =>
      intro a w hi' hk' ham hw hO h6 hf
      refine wX7_bestChange_9 ?_
      simp only [ts_LX.s0 hX, ts_LX.s1 hX, ts_LX.s2 hX, ts_LX.s3 hX, ts_LX.s4 hX, ts_LX.s5 hX, ts_LX.s6 hX, ts_LX.s7 hX, ts_LX.s8 hX, ts_LX.s9 hX, ts_LX.s10 hX, ts_LX.s11 hX, ts_LX.s12 hX, ts_LX.s13 hX, ts_LX.s14 hX, ts_LX.s15 hX, ts_LX.s16 hX, ts_LX.s17 hX, ts_LX.s18 hX, ts_LX.s19 hX, ts_LX.s20 hX, ts_LX.s21 hX, ts_LX.s22 hX, ts_LX.s23 hX, ts_LX.s24 hX, ts_LX.s25 hX, ts_LX.s26 hX, ts_LX.s27 hX, ts_LX.s28 hX, ts_LX.s29 hX, ts_LX.s30 hX, ts_LX.s31 hX, ts_LX.s32 hX, ts_LX.s33 hX, ts_LX.s34 hX, ts_LX.s35 hX, ts_LX.s36 hX, ts_LX.s37 hX, ts_LX.s38 hX]
      have hR' : ts_FR 291 A hi' hk' := hR.of (fun b h1 h2 => hO.1 b (by omega) (by omega)) (hO.2.1 _ (by omega))
      rw [hR'.1, ts_le (by omega) (by omega), ts_l1, nI_add]
      refine ⟨trivial, by omega, hX.now.kd, fun h => absurd h (by omega), fun _ => ?_⟩
      rw [ts_fo] at hf
      have I : ∀ m2 b w hi' hk', b + m2 = A 6 0 → a < b → w.1 ≤ 64 → ts_TF hi hk hi' hk' → hi' 311 6 = ts_mo w.1 → ts_fo (ts_cin A n) m (a + 1) (ts_fo (fun w b => ts_cg A n w a b) m2 b w) = ts_cb A n → ts_J0 (d + 4) mX7_bestChange (ts_qi Q) g 25 [(0, .ref 311), (1, .int (nI n)), (2, .int (nI w.2)), (3, .int (nI a)), (4, .int (nI b))] [] hi' hk' := by
        intro m2
        induction m2 with
        | zero =>
          intro b w hi' hk' hbm hab hw hO h6 hf
          refine wX7_bestChange_25 ?_
          simp only [ts_LX.s0 hX, ts_LX.s1 hX, ts_LX.s2 hX, ts_LX.s3 hX, ts_LX.s4 hX, ts_LX.s5 hX, ts_LX.s6 hX, ts_LX.s7 hX, ts_LX.s8 hX, ts_LX.s9 hX, ts_LX.s10 hX, ts_LX.s11 hX, ts_LX.s12 hX, ts_LX.s13 hX, ts_LX.s14 hX, ts_LX.s15 hX, ts_LX.s16 hX, ts_LX.s17 hX, ts_LX.s18 hX, ts_LX.s19 hX, ts_LX.s20 hX, ts_LX.s21 hX, ts_LX.s22 hX, ts_LX.s23 hX, ts_LX.s24 hX, ts_LX.s25 hX, ts_LX.s26 hX, ts_LX.s27 hX, ts_LX.s28 hX, ts_LX.s29 hX, ts_LX.s30 hX, ts_LX.s31 hX, ts_LX.s32 hX, ts_LX.s33 hX, ts_LX.s34 hX, ts_LX.s35 hX, ts_LX.s36 hX, ts_LX.s37 hX, ts_LX.s38 hX]
          have hR' : ts_FR 291 A hi' hk' := hR.of (fun b h1 h2 => hO.1 b (by omega) (by omega)) (hO.2.1 _ (by omega))
          rw [hR'.1, ts_le (by omega) (by omega), ts_l1, nI_add]
          exact ⟨trivial, by omega, hX.now.kd, fun _ => ih (a + 1) w hi' hk' (by omega) hw hO h6 hf, fun h => absurd (by omega) h⟩
        | succ m2 ih2 =>
          intro b w hi' hk' hbm hab hw hO h6 hf
          refine wX7_bestChange_25 ?_
          simp only [ts_LX.s0 hX, ts_LX.s1 hX, ts_LX.s2 hX, ts_LX.s3 hX, ts_LX.s4 hX, ts_LX.s5 hX, ts_LX.s6 hX, ts_LX.s7 hX, ts_LX.s8 hX, ts_LX.s9 hX, ts_LX.s10 hX, ts_LX.s11 hX, ts_LX.s12 hX, ts_LX.s13 hX, ts_LX.s14 hX, ts_LX.s15 hX, ts_LX.s16 hX, ts_LX.s17 hX, ts_LX.s18 hX, ts_LX.s19 hX, ts_LX.s20 hX, ts_LX.s21 hX, ts_LX.s22 hX, ts_LX.s23 hX, ts_LX.s24 hX, ts_LX.s25 hX, ts_LX.s26 hX, ts_LX.s27 hX, ts_LX.s28 hX, ts_LX.s29 hX, ts_LX.s30 hX, ts_LX.s31 hX, ts_LX.s32 hX, ts_LX.s33 hX, ts_LX.s34 hX, ts_LX.s35 hX, ts_LX.s36 hX, ts_LX.s37 hX, ts_LX.s38 hX]
          have hR' : ts_FR 291 A hi' hk' := hR.of (fun b h1 h2 => hO.1 b (by omega) (by omega)) (hO.2.1 _ (by omega))
          have hK' : ts_FK 291 hk' := hK.of (hO.2.1 _ (by omega))
          rw [hR'.1, ts_le (by omega) (by omega)]
          refine ⟨trivial, by omega, hX.now.kd, fun h => absurd h (by omega), fun _ => ⟨by omega, hT.kd, c_become hX.kl hT hX.now (by omega) hR' hK' a0 (fun hi3 hk3 hR3 hK3 ho3 hok3 => ?_)⟩⟩
          refine c_exchange hT hR3 hA (by omega) (by omega) (fun hi4 hR4 ho4 => ?_)
          rw [ts_fo] at hf
          have hokx : ts_ok (ts_xc A a b) := ts_ok_xc hA (by omega) (by omega)
          have O4 : ∀ c, (c < 395 ∨ 404 < c) → hi4 c = hi' c := fun c hc => by rw [ho4 c (by omega) (by omega), ho3 c (by omega)]
          have Y : ∀ m3 y hi5, y + m3 = n → ts_FR 395 (ts_pn (ts_xc A a b) y) hi5 hk3 → (∀ c, (c < 395 ∨ 404 < c) → hi5 c = hi' c) → ts_J0 (d + 4) mX7_bestChange (ts_qi Q) g 61 [(0, .ref 311), (1, .int (nI n)), (2, .int (nI w.2)), (3, .int (nI a)), (4, .int (nI b)), (5, .int (nI y))] [] hi5 hk3 := by
            intro m3
            induction m3 with
            | zero =>
              intro y hi5 hyn hR5 hO5
              refine wX7_bestChange_61 ?_
              simp only [ts_LX.s0 hX, ts_LX.s1 hX, ts_LX.s2 hX, ts_LX.s3 hX, ts_LX.s4 hX, ts_LX.s5 hX, ts_LX.s6 hX, ts_LX.s7 hX, ts_LX.s8 hX, ts_LX.s9 hX, ts_LX.s10 hX, ts_LX.s11 hX, ts_LX.s12 hX, ts_LX.s13 hX, ts_LX.s14 hX, ts_LX.s15 hX, ts_LX.s16 hX, ts_LX.s17 hX, ts_LX.s18 hX, ts_LX.s19 hX, ts_LX.s20 hX, ts_LX.s21 hX, ts_LX.s22 hX, ts_LX.s23 hX, ts_LX.s24 hX, ts_LX.s25 hX, ts_LX.s26 hX, ts_LX.s27 hX, ts_LX.s28 hX, ts_LX.s29 hX, ts_LX.s30 hX, ts_LX.s31 hX, ts_LX.s32 hX, ts_LX.s33 hX, ts_LX.s34 hX, ts_LX.s35 hX, ts_LX.s36 hX, ts_LX.s37 hX, ts_LX.s38 hX]
              rw [ts_le (by omega) (by omega)]
              refine ⟨fun _ => ⟨trivial, by omega, hT.kd, ?_⟩, fun h => absurd (by omega) h⟩
              have ey : y = n := by omega
              subst ey
              have hokn := ts_pn_ok hokx y hn
              have hrk := ts_rk_le hokn
              refine c_allRanks hT hR5 hokn ?_
              rw [hO5 311 (by omega), h6, ts_mo_le (by omega) (by omega), ts_l1, ts_l10, pk_mul, nI_add, nI_add]
              have hO5' : ts_TF hi hk hi5 hk3 := ⟨fun c h1 h2 => by rw [hO5 c h2, hO.1 c h1 h2], fun c hc => by rw [hok3 c hc, hO.2.1 c hc], hK3⟩
              refine ⟨fun c => ?_, fun c hi9 e9 => ?_⟩
              · have e : ts_cg A y w a b = w := by unfold ts_cg; rw [if_neg (by omega)]
                rw [e] at hf
                exact ih2 (b + 1) w hi5 hk3 (by omega) (by omega) hw hO5' (by rw [hO5 311 (by omega)]; exact h6) hf
              · have e : ts_cg A y w a b = (ts_rk (ts_pn (ts_xc A a b) y) + 1, 10 * a + b) := by unfold ts_cg; rw [if_pos (by omega)]
                rw [e] at hf
                have z := ih2 (b + 1) (ts_rk (ts_pn (ts_xc A a b) y) + 1, 10 * a + b) hi9 hk3 (by omega) (by omega) (by show ts_rk _ + 1 ≤ 64; omega) ⟨fun c h1 h2 => by rw [e9]; funext s; rw [ts_up_a h1, hO5'.1 c h1 h2], hO5'.2.1, hO5'.2.2⟩ (by
                  rw [e9, ts_up_eq]
                  show _ = ts_mo (ts_rk _ + 1)
                  unfold ts_mo
                  rw [if_neg (by omega)]
                  rfl) hf
                exact z
            | succ m3 ih3 =>
              intro y hi5 hyn hR5 hO5
              refine wX7_bestChange_61 ?_
              simp only [ts_LX.s0 hX, ts_LX.s1 hX, ts_LX.s2 hX, ts_LX.s3 hX, ts_LX.s4 hX, ts_LX.s5 hX, ts_LX.s6 hX, ts_LX.s7 hX, ts_LX.s8 hX, ts_LX.s9 hX, ts_LX.s10 hX, ts_LX.s11 hX, ts_LX.s12 hX, ts_LX.s13 hX, ts_LX.s14 hX, ts_LX.s15 hX, ts_LX.s16 hX, ts_LX.s17 hX, ts_LX.s18 hX, ts_LX.s19 hX, ts_LX.s20 hX, ts_LX.s21 hX, ts_LX.s22 hX, ts_LX.s23 hX, ts_LX.s24 hX, ts_LX.s25 hX, ts_LX.s26 hX, ts_LX.s27 hX, ts_LX.s28 hX, ts_LX.s29 hX, ts_LX.s30 hX, ts_LX.s31 hX, ts_LX.s32 hX, ts_LX.s33 hX, ts_LX.s34 hX, ts_LX.s35 hX, ts_LX.s36 hX, ts_LX.s37 hX, ts_LX.s38 hX]
              rw [ts_le (by omega) (by omega)]
              refine ⟨fun h => absurd h (by omega), fun _ => ⟨trivial, by omega, hT.kd, c_fpass hX.kl hT hR5 (ts_pn_ok hokx y (by show A 6 1 + y ≤ _; omega)) (fun hi6 hR6 ho6 => ?_)⟩⟩
              rw [ts_l1, nI_add]
              exact ih3 (y + 1) hi6 (by omega) hR6 (fun c hc => by rw [ho6 c (by omega), hO5 c hc])
          exact Y n 0 hi4 (by omega) hR4 O4
      exact I (A 6 0 - (a + 1)) (a + 1) w hi' hk' (by omega) (by omega) hw hO h6 hf
  refine O (A 6 0) 0 (0, 0) hi2 hk (by omega) (by simp) ⟨fun b h1 h2 => by rw [e2]; funext s; rw [ts_up_a h1], fun _ _ => rfl, hK2⟩ (by rw [e2, ts_up_eq]; rfl) rfl
def ts_sg (A : ts_A) (v : Nat) : ts_A := fun c t => if c = 6 ∧ t = 2 then v else A c t
theorem ts_ok_sg {A : ts_A} {v : Nat} (hA : ts_ok A) (hv : v ≤ 9) : ts_ok (ts_sg A v) := ⟨hA.1, hA.2.1, hv, hA.2.2.2.1, hA.2.2.2.2⟩
def ts_cx (x : Nat) : Nat := x * 16807 % 2147483647
def ts_cy (A : ts_A) (x : Nat) : ts_A := ts_nx (if x % 3 = 0 then ts_xc (ts_sg A (1 + x % 9)) (x % A 6 0) (x / 2 % A 6 0) else ts_sg A (1 + x % 9))
def ts_ct : Nat → ts_A → Nat → ts_A
  | 0, A, _ => A
  | n + 1, A, x => ts_ct n (ts_cy A (ts_cx x)) (ts_cx x)
theorem ts_ok_cy {A : ts_A} {x : Nat} (hA : ts_ok A) (h0 : 0 < A 6 0) (hy : A 6 1 < 1000000) : ts_ok (ts_cy A x) ∧ ts_cy A x 6 0 = A 6 0 ∧ ts_cy A x 6 1 = A 6 1 + 1 := by
  have hs : ts_ok (ts_sg A (1 + x % 9)) := ts_ok_sg hA (by omega)
  unfold ts_cy
  by_cases h : x % 3 = 0
  · rw [if_pos h]
    exact ⟨ts_ok_ps (ts_ok_xc hs (Nat.mod_lt _ h0) (Nat.mod_lt _ h0)) hy, rfl, rfl⟩
  · rw [if_neg h]
    exact ⟨ts_ok_ps hs hy, rfl, rfl⟩
theorem ts_l2L : (2 : Int64) = lN 2 := rfl
theorem ts_cxL {x : Nat} (hx : x < 2147483648) : lN x * 16807 - lN x * 16807 / 2147483647 * 2147483647 = lN (ts_cx x) := by
  rw [show (16807 : Int64) = lN 16807 from rfl, show (2147483647 : Int64) = lN 2147483647 from rfl, lN_mul]
  exact pk_lRem (by omega) (by omega) (by omega)
theorem c_century {d n x0 : Nat} {g : ts_G} {A : ts_A} {hi : ts_I} {hk : ts_K} {Q : Nat → ts_I → ts_K → Prop} (hX : ts_LX g) (hR : ts_FR 291 A hi hk) (hK : ts_FK 291 hk) (hA : ts_ok A) (hc0 : 0 < A 6 0) (hn : A 6 1 + n ≤ 1000000) (hn2 : n < 2147483648) (hx0 : x0 < 2147483647)
    (q : ∀ hi' hk', ts_FR 395 (ts_ct n A x0) hi' hk' → ts_ok (ts_ct n A x0) → ts_TF hi hk hi' hk' → Q 395 hi' hk') : ts_E0 (d + 4) mX7_century [.ref 311, .int (nI n), .int (nI x0)] g hi hk (ts_qr Q) := by
  refine ts_E0.of plX7_century rfl (Nat.le_of_ble_eq_true rfl) ?_
  refine wX7_century_0 ?_
  have hT : ts_FL g 395 := (hX.tri 8 (by omega)).2
  have a0 := hA.1
  simp only [ts_LX.s0 hX, ts_LX.s1 hX, ts_LX.s2 hX, ts_LX.s3 hX, ts_LX.s4 hX, ts_LX.s5 hX, ts_LX.s6 hX, ts_LX.s7 hX, ts_LX.s8 hX, ts_LX.s9 hX, ts_LX.s10 hX, ts_LX.s11 hX, ts_LX.s12 hX, ts_LX.s13 hX, ts_LX.s14 hX, ts_LX.s15 hX, ts_LX.s16 hX, ts_LX.s17 hX, ts_LX.s18 hX, ts_LX.s19 hX, ts_LX.s20 hX, ts_LX.s21 hX, ts_LX.s22 hX, ts_LX.s23 hX, ts_LX.s24 hX, ts_LX.s25 hX, ts_LX.s26 hX, ts_LX.s27 hX, ts_LX.s28 hX, ts_LX.s29 hX, ts_LX.s30 hX, ts_LX.s31 hX, ts_LX.s32 hX, ts_LX.s33 hX, ts_LX.s34 hX, ts_LX.s35 hX, ts_LX.s36 hX, ts_LX.s37 hX, ts_LX.s38 hX]
  refine ⟨trivial, by omega, by omega, hT.kd, c_become hX.kl hT hX.now (by omega) hR hK hA.1 (fun hi1 hk1 hR1 hK1 ho1 hok1 => ?_)⟩
  rw [hR1.1, nI_l (by omega)]
  have L : ∀ m i B x hi', i + m = n → ts_ok B → B 6 0 = A 6 0 → B 6 1 = A 6 1 + i → x < 2147483647 → ts_FR 395 B hi' hk1 → (∀ b, (b < 395 ∨ 404 < b) → hi' b = hi b) → ts_ct m B x = ts_ct n A x0 → ts_J0 (d + 4) mX7_century (ts_qr Q) g 26 [(0, .ref 311), (1, .int (nI n)), (3, .int (nI (A 6 0))), (4, .long (lN x)), (6, .int (nI i))] [] hi' hk1 := by
    intro m
    induction m with
    | zero =>
      intro i B x hi' him hB hB0 hB1 hx hR' hO hf
      refine wX7_century_26 ?_
      simp only [ts_LX.s0 hX, ts_LX.s1 hX, ts_LX.s2 hX, ts_LX.s3 hX, ts_LX.s4 hX, ts_LX.s5 hX, ts_LX.s6 hX, ts_LX.s7 hX, ts_LX.s8 hX, ts_LX.s9 hX, ts_LX.s10 hX, ts_LX.s11 hX, ts_LX.s12 hX, ts_LX.s13 hX, ts_LX.s14 hX, ts_LX.s15 hX, ts_LX.s16 hX, ts_LX.s17 hX, ts_LX.s18 hX, ts_LX.s19 hX, ts_LX.s20 hX, ts_LX.s21 hX, ts_LX.s22 hX, ts_LX.s23 hX, ts_LX.s24 hX, ts_LX.s25 hX, ts_LX.s26 hX, ts_LX.s27 hX, ts_LX.s28 hX, ts_LX.s29 hX, ts_LX.s30 hX, ts_LX.s31 hX, ts_LX.s32 hX, ts_LX.s33 hX, ts_LX.s34 hX, ts_LX.s35 hX, ts_LX.s36 hX, ts_LX.s37 hX, ts_LX.s38 hX]
      rw [ts_le (by omega) (by omega)]
      rw [ts_ct] at hf
      refine ⟨fun _ => ⟨trivial, by omega, ?_⟩, fun h => absurd (by omega) h⟩
      exact q hi' hk1 (by rw [← hf]; exact hR') (by rw [← hf]; exact hB) ⟨fun b _ hb => hO b hb, hok1, hK1⟩
    | succ m ih =>
      intro i B x hi' him hB hB0 hB1 hx hR' hO hf
      refine wX7_century_26 ?_
      simp only [ts_LX.s0 hX, ts_LX.s1 hX, ts_LX.s2 hX, ts_LX.s3 hX, ts_LX.s4 hX, ts_LX.s5 hX, ts_LX.s6 hX, ts_LX.s7 hX, ts_LX.s8 hX, ts_LX.s9 hX, ts_LX.s10 hX, ts_LX.s11 hX, ts_LX.s12 hX, ts_LX.s13 hX, ts_LX.s14 hX, ts_LX.s15 hX, ts_LX.s16 hX, ts_LX.s17 hX, ts_LX.s18 hX, ts_LX.s19 hX, ts_LX.s20 hX, ts_LX.s21 hX, ts_LX.s22 hX, ts_LX.s23 hX, ts_LX.s24 hX, ts_LX.s25 hX, ts_LX.s26 hX, ts_LX.s27 hX, ts_LX.s28 hX, ts_LX.s29 hX, ts_LX.s30 hX, ts_LX.s31 hX, ts_LX.s32 hX, ts_LX.s33 hX, ts_LX.s34 hX, ts_LX.s35 hX, ts_LX.s36 hX, ts_LX.s37 hX, ts_LX.s38 hX]
      have hcx : ts_cx x < 2147483647 := Nat.mod_lt _ (by omega)
      rw [ts_ct] at hf
      have hoky := ts_ok_cy (x := ts_cx x) hB (by omega) (by omega)
      have hs : ts_ok (ts_sg B (1 + ts_cx x % 9)) := ts_ok_sg hB (by omega)
      rw [ts_cxL (by omega), nI_l (by omega), show (9 : Int64) = lN 9 from rfl, show (3 : Int64) = lN 3 from rfl, ts_l2L, pk_lRem (by omega) (by omega) (by omega), pk_lRem (by omega) (by omega) (by omega), pk_lRem (by omega) (by omega) (by omega), pk_lDiv (by omega) (by omega) (by omega), pk_lRem (by omega) (by omega) (by omega), lN_i, lN_i, lN_i, ts_le (by omega) (by omega), ts_l0, ts_le (by omega) (by omega), ts_l1, nI_add, nI_add]
      refine ⟨fun h => absurd h (by omega), fun _ => ⟨fun h => absurd h (by omega), fun _ => ⟨trivial, by omega, hT.kd, fun hi10 e10 => ⟨fun h => ?_, fun h => ?_, fun h => ?_⟩⟩⟩⟩
      · rw [show (0 : Int64) = lN 0 from rfl, lN_eq (by omega) (by omega)] at h
        omega
      all_goals
        have hRg : ts_FR 395 (ts_sg B (1 + ts_cx x % 9)) hi10 hk1 := by
          obtain ⟨h1, h2, h3, h4, hTt⟩ := hR'
          refine ⟨by rw [e10, ts_up_s (by omega)]; exact h1, by rw [e10, ts_up_s (by omega)]; exact h2, by rw [e10, ts_up_eq]; rfl, by rw [e10, ts_up_s (by omega)]; exact h4, fun t ht => ?_⟩
          have z := hTt t ht
          rw [e10, ts_up_a (by omega), ts_up_a (by omega), ts_up_a (by omega), ts_up_a (by omega), ts_up_a (by omega), ts_up_a (by omega)]
          exact z
        have O10 : ∀ b, (b < 395 ∨ 404 < b) → hi10 b = hi b := fun b hb => by rw [e10]; funext s; rw [ts_up_a (by omega), hO b hb]
      · have h0 : ¬ ts_cx x % 3 = 0 := fun e => by
          apply h
          rw [e]
          decide
        have ecy : ts_cy B (ts_cx x) = ts_nx (ts_sg B (1 + ts_cx x % 9)) := by unfold ts_cy; rw [if_neg h0]
        refine c_fpass hX.kl hT hRg hs (fun hi2 hR2 ho2 => ?_)
        rw [← ecy] at hR2
        exact ih (i + 1) _ _ hi2 (by omega) hoky.1 (hoky.2.1.trans hB0) (by rw [hoky.2.2, hB1]; omega) hcx hR2 (fun b hb => by rw [ho2 b (by omega), O10 b hb]) hf
      · have h0 : ts_cx x % 3 = 0 := by
          have h1 := Decidable.not_not.mp h
          rw [show (nI 0) = 0 from rfl, lg_cmp_eq, show (0 : Int64) = lN 0 from rfl, lN_eq (by omega) (by omega)] at h1
          exact h1
        have m1 : ts_cx x % A 6 0 < B 6 0 := by rw [hB0]; exact Nat.mod_lt _ hc0
        have m2 : ts_cx x / 2 % A 6 0 < B 6 0 := by rw [hB0]; exact Nat.mod_lt _ hc0
        have ecy : ts_cy B (ts_cx x) = ts_nx (ts_xc (ts_sg B (1 + ts_cx x % 9)) (ts_cx x % A 6 0) (ts_cx x / 2 % A 6 0)) := by unfold ts_cy; rw [if_pos h0, hB0]
        refine c_exchange hT hRg hs m1 m2 (fun hi3 hR3 ho3 => ?_)
        refine c_fpass hX.kl hT hR3 (ts_ok_xc hs m1 m2) (fun hi2 hR2 ho2 => ?_)
        rw [← ecy] at hR2
        exact ih (i + 1) _ _ hi2 (by omega) hoky.1 (hoky.2.1.trans hB0) (by rw [hoky.2.2, hB1]; omega) hcx hR2 (fun b hb => by rw [ho2 b (by omega), ho3 b (by omega) (by omega), O10 b hb]) hf
  exact L n 0 A x0 hi1 (by omega) hA rfl rfl hx0 hR1 (fun b hb => ho1 b (by omega)) rfl
