/-! what fits, ways to rise: the class -/
def ts_sp (A : ts_A) (t what v : Nat) : ts_A := fun c u =>
  if what = 0 then (if c = 0 ∧ u = t then v else A c u) else if what = 1 then (if c = 2 ∧ u = t then v else A c u)
  else if what = 2 then (if c = 6 ∧ u = 2 then v else A c u) else (if c = 6 ∧ u = 3 then v else A c u)
def ts_vok (what v : Nat) : Prop := (what = 0 ∧ 1 ≤ v ∧ v ≤ 5) ∨ (what = 1 ∧ v ≤ 9) ∨ (what = 2 ∧ 1 ≤ v ∧ v ≤ 9) ∨ (what = 3 ∧ v ≤ 15)
theorem ts_ok_sp {A : ts_A} {t what v : Nat} (hA : ts_ok A) (hv : ts_vok what v) : ts_ok (ts_sp A t what v) ∧ ts_sp A t what v 6 0 = A 6 0 ∧ ts_sp A t what v 6 1 = A 6 1 := by
  obtain ⟨a0, a1, a2, a3, aT⟩ := hA
  unfold ts_vok at hv
  rcases hv with ⟨rfl, h1, h2⟩ | ⟨rfl, h1⟩ | ⟨rfl, h1, h2⟩ | ⟨rfl, h1⟩
  · refine ⟨⟨a0, a1, a2, a3, fun u hu => ?_⟩, rfl, rfl⟩
    have z := aT u hu
    refine ⟨?_, z.2⟩
    show 1 ≤ (if 0 = 0 ∧ u = t then v else A 0 u) ∧ (if 0 = 0 ∧ u = t then v else A 0 u) ≤ 5
    by_cases e : u = t
    · rw [if_pos ⟨rfl, e⟩]; omega
    · rw [if_neg (fun c => e c.2)]; exact z.1
  · refine ⟨⟨a0, a1, a2, a3, fun u hu => ?_⟩, rfl, rfl⟩
    have z := aT u hu
    refine ⟨z.1, z.2.1, ?_, z.2.2.2⟩
    show (if 2 = 2 ∧ u = t then v else A 2 u) ≤ 9
    by_cases e : u = t
    · rw [if_pos ⟨rfl, e⟩]; omega
    · rw [if_neg (fun c => e c.2)]; exact z.2.2.1
  · exact ⟨⟨a0, a1, h2, a3, aT⟩, rfl, rfl⟩
  · exact ⟨⟨a0, a1, a2, h1, aT⟩, rfl, rfl⟩
def ts_KA (hk : ts_K) : Prop := hk 7 0 = 10 ∧ ∀ v, 1 ≤ v → v ≤ 5 → hk 7 v = 9 + v
theorem c_suppose {d t what v : Nat} {g : ts_G} {A : ts_A} {hi : ts_I} {hk : ts_K} {Q : ts_I → ts_K → Prop} (hX : ts_LX g) (hR : ts_FR 395 A hi hk) (hK : ts_FK 395 hk) (hKA : ts_KA hk) (hA : ts_ok A) (ht : t < A 6 0) (hv : ts_vok what v)
    (q : ∀ hi' hk', ts_FR 395 (ts_sp A t what v) hi' hk' → ts_FK 395 hk' → (∀ b, (b < 395 ∨ 404 < b) → hi' b = hi b) → (∀ b, b ≠ 396 → hk' b = hk b) → Q hi' hk') : ts_E0 d mX7_suppose [.ref 311, .int (nI t), .int (nI what), .int (nI v)] g hi hk (ts_qv Q) := by
  refine ts_E0.of plX7_suppose rfl (Nat.le_of_ble_eq_true rfl) ?_
  refine wX7_suppose_0 ?_
  have hT : ts_FL g 395 := (hX.tri 8 (by omega)).2
  obtain ⟨h1, h2, h3, h4, hTt⟩ := hR
  have a0 := hA.1
  simp only [ts_LX.s0 hX, ts_LX.s1 hX, ts_LX.s2 hX, ts_LX.s3 hX, ts_LX.s4 hX, ts_LX.s5 hX, ts_LX.s6 hX, ts_LX.s7 hX, ts_LX.s8 hX, ts_LX.s9 hX, ts_LX.s10 hX, ts_LX.s11 hX, ts_LX.s12 hX, ts_LX.s13 hX, ts_LX.s14 hX, ts_LX.s15 hX, ts_LX.s16 hX, ts_LX.s17 hX, ts_LX.s18 hX, ts_LX.s19 hX, ts_LX.s20 hX, ts_LX.s21 hX, ts_LX.s22 hX, ts_LX.s23 hX, ts_LX.s24 hX, ts_LX.s25 hX, ts_LX.s26 hX, ts_LX.s27 hX, ts_LX.s28 hX, ts_LX.s29 hX, ts_LX.s30 hX, ts_LX.s31 hX, ts_LX.s32 hX, ts_LX.s33 hX, ts_LX.s34 hX, ts_LX.s35 hX, ts_LX.s36 hX, ts_LX.s37 hX, ts_LX.s38 hX, ts_FL.kd hT, ts_FL.k1 hT, ts_FL.k2 hT, ts_FL.k3 hT, ts_FL.k4 hT, ts_FL.k5 hT, ts_FL.k6 hT, ts_FL.k7 hT, ts_FL.k8 hT, ts_FL.k9 hT, ts_FL.l1 hT, ts_FL.l2 hT, ts_FL.l3 hT, ts_FL.l4 hT, ts_FL.l5 hT, ts_FL.l6 hT, ts_FL.l7 hT, ts_FL.l8 hT, ts_FL.l9 hT, ts_FL.o0 hT, ts_FL.o1 hT, ts_FL.o2 hT, ts_FL.o3 hT, ts_FL.o4 hT, ts_FL.o5 hT, ts_FL.o6 hT, ts_FL.o7 hT, ts_FL.o8 hT]
  unfold ts_vok at hv
  have hv16 : v ≤ 15 := by omega
  rw [show Int32.ofNat 6 = nI 6 from rfl, ts_cl (n := v) (by omega), ts_cl (n := t) (by omega), ts_l0, ts_l1, ts_l2, ts_eq (by omega) (by omega), ts_eq (by omega) (by omega), ts_eq (by omega) (by omega), ts_lt (by omega) (by omega), ts_le (by omega) (by omega)]
  refine ⟨fun c => ⟨fun h => absurd h (by omega), fun _ => ⟨trivial, by omega, trivial, fun h => absurd h (by omega), fun _ => ⟨by omega, trivial, by omega, ts_vin (by omega) (by omega), ?_, trivial, ts_vin (by omega) (by omega), ?_, fun hk15 e15 => ?_⟩⟩⟩, fun c => ⟨trivial, by omega, trivial, by omega, trivial, ts_vin (by omega) (by omega), fun hi2 e2 => ?_⟩, fun c => ⟨trivial, by omega, trivial, fun hi2 e2 => ?_⟩, fun n0 n1 n2 => ⟨trivial, by omega, trivial, fun hi2 e2 => ?_⟩⟩
  · rw [hKA.2 v (by omega) (by omega)]; omega
  · rw [hKA.2 v (by omega) (by omega)]; exact hX.kl.is (by omega) (by omega)
  · subst c
    rw [hKA.2 v (by omega) (by omega)] at e15
    refine q hi hk15 ⟨h1, h2, h3, h4, fun s hs => ?_⟩ (fun s hs => ?_) (fun _ _ => rfl) (fun b hb => by rw [e15]; funext s; rw [ts_uk_a hb])
    · have hs' : s < A 6 0 := hs
      have z := hTt s hs'
      refine ⟨?_, z.2⟩
      show hk15 (395 + 1) s = 9 + (if 0 = 0 ∧ s = t then v else A 0 s)
      rw [e15]
      by_cases e : s = t
      · rw [e, ts_uk_eq, if_pos ⟨rfl, rfl⟩]
      · rw [ts_uk_s e, if_neg (fun c => e c.2)]
        exact z.1
    · rw [e15]
      by_cases e : s = t
      · rw [e, ts_uk_eq]; omega
      · rw [ts_uk_s e]; exact hK s hs
  · subst c
    refine q hi2 hk ⟨by rw [e2, ts_up_a (by omega)]; exact h1, by rw [e2, ts_up_a (by omega)]; exact h2, by rw [e2, ts_up_a (by omega)]; exact h3, by rw [e2, ts_up_a (by omega)]; exact h4, fun s hs => ?_⟩ hK (fun b hb => by rw [e2]; funext s; rw [ts_up_a (by omega)]) (fun _ _ => rfl)
    have hs' : s < A 6 0 := hs
    have z := hTt s hs'
    rw [e2]
    refine ⟨z.1, by rw [ts_up_a (by omega)]; exact z.2.1, ?_, by rw [ts_up_a (by omega)]; exact z.2.2.2.1, by rw [ts_up_a (by omega)]; exact z.2.2.2.2.1, by rw [ts_up_a (by omega)]; exact z.2.2.2.2.2.1, by rw [ts_up_a (by omega)]; exact z.2.2.2.2.2.2⟩
    show _ = nI (if 2 = 2 ∧ s = t then v else A 2 s)
    by_cases e : s = t
    · rw [e, ts_up_eq, if_pos ⟨rfl, rfl⟩]
    · rw [ts_up_s e, if_neg (fun c => e c.2)]
      exact z.2.2.1
  · subst c
    refine q hi2 hk ⟨by rw [e2, ts_up_s (by omega)]; exact h1, by rw [e2, ts_up_s (by omega)]; exact h2, by rw [e2, ts_up_eq]; rfl, by rw [e2, ts_up_s (by omega)]; exact h4, fun s hs => ?_⟩ hK (fun b hb => by rw [e2]; funext s; rw [ts_up_a (by omega)]) (fun _ _ => rfl)
    rw [e2, ts_up_a (by omega), ts_up_a (by omega), ts_up_a (by omega), ts_up_a (by omega), ts_up_a (by omega), ts_up_a (by omega)]
    exact hTt s hs
  · have c : what = 3 := by omega
    subst c
    refine q hi2 hk ⟨by rw [e2, ts_up_s (by omega)]; exact h1, by rw [e2, ts_up_s (by omega)]; exact h2, by rw [e2, ts_up_s (by omega)]; exact h3, by rw [e2, ts_up_eq]; rfl, fun s hs => ?_⟩ hK (fun b hb => by rw [e2]; funext s; rw [ts_up_a (by omega)]) (fun _ _ => rfl)
    rw [e2, ts_up_a (by omega), ts_up_a (by omega), ts_up_a (by omega), ts_up_a (by omega), ts_up_a (by omega), ts_up_a (by omega)]
    exact hTt s hs
/-- whether the ranks of t from now on are its i, i + 1, .. -/
def ts_to (t : Nat) (its : Nat → Int32) : Nat → Nat → ts_A → Bool
  | 0, _, _ => true
  | m + 1, i, A => decide (nI (ts_nx A 1 t) = its i) && ts_to t its m (i + 1) (ts_nx A)
theorem c_isTold {d t i n o a : Nat} {g : ts_G} {A : ts_A} {hi : ts_I} {hk : ts_K} {Q : Int32 → ts_I → ts_K → Prop} (hX : ts_LX g) (hR : ts_FR 395 A hi hk) (hA : ts_ok A) (hy : A 6 1 + n ≤ 1000000) (ht : t < A 6 0) (ho : g.2.1 o = 5) (hoa : g.2.2.2 o 0 = a) (ha : g.2.1 a = 100) (hla : g.2.2.1 a = 40) (ha1 : 0 < a ∧ a < 395) (hin : i + n ≤ 40)
    (q : ∀ hi', (∀ b, (b < 395 ∨ 404 < b) → hi' b = hi b) → Q (if ts_to t (hi a) n i A = true then 1 else 0) hi' hk) : ts_E0 (d + 4) mX7_isTold [.ref 311, .int (nI t), .ref o, .int (nI i), .int (nI n)] g hi hk (ts_qi Q) := by
  refine ts_E0.of plX7_isTold rfl (Nat.le_of_ble_eq_true rfl) ?_
  refine wX7_isTold_0 ?_
  have hT : ts_FL g 395 := (hX.tri 8 (by omega)).2
  have L : ∀ m k B hi', k + m = i + n → i ≤ k → ts_ok B → B 6 0 = A 6 0 → B 6 1 + m ≤ 1000000 → ts_FR 395 B hi' hk → (∀ b, (b < 395 ∨ 404 < b) → hi' b = hi b) → ts_to t (hi a) m k B = ts_to t (hi a) n i A → ts_J0 (d + 4) mX7_isTold (ts_qi Q) g 3 [(0, .ref 311), (1, .int (nI t)), (2, .ref o), (3, .int (nI i)), (4, .int (nI n)), (5, .int (nI k))] [] hi' hk := by
    intro m
    induction m with
    | zero =>
      intro k B hi' hkm hik hB hB0 hB1 hR' hO hf
      refine wX7_isTold_3 ?_
      rw [nI_add, ts_le (by omega) (by omega)]
      refine ⟨fun _ => ?_, fun h => absurd (by omega) h⟩
      have z := q hi' hO
      rw [← hf, ts_to, if_pos rfl] at z
      exact z
    | succ m ih =>
      intro k B hi' hkm hik hB hB0 hB1 hR' hO hf
      refine wX7_isTold_3 ?_
      simp only [ts_LX.s0 hX, ts_LX.s1 hX, ts_LX.s2 hX, ts_LX.s3 hX, ts_LX.s4 hX, ts_LX.s5 hX, ts_LX.s6 hX, ts_LX.s7 hX, ts_LX.s8 hX, ts_LX.s9 hX, ts_LX.s10 hX, ts_LX.s11 hX, ts_LX.s12 hX, ts_LX.s13 hX, ts_LX.s14 hX, ts_LX.s15 hX, ts_LX.s16 hX, ts_LX.s17 hX, ts_LX.s18 hX, ts_LX.s19 hX, ts_LX.s20 hX, ts_LX.s21 hX, ts_LX.s22 hX, ts_LX.s23 hX, ts_LX.s24 hX, ts_LX.s25 hX, ts_LX.s26 hX, ts_LX.s27 hX, ts_LX.s28 hX, ts_LX.s29 hX, ts_LX.s30 hX, ts_LX.s31 hX, ts_LX.s32 hX, ts_LX.s33 hX, ts_LX.s34 hX, ts_LX.s35 hX, ts_LX.s36 hX, ts_LX.s37 hX, ts_LX.s38 hX, ts_FL.kd hT, ts_FL.k1 hT, ts_FL.k2 hT, ts_FL.k3 hT, ts_FL.k4 hT, ts_FL.k5 hT, ts_FL.k6 hT, ts_FL.k7 hT, ts_FL.k8 hT, ts_FL.k9 hT, ts_FL.l1 hT, ts_FL.l2 hT, ts_FL.l3 hT, ts_FL.l4 hT, ts_FL.l5 hT, ts_FL.l6 hT, ts_FL.l7 hT, ts_FL.l8 hT, ts_FL.l9 hT, ts_FL.o0 hT, ts_FL.o1 hT, ts_FL.o2 hT, ts_FL.o3 hT, ts_FL.o4 hT, ts_FL.o5 hT, ts_FL.o6 hT, ts_FL.o7 hT, ts_FL.o8 hT]
      rw [nI_add, show (40 : Int32) = nI 40 from rfl, ts_le (by omega) (by omega), ts_le (by omega) (by omega)]
      have a0 := hA.1
      refine ⟨fun h => absurd h (by omega), fun _ => ⟨fun h => absurd h (by omega), fun _ => ⟨trivial, by omega, trivial, c_fpass hX.kl hT hR' hB (fun hi2 hR2 ho2 => ?_)⟩⟩⟩
      have hO2 : ∀ b, (b < 395 ∨ 404 < b) → hi2 b = hi b := fun b hb => by rw [ho2 b (by omega), hO b hb]
      rw [hoa, ha, hla, ts_cl (n := t) (by omega), ts_cl (n := k) (by omega), (hR2.2.2.2.2 t (by show t < B 6 0; omega)).2.1, hO2 a (by omega)]
      rw [ts_to] at hf
      refine ⟨by omega, trivial, ts_vin (by omega) (by omega), ho, by omega, rfl, ts_vin (by omega) (by omega), fun c => ?_, fun c => ?_⟩
      · rw [ts_l1, nI_add]
        refine ih (k + 1) (ts_nx B) hi2 (by omega) (by omega) (ts_ok_ps hB (by omega)) hB0 (by show B 6 1 + 1 + m ≤ _; omega) hR2 hO2 ?_
        rw [← hf]
        simp [c]
      · have z := q hi2 hO2
        rw [← hf, if_neg (by simp [c])] at z
        exact z
  exact L n i A hi rfl (Nat.le_refl _) hA rfl hy hR (fun _ _ => rfl) rfl
def ts_lo (what : Nat) : Nat := if what = 0 ∨ what = 2 then 1 else 0
def ts_hi (what : Nat) : Nat := if what = 0 then 5 else if what = 3 then 15 else 9
def ts_bs (A : ts_A) (t what : Nat) (its : Nat → Int32) (i n : Nat) (b : Int32) (v : Nat) : Int32 := if ts_to t its n i (ts_sp A t what v) = true then b ||| ((1 : Int32) <<< (nI v &&& 31)) else b
def ts_af (A : ts_A) (t what : Nat) (its : Nat → Int32) (i n : Nat) : Int32 := ts_fo (ts_bs A t what its i n) (ts_hi what + 1 - ts_lo what) (ts_lo what) 0
theorem c_allFitting {d t i n what o a : Nat} {g : ts_G} {A : ts_A} {hi : ts_I} {hk : ts_K} {Q : Int32 → ts_I → ts_K → Prop} (hX : ts_LX g) (hR : ts_FR 291 A hi hk) (hK : ts_FK 291 hk) (hK2 : ts_FK 395 hk) (hKA : ts_KA hk) (hA : ts_ok A) (hy : A 6 1 + n ≤ 1000000) (ht : t < A 6 0) (hw : what ≤ 3) (ho : g.2.1 o = 5) (hoa : g.2.2.2 o 0 = a) (ha : g.2.1 a = 100) (hla : g.2.2.1 a = 40) (ha1 : 0 < a ∧ a < 395 ∧ a ≠ 311) (hin : i + n ≤ 40)
    (q : ∀ hi' hk', ts_TF hi hk hi' hk' → hi' 311 = hi 311 → Q (ts_af A t what (hi a) i n) hi' hk') : ts_E0 (d + 5) mX7_allFitting [.ref 311, .int (nI t), .ref o, .int (nI i), .int (nI n), .int (nI what)] g hi hk (ts_qi Q) := by
  refine ts_E0.of plX7_allFitting rfl (Nat.le_of_ble_eq_true rfl) ?_
  refine wX7_allFitting_0 ?_
  have hT : ts_FL g 395 := (hX.tri 8 (by omega)).2
  have a0 := hA.1
  have L : ∀ m v b hi' hk', v + m = ts_hi what + 1 → ts_lo what ≤ v → (∀ b, (b < 395 ∨ 404 < b) → hi' b = hi b) → (∀ b, b ≠ 396 → hk' b = hk b) → ts_FK 395 hk' → ts_fo (ts_bs A t what (hi a) i n) m v b = ts_af A t what (hi a) i n → ts_J0 (d + 5) mX7_allFitting (ts_qi Q) g 49 [(0, .ref 311), (1, .int (nI t)), (2, .ref o), (3, .int (nI i)), (4, .int (nI n)), (5, .int (nI what)), (7, .int (nI (ts_hi what))), (8, .int b), (9, .int (nI v))] [] hi' hk' := by
    have hh : ts_hi what ≤ 15 := by unfold ts_hi; repeat' split
                                    all_goals omega
    intro m
    induction m with
    | zero =>
      intro v b hi' hk' hvm hlo hO hOk hK' hf
      refine wX7_allFitting_49 ?_
      rw [ts_lt (by omega) (by omega)]
      refine ⟨fun _ => ?_, fun h => absurd (by omega) h⟩
      rw [ts_fo] at hf
      rw [hf]
      exact q hi' hk' ⟨fun b _ hb => hO b hb, hOk, hK'⟩ (hO 311 (by omega))
    | succ m ih =>
      intro v b hi' hk' hvm hlo hO hOk hK' hf
      refine wX7_allFitting_49 ?_
      simp only [ts_LX.s0 hX, ts_LX.s1 hX, ts_LX.s2 hX, ts_LX.s3 hX, ts_LX.s4 hX, ts_LX.s5 hX, ts_LX.s6 hX, ts_LX.s7 hX, ts_LX.s8 hX, ts_LX.s9 hX, ts_LX.s10 hX, ts_LX.s11 hX, ts_LX.s12 hX, ts_LX.s13 hX, ts_LX.s14 hX, ts_LX.s15 hX, ts_LX.s16 hX, ts_LX.s17 hX, ts_LX.s18 hX, ts_LX.s19 hX, ts_LX.s20 hX, ts_LX.s21 hX, ts_LX.s22 hX, ts_LX.s23 hX, ts_LX.s24 hX, ts_LX.s25 hX, ts_LX.s26 hX, ts_LX.s27 hX, ts_LX.s28 hX, ts_LX.s29 hX, ts_LX.s30 hX, ts_LX.s31 hX, ts_LX.s32 hX, ts_LX.s33 hX, ts_LX.s34 hX, ts_LX.s35 hX, ts_LX.s36 hX, ts_LX.s37 hX, ts_LX.s38 hX]
      rw [ts_lt (by omega) (by omega)]
      rw [ts_fo] at hf
      have hvok : ts_vok what v := by
        unfold ts_lo at hlo
        unfold ts_hi at hvm
        unfold ts_vok
        have h3 : what = 0 ∨ what = 1 ∨ what = 2 ∨ what = 3 := by omega
        rcases h3 with rfl | rfl | rfl | rfl
        · rw [if_pos (Or.inl rfl)] at hlo; rw [if_pos rfl] at hvm; omega
        · rw [if_neg (by omega), if_neg (by omega)] at hvm; omega
        · rw [if_pos (Or.inr rfl)] at hlo; rw [if_neg (by omega), if_neg (by omega)] at hvm; omega
        · rw [if_neg (by omega), if_pos rfl] at hvm; omega
      have hR' : ts_FR 291 A hi' hk' := hR.of (fun b h1 h2 => hO b (by omega)) (hOk _ (by omega))
      have hK'' : ts_FK 291 hk' := hK.of (hOk _ (by omega))
      refine ⟨fun h => absurd h (by omega), fun _ => ⟨trivial, by omega, by omega, hT.kd, c_become hX.kl hT hX.now (by omega) hR' hK'' a0 (fun hi1 hk1 hR1 hK1 ho1 hok1 => ?_)⟩⟩
      have hKA1 : ts_KA hk1 := by
        unfold ts_KA
        rw [hok1 7 (by omega), hOk 7 (by omega)]
        exact hKA
      refine c_suppose hX hR1 hK1 hKA1 hA ht hvok (fun hi2 hk2 hR2 hK2 ho2 hok2 => ?_)
      have hsp := ts_ok_sp (t := t) hA hvok
      refine c_isTold hX hR2 hsp.1 (by rw [hsp.2.2]; exact hy) (by rw [hsp.2.1]; exact ht) ho hoa ha hla ⟨ha1.1, ha1.2.1⟩ hin (fun hi3 ho3 => ?_)
      have ea : hi2 a = hi a := by rw [ho2 a (by omega), ho1 a (by omega), hO a (by omega)]
      have hO3 : ∀ b, (b < 395 ∨ 404 < b) → hi3 b = hi b := fun b hb => by rw [ho3 b hb, ho2 b hb, ho1 b (by omega), hO b hb]
      have hOk2 : ∀ b, b ≠ 396 → hk2 b = hk b := fun b hb => by rw [hok2 b hb, hok1 b (by omega), hOk b hb]
      rw [ea, ts_l1, nI_add]
      unfold ts_bs at hf
      by_cases c : ts_to t (hi a) n i (ts_sp A t what v) = true
      · rw [if_pos c] at hf ⊢
        exact ⟨fun h => absurd h (by decide), fun _ => ih (v + 1) _ hi3 hk2 (by omega) (by omega) hO3 hOk2 hK2 hf⟩
      · rw [if_neg c] at hf ⊢
        exact ⟨fun _ => ih (v + 1) _ hi3 hk2 (by omega) (by omega) hO3 hOk2 hK2 hf, fun h => absurd rfl h⟩
  have z := L (ts_hi what + 1 - ts_lo what) (ts_lo what) 0 hi hk (by
    unfold ts_hi ts_lo
    repeat' split
    all_goals omega) (Nat.le_refl _) (fun _ _ => rfl) (fun _ _ => rfl) hK2 rfl
  have h3 : what = 0 ∨ what = 1 ∨ what = 2 ∨ what = 3 := by omega
  rcases h3 with rfl | rfl | rfl | rfl
  · exact ⟨fun _ => ⟨fun h => absurd rfl h, fun _ => z⟩, fun h => absurd rfl h⟩
  · exact ⟨fun h => absurd h (by decide), fun _ => ⟨fun _ => ⟨fun _ => ⟨fun _ => z, fun h => absurd (by decide) h⟩, fun h => absurd (by decide) h⟩, fun h => absurd (by decide) h⟩⟩
  · exact ⟨fun h => absurd h (by decide), fun _ => ⟨fun h => absurd rfl h, fun _ => ⟨fun _ => ⟨fun _ => z, fun h => absurd (by decide) h⟩, fun h => absurd (by decide) h⟩⟩⟩
  · exact ⟨fun h => absurd h (by decide), fun _ => ⟨fun _ => ⟨fun _ => ⟨fun h => absurd rfl h, fun _ => z⟩, fun h => absurd (by decide) h⟩, fun h => absurd (by decide) h⟩⟩
/-- ways in which t has rank r or above behind n years, frost c of 10 -/
def ts_wy (t r c : Nat) : Nat → ts_A → Nat
  | 0, A => if r ≤ A 1 t then 1 else 0
  | n + 1, A => c * ts_wy t r c n (ts_ps A 1) + (10 - c) * ts_wy t r c n (ts_ps A 0)
def ts_TK (hk : ts_K) : Prop := ∀ j, j < 9 → ts_FK (315 + 10 * j) hk
theorem c_waysFrom {d t r c : Nat} {g : ts_G} (hX : ts_LX g) (hr : r ≤ 9) (hc : c ≤ 10) : ∀ (n : Nat) (A : ts_A) (hi : ts_I) (hk : ts_K) (Q : Int32 → ts_I → ts_K → Prop), n ≤ 8 → ts_ok A → A 6 1 + n ≤ 1000000 → t < A 6 0 → ts_FR (315 + 10 * n) A hi hk → ts_TK hk →
    (∀ hi' hk', (∀ b, (b < 315 ∨ 315 + 10 * n ≤ b) → hi' b = hi b) → (∀ b, (b < 315 ∨ 315 + 10 * n ≤ b) → hk' b = hk b) → ts_TK hk' → Q (nI (ts_wy t r c n A)) hi' hk') → ts_E0 (d + 4 + n) mX7_waysFrom [.ref 311, .int (nI t), .int (nI r), .int (nI n), .int (nI c)] g hi hk (ts_qi Q) := by
  intro n
  induction n with
  | zero =>
    intro A hi hk Q hn hA hy ht hR hK q
    refine ts_E0.of plX7_waysFrom rfl (Nat.le_of_ble_eq_true rfl) ?_
    refine wX7_waysFrom_0 ?_
    have hT0 := hX.tri 0 (by omega)
    have hF : ts_FL g 315 := hT0.2
    have a0 := hA.1
    have hrk := (hA.2.2.2.2 t ht).2.1
    simp only [ts_LX.s0 hX, ts_LX.s1 hX, ts_LX.s2 hX, ts_LX.s3 hX, ts_LX.s4 hX, ts_LX.s5 hX, ts_LX.s6 hX, ts_LX.s7 hX, ts_LX.s8 hX, ts_LX.s9 hX, ts_LX.s10 hX, ts_LX.s11 hX, ts_LX.s12 hX, ts_LX.s13 hX, ts_LX.s14 hX, ts_LX.s15 hX, ts_LX.s16 hX, ts_LX.s17 hX, ts_LX.s18 hX, ts_LX.s19 hX, ts_LX.s20 hX, ts_LX.s21 hX, ts_LX.s22 hX, ts_LX.s23 hX, ts_LX.s24 hX, ts_LX.s25 hX, ts_LX.s26 hX, ts_LX.s27 hX, ts_LX.s28 hX, ts_LX.s29 hX, ts_LX.s30 hX, ts_LX.s31 hX, ts_LX.s32 hX, ts_LX.s33 hX, ts_LX.s34 hX, ts_LX.s35 hX, ts_LX.s36 hX, ts_LX.s37 hX, ts_LX.s38 hX]
    rw [show (0 : Int32).toNatClampNeg = 0 from rfl, hT0.1]
    simp only [Nat.mul_zero, Nat.add_zero, ts_FL.kd hF, ts_FL.k1 hF, ts_FL.k2 hF, ts_FL.k3 hF, ts_FL.k4 hF, ts_FL.k5 hF, ts_FL.k6 hF, ts_FL.k7 hF, ts_FL.k8 hF, ts_FL.k9 hF, ts_FL.l1 hF, ts_FL.l2 hF, ts_FL.l3 hF, ts_FL.l4 hF, ts_FL.l5 hF, ts_FL.l6 hF, ts_FL.l7 hF, ts_FL.l8 hF, ts_FL.l9 hF, ts_FL.o0 hF, ts_FL.o1 hF, ts_FL.o2 hF, ts_FL.o3 hF, ts_FL.o4 hF, ts_FL.o5 hF, ts_FL.o6 hF, ts_FL.o7 hF, ts_FL.o8 hF]
    rw [ts_cl (by omega), (hR.2.2.2.2 t ht).2.1, ts_l0, ts_le (by omega) (by omega), ts_lt (by omega) (by omega)]
    refine ⟨fun _ => ⟨trivial, by omega, trivial, ts_vin (by omega) (by omega), by omega, trivial, by omega, trivial, ts_vin (by omega) (by omega), fun h => ?_, fun h => ?_⟩, fun h => absurd (by omega) h⟩
    · have z := q hi hk (fun _ _ => rfl) (fun _ _ => rfl) hK
      rw [ts_wy, if_neg (by omega)] at z
      exact z
    · have z := q hi hk (fun _ _ => rfl) (fun _ _ => rfl) hK
      rw [ts_wy, if_pos (by omega)] at z
      exact z
  | succ n ih =>
    intro A hi hk Q hn hA hy ht hR hK q
    refine ts_E0.of plX7_waysFrom rfl (Nat.le_of_ble_eq_true rfl) ?_
    refine wX7_waysFrom_0 ?_
    have hTn := hX.tri n (by omega)
    have hTs := hX.tri (n + 1) (by omega)
    have a0 := hA.1
    simp only [ts_LX.s0 hX, ts_LX.s1 hX, ts_LX.s2 hX, ts_LX.s3 hX, ts_LX.s4 hX, ts_LX.s5 hX, ts_LX.s6 hX, ts_LX.s7 hX, ts_LX.s8 hX, ts_LX.s9 hX, ts_LX.s10 hX, ts_LX.s11 hX, ts_LX.s12 hX, ts_LX.s13 hX, ts_LX.s14 hX, ts_LX.s15 hX, ts_LX.s16 hX, ts_LX.s17 hX, ts_LX.s18 hX, ts_LX.s19 hX, ts_LX.s20 hX, ts_LX.s21 hX, ts_LX.s22 hX, ts_LX.s23 hX, ts_LX.s24 hX, ts_LX.s25 hX, ts_LX.s26 hX, ts_LX.s27 hX, ts_LX.s28 hX, ts_LX.s29 hX, ts_LX.s30 hX, ts_LX.s31 hX, ts_LX.s32 hX, ts_LX.s33 hX, ts_LX.s34 hX, ts_LX.s35 hX, ts_LX.s36 hX, ts_LX.s37 hX, ts_LX.s38 hX]
    rw [ts_l1, ts_sub' (by omega), show n + 1 - 1 = n by omega, ts_cl (n := n) (by omega), ts_cl (n := n + 1) (by omega), hTn.1, hTs.1, ts_l0, show (8 : Int32) = nI 8 from rfl, ts_l10, ts_sub' (a := 10) (b := c) (by omega)]
    rw [ts_le (by omega) (by omega), ts_le (by omega) (by omega), ts_le (by omega) (by omega), ts_le (by omega) (by omega)]
    -- one branch: a trial a year on, with frost or without
    have B : ∀ (fr : Nat) (hi1 : ts_I) (hk1 : ts_K) (Q1 : Int32 → ts_I → ts_K → Prop), fr ≤ 1 → ts_FR (315 + 10 * (n + 1)) A hi1 hk1 → ts_TK hk1 →
        (∀ hi' hk', (∀ b, (b < 315 ∨ 315 + 10 * (n + 1) ≤ b) → hi' b = hi1 b) → (∀ b, (b < 315 ∨ 315 + 10 * (n + 1) ≤ b) → hk' b = hk1 b) → ts_TK hk' → Q1 (nI (ts_wy t r c n (ts_ps A fr))) hi' hk') →
        ts_E0 (d + 4 + n) mX1_become [.ref (315 + 10 * n), .ref (315 + 10 * (n + 1))] g hi1 hk1 (ts_qv (fun hi22 hk23 => ts_E0 (d + 4 + n) mX1_pass [.ref (315 + 10 * n), .int (nI fr)] g hi22 hk23 (ts_qv (fun hi25 hk26 => ts_E0 (d + 4 + n) mX7_waysFrom [.ref 311, .int (nI t), .int (nI r), .int (nI n), .int (nI c)] g hi25 hk26 (ts_qi Q1))))) := by
      intro fr hi1 hk1 Q1 hfr hR1 hK1 q1
      have e1 : d + 4 + n = (d + 3 + n) + 1 := by omega
      rw [e1]
      refine c_become hX.kl hTn.2 hTs.2 (by omega) hR1 (hK1 (n + 1) (by omega)) a0 (fun hi2 hk2 hR2 hK2 ho2 hok2 => ?_)
      have e2 : (d + 3 + n) + 1 = (d + 1 + n) + 3 := by omega
      rw [e2]
      refine c_pass hX.kl hTn.2 hR2 hA hfr (fun hi3 hR3 ho3 => ?_)
      have e3 : (d + 1 + n) + 3 = d + 4 + n := by omega
      rw [e3]
      have hTK2 : ts_TK hk2 := fun j hj => by
        by_cases h : j = n
        · rw [h]; exact hK2
        · exact (hK1 j hj).of (hok2 _ (by omega))
      refine ih (ts_ps A fr) hi3 hk2 Q1 (by omega) (ts_ok_ps hA (by omega)) (by show A 6 1 + 1 + n ≤ _; omega) ht hR3 hTK2 (fun hi4 hk4 ho4 hok4 hK4 => q1 hi4 hk4 (fun b hb => by rw [ho4 b (by omega), ho3 b (by omega), ho2 b (by omega)]) (fun b hb => by rw [hok4 b (by omega), hok2 b (by omega)]) hK4)
    rw [ts_wy] at q
    refine ⟨fun h => absurd h (by omega), fun _ => ⟨fun _ => ⟨fun h0 => ⟨fun h => absurd h (by omega), fun _ => ?_⟩, fun h0 => ?_⟩, fun h => absurd (by omega) h⟩⟩
    · refine ⟨trivial, by omega, trivial, ts_vin (by omega) (by omega), by omega, ts_vin (by omega) (by omega), by omega, hTn.2.kd, B 0 hi hk _ (by omega) hR hK (fun hi2 hk2 ho2 hok2 hK2 => ?_)⟩
      have z := q hi2 hk2 ho2 hok2 hK2
      have hc0 : c = 0 := by omega
      rw [hc0, Nat.zero_mul, Nat.zero_add] at z
      rw [pk_mul, nI_add, Nat.zero_add, hc0]
      exact z
    · refine ⟨trivial, by omega, trivial, ts_vin (by omega) (by omega), by omega, ts_vin (by omega) (by omega), by omega, hTn.2.kd, B 1 hi hk _ (by omega) hR hK (fun hi2 hk2 ho2 hok2 hK2 => ⟨fun h10 => ?_, fun h10 => B 0 hi2 hk2 _ (by omega) (hR.of (fun b h1 h2 => ho2 b (by omega)) (hok2 _ (by omega))) hK2 (fun hi3 hk3 ho3 hok3 hK3 => ?_)⟩)⟩
      · have z := q hi2 hk2 ho2 hok2 hK2
        have hc0 : c = 10 := by omega
        rw [hc0, Nat.sub_self, Nat.zero_mul, Nat.add_zero] at z
        rw [pk_mul, nI_add, Nat.zero_add, hc0]
        exact z
      · have z := q hi3 hk3 (fun b hb => by rw [ho3 b hb, ho2 b hb]) (fun b hb => by rw [hok3 b hb, hok2 b hb]) hK3
        rw [pk_mul, pk_mul, nI_add, nI_add, Nat.zero_add]
        exact z
theorem c_waysToRise {d t r c n : Nat} {g : ts_G} {A : ts_A} {hi : ts_I} {hk : ts_K} {Q : Int32 → ts_I → ts_K → Prop} (hX : ts_LX g) (hr : r ≤ 9) (hc : c ≤ 10) (hn : n ≤ 8) (hA : ts_ok A) (hy : A 6 1 + n ≤ 1000000) (ht : t < A 6 0) (hR : ts_FR 291 A hi hk) (hK : ts_FK 291 hk) (hTK : ts_TK hk)
    (q : ∀ hi' hk', (∀ b, (b < 315 ∨ 404 < b) → hi' b = hi b) → (∀ b, (b < 315 ∨ 404 < b) → hk' b = hk b) → ts_TK hk' → Q (nI (ts_wy t r c n A)) hi' hk') : ts_E0 (d + 5 + 8) mX7_waysToRise [.ref 311, .int (nI t), .int (nI r), .int (nI n), .int (nI c)] g hi hk (ts_qi Q) := by
  refine ts_E0.of plX7_waysToRise rfl (Nat.le_of_ble_eq_true rfl) ?_
  refine wX7_waysToRise_0 ?_
  have hTn := hX.tri n (by omega)
  have a0 := hA.1
  simp only [ts_LX.s0 hX, ts_LX.s1 hX, ts_LX.s2 hX, ts_LX.s3 hX, ts_LX.s4 hX, ts_LX.s5 hX, ts_LX.s6 hX, ts_LX.s7 hX, ts_LX.s8 hX, ts_LX.s9 hX, ts_LX.s10 hX, ts_LX.s11 hX, ts_LX.s12 hX, ts_LX.s13 hX, ts_LX.s14 hX, ts_LX.s15 hX, ts_LX.s16 hX, ts_LX.s17 hX, ts_LX.s18 hX, ts_LX.s19 hX, ts_LX.s20 hX, ts_LX.s21 hX, ts_LX.s22 hX, ts_LX.s23 hX, ts_LX.s24 hX, ts_LX.s25 hX, ts_LX.s26 hX, ts_LX.s27 hX, ts_LX.s28 hX, ts_LX.s29 hX, ts_LX.s30 hX, ts_LX.s31 hX, ts_LX.s32 hX, ts_LX.s33 hX, ts_LX.s34 hX, ts_LX.s35 hX, ts_LX.s36 hX, ts_LX.s37 hX, ts_LX.s38 hX]
  rw [ts_cl (by omega), hTn.1, ts_l0, show (8 : Int32) = nI 8 from rfl, ts_lt (by omega) (by omega), ts_le (by omega) (by omega)]
  refine ⟨fun h => absurd h (by omega), fun _ => ⟨fun _ => ⟨trivial, by omega, trivial, ts_vin (by omega) (by omega), by omega, by omega, hTn.2.kd, c_become hX.kl hTn.2 hX.now (by omega) hR hK a0 (fun hi1 hk1 hR1 hK1 ho1 hok1 => ?_)⟩, fun h => absurd (by omega) h⟩⟩
  have hTK1 : ts_TK hk1 := fun j hj => by
    by_cases h : j = n
    · rw [h]; exact hK1
    · exact (hTK j hj).of (hok1 _ (by omega))
  have z := c_waysFrom (d := d + (8 - n)) hX hr hc n A hi1 hk1 Q hn hA hy ht hR1 hTK1 (fun hi' hk' ho' hok' hK' => q hi' hk' (fun b hb => by rw [ho' b (by omega), ho1 b (by omega)]) (fun b hb => by rw [hok' b (by omega), hok1 b (by omega)]) hK')
  rw [show d + (8 - n) + 4 + n = d + 4 + 8 by omega] at z
  exact z
