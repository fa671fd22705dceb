/-! acts -/
theorem ts_rem {a n : Nat} (ha : a < 2147483648) (h0 : 0 < n) (hn : n < 2147483648) : nI a - nI a / nI n * nI n = nI (a % n) := by
  have h : a / n * n ≤ a := Nat.div_mul_le_self a n
  rw [ts_div ha h0 hn, pk_mul, ts_sub' h]
  congr 1
  have := Nat.div_add_mod a n
  rw [Nat.mul_comm] at this
  omega
theorem ts_XI.field {S : ts_S} {A' : ts_A} {hi hi' : ts_I} {hk hk' : ts_K} (h : ts_XI S hi hk) (hR : ts_FR 291 A' hi' hk') (hK : ts_FK 291 hk') (e : ∀ b, (b < 291 ∨ 300 < b) → hi' b = hi b) (ek : ∀ b, b ≠ 292 → hk' b = hk b) : ts_XI (S.setF A' S.B) hi' hk' := by
  obtain ⟨h1, ⟨p, p1, p2, p3, p4⟩, h3, h4, h5, h6, h7, h8, k1, k2, k3, k4⟩ := h
  refine ⟨hR, ⟨p, p1, by rw [e 1 (by omega)]; exact p2, by rw [e 1 (by omega)]; exact p3, fun i A hA => (p4 i A hA).of (fun b x1 x2 => e b (by omega)) (ek _ (by omega))⟩, fun k hk2 => (h3 k hk2).of (fun b x1 x2 => e b (by omega)) (ek _ (by omega)), fun r hr => ?_, by rw [e 1 (by omega)]; exact h5, by rw [e 1 (by omega)]; exact h6, h7.of (by rw [e 3 (by omega)]) (e 4 (by omega)), h8.of (by rw [e 5 (by omega)]) (e 6 (by omega)), fun q hq => by rw [e _ (by omega)]; exact k1 q hq, ?_, fun j hj => ?_, fun j hj => (k4 j hj).of (ek _ (by omega))⟩
  · rw [e (15 + 2 * r) (by omega), e (16 + 2 * r) (by omega)]
    exact h4 r hr
  · unfold ts_KA
    rw [ek 7 (by omega)]
    exact k2
  · by_cases hj2 : j = 26
    · rw [hj2]; exact hK
    · exact (k3 j hj).of (ek _ (by omega))
theorem ts_XI.fk {S : ts_S} {hi : ts_I} {hk : ts_K} (h : ts_XI S hi hk) {j : Nat} (hj : j < 28) : ts_FK (31 + 10 * j) hk := h.2.2.2.2.2.2.2.2.2.2.1 j hj
theorem ts_MI.field {S : ts_S} {A' : ts_A} {hi hi' : ts_I} (hS : ts_SV S) (h : ts_MI S hi) (hR : ts_MR 411 0 A' hi') (e : ∀ b, b ≠ 411 → b ≠ 417 → hi' b = hi b) : ts_MI (S.setF A' S.B) hi' := by
  obtain ⟨h1, ⟨b1, b2, b3⟩, h3, h4, h5, h6, h7, h8⟩ := h
  refine ⟨hR, ⟨by rw [e 405 (by omega) (by omega)]; exact b1, b2, fun i A hA => ts_MR.of ?_ (b3 i A hA) (fun u _ => by rw [e 414 (by omega) (by omega)])⟩, fun k hk => ?_, fun r hr => ?_, by rw [e 405 (by omega) (by omega)]; exact h5, by rw [e 405 (by omega) (by omega)]; exact h6, h7.of (by rw [e 405 (by omega) (by omega)]) (e 410 (by omega) (by omega)), h8.of (by rw [e 405 (by omega) (by omega)]) (e 420 (by omega) (by omega))⟩
  · exact (hS.2.1 A (List.mem_of_getElem? hA)).1.1
  · refine ⟨by rw [e 416 (by omega) (by omega)]; exact (h3 k hk).1, fun hn => ts_MR.of ?_ ((h3 k hk).2 hn) (fun u _ => by rw [e 415 (by omega) (by omega)])⟩
    exact (hS.2.2.2.1 k hk).1.1
  · rw [e 406 (by omega) (by omega), e 407 (by omega) (by omega), e 408 (by omega) (by omega)]
    exact h4 r hr
theorem ts_SV.field {S : ts_S} {A' : ts_A} (hS : ts_SV S) (h : ts_va A') : ts_SV (S.setF A' S.B) := ⟨h, hS.2⟩
theorem ts_SV.cs {S : ts_S} (hS : ts_SV S) : ts_SV (S.setF S.A (ts_cs S.A S.B)) := by
  refine ⟨hS.1, fun A hA => ?_, ?_, hS.2.2.2⟩
  · have h : A ∈ S.A :: S.B := List.mem_of_mem_take hA
    rw [List.mem_cons] at h
    rcases h with h | h
    · rw [h]; exact hS.1
    · exact hS.2.1 A h
  · show ((S.A :: S.B).take 24).length ≤ 24
    rw [List.length_take]
    omega
theorem c_keepAct {d : Nat} {g : ts_G} {S : ts_S} {hi : ts_I} {hk : ts_K} {Q : ts_I → ts_K → Prop} (hX : ts_LX g) (hS : ts_SV S) (h : ts_XI S hi hk)
    (q : ∀ hi' hk', ts_XI (S.setF S.A (ts_cs S.A S.B)) hi' hk' → (∀ b, 270 < b → hi' b = hi b) → (∀ b, 270 < b → hk' b = hk b) → Q hi' hk') : ts_E0 (d + 2) mX11_keepAct [.ref 1] g hi hk (ts_qv Q) := by
  refine ts_E0.of plX11_keepAct rfl (Nat.le_of_ble_eq_true rfl) ?_
  refine wX11_keepAct_0 ?_
  obtain ⟨p, p1, p2, p3, p4⟩ := h.2.1
  have hB := hS.2.2.1
  obtain ⟨e1, e2⟩ := hX.act p p1
  simp only [ts_LX.s0 hX, ts_LX.s1 hX, ts_LX.s2 hX, ts_LX.s3 hX, ts_LX.s4 hX, ts_LX.s5 hX, ts_LX.s6 hX, ts_LX.s7 hX, ts_LX.s8 hX, ts_LX.s9 hX, ts_LX.s10 hX, ts_LX.s11 hX, ts_LX.s12 hX, ts_LX.s13 hX, ts_LX.s14 hX, ts_LX.s15 hX, ts_LX.s16 hX, ts_LX.s17 hX, ts_LX.s18 hX, ts_LX.s19 hX, ts_LX.s20 hX, ts_LX.s21 hX, ts_LX.s22 hX, ts_LX.s23 hX, ts_LX.s24 hX, ts_LX.s25 hX, ts_LX.s26 hX, ts_LX.s27 hX, ts_LX.s28 hX, ts_LX.s29 hX, ts_LX.s30 hX, ts_LX.s31 hX, ts_LX.s32 hX, ts_LX.s33 hX, ts_LX.s34 hX, ts_LX.s35 hX, ts_LX.s36 hX, ts_LX.s37 hX, ts_LX.s38 hX]
  rw [p2, ts_cl (by omega), e1]
  refine ⟨trivial, by omega, trivial, ts_vin (by omega) (by omega), by omega, by omega, e2.kd, c_become hX.kl e2 hX.now (by omega) h.1 (h.fk (j := 26) (by omega)) hS.1.1.1 (fun hi2 hk2 hR hK ho hok => ?_)⟩
  intro hi3 x3 hi4 x4
  rw [ho 1 (by omega), p2, ts_l1, nI_add, show (24 : Int32) = nI 24 from rfl, ts_rem (by omega) (by omega) (by omega)] at x3
  rw [x3, ts_up_s (by omega), ho 1 (by omega), p3, ts_l1, nI_add, show (24 : Int32) = nI 24 from rfl] at x4
  have hl : (ts_cs S.A S.B).length = min (S.B.length + 1) 24 := by
    unfold ts_cs
    rw [List.length_take, List.length_cons]
    omega
  have x5 : hi4 = ts_up (ts_up hi2 1 11 (nI ((p + 1) % 24))) 1 12 (nI (ts_cs S.A S.B).length) := by
    rw [x4, hl]
    congr 1
    by_cases c : nI 24 < nI (S.B.length + 1)
    · rw [if_pos c]
      rw [ts_lt (by omega) (by omega)] at c
      congr 1; omega
    · rw [if_neg c]
      rw [ts_lt (by omega) (by omega)] at c
      congr 1; omega
  have o : ∀ b, b ≠ 1 → (b < 31 + 10 * p ∨ 31 + 10 * p + 9 < b) → hi4 b = hi b := fun b hb hb2 => by rw [x5]; funext s; rw [ts_up_a hb, ts_up_a hb, ho b hb2]
  have o1 : ∀ s, s ≠ 11 → s ≠ 12 → hi4 1 s = hi 1 s := fun s s1 s2 => by rw [x5, ts_up_s s2, ts_up_s s1, ho 1 (by omega)]
  refine q hi4 hk2 ?_ (fun b hb => o b (by omega) (by omega)) (fun b hb => hok b (by omega))
  obtain ⟨h1, -, h3, h4, h5, h6, h7, h8, k1, k2, k3, k4⟩ := h
  refine ⟨h1.of (fun b x1 x2 => o b (by omega) (by omega)) (hok _ (by omega)), ⟨(p + 1) % 24, by omega, by rw [x5, ts_up_s (by omega), ts_up_eq], by rw [x5, ts_up_eq]; rfl, fun i A hA => ?_⟩, fun k hk9 => (h3 k hk9).of (fun b x1 x2 => o b (by omega) (by omega)) (hok _ (by omega)), fun r hr => ?_, by rw [o1 9 (by omega) (by omega)]; exact h5, by rw [o1 10 (by omega) (by omega)]; exact h6, h7.of (by rw [o 3 (by omega) (by omega)]) (o 4 (by omega) (by omega)), h8.of (by rw [o 5 (by omega) (by omega)]) (o 6 (by omega) (by omega)), fun q hq => by rw [o _ (by omega) (by omega)]; exact k1 q hq, ?_, fun j hj => ?_, fun j hj => (k4 j hj).of (hok _ (by omega))⟩
  · have hA' : (ts_cs S.A S.B)[i]? = some A := hA
    have hi24 : i < (ts_cs S.A S.B).length := (List.getElem?_eq_some_iff.mp hA').1
    have hA2 : (S.A :: S.B)[i]? = some A := by
      unfold ts_cs at hA'
      rw [List.getElem?_take, if_pos (by omega)] at hA'
      exact hA'
    cases i with
    | zero =>
      have e : S.A = A := by simpa using hA2
      subst e
      rw [show ((p + 1) % 24 + 23 - 0) % 24 = p by omega]
      refine hR.of (fun b x1 x2 => ?_) rfl
      rw [x5]; funext s; rw [ts_up_a (by omega), ts_up_a (by omega)]
    | succ i =>
      have hB' : S.B[i]? = some A := by simpa using hA2
      rw [show ((p + 1) % 24 + 23 - (i + 1)) % 24 = (p + 23 - i) % 24 by omega]
      have hne : (p + 23 - i) % 24 ≠ p := by omega
      have hlt : (p + 23 - i) % 24 < 24 := by omega
      exact (p4 i A hB').of (fun b x1 x2 => o b (by omega) (by omega)) (hok _ (by omega))
  · rw [o (15 + 2 * r) (by omega) (by omega), o (16 + 2 * r) (by omega) (by omega)]
    exact h4 r hr
  · unfold ts_KA
    rw [hok 7 (by omega)]
    exact k2
  · by_cases hj2 : j = p
    · rw [hj2]; exact hK
    · exact (k3 j hj).of (hok _ (by omega))
theorem y_notes {d : Nat} {g : ts_G} {S : ts_S} {hi : ts_I} {hk : ts_K} {Q : ts_I → ts_K → Prop} (hM : ts_LM g) (hS : ts_SV S) (h : ts_MI S hi)
    (q : ∀ hi', ts_MI (S.setF S.A (ts_cs S.A S.B)) hi' → (∀ b, b ≠ 414 → b ≠ 405 → hi' b = hi b) → Q hi' hk) : ts_E0 (d + 1) mX12_notes [.ref 405] g hi hk (ts_qv Q) := by
  refine c_notes hM h.1 hS.1.1.1 (fun A hA => (hS.2.1 A hA).1.1) h.2.1 (fun hi' hB ho h5 => q hi' ?_ ho)
  obtain ⟨h1, -, h3, h4, h5', h6, h7, h8⟩ := h
  refine ⟨ts_MR.of hS.1.1.1 h1 (fun u _ => by rw [ho 411 (by omega) (by omega)]), hB, fun k hk => ?_, fun r hr => ?_, by rw [h5 4 (by omega)]; exact h5', by rw [h5 7 (by omega)]; exact h6, h7.of (h5 6 (by omega)) (ho 410 (by omega) (by omega)), h8.of (h5 24 (by omega)) (ho 420 (by omega) (by omega))⟩
  · refine ⟨by rw [ho 416 (by omega) (by omega)]; exact (h3 k hk).1, fun hn => ts_MR.of ?_ ((h3 k hk).2 hn) (fun u _ => by rw [ho 415 (by omega) (by omega)])⟩
    exact (hS.2.2.2.1 k hk).1.1
  · rw [ho 406 (by omega) (by omega), ho 407 (by omega) (by omega), ho 408 (by omega) (by omega)]
    exact h4 r hr
def ts_sl (A : ts_A) (t : Nat) : ts_A := fun c u => if c = 3 ∧ u = t then 1 - A 3 t else A c u
def ts_s_lean (S : ts_S) (a1 : Int32) : Int32 × ts_S :=
  if ts_T S.A a1 then (nI (1 - S.A 3 a1.toNatClampNeg), S.setF (ts_sl S.A a1.toNatClampNeg) (ts_cs S.A S.B)) else (-1000001, S)
theorem x_lean {d : Nat} {g : ts_G} {S : ts_S} {a1 : Int32} {hi : ts_I} {hk : ts_K} {Q : Int32 → ts_I → ts_K → Prop} (hX : ts_LX g) (hS : ts_SV S) (h : ts_XI S hi hk) (q : ts_QX (ts_s_lean S a1) hi Q) : ts_E0 (d + 25) mX11_lean [.ref 1, .int a1] g hi hk (ts_qi Q) := by
  refine ts_E0.of plX11_lean rfl (Nat.le_of_ble_eq_true rfl) ?_
  refine wX11_lean_0 ?_
  unfold ts_s_lean at q
  refine ⟨hX.s0, c_XisTurnip hX h.1 (fun h1 => ⟨fun _ => ?_, fun e => absurd (by decide) e⟩) (fun n1 => ⟨fun e => absurd rfl e, fun _ => ?_⟩)⟩
  · rw [if_pos h1] at q
    have hok := hS.1.1
    obtain ⟨t, ht, rfl⟩ := h1.get hok.1
    have hc := hok.1
    have hF := hX.now
    have hl := (hok.2.2.2.2 t ht).2.2.2.1
    rw [ts_cl (by omega)] at q
    refine c_keepAct hX hS h (fun hi2 hk2 h2 ho hok2 => ?_)
    simp only [ts_LX.s0 hX, ts_LX.s1 hX, ts_LX.s2 hX, ts_LX.s3 hX, ts_LX.s4 hX, ts_LX.s5 hX, ts_LX.s6 hX, ts_LX.s7 hX, ts_LX.s8 hX, ts_LX.s9 hX, ts_LX.s10 hX, ts_LX.s11 hX, ts_LX.s12 hX, ts_LX.s13 hX, ts_LX.s14 hX, ts_LX.s15 hX, ts_LX.s16 hX, ts_LX.s17 hX, ts_LX.s18 hX, ts_LX.s19 hX, ts_LX.s20 hX, ts_LX.s21 hX, ts_LX.s22 hX, ts_LX.s23 hX, ts_LX.s24 hX, ts_LX.s25 hX, ts_LX.s26 hX, ts_LX.s27 hX, ts_LX.s28 hX, ts_LX.s29 hX, ts_LX.s30 hX, ts_LX.s31 hX, ts_LX.s32 hX, ts_LX.s33 hX, ts_LX.s34 hX, ts_LX.s35 hX, ts_LX.s36 hX, ts_LX.s37 hX, ts_LX.s38 hX, ts_FL.kd hF, ts_FL.k1 hF, ts_FL.k2 hF, ts_FL.k3 hF, ts_FL.k4 hF, ts_FL.k5 hF, ts_FL.k6 hF, ts_FL.k7 hF, ts_FL.k8 hF, ts_FL.k9 hF, ts_FL.l1 hF, ts_FL.l2 hF, ts_FL.l3 hF, ts_FL.l4 hF, ts_FL.l5 hF, ts_FL.l6 hF, ts_FL.l7 hF, ts_FL.l8 hF, ts_FL.l9 hF, ts_FL.o0 hF, ts_FL.o1 hF, ts_FL.o2 hF, ts_FL.o3 hF, ts_FL.o4 hF, ts_FL.o5 hF, ts_FL.o6 hF, ts_FL.o7 hF, ts_FL.o8 hF]
    rw [ts_cl (by omega)]
    have hR : ts_FR 291 S.A hi2 hk2 := h2.1
    obtain ⟨r0, r1, r2, r3, rT⟩ := id hR
    rw [(rT t ht).2.2.2.1, ts_l1, ts_sub' (by omega)]
    refine ⟨by omega, trivial, by omega, trivial, ts_vin (by omega) (by omega), fun hi3 x3 => ?_⟩
    rw [show hi3 (291 + 4) t = nI (1 - S.A 3 t) by rw [x3, ts_up_eq]]
    have o3 : ∀ b, b ≠ 291 + 4 → hi3 b = hi2 b := fun b hb => by rw [x3]; funext s; rw [ts_up_a hb]
    refine q hi3 hk2 (h2.field (A' := ts_sl S.A t) ⟨?_, ?_, ?_, ?_, fun u hu => ?_⟩ (h2.fk (j := 26) (by omega)) (fun b hb => o3 b (by omega)) (fun _ _ => rfl)) (fun b hb => by rw [o3 b (by omega), ho b (by omega)])
    · rw [o3 291 (by omega)]; exact r0
    · rw [o3 291 (by omega)]; exact r1
    · rw [o3 291 (by omega)]; exact r2
    · rw [o3 291 (by omega)]; exact r3
    · have z := rT u hu
      refine ⟨z.1, by rw [o3 _ (by omega)]; exact z.2.1, by rw [o3 _ (by omega)]; exact z.2.2.1, ?_, by rw [o3 _ (by omega)]; exact z.2.2.2.2.1, by rw [o3 _ (by omega)]; exact z.2.2.2.2.2.1, by rw [o3 _ (by omega)]; exact z.2.2.2.2.2.2⟩
      show hi3 (291 + 4) u = nI (if 3 = 3 ∧ u = t then 1 - S.A 3 t else S.A 3 u)
      by_cases e : u = t
      · subst e
        rw [if_pos ⟨rfl, rfl⟩, x3, ts_up_eq]
      · rw [if_neg (fun x => e x.2), x3, ts_up_s e]
        exact z.2.2.2.1
  · rw [if_neg n1] at q
    exact q.st h
theorem y_lean {d : Nat} {g : ts_G} {S : ts_S} {a1 : Int32} {hi : ts_I} {hk : ts_K} {Q : Int32 → ts_I → ts_K → Prop} (hM : ts_LM g) (hS : ts_SV S) (h : ts_MI S hi) (q : ts_QM (ts_s_lean S a1) hi hk Q) : ts_E0 (d + 25) mX12_lean [.ref 405, .int a1] g hi hk (ts_qi Q) := by
  refine ts_E0.of plX12_lean rfl (Nat.le_of_ble_eq_true rfl) ?_
  refine wX12_lean_0 ?_
  unfold ts_s_lean at q
  have hok := hS.1.1
  have hc := hok.1
  refine ⟨hM.kd, c_isTurnip hM h.1 hc (fun h1 => ⟨fun _ => ?_, fun e => absurd (by decide) e⟩) (fun n1 => ⟨fun e => absurd rfl e, fun _ => ?_⟩)⟩
  · rw [if_pos h1] at q
    obtain ⟨t, ht, rfl⟩ := h1.get hc
    have hl := (hok.2.2.2.2 t ht).2.2.2.1
    rw [ts_cl (by omega)] at q
    refine y_notes hM hS h (fun hi2 h2 ho => ?_)
    simp only [ts_LM.kd hM, ts_LM.o0 hM, ts_LM.k0 hM, ts_LM.l0 hM, ts_LM.o1 hM, ts_LM.k1 hM, ts_LM.l1 hM, ts_LM.o2 hM, ts_LM.k2 hM, ts_LM.l2 hM, ts_LM.o3 hM, ts_LM.k3 hM, ts_LM.l3 hM, ts_LM.o5 hM, ts_LM.k5 hM, ts_LM.l5 hM, ts_LM.o13 hM, ts_LM.k13 hM, ts_LM.l13 hM, ts_LM.o14 hM, ts_LM.k14 hM, ts_LM.l14 hM, ts_LM.o15 hM, ts_LM.k15 hM, ts_LM.l15 hM, ts_LM.o16 hM, ts_LM.k16 hM, ts_LM.l16 hM, ts_LM.o18 hM, ts_LM.k18 hM, ts_LM.l18 hM, ts_LM.o19 hM, ts_LM.k19 hM, ts_LM.l19 hM, ts_LM.o20 hM, ts_LM.k20 hM, ts_LM.l20 hM, ts_LM.o21 hM, ts_LM.k21 hM, ts_LM.l21 hM, ts_LM.o22 hM, ts_LM.k22 hM, ts_LM.l22 hM, ts_LM.o23 hM, ts_LM.k23 hM, ts_LM.l23 hM]
    simp only [ts_l4, ts_l6, pk_mul, nI_add]
    have hR : ts_MR 411 0 S.A hi2 := h2.1
    obtain ⟨r0, r1, r2, r3, rT⟩ := id hR
    simp only [Nat.zero_add] at r1 r2 r3 rT
    rw [ts_cl (by omega), (rT t ht).2.2.2.2.1, ts_l1, ts_sub' (by omega)]
    refine ⟨by omega, trivial, ts_vin (by omega) (by omega), fun hi3 x3 => ?_⟩
    rw [show hi3 411 (4 + 6 * t + 4) = nI (1 - S.A 3 t) by rw [x3, ts_up_eq]]
    have o3 : ∀ b, b ≠ 411 → hi3 b = hi2 b := fun b hb => by rw [x3]; funext s; rw [ts_up_a hb]
    refine q hi3 (h2.field hS.cs (A' := ts_sl S.A t) ⟨?_, ?_, ?_, ?_, fun u hu => ?_⟩ (fun b hb _ => o3 b hb)) (fun b hb => by rw [o3 b (by omega), ho b (by omega) (by omega)])
    · rw [x3, ts_up_s (by omega)]; exact r0
    · rw [x3, ts_up_s (by omega)]; exact r1
    · rw [x3, ts_up_s (by omega)]; exact r2
    · rw [x3, ts_up_s (by omega)]; exact r3
    · have z := rT u hu
      simp only [Nat.zero_add]
      rw [x3]
      refine ⟨by rw [ts_up_s (by omega)]; exact z.1, by rw [ts_up_s (by omega)]; exact z.2.1, by rw [ts_up_s (by omega)]; exact z.2.2.1, by rw [ts_up_s (by omega)]; exact z.2.2.2.1, ?_, by rw [ts_up_s (by omega)]; exact z.2.2.2.2.2⟩
      show ts_up hi2 411 (4 + 6 * t + 4) (nI (1 - S.A 3 t)) 411 (4 + 6 * u + 4) = nI (if 3 = 3 ∧ u = t then 1 - S.A 3 t else S.A 3 u)
      by_cases e : u = t
      · subst e
        rw [if_pos ⟨rfl, rfl⟩, ts_up_eq]
      · rw [if_neg (fun x => e x.2), ts_up_s (by omega)]
        exact z.2.2.2.2.1
  · rw [if_neg n1] at q
    exact q.st h
