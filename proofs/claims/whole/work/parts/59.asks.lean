/-! asks -/
def ts_lv (l : List Nat) (b : Nat) : List Nat := if l.length < 16 then l ++ [b] else l
def ts_lvs (l : List Nat) (bs : List Nat) : List Nat := bs.foldl ts_lv l
theorem ts_lv_len {l : List Nat} {b : Nat} (h : l.length ≤ 16) : (ts_lv l b).length ≤ 16 := by
  unfold ts_lv
  split
  · rw [List.length_append]; simp; omega
  · exact h
theorem ts_lvs_len {bs : List Nat} : ∀ {l : List Nat}, l.length ≤ 16 → (ts_lvs l bs).length ≤ 16 := by
  induction bs with
  | nil => intro l h; exact h
  | cons b r ih => intro l h; exact ih (ts_lv_len h)
theorem ts_lvs_mem {bs : List Nat} (hb : ∀ b, b ∈ bs → b ≤ 24) : ∀ {l : List Nat}, (∀ b, b ∈ l → b ≤ 24) → ∀ b, b ∈ ts_lvs l bs → b ≤ 24 := by
  induction bs with
  | nil => intro l h; exact h
  | cons c r ih =>
    intro l h
    refine ih (fun b hb2 => hb b (List.mem_cons_of_mem _ hb2)) (fun b hb2 => ?_)
    unfold ts_lv at hb2
    split at hb2
    · rw [List.mem_append] at hb2
      rcases hb2 with x | x
      · exact h b x
      · rw [List.mem_singleton] at x
        rw [x]
        exact hb c List.mem_cons_self
    · exact h b hb2
/-- how the trace of the class stands: o its object, s the number's slot, a the numbers -/
def ts_ZT (l : List Nat) (o s a : Nat) (hi0 hi : ts_I) : Prop := ts_Li l o s a hi ∧ l.length ≤ 16 ∧ (∀ c, c ≠ o → c ≠ a → hi c = hi0 c) ∧ ∀ u, u ≠ s → hi o u = hi0 o u
theorem c_leave {d b : Nat} {l : List Nat} {g : ts_G} {hi0 hi : ts_I} {hk : ts_K} {Q : ts_I → ts_K → Prop} (hX : ts_LX g) (h : ts_ZT l 5 1 6 hi0 hi) (q : ∀ hi', ts_ZT (ts_lv l b) 5 1 6 hi0 hi' → Q hi' hk) : ts_E0 d mX10_leave [.ref 5, .int (nI b)] g hi hk (ts_qv Q) := by
  refine ts_E0.of plX10_leave rfl (Nat.le_of_ble_eq_true rfl) ?_
  refine wX10_leave_0 ?_
  obtain ⟨h1, h2, h3, h4⟩ := h
  simp only [ts_LX.s0 hX, ts_LX.s1 hX, ts_LX.s2 hX, ts_LX.s3 hX, ts_LX.s4 hX, ts_LX.s5 hX, ts_LX.s6 hX, ts_LX.s7 hX, ts_LX.s8 hX, ts_LX.s9 hX, ts_LX.s10 hX, ts_LX.s11 hX, ts_LX.s12 hX, ts_LX.s13 hX, ts_LX.s14 hX, ts_LX.s15 hX, ts_LX.s16 hX, ts_LX.s17 hX, ts_LX.s18 hX, ts_LX.s19 hX, ts_LX.s20 hX, ts_LX.s21 hX, ts_LX.s22 hX, ts_LX.s23 hX, ts_LX.s24 hX, ts_LX.s25 hX, ts_LX.s26 hX, ts_LX.s27 hX, ts_LX.s28 hX, ts_LX.s29 hX, ts_LX.s30 hX, ts_LX.s31 hX, ts_LX.s32 hX, ts_LX.s33 hX, ts_LX.s34 hX, ts_LX.s35 hX, ts_LX.s36 hX, ts_LX.s37 hX, ts_LX.s38 hX]
  rw [h1.1, show (16 : Int32) = nI 16 from rfl, ts_le (by omega) (by omega), ts_cl (by omega)]
  refine ⟨trivial, fun c => ?_, fun c => ⟨by omega, trivial, ts_vin (by omega) (by omega), fun hi2 x2 hi3 x3 => ?_⟩⟩
  · refine q hi ?_
    unfold ts_lv
    rw [if_neg (by omega)]
    exact ⟨h1, h2, h3, h4⟩
  · have e2 : hi2 5 1 = nI l.length := by rw [x2, ts_up_a (by omega), h1.1]
    rw [e2, ts_l1, nI_add, x2] at x3
    refine q hi3 ⟨?_, ts_lv_len h2, fun c c1 c2 => by rw [x3]; funext s; rw [ts_up_a c1, ts_up_a c2, h3 c c1 c2], fun u hu => by rw [x3, ts_up_s hu, ts_up_a (by omega), h4 u hu]⟩
    unfold ts_lv
    rw [if_pos (by omega)]
    exact h1.add (by omega) x3
theorem c_begins {d b : Nat} {l : List Nat} {g : ts_G} {hi0 hi : ts_I} {hk : ts_K} {Q : ts_I → ts_K → Prop} (hM : ts_LM g) (h : ts_ZT l 405 24 420 hi0 hi) (q : ∀ hi', ts_ZT (ts_lv l b) 405 24 420 hi0 hi' → Q hi' hk) : ts_E0 d mX12_begins [.ref 405, .int (nI b)] g hi hk (ts_qv Q) := by
  refine ts_E0.of plX12_begins rfl (Nat.le_of_ble_eq_true rfl) ?_
  refine wX12_begins_0 ?_
  obtain ⟨h1, h2, h3, h4⟩ := h
  simp only [ts_LM.kd hM, ts_LM.o0 hM, ts_LM.k0 hM, ts_LM.l0 hM, ts_LM.o1 hM, ts_LM.k1 hM, ts_LM.l1 hM, ts_LM.o2 hM, ts_LM.k2 hM, ts_LM.l2 hM, ts_LM.o3 hM, ts_LM.k3 hM, ts_LM.l3 hM, ts_LM.o5 hM, ts_LM.k5 hM, ts_LM.l5 hM, ts_LM.o13 hM, ts_LM.k13 hM, ts_LM.l13 hM, ts_LM.o14 hM, ts_LM.k14 hM, ts_LM.l14 hM, ts_LM.o15 hM, ts_LM.k15 hM, ts_LM.l15 hM, ts_LM.o16 hM, ts_LM.k16 hM, ts_LM.l16 hM, ts_LM.o18 hM, ts_LM.k18 hM, ts_LM.l18 hM, ts_LM.o19 hM, ts_LM.k19 hM, ts_LM.l19 hM, ts_LM.o20 hM, ts_LM.k20 hM, ts_LM.l20 hM, ts_LM.o21 hM, ts_LM.k21 hM, ts_LM.l21 hM, ts_LM.o22 hM, ts_LM.k22 hM, ts_LM.l22 hM, ts_LM.o23 hM, ts_LM.k23 hM, ts_LM.l23 hM]
  rw [h1.1, show (16 : Int32) = nI 16 from rfl, ts_le (by omega) (by omega), ts_cl (by omega)]
  refine ⟨trivial, fun c => ?_, fun c => ⟨by omega, trivial, ts_vin (by omega) (by omega), fun hi2 x2 hi3 x3 => ?_⟩⟩
  · refine q hi ?_
    unfold ts_lv
    rw [if_neg (by omega)]
    exact ⟨h1, h2, h3, h4⟩
  · have e2 : hi2 405 24 = nI l.length := by rw [x2, ts_up_a (by omega), h1.1]
    rw [e2, ts_l1, nI_add, x2] at x3
    refine q hi3 ⟨?_, ts_lv_len h2, fun c c1 c2 => by rw [x3]; funext s; rw [ts_up_a c1, ts_up_a c2, h3 c c1 c2], fun u hu => by rw [x3, ts_up_s hu, ts_up_a (by omega), h4 u hu]⟩
    unfold ts_lv
    rw [if_pos (by omega)]
    exact h1.add (by omega) x3
def ts_pm (k t p : Nat) : Int32 := if k = 2 then 2 * (nI t + nI p) else if k = 3 then nI t + nI p - 1000 else nI t + nI p
def ts_pmL (k : Nat) : List Nat := if k = 2 then [24, 21, 20] else if k = 3 then [22, 21, 20] else [21, 20]
def ts_fz (k r : Nat) : Int32 := if k = 5 then 2 * (nI r - 100) else nI r - 100
def ts_fzL (k : Nat) : List Nat := if k = 5 then [14, 13, 10] else [13, 10]
def ts_pz (k t p r : Nat) : Int32 := if k = 2 then -(nI r + ts_pm k t p) else nI r + ts_pm k t p
def ts_pzL (k : Nat) : List Nat := if k = 2 then [12, 11, 10, 24, 21, 20] else if k = 3 then [11, 10, 22, 21, 20] else [11, 10, 21, 20]
def ts_fm (k t r : Nat) : Int32 := nI t - ts_fz k r
def ts_fmL (k : Nat) : List Nat := if k = 5 then [23, 20, 14, 13, 10] else [23, 20, 13, 10]
section
variable {d o t : Nat} {l : List Nat} {g : ts_G} {A : ts_A} {hi0 hi : ts_I} {hk : ts_K} {Q : Int32 → ts_I → ts_K → Prop} (hX : ts_LX g) (hR : ts_FR 291 A hi0 hk) (hc : A 6 0 ≤ 7) (ht : t < A 6 0) (h : ts_ZT l 5 1 6 hi0 hi)
theorem c_X2_size : ts_LX g → ts_FR 291 A hi0 hk → A 6 0 ≤ 7 → t < A 6 0 → ts_ZT l 5 1 6 hi0 hi → (∀ hi', ts_ZT (ts_lvs l [10]) 5 1 6 hi0 hi' → Q (nI (A 1 t)) hi' hk) → ts_E0 (d + 1) mX2_size [.ref o, .ref 291, .int (nI t), .ref 5] g hi hk (ts_qi Q) := by
  intro hX hR hc ht h q
  refine ts_E0.of plX2_size rfl (Nat.le_of_ble_eq_true rfl) ?_
  refine wX2_size_0 ⟨hX.s16, c_leave (b := 10) hX h (fun hi2 h2 => ?_)⟩
  have hF := hX.now
  simp only [ts_FL.kd hF, ts_FL.k1 hF, ts_FL.k2 hF, ts_FL.k3 hF, ts_FL.k4 hF, ts_FL.k5 hF, ts_FL.k6 hF, ts_FL.k7 hF, ts_FL.k8 hF, ts_FL.k9 hF, ts_FL.l1 hF, ts_FL.l2 hF, ts_FL.l3 hF, ts_FL.l4 hF, ts_FL.l5 hF, ts_FL.l6 hF, ts_FL.l7 hF, ts_FL.l8 hF, ts_FL.l9 hF, ts_FL.o0 hF, ts_FL.o1 hF, ts_FL.o2 hF, ts_FL.o3 hF, ts_FL.o4 hF, ts_FL.o5 hF, ts_FL.o6 hF, ts_FL.o7 hF, ts_FL.o8 hF]
  rw [ts_cl (by omega), h2.2.2.1 _ (by omega) (by omega), (hR.2.2.2.2 t ht).2.1]
  exact ⟨trivial, by omega, trivial, ts_vin (by omega) (by omega), q hi2 h2⟩
theorem c_X2_mark : ts_LX g → ts_ZT l 5 1 6 hi0 hi → (∀ hi', ts_ZT (ts_lvs l [20]) 5 1 6 hi0 hi' → Q (nI t) hi' hk) → ts_E0 (d + 1) mX2_mark [.ref o, .ref 291, .int (nI t), .ref 5] g hi hk (ts_qi Q) := by
  intro hX h q
  refine ts_E0.of plX2_mark rfl (Nat.le_of_ble_eq_true rfl) ?_
  exact wX2_mark_0 ⟨hX.s16, c_leave (b := 20) hX h (fun hi2 h2 => q hi2 h2)⟩
theorem c_X4_mark : ts_LX g → ts_FR 291 A hi0 hk → A 6 0 ≤ 7 → t < A 6 0 → (g.2.1 o = 0 ∨ g.2.1 o = 2 ∨ g.2.1 o = 3 ∨ g.2.1 o = 4 ∨ g.2.1 o = 7) → ts_ZT l 5 1 6 hi0 hi → (∀ hi', ts_ZT (ts_lvs l [21, 20]) 5 1 6 hi0 hi' → Q (nI t + nI (A 5 t)) hi' hk) → ts_E0 (d + 2) mX4_mark [.ref o, .ref 291, .int (nI t), .ref 5] g hi hk (ts_qi Q) := by
  intro hX hR hc ht ho h q
  refine ts_E0.of plX4_mark rfl (Nat.le_of_ble_eq_true rfl) ?_
  refine wX4_mark_0 ⟨hX.s16, c_leave (b := 21) hX h (fun hi2 h2 => ⟨ho, c_X2_mark hX h2 (fun hi3 h3 => ?_)⟩)⟩
  have hF := hX.now
  simp only [ts_FL.kd hF, ts_FL.k1 hF, ts_FL.k2 hF, ts_FL.k3 hF, ts_FL.k4 hF, ts_FL.k5 hF, ts_FL.k6 hF, ts_FL.k7 hF, ts_FL.k8 hF, ts_FL.k9 hF, ts_FL.l1 hF, ts_FL.l2 hF, ts_FL.l3 hF, ts_FL.l4 hF, ts_FL.l5 hF, ts_FL.l6 hF, ts_FL.l7 hF, ts_FL.l8 hF, ts_FL.l9 hF, ts_FL.o0 hF, ts_FL.o1 hF, ts_FL.o2 hF, ts_FL.o3 hF, ts_FL.o4 hF, ts_FL.o5 hF, ts_FL.o6 hF, ts_FL.o7 hF, ts_FL.o8 hF]
  rw [ts_cl (by omega), h3.2.2.1 _ (by omega) (by omega), (hR.2.2.2.2 t ht).2.2.2.2.2.1]
  exact ⟨trivial, by omega, trivial, ts_vin (by omega) (by omega), q hi3 h3⟩
theorem c_X3_mark : ts_LX g → ts_FR 291 A hi0 hk → A 6 0 ≤ 7 → t < A 6 0 → (g.2.1 o = 0 ∨ g.2.1 o = 2 ∨ g.2.1 o = 3 ∨ g.2.1 o = 4 ∨ g.2.1 o = 7) → ts_ZT l 5 1 6 hi0 hi → (∀ hi', ts_ZT (ts_lvs l [24, 21, 20]) 5 1 6 hi0 hi' → Q (2 * (nI t + nI (A 5 t))) hi' hk) → ts_E0 (d + 3) mX3_mark [.ref o, .ref 291, .int (nI t), .ref 5] g hi hk (ts_qi Q) := by
  intro hX hR hc ht ho h q
  refine ts_E0.of plX3_mark rfl (Nat.le_of_ble_eq_true rfl) ?_
  exact wX3_mark_0 ⟨hX.s16, c_leave (b := 24) hX h (fun hi2 h2 => ⟨ho, c_X4_mark hX hR hc ht ho h2 (fun hi3 h3 => q hi3 h3)⟩)⟩
theorem c_X5_mark : ts_LX g → ts_FR 291 A hi0 hk → A 6 0 ≤ 7 → t < A 6 0 → (g.2.1 o = 0 ∨ g.2.1 o = 2 ∨ g.2.1 o = 3 ∨ g.2.1 o = 4 ∨ g.2.1 o = 7) → ts_ZT l 5 1 6 hi0 hi → (∀ hi', ts_ZT (ts_lvs l [22, 21, 20]) 5 1 6 hi0 hi' → Q (nI t + nI (A 5 t) - 1000) hi' hk) → ts_E0 (d + 3) mX5_mark [.ref o, .ref 291, .int (nI t), .ref 5] g hi hk (ts_qi Q) := by
  intro hX hR hc ht ho h q
  refine ts_E0.of plX5_mark rfl (Nat.le_of_ble_eq_true rfl) ?_
  exact wX5_mark_0 ⟨hX.s16, c_leave (b := 22) hX h (fun hi2 h2 => ⟨ho, c_X4_mark hX hR hc ht ho h2 (fun hi3 h3 => q hi3 h3)⟩)⟩
theorem c_X0_size : ts_LX g → ts_FR 291 A hi0 hk → A 6 0 ≤ 7 → t < A 6 0 → (g.2.1 o = 0 ∨ g.2.1 o = 2 ∨ g.2.1 o = 3 ∨ g.2.1 o = 4 ∨ g.2.1 o = 7) → ts_ZT l 5 1 6 hi0 hi → (∀ hi', ts_ZT (ts_lvs l [13, 10]) 5 1 6 hi0 hi' → Q (nI (A 1 t) - 100) hi' hk) → ts_E0 (d + 2) mX0_size [.ref o, .ref 291, .int (nI t), .ref 5] g hi hk (ts_qi Q) := by
  intro hX hR hc ht ho h q
  refine ts_E0.of plX0_size rfl (Nat.le_of_ble_eq_true rfl) ?_
  exact wX0_size_0 ⟨hX.s16, c_leave (b := 13) hX h (fun hi2 h2 => ⟨ho, c_X2_size hX hR hc ht h2 (fun hi3 h3 => q hi3 h3)⟩)⟩
theorem c_X8_size : ts_LX g → ts_FR 291 A hi0 hk → A 6 0 ≤ 7 → t < A 6 0 → (g.2.1 o = 0 ∨ g.2.1 o = 2 ∨ g.2.1 o = 3 ∨ g.2.1 o = 4 ∨ g.2.1 o = 7) → ts_ZT l 5 1 6 hi0 hi → (∀ hi', ts_ZT (ts_lvs l [14, 13, 10]) 5 1 6 hi0 hi' → Q (2 * (nI (A 1 t) - 100)) hi' hk) → ts_E0 (d + 3) mX8_size [.ref o, .ref 291, .int (nI t), .ref 5] g hi hk (ts_qi Q) := by
  intro hX hR hc ht ho h q
  refine ts_E0.of plX8_size rfl (Nat.le_of_ble_eq_true rfl) ?_
  exact wX8_size_0 ⟨hX.s16, c_leave (b := 14) hX h (fun hi2 h2 => ⟨ho, c_X0_size hX hR hc ht ho h2 (fun hi3 h3 => q hi3 h3)⟩)⟩
/-- the mark of a plain one of kind i (1, 2, 3), by its own body -/
theorem c_pmark {i : Nat} : ts_LX g → ts_FR 291 A hi0 hk → A 6 0 ≤ 7 → t < A 6 0 → (i = 1 ∨ i = 2 ∨ i = 3) → ts_ZT l 5 1 6 hi0 hi → (∀ hi', ts_ZT (ts_lvs l (ts_pmL i)) 5 1 6 hi0 hi' → Q (ts_pm i t (A 5 t)) hi' hk) → ∃ M, (g.2.1 (9 + i), M) ∈ [(2, mX3_mark), (3, mX4_mark), (4, mX5_mark)] ∧ ts_E0 (d + 3) M [.ref (9 + i), .ref 291, .int (nI t), .ref 5] g hi hk (ts_qi Q) := by
  intro hX hR hc ht hi9 h q
  obtain ⟨l1, l2, l3, l4, l5⟩ := hX.kl
  rcases hi9 with rfl | rfl | rfl
  · exact ⟨mX4_mark, by rw [show 9 + 1 = 10 from rfl, l1]; simp, c_X4_mark hX hR hc ht (by rw [show 9 + 1 = 10 from rfl]; omega) h q⟩
  · exact ⟨mX3_mark, by rw [show 9 + 2 = 11 from rfl, l2]; simp, c_X3_mark hX hR hc ht (by rw [show 9 + 2 = 11 from rfl]; omega) h q⟩
  · exact ⟨mX5_mark, by rw [show 9 + 3 = 12 from rfl, l3]; simp, c_X5_mark hX hR hc ht (by rw [show 9 + 3 = 12 from rfl]; omega) h q⟩
theorem c_fsize {i : Nat} : ts_LX g → ts_FR 291 A hi0 hk → A 6 0 ≤ 7 → t < A 6 0 → (i = 4 ∨ i = 5) → ts_ZT l 5 1 6 hi0 hi → (∀ hi', ts_ZT (ts_lvs l (ts_fzL i)) 5 1 6 hi0 hi' → Q (ts_fz i (A 1 t)) hi' hk) → ∃ M, (g.2.1 (9 + i), M) ∈ [(0, mX0_size), (7, mX8_size)] ∧ ts_E0 (d + 3) M [.ref (9 + i), .ref 291, .int (nI t), .ref 5] g hi hk (ts_qi Q) := by
  intro hX hR hc ht hi9 h q
  obtain ⟨l1, l2, l3, l4, l5⟩ := hX.kl
  rcases hi9 with rfl | rfl
  · exact ⟨mX0_size, by rw [show 9 + 4 = 13 from rfl, l4]; simp, c_X0_size hX hR hc ht (by rw [show 9 + 4 = 13 from rfl]; omega) h q⟩
  · exact ⟨mX8_size, by rw [show 9 + 5 = 14 from rfl, l5]; simp, c_X8_size hX hR hc ht (by rw [show 9 + 5 = 14 from rfl]; omega) h q⟩
theorem c_X4_size {i : Nat} : ts_LX g → ts_FR 291 A hi0 hk → A 6 0 ≤ 7 → t < A 6 0 → (i = 1 ∨ i = 2 ∨ i = 3) → ts_ZT l 5 1 6 hi0 hi → (∀ hi', ts_ZT (ts_lvs (ts_lvs l [11, 10]) (ts_pmL i)) 5 1 6 hi0 hi' → Q (nI (A 1 t) + ts_pm i t (A 5 t)) hi' hk) → ts_E0 (d + 4) mX4_size [.ref (9 + i), .ref 291, .int (nI t), .ref 5] g hi hk (ts_qi Q) := by
  intro hX hR hc ht hi9 h q
  refine ts_E0.of plX4_size rfl (Nat.le_of_ble_eq_true rfl) ?_
  refine wX4_size_0 ⟨hX.s16, c_leave (b := 11) hX h (fun hi2 h2 => ⟨hX.kl.is (by omega) (by omega), c_X2_size hX hR hc ht h2 (fun hi3 h3 => ?_)⟩)⟩
  exact c_pmark hX hR hc ht hi9 h3 q
end
def ts_s_ask (S : ts_S) (a1 a2 : Int32) : Int32 × ts_S :=
  if ts_T S.A a1 ∧ 0 ≤ a2 ∧ a2 ≤ 1 then
    if a2 = 0 then
      if S.A 0 a1.toNatClampNeg < 4 then (ts_pz (S.A 0 a1.toNatClampNeg) a1.toNatClampNeg (S.A 5 a1.toNatClampNeg) (S.A 1 a1.toNatClampNeg), S.setC (ts_lvs [] (ts_pzL (S.A 0 a1.toNatClampNeg)))) else (ts_fz (S.A 0 a1.toNatClampNeg) (S.A 1 a1.toNatClampNeg), S.setC (ts_lvs [] (ts_fzL (S.A 0 a1.toNatClampNeg))))
    else
      if S.A 0 a1.toNatClampNeg < 4 then (ts_pm (S.A 0 a1.toNatClampNeg) a1.toNatClampNeg (S.A 5 a1.toNatClampNeg), S.setC (ts_lvs [] (ts_pmL (S.A 0 a1.toNatClampNeg)))) else (ts_fm (S.A 0 a1.toNatClampNeg) a1.toNatClampNeg (S.A 1 a1.toNatClampNeg), S.setC (ts_lvs [] (ts_fmL (S.A 0 a1.toNatClampNeg))))
  else (-1000001, S)
theorem ts_XI.trace {S : ts_S} {hi hi' : ts_I} {hk : ts_K} {tr : List Nat} (h : ts_XI S hi hk) (e : ∀ b, b ≠ 5 → b ≠ 6 → hi' b = hi b) (hT : ts_Li tr 5 1 6 hi') : ts_XI (S.setC tr) hi' hk := by
  obtain ⟨h1, ⟨p, p1, p2, p3, p4⟩, h3, h4, h5, h6, h7, h8, k1, k2, k3, k4⟩ := h
  refine ⟨h1.of (fun b x1 x2 => e b (by omega) (by omega)) rfl, ⟨p, p1, by rw [e 1 (by omega) (by omega)]; exact p2, by rw [e 1 (by omega) (by omega)]; exact p3, fun i A hA => (p4 i A hA).of (fun b x1 x2 => e b (by omega) (by omega)) rfl⟩, fun k hk2 => (h3 k hk2).of (fun b x1 x2 => e b (by omega) (by omega)) rfl, fun r hr => ?_, by rw [e 1 (by omega) (by omega)]; exact h5, by rw [e 1 (by omega) (by omega)]; exact h6, h7.of (by rw [e 3 (by omega) (by omega)]) (e 4 (by omega) (by omega)), hT, fun q hq => by rw [e _ (by omega) (by omega)]; exact k1 q hq, k2, k3, k4⟩
  rw [e (15 + 2 * r) (by omega) (by omega), e (16 + 2 * r) (by omega) (by omega)]
  exact h4 r hr
theorem ts_MI.trace {S : ts_S} {hi hi' : ts_I} {tr : List Nat} (hS : ts_SV S) (h : ts_MI S hi) (e5 : ∀ s, s ≠ 24 → hi' 405 s = hi 405 s) (e : ∀ b, b ≠ 405 → b ≠ 420 → hi' b = hi b) (hT : ts_Li tr 405 24 420 hi') : ts_MI (S.setC tr) hi' := by
  obtain ⟨h1, ⟨b1, b2, b3⟩, h3, h4, h5, h6, h7, h8⟩ := h
  refine ⟨ts_MR.of hS.1.1.1 h1 (fun u _ => by rw [e 411 (by omega) (by omega)]), ⟨by rw [e5 17 (by omega)]; exact b1, b2, fun i A hA => ts_MR.of ?_ (b3 i A hA) (fun u _ => by rw [e 414 (by omega) (by omega)])⟩, fun k hk => ?_, fun r hr => ?_, by rw [e5 4 (by omega)]; exact h5, by rw [e5 7 (by omega)]; exact h6, h7.of (e5 6 (by omega)) (e 410 (by omega) (by omega)), hT⟩
  · exact (hS.2.1 A (List.mem_of_getElem? hA)).1.1
  · refine ⟨by rw [e 416 (by omega) (by omega)]; exact (h3 k hk).1, fun hn => ts_MR.of ?_ ((h3 k hk).2 hn) (fun u _ => by rw [e 415 (by omega) (by omega)])⟩
    exact (hS.2.2.2.1 k hk).1.1
  · rw [e 406 (by omega) (by omega), e 407 (by omega) (by omega), e 408 (by omega) (by omega)]
    exact h4 r hr
theorem x_ask {d : Nat} {g : ts_G} {S : ts_S} {a1 a2 : Int32} {hi : ts_I} {hk : ts_K} {Q : Int32 → ts_I → ts_K → Prop} (hX : ts_LX g) (hS : ts_SV S) (h : ts_XI S hi hk) (q : ts_QX (ts_s_ask S a1 a2) hi Q) : ts_E0 (d + 25) mX11_ask [.ref 1, .int a1, .int a2] g hi hk (ts_qi Q) := by
  refine ts_E0.of plX11_ask rfl (Nat.le_of_ble_eq_true rfl) ?_
  refine wX11_ask_0 ?_
  unfold ts_s_ask at q
  refine ⟨hX.s0, c_XisTurnip hX h.1 (fun h1 => ⟨fun e => absurd e (by decide), fun _ => c_outside (fun h2 => ⟨fun _ => ?_, fun e => absurd rfl e⟩) (fun n2 => ⟨fun e => absurd e (by decide), fun _ => ?_⟩)⟩) (fun n1 => ⟨fun _ => ?_, fun e => absurd rfl e⟩)⟩
  · rw [if_pos ⟨h1, h2⟩] at q
    have hok := hS.1.1
    obtain ⟨t, ht, rfl⟩ := h1.get hok.1
    have hc := hok.1
    have hF := hX.now
    have hk1 := (hok.2.2.2.2 t ht).1
    simp only [ts_LX.s0 hX, ts_LX.s1 hX, ts_LX.s2 hX, ts_LX.s3 hX, ts_LX.s4 hX, ts_LX.s5 hX, ts_LX.s6 hX, ts_LX.s7 hX, ts_LX.s8 hX, ts_LX.s9 hX, ts_LX.s10 hX, ts_LX.s11 hX, ts_LX.s12 hX, ts_LX.s13 hX, ts_LX.s14 hX, ts_LX.s15 hX, ts_LX.s16 hX, ts_LX.s17 hX, ts_LX.s18 hX, ts_LX.s19 hX, ts_LX.s20 hX, ts_LX.s21 hX, ts_LX.s22 hX, ts_LX.s23 hX, ts_LX.s24 hX, ts_LX.s25 hX, ts_LX.s26 hX, ts_LX.s27 hX, ts_LX.s28 hX, ts_LX.s29 hX, ts_LX.s30 hX, ts_LX.s31 hX, ts_LX.s32 hX, ts_LX.s33 hX, ts_LX.s34 hX, ts_LX.s35 hX, ts_LX.s36 hX, ts_LX.s37 hX, ts_LX.s38 hX, ts_FL.kd hF, ts_FL.k1 hF, ts_FL.k2 hF, ts_FL.k3 hF, ts_FL.k4 hF, ts_FL.k5 hF, ts_FL.k6 hF, ts_FL.k7 hF, ts_FL.k8 hF, ts_FL.k9 hF, ts_FL.l1 hF, ts_FL.l2 hF, ts_FL.l3 hF, ts_FL.l4 hF, ts_FL.l5 hF, ts_FL.l6 hF, ts_FL.l7 hF, ts_FL.l8 hF, ts_FL.l9 hF, ts_FL.o0 hF, ts_FL.o1 hF, ts_FL.o2 hF, ts_FL.o3 hF, ts_FL.o4 hF, ts_FL.o5 hF, ts_FL.o6 hF, ts_FL.o7 hF, ts_FL.o8 hF]
    rw [ts_cl (n := t) (by omega)] at q ⊢
    rw [(h.1.2.2.2.2 t ht).1]
    refine ⟨by omega, trivial, fun hi2 x2 => ⟨by omega, trivial, by omega, trivial, ts_vin (by omega) (by omega), by omega, ?_⟩⟩
    have z0 : ts_ZT [] 5 1 6 hi hi2 := ⟨⟨by rw [x2, ts_up_eq]; rfl, fun i b hb => by simp at hb⟩, by simp, fun c c1 _ => by rw [x2]; funext s; rw [ts_up_a c1], fun u hu => by rw [x2, ts_up_s hu]⟩
    have fin : ∀ v tr hi', (∀ hi'' hk'', ts_XI (S.setC tr) hi'' hk'' → (∀ b, 404 < b → hi'' b = hi b) → Q v hi'' hk'') → ts_ZT tr 5 1 6 hi hi' → Q v hi' hk := fun v tr hi' q' z => q' hi' hk (h.trace z.2.2.1 z.1) (fun b hb => z.2.2.1 b (by omega) (by omega))
    obtain ⟨l1, l2, l3, l4, l5⟩ := hX.kl
    have h3 : S.A 0 t = 1 ∨ S.A 0 t = 2 ∨ S.A 0 t = 3 ∨ S.A 0 t = 4 ∨ S.A 0 t = 5 := by omega
    refine ⟨fun e => ?_, fun e => ?_⟩
    · rw [if_neg e] at q
      rcases h3 with e3 | e3 | e3 | e3 | e3 <;> rw [e3] at q ⊢
      · rw [if_pos (by omega)] at q
        exact ⟨mX4_mark, by rw [show 9 + 1 = 10 from rfl, l1]; simp, c_X4_mark hX h.1 hc ht (by rw [show 9 + 1 = 10 from rfl]; omega) z0 (fun hi3 z => fin _ _ hi3 q z)⟩
      · rw [if_pos (by omega)] at q
        exact ⟨mX3_mark, by rw [show 9 + 2 = 11 from rfl, l2]; simp, c_X3_mark hX h.1 hc ht (by rw [show 9 + 2 = 11 from rfl]; omega) z0 (fun hi3 z => fin _ _ hi3 q z)⟩
      · rw [if_pos (by omega)] at q
        exact ⟨mX5_mark, by rw [show 9 + 3 = 12 from rfl, l3]; simp, c_X5_mark hX h.1 hc ht (by rw [show 9 + 3 = 12 from rfl]; omega) z0 (fun hi3 z => fin _ _ hi3 q z)⟩
      · rw [if_neg (by omega)] at q
        refine ⟨mX0_mark, by rw [show 9 + 4 = 13 from rfl, l4]; simp, ?_⟩
        refine ts_E0.of plX0_mark rfl (Nat.le_of_ble_eq_true rfl) ?_
        exact wX0_mark_0 ⟨hX.s16, c_leave (b := 23) hX z0 (fun hi3 z => ⟨by rw [show 9 + 4 = 13 from rfl]; omega, c_X2_mark hX z (fun hi4 z4 => c_fsize (d := d + 20) (i := 4) hX h.1 hc ht (Or.inl rfl) z4 (fun hi5 z5 => fin _ _ hi5 q z5))⟩)⟩
      · rw [if_neg (by omega)] at q
        refine ⟨mX0_mark, by rw [show 9 + 5 = 14 from rfl, l5]; simp, ?_⟩
        refine ts_E0.of plX0_mark rfl (Nat.le_of_ble_eq_true rfl) ?_
        exact wX0_mark_0 ⟨hX.s16, c_leave (b := 23) hX z0 (fun hi3 z => ⟨by rw [show 9 + 5 = 14 from rfl]; omega, c_X2_mark hX z (fun hi4 z4 => c_fsize (d := d + 20) (i := 5) hX h.1 hc ht (Or.inr rfl) z4 (fun hi5 z5 => fin _ _ hi5 q z5))⟩)⟩
    · rw [if_pos (Decidable.not_not.mp e)] at q
      rcases h3 with e3 | e3 | e3 | e3 | e3 <;> rw [e3] at q ⊢
      · rw [if_pos (by omega)] at q
        exact ⟨mX4_size, by rw [show 9 + 1 = 10 from rfl, l1]; simp, c_X4_size (i := 1) hX h.1 hc ht (by omega) z0 (fun hi3 z => fin _ _ hi3 q z)⟩
      · rw [if_pos (by omega)] at q
        refine ⟨mX3_size, by rw [show 9 + 2 = 11 from rfl, l2]; simp, ?_⟩
        refine ts_E0.of plX3_size rfl (Nat.le_of_ble_eq_true rfl) ?_
        exact wX3_size_0 ⟨hX.s16, c_leave (b := 12) hX z0 (fun hi3 z => ⟨by rw [show 9 + 2 = 11 from rfl]; omega, c_X4_size (i := 2) hX h.1 hc ht (by omega) z (fun hi4 z4 => fin _ _ hi4 q z4)⟩)⟩
      · rw [if_pos (by omega)] at q
        exact ⟨mX4_size, by rw [show 9 + 3 = 12 from rfl, l3]; simp, c_X4_size (i := 3) hX h.1 hc ht (by omega) z0 (fun hi3 z => fin _ _ hi3 q z)⟩
      · rw [if_neg (by omega)] at q
        exact ⟨mX0_size, by rw [show 9 + 4 = 13 from rfl, l4]; simp, c_X0_size hX h.1 hc ht (by rw [show 9 + 4 = 13 from rfl]; omega) z0 (fun hi3 z => fin _ _ hi3 q z)⟩
      · rw [if_neg (by omega)] at q
        exact ⟨mX8_size, by rw [show 9 + 5 = 14 from rfl, l5]; simp, c_X8_size hX h.1 hc ht (by rw [show 9 + 5 = 14 from rfl]; omega) z0 (fun hi3 z => fin _ _ hi3 q z)⟩
  · rw [if_neg (fun x => n2 x.2)] at q
    exact q.st h
  · rw [if_neg (fun x => n1 x.1)] at q
    exact q.st h
