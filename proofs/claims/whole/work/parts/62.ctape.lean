/-! the class reads the text -/
/-- how the tape of the class stands -/
def ts_XP (w : Nat × Nat) (hi0 hi : ts_I) : Prop := hi 3 2 = nI w.2 ∧ (w.1 ≠ 0 → hi 3 3 = nI w.1) ∧ hi 3 1 = hi0 3 1 ∧ hi 4 = hi0 4
theorem ts_XP.li {tp : List Nat} {w : Nat × Nat} {hi0 hi : ts_I} (h : ts_XP w hi0 hi) (hT : ts_Li tp 3 1 4 hi0) : ts_Li tp 3 1 4 hi := hT.of h.2.2.1 h.2.2.2
theorem ts_XP.of {w : Nat × Nat} {hi0 hi hi' : ts_I} (h : ts_XP w hi0 hi) (e3 : hi' 3 = hi 3) (e4 : hi' 4 = hi 4) : ts_XP w hi0 hi' := ⟨by rw [e3]; exact h.1, by rw [e3]; exact h.2.1, by rw [e3]; exact h.2.2.1, by rw [e4]; exact h.2.2.2⟩
theorem c_XbyteAt {d i : Nat} {tp : List Nat} {g : ts_G} {hi : ts_I} {hk : ts_K} {Q : Int32 → ts_I → ts_K → Prop} (hX : ts_LX g) (hT : ts_Li tp 3 1 4 hi) (hl : tp.length ≤ 90) (hi9 : i < 1000) (hb : ∀ b, b ∈ tp → b ≤ 255) (q : Q (ts_bI (ts_bt tp i)) hi hk) : ts_E0 d mX9_byteAt [.ref 3, .int (nI i)] g hi hk (ts_qi Q) := by
  refine ts_E0.of plX9_byteAt rfl (Nat.le_of_ble_eq_true rfl) ?_
  refine wX9_byteAt_0 ?_
  simp only [ts_LX.s0 hX, ts_LX.s1 hX, ts_LX.s2 hX, ts_LX.s3 hX, ts_LX.s4 hX, ts_LX.s5 hX, ts_LX.s6 hX, ts_LX.s7 hX, ts_LX.s8 hX, ts_LX.s9 hX, ts_LX.s10 hX, ts_LX.s11 hX, ts_LX.s12 hX, ts_LX.s13 hX, ts_LX.s14 hX, ts_LX.s15 hX, ts_LX.s16 hX, ts_LX.s17 hX, ts_LX.s18 hX, ts_LX.s19 hX, ts_LX.s20 hX, ts_LX.s21 hX, ts_LX.s22 hX, ts_LX.s23 hX, ts_LX.s24 hX, ts_LX.s25 hX, ts_LX.s26 hX, ts_LX.s27 hX, ts_LX.s28 hX, ts_LX.s29 hX, ts_LX.s30 hX, ts_LX.s31 hX, ts_LX.s32 hX, ts_LX.s33 hX, ts_LX.s34 hX, ts_LX.s35 hX, ts_LX.s36 hX, ts_LX.s37 hX, ts_LX.s38 hX]
  rw [hT.1, ts_l0, ts_lt (by omega) (by omega), ts_le (by omega) (by omega), ts_cl (by omega)]
  refine ⟨fun e => absurd e (by omega), fun _ => ⟨trivial, fun c => ?_, fun c => ?_⟩⟩
  · have e : ts_bt tp i = 256 := by
      by_cases e : ts_bt tp i = 256
      · exact e
      · have := ts_bt_len e
        omega
    rw [e] at q
    exact q
  · have h1 := ts_bt_in hb (show i < tp.length by omega)
    have e : hi 4 i = nI (ts_bt tp i) := by
      refine hT.2 i _ ?_
      unfold ts_bt
      rw [List.getD_eq_getElem?_getD, List.getElem?_eq_getElem (show i < tp.length by omega)]
      rfl
    unfold ts_bI at q
    rw [if_neg (by omega)] at q
    rw [e]
    exact ⟨by omega, trivial, ts_vin (by omega) (by omega), q⟩
theorem ts_bI_eq {x c : Nat} (hx : x ≤ 256) (hc : c < 256) : (ts_bI x = nI c) ↔ x = c := by
  unfold ts_bI
  by_cases e : x = 256
  · rw [if_pos e]
    constructor
    · intro h
      exact absurd h.symm (ts_nm1 (by omega))
    · intro h; omega
  · rw [if_neg e, ts_eq (by omega) (by omega)]
theorem c_failed {d f : Nat} {g : ts_G} {hi : ts_I} {hk : ts_K} {Q : Int32 → ts_I → ts_K → Prop} (hX : ts_LX g) (q : ∀ hi', hi' = ts_up hi 3 3 (nI f) → Q 0 hi' hk) : ts_E0 d mX9_failed [.ref 3, .int (nI f)] g hi hk (ts_qi Q) := by
  refine ts_E0.of plX9_failed rfl (Nat.le_of_ble_eq_true rfl) ?_
  refine wX9_failed_0 ?_
  simp only [ts_LX.s0 hX, ts_LX.s1 hX, ts_LX.s2 hX, ts_LX.s3 hX, ts_LX.s4 hX, ts_LX.s5 hX, ts_LX.s6 hX, ts_LX.s7 hX, ts_LX.s8 hX, ts_LX.s9 hX, ts_LX.s10 hX, ts_LX.s11 hX, ts_LX.s12 hX, ts_LX.s13 hX, ts_LX.s14 hX, ts_LX.s15 hX, ts_LX.s16 hX, ts_LX.s17 hX, ts_LX.s18 hX, ts_LX.s19 hX, ts_LX.s20 hX, ts_LX.s21 hX, ts_LX.s22 hX, ts_LX.s23 hX, ts_LX.s24 hX, ts_LX.s25 hX, ts_LX.s26 hX, ts_LX.s27 hX, ts_LX.s28 hX, ts_LX.s29 hX, ts_LX.s30 hX, ts_LX.s31 hX, ts_LX.s32 hX, ts_LX.s33 hX, ts_LX.s34 hX, ts_LX.s35 hX, ts_LX.s36 hX, ts_LX.s37 hX, ts_LX.s38 hX]
  exact ⟨trivial, fun hi2 x2 => q hi2 x2⟩
theorem ts_XP.fail {f p : Nat} {w : Nat × Nat} {hi0 hi hi' : ts_I} (h : ts_XP w hi0 hi) (hp : w.2 = p) (e : hi' = ts_up hi 3 3 (nI f)) : ts_XP (f, p) hi0 hi' := by
  subst e
  refine ⟨by rw [ts_up_s (by omega), ← hp]; exact h.1, fun _ => by rw [ts_up_eq], by rw [ts_up_s (by omega)]; exact h.2.2.1, ?_⟩
  funext s
  rw [ts_up_a (by omega), h.2.2.2]
theorem c_Xsign {d c p : Nat} {tp : List Nat} {g : ts_G} {hi0 hi : ts_I} {hk : ts_K} {Q : Int32 → ts_I → ts_K → Prop} (hX : ts_LX g) (hT : ts_Li tp 3 1 4 hi0) (hl : tp.length ≤ 90) (hb : ∀ b, b ∈ tp → b ≤ 255) (hp : p ≤ 90) (hc : c < 256) (h : ts_XP (0, p) hi0 hi)
    (q : ∀ hi', ts_XP (ts_sn tp c (0, p)) hi0 hi' → (∀ b, b ≠ 3 → hi' b = hi b) → Q (if (ts_sn tp c (0, p)).1 = 0 then 1 else 0) hi' hk) : ts_E0 (d + 1) mX9_readSign [.ref 3, .int (nI c)] g hi hk (ts_qi Q) := by
  refine ts_E0.of plX9_readSign rfl (Nat.le_of_ble_eq_true rfl) ?_
  refine wX9_readSign_0 ?_
  simp only [ts_LX.s0 hX, ts_LX.s1 hX, ts_LX.s2 hX, ts_LX.s3 hX, ts_LX.s4 hX, ts_LX.s5 hX, ts_LX.s6 hX, ts_LX.s7 hX, ts_LX.s8 hX, ts_LX.s9 hX, ts_LX.s10 hX, ts_LX.s11 hX, ts_LX.s12 hX, ts_LX.s13 hX, ts_LX.s14 hX, ts_LX.s15 hX, ts_LX.s16 hX, ts_LX.s17 hX, ts_LX.s18 hX, ts_LX.s19 hX, ts_LX.s20 hX, ts_LX.s21 hX, ts_LX.s22 hX, ts_LX.s23 hX, ts_LX.s24 hX, ts_LX.s25 hX, ts_LX.s26 hX, ts_LX.s27 hX, ts_LX.s28 hX, ts_LX.s29 hX, ts_LX.s30 hX, ts_LX.s31 hX, ts_LX.s32 hX, ts_LX.s33 hX, ts_LX.s34 hX, ts_LX.s35 hX, ts_LX.s36 hX, ts_LX.s37 hX, ts_LX.s38 hX]
  have h2 : hi 3 2 = nI p := h.1
  rw [h2]
  refine ⟨trivial, c_XbyteAt hX (h.li hT) hl (by omega) hb ?_⟩
  rw [h2, ts_bI_eq (ts_bt_le hb p) hc]
  have e0 : ts_sn tp c (0, p) = if ts_bt tp p = c then (0, p + 1) else (1, p) := if_neg (fun x => x rfl)
  rw [e0] at q
  refine ⟨fun e hi2 x2 => ?_, fun e => c_failed (f := 1) hX (fun hi2 x2 => ⟨Or.inl rfl, ?_⟩)⟩
  · rw [if_pos e] at q
    rw [ts_l1, nI_add] at x2
    refine q hi2 ⟨by rw [x2, ts_up_eq], fun x => absurd rfl x, by rw [x2, ts_up_s (by omega)]; exact h.2.2.1, ?_⟩ (fun b hb => by rw [x2]; funext s; rw [ts_up_a hb])
    rw [x2]; funext s
    rw [ts_up_a (by omega), h.2.2.2]
  · rw [if_neg e] at q
    exact q hi2 (h.fail rfl x2) (fun b hb => by rw [x2]; funext s; rw [ts_up_a hb])
theorem c_isFigure {d p : Nat} {tp : List Nat} {g : ts_G} {hi : ts_I} {hk : ts_K} {Q : Int32 → ts_I → ts_K → Prop} (hb : ∀ b, b ∈ tp → b ≤ 255) (q1 : ts_dg tp p = true → Q 1 hi hk) (q0 : ¬ ts_dg tp p = true → Q 0 hi hk) : ts_E0 d mX9_isFigure [.int (ts_bI (ts_bt tp p))] g hi hk (ts_qi Q) := by
  refine ts_E0.of plX9_isFigure rfl (Nat.le_of_ble_eq_true rfl) ?_
  refine wX9_isFigure_0 ?_
  have hle := ts_bt_le hb p
  have e := @ts_dg_e tp p
  by_cases c : ts_bt tp p = 256
  · have n : ¬ ts_dg tp p = true := fun x => by
      have := e.mp x
      omega
    rw [c]
    exact ⟨fun _ => q0 n, fun x => absurd (by decide) x⟩
  · unfold ts_bI
    rw [if_neg c, show (48 : Int32) = nI 48 from rfl, show (57 : Int32) = nI 57 from rfl, ts_lt (by omega) (by omega), ts_lt (by omega) (by omega)]
    refine ⟨fun x => q0 (fun y => ?_), fun x => ⟨fun x2 => q0 (fun y => ?_), fun x2 => q1 (e.mpr ⟨by omega, by omega⟩)⟩⟩
    · have := e.mp y
      omega
    · have := e.mp y
      omega
theorem c_Xnumber {d lo up p : Nat} {tp : List Nat} {g : ts_G} {hi0 hi : ts_I} {hk : ts_K} {Q : Int32 → ts_I → ts_K → Prop} (hX : ts_LX g) (hT : ts_Li tp 3 1 4 hi0) (hl : tp.length ≤ 90) (hb : ∀ b, b ∈ tp → b ≤ 255) (hp : p ≤ 90) (hu : up < 1000) (hlo : lo < 1000) (h : ts_XP (0, p) hi0 hi)
    (q : ∀ hi', ts_XP (ts_nu tp lo up (0, p)) hi0 hi' → (∀ b, b ≠ 3 → hi' b = hi b) → ((ts_nu tp lo up (0, p)).1 = 0 → hi' 3 4 = nI (ts_nv tp p)) → Q (if (ts_nu tp lo up (0, p)).1 = 0 then 1 else 0) hi' hk) : ts_E0 (d + 2) mX9_readNumber [.ref 3, .int (nI lo), .int (nI up)] g hi hk (ts_qi Q) := by
  refine ts_E0.of plX9_readNumber rfl (Nat.le_of_ble_eq_true rfl) ?_
  refine wX9_readNumber_0 ?_
  have h2 : hi 3 2 = nI p := h.1
  have e0 : ts_nu tp lo up (0, p) = if ts_nm tp lo up p = 0 then (0, p + ts_nd tp p) else (ts_nm tp lo up p, p) := if_neg (fun x => x rfl)
  rw [e0] at q
  -- no number
  have bad : ts_nd tp p = 0 ∨ ts_nd tp p = 3 → ts_E0 (d + 1) mX9_failed [.ref 3, .int (nI 1)] g hi hk (ts_qi (fun v5 hi3 hk4 => (v5 = 0 ∨ v5 = 1) ∧ Q v5 hi3 hk4)) := fun hn => by
    have em : ts_nm tp lo up p = 1 := by unfold ts_nm; rw [if_pos hn]
    rw [em, if_neg (by omega)] at q
    exact c_failed (f := 1) hX (fun hi2 x2 => ⟨Or.inl rfl, q hi2 (h.fail rfl x2) (fun b hb => by rw [x2]; funext s; rw [ts_up_a hb]) (fun x => absurd x (by simp))⟩)
  -- one or two figures
  have good : ∀ k v, (k = 1 ∨ k = 2) → ts_nd tp p = k → v = ts_nv tp p → ts_E0 (d + 1) mX11_outside [.int (nI v), .int (nI lo), .int (nI up)] g hi hk (ts_qi (fun v42 hi40 hk41 => ((v42 = 0) → ∀ hi44 : ts_I, hi44 = ts_up hi40 3 4 (nI v) → ∀ hi45 : ts_I, hi45 = ts_up hi44 3 2 ((hi44 3 2) + nI k) → Q 1 hi45 hk41) ∧ (¬ (v42 = 0) → ts_E0 (d + 1) mX9_failed [.ref 3, .int 2] g hi40 hk41 (ts_qi (fun v48 hi46 hk47 => (v48 = 0 ∨ v48 = 1) ∧ Q v48 hi46 hk47))))) := by
    intro k v hk12 hnd hv
    have hvl := ts_nv_lt (tp := tp) (p := p) (by omega)
    have em : ts_nm tp lo up p = if lo ≤ ts_nv tp p ∧ ts_nv tp p ≤ up then 0 else 2 := by unfold ts_nm; rw [if_neg (by omega)]
    rw [em] at q
    refine c_outside (fun c => ⟨fun _ => fun hi3 x3 hi4 x4 => ?_, fun e => absurd rfl e⟩) (fun c => ⟨fun e => absurd e (by decide), fun _ => ?_⟩)
    · rw [ts_le (by omega) (by omega), ts_le (by omega) (by omega), hv] at c
      rw [if_pos c, if_pos rfl, hnd] at q
      rw [x3, ts_up_s (by omega), h2, nI_add] at x4
      refine q hi4 ⟨by rw [x4, ts_up_eq], fun x => absurd rfl x, by rw [x4, ts_up_s (by omega), ts_up_s (by omega)]; exact h.2.2.1, ?_⟩ (fun b hb => by rw [x4]; funext s; rw [ts_up_a hb, ts_up_a hb]) (fun _ => by rw [x4, ts_up_s (by omega), ts_up_eq, hv])
      rw [x4]; funext s
      rw [ts_up_a (by omega), ts_up_a (by omega), h.2.2.2]
    · rw [ts_le (by omega) (by omega), ts_le (by omega) (by omega), hv] at c
      rw [if_neg c, if_neg (by omega)] at q
      exact c_failed (f := 2) hX (fun hi2 x2 => ⟨Or.inl rfl, q hi2 (h.fail rfl x2) (fun b hb => by rw [x2]; funext s; rw [ts_up_a hb]) (fun x => absurd x (by simp))⟩)
  have hhl := h.li hT
  -- behind three figures
  have s3 : ∀ v, ts_nd tp p = 3 → ts_J0 (d + 2) mX9_readNumber (ts_qi Q) g 5 [(0, .ref 3), (1, .int (nI lo)), (2, .int (nI up)), (3, .int (nI 3)), (4, .int v)] [] hi hk := fun v hn => by
    refine wX9_readNumber_5 ?_
    simp only [ts_LX.s0 hX, ts_LX.s1 hX, ts_LX.s2 hX, ts_LX.s3 hX, ts_LX.s4 hX, ts_LX.s5 hX, ts_LX.s6 hX, ts_LX.s7 hX, ts_LX.s8 hX, ts_LX.s9 hX, ts_LX.s10 hX, ts_LX.s11 hX, ts_LX.s12 hX, ts_LX.s13 hX, ts_LX.s14 hX, ts_LX.s15 hX, ts_LX.s16 hX, ts_LX.s17 hX, ts_LX.s18 hX, ts_LX.s19 hX, ts_LX.s20 hX, ts_LX.s21 hX, ts_LX.s22 hX, ts_LX.s23 hX, ts_LX.s24 hX, ts_LX.s25 hX, ts_LX.s26 hX, ts_LX.s27 hX, ts_LX.s28 hX, ts_LX.s29 hX, ts_LX.s30 hX, ts_LX.s31 hX, ts_LX.s32 hX, ts_LX.s33 hX, ts_LX.s34 hX, ts_LX.s35 hX, ts_LX.s36 hX, ts_LX.s37 hX, ts_LX.s38 hX]
    exact ⟨fun _ => ⟨fun e => absurd e (by decide), fun _ => ⟨fun e => absurd e (by decide), fun _ => ⟨trivial, bad (Or.inr hn)⟩⟩⟩, fun e => absurd (by decide) e⟩
  have fig : ∀ i, ts_dg tp i = true → ts_bI (ts_bt tp i) = nI (ts_bt tp i) ∧ 48 ≤ ts_bt tp i ∧ ts_bt tp i ≤ 57 := fun i hd => by
    have z := ts_dg_e.mp hd
    unfold ts_bI
    rw [if_neg (by omega)]
    exact ⟨rfl, z.1, z.2⟩
  have s2 : ts_dg tp p = true → ts_dg tp (p + 1) = true → ts_J0 (d + 2) mX9_readNumber (ts_qi Q) g 5 [(0, .ref 3), (1, .int (nI lo)), (2, .int (nI up)), (3, .int (nI 2)), (4, .int (nI (10 * (ts_bt tp p - 48) + (ts_bt tp (p + 1) - 48))))] [] hi hk := fun d1 d2 => by
    refine wX9_readNumber_5 ?_
    simp only [ts_LX.s0 hX, ts_LX.s1 hX, ts_LX.s2 hX, ts_LX.s3 hX, ts_LX.s4 hX, ts_LX.s5 hX, ts_LX.s6 hX, ts_LX.s7 hX, ts_LX.s8 hX, ts_LX.s9 hX, ts_LX.s10 hX, ts_LX.s11 hX, ts_LX.s12 hX, ts_LX.s13 hX, ts_LX.s14 hX, ts_LX.s15 hX, ts_LX.s16 hX, ts_LX.s17 hX, ts_LX.s18 hX, ts_LX.s19 hX, ts_LX.s20 hX, ts_LX.s21 hX, ts_LX.s22 hX, ts_LX.s23 hX, ts_LX.s24 hX, ts_LX.s25 hX, ts_LX.s26 hX, ts_LX.s27 hX, ts_LX.s28 hX, ts_LX.s29 hX, ts_LX.s30 hX, ts_LX.s31 hX, ts_LX.s32 hX, ts_LX.s33 hX, ts_LX.s34 hX, ts_LX.s35 hX, ts_LX.s36 hX, ts_LX.s37 hX, ts_LX.s38 hX]
    rw [h2, nI_add]
    refine ⟨fun e => absurd e (by decide), fun _ => ⟨trivial, c_XbyteAt hX hhl hl (by omega) hb (c_isFigure hb (fun d3 => ⟨fun e => absurd e (by decide), fun _ => ?_⟩) (fun d3 => ⟨fun _ => ⟨fun e => absurd e (by decide), fun _ => ⟨fun _ => ?_, fun e => absurd (by decide) e⟩⟩, fun e => absurd rfl e⟩))⟩⟩
    · rw [h2, nI_add]
      refine c_XbyteAt hX hhl hl (by omega) hb ?_
      exact s3 _ (by unfold ts_nd; rw [if_pos d1, if_pos d2, if_pos d3])
    · have hn : ts_nd tp p = 2 := by unfold ts_nd; rw [if_pos d1, if_pos d2, if_neg d3]
      exact good 2 _ (Or.inr rfl) hn (by unfold ts_nv; rw [hn, if_neg (by decide)])
  have s1 : ts_dg tp p = true → ts_J0 (d + 2) mX9_readNumber (ts_qi Q) g 5 [(0, .ref 3), (1, .int (nI lo)), (2, .int (nI up)), (3, .int (nI 1)), (4, .int (nI (ts_bt tp p - 48)))] [] hi hk := fun d1 => by
    refine wX9_readNumber_5 ?_
    simp only [ts_LX.s0 hX, ts_LX.s1 hX, ts_LX.s2 hX, ts_LX.s3 hX, ts_LX.s4 hX, ts_LX.s5 hX, ts_LX.s6 hX, ts_LX.s7 hX, ts_LX.s8 hX, ts_LX.s9 hX, ts_LX.s10 hX, ts_LX.s11 hX, ts_LX.s12 hX, ts_LX.s13 hX, ts_LX.s14 hX, ts_LX.s15 hX, ts_LX.s16 hX, ts_LX.s17 hX, ts_LX.s18 hX, ts_LX.s19 hX, ts_LX.s20 hX, ts_LX.s21 hX, ts_LX.s22 hX, ts_LX.s23 hX, ts_LX.s24 hX, ts_LX.s25 hX, ts_LX.s26 hX, ts_LX.s27 hX, ts_LX.s28 hX, ts_LX.s29 hX, ts_LX.s30 hX, ts_LX.s31 hX, ts_LX.s32 hX, ts_LX.s33 hX, ts_LX.s34 hX, ts_LX.s35 hX, ts_LX.s36 hX, ts_LX.s37 hX, ts_LX.s38 hX]
    rw [h2, nI_add]
    refine ⟨fun e => absurd e (by decide), fun _ => ⟨trivial, c_XbyteAt hX hhl hl (by omega) hb (c_isFigure hb (fun d2 => ⟨fun e => absurd e (by decide), fun _ => ?_⟩) (fun d2 => ⟨fun _ => ⟨fun e => absurd e (by decide), fun _ => ⟨fun _ => ?_, fun e => absurd (by decide) e⟩⟩, fun e => absurd rfl e⟩))⟩⟩
    · rw [h2, nI_add]
      refine c_XbyteAt hX hhl hl (by omega) hb ?_
      obtain ⟨y1, y2, y3⟩ := fig _ d2
      have z1 := ts_dg_e.mp d1
      rw [y1, ts_l10, pk_mul, nI_add, show (48 : Int32) = nI 48 from rfl, ts_sub' (by omega), ts_l1, nI_add, show 10 * (ts_bt tp p - 48) + ts_bt tp (p + 1) - 48 = 10 * (ts_bt tp p - 48) + (ts_bt tp (p + 1) - 48) by omega]
      exact s2 d1 d2
    · have hn : ts_nd tp p = 1 := by unfold ts_nd; rw [if_pos d1, if_neg d2]
      exact good 1 _ (Or.inl rfl) hn (by unfold ts_nv; rw [if_pos hn])
  refine wX9_readNumber_5 ?_
  simp only [ts_LX.s0 hX, ts_LX.s1 hX, ts_LX.s2 hX, ts_LX.s3 hX, ts_LX.s4 hX, ts_LX.s5 hX, ts_LX.s6 hX, ts_LX.s7 hX, ts_LX.s8 hX, ts_LX.s9 hX, ts_LX.s10 hX, ts_LX.s11 hX, ts_LX.s12 hX, ts_LX.s13 hX, ts_LX.s14 hX, ts_LX.s15 hX, ts_LX.s16 hX, ts_LX.s17 hX, ts_LX.s18 hX, ts_LX.s19 hX, ts_LX.s20 hX, ts_LX.s21 hX, ts_LX.s22 hX, ts_LX.s23 hX, ts_LX.s24 hX, ts_LX.s25 hX, ts_LX.s26 hX, ts_LX.s27 hX, ts_LX.s28 hX, ts_LX.s29 hX, ts_LX.s30 hX, ts_LX.s31 hX, ts_LX.s32 hX, ts_LX.s33 hX, ts_LX.s34 hX, ts_LX.s35 hX, ts_LX.s36 hX, ts_LX.s37 hX, ts_LX.s38 hX]
  rw [h2, ts_l0, nI_add, Nat.add_zero]
  refine ⟨fun e => absurd e (by decide), fun _ => ⟨trivial, c_XbyteAt (i := p) hX hhl hl (by omega) hb (c_isFigure (p := p) hb (fun d1 => ⟨fun e => absurd e (by decide), fun _ => ?_⟩) (fun d1 => ⟨fun _ => ⟨fun _ => ?_, fun e => absurd (by decide) e⟩, fun e => absurd (by decide) e⟩))⟩⟩
  · rw [h2, nI_add, Nat.add_zero]
    refine c_XbyteAt (i := p) hX hhl hl (by omega) hb ?_
    obtain ⟨y1, y2, y3⟩ := fig _ d1
    rw [y1, ts_l10, pk_mul, nI_add, show (48 : Int32) = nI 48 from rfl, ts_sub' (by omega), ts_l1, nI_add, show 10 * 0 + ts_bt tp p - 48 = ts_bt tp p - 48 by omega]
    exact s1 d1
  · exact bad (Or.inl (by unfold ts_nd; rw [if_neg d1]))
theorem c_sortOf {d x : Nat} {g : ts_G} {hi : ts_I} {hk : ts_K} {Q : Int32 → ts_I → ts_K → Prop} (hx : x ≤ 256) (q : Q (if ts_kd x = 0 then -1 else nI (ts_kd x)) hi hk) : ts_E0 d mX9_sortOf [.int (ts_bI x)] g hi hk (ts_qi Q) := by
  refine ts_E0.of plX9_sortOf rfl (Nat.le_of_ble_eq_true rfl) ?_
  refine wX9_sortOf_0 ?_
  simp only [show (102 : Int32) = nI 102 from rfl, show (103 : Int32) = nI 103 from rfl, show (104 : Int32) = nI 104 from rfl, show (105 : Int32) = nI 105 from rfl, show (106 : Int32) = nI 106 from rfl, show (107 : Int32) = nI 107 from rfl, show (108 : Int32) = nI 108 from rfl, show (109 : Int32) = nI 109 from rfl, show (110 : Int32) = nI 110 from rfl, show (111 : Int32) = nI 111 from rfl, show (112 : Int32) = nI 112 from rfl, show (113 : Int32) = nI 113 from rfl, show (114 : Int32) = nI 114 from rfl, show (115 : Int32) = nI 115 from rfl, show (116 : Int32) = nI 116 from rfl]
  rw [ts_bI_eq hx (by omega), ts_bI_eq hx (by omega), ts_bI_eq hx (by omega), ts_bI_eq hx (by omega), ts_bI_eq hx (by omega), ts_bI_eq hx (by omega), ts_bI_eq hx (by omega), ts_bI_eq hx (by omega), ts_bI_eq hx (by omega), ts_bI_eq hx (by omega), ts_bI_eq hx (by omega), ts_bI_eq hx (by omega), ts_bI_eq hx (by omega), ts_bI_eq hx (by omega), ts_bI_eq hx (by omega)]
  refine ⟨fun e => ?_, fun e => ?_, fun e => ?_, fun e => ?_, fun e => ?_, fun e => ?_, fun e => ?_, fun e => ?_, fun e => ?_, fun e => ?_, fun e => ?_, fun e => ?_, fun e => ?_, fun e => ?_, fun e => ?_, fun e1 e2 e3 e4 e5 e6 e7 e8 e9 e10 e11 e12 e13 e14 e15 => ?_⟩
  all_goals first | (rw [e] at q; exact q) | skip
  have z : ts_kd x = 0 := by
    unfold ts_kd
    rw [if_neg e15, if_neg e10, if_neg e11, if_neg e1, if_neg e14]
  rw [z, if_pos rfl] at q
  exact q
