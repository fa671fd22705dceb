/-! the model reads the text: its tokens -/
theorem c_MbyteAt {d i : Nat} {tp : List Nat} {g : ts_G} {hi : ts_I} {hk : ts_K} {Q : Int32 → ts_I → ts_K → Prop} (hM : ts_LM g) (hT : ts_Li tp 405 6 410 hi) (hl : tp.length ≤ 90) (hi9 : i < 1000) (hb : ∀ b, b ∈ tp → b ≤ 255) (q : Q (ts_bI (ts_bt tp i)) hi hk) : ts_E0 d mX12_byteAt [.ref 405, .int (nI i)] g hi hk (ts_qi Q) := by
  refine ts_E0.of plX12_byteAt rfl (Nat.le_of_ble_eq_true rfl) ?_
  refine wX12_byteAt_0 ?_
  simp only [ts_LM.kd hM, ts_LM.o0 hM, ts_LM.k0 hM, ts_LM.l0 hM, ts_LM.o1 hM, ts_LM.k1 hM, ts_LM.l1 hM, ts_LM.o2 hM, ts_LM.k2 hM, ts_LM.l2 hM, ts_LM.o3 hM, ts_LM.k3 hM, ts_LM.l3 hM, ts_LM.o5 hM, ts_LM.k5 hM, ts_LM.l5 hM, ts_LM.o13 hM, ts_LM.k13 hM, ts_LM.l13 hM, ts_LM.o14 hM, ts_LM.k14 hM, ts_LM.l14 hM, ts_LM.o15 hM, ts_LM.k15 hM, ts_LM.l15 hM, ts_LM.o16 hM, ts_LM.k16 hM, ts_LM.l16 hM, ts_LM.o18 hM, ts_LM.k18 hM, ts_LM.l18 hM, ts_LM.o19 hM, ts_LM.k19 hM, ts_LM.l19 hM, ts_LM.o20 hM, ts_LM.k20 hM, ts_LM.l20 hM, ts_LM.o21 hM, ts_LM.k21 hM, ts_LM.l21 hM, ts_LM.o22 hM, ts_LM.k22 hM, ts_LM.l22 hM, ts_LM.o23 hM, ts_LM.k23 hM, ts_LM.l23 hM]
  rw [hT.1, ts_le (by omega) (by omega), ts_cl (by omega)]
  refine ⟨trivial, fun c => ?_, fun c => ?_⟩
  · have e : ts_bt tp i = 256 := by
      by_cases e : ts_bt tp i = 256
      · exact e
      · have := ts_bt_len e
        omega
    rw [e] at q
    exact q
  · have h1 := ts_bt_in hb (show i < tp.length by omega)
    have e : hi 410 i = nI (ts_bt tp i) := by
      refine hT.2 i _ ?_
      unfold ts_bt
      rw [List.getD_eq_getElem?_getD, List.getElem?_eq_getElem (show i < tp.length by omega)]
      rfl
    unfold ts_bI at q
    rw [if_neg (by omega)] at q
    rw [e]
    exact ⟨by omega, trivial, ts_vin (by omega) (by omega), q⟩
theorem ts_bI_in {x a b : Nat} (hx : x ≤ 256) (ha : a < 256) (hb : b < 256) : (nI a ≤ ts_bI x ∧ ts_bI x ≤ nI b) ↔ (a ≤ x ∧ x ≤ b) := by
  unfold ts_bI
  by_cases e : x = 256
  · rw [if_pos e]
    constructor
    · rintro ⟨h, -⟩
      rw [Int32.le_iff_toInt_le, nI_toInt (by omega), show (-1 : Int32).toInt = -1 from by decide] at h
      omega
    · intro h; omega
  · rw [if_neg e, ts_le (by omega) (by omega), ts_le (by omega) (by omega)]
/-- the token at p: 0 end, 1 letter, 2 number, 3 comma, 4 stop, 5 other -/
def ts_tt (tp : List Nat) (p : Nat) : Nat := if ts_dg tp p = true then if ts_nd tp p = 3 then 5 else 2 else if ts_bt tp p = 256 then 0 else if 97 ≤ ts_bt tp p ∧ ts_bt tp p ≤ 122 then 1 else if ts_bt tp p = 44 then 3 else if ts_bt tp p = 59 then 4 else 5
def ts_TO (tp : List Nat) (p : Nat) (hi : ts_I) : Prop := hi 405 10 = nI p ∧ hi 405 11 = nI (ts_tt tp p) ∧ (ts_tt tp p = 2 → hi 405 12 = nI (ts_nv tp p) ∧ hi 405 9 = nI (p + ts_nd tp p)) ∧ (ts_tt tp p = 1 → hi 405 12 = nI (ts_bt tp p)) ∧ ((ts_tt tp p = 1 ∨ ts_tt tp p = 3 ∨ ts_tt tp p = 4) → hi 405 9 = nI (p + 1))
def ts_MV (hi hi' : ts_I) : Prop := (∀ b, b ≠ 405 → hi' b = hi b) ∧ ∀ s, s ≠ 9 → s ≠ 10 → s ≠ 11 → s ≠ 12 → hi' 405 s = hi 405 s
theorem ts_MV.li {tp : List Nat} {hi hi' : ts_I} (h : ts_MV hi hi') (hT : ts_Li tp 405 6 410 hi) : ts_Li tp 405 6 410 hi' := hT.of (h.2 6 (by omega) (by omega) (by omega) (by omega)) (h.1 410 (by omega))
/-- the first j figures from p on, two at most -/
def ts_fj (tp : List Nat) (p j : Nat) : Nat := if j = 0 then 0 else if j = 1 then ts_bt tp p - 48 else 10 * (ts_bt tp p - 48) + (ts_bt tp (p + 1) - 48)
theorem ts_nd_of {tp : List Nat} {p i : Nat} (hpi : p < i) (hD : ∀ t, p ≤ t → t < i → ts_dg tp t = true) (hn : ¬ ts_dg tp i = true) : ts_nd tp p = if 3 ≤ i - p then 3 else i - p := by
  unfold ts_nd
  rw [if_pos (hD p (by omega) hpi)]
  by_cases c1 : i = p + 1
  · subst c1
    rw [if_neg hn, if_neg (by omega)]
    omega
  · rw [if_pos (hD (p + 1) (by omega) (by omega))]
    by_cases c2 : i = p + 2
    · subst c2
      rw [if_neg hn, if_neg (by omega)]
      omega
    · rw [if_pos (hD (p + 2) (by omega) (by omega)), if_pos (by omega)]
theorem c_digits {d p : Nat} {tp : List Nat} {g : ts_G} {hi0 : ts_I} {hk : ts_K} {Q : ts_I → ts_K → Prop} (hM : ts_LM g) (hT : ts_Li tp 405 6 410 hi0) (hl : tp.length ≤ 90) (hb : ∀ b, b ∈ tp → b ≤ 255) (h0 : ts_dg tp p = true) (q : ∀ hi', ts_TO tp p hi' → ts_MV hi0 hi' → Q hi' hk) :
    ∀ n i hi, i + n = tp.length → p ≤ i → (∀ t, p ≤ t → t < i → ts_dg tp t = true) → hi 405 10 = nI p → hi 405 9 = nI i → hi 405 12 = nI (ts_fj tp p (i - p)) → ts_MV hi0 hi → ts_J0 (d + 1) mX12_advances (ts_qv Q) g 38 [(0, .ref 405)] [] hi hk := by
  -- where no figure follows
  have E : ∀ i hi, i ≤ tp.length → p ≤ i → (∀ t, p ≤ t → t < i → ts_dg tp t = true) → ¬ ts_dg tp i = true → hi 405 10 = nI p → hi 405 9 = nI i → hi 405 12 = nI (ts_fj tp p (i - p)) → ts_MV hi0 hi → ts_J0 (d + 1) mX12_advances (ts_qv Q) g 38 [(0, .ref 405)] [] hi hk := by
    intro i hi hil hpi hD hn h10 h9 h12 hV
    have hpi' : p < i := by
      by_cases c : p = i
      · subst c; exact absurd h0 hn
      · omega
    have hnd := ts_nd_of hpi' hD hn
    refine wX12_advances_38 ?_
    simp only [ts_LM.kd hM, ts_LM.o0 hM, ts_LM.k0 hM, ts_LM.l0 hM, ts_LM.o1 hM, ts_LM.k1 hM, ts_LM.l1 hM, ts_LM.o2 hM, ts_LM.k2 hM, ts_LM.l2 hM, ts_LM.o3 hM, ts_LM.k3 hM, ts_LM.l3 hM, ts_LM.o5 hM, ts_LM.k5 hM, ts_LM.l5 hM, ts_LM.o13 hM, ts_LM.k13 hM, ts_LM.l13 hM, ts_LM.o14 hM, ts_LM.k14 hM, ts_LM.l14 hM, ts_LM.o15 hM, ts_LM.k15 hM, ts_LM.l15 hM, ts_LM.o16 hM, ts_LM.k16 hM, ts_LM.l16 hM, ts_LM.o18 hM, ts_LM.k18 hM, ts_LM.l18 hM, ts_LM.o19 hM, ts_LM.k19 hM, ts_LM.l19 hM, ts_LM.o20 hM, ts_LM.k20 hM, ts_LM.l20 hM, ts_LM.o21 hM, ts_LM.k21 hM, ts_LM.l21 hM, ts_LM.o22 hM, ts_LM.k22 hM, ts_LM.l22 hM, ts_LM.o23 hM, ts_LM.k23 hM, ts_LM.l23 hM]
    rw [h9]
    refine ⟨trivial, c_MbyteAt hM (hV.li hT) hl (by omega) hb (c_inq (fun c => absurd (ts_dg_e.mpr ((ts_bI_in (a := 48) (b := 57) (ts_bt_le hb i) (by omega) (by omega)).mp c)) hn) (fun _ => ⟨fun _ => ?_, fun e => absurd rfl e⟩))⟩
    rw [h9, h10, ts_sub' hpi, ts_l3, ts_le (by omega) (by omega)]
    refine ⟨fun c3 hi10 x10 => ?_, fun c3 hi11 x11 => ?_⟩
    · rw [if_pos c3] at hnd
      have ett : ts_tt tp p = 5 := by unfold ts_tt; rw [if_pos h0, if_pos hnd]
      refine q hi10 ⟨by rw [x10, ts_up_s (by omega)]; exact h10, by rw [x10, ts_up_eq, ett]; rfl, fun e => by omega, fun e => by omega, fun e => by omega⟩ ⟨fun b hb => by rw [x10]; funext s; rw [ts_up_a hb, hV.1 b hb], fun s s1 s2 s3 s4 => by rw [x10, ts_up_s s3]; exact hV.2 s s1 s2 s3 s4⟩
    · rw [if_neg c3] at hnd
      have ett : ts_tt tp p = 2 := by unfold ts_tt; rw [if_pos h0, if_neg (by omega)]
      refine q hi11 ⟨by rw [x11, ts_up_s (by omega)]; exact h10, by rw [x11, ts_up_eq, ett]; rfl, fun _ => ⟨?_, ?_⟩, fun e => by omega, fun e => by omega⟩ ⟨fun b hb => by rw [x11]; funext s; rw [ts_up_a hb, hV.1 b hb], fun s s1 s2 s3 s4 => by rw [x11, ts_up_s s3]; exact hV.2 s s1 s2 s3 s4⟩
      · rw [x11, ts_up_s (by omega), h12]
        unfold ts_fj ts_nv
        rw [if_neg (by omega), hnd]
      · rw [x11, ts_up_s (by omega), h9, hnd]
        congr 1
        omega
  intro n
  induction n with
  | zero =>
    intro i hi hin hpi hD h10 h9 h12 hV
    refine E i hi (by omega) hpi hD (fun c => ?_) h10 h9 h12 hV
    have := ts_dg_e.mp c
    have := ts_bt_len (tp := tp) (i := i) (by omega)
    omega
  | succ n ih =>
    intro i hi hin hpi hD h10 h9 h12 hV
    by_cases c : ts_dg tp i = true
    · have hr := ts_dg_e.mp c
      refine wX12_advances_38 ?_
      simp only [ts_LM.kd hM, ts_LM.o0 hM, ts_LM.k0 hM, ts_LM.l0 hM, ts_LM.o1 hM, ts_LM.k1 hM, ts_LM.l1 hM, ts_LM.o2 hM, ts_LM.k2 hM, ts_LM.l2 hM, ts_LM.o3 hM, ts_LM.k3 hM, ts_LM.l3 hM, ts_LM.o5 hM, ts_LM.k5 hM, ts_LM.l5 hM, ts_LM.o13 hM, ts_LM.k13 hM, ts_LM.l13 hM, ts_LM.o14 hM, ts_LM.k14 hM, ts_LM.l14 hM, ts_LM.o15 hM, ts_LM.k15 hM, ts_LM.l15 hM, ts_LM.o16 hM, ts_LM.k16 hM, ts_LM.l16 hM, ts_LM.o18 hM, ts_LM.k18 hM, ts_LM.l18 hM, ts_LM.o19 hM, ts_LM.k19 hM, ts_LM.l19 hM, ts_LM.o20 hM, ts_LM.k20 hM, ts_LM.l20 hM, ts_LM.o21 hM, ts_LM.k21 hM, ts_LM.l21 hM, ts_LM.o22 hM, ts_LM.k22 hM, ts_LM.l22 hM, ts_LM.o23 hM, ts_LM.k23 hM, ts_LM.l23 hM]
      rw [h9]
      refine ⟨trivial, c_MbyteAt hM (hV.li hT) hl (by omega) hb (c_inq (fun _ => ⟨fun e => absurd e (by decide), fun _ => ?_⟩) (fun x => absurd ((ts_bI_in (a := 48) (b := 57) (ts_bt_le hb i) (by omega) (by omega)).mpr hr) x))⟩
      rw [h9, h10, ts_sub' hpi, ts_l2, ts_le (by omega) (by omega)]
      have hD' : ∀ t, p ≤ t → t < i + 1 → ts_dg tp t = true := fun t t1 t2 => by
        by_cases e : t = i
        · rw [e]; exact c
        · exact hD t t1 (by omega)
      refine ⟨fun c2 hi13 x13 hi14 x14 => ?_, fun c2 => c_MbyteAt hM (hV.li hT) hl (by omega) hb (fun hi18 x18 hi19 x19 => ?_)⟩
      · rw [x13, ts_up_s (by omega), h9, h12, ts_l1, nI_add] at x14
        refine ih (i + 1) hi14 (by omega) (by omega) hD' (by rw [x14, ts_up_s (by omega), ts_up_s (by omega)]; exact h10) (by rw [x14, ts_up_eq]) ?_ ⟨fun b hb => by rw [x14]; funext s; rw [ts_up_a hb, ts_up_a hb, hV.1 b hb], fun s s1 s2 s3 s4 => by rw [x14, ts_up_s s1, ts_up_s s4]; exact hV.2 s s1 s2 s3 s4⟩
        rw [x14, ts_up_s (by omega), ts_up_eq]
        unfold ts_fj
        rw [if_neg (by omega), if_neg (by omega), if_neg (by omega), if_neg (by omega)]
      · have ev : ((10 : Int32) * hi 405 12 + ts_bI (ts_bt tp i)) - 48 = nI (ts_fj tp p (i + 1 - p)) := by
          rw [h12]
          unfold ts_bI
          rw [if_neg (by omega), show (10 : Int32) = nI 10 from rfl, show (48 : Int32) = nI 48 from rfl, pk_mul, nI_add, ts_sub' (by omega)]
          congr 1
          unfold ts_fj
          by_cases z : i - p = 0
          · rw [if_pos z, if_neg (by omega), if_pos (by omega), show p = i by omega]
            omega
          · rw [if_neg z, if_pos (by omega), if_neg (by omega), if_neg (by omega), show i = p + 1 by omega]
            have := ts_dg_e.mp h0
            have hr' : 48 ≤ ts_bt tp (p + 1) := by rw [show p + 1 = i by omega]; exact hr.1
            omega
        rw [ev] at x18
        rw [x18, ts_up_s (by omega), h9, ts_l1, nI_add] at x19
        exact ih (i + 1) hi19 (by omega) (by omega) hD' (by rw [x19, ts_up_s (by omega), ts_up_s (by omega)]; exact h10) (by rw [x19, ts_up_eq]) (by rw [x19, ts_up_s (by omega), ts_up_eq]) ⟨fun b hb => by rw [x19]; funext s; rw [ts_up_a hb, ts_up_a hb, hV.1 b hb], fun s s1 s2 s3 s4 => by rw [x19, ts_up_s s1, ts_up_s s4]; exact hV.2 s s1 s2 s3 s4⟩
    · exact E i hi (by omega) hpi hD c h10 h9 h12 hV
theorem c_advances {d p : Nat} {tp : List Nat} {g : ts_G} {hi : ts_I} {hk : ts_K} {Q : ts_I → ts_K → Prop} (hM : ts_LM g) (hT : ts_Li tp 405 6 410 hi) (hl : tp.length ≤ 90) (hb : ∀ b, b ∈ tp → b ≤ 255) (hp : p ≤ tp.length) (h9 : hi 405 9 = nI p) (q : ∀ hi', ts_TO tp p hi' → ts_MV hi hi' → Q hi' hk) : ts_E0 (d + 1) mX12_advances [.ref 405] g hi hk (ts_qv Q) := by
  refine ts_E0.of plX12_advances rfl (Nat.le_of_ble_eq_true rfl) ?_
  refine wX12_advances_0 ?_
  simp only [ts_LM.kd hM, ts_LM.o0 hM, ts_LM.k0 hM, ts_LM.l0 hM, ts_LM.o1 hM, ts_LM.k1 hM, ts_LM.l1 hM, ts_LM.o2 hM, ts_LM.k2 hM, ts_LM.l2 hM, ts_LM.o3 hM, ts_LM.k3 hM, ts_LM.l3 hM, ts_LM.o5 hM, ts_LM.k5 hM, ts_LM.l5 hM, ts_LM.o13 hM, ts_LM.k13 hM, ts_LM.l13 hM, ts_LM.o14 hM, ts_LM.k14 hM, ts_LM.l14 hM, ts_LM.o15 hM, ts_LM.k15 hM, ts_LM.l15 hM, ts_LM.o16 hM, ts_LM.k16 hM, ts_LM.l16 hM, ts_LM.o18 hM, ts_LM.k18 hM, ts_LM.l18 hM, ts_LM.o19 hM, ts_LM.k19 hM, ts_LM.l19 hM, ts_LM.o20 hM, ts_LM.k20 hM, ts_LM.l20 hM, ts_LM.o21 hM, ts_LM.k21 hM, ts_LM.l21 hM, ts_LM.o22 hM, ts_LM.k22 hM, ts_LM.l22 hM, ts_LM.o23 hM, ts_LM.k23 hM, ts_LM.l23 hM]
  refine ⟨trivial, fun hi2 x2 => ?_⟩
  have e9 : hi2 405 9 = nI p := by rw [x2, ts_up_s (by omega), h9]
  have hT2 : ts_Li tp 405 6 410 hi2 := hT.of (by rw [x2, ts_up_s (by omega)]) (by rw [x2]; funext s; rw [ts_up_a (by omega)])
  have hx := ts_bt_le hb p
  rw [e9]
  refine c_MbyteAt hM hT2 hl (by omega) hb (fun hi6 x6 => ?_)
  rw [h9] at x2
  have V6 : ts_MV hi hi6 := ⟨fun b hb => by rw [x6, x2]; funext s; rw [ts_up_a hb, ts_up_a hb], fun s s1 s2 s3 s4 => by rw [x6, ts_up_s s4, x2, ts_up_s s2]⟩
  have z9 : hi6 405 9 = nI p := by rw [x6, ts_up_s (by omega), e9]
  have z10 : hi6 405 10 = nI p := by rw [x6, ts_up_s (by omega), x2, ts_up_eq]
  have z12 : hi6 405 12 = ts_bI (ts_bt tp p) := by rw [x6, ts_up_eq]
  -- the token's end
  have F : ∀ t, t = ts_tt tp p → t ≤ 5 → t ≠ 2 → ts_J0 (d + 1) mX12_advances (ts_qv Q) g 180 [(0, .ref 405)] [.int (nI t), .ref 405] hi6 hk := by
    intro t et t5 t2
    refine wX12_advances_180 ?_
    simp only [ts_LM.kd hM, ts_LM.o0 hM, ts_LM.k0 hM, ts_LM.l0 hM, ts_LM.o1 hM, ts_LM.k1 hM, ts_LM.l1 hM, ts_LM.o2 hM, ts_LM.k2 hM, ts_LM.l2 hM, ts_LM.o3 hM, ts_LM.k3 hM, ts_LM.l3 hM, ts_LM.o5 hM, ts_LM.k5 hM, ts_LM.l5 hM, ts_LM.o13 hM, ts_LM.k13 hM, ts_LM.l13 hM, ts_LM.o14 hM, ts_LM.k14 hM, ts_LM.l14 hM, ts_LM.o15 hM, ts_LM.k15 hM, ts_LM.l15 hM, ts_LM.o16 hM, ts_LM.k16 hM, ts_LM.l16 hM, ts_LM.o18 hM, ts_LM.k18 hM, ts_LM.l18 hM, ts_LM.o19 hM, ts_LM.k19 hM, ts_LM.l19 hM, ts_LM.o20 hM, ts_LM.k20 hM, ts_LM.l20 hM, ts_LM.o21 hM, ts_LM.k21 hM, ts_LM.l21 hM, ts_LM.o22 hM, ts_LM.k22 hM, ts_LM.l22 hM, ts_LM.o23 hM, ts_LM.k23 hM, ts_LM.l23 hM]
    refine ⟨trivial, fun hi7 x7 => ⟨trivial, fun c hi8 x8 => ?_, fun c hi8 x8 => ?_⟩⟩
    · rw [x7, ts_up_s (by omega), z9, ts_l1, nI_add] at x8
      refine q hi8 ⟨?_, ?_, fun e => by omega, fun e => ?_, fun _ => ?_⟩ ⟨fun b hb => ?_, fun s s1 s2 s3 s4 => ?_⟩
      · rw [x8, ts_up_s (by omega), ts_up_s (by omega)]; exact z10
      · rw [x8, ts_up_s (by omega), ts_up_eq, et]
      · rw [x8, ts_up_s (by omega), ts_up_s (by omega), z12]
        unfold ts_bI
        rw [if_neg (fun x => ?_)]
        unfold ts_tt at e
        rw [if_neg (fun y => by have := ts_dg_e.mp y; omega), if_pos x] at e
        omega
      · rw [x8, ts_up_eq]
      · rw [x8]; funext s; rw [ts_up_a hb, ts_up_a hb, V6.1 b hb]
      · rw [x8, ts_up_s s1, ts_up_s s3]; exact V6.2 s s1 s2 s3 s4
    · have ez : t = 0 := by
        rw [x7, ts_up_eq, ts_l0, ts_ne (by omega) (by omega)] at c
        omega
      rw [x7] at x8
      refine q hi8 ⟨?_, ?_, fun e => by omega, fun e => by omega, fun e => by omega⟩ ⟨fun b hb => ?_, fun s s1 s2 s3 s4 => ?_⟩
      · rw [x8, ts_up_s (by omega), ts_up_s (by omega)]; exact z10
      · rw [x8, ts_up_s (by omega), ts_up_eq, et]
      · rw [x8]; funext s; rw [ts_up_a hb, ts_up_a hb, V6.1 b hb]
      · rw [x8, ts_up_s s1, ts_up_s s3]; exact V6.2 s s1 s2 s3 s4
  refine c_inq (fun c => ⟨fun e => absurd e (by decide), fun _ hi18 x18 => ?_⟩) (fun c => ⟨fun _ => ?_, fun e => absurd rfl e⟩)
  · have hd := ts_dg_e.mpr ((ts_bI_in (a := 48) (b := 57) hx (by omega) (by omega)).mp c)
    have hlt := ts_dg_e.mp hd
    exact c_digits hM hT hl hb hd q (tp.length - p) p hi18 (by omega) (by omega) (fun t t1 t2 => by omega) (by rw [x18, ts_up_s (by omega)]; exact z10) (by rw [x18, ts_up_s (by omega)]; exact z9) (by rw [x18, ts_up_eq, Nat.sub_self]; rfl) ⟨fun b hb => by rw [x18]; funext s; rw [ts_up_a hb, V6.1 b hb], fun s s1 s2 s3 s4 => by rw [x18, ts_up_s s4]; exact V6.2 s s1 s2 s3 s4⟩
  · have hd : ¬ ts_dg tp p = true := fun y => c ((ts_bI_in (a := 48) (b := 57) hx (by omega) (by omega)).mpr (ts_dg_e.mp y))
    by_cases c0 : ts_bt tp p = 256
    · have ett : ts_tt tp p = 0 := by unfold ts_tt; rw [if_neg hd, if_pos c0]
      rw [c0]
      exact ⟨fun e => absurd e (by decide), fun _ => F 0 ett.symm (by omega) (by omega)⟩
    · have eb : ts_bI (ts_bt tp p) = nI (ts_bt tp p) := by unfold ts_bI; rw [if_neg c0]
      rw [eb]
      have h0 : (0 : Int32) ≤ nI (ts_bt tp p) := by rw [ts_l0, ts_le (by omega) (by omega)]; omega
      refine ⟨fun _ => c_inq (fun c1 => ⟨fun e => absurd e (by decide), fun _ => ?_⟩) (fun c1 => ⟨fun _ => ?_, fun e => absurd rfl e⟩), fun e => absurd h0 e⟩
      · rw [← eb] at c1
        have c1' := (ts_bI_in (a := 97) (b := 122) hx (by omega) (by omega)).mp c1
        exact F 1 (by unfold ts_tt; rw [if_neg hd, if_neg c0, if_pos c1']) (by omega) (by omega)
      · rw [← eb] at c1
        have c1' : ¬ (97 ≤ ts_bt tp p ∧ ts_bt tp p ≤ 122) := fun y => c1 ((ts_bI_in (a := 97) (b := 122) hx (by omega) (by omega)).mpr y)
        rw [show (44 : Int32) = nI 44 from rfl, show (59 : Int32) = nI 59 from rfl, ts_ne (by omega) (by omega), ts_ne (by omega) (by omega)]
        refine ⟨fun c2 => ⟨fun c3 => ?_, fun c3 => ?_⟩, fun c2 => ?_⟩
        · exact F 5 (by unfold ts_tt; rw [if_neg hd, if_neg c0, if_neg c1', if_neg c2, if_neg c3]) (by omega) (by omega)
        · exact F 4 (by unfold ts_tt; rw [if_neg hd, if_neg c0, if_neg c1', if_neg c2, if_pos (by omega)]) (by omega) (by omega)
        · exact F 3 (by unfold ts_tt; rw [if_neg hd, if_neg c0, if_neg c1', if_pos (by omega)]) (by omega) (by omega)
