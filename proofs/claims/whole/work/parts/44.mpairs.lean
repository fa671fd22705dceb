/-! ways to marry: how the model goes through them -/
def ts_f0 (ms : List Nat) (t : Nat) : Nat := if ms.getD t 7 = 7 then t else ms.getD t 7
def ts_fe (ms : List Nat) (t j : Nat) : Bool := (List.range t).all (fun k => decide (ms.getD k 7 ≠ j))
def ts_jf (c : Nat) (ms : List Nat) (t : Nat) : Nat := if ts_f0 ms t < t then 1000 else ts_fd (ts_fe ms t) (c - (ts_f0 ms t + 1)) (ts_f0 ms t + 1)
def ts_nb (ms : List Nat) (t j : Nat) : List Nat := (((List.range 7).map (fun k => if k < t then ms.getD k 7 else if ms.getD k 7 < t then ms.getD k 7 else 7)).set t j).set j t
def ts_nt (c : Nat) (ms : List Nat) : Nat → List Nat
  | 0 => []
  | t + 1 => if ts_jf c ms t = 1000 then ts_nt c ms t else ts_nb ms t (ts_jf c ms t)
def ts_ch (c : Nat) : List (List Nat) → Bool
  | [] => false
  | ms :: r => decide (ms.length = 7) && (List.range 7).all (fun t => decide (ms.getD t 7 = 7) || (decide (t < c) && decide (ms.getD t 7 < c) && decide (ms.getD (ms.getD t 7) 7 = t) && decide (ms.getD t 7 ≠ t))) && match r with
    | [] => decide (ts_nt c ms c = [])
    | ms2 :: _ => decide (ts_nt c ms c = ms2) && decide (ms2 ≠ []) && ts_ch c r
theorem ts_chk : ∀ c, c < 8 → (ts_en c c 0 ts_e7).head? = some ts_e7 ∧ ts_ch c (ts_en c c 0 ts_e7) = true := by decide +kernel
/-- the line of the model holds ms -/
def ts_ML (ms : List Nat) (hi : ts_I) : Prop := ∀ t, t < 7 → hi 418 t = ts_nN (ms.getD t 7)
theorem c_isFree {d t j : Nat} {g : ts_G} {ms : List Nat} {hi : ts_I} {hk : ts_K} {Q : Int32 → ts_I → ts_K → Prop} (hM : ts_LM g) (hL : ts_ML ms hi) (hb : ∀ k, ms.getD k 7 ≤ 7) (ht : t ≤ 7) (hj : j < 7) (q : Q (if ts_fe ms t j = true then 1 else 0) hi hk) : ts_E0 d mX12_isFree [.ref 405, .int (nI j), .int (nI t)] g hi hk (ts_qi Q) := by
  refine ts_E0.of plX12_isFree rfl (Nat.le_of_ble_eq_true rfl) ?_
  refine wX12_isFree_0 ?_
  have L : ∀ n k, k + n = t → ts_J0 d mX12_isFree (ts_qi Q) g 5 [(0, .ref 405), (1, .int (nI j)), (2, .int (nI t)), (3, .int (if ts_fe ms k j = true then 1 else 0)), (4, .int (nI k))] [] hi hk := by
    intro n
    induction n with
    | zero =>
      intro k hkn
      refine wX12_isFree_5 ?_
      rw [ts_le (by omega) (by omega)]
      refine ⟨fun _ => ⟨?_, ?_⟩, fun h => absurd (by omega) h⟩
      · split
        · exact Or.inr rfl
        · exact Or.inl rfl
      · rw [show k = t by omega]; exact q
    | succ n ih =>
      intro k hkn
      refine wX12_isFree_5 ?_
      have z := ih (k + 1) (by omega)
      have e : ts_fe ms (k + 1) j = (ts_fe ms k j && decide (ms.getD k 7 ≠ j)) := by
        unfold ts_fe
        rw [List.range_succ, List.all_append]
        simp
      simp only [ts_LM.kd hM, ts_LM.o0 hM, ts_LM.k0 hM, ts_LM.l0 hM, ts_LM.o1 hM, ts_LM.k1 hM, ts_LM.l1 hM, ts_LM.o2 hM, ts_LM.k2 hM, ts_LM.l2 hM, ts_LM.o3 hM, ts_LM.k3 hM, ts_LM.l3 hM, ts_LM.o5 hM, ts_LM.k5 hM, ts_LM.l5 hM, ts_LM.o13 hM, ts_LM.k13 hM, ts_LM.l13 hM, ts_LM.o14 hM, ts_LM.k14 hM, ts_LM.l14 hM, ts_LM.o15 hM, ts_LM.k15 hM, ts_LM.l15 hM, ts_LM.o16 hM, ts_LM.k16 hM, ts_LM.l16 hM, ts_LM.o18 hM, ts_LM.k18 hM, ts_LM.l18 hM, ts_LM.o19 hM, ts_LM.k19 hM, ts_LM.l19 hM, ts_LM.o20 hM, ts_LM.k20 hM, ts_LM.l20 hM, ts_LM.o21 hM, ts_LM.k21 hM, ts_LM.l21 hM, ts_LM.o22 hM, ts_LM.k22 hM, ts_LM.l22 hM, ts_LM.o23 hM, ts_LM.k23 hM, ts_LM.l23 hM]
      rw [ts_le (by omega) (by omega), ts_cl (by omega), hL k (by omega), ts_l1, nI_add]
      refine ⟨fun h => absurd h (by omega), fun _ => ⟨fun h0 => ?_, fun h0 => ⟨trivial, by omega, trivial, ts_vin (by omega) (by omega), fun hc => ?_, fun hc => ?_⟩⟩⟩
      · have h1 : ¬ ts_fe ms k j = true := fun e1 => by rw [if_pos e1] at h0; exact absurd h0 (by decide)
        rw [if_neg (by rw [e]; simp [h1])] at z
        exact z
      · have h2 : ms.getD k 7 = j := by
          unfold ts_nN at hc
          by_cases h7 : ms.getD k 7 = 7
          · rw [if_pos h7] at hc
            exact absurd hc.symm (ts_nIne (by omega))
          · rw [if_neg h7] at hc
            have h3 := hb k
            rw [ts_eq (by omega) (by omega)] at hc
            exact hc
        rw [if_neg (by rw [e, h2]; simp)] at z
        exact z
      · have h1 : ts_fe ms k j = true := by
          by_cases h1 : ts_fe ms k j = true
          · exact h1
          · rw [if_neg h1] at h0
            exact absurd rfl h0
        have h2 : ms.getD k 7 ≠ j := fun e2 => by
          apply hc
          rw [e2]
          unfold ts_nN
          rw [if_neg (by omega)]
        rw [if_pos (by rw [e, h1]; simp; exact h2)] at z
        exact z
  have z := L t 0 (by omega)
  rw [if_pos (show ts_fe ms 0 j = true by rfl)] at z
  exact z
theorem ts_iv_b {c : Nat} {ms : List Nat} (hc : c ≤ 7) (h : ts_iv c ms) : ∀ k, ms.getD k 7 ≤ 7 := by
  intro k
  by_cases hk : k < 7
  · rcases h.2 k hk with z | z <;> omega
  · have : ms.getD k 7 = 7 := by
      simp only [List.getD_eq_getElem?_getD]
      rw [List.getElem?_eq_none (by rw [h.1]; omega)]
      rfl
    omega
/-- one turnip's search for a mate further on -/
theorem c_marries {d : Nat} {g : ts_G} {A : ts_A} {ms : List Nat} {hi : ts_I} {hk : ts_K} {Q : Int32 → ts_I → ts_K → Prop} (hM : ts_LM g) (hR : ts_MR 411 0 A hi) (hc : A 6 0 ≤ 7) (hv : ts_iv (A 6 0) ms) (hL : ts_ML ms hi)
    (q0 : ts_nt (A 6 0) ms (A 6 0) = [] → Q 0 hi hk) (q1 : ∀ hi', ts_nt (A 6 0) ms (A 6 0) ≠ [] → ts_ML (ts_nt (A 6 0) ms (A 6 0)) hi' → (∀ b, b ≠ 418 → hi' b = hi b) → Q 1 hi' hk) : ts_E0 (d + 1) mX12_marries [.ref 405] g hi hk (ts_qi Q) := by
  refine ts_E0.of plX12_marries rfl (Nat.le_of_ble_eq_true rfl) ?_
  refine wX12_marries_0 ?_
  have hb := ts_iv_b hc hv
  have h2 : hi 411 2 = nI (A 6 0) := hR.2.2.1
  -- from turnip t - 1 downward
  have O : ∀ t, t ≤ A 6 0 → ts_nt (A 6 0) ms t = ts_nt (A 6 0) ms (A 6 0) → ts_J0 (d + 1) mX12_marries (ts_qi Q) g 9 [(0, .ref 405), (1, .int (nI t - 1))] [] hi hk := by
    intro t
    induction t with
    | zero =>
      intro _ hf
      refine wX12_marries_9 ?_
      rw [show (nI 0 - 1 : Int32) = -1 from by decide]
      exact ⟨fun _ => q0 (by rw [← hf]; rfl), fun h => absurd (by decide) h⟩
    | succ t ih =>
      intro ht hf
      refine wX12_marries_9 ?_
      have e1 : nI (t + 1) - 1 = nI t := by rw [ts_l1, ts_sub' (by omega)]; rfl
      have e0 : nI t + (-1) = nI t - 1 := by
        rw [Int32.sub_eq_add_neg]
      rw [ts_nt] at hf
      simp only [ts_LM.kd hM, ts_LM.o0 hM, ts_LM.k0 hM, ts_LM.l0 hM, ts_LM.o1 hM, ts_LM.k1 hM, ts_LM.l1 hM, ts_LM.o2 hM, ts_LM.k2 hM, ts_LM.l2 hM, ts_LM.o3 hM, ts_LM.k3 hM, ts_LM.l3 hM, ts_LM.o5 hM, ts_LM.k5 hM, ts_LM.l5 hM, ts_LM.o13 hM, ts_LM.k13 hM, ts_LM.l13 hM, ts_LM.o14 hM, ts_LM.k14 hM, ts_LM.l14 hM, ts_LM.o15 hM, ts_LM.k15 hM, ts_LM.l15 hM, ts_LM.o16 hM, ts_LM.k16 hM, ts_LM.l16 hM, ts_LM.o18 hM, ts_LM.k18 hM, ts_LM.l18 hM, ts_LM.o19 hM, ts_LM.k19 hM, ts_LM.l19 hM, ts_LM.o20 hM, ts_LM.k20 hM, ts_LM.l20 hM, ts_LM.o21 hM, ts_LM.k21 hM, ts_LM.l21 hM, ts_LM.o22 hM, ts_LM.k22 hM, ts_LM.l22 hM, ts_LM.o23 hM, ts_LM.k23 hM, ts_LM.l23 hM]
      rw [e1, ts_cl (by omega), hL t (by omega), ts_l0, ts_lt (by omega) (by omega)]
      have hbt := hb t
      -- the search of t from j on
      have S : ∀ m j, j + m = A 6 0 → ts_f0 ms t < j → ts_f0 ms t ≤ 7 → (¬ ts_f0 ms t < t → ts_fd (ts_fe ms t) m j = ts_jf (A 6 0) ms t) → ts_J0 (d + 1) mX12_marries (ts_qi Q) g 39 [(0, .ref 405), (1, .int (nI t)), (2, .int (nI (ts_f0 ms t))), (3, .int (nI j))] [] hi hk := by
        intro m
        induction m with
        | zero =>
          intro j hjm hfj hf7 hfd
          refine wX12_marries_39 ?_
          simp only [ts_LM.kd hM, ts_LM.o0 hM, ts_LM.k0 hM, ts_LM.l0 hM, ts_LM.o1 hM, ts_LM.k1 hM, ts_LM.l1 hM, ts_LM.o2 hM, ts_LM.k2 hM, ts_LM.l2 hM, ts_LM.o3 hM, ts_LM.k3 hM, ts_LM.l3 hM, ts_LM.o5 hM, ts_LM.k5 hM, ts_LM.l5 hM, ts_LM.o13 hM, ts_LM.k13 hM, ts_LM.l13 hM, ts_LM.o14 hM, ts_LM.k14 hM, ts_LM.l14 hM, ts_LM.o15 hM, ts_LM.k15 hM, ts_LM.l15 hM, ts_LM.o16 hM, ts_LM.k16 hM, ts_LM.l16 hM, ts_LM.o18 hM, ts_LM.k18 hM, ts_LM.l18 hM, ts_LM.o19 hM, ts_LM.k19 hM, ts_LM.l19 hM, ts_LM.o20 hM, ts_LM.k20 hM, ts_LM.l20 hM, ts_LM.o21 hM, ts_LM.k21 hM, ts_LM.l21 hM, ts_LM.o22 hM, ts_LM.k22 hM, ts_LM.l22 hM, ts_LM.o23 hM, ts_LM.k23 hM, ts_LM.l23 hM]
          rw [show (2 : Int32).toNatClampNeg = 2 from rfl, h2, ts_le (by omega) (by omega), e0]
          refine ⟨trivial, by omega, trivial, ts_vin (i := 2) (by omega) (by omega), fun _ => ?_, fun h => absurd (by omega) h⟩
          have e : ts_jf (A 6 0) ms t = 1000 := by
            by_cases h : ts_f0 ms t < t
            · unfold ts_jf; rw [if_pos h]
            · rw [← hfd h, ts_fd]
          rw [if_pos e] at hf
          exact ih (by omega) hf
        | succ m ih2 =>
          intro j hjm hfj hf7 hfd
          refine wX12_marries_39 ?_
          simp only [ts_LM.kd hM, ts_LM.o0 hM, ts_LM.k0 hM, ts_LM.l0 hM, ts_LM.o1 hM, ts_LM.k1 hM, ts_LM.l1 hM, ts_LM.o2 hM, ts_LM.k2 hM, ts_LM.l2 hM, ts_LM.o3 hM, ts_LM.k3 hM, ts_LM.l3 hM, ts_LM.o5 hM, ts_LM.k5 hM, ts_LM.l5 hM, ts_LM.o13 hM, ts_LM.k13 hM, ts_LM.l13 hM, ts_LM.o14 hM, ts_LM.k14 hM, ts_LM.l14 hM, ts_LM.o15 hM, ts_LM.k15 hM, ts_LM.l15 hM, ts_LM.o16 hM, ts_LM.k16 hM, ts_LM.l16 hM, ts_LM.o18 hM, ts_LM.k18 hM, ts_LM.l18 hM, ts_LM.o19 hM, ts_LM.k19 hM, ts_LM.l19 hM, ts_LM.o20 hM, ts_LM.k20 hM, ts_LM.l20 hM, ts_LM.o21 hM, ts_LM.k21 hM, ts_LM.l21 hM, ts_LM.o22 hM, ts_LM.k22 hM, ts_LM.l22 hM, ts_LM.o23 hM, ts_LM.k23 hM, ts_LM.l23 hM]
          rw [show (2 : Int32).toNatClampNeg = 2 from rfl, h2, ts_le (by omega) (by omega), ts_lt (by omega) (by omega), e0]
          refine ⟨trivial, by omega, trivial, ts_vin (i := 2) (by omega) (by omega), fun h => absurd h (by omega), fun _ => ⟨fun h => ?_, fun h => ?_⟩⟩
          · have e : ts_jf (A 6 0) ms t = 1000 := by unfold ts_jf; rw [if_pos h]
            rw [if_pos e] at hf
            exact ih (by omega) hf
          · refine c_isFree hM hL hb (by omega) (by omega) ?_
            have z := hfd h
            rw [ts_fd] at z
            by_cases hfe : ts_fe ms t j = true
            · rw [if_pos hfe] at z ⊢
              refine ⟨fun c => absurd c (by decide), fun _ => ?_⟩
              rw [← z, if_neg (by omega)] at hf
              -- the line is made anew from t on
              have R : ∀ n k hi', k + n = A 6 0 → t ≤ k → (∀ b, b ≠ 418 → hi' b = hi b) → (∀ s, s < 7 → hi' 418 s = ts_nN (if t ≤ s ∧ s < k then (if ms.getD s 7 < t then ms.getD s 7 else 7) else ms.getD s 7)) → ts_J0 (d + 1) mX12_marries (ts_qi Q) g 66 [(0, .ref 405), (1, .int (nI t)), (3, .int (nI j)), (4, .int (nI k))] [] hi' hk := by
                intro n
                induction n with
                | zero =>
                  intro k hi' hkn htk hO hI
                  refine wX12_marries_66 ?_
                  simp only [ts_LM.kd hM, ts_LM.o0 hM, ts_LM.k0 hM, ts_LM.l0 hM, ts_LM.o1 hM, ts_LM.k1 hM, ts_LM.l1 hM, ts_LM.o2 hM, ts_LM.k2 hM, ts_LM.l2 hM, ts_LM.o3 hM, ts_LM.k3 hM, ts_LM.l3 hM, ts_LM.o5 hM, ts_LM.k5 hM, ts_LM.l5 hM, ts_LM.o13 hM, ts_LM.k13 hM, ts_LM.l13 hM, ts_LM.o14 hM, ts_LM.k14 hM, ts_LM.l14 hM, ts_LM.o15 hM, ts_LM.k15 hM, ts_LM.l15 hM, ts_LM.o16 hM, ts_LM.k16 hM, ts_LM.l16 hM, ts_LM.o18 hM, ts_LM.k18 hM, ts_LM.l18 hM, ts_LM.o19 hM, ts_LM.k19 hM, ts_LM.l19 hM, ts_LM.o20 hM, ts_LM.k20 hM, ts_LM.l20 hM, ts_LM.o21 hM, ts_LM.k21 hM, ts_LM.l21 hM, ts_LM.o22 hM, ts_LM.k22 hM, ts_LM.l22 hM, ts_LM.o23 hM, ts_LM.k23 hM, ts_LM.l23 hM]
                  rw [show (2 : Int32).toNatClampNeg = 2 from rfl, hO 411 (by omega), h2, ts_le (by omega) (by omega), ts_cl (by omega), ts_cl (by omega)]
                  refine ⟨trivial, by omega, trivial, ts_vin (i := 2) (by omega) (by omega), fun _ => ⟨by omega, trivial, ts_vin (by omega) (by omega), fun hi9 e9 => ⟨ts_vin (by omega) (by omega), fun hi11 e11 => ?_⟩⟩, fun h => absurd (by omega) h⟩
                  rw [← hf] at q1
                  refine q1 hi11 (by unfold ts_nb; intro e; have := congrArg List.length e; simp at this) (fun s hs => ?_) (fun b hb => by rw [e11]; funext u; rw [ts_up_a hb, e9, ts_up_a hb, hO b hb])
                  unfold ts_nb
                  rw [ts_gs, ts_gs, e11]
                  simp only [List.length_set, List.length_map, List.length_range]
                  by_cases s1 : s = j
                  · subst s1
                    rw [ts_up_eq, if_pos ⟨rfl, by omega⟩]
                    unfold ts_nN
                    rw [if_neg (by omega)]
                  · rw [ts_up_s s1, if_neg (by omega), e9]
                    by_cases s2 : s = t
                    · subst s2
                      rw [ts_up_eq, if_pos ⟨rfl, by omega⟩]
                      unfold ts_nN
                      rw [if_neg (by omega)]
                    · rw [ts_up_s s2, if_neg (by omega), hI s hs]
                      congr 1
                      have eg : ((List.range 7).map (fun k => if k < t then ms.getD k 7 else if ms.getD k 7 < t then ms.getD k 7 else 7)).getD s 7 = if s < t then ms.getD s 7 else if ms.getD s 7 < t then ms.getD s 7 else 7 := by
                        simp [List.getD_eq_getElem?_getD, List.getElem?_map, List.getElem?_range hs]
                      rw [eg]
                      by_cases s3 : s < t
                      · rw [if_pos s3, if_neg (by omega)]
                      · rw [if_neg s3]
                        by_cases s4 : s < k
                        · rw [if_pos ⟨by omega, s4⟩]
                        · rw [if_neg (by omega)]
                          rcases hv.2 s hs with y | y
                          · rw [y, if_neg (by omega)]
                          · omega
                | succ n ih3 =>
                  intro k hi' hkn htk hO hI
                  refine wX12_marries_66 ?_
                  simp only [ts_LM.kd hM, ts_LM.o0 hM, ts_LM.k0 hM, ts_LM.l0 hM, ts_LM.o1 hM, ts_LM.k1 hM, ts_LM.l1 hM, ts_LM.o2 hM, ts_LM.k2 hM, ts_LM.l2 hM, ts_LM.o3 hM, ts_LM.k3 hM, ts_LM.l3 hM, ts_LM.o5 hM, ts_LM.k5 hM, ts_LM.l5 hM, ts_LM.o13 hM, ts_LM.k13 hM, ts_LM.l13 hM, ts_LM.o14 hM, ts_LM.k14 hM, ts_LM.l14 hM, ts_LM.o15 hM, ts_LM.k15 hM, ts_LM.l15 hM, ts_LM.o16 hM, ts_LM.k16 hM, ts_LM.l16 hM, ts_LM.o18 hM, ts_LM.k18 hM, ts_LM.l18 hM, ts_LM.o19 hM, ts_LM.k19 hM, ts_LM.l19 hM, ts_LM.o20 hM, ts_LM.k20 hM, ts_LM.l20 hM, ts_LM.o21 hM, ts_LM.k21 hM, ts_LM.l21 hM, ts_LM.o22 hM, ts_LM.k22 hM, ts_LM.l22 hM, ts_LM.o23 hM, ts_LM.k23 hM, ts_LM.l23 hM]
                  have hIk := hI k (by omega)
                  rw [if_neg (by omega)] at hIk
                  have hbk := hb k
                  rw [show (2 : Int32).toNatClampNeg = 2 from rfl, hO 411 (by omega), h2, ts_le (by omega) (by omega), ts_cl (n := k) (by omega), hIk]
                  refine ⟨trivial, by omega, trivial, ts_vin (i := 2) (by omega) (by omega), fun h => absurd h (by omega), fun _ => ⟨by omega, trivial, ts_vin (by omega) (by omega), ?_⟩⟩
                  -- whether the mate is ahead of t
                  have hin : ((0 : Int32) ≤ ts_nN (ms.getD k 7) ∧ ts_nN (ms.getD k 7) ≤ nI t - 1) ↔ ms.getD k 7 < t := by
                    unfold ts_nN
                    by_cases h7 : ms.getD k 7 = 7
                    · rw [if_pos h7, h7]
                      constructor
                      · intro c
                        exact absurd c.1 (by decide)
                      · intro c
                        omega
                    · rw [if_neg h7, ts_l0, ts_le (by omega) (by omega)]
                      by_cases t0 : t = 0
                      · subst t0
                        have : ¬ nI (ms.getD k 7) ≤ nI 0 - 1 := by
                          rw [Int32.le_iff_toInt_le, nI_toInt (by omega), show (nI 0 - 1).toInt = -1 from by decide]
                          omega
                        constructor
                        · intro c; exact absurd c.2 this
                        · intro c; omega
                      · rw [ts_l1, ts_sub' (by omega), ts_le (by omega) (by omega)]
                        omega
                  have put : ∀ (v : Nat) (hi19 : ts_I), v = (if ms.getD k 7 < t then ms.getD k 7 else 7) → hi19 = ts_up hi' 418 k (ts_nN v) → ts_J0 (d + 1) mX12_marries (ts_qi Q) g 66 [(0, .ref 405), (1, .int (nI t)), (3, .int (nI j)), (4, .int (nI k + 1))] [] hi19 hk := by
                    intro v hi19 ev e19
                    rw [ts_l1, nI_add]
                    refine ih3 (k + 1) hi19 (by omega) (by omega) (fun b hb => by rw [e19]; funext u; rw [ts_up_a hb, hO b hb]) (fun s hs => ?_)
                    rw [e19]
                    by_cases s1 : s = k
                    · subst s1
                      rw [ts_up_eq, if_pos ⟨by omega, by omega⟩, ev]
                    · rw [ts_up_s s1, hI s hs]
                      have es : (t ≤ s ∧ s < k) ↔ (t ≤ s ∧ s < k + 1) := by omega
                      simp only [es]
                  refine c_inq (fun c => ⟨fun h => absurd h (by decide), fun _ hi20 e20 => put (ms.getD k 7) hi20 (by rw [if_pos (hin.mp c)]) (by rw [e20, hIk])⟩) (fun c => ⟨fun _ hi19 e19 => put 7 hi19 (by rw [if_neg (fun h => c (hin.mpr h))]) (by rw [e19]; rfl), fun h => absurd rfl h⟩)
              exact R (A 6 0 - t) t hi (by omega) (by omega) (fun _ _ => rfl) (fun s hs => by rw [if_neg (by omega)]; exact hL s hs)
            · rw [if_neg hfe] at z ⊢
              refine ⟨fun _ => ?_, fun h => absurd rfl h⟩
              rw [ts_l1, nI_add]
              exact ih2 (j + 1) (by omega) (by omega) hf7 (fun _ => z)
      have z0 : ts_f0 ms t ≤ 7 := by unfold ts_f0; split <;> omega
      have zc : ts_f0 ms t < A 6 0 := by
        unfold ts_f0
        by_cases h7 : ms.getD t 7 = 7
        · rw [if_pos h7]; omega
        · rw [if_neg h7]
          rcases hv.2 t (by omega) with y | y <;> omega
      have zS := S (A 6 0 - (ts_f0 ms t + 1)) (ts_f0 ms t + 1) (by omega) (by omega) z0 (fun h => by unfold ts_jf; rw [if_neg h])
      refine ⟨fun h => absurd h (by omega), fun _ => ⟨trivial, by omega, trivial, ts_vin (by omega) (by omega), fun c => ?_, fun c => ?_⟩⟩
      · rw [Ne, ts_nNeq (by omega)] at c
        have e2 : ts_nN (ms.getD t 7) = nI (ts_f0 ms t) := by unfold ts_nN ts_f0; rw [if_neg c, if_neg c]
        rw [e2, ts_l1, nI_add]
        exact zS
      · have c2 := Decidable.not_not.mp c
        rw [ts_nNeq (by omega)] at c2
        have e2 : ts_f0 ms t = t := by unfold ts_f0; rw [if_pos c2]
        rw [e2] at zS
        rw [ts_l1, nI_add]
        exact zS
  simp only [ts_LM.kd hM, ts_LM.o0 hM, ts_LM.k0 hM, ts_LM.l0 hM, ts_LM.o1 hM, ts_LM.k1 hM, ts_LM.l1 hM, ts_LM.o2 hM, ts_LM.k2 hM, ts_LM.l2 hM, ts_LM.o3 hM, ts_LM.k3 hM, ts_LM.l3 hM, ts_LM.o5 hM, ts_LM.k5 hM, ts_LM.l5 hM, ts_LM.o13 hM, ts_LM.k13 hM, ts_LM.l13 hM, ts_LM.o14 hM, ts_LM.k14 hM, ts_LM.l14 hM, ts_LM.o15 hM, ts_LM.k15 hM, ts_LM.l15 hM, ts_LM.o16 hM, ts_LM.k16 hM, ts_LM.l16 hM, ts_LM.o18 hM, ts_LM.k18 hM, ts_LM.l18 hM, ts_LM.o19 hM, ts_LM.k19 hM, ts_LM.l19 hM, ts_LM.o20 hM, ts_LM.k20 hM, ts_LM.l20 hM, ts_LM.o21 hM, ts_LM.k21 hM, ts_LM.l21 hM, ts_LM.o22 hM, ts_LM.k22 hM, ts_LM.l22 hM, ts_LM.o23 hM, ts_LM.k23 hM, ts_LM.l23 hM]
  rw [show (2 : Int32).toNatClampNeg = 2 from rfl, h2]
  exact ⟨trivial, by omega, trivial, ts_vin (i := 2) (by omega) (by omega), O (A 6 0) (Nat.le_refl _) rfl⟩
