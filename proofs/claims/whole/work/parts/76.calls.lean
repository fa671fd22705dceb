/-! the law: the start, the calls -/
def ts_S0 : ts_S := ((fun _ _ => 0, [], fun _ _ _ => 0), (fun _ => 3, fun _ => 0, fun _ _ => 0), (0, 0), ([], []))
theorem ts_va0 : ts_va (fun _ _ => 0) := ⟨⟨Nat.zero_le _, Nat.zero_le _, Nat.zero_le _, Nat.zero_le _, fun t ht => absurd ht (Nat.not_lt_zero t)⟩, Nat.zero_le _, Iff.rfl⟩
theorem ts_SV0 : ts_SV ts_S0 := ⟨ts_va0, (fun A hA => by cases hA), Nat.zero_le _, fun k _ => ts_va0, fun r _ => ⟨Nat.le_refl _, Nat.zero_le _⟩, Nat.zero_le _, Nat.zero_le _, ⟨Nat.zero_le _, fun b hb => by cases hb⟩, Nat.zero_le _, fun b hb => by cases hb⟩
theorem ts_FR0 {k : Nat} {hi : ts_I} {hk : ts_K} (h : ∀ s, hi k s = 0) : ts_FR k (fun _ _ => 0) hi hk := ⟨h 9, h 10, h 11, h 12, fun t ht => absurd ht (Nat.not_lt_zero t)⟩
theorem ts_MR0 {m : Nat} {hi : ts_I} (h : ∀ s, hi m s = 0) : ts_MR m 0 (fun _ _ => 0) hi := ⟨h _, h _, h _, h _, fun t ht => absurd ht (Nat.not_lt_zero t)⟩
theorem ts_XI0 {hi : ts_I} {hk : ts_K} (h : ∀ b s, 1 ≤ b → b ≤ 404 → hi b s = tq_H b s) (hA : ts_KA hk) (h1 : ∀ j, j < 28 → ∀ t, t < 7 → hk (31 + 10 * j + 1) t = 10) (h2 : ∀ j, j < 9 → ∀ t, t < 7 → hk (315 + 10 * j + 1) t = 10) : ts_XI ts_S0 hi hk := by
  have z : ∀ b s, 1 ≤ b → b ≤ 404 → (b < 10 ∨ 14 < b) → hi b s = 0 := fun b s b1 b2 b3 => by rw [h b s b1 b2, tq_H0 b3]
  refine ⟨ts_FR0 (fun s => z 291 s (by omega) (by omega) (by omega)), ⟨0, by omega, z 1 11 (by omega) (by omega) (by omega), z 1 12 (by omega) (by omega) (by omega), fun i A hA => by cases hA⟩, fun k hk => ts_FR0 (fun s => z _ s (by omega) (by omega) (by omega)), fun r hr => ⟨?_, fun e => absurd rfl e⟩, z 1 9 (by omega) (by omega) (by omega), z 1 10 (by omega) (by omega) (by omega), ⟨z 3 1 (by omega) (by omega) (by omega), fun i b hb => by cases hb⟩, ⟨z 5 1 (by omega) (by omega) (by omega), fun i b hb => by cases hb⟩, fun q hq => ?_, hA, fun j hj t ht => ?_, fun j hj t ht => ?_⟩
  · rw [z _ _ (by omega) (by omega) (by omega)]
    exact (if_pos rfl).symm
  · rw [h _ _ (by omega) (by omega)]
    unfold tq_H
    rw [if_pos ⟨rfl, by omega, by omega⟩, show 10 + q - 9 = q + 1 by omega]
  · rw [h1 j hj t ht]
    omega
  · rw [h2 j hj t ht]
    omega
theorem ts_MI0 {hi : ts_I} (h : ∀ b s, 405 ≤ b → b ≤ 420 → b ≠ 406 → hi b s = 0) (h1 : ∀ r, r < 8 → hi 406 r = -1000000) : ts_MI ts_S0 hi := by
  refine ⟨ts_MR0 (fun s => h 411 s (by omega) (by omega) (by omega)), ⟨h 405 17 (by omega) (by omega) (by omega), Nat.zero_le _, fun i A hA => by cases hA⟩, fun k hk => ⟨?_, fun e => absurd rfl e⟩, fun r hr => ⟨?_, fun e => absurd rfl e⟩, h 405 4 (by omega) (by omega) (by omega), h 405 7 (by omega) (by omega) (by omega), ⟨h 405 6 (by omega) (by omega) (by omega), fun i b hb => by cases hb⟩, ⟨h 405 24 (by omega) (by omega) (by omega), fun i b hb => by cases hb⟩⟩
  · rw [h 416 k (by omega) (by omega) (by omega)]
    exact (if_pos rfl).symm
  · rw [h1 r hr]
    exact (if_pos rfl).symm
/-- a call of the class, the same call of the model -/
theorem ts_two {d k j mc ms : Nat} {MX MY : ts_M} {ax ay : List Value} {g : ts_G} {hi : ts_I} {hk : ts_K} {S : ts_S} {r : Int32 × ts_S} {J Z : ts_I → ts_K → Prop} (hX : ts_LX g) (hM : ts_LM g) (hk1 : k ≤ mc) (hj1 : j ≤ ms) (hS : ts_SV S) (hv : ts_SV r.2) (hY : ts_MI S hi)
    (mx : ∀ Q : Int32 → ts_I → ts_K → Prop, ts_QX r hi Q → ts_E0 d MX ax g hi hk (ts_qi Q)) (my : ∀ (hi' : ts_I) (hk' : ts_K) (Q : Int32 → ts_I → ts_K → Prop), ts_MI S hi' → ts_QM r hi' hk' Q → ts_E0 d MY ay g hi' hk' (ts_qi Q)) (next : ∀ hi' hk', ts_XI r.2 hi' hk' → ts_MI r.2 hi' → J hi' hk') :
    (g.2.1 1 = 10) ∧ (k ≤ mc) ∧ (j ≤ ms) ∧ ts_E0 d MX ax g hi hk (ts_qi (fun v hi1 hk1 => (g.2.1 405 = 11) ∧ ts_E0 d MY ay g hi1 hk1 (ts_qi (fun w hi2 hk2 => ((v = w) → J hi2 hk2) ∧ (¬ (v = w) → Z hi2 hk2))))) := by
  refine ⟨hX.s0, hk1, hj1, mx _ (fun hi1 hk1' x1 o1 => ⟨hM.kd, my _ _ _ (hY.fr hS o1) (fun hi2 y2 o2 => ⟨fun _ => next hi2 hk1' (x1.fr o2) y2, fun e => absurd rfl e⟩)⟩)⟩
theorem ts_calls {d mc ms n0 L k j : Nat} {xs : Nat → Int32} {g : ts_G} {Q : ts_Q} (hX : ts_LX g) (hM : ts_LM g) (hL : L ≤ 384) (hk1 : k ≤ mc) (hj1 : j ≤ ms) (hQ : ∀ hi hk, Q (some (.int 1)) g hi hk) :
    ∀ n i S hi hk, L ≤ i + n → i ≤ L + 6 → ts_SV S → ts_XI S hi hk → ts_MI S hi → ts_JJ (d + 26) mc ms mL_law (some (L, xs)) n0 Q k j 18 [(0, .ref 0), (1, .ref 1), (2, .ref 405), (3, .int (nI i))] [] g hi hk := by
  intro n
  induction n using Nat.strongRecOn with
  | _ n ih =>
    intro i S hi hk hin hiL hS hx hy
    have hiB : i < 2147483648 := by omega
    refine wL_law_18 ?_
    have eL : Int32.ofNat L = nI L := rfl
    have el : (((Int32.ofNat L) - 6) < nI i) = (L < i + 6) := by
      rw [eL]
      by_cases c : 6 ≤ L
      · rw [ts_l6, ts_sub' c, ts_lt (by omega) (by omega)]
        exact propext ⟨fun a => by omega, fun a => by omega⟩
      · refine propext ⟨fun _ => by omega, fun _ => ?_⟩
        have hL6 : L = 0 ∨ L = 1 ∨ L = 2 ∨ L = 3 ∨ L = 4 ∨ L = 5 := by omega
        have hi0 : (0 : Int32) ≤ nI i := by rw [ts_l0, ts_le (by omega) (hiB)]; omega
        rcases hL6 with rfl | rfl | rfl | rfl | rfl | rfl
        all_goals exact Int32.lt_of_lt_of_le (by decide) hi0
    rw [el]
    refine ⟨fun _ => ⟨hk1, hj1, hQ hi hk⟩, fun hle => ?_⟩
    have v0 : vp_in (nI i) L := ts_vin (by omega) (by omega)
    have v1 : vp_in (nI i + 1) L := by rw [ts_l1, nI_add]; exact ts_vin (by omega) (by omega)
    have v2 : vp_in (nI i + 2) L := by rw [ts_l2, nI_add]; exact ts_vin (by omega) (by omega)
    have v3 : vp_in (nI i + 3) L := by rw [ts_l3, nI_add]; exact ts_vin (by omega) (by omega)
    have v4 : vp_in (nI i + 4) L := by rw [ts_l4, nI_add]; exact ts_vin (by omega) (by omega)
    have v5 : vp_in (nI i + 5) L := by rw [ts_l5, nI_add]; exact ts_vin (by omega) (by omega)
    have e6 : nI i + 6 = nI (i + 6) := by rw [ts_l6, nI_add]
    have next : ∀ S' hi' hk', ts_SV S' → ts_XI S' hi' hk' → ts_MI S' hi' → ts_JJ (d + 26) mc ms mL_law (some (L, xs)) n0 Q k j 18 [(0, .ref 0), (1, .ref 1), (2, .ref 405), (3, .int (nI i + 6))] [] g hi' hk' := fun S' hi' hk' hS' hx' hy' => by
      rw [e6]
      by_cases c : 6 ≤ n
      · exact ih (n - 6) (by omega) (i + 6) S' hi' hk' (by omega) (by omega) hS' hx' hy'
      · exact ih 0 (by omega) (i + 6) S' hi' hk' (by omega) (by omega) hS' hx' hy'
    refine ⟨v0, fun _ => ?_, fun _ => ?_, fun _ => ?_, fun _ => ?_, fun _ => ?_, fun _ => ?_, fun _ => ?_, fun _ => ?_, fun _ => ?_, fun _ => ?_, fun _ => ?_, fun _ => ?_, fun _ => ?_, fun _ => ?_, fun _ => ?_, fun _ => ?_, fun _ => ?_, fun _ => ?_, fun _ => ?_, fun _ => ?_, fun _ => ?_, fun _ => ?_, fun _ => ?_, fun _ => ?_, fun _ => ?_, fun _ => ?_, fun _ => ?_, fun _ => ?_, fun _ => ?_, fun _ => ?_, fun _ => ?_, fun _ => ?_, fun _ => ?_, fun _ => ?_, fun _ _ _ _ _ _ _ _ _ _ _ _ _ _ _ _ _ _ _ _ _ _ _ _ _ _ _ _ _ _ _ _ _ _ => ?_⟩
    · refine ⟨v1, v2, v3, ?_⟩
      exact ts_two hX hM hk1 hj1 hS (v_row hS) hy (fun Q q => x_row hX hS hx q) (fun hi1 hk1 Q h1 q => y_row hM hS h1 q) (fun hi1 hk1 h1 h2 => next _ _ _ (v_row hS) h1 h2)
    · refine ⟨v1, v2, v3, ?_⟩
      exact ts_two hX hM hk1 hj1 hS (v_set hS) hy (fun Q q => x_set hX hS hx q) (fun hi1 hk1 Q h1 q => y_set hM hS h1 q) (fun hi1 hk1 h1 h2 => next _ _ _ (v_set hS) h1 h2)
    · refine ⟨v1, v2, v3, v4, v5, ?_⟩
      exact ts_two hX hM hk1 hj1 hS (v_copy hS) hy (fun Q q => x_copy hX hS hx q) (fun hi1 hk1 Q h1 q => y_copy hM hS h1 q) (fun hi1 hk1 h1 h2 => next _ _ _ (v_copy hS) h1 h2)
    · refine ⟨v1, ?_⟩
      exact ts_two hX hM hk1 hj1 hS (v_drop hS) hy (fun Q q => x_drop hX hS hx q) (fun hi1 hk1 Q h1 q => y_drop hM hS h1 q) (fun hi1 hk1 h1 h2 => next _ _ _ (v_drop hS) h1 h2)
    · refine ⟨v1, ?_⟩
      exact ts_two hX hM hk1 hj1 hS (v_feed hS) hy (fun Q q => x_feed hX hS hx q) (fun hi1 hk1 Q h1 q => y_feed hM hS h1 q) (fun hi1 hk1 h1 h2 => next _ _ _ (v_feed hS) h1 h2)
    · exact ts_two hX hM hk1 hj1 hS (v_field hS) hy (fun Q q => x_field hX hS hx q) (fun hi1 hk1 Q h1 q => y_field hM hS h1 q) (fun hi1 hk1 h1 h2 => next _ _ _ (v_field hS) h1 h2)
    · exact ts_two hX hM hk1 hj1 hS hS hy (fun Q q => x_fault hX hS hx q) (fun hi1 hk1 Q h1 q => y_fault hM hS h1 q) (fun hi1 hk1 h1 h2 => next _ _ _ hS h1 h2)
    · refine ⟨v1, ?_⟩
      exact ts_two hX hM hk1 hj1 hS (v_years hS) hy (fun Q q => x_years hX hS hx q) (fun hi1 hk1 Q h1 q => y_years hM hS h1 q) (fun hi1 hk1 h1 h2 => next _ _ _ (v_years hS) h1 h2)
    · refine ⟨v1, v2, ?_⟩
      exact ts_two hX hM hk1 hj1 hS (v_marry hS) hy (fun Q q => x_marry hX hS hx q) (fun hi1 hk1 Q h1 q => y_marry hM hS h1 q) (fun hi1 hk1 h1 h2 => next _ _ _ (v_marry hS) h1 h2)
    · refine ⟨v1, ?_⟩
      exact ts_two hX hM hk1 hj1 hS (v_part hS) hy (fun Q q => x_part hX hS hx q) (fun hi1 hk1 Q h1 q => y_part hM hS h1 q) (fun hi1 hk1 h1 h2 => next _ _ _ (v_part hS) h1 h2)
    · refine ⟨v1, v2, ?_⟩
      exact ts_two hX hM hk1 hj1 hS (v_swap hS) hy (fun Q q => x_swap hX hS hx q) (fun hi1 hk1 Q h1 q => y_swap hM hS h1 q) (fun hi1 hk1 h1 h2 => next _ _ _ (v_swap hS) h1 h2)
    · refine ⟨v1, ?_⟩
      exact ts_two hX hM hk1 hj1 hS (v_lean hS) hy (fun Q q => x_lean hX hS hx q) (fun hi1 hk1 Q h1 q => y_lean hM hS h1 q) (fun hi1 hk1 h1 h2 => next _ _ _ (v_lean hS) h1 h2)
    · refine ⟨v1, ?_⟩
      exact ts_two hX hM hk1 hj1 hS (v_ground hS) hy (fun Q q => x_ground hX hS hx q) (fun hi1 hk1 Q h1 q => y_ground hM hS h1 q) (fun hi1 hk1 h1 h2 => next _ _ _ (v_ground hS) h1 h2)
    · exact ts_two hX hM hk1 hj1 hS (v_undo hS) hy (fun Q q => x_undo hX hS hx q) (fun hi1 hk1 Q h1 q => y_undo hM hS h1 q) (fun hi1 hk1 h1 h2 => next _ _ _ (v_undo hS) h1 h2)
    · refine ⟨v1, v2, ?_⟩
      exact ts_two hX hM hk1 hj1 hS hS hy (fun Q q => x_turnip hX hS hx q) (fun hi1 hk1 Q h1 q => y_turnip hM hS h1 q) (fun hi1 hk1 h1 h2 => next _ _ _ hS h1 h2)
    · refine ⟨v1, ?_⟩
      exact ts_two hX hM hk1 hj1 hS hS hy (fun Q q => x_place hX hS hx q) (fun hi1 hk1 Q h1 q => y_place hM hS h1 q) (fun hi1 hk1 h1 h2 => next _ _ _ hS h1 h2)
    · refine ⟨v1, v2, v3, ?_⟩
      exact ts_two hX hM hk1 hj1 hS hS hy (fun Q q => x_ahead hX hS hx q) (fun hi1 hk1 Q h1 q => y_ahead hM hS h1 q) (fun hi1 hk1 h1 h2 => next _ _ _ hS h1 h2)
    · refine ⟨v1, v2, ?_⟩
      exact ts_two hX hM hk1 hj1 hS hS hy (fun Q q => x_risen hX hS hx q) (fun hi1 hk1 Q h1 q => y_risen hM hS h1 q) (fun hi1 hk1 h1 h2 => next _ _ _ hS h1 h2)
    · refine ⟨v1, ?_⟩
      exact ts_two hX hM hk1 hj1 hS hS hy (fun Q q => x_squire hX hS hx q) (fun hi1 hk1 Q h1 q => y_squire hM hS h1 q) (fun hi1 hk1 h1 h2 => next _ _ _ hS h1 h2)
    · refine ⟨v1, v2, ?_⟩
      exact ts_two hX hM hk1 hj1 hS hS hy (fun Q q => x_pairs hX hS hx q) (fun hi1 hk1 Q h1 q => y_pairs hM hS h1 q) (fun hi1 hk1 h1 h2 => next _ _ _ hS h1 h2)
    · refine ⟨v1, v2, ?_⟩
      exact ts_two hX hM hk1 hj1 hS hS hy (fun Q q => x_change hX hS hx q) (fun hi1 hk1 Q h1 q => y_change hM hS h1 q) (fun hi1 hk1 h1 h2 => next _ _ _ hS h1 h2)
    · refine ⟨v1, ?_⟩
      exact ts_two hX hM hk1 hj1 hS hS hy (fun Q q => x_power hX hS hx q) (fun hi1 hk1 Q h1 q => y_power hM hS h1 q) (fun hi1 hk1 h1 h2 => next _ _ _ hS h1 h2)
    · refine ⟨v1, ?_⟩
      exact ts_two hX hM hk1 hj1 hS hS hy (fun Q q => x_blocs hX hS hx q) (fun hi1 hk1 Q h1 q => y_blocs hM hS h1 q) (fun hi1 hk1 h1 h2 => next _ _ _ hS h1 h2)
    · refine ⟨v1, v2, v3, v4, v5, ?_⟩
      exact ts_two hX hM hk1 hj1 hS (v_fits hS) hy (fun Q q => x_fits hX hS hx q) (fun hi1 hk1 Q h1 q => y_fits hM hS h1 q) (fun hi1 hk1 h1 h2 => next _ _ _ (v_fits hS) h1 h2)
    · refine ⟨v1, v2, v3, v4, v5, ?_⟩
      exact ts_two hX hM hk1 hj1 hS hS hy (fun Q q => x_chance hX hS hx q) (fun hi1 hk1 Q h1 q => y_chance hM hS h1 q) (fun hi1 hk1 h1 h2 => next _ _ _ hS h1 h2)
    · refine ⟨v1, v2, v3, ?_⟩
      exact ts_two hX hM hk1 hj1 hS hS hy (fun Q q => x_drawn hX hS hx q) (fun hi1 hk1 Q h1 q => y_drawn hM hS h1 q) (fun hi1 hk1 h1 h2 => next _ _ _ hS h1 h2)
    · refine ⟨v1, ?_⟩
      exact ts_two hX hM hk1 hj1 hS (v_image hS) hy (fun Q q => x_image hX hS hx q) (fun hi1 hk1 Q h1 q => y_image hM hS h1 q) (fun hi1 hk1 h1 h2 => next _ _ _ (v_image hS) h1 h2)
    · refine ⟨v1, ?_⟩
      exact ts_two hX hM hk1 hj1 hS (v_restore hS) hy (fun Q q => x_restore hX hS hx q) (fun hi1 hk1 Q h1 q => y_restore hM hS h1 q) (fun hi1 hk1 h1 h2 => next _ _ _ (v_restore hS) h1 h2)
    · refine ⟨v1, ?_⟩
      exact ts_two hX hM hk1 hj1 hS hS hy (fun Q q => x_kind hX hS hx q) (fun hi1 hk1 Q h1 q => y_kind hM hS h1 q) (fun hi1 hk1 h1 h2 => next _ _ _ hS h1 h2)
    · refine ⟨v1, v2, ?_⟩
      exact ts_two hX hM hk1 hj1 hS (v_as hS) hy (fun Q q => x_as hX hS hx q) (fun hi1 hk1 Q h1 q => y_as hM hS h1 q) (fun hi1 hk1 h1 h2 => next _ _ _ (v_as hS) h1 h2)
    · refine ⟨v1, v2, ?_⟩
      exact ts_two hX hM hk1 hj1 hS (v_ask hS) hy (fun Q q => x_ask hX hS hx q) (fun hi1 hk1 Q h1 q => y_ask hM hS h1 q) (fun hi1 hk1 h1 h2 => next _ _ _ (v_ask hS) h1 h2)
    · refine ⟨v1, ?_⟩
      exact ts_two hX hM hk1 hj1 hS hS hy (fun Q q => x_trace hX hS hx q) (fun hi1 hk1 Q h1 q => y_trace hM hS h1 q) (fun hi1 hk1 h1 h2 => next _ _ _ hS h1 h2)
    · refine ⟨v1, ?_⟩
      exact ts_two hX hM hk1 hj1 hS hS hy (fun Q q => x_count hX hS hx q) (fun hi1 hk1 Q h1 q => y_count hM hS h1 q) (fun hi1 hk1 h1 h2 => next _ _ _ hS h1 h2)
    · exact ts_two hX hM hk1 hj1 hS hS hy (fun Q q => x_status hX hS hx q) (fun hi1 hk1 Q h1 q => y_status hM hS h1 q) (fun hi1 hk1 h1 h2 => next _ _ _ hS h1 h2)
    · exact next S hi hk hS hx hy
