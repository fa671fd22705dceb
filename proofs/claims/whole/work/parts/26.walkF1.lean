set_option maxHeartbeats 4000000 in
theorem wX12_in_0 {d : Nat} {g : ts_G} {Q : Int32 → ts_I → ts_K → Prop} {p0 : Int32} {p1 : Int32} {p2 : Int32} {hi : ts_I} {hk : ts_K} (W : ((p0 < p1) → Q 0 hi hk) ∧ (¬ (p0 < p1) → ((p2 < p0) → Q 0 hi hk) ∧ (¬ (p2 < p0) → Q 1 hi hk))) : ts_J0 d mX12_in (ts_qi Q) g 0 [(0, .int p0), (1, .int p1), (2, .int p2)] [] hi hk := by
  refine ts_iload_n 0 (pc' := 1) rfl dX12_in_0 rfl rfl ?_
  refine ts_iload_n 1 (pc' := 2) rfl dX12_in_1 rfl rfl ?_
  refine ts_icmp_lt (pc' := 5) (tgt := 14) rfl dX12_in_2 (by decide) (fun q1 => ?_) (fun q1 => ?_)
  · replace W := W.1 q1
    refine ts_iconst (v := 0) (pc' := 15) rfl dX12_in_14 (by decide) ?_
    exact ts_zret dX12_in_15 rfl (by decide) (Nat.le_refl _) (Nat.le_refl _) ⟨rfl, _, rfl, W⟩
  · replace W := W.2 q1
    refine ts_iload_n 0 (pc' := 6) rfl dX12_in_5 rfl rfl ?_
    refine ts_iload_n 2 (pc' := 7) rfl dX12_in_6 rfl rfl ?_
    refine ts_icmp_gt (pc' := 10) (tgt := 14) rfl dX12_in_7 (by decide) (fun q2 => ?_) (fun q2 => ?_)
    · replace W := W.1 q2
      refine ts_iconst (v := 0) (pc' := 15) rfl dX12_in_14 (by decide) ?_
      exact ts_zret dX12_in_15 rfl (by decide) (Nat.le_refl _) (Nat.le_refl _) ⟨rfl, _, rfl, W⟩
    · replace W := W.2 q2
      refine ts_iconst (v := 1) (pc' := 11) rfl dX12_in_10 (by decide) ?_
      refine ts_goto (tgt := 15) dX12_in_11 (by decide) ?_
      exact ts_zret dX12_in_15 rfl (by decide) (Nat.le_refl _) (Nat.le_refl _) ⟨rfl, _, rfl, W⟩
set_option maxHeartbeats 4000000 in
theorem wX12_has_0 {d : Nat} {g : ts_G} {Q : Int32 → ts_I → ts_K → Prop} {p0 : Int32} {p1 : Int32} {hi : ts_I} {hk : ts_K} (W : ((((p0 >>> (p1 &&& 31)) &&& 1) ≠ 1) → Q 0 hi hk) ∧ (¬ (((p0 >>> (p1 &&& 31)) &&& 1) ≠ 1) → Q 1 hi hk)) : ts_J0 d mX12_has (ts_qi Q) g 0 [(0, .int p0), (1, .int p1)] [] hi hk := by
  refine ts_iload_n 0 (pc' := 1) rfl dX12_has_0 rfl rfl ?_
  refine ts_iload_n 1 (pc' := 2) rfl dX12_has_1 rfl rfl ?_
  refine ts_ishr (pc' := 3) rfl dX12_has_2 ?_
  refine ts_iconst (v := 1) (pc' := 4) rfl dX12_has_3 (by decide) ?_
  refine ts_iand (pc' := 5) rfl dX12_has_4 ?_
  refine ts_iconst (v := 1) (pc' := 6) rfl dX12_has_5 (by decide) ?_
  refine ts_icmp_ne (pc' := 9) (tgt := 13) rfl dX12_has_6 (by decide) (fun q1 => ?_) (fun q1 => ?_)
  · replace W := W.1 q1
    refine ts_iconst (v := 0) (pc' := 14) rfl dX12_has_13 (by decide) ?_
    exact ts_zret dX12_has_14 rfl (by decide) (Nat.le_refl _) (Nat.le_refl _) ⟨rfl, _, rfl, W⟩
  · replace W := W.2 q1
    refine ts_iconst (v := 1) (pc' := 10) rfl dX12_has_9 (by decide) ?_
    refine ts_goto (tgt := 14) dX12_has_10 (by decide) ?_
    exact ts_zret dX12_has_14 rfl (by decide) (Nat.le_refl _) (Nat.le_refl _) ⟨rfl, _, rfl, W⟩
set_option maxHeartbeats 4000000 in
theorem wX12_ones_0 {d : Nat} {g : ts_G} {Q : Int32 → ts_I → ts_K → Prop} {p0 : Int32} {hi : ts_I} {hk : ts_K} (W : ts_J0 d mX12_ones (ts_qi Q) g 4 [(0, .int p0), (1, .int 0), (2, .int 0)] [] hi hk) : ts_J0 d mX12_ones (ts_qi Q) g 0 [(0, .int p0)] [] hi hk := by
  refine ts_iconst (v := 0) (pc' := 1) rfl dX12_ones_0 (by decide) ?_
  refine ts_istore_n (pc' := 2) (ls' := [(1, .int 0), (0, .int p0)]) rfl dX12_ones_1 rfl (Nat.le_of_ble_eq_true rfl) rfl ?_
  refine ts_iconst (v := 0) (pc' := 3) rfl dX12_ones_2 (by decide) ?_
  refine ts_istore_n (pc' := 4) (ls' := [(2, .int 0), (1, .int 0), (0, .int p0)]) rfl dX12_ones_3 rfl (Nat.le_of_ble_eq_true rfl) rfl ?_
  exact ts_sub [2, 1, 0] rfl W
set_option maxHeartbeats 4000000 in
theorem wX12_ones_4 {d : Nat} {g : ts_G} {Q : Int32 → ts_I → ts_K → Prop} {l0 : Int32} {l1 : Int32} {l2 : Int32} {hi : ts_I} {hk : ts_K} (W : ((7 ≤ l2) → Q l1 hi hk) ∧ (¬ (7 ≤ l2) → ts_J0 d mX12_ones (ts_qi Q) g 4 [(0, .int l0), (1, .int (l1 + ((l0 >>> (l2 &&& 31)) &&& 1))), (2, .int (l2 + 1))] [] hi hk)) : ts_J0 d mX12_ones (ts_qi Q) g 4 [(0, .int l0), (1, .int l1), (2, .int l2)] [] hi hk := by
  refine ts_iload_n 2 (pc' := 5) rfl dX12_ones_4 rfl rfl ?_
  refine ts_bipush (v := 7) (pc' := 7) rfl dX12_ones_5 (by decide) ?_
  refine ts_icmp_ge (pc' := 10) (tgt := 24) rfl dX12_ones_7 (by decide) (fun q1 => ?_) (fun q1 => ?_)
  · replace W := W.1 q1
    refine ts_iload_n 1 (pc' := 25) rfl dX12_ones_24 rfl rfl ?_
    exact ts_iret dX12_ones_25 rfl (Nat.le_refl _) (Nat.le_refl _) ⟨rfl, _, rfl, W⟩
  · replace W := W.2 q1
    refine ts_iload_n 1 (pc' := 11) rfl dX12_ones_10 rfl rfl ?_
    refine ts_iload_n 0 (pc' := 12) rfl dX12_ones_11 rfl rfl ?_
    refine ts_iload_n 2 (pc' := 13) rfl dX12_ones_12 rfl rfl ?_
    refine ts_ishr (pc' := 14) rfl dX12_ones_13 ?_
    refine ts_iconst (v := 1) (pc' := 15) rfl dX12_ones_14 (by decide) ?_
    refine ts_iand (pc' := 16) rfl dX12_ones_15 ?_
    refine ts_iadd (pc' := 17) rfl dX12_ones_16 ?_
    refine ts_istore_n (pc' := 18) (ls' := [(1, .int (l1 + ((l0 >>> (l2 &&& 31)) &&& 1))), (0, .int l0), (2, .int l2)]) rfl dX12_ones_17 rfl (Nat.le_of_ble_eq_true rfl) rfl ?_
    refine ts_iinc 2 (pc' := 21) (ls' := [(2, .int (l2 + 1)), (1, .int (l1 + ((l0 >>> (l2 &&& 31)) &&& 1))), (0, .int l0)]) rfl dX12_ones_18 rfl rfl (Nat.le_of_ble_eq_true rfl) rfl ?_
    refine ts_goto (tgt := 4) dX12_ones_21 (by decide) ?_
    exact ts_sub [2, 1, 0] rfl W
theorem hnX12_found_X12 : ∀ w ∈ u_ws RX12 TX12 25, w ∈ wsX12_found := by decide +kernel
theorem flX12_found_57 : Cond.fieldLink RX12 57 "TurnipSquiresModel" "status" "I" ∈ wsX12_found := by decide +kernel
set_option maxHeartbeats 4000000 in
theorem wX12_found_0 {d : Nat} {g : ts_G} {Q : Int32 → ts_I → ts_K → Prop} {o : Nat} {p0 : Int32} {hi : ts_I} {hk : ts_K} (W : (g.2.1 o = 11) ∧ ∀ hi2 : ts_I, hi2 = ts_up hi o 4 p0 → Q ((-1000010) - p0) hi2 hk) : ts_J0 d mX12_found (ts_qi Q) g 0 [(0, .ref o), (1, .int p0)] [] hi hk := by
  refine ts_aload_n 0 (pc' := 1) rfl dX12_found_0 rfl rfl ?_
  refine ts_iload_n 1 (pc' := 2) rfl dX12_found_1 rfl rfl ?_
  obtain ⟨c1, W⟩ := W
  refine ts_putI (pc' := 5) (ci := 11) 4 cfX12.1 cfX12.2.1 cfX12.2.2 rfl (by decide) hnX12_found_X12 flX12_found_57 tyX12_ok nmX12 rfl rfl rfl dX12_found_2 c1 ?_
  obtain ⟨hi2, ehi2⟩ : ∃ z, z = ts_up hi o 4 p0 := ⟨_, rfl⟩
  rw [← ehi2]; replace W := W hi2 ehi2
  refine ts_ldc (v := (-1000010)) (pc' := 7) rfl dX12_found_5 (by decide +kernel) ?_
  refine ts_iload_n 1 (pc' := 8) rfl dX12_found_7 rfl rfl ?_
  refine ts_isub (pc' := 9) rfl dX12_found_8 ?_
  exact ts_iret dX12_found_9 rfl (Nat.le_refl _) (Nat.le_refl _) ⟨rfl, _, rfl, W⟩
theorem hnX12_well_X12 : ∀ w ∈ u_ws RX12 TX12 25, w ∈ wsX12_well := by decide +kernel
theorem flX12_well_57 : Cond.fieldLink RX12 57 "TurnipSquiresModel" "status" "I" ∈ wsX12_well := by decide +kernel
set_option maxHeartbeats 4000000 in
theorem wX12_well_0 {d : Nat} {g : ts_G} {Q : Int32 → ts_I → ts_K → Prop} {o : Nat} {p0 : Int32} {hi : ts_I} {hk : ts_K} (W : (g.2.1 o = 11) ∧ ∀ hi2 : ts_I, hi2 = ts_up hi o 4 0 → Q p0 hi2 hk) : ts_J0 d mX12_well (ts_qi Q) g 0 [(0, .ref o), (1, .int p0)] [] hi hk := by
  refine ts_aload_n 0 (pc' := 1) rfl dX12_well_0 rfl rfl ?_
  refine ts_iconst (v := 0) (pc' := 2) rfl dX12_well_1 (by decide) ?_
  obtain ⟨c1, W⟩ := W
  refine ts_putI (pc' := 5) (ci := 11) 4 cfX12.1 cfX12.2.1 cfX12.2.2 rfl (by decide) hnX12_well_X12 flX12_well_57 tyX12_ok nmX12 rfl rfl rfl dX12_well_2 c1 ?_
  obtain ⟨hi2, ehi2⟩ : ∃ z, z = ts_up hi o 4 0 := ⟨_, rfl⟩
  rw [← ehi2]; replace W := W hi2 ehi2
  refine ts_iload_n 1 (pc' := 6) rfl dX12_well_5 rfl rfl ?_
  exact ts_iret dX12_well_6 rfl (Nat.le_refl _) (Nat.le_refl _) ⟨rfl, _, rfl, W⟩
set_option maxHeartbeats 4000000 in
theorem wX12_copies_0 {d : Nat} {g : ts_G} {Q : ts_I → ts_K → Prop} {p0 : Nat} {p1 : Int32} {p2 : Nat} {p3 : Int32} {hi : ts_I} {hk : ts_K} (W : ts_J0 d mX12_copies (ts_qv Q) g 3 [(0, .ref p0), (1, .int p1), (2, .ref p2), (3, .int p3), (4, .int 0)] [] hi hk) : ts_J0 d mX12_copies (ts_qv Q) g 0 [(0, .ref p0), (1, .int p1), (2, .ref p2), (3, .int p3)] [] hi hk := by
  refine ts_iconst (v := 0) (pc' := 1) rfl dX12_copies_0 (by decide) ?_
  refine ts_istore (pc' := 3) (ls' := [(4, .int 0), (0, .ref p0), (1, .int p1), (2, .ref p2), (3, .int p3)]) rfl dX12_copies_1 (Nat.le_of_ble_eq_true rfl) rfl ?_
  exact ts_sub [1, 2, 3, 4, 0] rfl W
set_option maxHeartbeats 4000000 in
theorem wX12_copies_3 {d : Nat} {g : ts_G} {Q : ts_I → ts_K → Prop} {l0 : Nat} {l1 : Int32} {l2 : Nat} {l3 : Int32} {l4 : Int32} {hi : ts_I} {hk : ts_K} (W : ((46 ≤ l4) → Q hi hk) ∧ (¬ (46 ≤ l4) → (g.2.1 l0 = 100) ∧ (vp_in (l1 + l4) (g.2.2.1 l0)) ∧ (g.2.1 l2 = 100) ∧ (vp_in (l3 + l4) (g.2.2.1 l2)) ∧ ∀ hi6 : ts_I, hi6 = ts_up hi l2 (l3 + l4).toNatClampNeg (hi l0 (l1 + l4).toNatClampNeg) → ts_J0 d mX12_copies (ts_qv Q) g 3 [(0, .ref l0), (1, .int l1), (2, .ref l2), (3, .int l3), (4, .int (l4 + 1))] [] hi6 hk)) : ts_J0 d mX12_copies (ts_qv Q) g 3 [(0, .ref l0), (1, .int l1), (2, .ref l2), (3, .int l3), (4, .int l4)] [] hi hk := by
  refine ts_iload 4 (pc' := 5) rfl dX12_copies_3 rfl ?_
  refine ts_bipush (v := 46) (pc' := 7) rfl dX12_copies_5 (by decide) ?_
  refine ts_icmp_ge (pc' := 10) (tgt := 28) rfl dX12_copies_7 (by decide) (fun q1 => ?_) (fun q1 => ?_)
  · replace W := W.1 q1
    exact ts_vret dX12_copies_28 rfl (Nat.le_refl _) (Nat.le_refl _) ⟨rfl, rfl, W⟩
  · replace W := W.2 q1
    refine ts_aload_n 2 (pc' := 11) rfl dX12_copies_10 rfl rfl ?_
    refine ts_iload_n 3 (pc' := 12) rfl dX12_copies_11 rfl rfl ?_
    refine ts_iload 4 (pc' := 14) rfl dX12_copies_12 rfl ?_
    refine ts_iadd (pc' := 15) rfl dX12_copies_14 ?_
    refine ts_aload_n 0 (pc' := 16) rfl dX12_copies_15 rfl rfl ?_
    refine ts_iload_n 1 (pc' := 17) rfl dX12_copies_16 rfl rfl ?_
    refine ts_iload 4 (pc' := 19) rfl dX12_copies_17 rfl ?_
    refine ts_iadd (pc' := 20) rfl dX12_copies_19 ?_
    obtain ⟨c2, W⟩ := W
    obtain ⟨c3, W⟩ := W
    refine ts_iaload (pc' := 21) rfl dX12_copies_20 c2 c3 ?_
    obtain ⟨c4, W⟩ := W
    obtain ⟨c5, W⟩ := W
    refine ts_iastore (pc' := 22) rfl dX12_copies_21 c4 c5 ?_
    obtain ⟨hi6, ehi6⟩ : ∃ z, z = ts_up hi l2 (l3 + l4).toNatClampNeg (hi l0 (l1 + l4).toNatClampNeg) := ⟨_, rfl⟩
    rw [← ehi6]; replace W := W hi6 ehi6
    refine ts_iinc 4 (pc' := 25) (ls' := [(4, .int (l4 + 1)), (0, .ref l0), (1, .int l1), (2, .ref l2), (3, .int l3)]) rfl dX12_copies_22 rfl rfl (Nat.le_of_ble_eq_true rfl) rfl ?_
    refine ts_goto (tgt := 3) dX12_copies_25 (by decide) ?_
    exact ts_sub [1, 2, 3, 4, 0] rfl W
set_option maxHeartbeats 4000000 in
theorem wX12_isRow_0 {d : Nat} {g : ts_G} {Q : Int32 → ts_I → ts_K → Prop} {p0 : Int32} {hi : ts_I} {hk : ts_K} (W : ts_E0 d mX12_in [.int p0, .int 0, .int 7] g hi hk (ts_qi (fun v3 hi1 hk2 => (v3 = 0 ∨ v3 = 1) ∧ Q v3 hi1 hk2))) : ts_J0 (d + 1) mX12_isRow (ts_qi Q) g 0 [(0, .int p0)] [] hi hk := by
  refine ts_iload_n 0 (pc' := 1) rfl dX12_isRow_0 rfl rfl ?_
  refine ts_iconst (v := 0) (pc' := 2) rfl dX12_isRow_1 (by decide) ?_
  refine ts_bipush (v := 7) (pc' := 4) rfl dX12_isRow_2 (by decide) ?_
  refine ts_callS (M' := mX12_in) (pc' := 7) (av := [.int p0, .int 0, .int 7]) rfl dX12_isRow_4 rfl gX12_isRow_X12_in rfl dsX12_in rfl (Nat.le_refl _) (Nat.le_of_ble_eq_true rfl) (Nat.le_of_ble_eq_true rfl) (Nat.le_refl _) (Nat.le_refl _) ts_kv0 W (ts_kki fun v3 hi1 hk2 W => ?_)
  obtain ⟨c4, W⟩ := W
  exact ts_zret dX12_isRow_7 rfl c4 (Nat.le_refl _) (Nat.le_refl _) ⟨rfl, _, rfl, W⟩
theorem hnX12_isMissing_X12 : ∀ w ∈ u_ws RX12 TX12 25, w ∈ wsX12_isMissing := by decide +kernel
theorem flX12_isMissing_7 : Cond.fieldLink RX12 7 "TurnipSquiresModel" "lane" "[I" ∈ wsX12_isMissing := by decide +kernel
set_option maxHeartbeats 4000000 in
theorem wX12_isMissing_0 {d : Nat} {g : ts_G} {Q : Int32 → ts_I → ts_K → Prop} {o : Nat} {p0 : Int32} {hi : ts_I} {hk : ts_K} (W : (g.2.1 o = 11) ∧ (g.2.2.2 o 0 ≠ 0) ∧ (g.2.1 (g.2.2.2 o 0) = 100) ∧ (vp_in p0 (g.2.2.1 (g.2.2.2 o 0))) ∧ (((hi (g.2.2.2 o 0) p0.toNatClampNeg) ≠ (-1000000)) → Q 0 hi hk) ∧ (¬ ((hi (g.2.2.2 o 0) p0.toNatClampNeg) ≠ (-1000000)) → Q 1 hi hk)) : ts_J0 d mX12_isMissing (ts_qi Q) g 0 [(0, .ref o), (1, .int p0)] [] hi hk := by
  refine ts_aload_n 0 (pc' := 1) rfl dX12_isMissing_0 rfl rfl ?_
  obtain ⟨c1, W⟩ := W
  obtain ⟨c2, W⟩ := W
  refine ts_getR (pc' := 4) (ci := 11) 0 cfX12.1 cfX12.2.1 cfX12.2.2 rfl (by decide) hnX12_isMissing_X12 flX12_isMissing_7 rfl dX12_isMissing_1 c1 c2 ?_
  refine ts_iload_n 1 (pc' := 5) rfl dX12_isMissing_4 rfl rfl ?_
  obtain ⟨c3, W⟩ := W
  obtain ⟨c4, W⟩ := W
  refine ts_iaload (pc' := 6) rfl dX12_isMissing_5 c3 c4 ?_
  refine ts_ldc (v := (-1000000)) (pc' := 8) rfl dX12_isMissing_6 (by decide +kernel) ?_
  refine ts_icmp_ne (pc' := 11) (tgt := 15) rfl dX12_isMissing_8 (by decide) (fun q5 => ?_) (fun q5 => ?_)
  · replace W := W.1 q5
    refine ts_iconst (v := 0) (pc' := 16) rfl dX12_isMissing_15 (by decide) ?_
    exact ts_zret dX12_isMissing_16 rfl (by decide) (Nat.le_refl _) (Nat.le_refl _) ⟨rfl, _, rfl, W⟩
  · replace W := W.2 q5
    refine ts_iconst (v := 1) (pc' := 12) rfl dX12_isMissing_11 (by decide) ?_
    refine ts_goto (tgt := 16) dX12_isMissing_12 (by decide) ?_
    exact ts_zret dX12_isMissing_16 rfl (by decide) (Nat.le_refl _) (Nat.le_refl _) ⟨rfl, _, rfl, W⟩
set_option maxHeartbeats 4000000 in
theorem wX12_cut_0 {d : Nat} {g : ts_G} {Q : Int32 → ts_I → ts_K → Prop} {p0 : Int32} {p1 : Int32} {hi : ts_I} {hk : ts_K} (W : ((p0 ≠ 0) → ((p0 ≠ 1) → Q p1 hi hk) ∧ (¬ (p0 ≠ 1) → Q ((p1 <<< (16 &&& 31)) >>> (16 &&& 31)) hi hk)) ∧ (¬ (p0 ≠ 0) → Q ((p1 <<< (24 &&& 31)) >>> (24 &&& 31)) hi hk)) : ts_J0 d mX12_cut (ts_qi Q) g 0 [(0, .int p0), (1, .int p1)] [] hi hk := by
  refine ts_iload_n 0 (pc' := 1) rfl dX12_cut_0 rfl rfl ?_
  refine ts_if_ne (pc' := 4) (tgt := 14) rfl dX12_cut_1 (by decide) (fun q1 => ?_) (fun q1 => ?_)
  · replace W := W.1 q1
    refine ts_iload_n 0 (pc' := 15) rfl dX12_cut_14 rfl rfl ?_
    refine ts_iconst (v := 1) (pc' := 16) rfl dX12_cut_15 (by decide) ?_
    refine ts_icmp_ne (pc' := 19) (tgt := 29) rfl dX12_cut_16 (by decide) (fun q2 => ?_) (fun q2 => ?_)
    · replace W := W.1 q2
      refine ts_iload_n 1 (pc' := 30) rfl dX12_cut_29 rfl rfl ?_
      exact ts_iret dX12_cut_30 rfl (Nat.le_refl _) (Nat.le_refl _) ⟨rfl, _, rfl, W⟩
    · replace W := W.2 q2
      refine ts_iload_n 1 (pc' := 20) rfl dX12_cut_19 rfl rfl ?_
      refine ts_bipush (v := 16) (pc' := 22) rfl dX12_cut_20 (by decide) ?_
      refine ts_ishl (pc' := 23) rfl dX12_cut_22 ?_
      refine ts_bipush (v := 16) (pc' := 25) rfl dX12_cut_23 (by decide) ?_
      refine ts_ishr (pc' := 26) rfl dX12_cut_25 ?_
      refine ts_goto (tgt := 30) dX12_cut_26 (by decide) ?_
      exact ts_iret dX12_cut_30 rfl (Nat.le_refl _) (Nat.le_refl _) ⟨rfl, _, rfl, W⟩
  · replace W := W.2 q1
    refine ts_iload_n 1 (pc' := 5) rfl dX12_cut_4 rfl rfl ?_
    refine ts_bipush (v := 24) (pc' := 7) rfl dX12_cut_5 (by decide) ?_
    refine ts_ishl (pc' := 8) rfl dX12_cut_7 ?_
    refine ts_bipush (v := 24) (pc' := 10) rfl dX12_cut_8 (by decide) ?_
    refine ts_ishr (pc' := 11) rfl dX12_cut_10 ?_
    refine ts_goto (tgt := 30) dX12_cut_11 (by decide) ?_
    exact ts_iret dX12_cut_30 rfl (Nat.le_refl _) (Nat.le_refl _) ⟨rfl, _, rfl, W⟩
theorem hnX12_row_X12 : ∀ w ∈ u_ws RX12 TX12 25, w ∈ wsX12_row := by decide +kernel
theorem flX12_row_7 : Cond.fieldLink RX12 7 "TurnipSquiresModel" "lane" "[I" ∈ wsX12_row := by decide +kernel
theorem flX12_row_13 : Cond.fieldLink RX12 13 "TurnipSquiresModel" "many" "[I" ∈ wsX12_row := by decide +kernel
theorem flX12_row_16 : Cond.fieldLink RX12 16 "TurnipSquiresModel" "items" "[I" ∈ wsX12_row := by decide +kernel
set_option maxHeartbeats 4000000 in
theorem wX12_row_0 {d : Nat} {g : ts_G} {Q : Int32 → ts_I → ts_K → Prop} {o : Nat} {p0 : Int32} {p1 : Int32} {p2 : Int32} {hi : ts_I} {hk : ts_K} (W : ts_E0 d mX12_isRow [.int p0] g hi hk (ts_qi (fun v3 hi1 hk2 => ((v3 = 0) → Q (-1000001) hi1 hk2) ∧ (¬ (v3 = 0) → ts_E0 d mX12_in [.int p1, .int 0, .int 2] g hi1 hk2 (ts_qi (fun v7 hi5 hk6 => ((v7 = 0) → Q (-1000001) hi5 hk6) ∧ (¬ (v7 = 0) → ((p2 ≤ 40) → ((0 ≤ p2) → (g.2.1 o = 11) ∧ (g.2.2.2 o 0 ≠ 0) ∧ (g.2.1 (g.2.2.2 o 0) = 100) ∧ (vp_in p0 (g.2.2.1 (g.2.2.2 o 0))) ∧ ∀ hi15 : ts_I, hi15 = ts_up hi5 (g.2.2.2 o 0) p0.toNatClampNeg p1 → (g.2.2.2 o 1 ≠ 0) ∧ (g.2.1 (g.2.2.2 o 1) = 100) ∧ (vp_in p0 (g.2.2.1 (g.2.2.2 o 1))) ∧ ∀ hi19 : ts_I, hi19 = ts_up hi15 (g.2.2.2 o 1) p0.toNatClampNeg p2 → ts_J0 (d + 1) mX12_row (ts_qi Q) g 52 [(0, .ref o), (1, .int p0), (3, .int p2), (4, .int 0)] [] hi19 hk6) ∧ (¬ (0 ≤ p2) → (g.2.1 o = 11) ∧ ts_E0 d mX12_found [.ref o, .int 4] g hi5 hk6 (ts_qi (fun v22 hi20 hk21 => Q v22 hi20 hk21)))) ∧ (¬ (p2 ≤ 40) → Q (-1000001) hi5 hk6)))))))) : ts_J0 (d + 1) mX12_row (ts_qi Q) g 0 [(0, .ref o), (1, .int p0), (2, .int p1), (3, .int p2)] [] hi hk := by
  refine ts_iload_n 1 (pc' := 1) rfl dX12_row_0 rfl rfl ?_
  refine ts_callS (M' := mX12_isRow) (pc' := 4) (av := [.int p0]) rfl dX12_row_1 rfl gX12_row_X12_isRow rfl dsX12_isRow rfl (Nat.le_refl _) (Nat.le_of_ble_eq_true rfl) (Nat.le_of_ble_eq_true rfl) (Nat.le_refl _) (Nat.le_refl _) ts_kv0 W (ts_kki fun v3 hi1 hk2 W => ?_)
  refine ts_if_eq (pc' := 7) (tgt := 22) rfl dX12_row_4 (by decide) (fun q4 => ?_) (fun q4 => ?_)
  · replace W := W.1 q4
    refine ts_ldc (v := (-1000001)) (pc' := 24) rfl dX12_row_22 (by decide +kernel) ?_
    exact ts_iret dX12_row_24 rfl (Nat.le_refl _) (Nat.le_refl _) ⟨rfl, _, rfl, W⟩
  · replace W := W.2 q4
    refine ts_iload_n 2 (pc' := 8) rfl dX12_row_7 rfl rfl ?_
    refine ts_iconst (v := 0) (pc' := 9) rfl dX12_row_8 (by decide) ?_
    refine ts_iconst (v := 2) (pc' := 10) rfl dX12_row_9 (by decide) ?_
    refine ts_callS (M' := mX12_in) (pc' := 13) (av := [.int p1, .int 0, .int 2]) rfl dX12_row_10 rfl gX12_row_X12_in rfl dsX12_in rfl (Nat.le_refl _) (Nat.le_of_ble_eq_true rfl) (Nat.le_of_ble_eq_true rfl) (Nat.le_refl _) (Nat.le_refl _) ts_kv0 W (ts_kki fun v7 hi5 hk6 W => ?_)
    refine ts_if_eq (pc' := 16) (tgt := 22) rfl dX12_row_13 (by decide) (fun q8 => ?_) (fun q8 => ?_)
    · replace W := W.1 q8
      refine ts_ldc (v := (-1000001)) (pc' := 24) rfl dX12_row_22 (by decide +kernel) ?_
      exact ts_iret dX12_row_24 rfl (Nat.le_refl _) (Nat.le_refl _) ⟨rfl, _, rfl, W⟩
    · replace W := W.2 q8
      refine ts_iload_n 3 (pc' := 17) rfl dX12_row_16 rfl rfl ?_
      refine ts_bipush (v := 40) (pc' := 19) rfl dX12_row_17 (by decide) ?_
      refine ts_icmp_le (pc' := 22) (tgt := 25) rfl dX12_row_19 (by decide) (fun q9 => ?_) (fun q9 => ?_)
      · replace W := W.1 q9
        refine ts_iload_n 3 (pc' := 26) rfl dX12_row_25 rfl rfl ?_
        refine ts_if_ge (pc' := 29) (tgt := 35) rfl dX12_row_26 (by decide) (fun q10 => ?_) (fun q10 => ?_)
        · replace W := W.1 q10
          refine ts_aload_n 0 (pc' := 36) rfl dX12_row_35 rfl rfl ?_
          obtain ⟨c11, W⟩ := W
          obtain ⟨c12, W⟩ := W
          refine ts_getR (pc' := 39) (ci := 11) 0 cfX12.1 cfX12.2.1 cfX12.2.2 rfl (by decide) hnX12_row_X12 flX12_row_7 rfl dX12_row_36 c11 c12 ?_
          refine ts_iload_n 1 (pc' := 40) rfl dX12_row_39 rfl rfl ?_
          refine ts_iload_n 2 (pc' := 41) rfl dX12_row_40 rfl rfl ?_
          obtain ⟨c13, W⟩ := W
          obtain ⟨c14, W⟩ := W
          refine ts_iastore (pc' := 42) rfl dX12_row_41 c13 c14 ?_
          obtain ⟨hi15, ehi15⟩ : ∃ z, z = ts_up hi5 (g.2.2.2 o 0) p0.toNatClampNeg p1 := ⟨_, rfl⟩
          rw [← ehi15]; replace W := W hi15 ehi15
          refine ts_aload_n 0 (pc' := 43) rfl dX12_row_42 rfl rfl ?_
          obtain ⟨c16, W⟩ := W
          refine ts_getR (pc' := 46) (ci := 11) 1 cfX12.1 cfX12.2.1 cfX12.2.2 rfl (by decide) hnX12_row_X12 flX12_row_13 rfl dX12_row_43 c11 c16 ?_
          refine ts_iload_n 1 (pc' := 47) rfl dX12_row_46 rfl rfl ?_
          refine ts_iload_n 3 (pc' := 48) rfl dX12_row_47 rfl rfl ?_
          obtain ⟨c17, W⟩ := W
          obtain ⟨c18, W⟩ := W
          refine ts_iastore (pc' := 49) rfl dX12_row_48 c17 c18 ?_
          obtain ⟨hi19, ehi19⟩ : ∃ z, z = ts_up hi15 (g.2.2.2 o 1) p0.toNatClampNeg p2 := ⟨_, rfl⟩
          rw [← ehi19]; replace W := W hi19 ehi19
          refine ts_iconst (v := 0) (pc' := 50) rfl dX12_row_49 (by decide) ?_
          refine ts_istore (pc' := 52) (ls' := [(4, .int 0), (0, .ref o), (1, .int p0), (2, .int p1), (3, .int p2)]) rfl dX12_row_50 (Nat.le_of_ble_eq_true rfl) rfl ?_
          exact ts_sub [1, 2, 4, 0] rfl W
        · replace W := W.2 q10
          refine ts_aload_n 0 (pc' := 30) rfl dX12_row_29 rfl rfl ?_
          refine ts_iconst (v := 4) (pc' := 31) rfl dX12_row_30 (by decide) ?_
          obtain ⟨c23, W⟩ := W
          refine ts_callV (M' := mX12_found) (C := RX12) (pc' := 34) (av := [.int 4]) (b := o) rfl dX12_row_31 rfl gX12_row_X12_found rfl dvX12_found rfl (ci := 11) cfX12.1 (by decide) c23 (Nat.le_refl _) (Nat.le_of_ble_eq_true rfl) (Nat.le_of_ble_eq_true rfl) (Nat.le_refl _) (Nat.le_refl _) ts_kv0 W (ts_kki fun v22 hi20 hk21 W => ?_)
          exact ts_iret dX12_row_34 rfl (Nat.le_refl _) (Nat.le_refl _) ⟨rfl, _, rfl, W⟩
      · replace W := W.2 q9
        refine ts_ldc (v := (-1000001)) (pc' := 24) rfl dX12_row_22 (by decide +kernel) ?_
        exact ts_iret dX12_row_24 rfl (Nat.le_refl _) (Nat.le_refl _) ⟨rfl, _, rfl, W⟩
set_option maxHeartbeats 4000000 in
theorem wX12_row_52 {d : Nat} {g : ts_G} {Q : Int32 → ts_I → ts_K → Prop} {l0 : Nat} {l1 : Int32} {l3 : Int32} {l4 : Int32} {hi : ts_I} {hk : ts_K} (W : ((40 ≤ l4) → (g.2.1 l0 = 11) ∧ ts_E0 d mX12_well [.ref l0, .int l3] g hi hk (ts_qi (fun v4 hi2 hk3 => Q v4 hi2 hk3))) ∧ (¬ (40 ≤ l4) → (g.2.1 l0 = 11) ∧ (g.2.2.2 l0 2 ≠ 0) ∧ (g.2.1 (g.2.2.2 l0 2) = 100) ∧ (vp_in ((40 * l1) + l4) (g.2.2.1 (g.2.2.2 l0 2))) ∧ ∀ hi10 : ts_I, hi10 = ts_up hi (g.2.2.2 l0 2) ((40 * l1) + l4).toNatClampNeg 0 → ts_J0 (d + 1) mX12_row (ts_qi Q) g 52 [(0, .ref l0), (1, .int l1), (3, .int l3), (4, .int (l4 + 1))] [] hi10 hk)) : ts_J0 (d + 1) mX12_row (ts_qi Q) g 52 [(0, .ref l0), (1, .int l1), (3, .int l3), (4, .int l4)] [] hi hk := by
  refine ts_iload 3 (pc' := 54) rfl dX12_row_52 rfl ?_
  refine ts_bipush (v := 40) (pc' := 56) rfl dX12_row_54 (by decide) ?_
  refine ts_icmp_ge (pc' := 59) (tgt := 78) rfl dX12_row_56 (by decide) (fun q1 => ?_) (fun q1 => ?_)
  · replace W := W.1 q1
    refine ts_aload_n 0 (pc' := 79) rfl dX12_row_78 rfl rfl ?_
    refine ts_iload_n 2 (pc' := 80) rfl dX12_row_79 rfl rfl ?_
    obtain ⟨c5, W⟩ := W
    refine ts_callV (M' := mX12_well) (C := RX12) (pc' := 83) (av := [.int l3]) (b := l0) rfl dX12_row_80 rfl gX12_row_X12_well rfl dvX12_well rfl (ci := 11) cfX12.1 (by decide) c5 (Nat.le_refl _) (Nat.le_of_ble_eq_true rfl) (Nat.le_of_ble_eq_true rfl) (Nat.le_refl _) (Nat.le_refl _) ts_kv0 W (ts_kki fun v4 hi2 hk3 W => ?_)
    exact ts_iret dX12_row_83 rfl (Nat.le_refl _) (Nat.le_refl _) ⟨rfl, _, rfl, W⟩
  · replace W := W.2 q1
    refine ts_aload_n 0 (pc' := 60) rfl dX12_row_59 rfl rfl ?_
    obtain ⟨c6, W⟩ := W
    obtain ⟨c7, W⟩ := W
    refine ts_getR (pc' := 63) (ci := 11) 2 cfX12.1 cfX12.2.1 cfX12.2.2 rfl (by decide) hnX12_row_X12 flX12_row_16 rfl dX12_row_60 c6 c7 ?_
    refine ts_bipush (v := 40) (pc' := 65) rfl dX12_row_63 (by decide) ?_
    refine ts_iload_n 1 (pc' := 66) rfl dX12_row_65 rfl rfl ?_
    refine ts_imul (pc' := 67) rfl dX12_row_66 ?_
    refine ts_iload 3 (pc' := 69) rfl dX12_row_67 rfl ?_
    refine ts_iadd (pc' := 70) rfl dX12_row_69 ?_
    refine ts_iconst (v := 0) (pc' := 71) rfl dX12_row_70 (by decide) ?_
    obtain ⟨c8, W⟩ := W
    obtain ⟨c9, W⟩ := W
    refine ts_iastore (pc' := 72) rfl dX12_row_71 c8 c9 ?_
    obtain ⟨hi10, ehi10⟩ : ∃ z, z = ts_up hi (g.2.2.2 l0 2) ((40 * l1) + l4).toNatClampNeg 0 := ⟨_, rfl⟩
    rw [← ehi10]; replace W := W hi10 ehi10
    refine ts_iinc 3 (pc' := 75) (ls' := [(4, .int (l4 + 1)), (0, .ref l0), (1, .int l1), (3, .int l3)]) rfl dX12_row_72 rfl rfl (Nat.le_of_ble_eq_true rfl) rfl ?_
    refine ts_goto (tgt := 52) dX12_row_75 (by decide) ?_
    exact ts_sub [1, 2, 3, 0] rfl W
theorem hnX12_set_X12 : ∀ w ∈ u_ws RX12 TX12 25, w ∈ wsX12_set := by decide +kernel
theorem flX12_set_7 : Cond.fieldLink RX12 7 "TurnipSquiresModel" "lane" "[I" ∈ wsX12_set := by decide +kernel
theorem flX12_set_13 : Cond.fieldLink RX12 13 "TurnipSquiresModel" "many" "[I" ∈ wsX12_set := by decide +kernel
theorem flX12_set_16 : Cond.fieldLink RX12 16 "TurnipSquiresModel" "items" "[I" ∈ wsX12_set := by decide +kernel
set_option maxHeartbeats 4000000 in
theorem wX12_set_0 {d : Nat} {g : ts_G} {Q : Int32 → ts_I → ts_K → Prop} {o : Nat} {p0 : Int32} {p1 : Int32} {p2 : Int32} {hi : ts_I} {hk : ts_K} (W : ts_E0 d mX12_isRow [.int p0] g hi hk (ts_qi (fun v3 hi1 hk2 => ((v3 ≠ 0) → (g.2.1 o = 11) ∧ ts_E0 d mX12_isMissing [.ref o, .int p0] g hi1 hk2 (ts_qi (fun v7 hi5 hk6 => ((v7 = 0) → (g.2.2.2 o 1 ≠ 0) ∧ (g.2.1 (g.2.2.2 o 1) = 100) ∧ (vp_in p0 (g.2.2.1 (g.2.2.2 o 1))) ∧ ts_E0 d mX12_in [.int p1, .int 0, .int ((hi5 (g.2.2.2 o 1) p0.toNatClampNeg) - 1)] g hi5 hk6 (ts_qi (fun v15 hi13 hk14 => ((v15 ≠ 0) → (g.2.2.2 o 2 ≠ 0) ∧ (g.2.2.2 o 0 ≠ 0) ∧ (g.2.1 (g.2.2.2 o 0) = 100) ∧ (vp_in p0 (g.2.2.1 (g.2.2.2 o 0))) ∧ ts_E0 d mX12_cut [.int (hi13 (g.2.2.2 o 0) p0.toNatClampNeg), .int p2] g hi13 hk14 (ts_qi (fun v23 hi21 hk22 => (g.2.1 (g.2.2.2 o 2) = 100) ∧ (vp_in ((40 * p0) + p1) (g.2.2.1 (g.2.2.2 o 2))) ∧ ∀ hi26 : ts_I, hi26 = ts_up hi21 (g.2.2.2 o 2) ((40 * p0) + p1).toNatClampNeg v23 → ts_E0 d mX12_well [.ref o, .int (hi26 (g.2.2.2 o 2) ((40 * p0) + p1).toNatClampNeg)] g hi26 hk22 (ts_qi (fun v29 hi27 hk28 => Q v29 hi27 hk28))))) ∧ (¬ (v15 ≠ 0) → ts_E0 d mX12_found [.ref o, .int 2] g hi13 hk14 (ts_qi (fun v32 hi30 hk31 => Q v32 hi30 hk31)))))) ∧ (¬ (v7 = 0) → ts_E0 d mX12_found [.ref o, .int 1] g hi5 hk6 (ts_qi (fun v35 hi33 hk34 => Q v35 hi33 hk34)))))) ∧ (¬ (v3 ≠ 0) → Q (-1000001) hi1 hk2)))) : ts_J0 (d + 1) mX12_set (ts_qi Q) g 0 [(0, .ref o), (1, .int p0), (2, .int p1), (3, .int p2)] [] hi hk := by
  refine ts_iload_n 1 (pc' := 1) rfl dX12_set_0 rfl rfl ?_
  refine ts_callS (M' := mX12_isRow) (pc' := 4) (av := [.int p0]) rfl dX12_set_1 rfl gX12_set_X12_isRow rfl dsX12_isRow rfl (Nat.le_refl _) (Nat.le_of_ble_eq_true rfl) (Nat.le_of_ble_eq_true rfl) (Nat.le_refl _) (Nat.le_refl _) ts_kv0 W (ts_kki fun v3 hi1 hk2 W => ?_)
  refine ts_if_ne (pc' := 7) (tgt := 10) rfl dX12_set_4 (by decide) (fun q4 => ?_) (fun q4 => ?_)
  · replace W := W.1 q4
    refine ts_aload_n 0 (pc' := 11) rfl dX12_set_10 rfl rfl ?_
    refine ts_iload_n 1 (pc' := 12) rfl dX12_set_11 rfl rfl ?_
    obtain ⟨c8, W⟩ := W
    refine ts_callV (M' := mX12_isMissing) (C := RX12) (pc' := 15) (av := [.int p0]) (b := o) rfl dX12_set_12 rfl gX12_set_X12_isMissing rfl dvX12_isMissing rfl (ci := 11) cfX12.1 (by decide) c8 (Nat.le_refl _) (Nat.le_of_ble_eq_true rfl) (Nat.le_of_ble_eq_true rfl) (Nat.le_refl _) (Nat.le_refl _) ts_kv0 W (ts_kki fun v7 hi5 hk6 W => ?_)
    refine ts_if_eq (pc' := 18) (tgt := 24) rfl dX12_set_15 (by decide) (fun q9 => ?_) (fun q9 => ?_)
    · replace W := W.1 q9
      refine ts_iload_n 2 (pc' := 25) rfl dX12_set_24 rfl rfl ?_
      refine ts_iconst (v := 0) (pc' := 26) rfl dX12_set_25 (by decide) ?_
      refine ts_aload_n 0 (pc' := 27) rfl dX12_set_26 rfl rfl ?_
      obtain ⟨c10, W⟩ := W
      refine ts_getR (pc' := 30) (ci := 11) 1 cfX12.1 cfX12.2.1 cfX12.2.2 rfl (by decide) hnX12_set_X12 flX12_set_13 rfl dX12_set_27 c8 c10 ?_
      refine ts_iload_n 1 (pc' := 31) rfl dX12_set_30 rfl rfl ?_
      obtain ⟨c11, W⟩ := W
      obtain ⟨c12, W⟩ := W
      refine ts_iaload (pc' := 32) rfl dX12_set_31 c11 c12 ?_
      refine ts_iconst (v := 1) (pc' := 33) rfl dX12_set_32 (by decide) ?_
      refine ts_isub (pc' := 34) rfl dX12_set_33 ?_
      refine ts_callS (M' := mX12_in) (pc' := 37) (av := [.int p1, .int 0, .int ((hi5 (g.2.2.2 o 1) p0.toNatClampNeg) - 1)]) rfl dX12_set_34 rfl gX12_set_X12_in rfl dsX12_in rfl (Nat.le_refl _) (Nat.le_of_ble_eq_true rfl) (Nat.le_of_ble_eq_true rfl) (Nat.le_refl _) (Nat.le_refl _) ts_kv0 W (ts_kki fun v15 hi13 hk14 W => ?_)
      refine ts_if_ne (pc' := 40) (tgt := 46) rfl dX12_set_37 (by decide) (fun q16 => ?_) (fun q16 => ?_)
      · replace W := W.1 q16
        refine ts_aload_n 0 (pc' := 47) rfl dX12_set_46 rfl rfl ?_
        obtain ⟨c17, W⟩ := W
        refine ts_getR (pc' := 50) (ci := 11) 2 cfX12.1 cfX12.2.1 cfX12.2.2 rfl (by decide) hnX12_set_X12 flX12_set_16 rfl dX12_set_47 c8 c17 ?_
        refine ts_bipush (v := 40) (pc' := 52) rfl dX12_set_50 (by decide) ?_
        refine ts_iload_n 1 (pc' := 53) rfl dX12_set_52 rfl rfl ?_
        refine ts_imul (pc' := 54) rfl dX12_set_53 ?_
        refine ts_iload_n 2 (pc' := 55) rfl dX12_set_54 rfl rfl ?_
        refine ts_iadd (pc' := 56) rfl dX12_set_55 ?_
        refine ts_aload_n 0 (pc' := 57) rfl dX12_set_56 rfl rfl ?_
        obtain ⟨c18, W⟩ := W
        refine ts_getR (pc' := 60) (ci := 11) 0 cfX12.1 cfX12.2.1 cfX12.2.2 rfl (by decide) hnX12_set_X12 flX12_set_7 rfl dX12_set_57 c8 c18 ?_
        refine ts_iload_n 1 (pc' := 61) rfl dX12_set_60 rfl rfl ?_
        obtain ⟨c19, W⟩ := W
        obtain ⟨c20, W⟩ := W
        refine ts_iaload (pc' := 62) rfl dX12_set_61 c19 c20 ?_
        refine ts_iload_n 3 (pc' := 63) rfl dX12_set_62 rfl rfl ?_
        refine ts_callS (M' := mX12_cut) (pc' := 66) (av := [.int (hi13 (g.2.2.2 o 0) p0.toNatClampNeg), .int p2]) rfl dX12_set_63 rfl gX12_set_X12_cut rfl dsX12_cut rfl (Nat.le_refl _) (Nat.le_of_ble_eq_true rfl) (Nat.le_of_ble_eq_true rfl) (Nat.le_refl _) (Nat.le_refl _) ts_kv0 W (ts_kki fun v23 hi21 hk22 W => ?_)
        obtain ⟨c24, W⟩ := W
        obtain ⟨c25, W⟩ := W
        refine ts_iastore (pc' := 67) rfl dX12_set_66 c24 c25 ?_
        obtain ⟨hi26, ehi26⟩ : ∃ z, z = ts_up hi21 (g.2.2.2 o 2) ((40 * p0) + p1).toNatClampNeg v23 := ⟨_, rfl⟩
        rw [← ehi26]; replace W := W hi26 ehi26
        refine ts_aload_n 0 (pc' := 68) rfl dX12_set_67 rfl rfl ?_
        refine ts_aload_n 0 (pc' := 69) rfl dX12_set_68 rfl rfl ?_
        refine ts_getR (pc' := 72) (ci := 11) 2 cfX12.1 cfX12.2.1 cfX12.2.2 rfl (by decide) hnX12_set_X12 flX12_set_16 rfl dX12_set_69 c8 c17 ?_
        refine ts_bipush (v := 40) (pc' := 74) rfl dX12_set_72 (by decide) ?_
        refine ts_iload_n 1 (pc' := 75) rfl dX12_set_74 rfl rfl ?_
        refine ts_imul (pc' := 76) rfl dX12_set_75 ?_
        refine ts_iload_n 2 (pc' := 77) rfl dX12_set_76 rfl rfl ?_
        refine ts_iadd (pc' := 78) rfl dX12_set_77 ?_
        refine ts_iaload (pc' := 79) rfl dX12_set_78 c24 c25 ?_
        refine ts_callV (M' := mX12_well) (C := RX12) (pc' := 82) (av := [.int (hi26 (g.2.2.2 o 2) ((40 * p0) + p1).toNatClampNeg)]) (b := o) rfl dX12_set_79 rfl gX12_set_X12_well rfl dvX12_well rfl (ci := 11) cfX12.1 (by decide) c8 (Nat.le_refl _) (Nat.le_of_ble_eq_true rfl) (Nat.le_of_ble_eq_true rfl) (Nat.le_refl _) (Nat.le_refl _) ts_kv0 W (ts_kki fun v29 hi27 hk28 W => ?_)
        exact ts_iret dX12_set_82 rfl (Nat.le_refl _) (Nat.le_refl _) ⟨rfl, _, rfl, W⟩
      · replace W := W.2 q16
        refine ts_aload_n 0 (pc' := 41) rfl dX12_set_40 rfl rfl ?_
        refine ts_iconst (v := 2) (pc' := 42) rfl dX12_set_41 (by decide) ?_
        refine ts_callV (M' := mX12_found) (C := RX12) (pc' := 45) (av := [.int 2]) (b := o) rfl dX12_set_42 rfl gX12_set_X12_found rfl dvX12_found rfl (ci := 11) cfX12.1 (by decide) c8 (Nat.le_refl _) (Nat.le_of_ble_eq_true rfl) (Nat.le_of_ble_eq_true rfl) (Nat.le_refl _) (Nat.le_refl _) ts_kv0 W (ts_kki fun v32 hi30 hk31 W => ?_)
        exact ts_iret dX12_set_45 rfl (Nat.le_refl _) (Nat.le_refl _) ⟨rfl, _, rfl, W⟩
    · replace W := W.2 q9
      refine ts_aload_n 0 (pc' := 19) rfl dX12_set_18 rfl rfl ?_
      refine ts_iconst (v := 1) (pc' := 20) rfl dX12_set_19 (by decide) ?_
      refine ts_callV (M' := mX12_found) (C := RX12) (pc' := 23) (av := [.int 1]) (b := o) rfl dX12_set_20 rfl gX12_set_X12_found rfl dvX12_found rfl (ci := 11) cfX12.1 (by decide) c8 (Nat.le_refl _) (Nat.le_of_ble_eq_true rfl) (Nat.le_of_ble_eq_true rfl) (Nat.le_refl _) (Nat.le_refl _) ts_kv0 W (ts_kki fun v35 hi33 hk34 W => ?_)
      exact ts_iret dX12_set_23 rfl (Nat.le_refl _) (Nat.le_refl _) ⟨rfl, _, rfl, W⟩
  · replace W := W.2 q4
    refine ts_ldc (v := (-1000001)) (pc' := 9) rfl dX12_set_7 (by decide +kernel) ?_
    exact ts_iret dX12_set_9 rfl (Nat.le_refl _) (Nat.le_refl _) ⟨rfl, _, rfl, W⟩
theorem hnX12_isPart_X12 : ∀ w ∈ u_ws RX12 TX12 25, w ∈ wsX12_isPart := by decide +kernel
theorem flX12_isPart_13 : Cond.fieldLink RX12 13 "TurnipSquiresModel" "many" "[I" ∈ wsX12_isPart := by decide +kernel
set_option maxHeartbeats 4000000 in
theorem wX12_isPart_0 {d : Nat} {g : ts_G} {Q : Int32 → ts_I → ts_K → Prop} {o : Nat} {p0 : Int32} {p1 : Int32} {p2 : Int32} {hi : ts_I} {hk : ts_K} (W : ((p1 < 0) → Q 0 hi hk) ∧ (¬ (p1 < 0) → ((p2 < 0) → Q 0 hi hk) ∧ (¬ (p2 < 0) → (g.2.1 o = 11) ∧ (g.2.2.2 o 1 ≠ 0) ∧ (g.2.1 (g.2.2.2 o 1) = 100) ∧ (vp_in p0 (g.2.2.1 (g.2.2.2 o 1))) ∧ (((hi (g.2.2.2 o 1) p0.toNatClampNeg) < p1) → Q 0 hi hk) ∧ (¬ ((hi (g.2.2.2 o 1) p0.toNatClampNeg) < p1) → ((((hi (g.2.2.2 o 1) p0.toNatClampNeg) - p1) < p2) → Q 0 hi hk) ∧ (¬ (((hi (g.2.2.2 o 1) p0.toNatClampNeg) - p1) < p2) → Q 1 hi hk))))) : ts_J0 d mX12_isPart (ts_qi Q) g 0 [(0, .ref o), (1, .int p0), (2, .int p1), (3, .int p2)] [] hi hk := by
  refine ts_iload_n 2 (pc' := 1) rfl dX12_isPart_0 rfl rfl ?_
  refine ts_if_lt (pc' := 4) (tgt := 34) rfl dX12_isPart_1 (by decide) (fun q1 => ?_) (fun q1 => ?_)
  · replace W := W.1 q1
    refine ts_iconst (v := 0) (pc' := 35) rfl dX12_isPart_34 (by decide) ?_
    exact ts_zret dX12_isPart_35 rfl (by decide) (Nat.le_refl _) (Nat.le_refl _) ⟨rfl, _, rfl, W⟩
  · replace W := W.2 q1
    refine ts_iload_n 3 (pc' := 5) rfl dX12_isPart_4 rfl rfl ?_
    refine ts_if_lt (pc' := 8) (tgt := 34) rfl dX12_isPart_5 (by decide) (fun q2 => ?_) (fun q2 => ?_)
    · replace W := W.1 q2
      refine ts_iconst (v := 0) (pc' := 35) rfl dX12_isPart_34 (by decide) ?_
      exact ts_zret dX12_isPart_35 rfl (by decide) (Nat.le_refl _) (Nat.le_refl _) ⟨rfl, _, rfl, W⟩
    · replace W := W.2 q2
      refine ts_iload_n 2 (pc' := 9) rfl dX12_isPart_8 rfl rfl ?_
      refine ts_aload_n 0 (pc' := 10) rfl dX12_isPart_9 rfl rfl ?_
      obtain ⟨c3, W⟩ := W
      obtain ⟨c4, W⟩ := W
      refine ts_getR (pc' := 13) (ci := 11) 1 cfX12.1 cfX12.2.1 cfX12.2.2 rfl (by decide) hnX12_isPart_X12 flX12_isPart_13 rfl dX12_isPart_10 c3 c4 ?_
      refine ts_iload_n 1 (pc' := 14) rfl dX12_isPart_13 rfl rfl ?_
      obtain ⟨c5, W⟩ := W
      obtain ⟨c6, W⟩ := W
      refine ts_iaload (pc' := 15) rfl dX12_isPart_14 c5 c6 ?_
      refine ts_icmp_gt (pc' := 18) (tgt := 34) rfl dX12_isPart_15 (by decide) (fun q7 => ?_) (fun q7 => ?_)
      · replace W := W.1 q7
        refine ts_iconst (v := 0) (pc' := 35) rfl dX12_isPart_34 (by decide) ?_
        exact ts_zret dX12_isPart_35 rfl (by decide) (Nat.le_refl _) (Nat.le_refl _) ⟨rfl, _, rfl, W⟩
      · replace W := W.2 q7
        refine ts_iload_n 3 (pc' := 19) rfl dX12_isPart_18 rfl rfl ?_
        refine ts_aload_n 0 (pc' := 20) rfl dX12_isPart_19 rfl rfl ?_
        refine ts_getR (pc' := 23) (ci := 11) 1 cfX12.1 cfX12.2.1 cfX12.2.2 rfl (by decide) hnX12_isPart_X12 flX12_isPart_13 rfl dX12_isPart_20 c3 c4 ?_
        refine ts_iload_n 1 (pc' := 24) rfl dX12_isPart_23 rfl rfl ?_
        refine ts_iaload (pc' := 25) rfl dX12_isPart_24 c5 c6 ?_
        refine ts_iload_n 2 (pc' := 26) rfl dX12_isPart_25 rfl rfl ?_
        refine ts_isub (pc' := 27) rfl dX12_isPart_26 ?_
        refine ts_icmp_gt (pc' := 30) (tgt := 34) rfl dX12_isPart_27 (by decide) (fun q8 => ?_) (fun q8 => ?_)
        · replace W := W.1 q8
          refine ts_iconst (v := 0) (pc' := 35) rfl dX12_isPart_34 (by decide) ?_
          exact ts_zret dX12_isPart_35 rfl (by decide) (Nat.le_refl _) (Nat.le_refl _) ⟨rfl, _, rfl, W⟩
        · replace W := W.2 q8
          refine ts_iconst (v := 1) (pc' := 31) rfl dX12_isPart_30 (by decide) ?_
          refine ts_goto (tgt := 35) dX12_isPart_31 (by decide) ?_
          exact ts_zret dX12_isPart_35 rfl (by decide) (Nat.le_refl _) (Nat.le_refl _) ⟨rfl, _, rfl, W⟩
theorem hnX12_copy_X12 : ∀ w ∈ u_ws RX12 TX12 25, w ∈ wsX12_copy := by decide +kernel
theorem flX12_copy_7 : Cond.fieldLink RX12 7 "TurnipSquiresModel" "lane" "[I" ∈ wsX12_copy := by decide +kernel
theorem flX12_copy_16 : Cond.fieldLink RX12 16 "TurnipSquiresModel" "items" "[I" ∈ wsX12_copy := by decide +kernel
theorem flX12_copy_19 : Cond.fieldLink RX12 19 "TurnipSquiresModel" "spare" "[I" ∈ wsX12_copy := by decide +kernel
set_option maxHeartbeats 4000000 in
theorem wX12_copy_0 {d : Nat} {g : ts_G} {Q : Int32 → ts_I → ts_K → Prop} {o : Nat} {p0 : Int32} {p1 : Int32} {p2 : Int32} {p3 : Int32} {p4 : Int32} {hi : ts_I} {hk : ts_K} (W : ts_E0 d mX12_isRow [.int p0] g hi hk (ts_qi (fun v3 hi1 hk2 => ((v3 = 0) → Q (-1000001) hi1 hk2) ∧ (¬ (v3 = 0) → ts_E0 d mX12_isRow [.int p2] g hi1 hk2 (ts_qi (fun v7 hi5 hk6 => ((v7 ≠ 0) → (g.2.1 o = 11) ∧ ts_E0 d mX12_isMissing [.ref o, .int p0] g hi5 hk6 (ts_qi (fun v11 hi9 hk10 => ((v11 ≠ 0) → ts_E0 d mX12_found [.ref o, .int 1] g hi9 hk10 (ts_qi (fun v16 hi14 hk15 => Q v16 hi14 hk15))) ∧ (¬ (v11 ≠ 0) → ts_E0 d mX12_isMissing [.ref o, .int p2] g hi9 hk10 (ts_qi (fun v19 hi17 hk18 => ((v19 = 0) → (g.2.2.2 o 0 ≠ 0) ∧ (g.2.1 (g.2.2.2 o 0) = 100) ∧ (vp_in p0 (g.2.2.1 (g.2.2.2 o 0))) ∧ (vp_in p2 (g.2.2.1 (g.2.2.2 o 0))) ∧ (((hi17 (g.2.2.2 o 0) p0.toNatClampNeg) = (hi17 (g.2.2.2 o 0) p2.toNatClampNeg)) → ts_E0 d mX12_isPart [.ref o, .int p0, .int p1, .int p4] g hi17 hk18 (ts_qi (fun v28 hi26 hk27 => ((v28 = 0) → ts_E0 d mX12_found [.ref o, .int 2] g hi26 hk27 (ts_qi (fun v32 hi30 hk31 => Q v32 hi30 hk31))) ∧ (¬ (v28 = 0) → ts_E0 d mX12_isPart [.ref o, .int p2, .int p3, .int p4] g hi26 hk27 (ts_qi (fun v35 hi33 hk34 => ((v35 ≠ 0) → ts_J0 (d + 1) mX12_copy (ts_qi Q) g 92 [(0, .ref o), (1, .int p0), (2, .int p1), (3, .int p2), (4, .int p3), (5, .int p4), (6, .int 0)] [] hi33 hk34) ∧ (¬ (v35 ≠ 0) → ts_E0 d mX12_found [.ref o, .int 2] g hi33 hk34 (ts_qi (fun v39 hi37 hk38 => Q v39 hi37 hk38))))))))) ∧ (¬ ((hi17 (g.2.2.2 o 0) p0.toNatClampNeg) = (hi17 (g.2.2.2 o 0) p2.toNatClampNeg)) → ts_E0 d mX12_found [.ref o, .int 5] g hi17 hk18 (ts_qi (fun v42 hi40 hk41 => Q v42 hi40 hk41)))) ∧ (¬ (v19 = 0) → ts_E0 d mX12_found [.ref o, .int 1] g hi17 hk18 (ts_qi (fun v45 hi43 hk44 => Q v45 hi43 hk44))))))))) ∧ (¬ (v7 ≠ 0) → Q (-1000001) hi5 hk6))))))) : ts_J0 (d + 1) mX12_copy (ts_qi Q) g 0 [(0, .ref o), (1, .int p0), (2, .int p1), (3, .int p2), (4, .int p3), (5, .int p4)] [] hi hk := by
  refine ts_iload_n 1 (pc' := 1) rfl dX12_copy_0 rfl rfl ?_
  refine ts_callS (M' := mX12_isRow) (pc' := 4) (av := [.int p0]) rfl dX12_copy_1 rfl gX12_copy_X12_isRow rfl dsX12_isRow rfl (Nat.le_refl _) (Nat.le_of_ble_eq_true rfl) (Nat.le_of_ble_eq_true rfl) (Nat.le_refl _) (Nat.le_refl _) ts_kv0 W (ts_kki fun v3 hi1 hk2 W => ?_)
  refine ts_if_eq (pc' := 7) (tgt := 14) rfl dX12_copy_4 (by decide) (fun q4 => ?_) (fun q4 => ?_)
  · replace W := W.1 q4
    refine ts_ldc (v := (-1000001)) (pc' := 16) rfl dX12_copy_14 (by decide +kernel) ?_
    exact ts_iret dX12_copy_16 rfl (Nat.le_refl _) (Nat.le_refl _) ⟨rfl, _, rfl, W⟩
  · replace W := W.2 q4
    refine ts_iload_n 3 (pc' := 8) rfl dX12_copy_7 rfl rfl ?_
    refine ts_callS (M' := mX12_isRow) (pc' := 11) (av := [.int p2]) rfl dX12_copy_8 rfl gX12_copy_X12_isRow rfl dsX12_isRow rfl (Nat.le_refl _) (Nat.le_of_ble_eq_true rfl) (Nat.le_of_ble_eq_true rfl) (Nat.le_refl _) (Nat.le_refl _) ts_kv0 W (ts_kki fun v7 hi5 hk6 W => ?_)
    refine ts_if_ne (pc' := 14) (tgt := 17) rfl dX12_copy_11 (by decide) (fun q8 => ?_) (fun q8 => ?_)
    · replace W := W.1 q8
      refine ts_aload_n 0 (pc' := 18) rfl dX12_copy_17 rfl rfl ?_
      refine ts_iload_n 1 (pc' := 19) rfl dX12_copy_18 rfl rfl ?_
      obtain ⟨c12, W⟩ := W
      refine ts_callV (M' := mX12_isMissing) (C := RX12) (pc' := 22) (av := [.int p0]) (b := o) rfl dX12_copy_19 rfl gX12_copy_X12_isMissing rfl dvX12_isMissing rfl (ci := 11) cfX12.1 (by decide) c12 (Nat.le_refl _) (Nat.le_of_ble_eq_true rfl) (Nat.le_of_ble_eq_true rfl) (Nat.le_refl _) (Nat.le_refl _) ts_kv0 W (ts_kki fun v11 hi9 hk10 W => ?_)
      refine ts_if_ne (pc' := 25) (tgt := 33) rfl dX12_copy_22 (by decide) (fun q13 => ?_) (fun q13 => ?_)
      · replace W := W.1 q13
        refine ts_aload_n 0 (pc' := 34) rfl dX12_copy_33 rfl rfl ?_
        refine ts_iconst (v := 1) (pc' := 35) rfl dX12_copy_34 (by decide) ?_
        refine ts_callV (M' := mX12_found) (C := RX12) (pc' := 38) (av := [.int 1]) (b := o) rfl dX12_copy_35 rfl gX12_copy_X12_found rfl dvX12_found rfl (ci := 11) cfX12.1 (by decide) c12 (Nat.le_refl _) (Nat.le_of_ble_eq_true rfl) (Nat.le_of_ble_eq_true rfl) (Nat.le_refl _) (Nat.le_refl _) ts_kv0 W (ts_kki fun v16 hi14 hk15 W => ?_)
        exact ts_iret dX12_copy_38 rfl (Nat.le_refl _) (Nat.le_refl _) ⟨rfl, _, rfl, W⟩
      · replace W := W.2 q13
        refine ts_aload_n 0 (pc' := 26) rfl dX12_copy_25 rfl rfl ?_
        refine ts_iload_n 3 (pc' := 27) rfl dX12_copy_26 rfl rfl ?_
        refine ts_callV (M' := mX12_isMissing) (C := RX12) (pc' := 30) (av := [.int p2]) (b := o) rfl dX12_copy_27 rfl gX12_copy_X12_isMissing rfl dvX12_isMissing rfl (ci := 11) cfX12.1 (by decide) c12 (Nat.le_refl _) (Nat.le_of_ble_eq_true rfl) (Nat.le_of_ble_eq_true rfl) (Nat.le_refl _) (Nat.le_refl _) ts_kv0 W (ts_kki fun v19 hi17 hk18 W => ?_)
        refine ts_if_eq (pc' := 33) (tgt := 39) rfl dX12_copy_30 (by decide) (fun q20 => ?_) (fun q20 => ?_)
        · replace W := W.1 q20
          refine ts_aload_n 0 (pc' := 40) rfl dX12_copy_39 rfl rfl ?_
          obtain ⟨c21, W⟩ := W
          refine ts_getR (pc' := 43) (ci := 11) 0 cfX12.1 cfX12.2.1 cfX12.2.2 rfl (by decide) hnX12_copy_X12 flX12_copy_7 rfl dX12_copy_40 c12 c21 ?_
          refine ts_iload_n 1 (pc' := 44) rfl dX12_copy_43 rfl rfl ?_
          obtain ⟨c22, W⟩ := W
          obtain ⟨c23, W⟩ := W
          refine ts_iaload (pc' := 45) rfl dX12_copy_44 c22 c23 ?_
          refine ts_aload_n 0 (pc' := 46) rfl dX12_copy_45 rfl rfl ?_
          refine ts_getR (pc' := 49) (ci := 11) 0 cfX12.1 cfX12.2.1 cfX12.2.2 rfl (by decide) hnX12_copy_X12 flX12_copy_7 rfl dX12_copy_46 c12 c21 ?_
          refine ts_iload_n 3 (pc' := 50) rfl dX12_copy_49 rfl rfl ?_
          obtain ⟨c24, W⟩ := W
          refine ts_iaload (pc' := 51) rfl dX12_copy_50 c22 c24 ?_
          refine ts_icmp_eq (pc' := 54) (tgt := 60) rfl dX12_copy_51 (by decide) (fun q25 => ?_) (fun q25 => ?_)
          · replace W := W.1 q25
            refine ts_aload_n 0 (pc' := 61) rfl dX12_copy_60 rfl rfl ?_
            refine ts_iload_n 1 (pc' := 62) rfl dX12_copy_61 rfl rfl ?_
            refine ts_iload_n 2 (pc' := 63) rfl dX12_copy_62 rfl rfl ?_
            refine ts_iload 5 (pc' := 65) rfl dX12_copy_63 rfl ?_
            refine ts_callV (M' := mX12_isPart) (C := RX12) (pc' := 68) (av := [.int p0, .int p1, .int p4]) (b := o) rfl dX12_copy_65 rfl gX12_copy_X12_isPart rfl dvX12_isPart rfl (ci := 11) cfX12.1 (by decide) c12 (Nat.le_refl _) (Nat.le_of_ble_eq_true rfl) (Nat.le_of_ble_eq_true rfl) (Nat.le_refl _) (Nat.le_refl _) ts_kv0 W (ts_kki fun v28 hi26 hk27 W => ?_)
            refine ts_if_eq (pc' := 71) (tgt := 83) rfl dX12_copy_68 (by decide) (fun q29 => ?_) (fun q29 => ?_)
            · replace W := W.1 q29
              refine ts_aload_n 0 (pc' := 84) rfl dX12_copy_83 rfl rfl ?_
              refine ts_iconst (v := 2) (pc' := 85) rfl dX12_copy_84 (by decide) ?_
              refine ts_callV (M' := mX12_found) (C := RX12) (pc' := 88) (av := [.int 2]) (b := o) rfl dX12_copy_85 rfl gX12_copy_X12_found rfl dvX12_found rfl (ci := 11) cfX12.1 (by decide) c12 (Nat.le_refl _) (Nat.le_of_ble_eq_true rfl) (Nat.le_of_ble_eq_true rfl) (Nat.le_refl _) (Nat.le_refl _) ts_kv0 W (ts_kki fun v32 hi30 hk31 W => ?_)
              exact ts_iret dX12_copy_88 rfl (Nat.le_refl _) (Nat.le_refl _) ⟨rfl, _, rfl, W⟩
            · replace W := W.2 q29
              refine ts_aload_n 0 (pc' := 72) rfl dX12_copy_71 rfl rfl ?_
              refine ts_iload_n 3 (pc' := 73) rfl dX12_copy_72 rfl rfl ?_
              refine ts_iload 4 (pc' := 75) rfl dX12_copy_73 rfl ?_
              refine ts_iload 5 (pc' := 77) rfl dX12_copy_75 rfl ?_
              refine ts_callV (M' := mX12_isPart) (C := RX12) (pc' := 80) (av := [.int p2, .int p3, .int p4]) (b := o) rfl dX12_copy_77 rfl gX12_copy_X12_isPart rfl dvX12_isPart rfl (ci := 11) cfX12.1 (by decide) c12 (Nat.le_refl _) (Nat.le_of_ble_eq_true rfl) (Nat.le_of_ble_eq_true rfl) (Nat.le_refl _) (Nat.le_refl _) ts_kv0 W (ts_kki fun v35 hi33 hk34 W => ?_)
              refine ts_if_ne (pc' := 83) (tgt := 89) rfl dX12_copy_80 (by decide) (fun q36 => ?_) (fun q36 => ?_)
              · replace W := W.1 q36
                refine ts_iconst (v := 0) (pc' := 90) rfl dX12_copy_89 (by decide) ?_
                refine ts_istore (pc' := 92) (ls' := [(6, .int 0), (0, .ref o), (1, .int p0), (2, .int p1), (3, .int p2), (4, .int p3), (5, .int p4)]) rfl dX12_copy_90 (Nat.le_of_ble_eq_true rfl) rfl ?_
                exact ts_sub [1, 2, 3, 4, 5, 6, 0] rfl W
              · replace W := W.2 q36
                refine ts_aload_n 0 (pc' := 84) rfl dX12_copy_83 rfl rfl ?_
                refine ts_iconst (v := 2) (pc' := 85) rfl dX12_copy_84 (by decide) ?_
                refine ts_callV (M' := mX12_found) (C := RX12) (pc' := 88) (av := [.int 2]) (b := o) rfl dX12_copy_85 rfl gX12_copy_X12_found rfl dvX12_found rfl (ci := 11) cfX12.1 (by decide) c12 (Nat.le_refl _) (Nat.le_of_ble_eq_true rfl) (Nat.le_of_ble_eq_true rfl) (Nat.le_refl _) (Nat.le_refl _) ts_kv0 W (ts_kki fun v39 hi37 hk38 W => ?_)
                exact ts_iret dX12_copy_88 rfl (Nat.le_refl _) (Nat.le_refl _) ⟨rfl, _, rfl, W⟩
          · replace W := W.2 q25
            refine ts_aload_n 0 (pc' := 55) rfl dX12_copy_54 rfl rfl ?_
            refine ts_iconst (v := 5) (pc' := 56) rfl dX12_copy_55 (by decide) ?_
            refine ts_callV (M' := mX12_found) (C := RX12) (pc' := 59) (av := [.int 5]) (b := o) rfl dX12_copy_56 rfl gX12_copy_X12_found rfl dvX12_found rfl (ci := 11) cfX12.1 (by decide) c12 (Nat.le_refl _) (Nat.le_of_ble_eq_true rfl) (Nat.le_of_ble_eq_true rfl) (Nat.le_refl _) (Nat.le_refl _) ts_kv0 W (ts_kki fun v42 hi40 hk41 W => ?_)
            exact ts_iret dX12_copy_59 rfl (Nat.le_refl _) (Nat.le_refl _) ⟨rfl, _, rfl, W⟩
        · replace W := W.2 q20
          refine ts_aload_n 0 (pc' := 34) rfl dX12_copy_33 rfl rfl ?_
          refine ts_iconst (v := 1) (pc' := 35) rfl dX12_copy_34 (by decide) ?_
          refine ts_callV (M' := mX12_found) (C := RX12) (pc' := 38) (av := [.int 1]) (b := o) rfl dX12_copy_35 rfl gX12_copy_X12_found rfl dvX12_found rfl (ci := 11) cfX12.1 (by decide) c12 (Nat.le_refl _) (Nat.le_of_ble_eq_true rfl) (Nat.le_of_ble_eq_true rfl) (Nat.le_refl _) (Nat.le_refl _) ts_kv0 W (ts_kki fun v45 hi43 hk44 W => ?_)
          exact ts_iret dX12_copy_38 rfl (Nat.le_refl _) (Nat.le_refl _) ⟨rfl, _, rfl, W⟩
    · replace W := W.2 q8
      refine ts_ldc (v := (-1000001)) (pc' := 16) rfl dX12_copy_14 (by decide +kernel) ?_
      exact ts_iret dX12_copy_16 rfl (Nat.le_refl _) (Nat.le_refl _) ⟨rfl, _, rfl, W⟩
set_option maxHeartbeats 4000000 in
theorem wX12_copy_92 {d : Nat} {g : ts_G} {Q : Int32 → ts_I → ts_K → Prop} {l0 : Nat} {l1 : Int32} {l2 : Int32} {l3 : Int32} {l4 : Int32} {l5 : Int32} {l6 : Int32} {hi : ts_I} {hk : ts_K} (W : ((l5 ≤ l6) → ts_J0 (d + 1) mX12_copy (ts_qi Q) g 129 [(0, .ref l0), (3, .int l3), (4, .int l4), (5, .int l5), (6, .int 0)] [] hi hk) ∧ (¬ (l5 ≤ l6) → (g.2.1 l0 = 11) ∧ (g.2.2.2 l0 3 ≠ 0) ∧ (g.2.2.2 l0 2 ≠ 0) ∧ (g.2.1 (g.2.2.2 l0 2) = 100) ∧ (vp_in (((40 * l1) + l2) + l6) (g.2.2.1 (g.2.2.2 l0 2))) ∧ (g.2.1 (g.2.2.2 l0 3) = 100) ∧ (vp_in l6 (g.2.2.1 (g.2.2.2 l0 3))) ∧ ∀ hi9 : ts_I, hi9 = ts_up hi (g.2.2.2 l0 3) l6.toNatClampNeg (hi (g.2.2.2 l0 2) (((40 * l1) + l2) + l6).toNatClampNeg) → ts_J0 (d + 1) mX12_copy (ts_qi Q) g 92 [(0, .ref l0), (1, .int l1), (2, .int l2), (3, .int l3), (4, .int l4), (5, .int l5), (6, .int (l6 + 1))] [] hi9 hk)) : ts_J0 (d + 1) mX12_copy (ts_qi Q) g 92 [(0, .ref l0), (1, .int l1), (2, .int l2), (3, .int l3), (4, .int l4), (5, .int l5), (6, .int l6)] [] hi hk := by
  refine ts_iload 6 (pc' := 94) rfl dX12_copy_92 rfl ?_
  refine ts_iload 5 (pc' := 96) rfl dX12_copy_94 rfl ?_
  refine ts_icmp_ge (pc' := 99) (tgt := 126) rfl dX12_copy_96 (by decide) (fun q1 => ?_) (fun q1 => ?_)
  · replace W := W.1 q1
    refine ts_iconst (v := 0) (pc' := 127) rfl dX12_copy_126 (by decide) ?_
    refine ts_istore (pc' := 129) (ls' := [(6, .int 0), (0, .ref l0), (1, .int l1), (2, .int l2), (3, .int l3), (4, .int l4), (5, .int l5)]) rfl dX12_copy_127 (Nat.le_of_ble_eq_true rfl) rfl ?_
    exact ts_sub [1, 4, 5, 6, 0] rfl W
  · replace W := W.2 q1
    refine ts_aload_n 0 (pc' := 100) rfl dX12_copy_99 rfl rfl ?_
    obtain ⟨c2, W⟩ := W
    obtain ⟨c3, W⟩ := W
    refine ts_getR (pc' := 103) (ci := 11) 3 cfX12.1 cfX12.2.1 cfX12.2.2 rfl (by decide) hnX12_copy_X12 flX12_copy_19 rfl dX12_copy_100 c2 c3 ?_
    refine ts_iload 6 (pc' := 105) rfl dX12_copy_103 rfl ?_
    refine ts_aload_n 0 (pc' := 106) rfl dX12_copy_105 rfl rfl ?_
    obtain ⟨c4, W⟩ := W
    refine ts_getR (pc' := 109) (ci := 11) 2 cfX12.1 cfX12.2.1 cfX12.2.2 rfl (by decide) hnX12_copy_X12 flX12_copy_16 rfl dX12_copy_106 c2 c4 ?_
    refine ts_bipush (v := 40) (pc' := 111) rfl dX12_copy_109 (by decide) ?_
    refine ts_iload_n 1 (pc' := 112) rfl dX12_copy_111 rfl rfl ?_
    refine ts_imul (pc' := 113) rfl dX12_copy_112 ?_
    refine ts_iload_n 2 (pc' := 114) rfl dX12_copy_113 rfl rfl ?_
    refine ts_iadd (pc' := 115) rfl dX12_copy_114 ?_
    refine ts_iload 6 (pc' := 117) rfl dX12_copy_115 rfl ?_
    refine ts_iadd (pc' := 118) rfl dX12_copy_117 ?_
    obtain ⟨c5, W⟩ := W
    obtain ⟨c6, W⟩ := W
    refine ts_iaload (pc' := 119) rfl dX12_copy_118 c5 c6 ?_
    obtain ⟨c7, W⟩ := W
    obtain ⟨c8, W⟩ := W
    refine ts_iastore (pc' := 120) rfl dX12_copy_119 c7 c8 ?_
    obtain ⟨hi9, ehi9⟩ : ∃ z, z = ts_up hi (g.2.2.2 l0 3) l6.toNatClampNeg (hi (g.2.2.2 l0 2) (((40 * l1) + l2) + l6).toNatClampNeg) := ⟨_, rfl⟩
    rw [← ehi9]; replace W := W hi9 ehi9
    refine ts_iinc 6 (pc' := 123) (ls' := [(6, .int (l6 + 1)), (0, .ref l0), (1, .int l1), (2, .int l2), (3, .int l3), (4, .int l4), (5, .int l5)]) rfl dX12_copy_120 rfl rfl (Nat.le_of_ble_eq_true rfl) rfl ?_
    refine ts_goto (tgt := 92) dX12_copy_123 (by decide) ?_
    exact ts_sub [1, 2, 3, 4, 5, 6, 0] rfl W
set_option maxHeartbeats 4000000 in
theorem wX12_copy_129 {d : Nat} {g : ts_G} {Q : Int32 → ts_I → ts_K → Prop} {l0 : Nat} {l3 : Int32} {l4 : Int32} {l5 : Int32} {l6 : Int32} {hi : ts_I} {hk : ts_K} (W : ((l5 ≤ l6) → (g.2.1 l0 = 11) ∧ ts_E0 d mX12_well [.ref l0, .int l5] g hi hk (ts_qi (fun v4 hi2 hk3 => Q v4 hi2 hk3))) ∧ (¬ (l5 ≤ l6) → (g.2.1 l0 = 11) ∧ (g.2.2.2 l0 2 ≠ 0) ∧ (g.2.2.2 l0 3 ≠ 0) ∧ (g.2.1 (g.2.2.2 l0 3) = 100) ∧ (vp_in l6 (g.2.2.1 (g.2.2.2 l0 3))) ∧ (g.2.1 (g.2.2.2 l0 2) = 100) ∧ (vp_in (((40 * l3) + l4) + l6) (g.2.2.1 (g.2.2.2 l0 2))) ∧ ∀ hi13 : ts_I, hi13 = ts_up hi (g.2.2.2 l0 2) (((40 * l3) + l4) + l6).toNatClampNeg (hi (g.2.2.2 l0 3) l6.toNatClampNeg) → ts_J0 (d + 1) mX12_copy (ts_qi Q) g 129 [(0, .ref l0), (3, .int l3), (4, .int l4), (5, .int l5), (6, .int (l6 + 1))] [] hi13 hk)) : ts_J0 (d + 1) mX12_copy (ts_qi Q) g 129 [(0, .ref l0), (3, .int l3), (4, .int l4), (5, .int l5), (6, .int l6)] [] hi hk := by
  refine ts_iload 4 (pc' := 131) rfl dX12_copy_129 rfl ?_
  refine ts_iload 3 (pc' := 133) rfl dX12_copy_131 rfl ?_
  refine ts_icmp_ge (pc' := 136) (tgt := 164) rfl dX12_copy_133 (by decide) (fun q1 => ?_) (fun q1 => ?_)
  · replace W := W.1 q1
    refine ts_aload_n 0 (pc' := 165) rfl dX12_copy_164 rfl rfl ?_
    refine ts_iload 3 (pc' := 167) rfl dX12_copy_165 rfl ?_
    obtain ⟨c5, W⟩ := W
    refine ts_callV (M' := mX12_well) (C := RX12) (pc' := 170) (av := [.int l5]) (b := l0) rfl dX12_copy_167 rfl gX12_copy_X12_well rfl dvX12_well rfl (ci := 11) cfX12.1 (by decide) c5 (Nat.le_refl _) (Nat.le_of_ble_eq_true rfl) (Nat.le_of_ble_eq_true rfl) (Nat.le_refl _) (Nat.le_refl _) ts_kv0 W (ts_kki fun v4 hi2 hk3 W => ?_)
    exact ts_iret dX12_copy_170 rfl (Nat.le_refl _) (Nat.le_refl _) ⟨rfl, _, rfl, W⟩
  · replace W := W.2 q1
    refine ts_aload_n 0 (pc' := 137) rfl dX12_copy_136 rfl rfl ?_
    obtain ⟨c6, W⟩ := W
    obtain ⟨c7, W⟩ := W
    refine ts_getR (pc' := 140) (ci := 11) 2 cfX12.1 cfX12.2.1 cfX12.2.2 rfl (by decide) hnX12_copy_X12 flX12_copy_16 rfl dX12_copy_137 c6 c7 ?_
    refine ts_bipush (v := 40) (pc' := 142) rfl dX12_copy_140 (by decide) ?_
    refine ts_iload_n 1 (pc' := 143) rfl dX12_copy_142 rfl rfl ?_
    refine ts_imul (pc' := 144) rfl dX12_copy_143 ?_
    refine ts_iload 2 (pc' := 146) rfl dX12_copy_144 rfl ?_
    refine ts_iadd (pc' := 147) rfl dX12_copy_146 ?_
    refine ts_iload 4 (pc' := 149) rfl dX12_copy_147 rfl ?_
    refine ts_iadd (pc' := 150) rfl dX12_copy_149 ?_
    refine ts_aload_n 0 (pc' := 151) rfl dX12_copy_150 rfl rfl ?_
    obtain ⟨c8, W⟩ := W
    refine ts_getR (pc' := 154) (ci := 11) 3 cfX12.1 cfX12.2.1 cfX12.2.2 rfl (by decide) hnX12_copy_X12 flX12_copy_19 rfl dX12_copy_151 c6 c8 ?_
    refine ts_iload 4 (pc' := 156) rfl dX12_copy_154 rfl ?_
    obtain ⟨c9, W⟩ := W
    obtain ⟨c10, W⟩ := W
    refine ts_iaload (pc' := 157) rfl dX12_copy_156 c9 c10 ?_
    obtain ⟨c11, W⟩ := W
    obtain ⟨c12, W⟩ := W
    refine ts_iastore (pc' := 158) rfl dX12_copy_157 c11 c12 ?_
    obtain ⟨hi13, ehi13⟩ : ∃ z, z = ts_up hi (g.2.2.2 l0 2) (((40 * l3) + l4) + l6).toNatClampNeg (hi (g.2.2.2 l0 3) l6.toNatClampNeg) := ⟨_, rfl⟩
    rw [← ehi13]; replace W := W hi13 ehi13
    refine ts_iinc 4 (pc' := 161) (ls' := [(6, .int (l6 + 1)), (0, .ref l0), (3, .int l3), (4, .int l4), (5, .int l5)]) rfl dX12_copy_158 rfl rfl (Nat.le_of_ble_eq_true rfl) rfl ?_
    refine ts_goto (tgt := 129) dX12_copy_161 (by decide) ?_
    exact ts_sub [1, 2, 3, 4, 0] rfl W
theorem hnX12_drop_X12 : ∀ w ∈ u_ws RX12 TX12 25, w ∈ wsX12_drop := by decide +kernel
theorem flX12_drop_7 : Cond.fieldLink RX12 7 "TurnipSquiresModel" "lane" "[I" ∈ wsX12_drop := by decide +kernel
theorem flX12_drop_13 : Cond.fieldLink RX12 13 "TurnipSquiresModel" "many" "[I" ∈ wsX12_drop := by decide +kernel
set_option maxHeartbeats 4000000 in
theorem wX12_drop_0 {d : Nat} {g : ts_G} {Q : Int32 → ts_I → ts_K → Prop} {o : Nat} {p0 : Int32} {hi : ts_I} {hk : ts_K} (W : ts_E0 d mX12_isRow [.int p0] g hi hk (ts_qi (fun v3 hi1 hk2 => ((v3 ≠ 0) → (g.2.1 o = 11) ∧ ts_E0 d mX12_isMissing [.ref o, .int p0] g hi1 hk2 (ts_qi (fun v7 hi5 hk6 => ((v7 = 0) → (g.2.2.2 o 0 ≠ 0) ∧ (g.2.1 (g.2.2.2 o 0) = 100) ∧ (vp_in p0 (g.2.2.1 (g.2.2.2 o 0))) ∧ ∀ hi13 : ts_I, hi13 = ts_up hi5 (g.2.2.2 o 0) p0.toNatClampNeg (-1000000) → (g.2.2.2 o 1 ≠ 0) ∧ (g.2.1 (g.2.2.2 o 1) = 100) ∧ (vp_in p0 (g.2.2.1 (g.2.2.2 o 1))) ∧ ts_E0 d mX12_well [.ref o, .int (hi13 (g.2.2.2 o 1) p0.toNatClampNeg)] g hi13 hk6 (ts_qi (fun v19 hi17 hk18 => Q v19 hi17 hk18))) ∧ (¬ (v7 = 0) → ts_E0 d mX12_found [.ref o, .int 1] g hi5 hk6 (ts_qi (fun v22 hi20 hk21 => Q v22 hi20 hk21)))))) ∧ (¬ (v3 ≠ 0) → Q (-1000001) hi1 hk2)))) : ts_J0 (d + 1) mX12_drop (ts_qi Q) g 0 [(0, .ref o), (1, .int p0)] [] hi hk := by
  refine ts_iload_n 1 (pc' := 1) rfl dX12_drop_0 rfl rfl ?_
  refine ts_callS (M' := mX12_isRow) (pc' := 4) (av := [.int p0]) rfl dX12_drop_1 rfl gX12_drop_X12_isRow rfl dsX12_isRow rfl (Nat.le_refl _) (Nat.le_of_ble_eq_true rfl) (Nat.le_of_ble_eq_true rfl) (Nat.le_refl _) (Nat.le_refl _) ts_kv0 W (ts_kki fun v3 hi1 hk2 W => ?_)
  refine ts_if_ne (pc' := 7) (tgt := 10) rfl dX12_drop_4 (by decide) (fun q4 => ?_) (fun q4 => ?_)
  · replace W := W.1 q4
    refine ts_aload_n 0 (pc' := 11) rfl dX12_drop_10 rfl rfl ?_
    refine ts_iload_n 1 (pc' := 12) rfl dX12_drop_11 rfl rfl ?_
    obtain ⟨c8, W⟩ := W
    refine ts_callV (M' := mX12_isMissing) (C := RX12) (pc' := 15) (av := [.int p0]) (b := o) rfl dX12_drop_12 rfl gX12_drop_X12_isMissing rfl dvX12_isMissing rfl (ci := 11) cfX12.1 (by decide) c8 (Nat.le_refl _) (Nat.le_of_ble_eq_true rfl) (Nat.le_of_ble_eq_true rfl) (Nat.le_refl _) (Nat.le_refl _) ts_kv0 W (ts_kki fun v7 hi5 hk6 W => ?_)
    refine ts_if_eq (pc' := 18) (tgt := 24) rfl dX12_drop_15 (by decide) (fun q9 => ?_) (fun q9 => ?_)
    · replace W := W.1 q9
      refine ts_aload_n 0 (pc' := 25) rfl dX12_drop_24 rfl rfl ?_
      obtain ⟨c10, W⟩ := W
      refine ts_getR (pc' := 28) (ci := 11) 0 cfX12.1 cfX12.2.1 cfX12.2.2 rfl (by decide) hnX12_drop_X12 flX12_drop_7 rfl dX12_drop_25 c8 c10 ?_
      refine ts_iload_n 1 (pc' := 29) rfl dX12_drop_28 rfl rfl ?_
      refine ts_ldc (v := (-1000000)) (pc' := 31) rfl dX12_drop_29 (by decide +kernel) ?_
      obtain ⟨c11, W⟩ := W
      obtain ⟨c12, W⟩ := W
      refine ts_iastore (pc' := 32) rfl dX12_drop_31 c11 c12 ?_
      obtain ⟨hi13, ehi13⟩ : ∃ z, z = ts_up hi5 (g.2.2.2 o 0) p0.toNatClampNeg (-1000000) := ⟨_, rfl⟩
      rw [← ehi13]; replace W := W hi13 ehi13
      refine ts_aload_n 0 (pc' := 33) rfl dX12_drop_32 rfl rfl ?_
      refine ts_aload_n 0 (pc' := 34) rfl dX12_drop_33 rfl rfl ?_
      obtain ⟨c14, W⟩ := W
      refine ts_getR (pc' := 37) (ci := 11) 1 cfX12.1 cfX12.2.1 cfX12.2.2 rfl (by decide) hnX12_drop_X12 flX12_drop_13 rfl dX12_drop_34 c8 c14 ?_
      refine ts_iload_n 1 (pc' := 38) rfl dX12_drop_37 rfl rfl ?_
      obtain ⟨c15, W⟩ := W
      obtain ⟨c16, W⟩ := W
      refine ts_iaload (pc' := 39) rfl dX12_drop_38 c15 c16 ?_
      refine ts_callV (M' := mX12_well) (C := RX12) (pc' := 42) (av := [.int (hi13 (g.2.2.2 o 1) p0.toNatClampNeg)]) (b := o) rfl dX12_drop_39 rfl gX12_drop_X12_well rfl dvX12_well rfl (ci := 11) cfX12.1 (by decide) c8 (Nat.le_refl _) (Nat.le_of_ble_eq_true rfl) (Nat.le_of_ble_eq_true rfl) (Nat.le_refl _) (Nat.le_refl _) ts_kv0 W (ts_kki fun v19 hi17 hk18 W => ?_)
      exact ts_iret dX12_drop_42 rfl (Nat.le_refl _) (Nat.le_refl _) ⟨rfl, _, rfl, W⟩
    · replace W := W.2 q9
      refine ts_aload_n 0 (pc' := 19) rfl dX12_drop_18 rfl rfl ?_
      refine ts_iconst (v := 1) (pc' := 20) rfl dX12_drop_19 (by decide) ?_
      refine ts_callV (M' := mX12_found) (C := RX12) (pc' := 23) (av := [.int 1]) (b := o) rfl dX12_drop_20 rfl gX12_drop_X12_found rfl dvX12_found rfl (ci := 11) cfX12.1 (by decide) c8 (Nat.le_refl _) (Nat.le_of_ble_eq_true rfl) (Nat.le_of_ble_eq_true rfl) (Nat.le_refl _) (Nat.le_refl _) ts_kv0 W (ts_kki fun v22 hi20 hk21 W => ?_)
      exact ts_iret dX12_drop_23 rfl (Nat.le_refl _) (Nat.le_refl _) ⟨rfl, _, rfl, W⟩
  · replace W := W.2 q4
    refine ts_ldc (v := (-1000001)) (pc' := 9) rfl dX12_drop_7 (by decide +kernel) ?_
    exact ts_iret dX12_drop_9 rfl (Nat.le_refl _) (Nat.le_refl _) ⟨rfl, _, rfl, W⟩
theorem hnX12_feed_X12 : ∀ w ∈ u_ws RX12 TX12 25, w ∈ wsX12_feed := by decide +kernel
theorem flX12_feed_22 : Cond.fieldLink RX12 22 "TurnipSquiresModel" "tape" "[I" ∈ wsX12_feed := by decide +kernel
theorem flX12_feed_88 : Cond.fieldLink RX12 88 "TurnipSquiresModel" "taped" "I" ∈ wsX12_feed := by decide +kernel
set_option maxHeartbeats 4000000 in
theorem wX12_feed_0 {d : Nat} {g : ts_G} {Q : Int32 → ts_I → ts_K → Prop} {o : Nat} {p0 : Int32} {hi : ts_I} {hk : ts_K} (W : ts_E0 d mX12_in [.int p0, .int 0, .int 255] g hi hk (ts_qi (fun v3 hi1 hk2 => ((v3 ≠ 0) → (g.2.1 o = 11) ∧ (((hi1 o 6) ≠ 90) → (g.2.2.2 o 5 ≠ 0) ∧ (g.2.1 (g.2.2.2 o 5) = 100) ∧ (vp_in (hi1 o 6) (g.2.2.1 (g.2.2.2 o 5))) ∧ ∀ hi10 : ts_I, hi10 = ts_up hi1 (g.2.2.2 o 5) (hi1 o 6).toNatClampNeg p0 → ∀ hi11 : ts_I, hi11 = ts_up hi10 o 6 ((hi10 o 6) + 1) → Q (hi11 o 6) hi11 hk2) ∧ (¬ ((hi1 o 6) ≠ 90) → Q (-1000003) hi1 hk2)) ∧ (¬ (v3 ≠ 0) → Q (-1000001) hi1 hk2)))) : ts_J0 (d + 1) mX12_feed (ts_qi Q) g 0 [(0, .ref o), (1, .int p0)] [] hi hk := by
  refine ts_iload_n 1 (pc' := 1) rfl dX12_feed_0 rfl rfl ?_
  refine ts_iconst (v := 0) (pc' := 2) rfl dX12_feed_1 (by decide) ?_
  refine ts_sipush (v := 255) (pc' := 5) rfl dX12_feed_2 (by decide) ?_
  refine ts_callS (M' := mX12_in) (pc' := 8) (av := [.int p0, .int 0, .int 255]) rfl dX12_feed_5 rfl gX12_feed_X12_in rfl dsX12_in rfl (Nat.le_refl _) (Nat.le_of_ble_eq_true rfl) (Nat.le_of_ble_eq_true rfl) (Nat.le_refl _) (Nat.le_refl _) ts_kv0 W (ts_kki fun v3 hi1 hk2 W => ?_)
  refine ts_if_ne (pc' := 11) (tgt := 14) rfl dX12_feed_8 (by decide) (fun q4 => ?_) (fun q4 => ?_)
  · replace W := W.1 q4
    refine ts_aload_n 0 (pc' := 15) rfl dX12_feed_14 rfl rfl ?_
    obtain ⟨c5, W⟩ := W
    refine ts_getI (pc' := 18) (ci := 11) 6 cfX12.1 cfX12.2.1 cfX12.2.2 rfl (by decide) hnX12_feed_X12 flX12_feed_88 rfl dX12_feed_15 c5 ?_
    refine ts_bipush (v := 90) (pc' := 20) rfl dX12_feed_18 (by decide) ?_
    refine ts_icmp_ne (pc' := 23) (tgt := 26) rfl dX12_feed_20 (by decide) (fun q6 => ?_) (fun q6 => ?_)
    · replace W := W.1 q6
      refine ts_aload_n 0 (pc' := 27) rfl dX12_feed_26 rfl rfl ?_
      obtain ⟨c7, W⟩ := W
      refine ts_getR (pc' := 30) (ci := 11) 5 cfX12.1 cfX12.2.1 cfX12.2.2 rfl (by decide) hnX12_feed_X12 flX12_feed_22 rfl dX12_feed_27 c5 c7 ?_
      refine ts_aload_n 0 (pc' := 31) rfl dX12_feed_30 rfl rfl ?_
      refine ts_getI (pc' := 34) (ci := 11) 6 cfX12.1 cfX12.2.1 cfX12.2.2 rfl (by decide) hnX12_feed_X12 flX12_feed_88 rfl dX12_feed_31 c5 ?_
      refine ts_iload_n 1 (pc' := 35) rfl dX12_feed_34 rfl rfl ?_
      obtain ⟨c8, W⟩ := W
      obtain ⟨c9, W⟩ := W
      refine ts_iastore (pc' := 36) rfl dX12_feed_35 c8 c9 ?_
      obtain ⟨hi10, ehi10⟩ : ∃ z, z = ts_up hi1 (g.2.2.2 o 5) (hi1 o 6).toNatClampNeg p0 := ⟨_, rfl⟩
      rw [← ehi10]; replace W := W hi10 ehi10
      refine ts_aload_n 0 (pc' := 37) rfl dX12_feed_36 rfl rfl ?_
      refine ts_dup (pc' := 38) rfl dX12_feed_37 rfl ?_
      refine ts_getI (pc' := 41) (ci := 11) 6 cfX12.1 cfX12.2.1 cfX12.2.2 rfl (by decide) hnX12_feed_X12 flX12_feed_88 rfl dX12_feed_38 c5 ?_
      refine ts_iconst (v := 1) (pc' := 42) rfl dX12_feed_41 (by decide) ?_
      refine ts_iadd (pc' := 43) rfl dX12_feed_42 ?_
      refine ts_putI (pc' := 46) (ci := 11) 6 cfX12.1 cfX12.2.1 cfX12.2.2 rfl (by decide) hnX12_feed_X12 flX12_feed_88 tyX12_ok nmX12 rfl rfl rfl dX12_feed_43 c5 ?_
      obtain ⟨hi11, ehi11⟩ : ∃ z, z = ts_up hi10 o 6 ((hi10 o 6) + 1) := ⟨_, rfl⟩
      rw [← ehi11]; replace W := W hi11 ehi11
      refine ts_aload_n 0 (pc' := 47) rfl dX12_feed_46 rfl rfl ?_
      refine ts_getI (pc' := 50) (ci := 11) 6 cfX12.1 cfX12.2.1 cfX12.2.2 rfl (by decide) hnX12_feed_X12 flX12_feed_88 rfl dX12_feed_47 c5 ?_
      exact ts_iret dX12_feed_50 rfl (Nat.le_refl _) (Nat.le_refl _) ⟨rfl, _, rfl, W⟩
    · replace W := W.2 q6
      refine ts_ldc (v := (-1000003)) (pc' := 25) rfl dX12_feed_23 (by decide +kernel) ?_
      exact ts_iret dX12_feed_25 rfl (Nat.le_refl _) (Nat.le_refl _) ⟨rfl, _, rfl, W⟩
  · replace W := W.2 q4
    refine ts_ldc (v := (-1000001)) (pc' := 13) rfl dX12_feed_11 (by decide +kernel) ?_
    exact ts_iret dX12_feed_13 rfl (Nat.le_refl _) (Nat.le_refl _) ⟨rfl, _, rfl, W⟩
theorem hnX12_byteAt_X12 : ∀ w ∈ u_ws RX12 TX12 25, w ∈ wsX12_byteAt := by decide +kernel
theorem flX12_byteAt_22 : Cond.fieldLink RX12 22 "TurnipSquiresModel" "tape" "[I" ∈ wsX12_byteAt := by decide +kernel
theorem flX12_byteAt_88 : Cond.fieldLink RX12 88 "TurnipSquiresModel" "taped" "I" ∈ wsX12_byteAt := by decide +kernel
set_option maxHeartbeats 4000000 in
theorem wX12_byteAt_0 {d : Nat} {g : ts_G} {Q : Int32 → ts_I → ts_K → Prop} {o : Nat} {p0 : Int32} {hi : ts_I} {hk : ts_K} (W : (g.2.1 o = 11) ∧ (((hi o 6) ≤ p0) → Q (-1) hi hk) ∧ (¬ ((hi o 6) ≤ p0) → (g.2.2.2 o 5 ≠ 0) ∧ (g.2.1 (g.2.2.2 o 5) = 100) ∧ (vp_in p0 (g.2.2.1 (g.2.2.2 o 5))) ∧ Q (hi (g.2.2.2 o 5) p0.toNatClampNeg) hi hk)) : ts_J0 d mX12_byteAt (ts_qi Q) g 0 [(0, .ref o), (1, .int p0)] [] hi hk := by
  refine ts_iload_n 1 (pc' := 1) rfl dX12_byteAt_0 rfl rfl ?_
  refine ts_aload_n 0 (pc' := 2) rfl dX12_byteAt_1 rfl rfl ?_
  obtain ⟨c1, W⟩ := W
  refine ts_getI (pc' := 5) (ci := 11) 6 cfX12.1 cfX12.2.1 cfX12.2.2 rfl (by decide) hnX12_byteAt_X12 flX12_byteAt_88 rfl dX12_byteAt_2 c1 ?_
  refine ts_icmp_ge (pc' := 8) (tgt := 17) rfl dX12_byteAt_5 (by decide) (fun q2 => ?_) (fun q2 => ?_)
  · replace W := W.1 q2
    refine ts_iconst (v := (-1)) (pc' := 18) rfl dX12_byteAt_17 (by decide) ?_
    exact ts_iret dX12_byteAt_18 rfl (Nat.le_refl _) (Nat.le_refl _) ⟨rfl, _, rfl, W⟩
  · replace W := W.2 q2
    refine ts_aload_n 0 (pc' := 9) rfl dX12_byteAt_8 rfl rfl ?_
    obtain ⟨c3, W⟩ := W
    refine ts_getR (pc' := 12) (ci := 11) 5 cfX12.1 cfX12.2.1 cfX12.2.2 rfl (by decide) hnX12_byteAt_X12 flX12_byteAt_22 rfl dX12_byteAt_9 c1 c3 ?_
    refine ts_iload_n 1 (pc' := 13) rfl dX12_byteAt_12 rfl rfl ?_
    obtain ⟨c4, W⟩ := W
    obtain ⟨c5, W⟩ := W
    refine ts_iaload (pc' := 14) rfl dX12_byteAt_13 c4 c5 ?_
    refine ts_goto (tgt := 18) dX12_byteAt_14 (by decide) ?_
    exact ts_iret dX12_byteAt_18 rfl (Nat.le_refl _) (Nat.le_refl _) ⟨rfl, _, rfl, W⟩
theorem hnX12_advances_X12 : ∀ w ∈ u_ws RX12 TX12 25, w ∈ wsX12_advances := by decide +kernel
theorem flX12_advances_92 : Cond.fieldLink RX12 92 "TurnipSquiresModel" "at" "I" ∈ wsX12_advances := by decide +kernel
theorem flX12_advances_95 : Cond.fieldLink RX12 95 "TurnipSquiresModel" "start" "I" ∈ wsX12_advances := by decide +kernel
theorem flX12_advances_101 : Cond.fieldLink RX12 101 "TurnipSquiresModel" "value" "I" ∈ wsX12_advances := by decide +kernel
theorem flX12_advances_104 : Cond.fieldLink RX12 104 "TurnipSquiresModel" "token" "I" ∈ wsX12_advances := by decide +kernel
set_option maxHeartbeats 4000000 in
theorem wX12_advances_0 {d : Nat} {g : ts_G} {Q : ts_I → ts_K → Prop} {o : Nat} {hi : ts_I} {hk : ts_K} (W : (g.2.1 o = 11) ∧ ∀ hi2 : ts_I, hi2 = ts_up hi o 10 (hi o 9) → ts_E0 d mX12_byteAt [.ref o, .int (hi2 o 9)] g hi2 hk (ts_qi (fun v5 hi3 hk4 => ∀ hi6 : ts_I, hi6 = ts_up hi3 o 12 v5 → ts_E0 d mX12_in [.int v5, .int 48, .int 57] g hi6 hk4 (ts_qi (fun v9 hi7 hk8 => ((v9 = 0) → ((0 ≤ v5) → ts_E0 d mX12_in [.int v5, .int 97, .int 122] g hi7 hk8 (ts_qi (fun v14 hi12 hk13 => ((v14 = 0) → ((v5 ≠ 44) → ((v5 ≠ 59) → ts_J0 (d + 1) mX12_advances (ts_qv Q) g 180 [(0, .ref o)] [.int 5, .ref o] hi12 hk13) ∧ (¬ (v5 ≠ 59) → ts_J0 (d + 1) mX12_advances (ts_qv Q) g 180 [(0, .ref o)] [.int 4, .ref o] hi12 hk13)) ∧ (¬ (v5 ≠ 44) → ts_J0 (d + 1) mX12_advances (ts_qv Q) g 180 [(0, .ref o)] [.int 3, .ref o] hi12 hk13)) ∧ (¬ (v14 = 0) → ts_J0 (d + 1) mX12_advances (ts_qv Q) g 180 [(0, .ref o)] [.int 1, .ref o] hi12 hk13)))) ∧ (¬ (0 ≤ v5) → ts_J0 (d + 1) mX12_advances (ts_qv Q) g 180 [(0, .ref o)] [.int 0, .ref o] hi7 hk8)) ∧ (¬ (v9 = 0) → ∀ hi18 : ts_I, hi18 = ts_up hi7 o 12 0 → ts_J0 (d + 1) mX12_advances (ts_qv Q) g 38 [(0, .ref o)] [] hi18 hk8)))))) : ts_J0 (d + 1) mX12_advances (ts_qv Q) g 0 [(0, .ref o)] [] hi hk := by
  refine ts_aload_n 0 (pc' := 1) rfl dX12_advances_0 rfl rfl ?_
  refine ts_aload_n 0 (pc' := 2) rfl dX12_advances_1 rfl rfl ?_
  obtain ⟨c1, W⟩ := W
  refine ts_getI (pc' := 5) (ci := 11) 9 cfX12.1 cfX12.2.1 cfX12.2.2 rfl (by decide) hnX12_advances_X12 flX12_advances_92 rfl dX12_advances_2 c1 ?_
  refine ts_putI (pc' := 8) (ci := 11) 10 cfX12.1 cfX12.2.1 cfX12.2.2 rfl (by decide) hnX12_advances_X12 flX12_advances_95 tyX12_ok nmX12 rfl rfl rfl dX12_advances_5 c1 ?_
  obtain ⟨hi2, ehi2⟩ : ∃ z, z = ts_up hi o 10 (hi o 9) := ⟨_, rfl⟩
  rw [← ehi2]; replace W := W hi2 ehi2
  refine ts_aload_n 0 (pc' := 9) rfl dX12_advances_8 rfl rfl ?_
  refine ts_aload_n 0 (pc' := 10) rfl dX12_advances_9 rfl rfl ?_
  refine ts_getI (pc' := 13) (ci := 11) 9 cfX12.1 cfX12.2.1 cfX12.2.2 rfl (by decide) hnX12_advances_X12 flX12_advances_92 rfl dX12_advances_10 c1 ?_
  refine ts_callV (M' := mX12_byteAt) (C := RX12) (pc' := 16) (av := [.int (hi2 o 9)]) (b := o) rfl dX12_advances_13 rfl gX12_advances_X12_byteAt rfl dvX12_byteAt rfl (ci := 11) cfX12.1 (by decide) c1 (Nat.le_refl _) (Nat.le_of_ble_eq_true rfl) (Nat.le_of_ble_eq_true rfl) (Nat.le_refl _) (Nat.le_refl _) ts_kv0 W (ts_kki fun v5 hi3 hk4 W => ?_)
  refine ts_istore_n (pc' := 17) (ls' := [(1, .int v5), (0, .ref o)]) rfl dX12_advances_16 rfl (Nat.le_of_ble_eq_true rfl) rfl ?_
  refine ts_aload_n 1 (pc' := 18) rfl dX12_advances_17 rfl rfl ?_
  refine ts_iload_n 0 (pc' := 19) rfl dX12_advances_18 rfl rfl ?_
  refine ts_putI (pc' := 22) (ci := 11) 12 cfX12.1 cfX12.2.1 cfX12.2.2 rfl (by decide) hnX12_advances_X12 flX12_advances_101 tyX12_ok nmX12 rfl rfl rfl dX12_advances_19 c1 ?_
  obtain ⟨hi6, ehi6⟩ : ∃ z, z = ts_up hi3 o 12 v5 := ⟨_, rfl⟩
  rw [← ehi6]; replace W := W hi6 ehi6
  refine ts_iload_n 0 (pc' := 23) rfl dX12_advances_22 rfl rfl ?_
  refine ts_bipush (v := 48) (pc' := 25) rfl dX12_advances_23 (by decide) ?_
  refine ts_bipush (v := 57) (pc' := 27) rfl dX12_advances_25 (by decide) ?_
  refine ts_callS (M' := mX12_in) (pc' := 30) (av := [.int v5, .int 48, .int 57]) rfl dX12_advances_27 rfl gX12_advances_X12_in rfl dsX12_in rfl (Nat.le_refl _) (Nat.le_of_ble_eq_true rfl) (Nat.le_of_ble_eq_true rfl) (Nat.le_refl _) (Nat.le_refl _) ts_kv0 W (ts_kki fun v9 hi7 hk8 W => ?_)
  refine ts_if_eq (pc' := 33) (tgt := 135) rfl dX12_advances_30 (by decide) (fun q10 => ?_) (fun q10 => ?_)
  · replace W := W.1 q10
    refine ts_aload_n 1 (pc' := 136) rfl dX12_advances_135 rfl rfl ?_
    refine ts_iload_n 0 (pc' := 137) rfl dX12_advances_136 rfl rfl ?_
    refine ts_if_ge (pc' := 140) (tgt := 144) rfl dX12_advances_137 (by decide) (fun q11 => ?_) (fun q11 => ?_)
    · replace W := W.1 q11
      refine ts_iload_n 0 (pc' := 145) rfl dX12_advances_144 rfl rfl ?_
      refine ts_bipush (v := 97) (pc' := 147) rfl dX12_advances_145 (by decide) ?_
      refine ts_bipush (v := 122) (pc' := 149) rfl dX12_advances_147 (by decide) ?_
      refine ts_callS (M' := mX12_in) (pc' := 152) (av := [.int v5, .int 97, .int 122]) rfl dX12_advances_149 rfl gX12_advances_X12_in rfl dsX12_in rfl (Nat.le_refl _) (Nat.le_of_ble_eq_true rfl) (Nat.le_of_ble_eq_true rfl) (Nat.le_refl _) (Nat.le_refl _) ts_kv0 W (ts_kki fun v14 hi12 hk13 W => ?_)
      refine ts_if_eq (pc' := 155) (tgt := 159) rfl dX12_advances_152 (by decide) (fun q15 => ?_) (fun q15 => ?_)
      · replace W := W.1 q15
        refine ts_iload_n 0 (pc' := 160) rfl dX12_advances_159 rfl rfl ?_
        refine ts_bipush (v := 44) (pc' := 162) rfl dX12_advances_160 (by decide) ?_
        refine ts_icmp_ne (pc' := 165) (tgt := 169) rfl dX12_advances_162 (by decide) (fun q16 => ?_) (fun q16 => ?_)
        · replace W := W.1 q16
          refine ts_iload_n 0 (pc' := 170) rfl dX12_advances_169 rfl rfl ?_
          refine ts_bipush (v := 59) (pc' := 172) rfl dX12_advances_170 (by decide) ?_
          refine ts_icmp_ne (pc' := 175) (tgt := 179) rfl dX12_advances_172 (by decide) (fun q17 => ?_) (fun q17 => ?_)
          · replace W := W.1 q17
            refine ts_iconst (v := 5) (pc' := 180) rfl dX12_advances_179 (by decide) ?_
            exact ts_sub [1] rfl W
          · replace W := W.2 q17
            refine ts_iconst (v := 4) (pc' := 176) rfl dX12_advances_175 (by decide) ?_
            refine ts_goto (tgt := 180) dX12_advances_176 (by decide) ?_
            exact ts_sub [1] rfl W
        · replace W := W.2 q16
          refine ts_iconst (v := 3) (pc' := 166) rfl dX12_advances_165 (by decide) ?_
          refine ts_goto (tgt := 180) dX12_advances_166 (by decide) ?_
          exact ts_sub [1] rfl W
      · replace W := W.2 q15
        refine ts_iconst (v := 1) (pc' := 156) rfl dX12_advances_155 (by decide) ?_
        refine ts_goto (tgt := 180) dX12_advances_156 (by decide) ?_
        exact ts_sub [1] rfl W
    · replace W := W.2 q11
      refine ts_iconst (v := 0) (pc' := 141) rfl dX12_advances_140 (by decide) ?_
      refine ts_goto (tgt := 180) dX12_advances_141 (by decide) ?_
      exact ts_sub [1] rfl W
  · replace W := W.2 q10
    refine ts_aload_n 1 (pc' := 34) rfl dX12_advances_33 rfl rfl ?_
    refine ts_iconst (v := 0) (pc' := 35) rfl dX12_advances_34 (by decide) ?_
    refine ts_putI (pc' := 38) (ci := 11) 12 cfX12.1 cfX12.2.1 cfX12.2.2 rfl (by decide) hnX12_advances_X12 flX12_advances_101 tyX12_ok nmX12 rfl rfl rfl dX12_advances_35 c1 ?_
    obtain ⟨hi18, ehi18⟩ : ∃ z, z = ts_up hi7 o 12 0 := ⟨_, rfl⟩
    rw [← ehi18]; replace W := W hi18 ehi18
    exact ts_sub [1] rfl W
set_option maxHeartbeats 4000000 in
theorem wX12_advances_180 {d : Nat} {g : ts_G} {Q : ts_I → ts_K → Prop} {l0 : Nat} {s0 : Int32} {s1 : Nat} {hi : ts_I} {hk : ts_K} (W : (g.2.1 s1 = 11) ∧ ∀ hi2 : ts_I, hi2 = ts_up hi s1 11 s0 → (g.2.1 l0 = 11) ∧ (((hi2 l0 11) ≠ 0) → ∀ hi5 : ts_I, hi5 = ts_up hi2 l0 9 ((hi2 l0 9) + 1) → Q hi5 hk) ∧ (¬ ((hi2 l0 11) ≠ 0) → ∀ hi6 : ts_I, hi6 = ts_up hi2 l0 9 ((hi2 l0 9) + 0) → Q hi6 hk)) : ts_J0 (d + 1) mX12_advances (ts_qv Q) g 180 [(0, .ref l0)] [.int s0, .ref s1] hi hk := by
  obtain ⟨c1, W⟩ := W
  refine ts_putI (pc' := 183) (ci := 11) 11 cfX12.1 cfX12.2.1 cfX12.2.2 rfl (by decide) hnX12_advances_X12 flX12_advances_104 tyX12_ok nmX12 rfl rfl rfl dX12_advances_180 c1 ?_
  obtain ⟨hi2, ehi2⟩ : ∃ z, z = ts_up hi s1 11 s0 := ⟨_, rfl⟩
  rw [← ehi2]; replace W := W hi2 ehi2
  refine ts_aload_n 0 (pc' := 184) rfl dX12_advances_183 rfl rfl ?_
  refine ts_dup (pc' := 185) rfl dX12_advances_184 rfl ?_
  obtain ⟨c3, W⟩ := W
  refine ts_getI (pc' := 188) (ci := 11) 9 cfX12.1 cfX12.2.1 cfX12.2.2 rfl (by decide) hnX12_advances_X12 flX12_advances_92 rfl dX12_advances_185 c3 ?_
  refine ts_aload_n 0 (pc' := 189) rfl dX12_advances_188 rfl rfl ?_
  refine ts_getI (pc' := 192) (ci := 11) 11 cfX12.1 cfX12.2.1 cfX12.2.2 rfl (by decide) hnX12_advances_X12 flX12_advances_104 rfl dX12_advances_189 c3 ?_
  refine ts_if_ne (pc' := 195) (tgt := 199) rfl dX12_advances_192 (by decide) (fun q4 => ?_) (fun q4 => ?_)
  · replace W := W.1 q4
    refine ts_iconst (v := 1) (pc' := 200) rfl dX12_advances_199 (by decide) ?_
    refine ts_iadd (pc' := 201) rfl dX12_advances_200 ?_
    refine ts_putI (pc' := 204) (ci := 11) 9 cfX12.1 cfX12.2.1 cfX12.2.2 rfl (by decide) hnX12_advances_X12 flX12_advances_92 tyX12_ok nmX12 rfl rfl rfl dX12_advances_201 c3 ?_
    obtain ⟨hi5, ehi5⟩ : ∃ z, z = ts_up hi2 l0 9 ((hi2 l0 9) + 1) := ⟨_, rfl⟩
    rw [← ehi5]; replace W := W hi5 ehi5
    exact ts_vret dX12_advances_204 rfl (Nat.le_refl _) (Nat.le_refl _) ⟨rfl, rfl, W⟩
  · replace W := W.2 q4
    refine ts_iconst (v := 0) (pc' := 196) rfl dX12_advances_195 (by decide) ?_
    refine ts_goto (tgt := 200) dX12_advances_196 (by decide) ?_
    refine ts_iadd (pc' := 201) rfl dX12_advances_200 ?_
    refine ts_putI (pc' := 204) (ci := 11) 9 cfX12.1 cfX12.2.1 cfX12.2.2 rfl (by decide) hnX12_advances_X12 flX12_advances_92 tyX12_ok nmX12 rfl rfl rfl dX12_advances_201 c3 ?_
    obtain ⟨hi6, ehi6⟩ : ∃ z, z = ts_up hi2 l0 9 ((hi2 l0 9) + 0) := ⟨_, rfl⟩
    rw [← ehi6]; replace W := W hi6 ehi6
    exact ts_vret dX12_advances_204 rfl (Nat.le_refl _) (Nat.le_refl _) ⟨rfl, rfl, W⟩
set_option maxHeartbeats 4000000 in
theorem wX12_advances_38 {d : Nat} {g : ts_G} {Q : ts_I → ts_K → Prop} {l0 : Nat} {hi : ts_I} {hk : ts_K} (W : (g.2.1 l0 = 11) ∧ ts_E0 d mX12_byteAt [.ref l0, .int (hi l0 9)] g hi hk (ts_qi (fun v4 hi2 hk3 => ts_E0 d mX12_in [.int v4, .int 48, .int 57] g hi2 hk3 (ts_qi (fun v7 hi5 hk6 => ((v7 = 0) → ((3 ≤ ((hi5 l0 9) - (hi5 l0 10))) → ∀ hi10 : ts_I, hi10 = ts_up hi5 l0 11 5 → Q hi10 hk6) ∧ (¬ (3 ≤ ((hi5 l0 9) - (hi5 l0 10))) → ∀ hi11 : ts_I, hi11 = ts_up hi5 l0 11 2 → Q hi11 hk6)) ∧ (¬ (v7 = 0) → ((2 ≤ ((hi5 l0 9) - (hi5 l0 10))) → ∀ hi13 : ts_I, hi13 = ts_up hi5 l0 12 (hi5 l0 12) → ∀ hi14 : ts_I, hi14 = ts_up hi13 l0 9 ((hi13 l0 9) + 1) → ts_J0 (d + 1) mX12_advances (ts_qv Q) g 38 [(0, .ref l0)] [] hi14 hk6) ∧ (¬ (2 ≤ ((hi5 l0 9) - (hi5 l0 10))) → ts_E0 d mX12_byteAt [.ref l0, .int (hi5 l0 9)] g hi5 hk6 (ts_qi (fun v17 hi15 hk16 => ∀ hi18 : ts_I, hi18 = ts_up hi15 l0 12 (((10 * (hi5 l0 12)) + v17) - 48) → ∀ hi19 : ts_I, hi19 = ts_up hi18 l0 9 ((hi18 l0 9) + 1) → ts_J0 (d + 1) mX12_advances (ts_qv Q) g 38 [(0, .ref l0)] [] hi19 hk16))))))))) : ts_J0 (d + 1) mX12_advances (ts_qv Q) g 38 [(0, .ref l0)] [] hi hk := by
  refine ts_aload_n 0 (pc' := 39) rfl dX12_advances_38 rfl rfl ?_
  refine ts_aload_n 0 (pc' := 40) rfl dX12_advances_39 rfl rfl ?_
  obtain ⟨c1, W⟩ := W
  refine ts_getI (pc' := 43) (ci := 11) 9 cfX12.1 cfX12.2.1 cfX12.2.2 rfl (by decide) hnX12_advances_X12 flX12_advances_92 rfl dX12_advances_40 c1 ?_
  refine ts_callV (M' := mX12_byteAt) (C := RX12) (pc' := 46) (av := [.int (hi l0 9)]) (b := l0) rfl dX12_advances_43 rfl gX12_advances_X12_byteAt rfl dvX12_byteAt rfl (ci := 11) cfX12.1 (by decide) c1 (Nat.le_refl _) (Nat.le_of_ble_eq_true rfl) (Nat.le_of_ble_eq_true rfl) (Nat.le_refl _) (Nat.le_refl _) ts_kv0 W (ts_kki fun v4 hi2 hk3 W => ?_)
  refine ts_bipush (v := 48) (pc' := 48) rfl dX12_advances_46 (by decide) ?_
  refine ts_bipush (v := 57) (pc' := 50) rfl dX12_advances_48 (by decide) ?_
  refine ts_callS (M' := mX12_in) (pc' := 53) (av := [.int v4, .int 48, .int 57]) rfl dX12_advances_50 rfl gX12_advances_X12_in rfl dsX12_in rfl (Nat.le_refl _) (Nat.le_of_ble_eq_true rfl) (Nat.le_of_ble_eq_true rfl) (Nat.le_refl _) (Nat.le_refl _) ts_kv0 W (ts_kki fun v7 hi5 hk6 W => ?_)
  refine ts_if_eq (pc' := 56) (tgt := 112) rfl dX12_advances_53 (by decide) (fun q8 => ?_) (fun q8 => ?_)
  · replace W := W.1 q8
    refine ts_aload_n 0 (pc' := 113) rfl dX12_advances_112 rfl rfl ?_
    refine ts_aload_n 0 (pc' := 114) rfl dX12_advances_113 rfl rfl ?_
    refine ts_getI (pc' := 117) (ci := 11) 9 cfX12.1 cfX12.2.1 cfX12.2.2 rfl (by decide) hnX12_advances_X12 flX12_advances_92 rfl dX12_advances_114 c1 ?_
    refine ts_aload_n 0 (pc' := 118) rfl dX12_advances_117 rfl rfl ?_
    refine ts_getI (pc' := 121) (ci := 11) 10 cfX12.1 cfX12.2.1 cfX12.2.2 rfl (by decide) hnX12_advances_X12 flX12_advances_95 rfl dX12_advances_118 c1 ?_
    refine ts_isub (pc' := 122) rfl dX12_advances_121 ?_
    refine ts_iconst (v := 3) (pc' := 123) rfl dX12_advances_122 (by decide) ?_
    refine ts_icmp_ge (pc' := 126) (tgt := 130) rfl dX12_advances_123 (by decide) (fun q9 => ?_) (fun q9 => ?_)
    · replace W := W.1 q9
      refine ts_iconst (v := 5) (pc' := 131) rfl dX12_advances_130 (by decide) ?_
      refine ts_putI (pc' := 134) (ci := 11) 11 cfX12.1 cfX12.2.1 cfX12.2.2 rfl (by decide) hnX12_advances_X12 flX12_advances_104 tyX12_ok nmX12 rfl rfl rfl dX12_advances_131 c1 ?_
      obtain ⟨hi10, ehi10⟩ : ∃ z, z = ts_up hi5 l0 11 5 := ⟨_, rfl⟩
      rw [← ehi10]; replace W := W hi10 ehi10
      exact ts_vret dX12_advances_134 rfl (Nat.le_refl _) (Nat.le_refl _) ⟨rfl, rfl, W⟩
    · replace W := W.2 q9
      refine ts_iconst (v := 2) (pc' := 127) rfl dX12_advances_126 (by decide) ?_
      refine ts_goto (tgt := 131) dX12_advances_127 (by decide) ?_
      refine ts_putI (pc' := 134) (ci := 11) 11 cfX12.1 cfX12.2.1 cfX12.2.2 rfl (by decide) hnX12_advances_X12 flX12_advances_104 tyX12_ok nmX12 rfl rfl rfl dX12_advances_131 c1 ?_
      obtain ⟨hi11, ehi11⟩ : ∃ z, z = ts_up hi5 l0 11 2 := ⟨_, rfl⟩
      rw [← ehi11]; replace W := W hi11 ehi11
      exact ts_vret dX12_advances_134 rfl (Nat.le_refl _) (Nat.le_refl _) ⟨rfl, rfl, W⟩
  · replace W := W.2 q8
    refine ts_aload_n 0 (pc' := 57) rfl dX12_advances_56 rfl rfl ?_
    refine ts_aload_n 0 (pc' := 58) rfl dX12_advances_57 rfl rfl ?_
    refine ts_getI (pc' := 61) (ci := 11) 9 cfX12.1 cfX12.2.1 cfX12.2.2 rfl (by decide) hnX12_advances_X12 flX12_advances_92 rfl dX12_advances_58 c1 ?_
    refine ts_aload_n 0 (pc' := 62) rfl dX12_advances_61 rfl rfl ?_
    refine ts_getI (pc' := 65) (ci := 11) 10 cfX12.1 cfX12.2.1 cfX12.2.2 rfl (by decide) hnX12_advances_X12 flX12_advances_95 rfl dX12_advances_62 c1 ?_
    refine ts_isub (pc' := 66) rfl dX12_advances_65 ?_
    refine ts_iconst (v := 2) (pc' := 67) rfl dX12_advances_66 (by decide) ?_
    refine ts_icmp_ge (pc' := 70) (tgt := 92) rfl dX12_advances_67 (by decide) (fun q12 => ?_) (fun q12 => ?_)
    · replace W := W.1 q12
      refine ts_aload_n 0 (pc' := 93) rfl dX12_advances_92 rfl rfl ?_
      refine ts_getI (pc' := 96) (ci := 11) 12 cfX12.1 cfX12.2.1 cfX12.2.2 rfl (by decide) hnX12_advances_X12 flX12_advances_101 rfl dX12_advances_93 c1 ?_
      refine ts_putI (pc' := 99) (ci := 11) 12 cfX12.1 cfX12.2.1 cfX12.2.2 rfl (by decide) hnX12_advances_X12 flX12_advances_101 tyX12_ok nmX12 rfl rfl rfl dX12_advances_96 c1 ?_
      obtain ⟨hi13, ehi13⟩ : ∃ z, z = ts_up hi5 l0 12 (hi5 l0 12) := ⟨_, rfl⟩
      rw [← ehi13]; replace W := W hi13 ehi13
      refine ts_aload_n 0 (pc' := 100) rfl dX12_advances_99 rfl rfl ?_
      refine ts_dup (pc' := 101) rfl dX12_advances_100 rfl ?_
      refine ts_getI (pc' := 104) (ci := 11) 9 cfX12.1 cfX12.2.1 cfX12.2.2 rfl (by decide) hnX12_advances_X12 flX12_advances_92 rfl dX12_advances_101 c1 ?_
      refine ts_iconst (v := 1) (pc' := 105) rfl dX12_advances_104 (by decide) ?_
      refine ts_iadd (pc' := 106) rfl dX12_advances_105 ?_
      refine ts_putI (pc' := 109) (ci := 11) 9 cfX12.1 cfX12.2.1 cfX12.2.2 rfl (by decide) hnX12_advances_X12 flX12_advances_92 tyX12_ok nmX12 rfl rfl rfl dX12_advances_106 c1 ?_
      obtain ⟨hi14, ehi14⟩ : ∃ z, z = ts_up hi13 l0 9 ((hi13 l0 9) + 1) := ⟨_, rfl⟩
      rw [← ehi14]; replace W := W hi14 ehi14
      refine ts_goto (tgt := 38) dX12_advances_109 (by decide) ?_
      exact ts_sub [0] rfl W
    · replace W := W.2 q12
      refine ts_bipush (v := 10) (pc' := 72) rfl dX12_advances_70 (by decide) ?_
      refine ts_aload_n 0 (pc' := 73) rfl dX12_advances_72 rfl rfl ?_
      refine ts_getI (pc' := 76) (ci := 11) 12 cfX12.1 cfX12.2.1 cfX12.2.2 rfl (by decide) hnX12_advances_X12 flX12_advances_101 rfl dX12_advances_73 c1 ?_
      refine ts_imul (pc' := 77) rfl dX12_advances_76 ?_
      refine ts_aload_n 0 (pc' := 78) rfl dX12_advances_77 rfl rfl ?_
      refine ts_aload_n 0 (pc' := 79) rfl dX12_advances_78 rfl rfl ?_
      refine ts_getI (pc' := 82) (ci := 11) 9 cfX12.1 cfX12.2.1 cfX12.2.2 rfl (by decide) hnX12_advances_X12 flX12_advances_92 rfl dX12_advances_79 c1 ?_
      refine ts_callV (M' := mX12_byteAt) (C := RX12) (pc' := 85) (av := [.int (hi5 l0 9)]) (b := l0) rfl dX12_advances_82 rfl gX12_advances_X12_byteAt rfl dvX12_byteAt rfl (ci := 11) cfX12.1 (by decide) c1 (Nat.le_refl _) (Nat.le_of_ble_eq_true rfl) (Nat.le_of_ble_eq_true rfl) (Nat.le_refl _) (Nat.le_refl _) ts_kv0 W (ts_kki fun v17 hi15 hk16 W => ?_)
      refine ts_iadd (pc' := 86) rfl dX12_advances_85 ?_
      refine ts_bipush (v := 48) (pc' := 88) rfl dX12_advances_86 (by decide) ?_
      refine ts_isub (pc' := 89) rfl dX12_advances_88 ?_
      refine ts_goto (tgt := 96) dX12_advances_89 (by decide) ?_
      refine ts_putI (pc' := 99) (ci := 11) 12 cfX12.1 cfX12.2.1 cfX12.2.2 rfl (by decide) hnX12_advances_X12 flX12_advances_101 tyX12_ok nmX12 rfl rfl rfl dX12_advances_96 c1 ?_
      obtain ⟨hi18, ehi18⟩ : ∃ z, z = ts_up hi15 l0 12 (((10 * (hi5 l0 12)) + v17) - 48) := ⟨_, rfl⟩
      rw [← ehi18]; replace W := W hi18 ehi18
      refine ts_aload_n 0 (pc' := 100) rfl dX12_advances_99 rfl rfl ?_
      refine ts_dup (pc' := 101) rfl dX12_advances_100 rfl ?_
      refine ts_getI (pc' := 104) (ci := 11) 9 cfX12.1 cfX12.2.1 cfX12.2.2 rfl (by decide) hnX12_advances_X12 flX12_advances_92 rfl dX12_advances_101 c1 ?_
      refine ts_iconst (v := 1) (pc' := 105) rfl dX12_advances_104 (by decide) ?_
      refine ts_iadd (pc' := 106) rfl dX12_advances_105 ?_
      refine ts_putI (pc' := 109) (ci := 11) 9 cfX12.1 cfX12.2.1 cfX12.2.2 rfl (by decide) hnX12_advances_X12 flX12_advances_92 tyX12_ok nmX12 rfl rfl rfl dX12_advances_106 c1 ?_
      obtain ⟨hi19, ehi19⟩ : ∃ z, z = ts_up hi18 l0 9 ((hi18 l0 9) + 1) := ⟨_, rfl⟩
      rw [← ehi19]; replace W := W hi19 ehi19
      refine ts_goto (tgt := 38) dX12_advances_109 (by decide) ?_
      exact ts_sub [0] rfl W
theorem hnX12_isWell_X12 : ∀ w ∈ u_ws RX12 TX12 25, w ∈ wsX12_isWell := by decide +kernel
theorem flX12_isWell_107 : Cond.fieldLink RX12 107 "TurnipSquiresModel" "faultPlace" "I" ∈ wsX12_isWell := by decide +kernel
set_option maxHeartbeats 4000000 in
theorem wX12_isWell_0 {d : Nat} {g : ts_G} {Q : Int32 → ts_I → ts_K → Prop} {o : Nat} {hi : ts_I} {hk : ts_K} (W : (g.2.1 o = 11) ∧ ((0 ≤ (hi o 8)) → Q 0 hi hk) ∧ (¬ (0 ≤ (hi o 8)) → Q 1 hi hk)) : ts_J0 d mX12_isWell (ts_qi Q) g 0 [(0, .ref o)] [] hi hk := by
  refine ts_aload_n 0 (pc' := 1) rfl dX12_isWell_0 rfl rfl ?_
  obtain ⟨c1, W⟩ := W
  refine ts_getI (pc' := 4) (ci := 11) 8 cfX12.1 cfX12.2.1 cfX12.2.2 rfl (by decide) hnX12_isWell_X12 flX12_isWell_107 rfl dX12_isWell_1 c1 ?_
  refine ts_if_ge (pc' := 7) (tgt := 11) rfl dX12_isWell_4 (by decide) (fun q2 => ?_) (fun q2 => ?_)
  · replace W := W.1 q2
    refine ts_iconst (v := 0) (pc' := 12) rfl dX12_isWell_11 (by decide) ?_
    exact ts_zret dX12_isWell_12 rfl (by decide) (Nat.le_refl _) (Nat.le_refl _) ⟨rfl, _, rfl, W⟩
  · replace W := W.2 q2
    refine ts_iconst (v := 1) (pc' := 8) rfl dX12_isWell_7 (by decide) ?_
    refine ts_goto (tgt := 12) dX12_isWell_8 (by decide) ?_
    exact ts_zret dX12_isWell_12 rfl (by decide) (Nat.le_refl _) (Nat.le_refl _) ⟨rfl, _, rfl, W⟩
theorem hnX12_takes_X12 : ∀ w ∈ u_ws RX12 TX12 25, w ∈ wsX12_takes := by decide +kernel
theorem flX12_takes_95 : Cond.fieldLink RX12 95 "TurnipSquiresModel" "start" "I" ∈ wsX12_takes := by decide +kernel
theorem flX12_takes_101 : Cond.fieldLink RX12 101 "TurnipSquiresModel" "value" "I" ∈ wsX12_takes := by decide +kernel
theorem flX12_takes_107 : Cond.fieldLink RX12 107 "TurnipSquiresModel" "faultPlace" "I" ∈ wsX12_takes := by decide +kernel
theorem flX12_takes_114 : Cond.fieldLink RX12 114 "TurnipSquiresModel" "faultKind" "I" ∈ wsX12_takes := by decide +kernel
set_option maxHeartbeats 4000000 in
theorem wX12_takes_0 {d : Nat} {g : ts_G} {Q : Int32 → ts_I → ts_K → Prop} {o : Nat} {p0 : Int32} {p1 : Int32} {hi : ts_I} {hk : ts_K} (W : (g.2.1 o = 11) ∧ ts_E0 d mX12_isWell [.ref o] g hi hk (ts_qi (fun v3 hi1 hk2 => ((v3 ≠ 0) → ((p0 ≠ 0) → ts_E0 d mX12_advances [.ref o] g hi1 hk2 (ts_qv (fun hi7 hk8 => Q (hi1 o 12) hi7 hk8))) ∧ (¬ (p0 ≠ 0) → ∀ hi9 : ts_I, hi9 = ts_up hi1 o 8 (hi1 o 10) → ∀ hi10 : ts_I, hi10 = ts_up hi9 o 7 p1 → Q 0 hi10 hk2)) ∧ (¬ (v3 ≠ 0) → Q 0 hi1 hk2)))) : ts_J0 (d + 1) mX12_takes (ts_qi Q) g 0 [(0, .ref o), (1, .int p0), (2, .int p1)] [] hi hk := by
  refine ts_aload_n 0 (pc' := 1) rfl dX12_takes_0 rfl rfl ?_
  obtain ⟨c4, W⟩ := W
  refine ts_callV (M' := mX12_isWell) (C := RX12) (pc' := 4) (av := []) (b := o) rfl dX12_takes_1 rfl gX12_takes_X12_isWell rfl dvX12_isWell rfl (ci := 11) cfX12.1 (by decide) c4 (Nat.le_refl _) (Nat.le_of_ble_eq_true rfl) (Nat.le_of_ble_eq_true rfl) (Nat.le_refl _) (Nat.le_refl _) ts_kv0 W (ts_kki fun v3 hi1 hk2 W => ?_)
  refine ts_if_ne (pc' := 7) (tgt := 9) rfl dX12_takes_4 (by decide) (fun q5 => ?_) (fun q5 => ?_)
  · replace W := W.1 q5
    refine ts_iload_n 1 (pc' := 10) rfl dX12_takes_9 rfl rfl ?_
    refine ts_if_ne (pc' := 13) (tgt := 28) rfl dX12_takes_10 (by decide) (fun q6 => ?_) (fun q6 => ?_)
    · replace W := W.1 q6
      refine ts_aload_n 0 (pc' := 29) rfl dX12_takes_28 rfl rfl ?_
      refine ts_getI (pc' := 32) (ci := 11) 12 cfX12.1 cfX12.2.1 cfX12.2.2 rfl (by decide) hnX12_takes_X12 flX12_takes_101 rfl dX12_takes_29 c4 ?_
      refine ts_istore_n (pc' := 33) (ls' := [(3, .int (hi1 o 12)), (0, .ref o), (1, .int p0), (2, .int p1)]) rfl dX12_takes_32 rfl (Nat.le_of_ble_eq_true rfl) rfl ?_
      refine ts_aload_n 1 (pc' := 34) rfl dX12_takes_33 rfl rfl ?_
      refine ts_callV (M' := mX12_advances) (C := RX12) (pc' := 37) (av := []) (b := o) rfl dX12_takes_34 rfl gX12_takes_X12_advances rfl dvX12_advances rfl (ci := 11) cfX12.1 (by decide) c4 (Nat.le_refl _) (Nat.le_of_ble_eq_true rfl) (Nat.le_of_ble_eq_true rfl) (Nat.le_refl _) (Nat.le_refl _) ts_kv0 W (ts_kkv fun hi7 hk8 W => ?_)
      refine ts_iload_n 0 (pc' := 38) rfl dX12_takes_37 rfl rfl ?_
      exact ts_iret dX12_takes_38 rfl (Nat.le_refl _) (Nat.le_refl _) ⟨rfl, _, rfl, W⟩
    · replace W := W.2 q6
      refine ts_aload_n 0 (pc' := 14) rfl dX12_takes_13 rfl rfl ?_
      refine ts_aload_n 0 (pc' := 15) rfl dX12_takes_14 rfl rfl ?_
      refine ts_getI (pc' := 18) (ci := 11) 10 cfX12.1 cfX12.2.1 cfX12.2.2 rfl (by decide) hnX12_takes_X12 flX12_takes_95 rfl dX12_takes_15 c4 ?_
      refine ts_putI (pc' := 21) (ci := 11) 8 cfX12.1 cfX12.2.1 cfX12.2.2 rfl (by decide) hnX12_takes_X12 flX12_takes_107 tyX12_ok nmX12 rfl rfl rfl dX12_takes_18 c4 ?_
      obtain ⟨hi9, ehi9⟩ : ∃ z, z = ts_up hi1 o 8 (hi1 o 10) := ⟨_, rfl⟩
      rw [← ehi9]; replace W := W hi9 ehi9
      refine ts_aload_n 0 (pc' := 22) rfl dX12_takes_21 rfl rfl ?_
      refine ts_iload_n 2 (pc' := 23) rfl dX12_takes_22 rfl rfl ?_
      refine ts_putI (pc' := 26) (ci := 11) 7 cfX12.1 cfX12.2.1 cfX12.2.2 rfl (by decide) hnX12_takes_X12 flX12_takes_114 tyX12_ok nmX12 rfl rfl rfl dX12_takes_23 c4 ?_
      obtain ⟨hi10, ehi10⟩ : ∃ z, z = ts_up hi9 o 7 p1 := ⟨_, rfl⟩
      rw [← ehi10]; replace W := W hi10 ehi10
      refine ts_iconst (v := 0) (pc' := 27) rfl dX12_takes_26 (by decide) ?_
      exact ts_iret dX12_takes_27 rfl (Nat.le_refl _) (Nat.le_refl _) ⟨rfl, _, rfl, W⟩
  · replace W := W.2 q5
    refine ts_iconst (v := 0) (pc' := 8) rfl dX12_takes_7 (by decide) ?_
    exact ts_iret dX12_takes_8 rfl (Nat.le_refl _) (Nat.le_refl _) ⟨rfl, _, rfl, W⟩
theorem hnX12_figure_X12 : ∀ w ∈ u_ws RX12 TX12 25, w ∈ wsX12_figure := by decide +kernel
theorem flX12_figure_101 : Cond.fieldLink RX12 101 "TurnipSquiresModel" "value" "I" ∈ wsX12_figure := by decide +kernel
theorem flX12_figure_104 : Cond.fieldLink RX12 104 "TurnipSquiresModel" "token" "I" ∈ wsX12_figure := by decide +kernel
set_option maxHeartbeats 4000000 in
theorem wX12_figure_0 {d : Nat} {g : ts_G} {Q : Int32 → ts_I → ts_K → Prop} {o : Nat} {p0 : Int32} {p1 : Int32} {hi : ts_I} {hk : ts_K} (W : (g.2.1 o = 11) ∧ ts_E0 d mX12_isWell [.ref o] g hi hk (ts_qi (fun v3 hi1 hk2 => ((v3 = 0) → ts_E0 d mX12_in [.int (hi1 o 12), .int p0, .int p1] g hi1 hk2 (ts_qi (fun v8 hi6 hk7 => ts_E0 d mX12_takes [.ref o, .int v8, .int 2] g hi6 hk7 (ts_qi (fun v11 hi9 hk10 => Q v11 hi9 hk10))))) ∧ (¬ (v3 = 0) → (((hi1 o 11) = 2) → ts_E0 d mX12_in [.int (hi1 o 12), .int p0, .int p1] g hi1 hk2 (ts_qi (fun v15 hi13 hk14 => ts_E0 d mX12_takes [.ref o, .int v15, .int 2] g hi13 hk14 (ts_qi (fun v18 hi16 hk17 => Q v18 hi16 hk17))))) ∧ (¬ ((hi1 o 11) = 2) → ts_E0 d mX12_takes [.ref o, .int 0, .int 1] g hi1 hk2 (ts_qi (fun v21 hi19 hk20 => Q v21 hi19 hk20))))))) : ts_J0 (d + 1) mX12_figure (ts_qi Q) g 0 [(0, .ref o), (1, .int p0), (2, .int p1)] [] hi hk := by
  refine ts_aload_n 0 (pc' := 1) rfl dX12_figure_0 rfl rfl ?_
  obtain ⟨c4, W⟩ := W
  refine ts_callV (M' := mX12_isWell) (C := RX12) (pc' := 4) (av := []) (b := o) rfl dX12_figure_1 rfl gX12_figure_X12_isWell rfl dvX12_isWell rfl (ci := 11) cfX12.1 (by decide) c4 (Nat.le_refl _) (Nat.le_of_ble_eq_true rfl) (Nat.le_of_ble_eq_true rfl) (Nat.le_refl _) (Nat.le_refl _) ts_kv0 W (ts_kki fun v3 hi1 hk2 W => ?_)
  refine ts_if_eq (pc' := 7) (tgt := 22) rfl dX12_figure_4 (by decide) (fun q5 => ?_) (fun q5 => ?_)
  · replace W := W.1 q5
    refine ts_aload_n 0 (pc' := 23) rfl dX12_figure_22 rfl rfl ?_
    refine ts_aload_n 0 (pc' := 24) rfl dX12_figure_23 rfl rfl ?_
    refine ts_getI (pc' := 27) (ci := 11) 12 cfX12.1 cfX12.2.1 cfX12.2.2 rfl (by decide) hnX12_figure_X12 flX12_figure_101 rfl dX12_figure_24 c4 ?_
    refine ts_iload_n 1 (pc' := 28) rfl dX12_figure_27 rfl rfl ?_
    refine ts_iload_n 2 (pc' := 29) rfl dX12_figure_28 rfl rfl ?_
    refine ts_callS (M' := mX12_in) (pc' := 32) (av := [.int (hi1 o 12), .int p0, .int p1]) rfl dX12_figure_29 rfl gX12_figure_X12_in rfl dsX12_in rfl (Nat.le_refl _) (Nat.le_of_ble_eq_true rfl) (Nat.le_of_ble_eq_true rfl) (Nat.le_refl _) (Nat.le_refl _) ts_kv0 W (ts_kki fun v8 hi6 hk7 W => ?_)
    refine ts_iconst (v := 2) (pc' := 33) rfl dX12_figure_32 (by decide) ?_
    refine ts_callV (M' := mX12_takes) (C := RX12) (pc' := 36) (av := [.int v8, .int 2]) (b := o) rfl dX12_figure_33 rfl gX12_figure_X12_takes rfl dvX12_takes rfl (ci := 11) cfX12.1 (by decide) c4 (Nat.le_refl _) (Nat.le_of_ble_eq_true rfl) (Nat.le_of_ble_eq_true rfl) (Nat.le_refl _) (Nat.le_refl _) ts_kv0 W (ts_kki fun v11 hi9 hk10 W => ?_)
    exact ts_iret dX12_figure_36 rfl (Nat.le_refl _) (Nat.le_refl _) ⟨rfl, _, rfl, W⟩
  · replace W := W.2 q5
    refine ts_aload_n 0 (pc' := 8) rfl dX12_figure_7 rfl rfl ?_
    refine ts_getI (pc' := 11) (ci := 11) 11 cfX12.1 cfX12.2.1 cfX12.2.2 rfl (by decide) hnX12_figure_X12 flX12_figure_104 rfl dX12_figure_8 c4 ?_
    refine ts_iconst (v := 2) (pc' := 12) rfl dX12_figure_11 (by decide) ?_
    refine ts_icmp_eq (pc' := 15) (tgt := 22) rfl dX12_figure_12 (by decide) (fun q12 => ?_) (fun q12 => ?_)
    · replace W := W.1 q12
      refine ts_aload_n 0 (pc' := 23) rfl dX12_figure_22 rfl rfl ?_
      refine ts_aload_n 0 (pc' := 24) rfl dX12_figure_23 rfl rfl ?_
      refine ts_getI (pc' := 27) (ci := 11) 12 cfX12.1 cfX12.2.1 cfX12.2.2 rfl (by decide) hnX12_figure_X12 flX12_figure_101 rfl dX12_figure_24 c4 ?_
      refine ts_iload_n 1 (pc' := 28) rfl dX12_figure_27 rfl rfl ?_
      refine ts_iload_n 2 (pc' := 29) rfl dX12_figure_28 rfl rfl ?_
      refine ts_callS (M' := mX12_in) (pc' := 32) (av := [.int (hi1 o 12), .int p0, .int p1]) rfl dX12_figure_29 rfl gX12_figure_X12_in rfl dsX12_in rfl (Nat.le_refl _) (Nat.le_of_ble_eq_true rfl) (Nat.le_of_ble_eq_true rfl) (Nat.le_refl _) (Nat.le_refl _) ts_kv0 W (ts_kki fun v15 hi13 hk14 W => ?_)
      refine ts_iconst (v := 2) (pc' := 33) rfl dX12_figure_32 (by decide) ?_
      refine ts_callV (M' := mX12_takes) (C := RX12) (pc' := 36) (av := [.int v15, .int 2]) (b := o) rfl dX12_figure_33 rfl gX12_figure_X12_takes rfl dvX12_takes rfl (ci := 11) cfX12.1 (by decide) c4 (Nat.le_refl _) (Nat.le_of_ble_eq_true rfl) (Nat.le_of_ble_eq_true rfl) (Nat.le_refl _) (Nat.le_refl _) ts_kv0 W (ts_kki fun v18 hi16 hk17 W => ?_)
      exact ts_iret dX12_figure_36 rfl (Nat.le_refl _) (Nat.le_refl _) ⟨rfl, _, rfl, W⟩
    · replace W := W.2 q12
      refine ts_aload_n 0 (pc' := 16) rfl dX12_figure_15 rfl rfl ?_
      refine ts_iconst (v := 0) (pc' := 17) rfl dX12_figure_16 (by decide) ?_
      refine ts_iconst (v := 1) (pc' := 18) rfl dX12_figure_17 (by decide) ?_
      refine ts_callV (M' := mX12_takes) (C := RX12) (pc' := 21) (av := [.int 0, .int 1]) (b := o) rfl dX12_figure_18 rfl gX12_figure_X12_takes rfl dvX12_takes rfl (ci := 11) cfX12.1 (by decide) c4 (Nat.le_refl _) (Nat.le_of_ble_eq_true rfl) (Nat.le_of_ble_eq_true rfl) (Nat.le_refl _) (Nat.le_refl _) ts_kv0 W (ts_kki fun v21 hi19 hk20 W => ?_)
      exact ts_iret dX12_figure_21 rfl (Nat.le_refl _) (Nat.le_refl _) ⟨rfl, _, rfl, W⟩
set_option maxHeartbeats 4000000 in
theorem wX12_kindOf_0 {d : Nat} {g : ts_G} {Q : Int32 → ts_I → ts_K → Prop} {p0 : Int32} {hi : ts_I} {hk : ts_K} (W : ((p0 ≠ 116) → ((p0 ≠ 111) → ((p0 ≠ 112) → ((p0 ≠ 102) → ((p0 ≠ 115) → Q 0 hi hk) ∧ (¬ (p0 ≠ 115) → Q 5 hi hk)) ∧ (¬ (p0 ≠ 102) → Q 4 hi hk)) ∧ (¬ (p0 ≠ 112) → Q 3 hi hk)) ∧ (¬ (p0 ≠ 111) → Q 2 hi hk)) ∧ (¬ (p0 ≠ 116) → Q 1 hi hk)) : ts_J0 d mX12_kindOf (ts_qi Q) g 0 [(0, .int p0)] [] hi hk := by
  refine ts_iload_n 0 (pc' := 1) rfl dX12_kindOf_0 rfl rfl ?_
  refine ts_bipush (v := 116) (pc' := 3) rfl dX12_kindOf_1 (by decide) ?_
  refine ts_icmp_ne (pc' := 6) (tgt := 10) rfl dX12_kindOf_3 (by decide) (fun q1 => ?_) (fun q1 => ?_)
  · replace W := W.1 q1
    refine ts_iload_n 0 (pc' := 11) rfl dX12_kindOf_10 rfl rfl ?_
    refine ts_bipush (v := 111) (pc' := 13) rfl dX12_kindOf_11 (by decide) ?_
    refine ts_icmp_ne (pc' := 16) (tgt := 20) rfl dX12_kindOf_13 (by decide) (fun q2 => ?_) (fun q2 => ?_)
    · replace W := W.1 q2
      refine ts_iload_n 0 (pc' := 21) rfl dX12_kindOf_20 rfl rfl ?_
      refine ts_bipush (v := 112) (pc' := 23) rfl dX12_kindOf_21 (by decide) ?_
      refine ts_icmp_ne (pc' := 26) (tgt := 30) rfl dX12_kindOf_23 (by decide) (fun q3 => ?_) (fun q3 => ?_)
      · replace W := W.1 q3
        refine ts_iload_n 0 (pc' := 31) rfl dX12_kindOf_30 rfl rfl ?_
        refine ts_bipush (v := 102) (pc' := 33) rfl dX12_kindOf_31 (by decide) ?_
        refine ts_icmp_ne (pc' := 36) (tgt := 40) rfl dX12_kindOf_33 (by decide) (fun q4 => ?_) (fun q4 => ?_)
        · replace W := W.1 q4
          refine ts_iload_n 0 (pc' := 41) rfl dX12_kindOf_40 rfl rfl ?_
          refine ts_bipush (v := 115) (pc' := 43) rfl dX12_kindOf_41 (by decide) ?_
          refine ts_icmp_ne (pc' := 46) (tgt := 50) rfl dX12_kindOf_43 (by decide) (fun q5 => ?_) (fun q5 => ?_)
          · replace W := W.1 q5
            refine ts_iconst (v := 0) (pc' := 51) rfl dX12_kindOf_50 (by decide) ?_
            exact ts_iret dX12_kindOf_51 rfl (Nat.le_refl _) (Nat.le_refl _) ⟨rfl, _, rfl, W⟩
          · replace W := W.2 q5
            refine ts_iconst (v := 5) (pc' := 47) rfl dX12_kindOf_46 (by decide) ?_
            refine ts_goto (tgt := 51) dX12_kindOf_47 (by decide) ?_
            exact ts_iret dX12_kindOf_51 rfl (Nat.le_refl _) (Nat.le_refl _) ⟨rfl, _, rfl, W⟩
        · replace W := W.2 q4
          refine ts_iconst (v := 4) (pc' := 37) rfl dX12_kindOf_36 (by decide) ?_
          refine ts_goto (tgt := 51) dX12_kindOf_37 (by decide) ?_
          exact ts_iret dX12_kindOf_51 rfl (Nat.le_refl _) (Nat.le_refl _) ⟨rfl, _, rfl, W⟩
      · replace W := W.2 q3
        refine ts_iconst (v := 3) (pc' := 27) rfl dX12_kindOf_26 (by decide) ?_
        refine ts_goto (tgt := 51) dX12_kindOf_27 (by decide) ?_
        exact ts_iret dX12_kindOf_51 rfl (Nat.le_refl _) (Nat.le_refl _) ⟨rfl, _, rfl, W⟩
    · replace W := W.2 q2
      refine ts_iconst (v := 2) (pc' := 17) rfl dX12_kindOf_16 (by decide) ?_
      refine ts_goto (tgt := 51) dX12_kindOf_17 (by decide) ?_
      exact ts_iret dX12_kindOf_51 rfl (Nat.le_refl _) (Nat.le_refl _) ⟨rfl, _, rfl, W⟩
  · replace W := W.2 q1
    refine ts_iconst (v := 1) (pc' := 7) rfl dX12_kindOf_6 (by decide) ?_
    refine ts_goto (tgt := 51) dX12_kindOf_7 (by decide) ?_
    exact ts_iret dX12_kindOf_51 rfl (Nat.le_refl _) (Nat.le_refl _) ⟨rfl, _, rfl, W⟩
theorem hnX12_follows_X12 : ∀ w ∈ u_ws RX12 TX12 25, w ∈ wsX12_follows := by decide +kernel
theorem flX12_follows_104 : Cond.fieldLink RX12 104 "TurnipSquiresModel" "token" "I" ∈ wsX12_follows := by decide +kernel
set_option maxHeartbeats 4000000 in
theorem wX12_follows_0 {d : Nat} {g : ts_G} {Q : Int32 → ts_I → ts_K → Prop} {o : Nat} {p0 : Int32} {p1 : Int32} {hi : ts_I} {hk : ts_K} (W : (g.2.1 o = 11) ∧ (((hi o 11) ≠ 3) → ts_E0 d mX12_takes [.ref o, .int 0, .int 1] g hi hk (ts_qi (fun v5 hi3 hk4 => ts_E0 d mX12_figure [.ref o, .int p0, .int p1] g hi3 hk4 (ts_qi (fun v8 hi6 hk7 => Q v8 hi6 hk7))))) ∧ (¬ ((hi o 11) ≠ 3) → ts_E0 d mX12_takes [.ref o, .int 1, .int 1] g hi hk (ts_qi (fun v11 hi9 hk10 => ts_E0 d mX12_figure [.ref o, .int p0, .int p1] g hi9 hk10 (ts_qi (fun v14 hi12 hk13 => Q v14 hi12 hk13)))))) : ts_J0 (d + 1) mX12_follows (ts_qi Q) g 0 [(0, .ref o), (1, .int p0), (2, .int p1)] [] hi hk := by
  refine ts_aload_n 0 (pc' := 1) rfl dX12_follows_0 rfl rfl ?_
  refine ts_aload_n 0 (pc' := 2) rfl dX12_follows_1 rfl rfl ?_
  obtain ⟨c1, W⟩ := W
  refine ts_getI (pc' := 5) (ci := 11) 11 cfX12.1 cfX12.2.1 cfX12.2.2 rfl (by decide) hnX12_follows_X12 flX12_follows_104 rfl dX12_follows_2 c1 ?_
  refine ts_iconst (v := 3) (pc' := 6) rfl dX12_follows_5 (by decide) ?_
  refine ts_icmp_ne (pc' := 9) (tgt := 13) rfl dX12_follows_6 (by decide) (fun q2 => ?_) (fun q2 => ?_)
  · replace W := W.1 q2
    refine ts_iconst (v := 0) (pc' := 14) rfl dX12_follows_13 (by decide) ?_
    refine ts_iconst (v := 1) (pc' := 15) rfl dX12_follows_14 (by decide) ?_
    refine ts_callV (M' := mX12_takes) (C := RX12) (pc' := 18) (av := [.int 0, .int 1]) (b := o) rfl dX12_follows_15 rfl gX12_follows_X12_takes rfl dvX12_takes rfl (ci := 11) cfX12.1 (by decide) c1 (Nat.le_refl _) (Nat.le_of_ble_eq_true rfl) (Nat.le_of_ble_eq_true rfl) (Nat.le_refl _) (Nat.le_refl _) ts_kv0 W (ts_kki fun v5 hi3 hk4 W => ?_)
    refine ts_pop (pc' := 19) rfl dX12_follows_18 rfl ?_
    refine ts_aload_n 0 (pc' := 20) rfl dX12_follows_19 rfl rfl ?_
    refine ts_iload_n 1 (pc' := 21) rfl dX12_follows_20 rfl rfl ?_
    refine ts_iload_n 2 (pc' := 22) rfl dX12_follows_21 rfl rfl ?_
    refine ts_callV (M' := mX12_figure) (C := RX12) (pc' := 25) (av := [.int p0, .int p1]) (b := o) rfl dX12_follows_22 rfl gX12_follows_X12_figure rfl dvX12_figure rfl (ci := 11) cfX12.1 (by decide) c1 (Nat.le_refl _) (Nat.le_of_ble_eq_true rfl) (Nat.le_of_ble_eq_true rfl) (Nat.le_refl _) (Nat.le_refl _) ts_kv0 W (ts_kki fun v8 hi6 hk7 W => ?_)
    exact ts_iret dX12_follows_25 rfl (Nat.le_refl _) (Nat.le_refl _) ⟨rfl, _, rfl, W⟩
  · replace W := W.2 q2
    refine ts_iconst (v := 1) (pc' := 10) rfl dX12_follows_9 (by decide) ?_
    refine ts_goto (tgt := 14) dX12_follows_10 (by decide) ?_
    refine ts_iconst (v := 1) (pc' := 15) rfl dX12_follows_14 (by decide) ?_
    refine ts_callV (M' := mX12_takes) (C := RX12) (pc' := 18) (av := [.int 1, .int 1]) (b := o) rfl dX12_follows_15 rfl gX12_follows_X12_takes rfl dvX12_takes rfl (ci := 11) cfX12.1 (by decide) c1 (Nat.le_refl _) (Nat.le_of_ble_eq_true rfl) (Nat.le_of_ble_eq_true rfl) (Nat.le_refl _) (Nat.le_refl _) ts_kv0 W (ts_kki fun v11 hi9 hk10 W => ?_)
    refine ts_pop (pc' := 19) rfl dX12_follows_18 rfl ?_
    refine ts_aload_n 0 (pc' := 20) rfl dX12_follows_19 rfl rfl ?_
    refine ts_iload_n 1 (pc' := 21) rfl dX12_follows_20 rfl rfl ?_
    refine ts_iload_n 2 (pc' := 22) rfl dX12_follows_21 rfl rfl ?_
    refine ts_callV (M' := mX12_figure) (C := RX12) (pc' := 25) (av := [.int p0, .int p1]) (b := o) rfl dX12_follows_22 rfl gX12_follows_X12_figure rfl dvX12_figure rfl (ci := 11) cfX12.1 (by decide) c1 (Nat.le_refl _) (Nat.le_of_ble_eq_true rfl) (Nat.le_of_ble_eq_true rfl) (Nat.le_refl _) (Nat.le_refl _) ts_kv0 W (ts_kki fun v14 hi12 hk13 W => ?_)
    exact ts_iret dX12_follows_25 rfl (Nat.le_refl _) (Nat.le_refl _) ⟨rfl, _, rfl, W⟩
theorem hnX12_readsTurnip_X12 : ∀ w ∈ u_ws RX12 TX12 25, w ∈ wsX12_readsTurnip := by decide +kernel
theorem flX12_readsTurnip_28 : Cond.fieldLink RX12 28 "TurnipSquiresModel" "draft" "[I" ∈ wsX12_readsTurnip := by decide +kernel
theorem flX12_readsTurnip_101 : Cond.fieldLink RX12 101 "TurnipSquiresModel" "value" "I" ∈ wsX12_readsTurnip := by decide +kernel
theorem flX12_readsTurnip_104 : Cond.fieldLink RX12 104 "TurnipSquiresModel" "token" "I" ∈ wsX12_readsTurnip := by decide +kernel
set_option maxHeartbeats 4000000 in
theorem wX12_readsTurnip_0 {d : Nat} {g : ts_G} {Q : ts_I → ts_K → Prop} {o : Nat} {hi : ts_I} {hk : ts_K} (W : (g.2.1 o = 11) ∧ ts_E0 d mX12_kindOf [.int (hi o 12)] g hi hk (ts_qi (fun v4 hi2 hk3 => (g.2.2.2 o 14 ≠ 0) ∧ (g.2.1 (g.2.2.2 o 14) = 100) ∧ (vp_in 2 (g.2.2.1 (g.2.2.2 o 14))) ∧ ((7 ≤ (hi2 (g.2.2.2 o 14) (2 : Int32).toNatClampNeg)) → ts_J0 (d + 1) mX12_readsTurnip (ts_qv Q) g 25 [(0, .ref o), (1, .int v4)] [.int 0, .ref o] hi2 hk3) ∧ (¬ (7 ≤ (hi2 (g.2.2.2 o 14) (2 : Int32).toNatClampNeg)) → ts_J0 (d + 1) mX12_readsTurnip (ts_qv Q) g 25 [(0, .ref o), (1, .int v4)] [.int 1, .ref o] hi2 hk3)))) : ts_J0 (d + 1) mX12_readsTurnip (ts_qv Q) g 0 [(0, .ref o)] [] hi hk := by
  refine ts_aload_n 0 (pc' := 1) rfl dX12_readsTurnip_0 rfl rfl ?_
  obtain ⟨c1, W⟩ := W
  refine ts_getI (pc' := 4) (ci := 11) 12 cfX12.1 cfX12.2.1 cfX12.2.2 rfl (by decide) hnX12_readsTurnip_X12 flX12_readsTurnip_101 rfl dX12_readsTurnip_1 c1 ?_
  refine ts_callS (M' := mX12_kindOf) (pc' := 7) (av := [.int (hi o 12)]) rfl dX12_readsTurnip_4 rfl gX12_readsTurnip_X12_kindOf rfl dsX12_kindOf rfl (Nat.le_refl _) (Nat.le_of_ble_eq_true rfl) (Nat.le_of_ble_eq_true rfl) (Nat.le_refl _) (Nat.le_refl _) ts_kv0 W (ts_kki fun v4 hi2 hk3 W => ?_)
  refine ts_istore_n (pc' := 8) (ls' := [(1, .int v4), (0, .ref o)]) rfl dX12_readsTurnip_7 rfl (Nat.le_of_ble_eq_true rfl) rfl ?_
  refine ts_aload_n 1 (pc' := 9) rfl dX12_readsTurnip_8 rfl rfl ?_
  refine ts_aload_n 1 (pc' := 10) rfl dX12_readsTurnip_9 rfl rfl ?_
  obtain ⟨c5, W⟩ := W
  refine ts_getR (pc' := 13) (ci := 11) 14 cfX12.1 cfX12.2.1 cfX12.2.2 rfl (by decide) hnX12_readsTurnip_X12 flX12_readsTurnip_28 rfl dX12_readsTurnip_10 c1 c5 ?_
  refine ts_iconst (v := 2) (pc' := 14) rfl dX12_readsTurnip_13 (by decide) ?_
  obtain ⟨c6, W⟩ := W
  obtain ⟨c7, W⟩ := W
  refine ts_iaload (pc' := 15) rfl dX12_readsTurnip_14 c6 c7 ?_
  refine ts_bipush (v := 7) (pc' := 17) rfl dX12_readsTurnip_15 (by decide) ?_
  refine ts_icmp_ge (pc' := 20) (tgt := 24) rfl dX12_readsTurnip_17 (by decide) (fun q8 => ?_) (fun q8 => ?_)
  · replace W := W.1 q8
    refine ts_iconst (v := 0) (pc' := 25) rfl dX12_readsTurnip_24 (by decide) ?_
    exact ts_sub [1, 0] rfl W
  · replace W := W.2 q8
    refine ts_iconst (v := 1) (pc' := 21) rfl dX12_readsTurnip_20 (by decide) ?_
    refine ts_goto (tgt := 25) dX12_readsTurnip_21 (by decide) ?_
    exact ts_sub [1, 0] rfl W
set_option maxHeartbeats 4000000 in
theorem wX12_readsTurnip_25 {d : Nat} {g : ts_G} {Q : ts_I → ts_K → Prop} {l0 : Nat} {l1 : Int32} {s0 : Int32} {s1 : Nat} {hi : ts_I} {hk : ts_K} (W : (g.2.1 s1 = 11) ∧ ts_E0 d mX12_takes [.ref s1, .int s0, .int 3] g hi hk (ts_qi (fun v3 hi1 hk2 => (g.2.1 l0 = 11) ∧ (g.2.2.2 l0 14 ≠ 0) ∧ (g.2.1 (g.2.2.2 l0 14) = 100) ∧ (vp_in 2 (g.2.2.1 (g.2.2.2 l0 14))) ∧ ((7 ≤ (hi1 (g.2.2.2 l0 14) (2 : Int32).toNatClampNeg)) → ts_J0 (d + 1) mX12_readsTurnip (ts_qv Q) g 54 [(0, .ref l0), (1, .int l1)] [.int 0, .int 6, .int 4] hi1 hk2) ∧ (¬ (7 ≤ (hi1 (g.2.2.2 l0 14) (2 : Int32).toNatClampNeg)) → ts_J0 (d + 1) mX12_readsTurnip (ts_qv Q) g 54 [(0, .ref l0), (1, .int l1)] [.int (hi1 (g.2.2.2 l0 14) (2 : Int32).toNatClampNeg), .int 6, .int 4] hi1 hk2)))) : ts_J0 (d + 1) mX12_readsTurnip (ts_qv Q) g 25 [(0, .ref l0), (1, .int l1)] [.int s0, .ref s1] hi hk := by
  refine ts_iconst (v := 3) (pc' := 26) rfl dX12_readsTurnip_25 (by decide) ?_
  obtain ⟨c4, W⟩ := W
  refine ts_callV (M' := mX12_takes) (C := RX12) (pc' := 29) (av := [.int s0, .int 3]) (b := s1) rfl dX12_readsTurnip_26 rfl gX12_readsTurnip_X12_takes rfl dvX12_takes rfl (ci := 11) cfX12.1 (by decide) c4 (Nat.le_refl _) (Nat.le_of_ble_eq_true rfl) (Nat.le_of_ble_eq_true rfl) (Nat.le_refl _) (Nat.le_refl _) ts_kv0 W (ts_kki fun v3 hi1 hk2 W => ?_)
  refine ts_pop (pc' := 30) rfl dX12_readsTurnip_29 rfl ?_
  refine ts_iconst (v := 4) (pc' := 31) rfl dX12_readsTurnip_30 (by decide) ?_
  refine ts_bipush (v := 6) (pc' := 33) rfl dX12_readsTurnip_31 (by decide) ?_
  refine ts_aload_n 0 (pc' := 34) rfl dX12_readsTurnip_33 rfl rfl ?_
  obtain ⟨c5, W⟩ := W
  obtain ⟨c6, W⟩ := W
  refine ts_getR (pc' := 37) (ci := 11) 14 cfX12.1 cfX12.2.1 cfX12.2.2 rfl (by decide) hnX12_readsTurnip_X12 flX12_readsTurnip_28 rfl dX12_readsTurnip_34 c5 c6 ?_
  refine ts_iconst (v := 2) (pc' := 38) rfl dX12_readsTurnip_37 (by decide) ?_
  obtain ⟨c7, W⟩ := W
  obtain ⟨c8, W⟩ := W
  refine ts_iaload (pc' := 39) rfl dX12_readsTurnip_38 c7 c8 ?_
  refine ts_bipush (v := 7) (pc' := 41) rfl dX12_readsTurnip_39 (by decide) ?_
  refine ts_icmp_ge (pc' := 44) (tgt := 53) rfl dX12_readsTurnip_41 (by decide) (fun q9 => ?_) (fun q9 => ?_)
  · replace W := W.1 q9
    refine ts_iconst (v := 0) (pc' := 54) rfl dX12_readsTurnip_53 (by decide) ?_
    exact ts_sub [0, 1] rfl W
  · replace W := W.2 q9
    refine ts_aload_n 0 (pc' := 45) rfl dX12_readsTurnip_44 rfl rfl ?_
    refine ts_getR (pc' := 48) (ci := 11) 14 cfX12.1 cfX12.2.1 cfX12.2.2 rfl (by decide) hnX12_readsTurnip_X12 flX12_readsTurnip_28 rfl dX12_readsTurnip_45 c5 c6 ?_
    refine ts_iconst (v := 2) (pc' := 49) rfl dX12_readsTurnip_48 (by decide) ?_
    refine ts_iaload (pc' := 50) rfl dX12_readsTurnip_49 c7 c8 ?_
    refine ts_goto (tgt := 54) dX12_readsTurnip_50 (by decide) ?_
    exact ts_sub [0, 1] rfl W
set_option maxHeartbeats 4000000 in
theorem wX12_readsTurnip_54 {d : Nat} {g : ts_G} {Q : ts_I → ts_K → Prop} {l0 : Nat} {l1 : Int32} {s0 : Int32} {s1 : Int32} {s2 : Int32} {hi : ts_I} {hk : ts_K} (W : (g.2.1 l0 = 11) ∧ ts_E0 d mX12_figure [.ref l0, .int 0, .int 9] g hi hk (ts_qi (fun v3 hi1 hk2 => ts_E0 d mX12_follows [.ref l0, .int 0, .int 9] g hi1 hk2 (ts_qi (fun v7 hi5 hk6 => ts_E0 d mX12_follows [.ref l0, .int 0, .int 1] g hi5 hk6 (ts_qi (fun v10 hi8 hk9 => (((hi8 l0 11) ≠ 4) → ts_J0 (d + 1) mX12_readsTurnip (ts_qv Q) g 96 [(0, .ref l0), (1, .int l1), (2, .int (s2 + (s1 * s0))), (3, .int v3), (4, .int v7), (5, .int v10)] [.int 0, .ref l0] hi8 hk9) ∧ (¬ ((hi8 l0 11) ≠ 4) → ts_J0 (d + 1) mX12_readsTurnip (ts_qv Q) g 96 [(0, .ref l0), (1, .int l1), (2, .int (s2 + (s1 * s0))), (3, .int v3), (4, .int v7), (5, .int v10)] [.int 1, .ref l0] hi8 hk9)))))))) : ts_J0 (d + 1) mX12_readsTurnip (ts_qv Q) g 54 [(0, .ref l0), (1, .int l1)] [.int s0, .int s1, .int s2] hi hk := by
  refine ts_imul (pc' := 55) rfl dX12_readsTurnip_54 ?_
  refine ts_iadd (pc' := 56) rfl dX12_readsTurnip_55 ?_
  refine ts_istore_n (pc' := 57) (ls' := [(2, .int (s2 + (s1 * s0))), (0, .ref l0), (1, .int l1)]) rfl dX12_readsTurnip_56 rfl (Nat.le_of_ble_eq_true rfl) rfl ?_
  refine ts_aload_n 1 (pc' := 58) rfl dX12_readsTurnip_57 rfl rfl ?_
  refine ts_iconst (v := 0) (pc' := 59) rfl dX12_readsTurnip_58 (by decide) ?_
  refine ts_bipush (v := 9) (pc' := 61) rfl dX12_readsTurnip_59 (by decide) ?_
  obtain ⟨c4, W⟩ := W
  refine ts_callV (M' := mX12_figure) (C := RX12) (pc' := 64) (av := [.int 0, .int 9]) (b := l0) rfl dX12_readsTurnip_61 rfl gX12_readsTurnip_X12_figure rfl dvX12_figure rfl (ci := 11) cfX12.1 (by decide) c4 (Nat.le_refl _) (Nat.le_of_ble_eq_true rfl) (Nat.le_of_ble_eq_true rfl) (Nat.le_refl _) (Nat.le_refl _) ts_kv0 W (ts_kki fun v3 hi1 hk2 W => ?_)
  refine ts_istore_n (pc' := 65) (ls' := [(3, .int v3), (2, .int (s2 + (s1 * s0))), (0, .ref l0), (1, .int l1)]) rfl dX12_readsTurnip_64 rfl (Nat.le_of_ble_eq_true rfl) rfl ?_
  refine ts_aload_n 2 (pc' := 66) rfl dX12_readsTurnip_65 rfl rfl ?_
  refine ts_iconst (v := 0) (pc' := 67) rfl dX12_readsTurnip_66 (by decide) ?_
  refine ts_bipush (v := 9) (pc' := 69) rfl dX12_readsTurnip_67 (by decide) ?_
  refine ts_callV (M' := mX12_follows) (C := RX12) (pc' := 72) (av := [.int 0, .int 9]) (b := l0) rfl dX12_readsTurnip_69 rfl gX12_readsTurnip_X12_follows rfl dvX12_follows rfl (ci := 11) cfX12.1 (by decide) c4 (Nat.le_refl _) (Nat.le_of_ble_eq_true rfl) (Nat.le_of_ble_eq_true rfl) (Nat.le_refl _) (Nat.le_refl _) ts_kv0 W (ts_kki fun v7 hi5 hk6 W => ?_)
  refine ts_istore (pc' := 74) (ls' := [(4, .int v7), (3, .int v3), (2, .int (s2 + (s1 * s0))), (0, .ref l0), (1, .int l1)]) rfl dX12_readsTurnip_72 (Nat.le_of_ble_eq_true rfl) rfl ?_
  refine ts_aload_n 3 (pc' := 75) rfl dX12_readsTurnip_74 rfl rfl ?_
  refine ts_iconst (v := 0) (pc' := 76) rfl dX12_readsTurnip_75 (by decide) ?_
  refine ts_iconst (v := 1) (pc' := 77) rfl dX12_readsTurnip_76 (by decide) ?_
  refine ts_callV (M' := mX12_follows) (C := RX12) (pc' := 80) (av := [.int 0, .int 1]) (b := l0) rfl dX12_readsTurnip_77 rfl gX12_readsTurnip_X12_follows rfl dvX12_follows rfl (ci := 11) cfX12.1 (by decide) c4 (Nat.le_refl _) (Nat.le_of_ble_eq_true rfl) (Nat.le_of_ble_eq_true rfl) (Nat.le_refl _) (Nat.le_refl _) ts_kv0 W (ts_kki fun v10 hi8 hk9 W => ?_)
  refine ts_istore (pc' := 82) (ls' := [(5, .int v10), (4, .int v7), (3, .int v3), (2, .int (s2 + (s1 * s0))), (0, .ref l0), (1, .int l1)]) rfl dX12_readsTurnip_80 (Nat.le_of_ble_eq_true rfl) rfl ?_
  refine ts_aload_n 4 (pc' := 83) rfl dX12_readsTurnip_82 rfl rfl ?_
  refine ts_aload_n 4 (pc' := 84) rfl dX12_readsTurnip_83 rfl rfl ?_
  refine ts_getI (pc' := 87) (ci := 11) 11 cfX12.1 cfX12.2.1 cfX12.2.2 rfl (by decide) hnX12_readsTurnip_X12 flX12_readsTurnip_104 rfl dX12_readsTurnip_84 c4 ?_
  refine ts_iconst (v := 4) (pc' := 88) rfl dX12_readsTurnip_87 (by decide) ?_
  refine ts_icmp_ne (pc' := 91) (tgt := 95) rfl dX12_readsTurnip_88 (by decide) (fun q11 => ?_) (fun q11 => ?_)
  · replace W := W.1 q11
    refine ts_iconst (v := 0) (pc' := 96) rfl dX12_readsTurnip_95 (by decide) ?_
    exact ts_sub [4, 5, 3, 2, 1, 0] rfl W
  · replace W := W.2 q11
    refine ts_iconst (v := 1) (pc' := 92) rfl dX12_readsTurnip_91 (by decide) ?_
    refine ts_goto (tgt := 96) dX12_readsTurnip_92 (by decide) ?_
    exact ts_sub [4, 5, 3, 2, 1, 0] rfl W
set_option maxHeartbeats 4000000 in
theorem wX12_readsTurnip_96 {d : Nat} {g : ts_G} {Q : ts_I → ts_K → Prop} {l0 : Nat} {l1 : Int32} {l2 : Int32} {l3 : Int32} {l4 : Int32} {l5 : Int32} {s0 : Int32} {s1 : Nat} {hi : ts_I} {hk : ts_K} (W : (g.2.1 s1 = 11) ∧ ts_E0 d mX12_takes [.ref s1, .int s0, .int 1] g hi hk (ts_qi (fun v3 hi1 hk2 => (g.2.1 l0 = 11) ∧ ts_E0 d mX12_isWell [.ref l0] g hi1 hk2 (ts_qi (fun v7 hi5 hk6 => ((v7 = 0) → Q hi5 hk6) ∧ (¬ (v7 = 0) → (g.2.2.2 l0 14 ≠ 0) ∧ (g.2.1 (g.2.2.2 l0 14) = 100) ∧ (vp_in l2 (g.2.2.1 (g.2.2.2 l0 14))) ∧ ∀ hi13 : ts_I, hi13 = ts_up hi5 (g.2.2.2 l0 14) l2.toNatClampNeg l1 → (vp_in (l2 + 1) (g.2.2.1 (g.2.2.2 l0 14))) ∧ ∀ hi15 : ts_I, hi15 = ts_up hi13 (g.2.2.2 l0 14) (l2 + 1).toNatClampNeg l3 → (vp_in (l2 + 2) (g.2.2.1 (g.2.2.2 l0 14))) ∧ ∀ hi17 : ts_I, hi17 = ts_up hi15 (g.2.2.2 l0 14) (l2 + 2).toNatClampNeg l4 → (vp_in 2 (g.2.2.1 (g.2.2.2 l0 14))) ∧ (vp_in (l2 + 3) (g.2.2.1 (g.2.2.2 l0 14))) ∧ ∀ hi20 : ts_I, hi20 = ts_up hi17 (g.2.2.2 l0 14) (l2 + 3).toNatClampNeg (hi17 (g.2.2.2 l0 14) (2 : Int32).toNatClampNeg) → (vp_in (l2 + 4) (g.2.2.1 (g.2.2.2 l0 14))) ∧ ∀ hi22 : ts_I, hi22 = ts_up hi20 (g.2.2.2 l0 14) (l2 + 4).toNatClampNeg l5 → (vp_in (l2 + 5) (g.2.2.1 (g.2.2.2 l0 14))) ∧ ∀ hi24 : ts_I, hi24 = ts_up hi22 (g.2.2.2 l0 14) (l2 + 5).toNatClampNeg (-1000000) → ∀ hi25 : ts_I, hi25 = ts_up hi24 (g.2.2.2 l0 14) (2 : Int32).toNatClampNeg ((hi24 (g.2.2.2 l0 14) (2 : Int32).toNatClampNeg) + 1) → Q hi25 hk6)))))) : ts_J0 (d + 1) mX12_readsTurnip (ts_qv Q) g 96 [(0, .ref l0), (1, .int l1), (2, .int l2), (3, .int l3), (4, .int l4), (5, .int l5)] [.int s0, .ref s1] hi hk := by
  refine ts_iconst (v := 1) (pc' := 97) rfl dX12_readsTurnip_96 (by decide) ?_
  obtain ⟨c4, W⟩ := W
  refine ts_callV (M' := mX12_takes) (C := RX12) (pc' := 100) (av := [.int s0, .int 1]) (b := s1) rfl dX12_readsTurnip_97 rfl gX12_readsTurnip_X12_takes rfl dvX12_takes rfl (ci := 11) cfX12.1 (by decide) c4 (Nat.le_refl _) (Nat.le_of_ble_eq_true rfl) (Nat.le_of_ble_eq_true rfl) (Nat.le_refl _) (Nat.le_refl _) ts_kv0 W (ts_kki fun v3 hi1 hk2 W => ?_)
  refine ts_pop (pc' := 101) rfl dX12_readsTurnip_100 rfl ?_
  refine ts_aload_n 0 (pc' := 102) rfl dX12_readsTurnip_101 rfl rfl ?_
  obtain ⟨c8, W⟩ := W
  refine ts_callV (M' := mX12_isWell) (C := RX12) (pc' := 105) (av := []) (b := l0) rfl dX12_readsTurnip_102 rfl gX12_readsTurnip_X12_isWell rfl dvX12_isWell rfl (ci := 11) cfX12.1 (by decide) c8 (Nat.le_refl _) (Nat.le_of_ble_eq_true rfl) (Nat.le_of_ble_eq_true rfl) (Nat.le_refl _) (Nat.le_refl _) ts_kv0 W (ts_kki fun v7 hi5 hk6 W => ?_)
  refine ts_if_eq (pc' := 108) (tgt := 178) rfl dX12_readsTurnip_105 (by decide) (fun q9 => ?_) (fun q9 => ?_)
  · replace W := W.1 q9
    exact ts_vret dX12_readsTurnip_178 rfl (Nat.le_refl _) (Nat.le_refl _) ⟨rfl, rfl, W⟩
  · replace W := W.2 q9
    refine ts_aload_n 0 (pc' := 109) rfl dX12_readsTurnip_108 rfl rfl ?_
    obtain ⟨c10, W⟩ := W
    refine ts_getR (pc' := 112) (ci := 11) 14 cfX12.1 cfX12.2.1 cfX12.2.2 rfl (by decide) hnX12_readsTurnip_X12 flX12_readsTurnip_28 rfl dX12_readsTurnip_109 c8 c10 ?_
    refine ts_iload_n 2 (pc' := 113) rfl dX12_readsTurnip_112 rfl rfl ?_
    refine ts_iload_n 1 (pc' := 114) rfl dX12_readsTurnip_113 rfl rfl ?_
    obtain ⟨c11, W⟩ := W
    obtain ⟨c12, W⟩ := W
    refine ts_iastore (pc' := 115) rfl dX12_readsTurnip_114 c11 c12 ?_
    obtain ⟨hi13, ehi13⟩ : ∃ z, z = ts_up hi5 (g.2.2.2 l0 14) l2.toNatClampNeg l1 := ⟨_, rfl⟩
    rw [← ehi13]; replace W := W hi13 ehi13
    refine ts_aload_n 0 (pc' := 116) rfl dX12_readsTurnip_115 rfl rfl ?_
    refine ts_getR (pc' := 119) (ci := 11) 14 cfX12.1 cfX12.2.1 cfX12.2.2 rfl (by decide) hnX12_readsTurnip_X12 flX12_readsTurnip_28 rfl dX12_readsTurnip_116 c8 c10 ?_
    refine ts_iload_n 2 (pc' := 120) rfl dX12_readsTurnip_119 rfl rfl ?_
    refine ts_iconst (v := 1) (pc' := 121) rfl dX12_readsTurnip_120 (by decide) ?_
    refine ts_iadd (pc' := 122) rfl dX12_readsTurnip_121 ?_
    refine ts_iload_n 3 (pc' := 123) rfl dX12_readsTurnip_122 rfl rfl ?_
    obtain ⟨c14, W⟩ := W
    refine ts_iastore (pc' := 124) rfl dX12_readsTurnip_123 c11 c14 ?_
    obtain ⟨hi15, ehi15⟩ : ∃ z, z = ts_up hi13 (g.2.2.2 l0 14) (l2 + 1).toNatClampNeg l3 := ⟨_, rfl⟩
    rw [← ehi15]; replace W := W hi15 ehi15
    refine ts_aload_n 0 (pc' := 125) rfl dX12_readsTurnip_124 rfl rfl ?_
    refine ts_getR (pc' := 128) (ci := 11) 14 cfX12.1 cfX12.2.1 cfX12.2.2 rfl (by decide) hnX12_readsTurnip_X12 flX12_readsTurnip_28 rfl dX12_readsTurnip_125 c8 c10 ?_
    refine ts_iload_n 2 (pc' := 129) rfl dX12_readsTurnip_128 rfl rfl ?_
    refine ts_iconst (v := 2) (pc' := 130) rfl dX12_readsTurnip_129 (by decide) ?_
    refine ts_iadd (pc' := 131) rfl dX12_readsTurnip_130 ?_
    refine ts_iload 4 (pc' := 133) rfl dX12_readsTurnip_131 rfl ?_
    obtain ⟨c16, W⟩ := W
    refine ts_iastore (pc' := 134) rfl dX12_readsTurnip_133 c11 c16 ?_
    obtain ⟨hi17, ehi17⟩ : ∃ z, z = ts_up hi15 (g.2.2.2 l0 14) (l2 + 2).toNatClampNeg l4 := ⟨_, rfl⟩
    rw [← ehi17]; replace W := W hi17 ehi17
    refine ts_aload_n 0 (pc' := 135) rfl dX12_readsTurnip_134 rfl rfl ?_
    refine ts_getR (pc' := 138) (ci := 11) 14 cfX12.1 cfX12.2.1 cfX12.2.2 rfl (by decide) hnX12_readsTurnip_X12 flX12_readsTurnip_28 rfl dX12_readsTurnip_135 c8 c10 ?_
    refine ts_iload_n 2 (pc' := 139) rfl dX12_readsTurnip_138 rfl rfl ?_
    refine ts_iconst (v := 3) (pc' := 140) rfl dX12_readsTurnip_139 (by decide) ?_
    refine ts_iadd (pc' := 141) rfl dX12_readsTurnip_140 ?_
    refine ts_aload_n 0 (pc' := 142) rfl dX12_readsTurnip_141 rfl rfl ?_
    refine ts_getR (pc' := 145) (ci := 11) 14 cfX12.1 cfX12.2.1 cfX12.2.2 rfl (by decide) hnX12_readsTurnip_X12 flX12_readsTurnip_28 rfl dX12_readsTurnip_142 c8 c10 ?_
    refine ts_iconst (v := 2) (pc' := 146) rfl dX12_readsTurnip_145 (by decide) ?_
    obtain ⟨c18, W⟩ := W
    refine ts_iaload (pc' := 147) rfl dX12_readsTurnip_146 c11 c18 ?_
    obtain ⟨c19, W⟩ := W
    refine ts_iastore (pc' := 148) rfl dX12_readsTurnip_147 c11 c19 ?_
    obtain ⟨hi20, ehi20⟩ : ∃ z, z = ts_up hi17 (g.2.2.2 l0 14) (l2 + 3).toNatClampNeg (hi17 (g.2.2.2 l0 14) (2 : Int32).toNatClampNeg) := ⟨_, rfl⟩
    rw [← ehi20]; replace W := W hi20 ehi20
    refine ts_aload_n 0 (pc' := 149) rfl dX12_readsTurnip_148 rfl rfl ?_
    refine ts_getR (pc' := 152) (ci := 11) 14 cfX12.1 cfX12.2.1 cfX12.2.2 rfl (by decide) hnX12_readsTurnip_X12 flX12_readsTurnip_28 rfl dX12_readsTurnip_149 c8 c10 ?_
    refine ts_iload_n 2 (pc' := 153) rfl dX12_readsTurnip_152 rfl rfl ?_
    refine ts_iconst (v := 4) (pc' := 154) rfl dX12_readsTurnip_153 (by decide) ?_
    refine ts_iadd (pc' := 155) rfl dX12_readsTurnip_154 ?_
    refine ts_iload 5 (pc' := 157) rfl dX12_readsTurnip_155 rfl ?_
    obtain ⟨c21, W⟩ := W
    refine ts_iastore (pc' := 158) rfl dX12_readsTurnip_157 c11 c21 ?_
    obtain ⟨hi22, ehi22⟩ : ∃ z, z = ts_up hi20 (g.2.2.2 l0 14) (l2 + 4).toNatClampNeg l5 := ⟨_, rfl⟩
    rw [← ehi22]; replace W := W hi22 ehi22
    refine ts_aload_n 0 (pc' := 159) rfl dX12_readsTurnip_158 rfl rfl ?_
    refine ts_getR (pc' := 162) (ci := 11) 14 cfX12.1 cfX12.2.1 cfX12.2.2 rfl (by decide) hnX12_readsTurnip_X12 flX12_readsTurnip_28 rfl dX12_readsTurnip_159 c8 c10 ?_
    refine ts_iload_n 2 (pc' := 163) rfl dX12_readsTurnip_162 rfl rfl ?_
    refine ts_iconst (v := 5) (pc' := 164) rfl dX12_readsTurnip_163 (by decide) ?_
    refine ts_iadd (pc' := 165) rfl dX12_readsTurnip_164 ?_
    refine ts_ldc (v := (-1000000)) (pc' := 167) rfl dX12_readsTurnip_165 (by decide +kernel) ?_
    obtain ⟨c23, W⟩ := W
    refine ts_iastore (pc' := 168) rfl dX12_readsTurnip_167 c11 c23 ?_
    obtain ⟨hi24, ehi24⟩ : ∃ z, z = ts_up hi22 (g.2.2.2 l0 14) (l2 + 5).toNatClampNeg (-1000000) := ⟨_, rfl⟩
    rw [← ehi24]; replace W := W hi24 ehi24
    refine ts_aload_n 0 (pc' := 169) rfl dX12_readsTurnip_168 rfl rfl ?_
    refine ts_getR (pc' := 172) (ci := 11) 14 cfX12.1 cfX12.2.1 cfX12.2.2 rfl (by decide) hnX12_readsTurnip_X12 flX12_readsTurnip_28 rfl dX12_readsTurnip_169 c8 c10 ?_
    refine ts_iconst (v := 2) (pc' := 173) rfl dX12_readsTurnip_172 (by decide) ?_
    refine ts_dup2 (pc' := 174) rfl dX12_readsTurnip_173 rfl rfl ?_
    refine ts_iaload (pc' := 175) rfl dX12_readsTurnip_174 c11 c18 ?_
    refine ts_iconst (v := 1) (pc' := 176) rfl dX12_readsTurnip_175 (by decide) ?_
    refine ts_iadd (pc' := 177) rfl dX12_readsTurnip_176 ?_
    refine ts_iastore (pc' := 178) rfl dX12_readsTurnip_177 c11 c18 ?_
    obtain ⟨hi25, ehi25⟩ : ∃ z, z = ts_up hi24 (g.2.2.2 l0 14) (2 : Int32).toNatClampNeg ((hi24 (g.2.2.2 l0 14) (2 : Int32).toNatClampNeg) + 1) := ⟨_, rfl⟩
    rw [← ehi25]; replace W := W hi25 ehi25
    exact ts_vret dX12_readsTurnip_178 rfl (Nat.le_refl _) (Nat.le_refl _) ⟨rfl, rfl, W⟩
set_option maxHeartbeats 4000000 in
theorem wX12_must_0 {d : Nat} {g : ts_G} {Q : ts_I → ts_K → Prop} {o : Nat} {p0 : Int32} {hi : ts_I} {hk : ts_K} (W : (g.2.1 o = 11) ∧ ts_E0 d mX12_isWell [.ref o] g hi hk (ts_qi (fun v3 hi1 hk2 => ((v3 = 0) → Q hi1 hk2) ∧ (¬ (v3 = 0) → ((p0 ≠ 0) → Q hi1 hk2) ∧ (¬ (p0 ≠ 0) → ts_E0 d mX12_takes [.ref o, .int 0, .int 1] g hi1 hk2 (ts_qi (fun v9 hi7 hk8 => Q hi7 hk8))))))) : ts_J0 (d + 1) mX12_must (ts_qv Q) g 0 [(0, .ref o), (1, .int p0)] [] hi hk := by
  refine ts_aload_n 0 (pc' := 1) rfl dX12_must_0 rfl rfl ?_
  obtain ⟨c4, W⟩ := W
  refine ts_callV (M' := mX12_isWell) (C := RX12) (pc' := 4) (av := []) (b := o) rfl dX12_must_1 rfl gX12_must_X12_isWell rfl dvX12_isWell rfl (ci := 11) cfX12.1 (by decide) c4 (Nat.le_refl _) (Nat.le_of_ble_eq_true rfl) (Nat.le_of_ble_eq_true rfl) (Nat.le_refl _) (Nat.le_refl _) ts_kv0 W (ts_kki fun v3 hi1 hk2 W => ?_)
  refine ts_if_eq (pc' := 7) (tgt := 18) rfl dX12_must_4 (by decide) (fun q5 => ?_) (fun q5 => ?_)
  · replace W := W.1 q5
    exact ts_vret dX12_must_18 rfl (Nat.le_refl _) (Nat.le_refl _) ⟨rfl, rfl, W⟩
  · replace W := W.2 q5
    refine ts_iload_n 1 (pc' := 8) rfl dX12_must_7 rfl rfl ?_
    refine ts_if_ne (pc' := 11) (tgt := 18) rfl dX12_must_8 (by decide) (fun q6 => ?_) (fun q6 => ?_)
    · replace W := W.1 q6
      exact ts_vret dX12_must_18 rfl (Nat.le_refl _) (Nat.le_refl _) ⟨rfl, rfl, W⟩
    · replace W := W.2 q6
      refine ts_aload_n 0 (pc' := 12) rfl dX12_must_11 rfl rfl ?_
      refine ts_iconst (v := 0) (pc' := 13) rfl dX12_must_12 (by decide) ?_
      refine ts_iconst (v := 1) (pc' := 14) rfl dX12_must_13 (by decide) ?_
      refine ts_callV (M' := mX12_takes) (C := RX12) (pc' := 17) (av := [.int 0, .int 1]) (b := o) rfl dX12_must_14 rfl gX12_must_X12_takes rfl dvX12_takes rfl (ci := 11) cfX12.1 (by decide) c4 (Nat.le_refl _) (Nat.le_of_ble_eq_true rfl) (Nat.le_of_ble_eq_true rfl) (Nat.le_refl _) (Nat.le_refl _) ts_kv0 W (ts_kki fun v9 hi7 hk8 W => ?_)
      refine ts_pop (pc' := 18) rfl dX12_must_17 rfl ?_
      exact ts_vret dX12_must_18 rfl (Nat.le_refl _) (Nat.le_refl _) ⟨rfl, rfl, W⟩
theorem hnX12_field_X12 : ∀ w ∈ u_ws RX12 TX12 25, w ∈ wsX12_field := by decide +kernel
theorem flX12_field_25 : Cond.fieldLink RX12 25 "TurnipSquiresModel" "now" "[I" ∈ wsX12_field := by decide +kernel
theorem flX12_field_28 : Cond.fieldLink RX12 28 "TurnipSquiresModel" "draft" "[I" ∈ wsX12_field := by decide +kernel
theorem flX12_field_88 : Cond.fieldLink RX12 88 "TurnipSquiresModel" "taped" "I" ∈ wsX12_field := by decide +kernel
theorem flX12_field_92 : Cond.fieldLink RX12 92 "TurnipSquiresModel" "at" "I" ∈ wsX12_field := by decide +kernel
theorem flX12_field_101 : Cond.fieldLink RX12 101 "TurnipSquiresModel" "value" "I" ∈ wsX12_field := by decide +kernel
theorem flX12_field_104 : Cond.fieldLink RX12 104 "TurnipSquiresModel" "token" "I" ∈ wsX12_field := by decide +kernel
theorem flX12_field_107 : Cond.fieldLink RX12 107 "TurnipSquiresModel" "faultPlace" "I" ∈ wsX12_field := by decide +kernel
theorem flX12_field_145 : Cond.fieldLink RX12 145 "TurnipSquiresModel" "acts" "I" ∈ wsX12_field := by decide +kernel
set_option maxHeartbeats 4000000 in
theorem wX12_field_0 {d : Nat} {g : ts_G} {Q : Int32 → ts_I → ts_K → Prop} {o : Nat} {hi : ts_I} {hk : ts_K} (W : ts_J0 (d + 1) mX12_field (ts_qi Q) g 2 [(0, .ref o), (1, .int 0)] [] hi hk) : ts_J0 (d + 1) mX12_field (ts_qi Q) g 0 [(0, .ref o)] [] hi hk := by
  refine ts_iconst (v := 0) (pc' := 1) rfl dX12_field_0 (by decide) ?_
  refine ts_istore_n (pc' := 2) (ls' := [(1, .int 0), (0, .ref o)]) rfl dX12_field_1 rfl (Nat.le_of_ble_eq_true rfl) rfl ?_
  exact ts_sub [1, 0] rfl W
set_option maxHeartbeats 4000000 in
theorem wX12_field_2 {d : Nat} {g : ts_G} {Q : Int32 → ts_I → ts_K → Prop} {l0 : Nat} {l1 : Int32} {hi : ts_I} {hk : ts_K} (W : ((46 ≤ l1) → (g.2.1 l0 = 11) ∧ ∀ hi3 : ts_I, hi3 = ts_up hi l0 9 0 → ∀ hi4 : ts_I, hi4 = ts_up hi3 l0 8 (-1) → ts_E0 d mX12_advances [.ref l0] g hi4 hk (ts_qv (fun hi5 hk6 => (((hi5 l0 11) ≠ 1) → ts_J0 (d + 1) mX12_field (ts_qi Q) g 58 [(0, .ref l0)] [.int 0, .ref l0] hi5 hk6) ∧ (¬ ((hi5 l0 11) ≠ 1) → (((hi5 l0 12) ≠ 103) → ts_J0 (d + 1) mX12_field (ts_qi Q) g 58 [(0, .ref l0)] [.int 0, .ref l0] hi5 hk6) ∧ (¬ ((hi5 l0 12) ≠ 103) → ts_J0 (d + 1) mX12_field (ts_qi Q) g 58 [(0, .ref l0)] [.int 1, .ref l0] hi5 hk6))))) ∧ (¬ (46 ≤ l1) → (g.2.1 l0 = 11) ∧ (g.2.2.2 l0 14 ≠ 0) ∧ (g.2.1 (g.2.2.2 l0 14) = 100) ∧ (vp_in l1 (g.2.2.1 (g.2.2.2 l0 14))) ∧ ∀ hi13 : ts_I, hi13 = ts_up hi (g.2.2.2 l0 14) l1.toNatClampNeg 0 → ts_J0 (d + 1) mX12_field (ts_qi Q) g 2 [(0, .ref l0), (1, .int (l1 + 1))] [] hi13 hk)) : ts_J0 (d + 1) mX12_field (ts_qi Q) g 2 [(0, .ref l0), (1, .int l1)] [] hi hk := by
  refine ts_iload_n 1 (pc' := 3) rfl dX12_field_2 rfl rfl ?_
  refine ts_bipush (v := 46) (pc' := 5) rfl dX12_field_3 (by decide) ?_
  refine ts_icmp_ge (pc' := 8) (tgt := 21) rfl dX12_field_5 (by decide) (fun q1 => ?_) (fun q1 => ?_)
  · replace W := W.1 q1
    refine ts_aload_n 0 (pc' := 22) rfl dX12_field_21 rfl rfl ?_
    refine ts_iconst (v := 0) (pc' := 23) rfl dX12_field_22 (by decide) ?_
    obtain ⟨c2, W⟩ := W
    refine ts_putI (pc' := 26) (ci := 11) 9 cfX12.1 cfX12.2.1 cfX12.2.2 rfl (by decide) hnX12_field_X12 flX12_field_92 tyX12_ok nmX12 rfl rfl rfl dX12_field_23 c2 ?_
    obtain ⟨hi3, ehi3⟩ : ∃ z, z = ts_up hi l0 9 0 := ⟨_, rfl⟩
    rw [← ehi3]; replace W := W hi3 ehi3
    refine ts_aload_n 0 (pc' := 27) rfl dX12_field_26 rfl rfl ?_
    refine ts_iconst (v := (-1)) (pc' := 28) rfl dX12_field_27 (by decide) ?_
    refine ts_putI (pc' := 31) (ci := 11) 8 cfX12.1 cfX12.2.1 cfX12.2.2 rfl (by decide) hnX12_field_X12 flX12_field_107 tyX12_ok nmX12 rfl rfl rfl dX12_field_28 c2 ?_
    obtain ⟨hi4, ehi4⟩ : ∃ z, z = ts_up hi3 l0 8 (-1) := ⟨_, rfl⟩
    rw [← ehi4]; replace W := W hi4 ehi4
    refine ts_aload_n 0 (pc' := 32) rfl dX12_field_31 rfl rfl ?_
    refine ts_callV (M' := mX12_advances) (C := RX12) (pc' := 35) (av := []) (b := l0) rfl dX12_field_32 rfl gX12_field_X12_advances rfl dvX12_advances rfl (ci := 11) cfX12.1 (by decide) c2 (Nat.le_refl _) (Nat.le_of_ble_eq_true rfl) (Nat.le_of_ble_eq_true rfl) (Nat.le_refl _) (Nat.le_refl _) ts_kv0 W (ts_kkv fun hi5 hk6 W => ?_)
    refine ts_aload_n 0 (pc' := 36) rfl dX12_field_35 rfl rfl ?_
    refine ts_aload_n 0 (pc' := 37) rfl dX12_field_36 rfl rfl ?_
    refine ts_getI (pc' := 40) (ci := 11) 11 cfX12.1 cfX12.2.1 cfX12.2.2 rfl (by decide) hnX12_field_X12 flX12_field_104 rfl dX12_field_37 c2 ?_
    refine ts_iconst (v := 1) (pc' := 41) rfl dX12_field_40 (by decide) ?_
    refine ts_icmp_ne (pc' := 44) (tgt := 57) rfl dX12_field_41 (by decide) (fun q7 => ?_) (fun q7 => ?_)
    · replace W := W.1 q7
      refine ts_iconst (v := 0) (pc' := 58) rfl dX12_field_57 (by decide) ?_
      exact ts_sub [0] rfl W
    · replace W := W.2 q7
      refine ts_aload_n 0 (pc' := 45) rfl dX12_field_44 rfl rfl ?_
      refine ts_getI (pc' := 48) (ci := 11) 12 cfX12.1 cfX12.2.1 cfX12.2.2 rfl (by decide) hnX12_field_X12 flX12_field_101 rfl dX12_field_45 c2 ?_
      refine ts_bipush (v := 103) (pc' := 50) rfl dX12_field_48 (by decide) ?_
      refine ts_icmp_ne (pc' := 53) (tgt := 57) rfl dX12_field_50 (by decide) (fun q8 => ?_) (fun q8 => ?_)
      · replace W := W.1 q8
        refine ts_iconst (v := 0) (pc' := 58) rfl dX12_field_57 (by decide) ?_
        exact ts_sub [0] rfl W
      · replace W := W.2 q8
        refine ts_iconst (v := 1) (pc' := 54) rfl dX12_field_53 (by decide) ?_
        refine ts_goto (tgt := 58) dX12_field_54 (by decide) ?_
        exact ts_sub [0] rfl W
  · replace W := W.2 q1
    refine ts_aload_n 0 (pc' := 9) rfl dX12_field_8 rfl rfl ?_
    obtain ⟨c9, W⟩ := W
    obtain ⟨c10, W⟩ := W
    refine ts_getR (pc' := 12) (ci := 11) 14 cfX12.1 cfX12.2.1 cfX12.2.2 rfl (by decide) hnX12_field_X12 flX12_field_28 rfl dX12_field_9 c9 c10 ?_
    refine ts_iload_n 1 (pc' := 13) rfl dX12_field_12 rfl rfl ?_
    refine ts_iconst (v := 0) (pc' := 14) rfl dX12_field_13 (by decide) ?_
    obtain ⟨c11, W⟩ := W
    obtain ⟨c12, W⟩ := W
    refine ts_iastore (pc' := 15) rfl dX12_field_14 c11 c12 ?_
    obtain ⟨hi13, ehi13⟩ : ∃ z, z = ts_up hi (g.2.2.2 l0 14) l1.toNatClampNeg 0 := ⟨_, rfl⟩
    rw [← ehi13]; replace W := W hi13 ehi13
    refine ts_iinc 1 (pc' := 18) (ls' := [(1, .int (l1 + 1)), (0, .ref l0)]) rfl dX12_field_15 rfl rfl (Nat.le_of_ble_eq_true rfl) rfl ?_
    refine ts_goto (tgt := 2) dX12_field_18 (by decide) ?_
    exact ts_sub [1, 0] rfl W
set_option maxHeartbeats 4000000 in
theorem wX12_field_58 {d : Nat} {g : ts_G} {Q : Int32 → ts_I → ts_K → Prop} {l0 : Nat} {s0 : Int32} {s1 : Nat} {hi : ts_I} {hk : ts_K} (W : (g.2.1 s1 = 11) ∧ ts_E0 d mX12_takes [.ref s1, .int s0, .int 1] g hi hk (ts_qi (fun v3 hi1 hk2 => (g.2.1 l0 = 11) ∧ (g.2.2.2 l0 14 ≠ 0) ∧ ts_E0 d mX12_figure [.ref l0, .int 1, .int 9] g hi1 hk2 (ts_qi (fun v9 hi7 hk8 => (g.2.1 (g.2.2.2 l0 14) = 100) ∧ (vp_in 0 (g.2.2.1 (g.2.2.2 l0 14))) ∧ ∀ hi12 : ts_I, hi12 = ts_up hi7 (g.2.2.2 l0 14) (0 : Int32).toNatClampNeg v9 → ts_E0 d mX12_follows [.ref l0, .int 0, .int 15] g hi12 hk8 (ts_qi (fun v15 hi13 hk14 => (vp_in 1 (g.2.2.1 (g.2.2.2 l0 14))) ∧ ∀ hi17 : ts_I, hi17 = ts_up hi13 (g.2.2.2 l0 14) (1 : Int32).toNatClampNeg v15 → (((hi17 l0 11) ≠ 4) → ts_J0 (d + 1) mX12_field (ts_qi Q) g 103 [(0, .ref l0)] [.int 0, .ref l0] hi17 hk14) ∧ (¬ ((hi17 l0 11) ≠ 4) → ts_J0 (d + 1) mX12_field (ts_qi Q) g 103 [(0, .ref l0)] [.int 1, .ref l0] hi17 hk14)))))))) : ts_J0 (d + 1) mX12_field (ts_qi Q) g 58 [(0, .ref l0)] [.int s0, .ref s1] hi hk := by
  refine ts_iconst (v := 1) (pc' := 59) rfl dX12_field_58 (by decide) ?_
  obtain ⟨c4, W⟩ := W
  refine ts_callV (M' := mX12_takes) (C := RX12) (pc' := 62) (av := [.int s0, .int 1]) (b := s1) rfl dX12_field_59 rfl gX12_field_X12_takes rfl dvX12_takes rfl (ci := 11) cfX12.1 (by decide) c4 (Nat.le_refl _) (Nat.le_of_ble_eq_true rfl) (Nat.le_of_ble_eq_true rfl) (Nat.le_refl _) (Nat.le_refl _) ts_kv0 W (ts_kki fun v3 hi1 hk2 W => ?_)
  refine ts_pop (pc' := 63) rfl dX12_field_62 rfl ?_
  refine ts_aload_n 0 (pc' := 64) rfl dX12_field_63 rfl rfl ?_
  obtain ⟨c5, W⟩ := W
  obtain ⟨c6, W⟩ := W
  refine ts_getR (pc' := 67) (ci := 11) 14 cfX12.1 cfX12.2.1 cfX12.2.2 rfl (by decide) hnX12_field_X12 flX12_field_28 rfl dX12_field_64 c5 c6 ?_
  refine ts_iconst (v := 0) (pc' := 68) rfl dX12_field_67 (by decide) ?_
  refine ts_aload_n 0 (pc' := 69) rfl dX12_field_68 rfl rfl ?_
  refine ts_iconst (v := 1) (pc' := 70) rfl dX12_field_69 (by decide) ?_
  refine ts_bipush (v := 9) (pc' := 72) rfl dX12_field_70 (by decide) ?_
  refine ts_callV (M' := mX12_figure) (C := RX12) (pc' := 75) (av := [.int 1, .int 9]) (b := l0) rfl dX12_field_72 rfl gX12_field_X12_figure rfl dvX12_figure rfl (ci := 11) cfX12.1 (by decide) c5 (Nat.le_refl _) (Nat.le_of_ble_eq_true rfl) (Nat.le_of_ble_eq_true rfl) (Nat.le_refl _) (Nat.le_refl _) ts_kv0 W (ts_kki fun v9 hi7 hk8 W => ?_)
  obtain ⟨c10, W⟩ := W
  obtain ⟨c11, W⟩ := W
  refine ts_iastore (pc' := 76) rfl dX12_field_75 c10 c11 ?_
  obtain ⟨hi12, ehi12⟩ : ∃ z, z = ts_up hi7 (g.2.2.2 l0 14) (0 : Int32).toNatClampNeg v9 := ⟨_, rfl⟩
  rw [← ehi12]; replace W := W hi12 ehi12
  refine ts_aload_n 0 (pc' := 77) rfl dX12_field_76 rfl rfl ?_
  refine ts_getR (pc' := 80) (ci := 11) 14 cfX12.1 cfX12.2.1 cfX12.2.2 rfl (by decide) hnX12_field_X12 flX12_field_28 rfl dX12_field_77 c5 c6 ?_
  refine ts_iconst (v := 1) (pc' := 81) rfl dX12_field_80 (by decide) ?_
  refine ts_aload_n 0 (pc' := 82) rfl dX12_field_81 rfl rfl ?_
  refine ts_iconst (v := 0) (pc' := 83) rfl dX12_field_82 (by decide) ?_
  refine ts_bipush (v := 15) (pc' := 85) rfl dX12_field_83 (by decide) ?_
  refine ts_callV (M' := mX12_follows) (C := RX12) (pc' := 88) (av := [.int 0, .int 15]) (b := l0) rfl dX12_field_85 rfl gX12_field_X12_follows rfl dvX12_follows rfl (ci := 11) cfX12.1 (by decide) c5 (Nat.le_refl _) (Nat.le_of_ble_eq_true rfl) (Nat.le_of_ble_eq_true rfl) (Nat.le_refl _) (Nat.le_refl _) ts_kv0 W (ts_kki fun v15 hi13 hk14 W => ?_)
  obtain ⟨c16, W⟩ := W
  refine ts_iastore (pc' := 89) rfl dX12_field_88 c10 c16 ?_
  obtain ⟨hi17, ehi17⟩ : ∃ z, z = ts_up hi13 (g.2.2.2 l0 14) (1 : Int32).toNatClampNeg v15 := ⟨_, rfl⟩
  rw [← ehi17]; replace W := W hi17 ehi17
  refine ts_aload_n 0 (pc' := 90) rfl dX12_field_89 rfl rfl ?_
  refine ts_aload_n 0 (pc' := 91) rfl dX12_field_90 rfl rfl ?_
  refine ts_getI (pc' := 94) (ci := 11) 11 cfX12.1 cfX12.2.1 cfX12.2.2 rfl (by decide) hnX12_field_X12 flX12_field_104 rfl dX12_field_91 c5 ?_
  refine ts_iconst (v := 4) (pc' := 95) rfl dX12_field_94 (by decide) ?_
  refine ts_icmp_ne (pc' := 98) (tgt := 102) rfl dX12_field_95 (by decide) (fun q18 => ?_) (fun q18 => ?_)
  · replace W := W.1 q18
    refine ts_iconst (v := 0) (pc' := 103) rfl dX12_field_102 (by decide) ?_
    exact ts_sub [0] rfl W
  · replace W := W.2 q18
    refine ts_iconst (v := 1) (pc' := 99) rfl dX12_field_98 (by decide) ?_
    refine ts_goto (tgt := 103) dX12_field_99 (by decide) ?_
    exact ts_sub [0] rfl W
set_option maxHeartbeats 4000000 in
theorem wX12_field_103 {d : Nat} {g : ts_G} {Q : Int32 → ts_I → ts_K → Prop} {l0 : Nat} {s0 : Int32} {s1 : Nat} {hi : ts_I} {hk : ts_K} (W : (g.2.1 s1 = 11) ∧ ts_E0 d mX12_takes [.ref s1, .int s0, .int 1] g hi hk (ts_qi (fun v3 hi1 hk2 => (g.2.1 l0 = 11) ∧ (((hi1 l0 11) ≠ 1) → ts_J0 (d + 1) mX12_field (ts_qi Q) g 132 [(0, .ref l0)] [.int 0, .ref l0] hi1 hk2) ∧ (¬ ((hi1 l0 11) ≠ 1) → ts_E0 d mX12_kindOf [.int (hi1 l0 12)] g hi1 hk2 (ts_qi (fun v9 hi7 hk8 => ((v9 ≤ 0) → ts_J0 (d + 1) mX12_field (ts_qi Q) g 132 [(0, .ref l0)] [.int 0, .ref l0] hi7 hk8) ∧ (¬ (v9 ≤ 0) → ts_J0 (d + 1) mX12_field (ts_qi Q) g 132 [(0, .ref l0)] [.int 1, .ref l0] hi7 hk8))))))) : ts_J0 (d + 1) mX12_field (ts_qi Q) g 103 [(0, .ref l0)] [.int s0, .ref s1] hi hk := by
  refine ts_iconst (v := 1) (pc' := 104) rfl dX12_field_103 (by decide) ?_
  obtain ⟨c4, W⟩ := W
  refine ts_callV (M' := mX12_takes) (C := RX12) (pc' := 107) (av := [.int s0, .int 1]) (b := s1) rfl dX12_field_104 rfl gX12_field_X12_takes rfl dvX12_takes rfl (ci := 11) cfX12.1 (by decide) c4 (Nat.le_refl _) (Nat.le_of_ble_eq_true rfl) (Nat.le_of_ble_eq_true rfl) (Nat.le_refl _) (Nat.le_refl _) ts_kv0 W (ts_kki fun v3 hi1 hk2 W => ?_)
  refine ts_pop (pc' := 108) rfl dX12_field_107 rfl ?_
  refine ts_aload_n 0 (pc' := 109) rfl dX12_field_108 rfl rfl ?_
  refine ts_aload_n 0 (pc' := 110) rfl dX12_field_109 rfl rfl ?_
  obtain ⟨c5, W⟩ := W
  refine ts_getI (pc' := 113) (ci := 11) 11 cfX12.1 cfX12.2.1 cfX12.2.2 rfl (by decide) hnX12_field_X12 flX12_field_104 rfl dX12_field_110 c5 ?_
  refine ts_iconst (v := 1) (pc' := 114) rfl dX12_field_113 (by decide) ?_
  refine ts_icmp_ne (pc' := 117) (tgt := 131) rfl dX12_field_114 (by decide) (fun q6 => ?_) (fun q6 => ?_)
  · replace W := W.1 q6
    refine ts_iconst (v := 0) (pc' := 132) rfl dX12_field_131 (by decide) ?_
    exact ts_sub [0] rfl W
  · replace W := W.2 q6
    refine ts_aload_n 0 (pc' := 118) rfl dX12_field_117 rfl rfl ?_
    refine ts_getI (pc' := 121) (ci := 11) 12 cfX12.1 cfX12.2.1 cfX12.2.2 rfl (by decide) hnX12_field_X12 flX12_field_101 rfl dX12_field_118 c5 ?_
    refine ts_callS (M' := mX12_kindOf) (pc' := 124) (av := [.int (hi1 l0 12)]) rfl dX12_field_121 rfl gX12_field_X12_kindOf rfl dsX12_kindOf rfl (Nat.le_refl _) (Nat.le_of_ble_eq_true rfl) (Nat.le_of_ble_eq_true rfl) (Nat.le_refl _) (Nat.le_refl _) ts_kv0 W (ts_kki fun v9 hi7 hk8 W => ?_)
    refine ts_if_le (pc' := 127) (tgt := 131) rfl dX12_field_124 (by decide) (fun q10 => ?_) (fun q10 => ?_)
    · replace W := W.1 q10
      refine ts_iconst (v := 0) (pc' := 132) rfl dX12_field_131 (by decide) ?_
      exact ts_sub [0] rfl W
    · replace W := W.2 q10
      refine ts_iconst (v := 1) (pc' := 128) rfl dX12_field_127 (by decide) ?_
      refine ts_goto (tgt := 132) dX12_field_128 (by decide) ?_
      exact ts_sub [0] rfl W
set_option maxHeartbeats 4000000 in
theorem wX12_field_132 {d : Nat} {g : ts_G} {Q : Int32 → ts_I → ts_K → Prop} {l0 : Nat} {s0 : Int32} {s1 : Nat} {hi : ts_I} {hk : ts_K} (W : (g.2.1 s1 = 11) ∧ ts_E0 d mX12_must [.ref s1, .int s0] g hi hk (ts_qv (fun hi1 hk2 => ts_J0 (d + 1) mX12_field (ts_qi Q) g 135 [(0, .ref l0)] [] hi1 hk2))) : ts_J0 (d + 1) mX12_field (ts_qi Q) g 132 [(0, .ref l0)] [.int s0, .ref s1] hi hk := by
  obtain ⟨c3, W⟩ := W
  refine ts_callV (M' := mX12_must) (C := RX12) (pc' := 135) (av := [.int s0]) (b := s1) rfl dX12_field_132 rfl gX12_field_X12_must rfl dvX12_must rfl (ci := 11) cfX12.1 (by decide) c3 (Nat.le_refl _) (Nat.le_of_ble_eq_true rfl) (Nat.le_of_ble_eq_true rfl) (Nat.le_refl _) (Nat.le_refl _) ts_kv0 W (ts_kkv fun hi1 hk2 W => ?_)
  exact ts_sub [0] rfl W
set_option maxHeartbeats 4000000 in
theorem wX12_field_135 {d : Nat} {g : ts_G} {Q : Int32 → ts_I → ts_K → Prop} {l0 : Nat} {hi : ts_I} {hk : ts_K} (W : (g.2.1 l0 = 11) ∧ ts_E0 d mX12_isWell [.ref l0] g hi hk (ts_qi (fun v3 hi1 hk2 => ((v3 = 0) → (((hi1 l0 11) ≠ 0) → ts_E0 d mX12_must [.ref l0, .int 0] g hi1 hk2 (ts_qv (fun hi7 hk8 => ∀ hi9 : ts_I, hi9 = ts_up hi7 l0 6 0 → ts_E0 d mX12_isWell [.ref l0] g hi9 hk8 (ts_qi (fun v12 hi10 hk11 => ((v12 ≠ 0) → (g.2.2.2 l0 14 ≠ 0) ∧ (g.2.2.2 l0 13 ≠ 0) ∧ ts_E0 d mX12_copies [.ref (g.2.2.2 l0 14), .int 0, .ref (g.2.2.2 l0 13), .int 0] g hi10 hk11 (ts_qv (fun hi16 hk17 => ∀ hi18 : ts_I, hi18 = ts_up hi16 l0 17 0 → (g.2.1 (g.2.2.2 l0 13) = 100) ∧ (vp_in 2 (g.2.2.1 (g.2.2.2 l0 13))) ∧ Q (hi18 (g.2.2.2 l0 13) (2 : Int32).toNatClampNeg) hi18 hk17))) ∧ (¬ (v12 ≠ 0) → Q ((-1000100) - (hi10 l0 8)) hi10 hk11)))))) ∧ (¬ ((hi1 l0 11) ≠ 0) → ts_E0 d mX12_must [.ref l0, .int 1] g hi1 hk2 (ts_qv (fun hi21 hk22 => ∀ hi23 : ts_I, hi23 = ts_up hi21 l0 6 0 → ts_E0 d mX12_isWell [.ref l0] g hi23 hk22 (ts_qi (fun v26 hi24 hk25 => ((v26 ≠ 0) → (g.2.2.2 l0 14 ≠ 0) ∧ (g.2.2.2 l0 13 ≠ 0) ∧ ts_E0 d mX12_copies [.ref (g.2.2.2 l0 14), .int 0, .ref (g.2.2.2 l0 13), .int 0] g hi24 hk25 (ts_qv (fun hi30 hk31 => ∀ hi32 : ts_I, hi32 = ts_up hi30 l0 17 0 → (g.2.1 (g.2.2.2 l0 13) = 100) ∧ (vp_in 2 (g.2.2.1 (g.2.2.2 l0 13))) ∧ Q (hi32 (g.2.2.2 l0 13) (2 : Int32).toNatClampNeg) hi32 hk31))) ∧ (¬ (v26 ≠ 0) → Q ((-1000100) - (hi24 l0 8)) hi24 hk25))))))) ∧ (¬ (v3 = 0) → (((hi1 l0 11) ≠ 1) → (((hi1 l0 11) ≠ 0) → ts_E0 d mX12_must [.ref l0, .int 0] g hi1 hk2 (ts_qv (fun hi37 hk38 => ∀ hi39 : ts_I, hi39 = ts_up hi37 l0 6 0 → ts_E0 d mX12_isWell [.ref l0] g hi39 hk38 (ts_qi (fun v42 hi40 hk41 => ((v42 ≠ 0) → (g.2.2.2 l0 14 ≠ 0) ∧ (g.2.2.2 l0 13 ≠ 0) ∧ ts_E0 d mX12_copies [.ref (g.2.2.2 l0 14), .int 0, .ref (g.2.2.2 l0 13), .int 0] g hi40 hk41 (ts_qv (fun hi46 hk47 => ∀ hi48 : ts_I, hi48 = ts_up hi46 l0 17 0 → (g.2.1 (g.2.2.2 l0 13) = 100) ∧ (vp_in 2 (g.2.2.1 (g.2.2.2 l0 13))) ∧ Q (hi48 (g.2.2.2 l0 13) (2 : Int32).toNatClampNeg) hi48 hk47))) ∧ (¬ (v42 ≠ 0) → Q ((-1000100) - (hi40 l0 8)) hi40 hk41)))))) ∧ (¬ ((hi1 l0 11) ≠ 0) → ts_E0 d mX12_must [.ref l0, .int 1] g hi1 hk2 (ts_qv (fun hi51 hk52 => ∀ hi53 : ts_I, hi53 = ts_up hi51 l0 6 0 → ts_E0 d mX12_isWell [.ref l0] g hi53 hk52 (ts_qi (fun v56 hi54 hk55 => ((v56 ≠ 0) → (g.2.2.2 l0 14 ≠ 0) ∧ (g.2.2.2 l0 13 ≠ 0) ∧ ts_E0 d mX12_copies [.ref (g.2.2.2 l0 14), .int 0, .ref (g.2.2.2 l0 13), .int 0] g hi54 hk55 (ts_qv (fun hi60 hk61 => ∀ hi62 : ts_I, hi62 = ts_up hi60 l0 17 0 → (g.2.1 (g.2.2.2 l0 13) = 100) ∧ (vp_in 2 (g.2.2.1 (g.2.2.2 l0 13))) ∧ Q (hi62 (g.2.2.2 l0 13) (2 : Int32).toNatClampNeg) hi62 hk61))) ∧ (¬ (v56 ≠ 0) → Q ((-1000100) - (hi54 l0 8)) hi54 hk55))))))) ∧ (¬ ((hi1 l0 11) ≠ 1) → ts_E0 d mX12_kindOf [.int (hi1 l0 12)] g hi1 hk2 (ts_qi (fun v67 hi65 hk66 => ((v67 ≤ 0) → (((hi65 l0 11) ≠ 0) → ts_E0 d mX12_must [.ref l0, .int 0] g hi65 hk66 (ts_qv (fun hi70 hk71 => ∀ hi72 : ts_I, hi72 = ts_up hi70 l0 6 0 → ts_E0 d mX12_isWell [.ref l0] g hi72 hk71 (ts_qi (fun v75 hi73 hk74 => ((v75 ≠ 0) → (g.2.2.2 l0 14 ≠ 0) ∧ (g.2.2.2 l0 13 ≠ 0) ∧ ts_E0 d mX12_copies [.ref (g.2.2.2 l0 14), .int 0, .ref (g.2.2.2 l0 13), .int 0] g hi73 hk74 (ts_qv (fun hi79 hk80 => ∀ hi81 : ts_I, hi81 = ts_up hi79 l0 17 0 → (g.2.1 (g.2.2.2 l0 13) = 100) ∧ (vp_in 2 (g.2.2.1 (g.2.2.2 l0 13))) ∧ Q (hi81 (g.2.2.2 l0 13) (2 : Int32).toNatClampNeg) hi81 hk80))) ∧ (¬ (v75 ≠ 0) → Q ((-1000100) - (hi73 l0 8)) hi73 hk74)))))) ∧ (¬ ((hi65 l0 11) ≠ 0) → ts_E0 d mX12_must [.ref l0, .int 1] g hi65 hk66 (ts_qv (fun hi84 hk85 => ∀ hi86 : ts_I, hi86 = ts_up hi84 l0 6 0 → ts_E0 d mX12_isWell [.ref l0] g hi86 hk85 (ts_qi (fun v89 hi87 hk88 => ((v89 ≠ 0) → (g.2.2.2 l0 14 ≠ 0) ∧ (g.2.2.2 l0 13 ≠ 0) ∧ ts_E0 d mX12_copies [.ref (g.2.2.2 l0 14), .int 0, .ref (g.2.2.2 l0 13), .int 0] g hi87 hk88 (ts_qv (fun hi93 hk94 => ∀ hi95 : ts_I, hi95 = ts_up hi93 l0 17 0 → (g.2.1 (g.2.2.2 l0 13) = 100) ∧ (vp_in 2 (g.2.2.1 (g.2.2.2 l0 13))) ∧ Q (hi95 (g.2.2.2 l0 13) (2 : Int32).toNatClampNeg) hi95 hk94))) ∧ (¬ (v89 ≠ 0) → Q ((-1000100) - (hi87 l0 8)) hi87 hk88))))))) ∧ (¬ (v67 ≤ 0) → ts_E0 d mX12_readsTurnip [.ref l0] g hi65 hk66 (ts_qv (fun hi98 hk99 => ts_J0 (d + 1) mX12_field (ts_qi Q) g 135 [(0, .ref l0)] [] hi98 hk99)))))))))) : ts_J0 (d + 1) mX12_field (ts_qi Q) g 135 [(0, .ref l0)] [] hi hk := by
  refine ts_aload_n 0 (pc' := 136) rfl dX12_field_135 rfl rfl ?_
  obtain ⟨c4, W⟩ := W
  refine ts_callV (M' := mX12_isWell) (C := RX12) (pc' := 139) (av := []) (b := l0) rfl dX12_field_136 rfl gX12_field_X12_isWell rfl dvX12_isWell rfl (ci := 11) cfX12.1 (by decide) c4 (Nat.le_refl _) (Nat.le_of_ble_eq_true rfl) (Nat.le_of_ble_eq_true rfl) (Nat.le_refl _) (Nat.le_refl _) ts_kv0 W (ts_kki fun v3 hi1 hk2 W => ?_)
  refine ts_if_eq (pc' := 142) (tgt := 167) rfl dX12_field_139 (by decide) (fun q5 => ?_) (fun q5 => ?_)
  · replace W := W.1 q5
    refine ts_aload_n 0 (pc' := 168) rfl dX12_field_167 rfl rfl ?_
    refine ts_aload_n 0 (pc' := 169) rfl dX12_field_168 rfl rfl ?_
    refine ts_getI (pc' := 172) (ci := 11) 11 cfX12.1 cfX12.2.1 cfX12.2.2 rfl (by decide) hnX12_field_X12 flX12_field_104 rfl dX12_field_169 c4 ?_
    refine ts_if_ne (pc' := 175) (tgt := 179) rfl dX12_field_172 (by decide) (fun q6 => ?_) (fun q6 => ?_)
    · replace W := W.1 q6
      refine ts_iconst (v := 0) (pc' := 180) rfl dX12_field_179 (by decide) ?_
      refine ts_callV (M' := mX12_must) (C := RX12) (pc' := 183) (av := [.int 0]) (b := l0) rfl dX12_field_180 rfl gX12_field_X12_must rfl dvX12_must rfl (ci := 11) cfX12.1 (by decide) c4 (Nat.le_refl _) (Nat.le_of_ble_eq_true rfl) (Nat.le_of_ble_eq_true rfl) (Nat.le_refl _) (Nat.le_refl _) ts_kv0 W (ts_kkv fun hi7 hk8 W => ?_)
      refine ts_aload_n 0 (pc' := 184) rfl dX12_field_183 rfl rfl ?_
      refine ts_iconst (v := 0) (pc' := 185) rfl dX12_field_184 (by decide) ?_
      refine ts_putI (pc' := 188) (ci := 11) 6 cfX12.1 cfX12.2.1 cfX12.2.2 rfl (by decide) hnX12_field_X12 flX12_field_88 tyX12_ok nmX12 rfl rfl rfl dX12_field_185 c4 ?_
      obtain ⟨hi9, ehi9⟩ : ∃ z, z = ts_up hi7 l0 6 0 := ⟨_, rfl⟩
      rw [← ehi9]; replace W := W hi9 ehi9
      refine ts_aload_n 0 (pc' := 189) rfl dX12_field_188 rfl rfl ?_
      refine ts_callV (M' := mX12_isWell) (C := RX12) (pc' := 192) (av := []) (b := l0) rfl dX12_field_189 rfl gX12_field_X12_isWell rfl dvX12_isWell rfl (ci := 11) cfX12.1 (by decide) c4 (Nat.le_refl _) (Nat.le_of_ble_eq_true rfl) (Nat.le_of_ble_eq_true rfl) (Nat.le_refl _) (Nat.le_refl _) ts_kv0 W (ts_kki fun v12 hi10 hk11 W => ?_)
      refine ts_if_ne (pc' := 195) (tgt := 203) rfl dX12_field_192 (by decide) (fun q13 => ?_) (fun q13 => ?_)
      · replace W := W.1 q13
        refine ts_aload_n 0 (pc' := 204) rfl dX12_field_203 rfl rfl ?_
        obtain ⟨c14, W⟩ := W
        refine ts_getR (pc' := 207) (ci := 11) 14 cfX12.1 cfX12.2.1 cfX12.2.2 rfl (by decide) hnX12_field_X12 flX12_field_28 rfl dX12_field_204 c4 c14 ?_
        refine ts_iconst (v := 0) (pc' := 208) rfl dX12_field_207 (by decide) ?_
        refine ts_aload_n 0 (pc' := 209) rfl dX12_field_208 rfl rfl ?_
        obtain ⟨c15, W⟩ := W
        refine ts_getR (pc' := 212) (ci := 11) 13 cfX12.1 cfX12.2.1 cfX12.2.2 rfl (by decide) hnX12_field_X12 flX12_field_25 rfl dX12_field_209 c4 c15 ?_
        refine ts_iconst (v := 0) (pc' := 213) rfl dX12_field_212 (by decide) ?_
        refine ts_callS (M' := mX12_copies) (pc' := 216) (av := [.ref (g.2.2.2 l0 14), .int 0, .ref (g.2.2.2 l0 13), .int 0]) rfl dX12_field_213 rfl gX12_field_X12_copies rfl dsX12_copies rfl (Nat.le_refl _) (Nat.le_of_ble_eq_true rfl) (Nat.le_of_ble_eq_true rfl) (Nat.le_refl _) (Nat.le_refl _) ts_kv0 W (ts_kkv fun hi16 hk17 W => ?_)
        refine ts_aload_n 0 (pc' := 217) rfl dX12_field_216 rfl rfl ?_
        refine ts_iconst (v := 0) (pc' := 218) rfl dX12_field_217 (by decide) ?_
        refine ts_putI (pc' := 221) (ci := 11) 17 cfX12.1 cfX12.2.1 cfX12.2.2 rfl (by decide) hnX12_field_X12 flX12_field_145 tyX12_ok nmX12 rfl rfl rfl dX12_field_218 c4 ?_
        obtain ⟨hi18, ehi18⟩ : ∃ z, z = ts_up hi16 l0 17 0 := ⟨_, rfl⟩
        rw [← ehi18]; replace W := W hi18 ehi18
        refine ts_aload_n 0 (pc' := 222) rfl dX12_field_221 rfl rfl ?_
        refine ts_getR (pc' := 225) (ci := 11) 13 cfX12.1 cfX12.2.1 cfX12.2.2 rfl (by decide) hnX12_field_X12 flX12_field_25 rfl dX12_field_222 c4 c15 ?_
        refine ts_iconst (v := 2) (pc' := 226) rfl dX12_field_225 (by decide) ?_
        obtain ⟨c19, W⟩ := W
        obtain ⟨c20, W⟩ := W
        refine ts_iaload (pc' := 227) rfl dX12_field_226 c19 c20 ?_
        exact ts_iret dX12_field_227 rfl (Nat.le_refl _) (Nat.le_refl _) ⟨rfl, _, rfl, W⟩
      · replace W := W.2 q13
        refine ts_ldc (v := (-1000100)) (pc' := 197) rfl dX12_field_195 (by decide +kernel) ?_
        refine ts_aload_n 0 (pc' := 198) rfl dX12_field_197 rfl rfl ?_
        refine ts_getI (pc' := 201) (ci := 11) 8 cfX12.1 cfX12.2.1 cfX12.2.2 rfl (by decide) hnX12_field_X12 flX12_field_107 rfl dX12_field_198 c4 ?_
        refine ts_isub (pc' := 202) rfl dX12_field_201 ?_
        exact ts_iret dX12_field_202 rfl (Nat.le_refl _) (Nat.le_refl _) ⟨rfl, _, rfl, W⟩
    · replace W := W.2 q6
      refine ts_iconst (v := 1) (pc' := 176) rfl dX12_field_175 (by decide) ?_
      refine ts_goto (tgt := 180) dX12_field_176 (by decide) ?_
      refine ts_callV (M' := mX12_must) (C := RX12) (pc' := 183) (av := [.int 1]) (b := l0) rfl dX12_field_180 rfl gX12_field_X12_must rfl dvX12_must rfl (ci := 11) cfX12.1 (by decide) c4 (Nat.le_refl _) (Nat.le_of_ble_eq_true rfl) (Nat.le_of_ble_eq_true rfl) (Nat.le_refl _) (Nat.le_refl _) ts_kv0 W (ts_kkv fun hi21 hk22 W => ?_)
      refine ts_aload_n 0 (pc' := 184) rfl dX12_field_183 rfl rfl ?_
      refine ts_iconst (v := 0) (pc' := 185) rfl dX12_field_184 (by decide) ?_
      refine ts_putI (pc' := 188) (ci := 11) 6 cfX12.1 cfX12.2.1 cfX12.2.2 rfl (by decide) hnX12_field_X12 flX12_field_88 tyX12_ok nmX12 rfl rfl rfl dX12_field_185 c4 ?_
      obtain ⟨hi23, ehi23⟩ : ∃ z, z = ts_up hi21 l0 6 0 := ⟨_, rfl⟩
      rw [← ehi23]; replace W := W hi23 ehi23
      refine ts_aload_n 0 (pc' := 189) rfl dX12_field_188 rfl rfl ?_
      refine ts_callV (M' := mX12_isWell) (C := RX12) (pc' := 192) (av := []) (b := l0) rfl dX12_field_189 rfl gX12_field_X12_isWell rfl dvX12_isWell rfl (ci := 11) cfX12.1 (by decide) c4 (Nat.le_refl _) (Nat.le_of_ble_eq_true rfl) (Nat.le_of_ble_eq_true rfl) (Nat.le_refl _) (Nat.le_refl _) ts_kv0 W (ts_kki fun v26 hi24 hk25 W => ?_)
      refine ts_if_ne (pc' := 195) (tgt := 203) rfl dX12_field_192 (by decide) (fun q27 => ?_) (fun q27 => ?_)
      · replace W := W.1 q27
        refine ts_aload_n 0 (pc' := 204) rfl dX12_field_203 rfl rfl ?_
        obtain ⟨c28, W⟩ := W
        refine ts_getR (pc' := 207) (ci := 11) 14 cfX12.1 cfX12.2.1 cfX12.2.2 rfl (by decide) hnX12_field_X12 flX12_field_28 rfl dX12_field_204 c4 c28 ?_
        refine ts_iconst (v := 0) (pc' := 208) rfl dX12_field_207 (by decide) ?_
        refine ts_aload_n 0 (pc' := 209) rfl dX12_field_208 rfl rfl ?_
        obtain ⟨c29, W⟩ := W
        refine ts_getR (pc' := 212) (ci := 11) 13 cfX12.1 cfX12.2.1 cfX12.2.2 rfl (by decide) hnX12_field_X12 flX12_field_25 rfl dX12_field_209 c4 c29 ?_
        refine ts_iconst (v := 0) (pc' := 213) rfl dX12_field_212 (by decide) ?_
        refine ts_callS (M' := mX12_copies) (pc' := 216) (av := [.ref (g.2.2.2 l0 14), .int 0, .ref (g.2.2.2 l0 13), .int 0]) rfl dX12_field_213 rfl gX12_field_X12_copies rfl dsX12_copies rfl (Nat.le_refl _) (Nat.le_of_ble_eq_true rfl) (Nat.le_of_ble_eq_true rfl) (Nat.le_refl _) (Nat.le_refl _) ts_kv0 W (ts_kkv fun hi30 hk31 W => ?_)
        refine ts_aload_n 0 (pc' := 217) rfl dX12_field_216 rfl rfl ?_
        refine ts_iconst (v := 0) (pc' := 218) rfl dX12_field_217 (by decide) ?_
        refine ts_putI (pc' := 221) (ci := 11) 17 cfX12.1 cfX12.2.1 cfX12.2.2 rfl (by decide) hnX12_field_X12 flX12_field_145 tyX12_ok nmX12 rfl rfl rfl dX12_field_218 c4 ?_
        obtain ⟨hi32, ehi32⟩ : ∃ z, z = ts_up hi30 l0 17 0 := ⟨_, rfl⟩
        rw [← ehi32]; replace W := W hi32 ehi32
        refine ts_aload_n 0 (pc' := 222) rfl dX12_field_221 rfl rfl ?_
        refine ts_getR (pc' := 225) (ci := 11) 13 cfX12.1 cfX12.2.1 cfX12.2.2 rfl (by decide) hnX12_field_X12 flX12_field_25 rfl dX12_field_222 c4 c29 ?_
        refine ts_iconst (v := 2) (pc' := 226) rfl dX12_field_225 (by decide) ?_
        obtain ⟨c33, W⟩ := W
        obtain ⟨c34, W⟩ := W
        refine ts_iaload (pc' := 227) rfl dX12_field_226 c33 c34 ?_
        exact ts_iret dX12_field_227 rfl (Nat.le_refl _) (Nat.le_refl _) ⟨rfl, _, rfl, W⟩
      · replace W := W.2 q27
        refine ts_ldc (v := (-1000100)) (pc' := 197) rfl dX12_field_195 (by decide +kernel) ?_
        refine ts_aload_n 0 (pc' := 198) rfl dX12_field_197 rfl rfl ?_
        refine ts_getI (pc' := 201) (ci := 11) 8 cfX12.1 cfX12.2.1 cfX12.2.2 rfl (by decide) hnX12_field_X12 flX12_field_107 rfl dX12_field_198 c4 ?_
        refine ts_isub (pc' := 202) rfl dX12_field_201 ?_
        exact ts_iret dX12_field_202 rfl (Nat.le_refl _) (Nat.le_refl _) ⟨rfl, _, rfl, W⟩
  · replace W := W.2 q5
    refine ts_aload_n 0 (pc' := 143) rfl dX12_field_142 rfl rfl ?_
    refine ts_getI (pc' := 146) (ci := 11) 11 cfX12.1 cfX12.2.1 cfX12.2.2 rfl (by decide) hnX12_field_X12 flX12_field_104 rfl dX12_field_143 c4 ?_
    refine ts_iconst (v := 1) (pc' := 147) rfl dX12_field_146 (by decide) ?_
    refine ts_icmp_ne (pc' := 150) (tgt := 167) rfl dX12_field_147 (by decide) (fun q35 => ?_) (fun q35 => ?_)
    · replace W := W.1 q35
      refine ts_aload_n 0 (pc' := 168) rfl dX12_field_167 rfl rfl ?_
      refine ts_aload_n 0 (pc' := 169) rfl dX12_field_168 rfl rfl ?_
      refine ts_getI (pc' := 172) (ci := 11) 11 cfX12.1 cfX12.2.1 cfX12.2.2 rfl (by decide) hnX12_field_X12 flX12_field_104 rfl dX12_field_169 c4 ?_
      refine ts_if_ne (pc' := 175) (tgt := 179) rfl dX12_field_172 (by decide) (fun q36 => ?_) (fun q36 => ?_)
      · replace W := W.1 q36
        refine ts_iconst (v := 0) (pc' := 180) rfl dX12_field_179 (by decide) ?_
        refine ts_callV (M' := mX12_must) (C := RX12) (pc' := 183) (av := [.int 0]) (b := l0) rfl dX12_field_180 rfl gX12_field_X12_must rfl dvX12_must rfl (ci := 11) cfX12.1 (by decide) c4 (Nat.le_refl _) (Nat.le_of_ble_eq_true rfl) (Nat.le_of_ble_eq_true rfl) (Nat.le_refl _) (Nat.le_refl _) ts_kv0 W (ts_kkv fun hi37 hk38 W => ?_)
        refine ts_aload_n 0 (pc' := 184) rfl dX12_field_183 rfl rfl ?_
        refine ts_iconst (v := 0) (pc' := 185) rfl dX12_field_184 (by decide) ?_
        refine ts_putI (pc' := 188) (ci := 11) 6 cfX12.1 cfX12.2.1 cfX12.2.2 rfl (by decide) hnX12_field_X12 flX12_field_88 tyX12_ok nmX12 rfl rfl rfl dX12_field_185 c4 ?_
        obtain ⟨hi39, ehi39⟩ : ∃ z, z = ts_up hi37 l0 6 0 := ⟨_, rfl⟩
        rw [← ehi39]; replace W := W hi39 ehi39
        refine ts_aload_n 0 (pc' := 189) rfl dX12_field_188 rfl rfl ?_
        refine ts_callV (M' := mX12_isWell) (C := RX12) (pc' := 192) (av := []) (b := l0) rfl dX12_field_189 rfl gX12_field_X12_isWell rfl dvX12_isWell rfl (ci := 11) cfX12.1 (by decide) c4 (Nat.le_refl _) (Nat.le_of_ble_eq_true rfl) (Nat.le_of_ble_eq_true rfl) (Nat.le_refl _) (Nat.le_refl _) ts_kv0 W (ts_kki fun v42 hi40 hk41 W => ?_)
        refine ts_if_ne (pc' := 195) (tgt := 203) rfl dX12_field_192 (by decide) (fun q43 => ?_) (fun q43 => ?_)
        · replace W := W.1 q43
          refine ts_aload_n 0 (pc' := 204) rfl dX12_field_203 rfl rfl ?_
          obtain ⟨c44, W⟩ := W
          refine ts_getR (pc' := 207) (ci := 11) 14 cfX12.1 cfX12.2.1 cfX12.2.2 rfl (by decide) hnX12_field_X12 flX12_field_28 rfl dX12_field_204 c4 c44 ?_
          refine ts_iconst (v := 0) (pc' := 208) rfl dX12_field_207 (by decide) ?_
          refine ts_aload_n 0 (pc' := 209) rfl dX12_field_208 rfl rfl ?_
          obtain ⟨c45, W⟩ := W
          refine ts_getR (pc' := 212) (ci := 11) 13 cfX12.1 cfX12.2.1 cfX12.2.2 rfl (by decide) hnX12_field_X12 flX12_field_25 rfl dX12_field_209 c4 c45 ?_
          refine ts_iconst (v := 0) (pc' := 213) rfl dX12_field_212 (by decide) ?_
          refine ts_callS (M' := mX12_copies) (pc' := 216) (av := [.ref (g.2.2.2 l0 14), .int 0, .ref (g.2.2.2 l0 13), .int 0]) rfl dX12_field_213 rfl gX12_field_X12_copies rfl dsX12_copies rfl (Nat.le_refl _) (Nat.le_of_ble_eq_true rfl) (Nat.le_of_ble_eq_true rfl) (Nat.le_refl _) (Nat.le_refl _) ts_kv0 W (ts_kkv fun hi46 hk47 W => ?_)
          refine ts_aload_n 0 (pc' := 217) rfl dX12_field_216 rfl rfl ?_
          refine ts_iconst (v := 0) (pc' := 218) rfl dX12_field_217 (by decide) ?_
          refine ts_putI (pc' := 221) (ci := 11) 17 cfX12.1 cfX12.2.1 cfX12.2.2 rfl (by decide) hnX12_field_X12 flX12_field_145 tyX12_ok nmX12 rfl rfl rfl dX12_field_218 c4 ?_
          obtain ⟨hi48, ehi48⟩ : ∃ z, z = ts_up hi46 l0 17 0 := ⟨_, rfl⟩
          rw [← ehi48]; replace W := W hi48 ehi48
          refine ts_aload_n 0 (pc' := 222) rfl dX12_field_221 rfl rfl ?_
          refine ts_getR (pc' := 225) (ci := 11) 13 cfX12.1 cfX12.2.1 cfX12.2.2 rfl (by decide) hnX12_field_X12 flX12_field_25 rfl dX12_field_222 c4 c45 ?_
          refine ts_iconst (v := 2) (pc' := 226) rfl dX12_field_225 (by decide) ?_
          obtain ⟨c49, W⟩ := W
          obtain ⟨c50, W⟩ := W
          refine ts_iaload (pc' := 227) rfl dX12_field_226 c49 c50 ?_
          exact ts_iret dX12_field_227 rfl (Nat.le_refl _) (Nat.le_refl _) ⟨rfl, _, rfl, W⟩
        · replace W := W.2 q43
          refine ts_ldc (v := (-1000100)) (pc' := 197) rfl dX12_field_195 (by decide +kernel) ?_
          refine ts_aload_n 0 (pc' := 198) rfl dX12_field_197 rfl rfl ?_
          refine ts_getI (pc' := 201) (ci := 11) 8 cfX12.1 cfX12.2.1 cfX12.2.2 rfl (by decide) hnX12_field_X12 flX12_field_107 rfl dX12_field_198 c4 ?_
          refine ts_isub (pc' := 202) rfl dX12_field_201 ?_
          exact ts_iret dX12_field_202 rfl (Nat.le_refl _) (Nat.le_refl _) ⟨rfl, _, rfl, W⟩
      · replace W := W.2 q36
        refine ts_iconst (v := 1) (pc' := 176) rfl dX12_field_175 (by decide) ?_
        refine ts_goto (tgt := 180) dX12_field_176 (by decide) ?_
        refine ts_callV (M' := mX12_must) (C := RX12) (pc' := 183) (av := [.int 1]) (b := l0) rfl dX12_field_180 rfl gX12_field_X12_must rfl dvX12_must rfl (ci := 11) cfX12.1 (by decide) c4 (Nat.le_refl _) (Nat.le_of_ble_eq_true rfl) (Nat.le_of_ble_eq_true rfl) (Nat.le_refl _) (Nat.le_refl _) ts_kv0 W (ts_kkv fun hi51 hk52 W => ?_)
        refine ts_aload_n 0 (pc' := 184) rfl dX12_field_183 rfl rfl ?_
        refine ts_iconst (v := 0) (pc' := 185) rfl dX12_field_184 (by decide) ?_
        refine ts_putI (pc' := 188) (ci := 11) 6 cfX12.1 cfX12.2.1 cfX12.2.2 rfl (by decide) hnX12_field_X12 flX12_field_88 tyX12_ok nmX12 rfl rfl rfl dX12_field_185 c4 ?_
        obtain ⟨hi53, ehi53⟩ : ∃ z, z = ts_up hi51 l0 6 0 := ⟨_, rfl⟩
        rw [← ehi53]; replace W := W hi53 ehi53
        refine ts_aload_n 0 (pc' := 189) rfl dX12_field_188 rfl rfl ?_
        refine ts_callV (M' := mX12_isWell) (C := RX12) (pc' := 192) (av := []) (b := l0) rfl dX12_field_189 rfl gX12_field_X12_isWell rfl dvX12_isWell rfl (ci := 11) cfX12.1 (by decide) c4 (Nat.le_refl _) (Nat.le_of_ble_eq_true rfl) (Nat.le_of_ble_eq_true rfl) (Nat.le_refl _) (Nat.le_refl _) ts_kv0 W (ts_kki fun v56 hi54 hk55 W => ?_)
        refine ts_if_ne (pc' := 195) (tgt := 203) rfl dX12_field_192 (by decide) (fun q57 => ?_) (fun q57 => ?_)
        · replace W := W.1 q57
          refine ts_aload_n 0 (pc' := 204) rfl dX12_field_203 rfl rfl ?_
          obtain ⟨c58, W⟩ := W
          refine ts_getR (pc' := 207) (ci := 11) 14 cfX12.1 cfX12.2.1 cfX12.2.2 rfl (by decide) hnX12_field_X12 flX12_field_28 rfl dX12_field_204 c4 c58 ?_
          refine ts_iconst (v := 0) (pc' := 208) rfl dX12_field_207 (by decide) ?_
          refine ts_aload_n 0 (pc' := 209) rfl dX12_field_208 rfl rfl ?_
          obtain ⟨c59, W⟩ := W
          refine ts_getR (pc' := 212) (ci := 11) 13 cfX12.1 cfX12.2.1 cfX12.2.2 rfl (by decide) hnX12_field_X12 flX12_field_25 rfl dX12_field_209 c4 c59 ?_
          refine ts_iconst (v := 0) (pc' := 213) rfl dX12_field_212 (by decide) ?_
          refine ts_callS (M' := mX12_copies) (pc' := 216) (av := [.ref (g.2.2.2 l0 14), .int 0, .ref (g.2.2.2 l0 13), .int 0]) rfl dX12_field_213 rfl gX12_field_X12_copies rfl dsX12_copies rfl (Nat.le_refl _) (Nat.le_of_ble_eq_true rfl) (Nat.le_of_ble_eq_true rfl) (Nat.le_refl _) (Nat.le_refl _) ts_kv0 W (ts_kkv fun hi60 hk61 W => ?_)
          refine ts_aload_n 0 (pc' := 217) rfl dX12_field_216 rfl rfl ?_
          refine ts_iconst (v := 0) (pc' := 218) rfl dX12_field_217 (by decide) ?_
          refine ts_putI (pc' := 221) (ci := 11) 17 cfX12.1 cfX12.2.1 cfX12.2.2 rfl (by decide) hnX12_field_X12 flX12_field_145 tyX12_ok nmX12 rfl rfl rfl dX12_field_218 c4 ?_
          obtain ⟨hi62, ehi62⟩ : ∃ z, z = ts_up hi60 l0 17 0 := ⟨_, rfl⟩
          rw [← ehi62]; replace W := W hi62 ehi62
          refine ts_aload_n 0 (pc' := 222) rfl dX12_field_221 rfl rfl ?_
          refine ts_getR (pc' := 225) (ci := 11) 13 cfX12.1 cfX12.2.1 cfX12.2.2 rfl (by decide) hnX12_field_X12 flX12_field_25 rfl dX12_field_222 c4 c59 ?_
          refine ts_iconst (v := 2) (pc' := 226) rfl dX12_field_225 (by decide) ?_
          obtain ⟨c63, W⟩ := W
          obtain ⟨c64, W⟩ := W
          refine ts_iaload (pc' := 227) rfl dX12_field_226 c63 c64 ?_
          exact ts_iret dX12_field_227 rfl (Nat.le_refl _) (Nat.le_refl _) ⟨rfl, _, rfl, W⟩
        · replace W := W.2 q57
          refine ts_ldc (v := (-1000100)) (pc' := 197) rfl dX12_field_195 (by decide +kernel) ?_
          refine ts_aload_n 0 (pc' := 198) rfl dX12_field_197 rfl rfl ?_
          refine ts_getI (pc' := 201) (ci := 11) 8 cfX12.1 cfX12.2.1 cfX12.2.2 rfl (by decide) hnX12_field_X12 flX12_field_107 rfl dX12_field_198 c4 ?_
          refine ts_isub (pc' := 202) rfl dX12_field_201 ?_
          exact ts_iret dX12_field_202 rfl (Nat.le_refl _) (Nat.le_refl _) ⟨rfl, _, rfl, W⟩
    · replace W := W.2 q35
      refine ts_aload_n 0 (pc' := 151) rfl dX12_field_150 rfl rfl ?_
      refine ts_getI (pc' := 154) (ci := 11) 12 cfX12.1 cfX12.2.1 cfX12.2.2 rfl (by decide) hnX12_field_X12 flX12_field_101 rfl dX12_field_151 c4 ?_
      refine ts_callS (M' := mX12_kindOf) (pc' := 157) (av := [.int (hi1 l0 12)]) rfl dX12_field_154 rfl gX12_field_X12_kindOf rfl dsX12_kindOf rfl (Nat.le_refl _) (Nat.le_of_ble_eq_true rfl) (Nat.le_of_ble_eq_true rfl) (Nat.le_refl _) (Nat.le_refl _) ts_kv0 W (ts_kki fun v67 hi65 hk66 W => ?_)
      refine ts_if_le (pc' := 160) (tgt := 167) rfl dX12_field_157 (by decide) (fun q68 => ?_) (fun q68 => ?_)
      · replace W := W.1 q68
        refine ts_aload_n 0 (pc' := 168) rfl dX12_field_167 rfl rfl ?_
        refine ts_aload_n 0 (pc' := 169) rfl dX12_field_168 rfl rfl ?_
        refine ts_getI (pc' := 172) (ci := 11) 11 cfX12.1 cfX12.2.1 cfX12.2.2 rfl (by decide) hnX12_field_X12 flX12_field_104 rfl dX12_field_169 c4 ?_
        refine ts_if_ne (pc' := 175) (tgt := 179) rfl dX12_field_172 (by decide) (fun q69 => ?_) (fun q69 => ?_)
        · replace W := W.1 q69
          refine ts_iconst (v := 0) (pc' := 180) rfl dX12_field_179 (by decide) ?_
          refine ts_callV (M' := mX12_must) (C := RX12) (pc' := 183) (av := [.int 0]) (b := l0) rfl dX12_field_180 rfl gX12_field_X12_must rfl dvX12_must rfl (ci := 11) cfX12.1 (by decide) c4 (Nat.le_refl _) (Nat.le_of_ble_eq_true rfl) (Nat.le_of_ble_eq_true rfl) (Nat.le_refl _) (Nat.le_refl _) ts_kv0 W (ts_kkv fun hi70 hk71 W => ?_)
          refine ts_aload_n 0 (pc' := 184) rfl dX12_field_183 rfl rfl ?_
          refine ts_iconst (v := 0) (pc' := 185) rfl dX12_field_184 (by decide) ?_
          refine ts_putI (pc' := 188) (ci := 11) 6 cfX12.1 cfX12.2.1 cfX12.2.2 rfl (by decide) hnX12_field_X12 flX12_field_88 tyX12_ok nmX12 rfl rfl rfl dX12_field_185 c4 ?_
          obtain ⟨hi72, ehi72⟩ : ∃ z, z = ts_up hi70 l0 6 0 := ⟨_, rfl⟩
          rw [← ehi72]; replace W := W hi72 ehi72
          refine ts_aload_n 0 (pc' := 189) rfl dX12_field_188 rfl rfl ?_
          refine ts_callV (M' := mX12_isWell) (C := RX12) (pc' := 192) (av := []) (b := l0) rfl dX12_field_189 rfl gX12_field_X12_isWell rfl dvX12_isWell rfl (ci := 11) cfX12.1 (by decide) c4 (Nat.le_refl _) (Nat.le_of_ble_eq_true rfl) (Nat.le_of_ble_eq_true rfl) (Nat.le_refl _) (Nat.le_refl _) ts_kv0 W (ts_kki fun v75 hi73 hk74 W => ?_)
          refine ts_if_ne (pc' := 195) (tgt := 203) rfl dX12_field_192 (by decide) (fun q76 => ?_) (fun q76 => ?_)
          · replace W := W.1 q76
            refine ts_aload_n 0 (pc' := 204) rfl dX12_field_203 rfl rfl ?_
            obtain ⟨c77, W⟩ := W
            refine ts_getR (pc' := 207) (ci := 11) 14 cfX12.1 cfX12.2.1 cfX12.2.2 rfl (by decide) hnX12_field_X12 flX12_field_28 rfl dX12_field_204 c4 c77 ?_
            refine ts_iconst (v := 0) (pc' := 208) rfl dX12_field_207 (by decide) ?_
            refine ts_aload_n 0 (pc' := 209) rfl dX12_field_208 rfl rfl ?_
            obtain ⟨c78, W⟩ := W
            refine ts_getR (pc' := 212) (ci := 11) 13 cfX12.1 cfX12.2.1 cfX12.2.2 rfl (by decide) hnX12_field_X12 flX12_field_25 rfl dX12_field_209 c4 c78 ?_
            refine ts_iconst (v := 0) (pc' := 213) rfl dX12_field_212 (by decide) ?_
            refine ts_callS (M' := mX12_copies) (pc' := 216) (av := [.ref (g.2.2.2 l0 14), .int 0, .ref (g.2.2.2 l0 13), .int 0]) rfl dX12_field_213 rfl gX12_field_X12_copies rfl dsX12_copies rfl (Nat.le_refl _) (Nat.le_of_ble_eq_true rfl) (Nat.le_of_ble_eq_true rfl) (Nat.le_refl _) (Nat.le_refl _) ts_kv0 W (ts_kkv fun hi79 hk80 W => ?_)
            refine ts_aload_n 0 (pc' := 217) rfl dX12_field_216 rfl rfl ?_
            refine ts_iconst (v := 0) (pc' := 218) rfl dX12_field_217 (by decide) ?_
            refine ts_putI (pc' := 221) (ci := 11) 17 cfX12.1 cfX12.2.1 cfX12.2.2 rfl (by decide) hnX12_field_X12 flX12_field_145 tyX12_ok nmX12 rfl rfl rfl dX12_field_218 c4 ?_
            obtain ⟨hi81, ehi81⟩ : ∃ z, z = ts_up hi79 l0 17 0 := ⟨_, rfl⟩
            rw [← ehi81]; replace W := W hi81 ehi81
            refine ts_aload_n 0 (pc' := 222) rfl dX12_field_221 rfl rfl ?_
            refine ts_getR (pc' := 225) (ci := 11) 13 cfX12.1 cfX12.2.1 cfX12.2.2 rfl (by decide) hnX12_field_X12 flX12_field_25 rfl dX12_field_222 c4 c78 ?_
            refine ts_iconst (v := 2) (pc' := 226) rfl dX12_field_225 (by decide) ?_
            obtain ⟨c82, W⟩ := W
            obtain ⟨c83, W⟩ := W
            refine ts_iaload (pc' := 227) rfl dX12_field_226 c82 c83 ?_
            exact ts_iret dX12_field_227 rfl (Nat.le_refl _) (Nat.le_refl _) ⟨rfl, _, rfl, W⟩
          · replace W := W.2 q76
            refine ts_ldc (v := (-1000100)) (pc' := 197) rfl dX12_field_195 (by decide +kernel) ?_
            refine ts_aload_n 0 (pc' := 198) rfl dX12_field_197 rfl rfl ?_
            refine ts_getI (pc' := 201) (ci := 11) 8 cfX12.1 cfX12.2.1 cfX12.2.2 rfl (by decide) hnX12_field_X12 flX12_field_107 rfl dX12_field_198 c4 ?_
            refine ts_isub (pc' := 202) rfl dX12_field_201 ?_
            exact ts_iret dX12_field_202 rfl (Nat.le_refl _) (Nat.le_refl _) ⟨rfl, _, rfl, W⟩
        · replace W := W.2 q69
          refine ts_iconst (v := 1) (pc' := 176) rfl dX12_field_175 (by decide) ?_
          refine ts_goto (tgt := 180) dX12_field_176 (by decide) ?_
          refine ts_callV (M' := mX12_must) (C := RX12) (pc' := 183) (av := [.int 1]) (b := l0) rfl dX12_field_180 rfl gX12_field_X12_must rfl dvX12_must rfl (ci := 11) cfX12.1 (by decide) c4 (Nat.le_refl _) (Nat.le_of_ble_eq_true rfl) (Nat.le_of_ble_eq_true rfl) (Nat.le_refl _) (Nat.le_refl _) ts_kv0 W (ts_kkv fun hi84 hk85 W => ?_)
          refine ts_aload_n 0 (pc' := 184) rfl dX12_field_183 rfl rfl ?_
          refine ts_iconst (v := 0) (pc' := 185) rfl dX12_field_184 (by decide) ?_
          refine ts_putI (pc' := 188) (ci := 11) 6 cfX12.1 cfX12.2.1 cfX12.2.2 rfl (by decide) hnX12_field_X12 flX12_field_88 tyX12_ok nmX12 rfl rfl rfl dX12_field_185 c4 ?_
          obtain ⟨hi86, ehi86⟩ : ∃ z, z = ts_up hi84 l0 6 0 := ⟨_, rfl⟩
          rw [← ehi86]; replace W := W hi86 ehi86
          refine ts_aload_n 0 (pc' := 189) rfl dX12_field_188 rfl rfl ?_
          refine ts_callV (M' := mX12_isWell) (C := RX12) (pc' := 192) (av := []) (b := l0) rfl dX12_field_189 rfl gX12_field_X12_isWell rfl dvX12_isWell rfl (ci := 11) cfX12.1 (by decide) c4 (Nat.le_refl _) (Nat.le_of_ble_eq_true rfl) (Nat.le_of_ble_eq_true rfl) (Nat.le_refl _) (Nat.le_refl _) ts_kv0 W (ts_kki fun v89 hi87 hk88 W => ?_)
          refine ts_if_ne (pc' := 195) (tgt := 203) rfl dX12_field_192 (by decide) (fun q90 => ?_) (fun q90 => ?_)
          · replace W := W.1 q90
            refine ts_aload_n 0 (pc' := 204) rfl dX12_field_203 rfl rfl ?_
            obtain ⟨c91, W⟩ := W
            refine ts_getR (pc' := 207) (ci := 11) 14 cfX12.1 cfX12.2.1 cfX12.2.2 rfl (by decide) hnX12_field_X12 flX12_field_28 rfl dX12_field_204 c4 c91 ?_
            refine ts_iconst (v := 0) (pc' := 208) rfl dX12_field_207 (by decide) ?_
            refine ts_aload_n 0 (pc' := 209) rfl dX12_field_208 rfl rfl ?_
            obtain ⟨c92, W⟩ := W
            refine ts_getR (pc' := 212) (ci := 11) 13 cfX12.1 cfX12.2.1 cfX12.2.2 rfl (by decide) hnX12_field_X12 flX12_field_25 rfl dX12_field_209 c4 c92 ?_
            refine ts_iconst (v := 0) (pc' := 213) rfl dX12_field_212 (by decide) ?_
            refine ts_callS (M' := mX12_copies) (pc' := 216) (av := [.ref (g.2.2.2 l0 14), .int 0, .ref (g.2.2.2 l0 13), .int 0]) rfl dX12_field_213 rfl gX12_field_X12_copies rfl dsX12_copies rfl (Nat.le_refl _) (Nat.le_of_ble_eq_true rfl) (Nat.le_of_ble_eq_true rfl) (Nat.le_refl _) (Nat.le_refl _) ts_kv0 W (ts_kkv fun hi93 hk94 W => ?_)
            refine ts_aload_n 0 (pc' := 217) rfl dX12_field_216 rfl rfl ?_
            refine ts_iconst (v := 0) (pc' := 218) rfl dX12_field_217 (by decide) ?_
            refine ts_putI (pc' := 221) (ci := 11) 17 cfX12.1 cfX12.2.1 cfX12.2.2 rfl (by decide) hnX12_field_X12 flX12_field_145 tyX12_ok nmX12 rfl rfl rfl dX12_field_218 c4 ?_
            obtain ⟨hi95, ehi95⟩ : ∃ z, z = ts_up hi93 l0 17 0 := ⟨_, rfl⟩
            rw [← ehi95]; replace W := W hi95 ehi95
            refine ts_aload_n 0 (pc' := 222) rfl dX12_field_221 rfl rfl ?_
            refine ts_getR (pc' := 225) (ci := 11) 13 cfX12.1 cfX12.2.1 cfX12.2.2 rfl (by decide) hnX12_field_X12 flX12_field_25 rfl dX12_field_222 c4 c92 ?_
            refine ts_iconst (v := 2) (pc' := 226) rfl dX12_field_225 (by decide) ?_
            obtain ⟨c96, W⟩ := W
            obtain ⟨c97, W⟩ := W
            refine ts_iaload (pc' := 227) rfl dX12_field_226 c96 c97 ?_
            exact ts_iret dX12_field_227 rfl (Nat.le_refl _) (Nat.le_refl _) ⟨rfl, _, rfl, W⟩
          · replace W := W.2 q90
            refine ts_ldc (v := (-1000100)) (pc' := 197) rfl dX12_field_195 (by decide +kernel) ?_
            refine ts_aload_n 0 (pc' := 198) rfl dX12_field_197 rfl rfl ?_
            refine ts_getI (pc' := 201) (ci := 11) 8 cfX12.1 cfX12.2.1 cfX12.2.2 rfl (by decide) hnX12_field_X12 flX12_field_107 rfl dX12_field_198 c4 ?_
            refine ts_isub (pc' := 202) rfl dX12_field_201 ?_
            exact ts_iret dX12_field_202 rfl (Nat.le_refl _) (Nat.le_refl _) ⟨rfl, _, rfl, W⟩
      · replace W := W.2 q68
        refine ts_aload_n 0 (pc' := 161) rfl dX12_field_160 rfl rfl ?_
        refine ts_callV (M' := mX12_readsTurnip) (C := RX12) (pc' := 164) (av := []) (b := l0) rfl dX12_field_161 rfl gX12_field_X12_readsTurnip rfl dvX12_readsTurnip rfl (ci := 11) cfX12.1 (by decide) c4 (Nat.le_refl _) (Nat.le_of_ble_eq_true rfl) (Nat.le_of_ble_eq_true rfl) (Nat.le_refl _) (Nat.le_refl _) ts_kv0 W (ts_kkv fun hi98 hk99 W => ?_)
        refine ts_goto (tgt := 135) dX12_field_164 (by decide) ?_
        exact ts_sub [0] rfl W
theorem hnX12_fault_X12 : ∀ w ∈ u_ws RX12 TX12 25, w ∈ wsX12_fault := by decide +kernel
theorem flX12_fault_114 : Cond.fieldLink RX12 114 "TurnipSquiresModel" "faultKind" "I" ∈ wsX12_fault := by decide +kernel
set_option maxHeartbeats 4000000 in
theorem wX12_fault_0 {d : Nat} {g : ts_G} {Q : Int32 → ts_I → ts_K → Prop} {o : Nat} {hi : ts_I} {hk : ts_K} (W : (g.2.1 o = 11) ∧ Q (hi o 7) hi hk) : ts_J0 d mX12_fault (ts_qi Q) g 0 [(0, .ref o)] [] hi hk := by
  refine ts_aload_n 0 (pc' := 1) rfl dX12_fault_0 rfl rfl ?_
  obtain ⟨c1, W⟩ := W
  refine ts_getI (pc' := 4) (ci := 11) 7 cfX12.1 cfX12.2.1 cfX12.2.2 rfl (by decide) hnX12_fault_X12 flX12_fault_114 rfl dX12_fault_1 c1 ?_
  exact ts_iret dX12_fault_4 rfl (Nat.le_refl _) (Nat.le_refl _) ⟨rfl, _, rfl, W⟩
theorem hnX12_isField_X12 : ∀ w ∈ u_ws RX12 TX12 25, w ∈ wsX12_isField := by decide +kernel
theorem flX12_isField_25 : Cond.fieldLink RX12 25 "TurnipSquiresModel" "now" "[I" ∈ wsX12_isField := by decide +kernel
set_option maxHeartbeats 4000000 in
theorem wX12_isField_0 {d : Nat} {g : ts_G} {Q : Int32 → ts_I → ts_K → Prop} {o : Nat} {hi : ts_I} {hk : ts_K} (W : (g.2.1 o = 11) ∧ (g.2.2.2 o 13 ≠ 0) ∧ (g.2.1 (g.2.2.2 o 13) = 100) ∧ (vp_in 0 (g.2.2.1 (g.2.2.2 o 13))) ∧ (((hi (g.2.2.2 o 13) (0 : Int32).toNatClampNeg) ≤ 0) → Q 0 hi hk) ∧ (¬ ((hi (g.2.2.2 o 13) (0 : Int32).toNatClampNeg) ≤ 0) → Q 1 hi hk)) : ts_J0 d mX12_isField (ts_qi Q) g 0 [(0, .ref o)] [] hi hk := by
  refine ts_aload_n 0 (pc' := 1) rfl dX12_isField_0 rfl rfl ?_
  obtain ⟨c1, W⟩ := W
  obtain ⟨c2, W⟩ := W
  refine ts_getR (pc' := 4) (ci := 11) 13 cfX12.1 cfX12.2.1 cfX12.2.2 rfl (by decide) hnX12_isField_X12 flX12_isField_25 rfl dX12_isField_1 c1 c2 ?_
  refine ts_iconst (v := 0) (pc' := 5) rfl dX12_isField_4 (by decide) ?_
  obtain ⟨c3, W⟩ := W
  obtain ⟨c4, W⟩ := W
  refine ts_iaload (pc' := 6) rfl dX12_isField_5 c3 c4 ?_
  refine ts_if_le (pc' := 9) (tgt := 13) rfl dX12_isField_6 (by decide) (fun q5 => ?_) (fun q5 => ?_)
  · replace W := W.1 q5
    refine ts_iconst (v := 0) (pc' := 14) rfl dX12_isField_13 (by decide) ?_
    exact ts_zret dX12_isField_14 rfl (by decide) (Nat.le_refl _) (Nat.le_refl _) ⟨rfl, _, rfl, W⟩
  · replace W := W.2 q5
    refine ts_iconst (v := 1) (pc' := 10) rfl dX12_isField_9 (by decide) ?_
    refine ts_goto (tgt := 14) dX12_isField_10 (by decide) ?_
    exact ts_zret dX12_isField_14 rfl (by decide) (Nat.le_refl _) (Nat.le_refl _) ⟨rfl, _, rfl, W⟩
theorem hnX12_isTurnip_X12 : ∀ w ∈ u_ws RX12 TX12 25, w ∈ wsX12_isTurnip := by decide +kernel
theorem flX12_isTurnip_25 : Cond.fieldLink RX12 25 "TurnipSquiresModel" "now" "[I" ∈ wsX12_isTurnip := by decide +kernel
set_option maxHeartbeats 4000000 in
theorem wX12_isTurnip_0 {d : Nat} {g : ts_G} {Q : Int32 → ts_I → ts_K → Prop} {o : Nat} {p0 : Int32} {hi : ts_I} {hk : ts_K} (W : (g.2.1 o = 11) ∧ (g.2.2.2 o 13 ≠ 0) ∧ (g.2.1 (g.2.2.2 o 13) = 100) ∧ (vp_in 2 (g.2.2.1 (g.2.2.2 o 13))) ∧ ts_E0 d mX12_in [.int p0, .int 0, .int ((hi (g.2.2.2 o 13) (2 : Int32).toNatClampNeg) - 1)] g hi hk (ts_qi (fun v7 hi5 hk6 => (v7 = 0 ∨ v7 = 1) ∧ Q v7 hi5 hk6))) : ts_J0 (d + 1) mX12_isTurnip (ts_qi Q) g 0 [(0, .ref o), (1, .int p0)] [] hi hk := by
  refine ts_iload_n 1 (pc' := 1) rfl dX12_isTurnip_0 rfl rfl ?_
  refine ts_iconst (v := 0) (pc' := 2) rfl dX12_isTurnip_1 (by decide) ?_
  refine ts_aload_n 0 (pc' := 3) rfl dX12_isTurnip_2 rfl rfl ?_
  obtain ⟨c1, W⟩ := W
  obtain ⟨c2, W⟩ := W
  refine ts_getR (pc' := 6) (ci := 11) 13 cfX12.1 cfX12.2.1 cfX12.2.2 rfl (by decide) hnX12_isTurnip_X12 flX12_isTurnip_25 rfl dX12_isTurnip_3 c1 c2 ?_
  refine ts_iconst (v := 2) (pc' := 7) rfl dX12_isTurnip_6 (by decide) ?_
  obtain ⟨c3, W⟩ := W
  obtain ⟨c4, W⟩ := W
  refine ts_iaload (pc' := 8) rfl dX12_isTurnip_7 c3 c4 ?_
  refine ts_iconst (v := 1) (pc' := 9) rfl dX12_isTurnip_8 (by decide) ?_
  refine ts_isub (pc' := 10) rfl dX12_isTurnip_9 ?_
  refine ts_callS (M' := mX12_in) (pc' := 13) (av := [.int p0, .int 0, .int ((hi (g.2.2.2 o 13) (2 : Int32).toNatClampNeg) - 1)]) rfl dX12_isTurnip_10 rfl gX12_isTurnip_X12_in rfl dsX12_in rfl (Nat.le_refl _) (Nat.le_of_ble_eq_true rfl) (Nat.le_of_ble_eq_true rfl) (Nat.le_refl _) (Nat.le_refl _) ts_kv0 W (ts_kki fun v7 hi5 hk6 W => ?_)
  obtain ⟨c8, W⟩ := W
  exact ts_zret dX12_isTurnip_13 rfl c8 (Nat.le_refl _) (Nat.le_refl _) ⟨rfl, _, rfl, W⟩
set_option maxHeartbeats 4000000 in
theorem wX12_inPlace_0 {d : Nat} {g : ts_G} {Q : Int32 → ts_I → ts_K → Prop} {p0 : Nat} {p1 : Int32} {hi : ts_I} {hk : ts_K} (W : ts_J0 d mX12_inPlace (ts_qi Q) g 2 [(0, .ref p0), (1, .int p1), (2, .int 0)] [] hi hk) : ts_J0 d mX12_inPlace (ts_qi Q) g 0 [(0, .ref p0), (1, .int p1)] [] hi hk := by
  refine ts_iconst (v := 0) (pc' := 1) rfl dX12_inPlace_0 (by decide) ?_
  refine ts_istore_n (pc' := 2) (ls' := [(2, .int 0), (0, .ref p0), (1, .int p1)]) rfl dX12_inPlace_1 rfl (Nat.le_of_ble_eq_true rfl) rfl ?_
  exact ts_sub [1, 2, 0] rfl W
set_option maxHeartbeats 4000000 in
theorem wX12_inPlace_2 {d : Nat} {g : ts_G} {Q : Int32 → ts_I → ts_K → Prop} {l0 : Nat} {l1 : Int32} {l2 : Int32} {hi : ts_I} {hk : ts_K} (W : (g.2.1 l0 = 100) ∧ (vp_in 2 (g.2.2.1 l0)) ∧ (((hi l0 (2 : Int32).toNatClampNeg) ≤ l2) → Q (-1000000) hi hk) ∧ (¬ ((hi l0 (2 : Int32).toNatClampNeg) ≤ l2) → (vp_in ((4 + (6 * l2)) + 3) (g.2.2.1 l0)) ∧ (((hi l0 ((4 + (6 * l2)) + 3).toNatClampNeg) ≠ l1) → ts_J0 d mX12_inPlace (ts_qi Q) g 2 [(0, .ref l0), (1, .int l1), (2, .int (l2 + 1))] [] hi hk) ∧ (¬ ((hi l0 ((4 + (6 * l2)) + 3).toNatClampNeg) ≠ l1) → Q l2 hi hk))) : ts_J0 d mX12_inPlace (ts_qi Q) g 2 [(0, .ref l0), (1, .int l1), (2, .int l2)] [] hi hk := by
  refine ts_iload_n 2 (pc' := 3) rfl dX12_inPlace_2 rfl rfl ?_
  refine ts_aload_n 0 (pc' := 4) rfl dX12_inPlace_3 rfl rfl ?_
  refine ts_iconst (v := 2) (pc' := 5) rfl dX12_inPlace_4 (by decide) ?_
  obtain ⟨c1, W⟩ := W
  obtain ⟨c2, W⟩ := W
  refine ts_iaload (pc' := 6) rfl dX12_inPlace_5 c1 c2 ?_
  refine ts_icmp_ge (pc' := 9) (tgt := 31) rfl dX12_inPlace_6 (by decide) (fun q3 => ?_) (fun q3 => ?_)
  · replace W := W.1 q3
    refine ts_ldc (v := (-1000000)) (pc' := 33) rfl dX12_inPlace_31 (by decide +kernel) ?_
    exact ts_iret dX12_inPlace_33 rfl (Nat.le_refl _) (Nat.le_refl _) ⟨rfl, _, rfl, W⟩
  · replace W := W.2 q3
    refine ts_aload_n 0 (pc' := 10) rfl dX12_inPlace_9 rfl rfl ?_
    refine ts_iconst (v := 4) (pc' := 11) rfl dX12_inPlace_10 (by decide) ?_
    refine ts_bipush (v := 6) (pc' := 13) rfl dX12_inPlace_11 (by decide) ?_
    refine ts_iload_n 2 (pc' := 14) rfl dX12_inPlace_13 rfl rfl ?_
    refine ts_imul (pc' := 15) rfl dX12_inPlace_14 ?_
    refine ts_iadd (pc' := 16) rfl dX12_inPlace_15 ?_
    refine ts_iconst (v := 3) (pc' := 17) rfl dX12_inPlace_16 (by decide) ?_
    refine ts_iadd (pc' := 18) rfl dX12_inPlace_17 ?_
    obtain ⟨c4, W⟩ := W
    refine ts_iaload (pc' := 19) rfl dX12_inPlace_18 c1 c4 ?_
    refine ts_iload_n 1 (pc' := 20) rfl dX12_inPlace_19 rfl rfl ?_
    refine ts_icmp_ne (pc' := 23) (tgt := 25) rfl dX12_inPlace_20 (by decide) (fun q5 => ?_) (fun q5 => ?_)
    · replace W := W.1 q5
      refine ts_iinc 2 (pc' := 28) (ls' := [(2, .int (l2 + 1)), (0, .ref l0), (1, .int l1)]) rfl dX12_inPlace_25 rfl rfl (Nat.le_of_ble_eq_true rfl) rfl ?_
      refine ts_goto (tgt := 2) dX12_inPlace_28 (by decide) ?_
      exact ts_sub [1, 2, 0] rfl W
    · replace W := W.2 q5
      refine ts_iload_n 2 (pc' := 24) rfl dX12_inPlace_23 rfl rfl ?_
      exact ts_iret dX12_inPlace_24 rfl (Nat.le_refl _) (Nat.le_refl _) ⟨rfl, _, rfl, W⟩
set_option maxHeartbeats 4000000 in
theorem wX12_isHigher_0 {d : Nat} {g : ts_G} {Q : Int32 → ts_I → ts_K → Prop} {p0 : Nat} {p1 : Int32} {p2 : Int32} {hi : ts_I} {hk : ts_K} (W : ts_E0 d mX12_inPlace [.ref p0, .int p2] g hi hk (ts_qi (fun v3 hi1 hk2 => ((v3 = (-1000000)) → Q 0 hi1 hk2) ∧ (¬ (v3 = (-1000000)) → (g.2.1 p0 = 100) ∧ (vp_in ((4 + (6 * v3)) + 1) (g.2.2.1 p0)) ∧ (vp_in ((4 + (6 * p1)) + 1) (g.2.2.1 p0)) ∧ (((hi1 p0 ((4 + (6 * v3)) + 1).toNatClampNeg) ≤ (hi1 p0 ((4 + (6 * p1)) + 1).toNatClampNeg)) → Q 0 hi1 hk2) ∧ (¬ ((hi1 p0 ((4 + (6 * v3)) + 1).toNatClampNeg) ≤ (hi1 p0 ((4 + (6 * p1)) + 1).toNatClampNeg)) → Q 1 hi1 hk2))))) : ts_J0 (d + 1) mX12_isHigher (ts_qi Q) g 0 [(0, .ref p0), (1, .int p1), (2, .int p2)] [] hi hk := by
  refine ts_aload_n 0 (pc' := 1) rfl dX12_isHigher_0 rfl rfl ?_
  refine ts_iload_n 2 (pc' := 2) rfl dX12_isHigher_1 rfl rfl ?_
  refine ts_callS (M' := mX12_inPlace) (pc' := 5) (av := [.ref p0, .int p2]) rfl dX12_isHigher_2 rfl gX12_isHigher_X12_inPlace rfl dsX12_inPlace rfl (Nat.le_refl _) (Nat.le_of_ble_eq_true rfl) (Nat.le_of_ble_eq_true rfl) (Nat.le_refl _) (Nat.le_refl _) ts_kv0 W (ts_kki fun v3 hi1 hk2 W => ?_)
  refine ts_istore_n (pc' := 6) (ls' := [(3, .int v3), (0, .ref p0), (1, .int p1), (2, .int p2)]) rfl dX12_isHigher_5 rfl (Nat.le_of_ble_eq_true rfl) rfl ?_
  refine ts_iload_n 0 (pc' := 7) rfl dX12_isHigher_6 rfl rfl ?_
  refine ts_ldc (v := (-1000000)) (pc' := 9) rfl dX12_isHigher_7 (by decide +kernel) ?_
  refine ts_icmp_eq (pc' := 12) (tgt := 39) rfl dX12_isHigher_9 (by decide) (fun q4 => ?_) (fun q4 => ?_)
  · replace W := W.1 q4
    refine ts_iconst (v := 0) (pc' := 40) rfl dX12_isHigher_39 (by decide) ?_
    exact ts_zret dX12_isHigher_40 rfl (by decide) (Nat.le_refl _) (Nat.le_refl _) ⟨rfl, _, rfl, W⟩
  · replace W := W.2 q4
    refine ts_aload_n 1 (pc' := 13) rfl dX12_isHigher_12 rfl rfl ?_
    refine ts_iconst (v := 4) (pc' := 14) rfl dX12_isHigher_13 (by decide) ?_
    refine ts_bipush (v := 6) (pc' := 16) rfl dX12_isHigher_14 (by decide) ?_
    refine ts_iload_n 0 (pc' := 17) rfl dX12_isHigher_16 rfl rfl ?_
    refine ts_imul (pc' := 18) rfl dX12_isHigher_17 ?_
    refine ts_iadd (pc' := 19) rfl dX12_isHigher_18 ?_
    refine ts_iconst (v := 1) (pc' := 20) rfl dX12_isHigher_19 (by decide) ?_
    refine ts_iadd (pc' := 21) rfl dX12_isHigher_20 ?_
    obtain ⟨c5, W⟩ := W
    obtain ⟨c6, W⟩ := W
    refine ts_iaload (pc' := 22) rfl dX12_isHigher_21 c5 c6 ?_
    refine ts_aload_n 1 (pc' := 23) rfl dX12_isHigher_22 rfl rfl ?_
    refine ts_iconst (v := 4) (pc' := 24) rfl dX12_isHigher_23 (by decide) ?_
    refine ts_bipush (v := 6) (pc' := 26) rfl dX12_isHigher_24 (by decide) ?_
    refine ts_iload_n 2 (pc' := 27) rfl dX12_isHigher_26 rfl rfl ?_
    refine ts_imul (pc' := 28) rfl dX12_isHigher_27 ?_
    refine ts_iadd (pc' := 29) rfl dX12_isHigher_28 ?_
    refine ts_iconst (v := 1) (pc' := 30) rfl dX12_isHigher_29 (by decide) ?_
    refine ts_iadd (pc' := 31) rfl dX12_isHigher_30 ?_
    obtain ⟨c7, W⟩ := W
    refine ts_iaload (pc' := 32) rfl dX12_isHigher_31 c5 c7 ?_
    refine ts_icmp_le (pc' := 35) (tgt := 39) rfl dX12_isHigher_32 (by decide) (fun q8 => ?_) (fun q8 => ?_)
    · replace W := W.1 q8
      refine ts_iconst (v := 0) (pc' := 40) rfl dX12_isHigher_39 (by decide) ?_
      exact ts_zret dX12_isHigher_40 rfl (by decide) (Nat.le_refl _) (Nat.le_refl _) ⟨rfl, _, rfl, W⟩
    · replace W := W.2 q8
      refine ts_iconst (v := 1) (pc' := 36) rfl dX12_isHigher_35 (by decide) ?_
      refine ts_goto (tgt := 40) dX12_isHigher_36 (by decide) ?_
      exact ts_zret dX12_isHigher_40 rfl (by decide) (Nat.le_refl _) (Nat.le_refl _) ⟨rfl, _, rfl, W⟩
set_option maxHeartbeats 4000000 in
theorem wX12_higherBeside_0 {d : Nat} {g : ts_G} {Q : Int32 → ts_I → ts_K → Prop} {p0 : Nat} {p1 : Int32} {hi : ts_I} {hk : ts_K} (W : (g.2.1 p0 = 100) ∧ (vp_in ((4 + (6 * p1)) + 3) (g.2.2.1 p0)) ∧ ts_E0 d mX12_isHigher [.ref p0, .int p1, .int ((hi p0 ((4 + (6 * p1)) + 3).toNatClampNeg) - 1)] g hi hk (ts_qi (fun v5 hi3 hk4 => ((v5 = 0) → ts_E0 d mX12_isHigher [.ref p0, .int p1, .int ((hi p0 ((4 + (6 * p1)) + 3).toNatClampNeg) + 1)] g hi3 hk4 (ts_qi (fun v9 hi7 hk8 => ((v9 = 0) → Q (0 + 0) hi7 hk8) ∧ (¬ (v9 = 0) → Q (0 + 1) hi7 hk8)))) ∧ (¬ (v5 = 0) → ts_E0 d mX12_isHigher [.ref p0, .int p1, .int ((hi p0 ((4 + (6 * p1)) + 3).toNatClampNeg) + 1)] g hi3 hk4 (ts_qi (fun v13 hi11 hk12 => ((v13 = 0) → Q (1 + 0) hi11 hk12) ∧ (¬ (v13 = 0) → Q (1 + 1) hi11 hk12))))))) : ts_J0 (d + 1) mX12_higherBeside (ts_qi Q) g 0 [(0, .ref p0), (1, .int p1)] [] hi hk := by
  refine ts_aload_n 0 (pc' := 1) rfl dX12_higherBeside_0 rfl rfl ?_
  refine ts_iconst (v := 4) (pc' := 2) rfl dX12_higherBeside_1 (by decide) ?_
  refine ts_bipush (v := 6) (pc' := 4) rfl dX12_higherBeside_2 (by decide) ?_
  refine ts_iload_n 1 (pc' := 5) rfl dX12_higherBeside_4 rfl rfl ?_
  refine ts_imul (pc' := 6) rfl dX12_higherBeside_5 ?_
  refine ts_iadd (pc' := 7) rfl dX12_higherBeside_6 ?_
  refine ts_iconst (v := 3) (pc' := 8) rfl dX12_higherBeside_7 (by decide) ?_
  refine ts_iadd (pc' := 9) rfl dX12_higherBeside_8 ?_
  obtain ⟨c1, W⟩ := W
  obtain ⟨c2, W⟩ := W
  refine ts_iaload (pc' := 10) rfl dX12_higherBeside_9 c1 c2 ?_
  refine ts_istore_n (pc' := 11) (ls' := [(2, .int (hi p0 ((4 + (6 * p1)) + 3).toNatClampNeg)), (0, .ref p0), (1, .int p1)]) rfl dX12_higherBeside_10 rfl (Nat.le_of_ble_eq_true rfl) rfl ?_
  refine ts_aload_n 1 (pc' := 12) rfl dX12_higherBeside_11 rfl rfl ?_
  refine ts_iload_n 2 (pc' := 13) rfl dX12_higherBeside_12 rfl rfl ?_
  refine ts_iload_n 0 (pc' := 14) rfl dX12_higherBeside_13 rfl rfl ?_
  refine ts_iconst (v := 1) (pc' := 15) rfl dX12_higherBeside_14 (by decide) ?_
  refine ts_isub (pc' := 16) rfl dX12_higherBeside_15 ?_
  refine ts_callS (M' := mX12_isHigher) (pc' := 19) (av := [.ref p0, .int p1, .int ((hi p0 ((4 + (6 * p1)) + 3).toNatClampNeg) - 1)]) rfl dX12_higherBeside_16 rfl gX12_higherBeside_X12_isHigher rfl dsX12_isHigher rfl (Nat.le_refl _) (Nat.le_of_ble_eq_true rfl) (Nat.le_of_ble_eq_true rfl) (Nat.le_refl _) (Nat.le_refl _) ts_kv0 W (ts_kki fun v5 hi3 hk4 W => ?_)
  refine ts_if_eq (pc' := 22) (tgt := 26) rfl dX12_higherBeside_19 (by decide) (fun q6 => ?_) (fun q6 => ?_)
  · replace W := W.1 q6
    refine ts_iconst (v := 0) (pc' := 27) rfl dX12_higherBeside_26 (by decide) ?_
    refine ts_aload_n 1 (pc' := 28) rfl dX12_higherBeside_27 rfl rfl ?_
    refine ts_iload_n 2 (pc' := 29) rfl dX12_higherBeside_28 rfl rfl ?_
    refine ts_iload_n 0 (pc' := 30) rfl dX12_higherBeside_29 rfl rfl ?_
    refine ts_iconst (v := 1) (pc' := 31) rfl dX12_higherBeside_30 (by decide) ?_
    refine ts_iadd (pc' := 32) rfl dX12_higherBeside_31 ?_
    refine ts_callS (M' := mX12_isHigher) (pc' := 35) (av := [.ref p0, .int p1, .int ((hi p0 ((4 + (6 * p1)) + 3).toNatClampNeg) + 1)]) rfl dX12_higherBeside_32 rfl gX12_higherBeside_X12_isHigher rfl dsX12_isHigher rfl (Nat.le_refl _) (Nat.le_of_ble_eq_true rfl) (Nat.le_of_ble_eq_true rfl) (Nat.le_refl _) (Nat.le_refl _) ts_kv0 W (ts_kki fun v9 hi7 hk8 W => ?_)
    refine ts_if_eq (pc' := 38) (tgt := 42) rfl dX12_higherBeside_35 (by decide) (fun q10 => ?_) (fun q10 => ?_)
    · replace W := W.1 q10
      refine ts_iconst (v := 0) (pc' := 43) rfl dX12_higherBeside_42 (by decide) ?_
      refine ts_iadd (pc' := 44) rfl dX12_higherBeside_43 ?_
      exact ts_iret dX12_higherBeside_44 rfl (Nat.le_refl _) (Nat.le_refl _) ⟨rfl, _, rfl, W⟩
    · replace W := W.2 q10
      refine ts_iconst (v := 1) (pc' := 39) rfl dX12_higherBeside_38 (by decide) ?_
      refine ts_goto (tgt := 43) dX12_higherBeside_39 (by decide) ?_
      refine ts_iadd (pc' := 44) rfl dX12_higherBeside_43 ?_
      exact ts_iret dX12_higherBeside_44 rfl (Nat.le_refl _) (Nat.le_refl _) ⟨rfl, _, rfl, W⟩
  · replace W := W.2 q6
    refine ts_iconst (v := 1) (pc' := 23) rfl dX12_higherBeside_22 (by decide) ?_
    refine ts_goto (tgt := 27) dX12_higherBeside_23 (by decide) ?_
    refine ts_aload_n 1 (pc' := 28) rfl dX12_higherBeside_27 rfl rfl ?_
    refine ts_iload_n 2 (pc' := 29) rfl dX12_higherBeside_28 rfl rfl ?_
    refine ts_iload_n 0 (pc' := 30) rfl dX12_higherBeside_29 rfl rfl ?_
    refine ts_iconst (v := 1) (pc' := 31) rfl dX12_higherBeside_30 (by decide) ?_
    refine ts_iadd (pc' := 32) rfl dX12_higherBeside_31 ?_
    refine ts_callS (M' := mX12_isHigher) (pc' := 35) (av := [.ref p0, .int p1, .int ((hi p0 ((4 + (6 * p1)) + 3).toNatClampNeg) + 1)]) rfl dX12_higherBeside_32 rfl gX12_higherBeside_X12_isHigher rfl dsX12_isHigher rfl (Nat.le_refl _) (Nat.le_of_ble_eq_true rfl) (Nat.le_of_ble_eq_true rfl) (Nat.le_refl _) (Nat.le_refl _) ts_kv0 W (ts_kki fun v13 hi11 hk12 W => ?_)
    refine ts_if_eq (pc' := 38) (tgt := 42) rfl dX12_higherBeside_35 (by decide) (fun q14 => ?_) (fun q14 => ?_)
    · replace W := W.1 q14
      refine ts_iconst (v := 0) (pc' := 43) rfl dX12_higherBeside_42 (by decide) ?_
      refine ts_iadd (pc' := 44) rfl dX12_higherBeside_43 ?_
      exact ts_iret dX12_higherBeside_44 rfl (Nat.le_refl _) (Nat.le_refl _) ⟨rfl, _, rfl, W⟩
    · replace W := W.2 q14
      refine ts_iconst (v := 1) (pc' := 39) rfl dX12_higherBeside_38 (by decide) ?_
      refine ts_goto (tgt := 43) dX12_higherBeside_39 (by decide) ?_
      refine ts_iadd (pc' := 44) rfl dX12_higherBeside_43 ?_
      exact ts_iret dX12_higherBeside_44 rfl (Nat.le_refl _) (Nat.le_refl _) ⟨rfl, _, rfl, W⟩
set_option maxHeartbeats 4000000 in
theorem wX12_gainOf_0 {d : Nat} {g : ts_G} {Q : Int32 → ts_I → ts_K → Prop} {p0 : Nat} {p1 : Int32} {hi : ts_I} {hk : ts_K} (W : (g.2.1 p0 = 100) ∧ (vp_in 0 (g.2.2.1 p0)) ∧ (vp_in (4 + (6 * p1)) (g.2.2.1 p0)) ∧ ((hi p0 (4 + (6 * p1)).toNatClampNeg) = 1 → Q (hi p0 (0 : Int32).toNatClampNeg) hi hk) ∧ ((hi p0 (4 + (6 * p1)).toNatClampNeg) = 2 → (vp_in 1 (g.2.2.1 p0)) ∧ (vp_in 3 (g.2.2.1 p0)) ∧ ts_E0 d mX12_has [.int (hi p0 (1 : Int32).toNatClampNeg), .int ((hi p0 (3 : Int32).toNatClampNeg) - (hi p0 (3 : Int32).toNatClampNeg) / 4 * 4)] g hi hk (ts_qi (fun v10 hi8 hk9 => ((v10 = 0) → Q ((hi p0 (0 : Int32).toNatClampNeg) / 2) hi8 hk9) ∧ (¬ (v10 = 0) → Q (hi p0 (0 : Int32).toNatClampNeg) hi8 hk9)))) ∧ ((hi p0 (4 + (6 * p1)).toNatClampNeg) = 3 → ts_E0 d mX12_higherBeside [.ref p0, .int p1] g hi hk (ts_qi (fun v15 hi13 hk14 => Q ((hi p0 (0 : Int32).toNatClampNeg) + v15) hi13 hk14))) ∧ ((hi p0 (4 + (6 * p1)).toNatClampNeg) = 4 → (vp_in ((4 + (6 * p1)) + 1) (g.2.2.1 p0)) ∧ ((3 ≤ (hi p0 ((4 + (6 * p1)) + 1).toNatClampNeg)) → Q 0 hi hk) ∧ (¬ (3 ≤ (hi p0 ((4 + (6 * p1)) + 1).toNatClampNeg)) → Q (2 * (hi p0 (0 : Int32).toNatClampNeg)) hi hk)) ∧ (¬ (hi p0 (4 + (6 * p1)).toNatClampNeg) = 1 → ¬ (hi p0 (4 + (6 * p1)).toNatClampNeg) = 2 → ¬ (hi p0 (4 + (6 * p1)).toNatClampNeg) = 3 → ¬ (hi p0 (4 + (6 * p1)).toNatClampNeg) = 4 → (vp_in ((4 + (6 * p1)) + 1) (g.2.2.1 p0)) ∧ (((hi p0 ((4 + (6 * p1)) + 1).toNatClampNeg) < 3) → Q (2 * (hi p0 (0 : Int32).toNatClampNeg)) hi hk) ∧ (¬ ((hi p0 ((4 + (6 * p1)) + 1).toNatClampNeg) < 3) → ts_E0 d mX12_higherBeside [.ref p0, .int p1] g hi hk (ts_qi (fun v24 hi22 hk23 => ((v24 ≤ 0) → Q 0 hi22 hk23) ∧ (¬ (v24 ≤ 0) → Q (2 * (hi p0 (0 : Int32).toNatClampNeg)) hi22 hk23)))))) : ts_J0 (d + 1) mX12_gainOf (ts_qi Q) g 0 [(0, .ref p0), (1, .int p1)] [] hi hk := by
  refine ts_iconst (v := 4) (pc' := 1) rfl dX12_gainOf_0 (by decide) ?_
  refine ts_bipush (v := 6) (pc' := 3) rfl dX12_gainOf_1 (by decide) ?_
  refine ts_iload_n 1 (pc' := 4) rfl dX12_gainOf_3 rfl rfl ?_
  refine ts_imul (pc' := 5) rfl dX12_gainOf_4 ?_
  refine ts_iadd (pc' := 6) rfl dX12_gainOf_5 ?_
  refine ts_istore_n (pc' := 7) (ls' := [(2, .int (4 + (6 * p1))), (0, .ref p0), (1, .int p1)]) rfl dX12_gainOf_6 rfl (Nat.le_of_ble_eq_true rfl) rfl ?_
  refine ts_aload_n 1 (pc' := 8) rfl dX12_gainOf_7 rfl rfl ?_
  refine ts_iconst (v := 0) (pc' := 9) rfl dX12_gainOf_8 (by decide) ?_
  obtain ⟨c1, W⟩ := W
  obtain ⟨c2, W⟩ := W
  refine ts_iaload (pc' := 10) rfl dX12_gainOf_9 c1 c2 ?_
  refine ts_istore_n (pc' := 11) (ls' := [(3, .int (hi p0 (0 : Int32).toNatClampNeg)), (2, .int (4 + (6 * p1))), (0, .ref p0), (1, .int p1)]) rfl dX12_gainOf_10 rfl (Nat.le_of_ble_eq_true rfl) rfl ?_
  refine ts_aload_n 2 (pc' := 12) rfl dX12_gainOf_11 rfl rfl ?_
  refine ts_iload_n 1 (pc' := 13) rfl dX12_gainOf_12 rfl rfl ?_
  obtain ⟨c3, W⟩ := W
  refine ts_iaload (pc' := 14) rfl dX12_gainOf_13 c1 c3 ?_
  by_cases q4 : (hi p0 (4 + (6 * p1)).toNatClampNeg) = 1
  · replace W := W.1 q4
    refine ts_tableI (i := 1) (off := 30) (tgt := 44) dX12_gainOf_14 (by rw [q4]; rfl) (by decide) (by decide) rfl (by decide) ?_
    refine ts_iload_n 0 (pc' := 45) rfl dX12_gainOf_44 rfl rfl ?_
    exact ts_iret dX12_gainOf_45 rfl (Nat.le_refl _) (Nat.le_refl _) ⟨rfl, _, rfl, W⟩
  replace W := W.2
  by_cases q5 : (hi p0 (4 + (6 * p1)).toNatClampNeg) = 2
  · replace W := W.1 q5
    refine ts_tableI (i := 2) (off := 32) (tgt := 46) dX12_gainOf_14 (by rw [q5]; rfl) (by decide) (by decide) rfl (by decide) ?_
    refine ts_aload_n 2 (pc' := 47) rfl dX12_gainOf_46 rfl rfl ?_
    refine ts_iconst (v := 1) (pc' := 48) rfl dX12_gainOf_47 (by decide) ?_
    obtain ⟨c6, W⟩ := W
    refine ts_iaload (pc' := 49) rfl dX12_gainOf_48 c1 c6 ?_
    refine ts_aload_n 2 (pc' := 50) rfl dX12_gainOf_49 rfl rfl ?_
    refine ts_iconst (v := 3) (pc' := 51) rfl dX12_gainOf_50 (by decide) ?_
    obtain ⟨c7, W⟩ := W
    refine ts_iaload (pc' := 52) rfl dX12_gainOf_51 c1 c7 ?_
    refine ts_iconst (v := 4) (pc' := 53) rfl dX12_gainOf_52 (by decide) ?_
    refine ts_irem (pc' := 54) rfl dX12_gainOf_53 (by decide) ?_
    refine ts_callS (M' := mX12_has) (pc' := 57) (av := [.int (hi p0 (1 : Int32).toNatClampNeg), .int ((hi p0 (3 : Int32).toNatClampNeg) - (hi p0 (3 : Int32).toNatClampNeg) / 4 * 4)]) rfl dX12_gainOf_54 rfl gX12_gainOf_X12_has rfl dsX12_has rfl (Nat.le_refl _) (Nat.le_of_ble_eq_true rfl) (Nat.le_of_ble_eq_true rfl) (Nat.le_refl _) (Nat.le_refl _) ts_kv0 W (ts_kki fun v10 hi8 hk9 W => ?_)
    refine ts_if_eq (pc' := 60) (tgt := 64) rfl dX12_gainOf_57 (by decide) (fun q11 => ?_) (fun q11 => ?_)
    · replace W := W.1 q11
      refine ts_iload_n 0 (pc' := 65) rfl dX12_gainOf_64 rfl rfl ?_
      refine ts_iconst (v := 2) (pc' := 66) rfl dX12_gainOf_65 (by decide) ?_
      refine ts_idiv (pc' := 67) rfl dX12_gainOf_66 (by decide) ?_
      exact ts_iret dX12_gainOf_67 rfl (Nat.le_refl _) (Nat.le_refl _) ⟨rfl, _, rfl, W⟩
    · replace W := W.2 q11
      refine ts_iload_n 0 (pc' := 61) rfl dX12_gainOf_60 rfl rfl ?_
      refine ts_goto (tgt := 67) dX12_gainOf_61 (by decide) ?_
      exact ts_iret dX12_gainOf_67 rfl (Nat.le_refl _) (Nat.le_refl _) ⟨rfl, _, rfl, W⟩
  replace W := W.2
  by_cases q12 : (hi p0 (4 + (6 * p1)).toNatClampNeg) = 3
  · replace W := W.1 q12
    refine ts_tableI (i := 3) (off := 54) (tgt := 68) dX12_gainOf_14 (by rw [q12]; rfl) (by decide) (by decide) rfl (by decide) ?_
    refine ts_iload_n 0 (pc' := 69) rfl dX12_gainOf_68 rfl rfl ?_
    refine ts_aload_n 2 (pc' := 70) rfl dX12_gainOf_69 rfl rfl ?_
    refine ts_iload_n 3 (pc' := 71) rfl dX12_gainOf_70 rfl rfl ?_
    refine ts_callS (M' := mX12_higherBeside) (pc' := 74) (av := [.ref p0, .int p1]) rfl dX12_gainOf_71 rfl gX12_gainOf_X12_higherBeside rfl dsX12_higherBeside rfl (Nat.le_refl _) (Nat.le_of_ble_eq_true rfl) (Nat.le_of_ble_eq_true rfl) (Nat.le_refl _) (Nat.le_refl _) ts_kv0 W (ts_kki fun v15 hi13 hk14 W => ?_)
    refine ts_iadd (pc' := 75) rfl dX12_gainOf_74 ?_
    exact ts_iret dX12_gainOf_75 rfl (Nat.le_refl _) (Nat.le_refl _) ⟨rfl, _, rfl, W⟩
  replace W := W.2
  by_cases q16 : (hi p0 (4 + (6 * p1)).toNatClampNeg) = 4
  · replace W := W.1 q16
    refine ts_tableI (i := 4) (off := 62) (tgt := 76) dX12_gainOf_14 (by rw [q16]; rfl) (by decide) (by decide) rfl (by decide) ?_
    refine ts_aload_n 2 (pc' := 77) rfl dX12_gainOf_76 rfl rfl ?_
    refine ts_iload_n 1 (pc' := 78) rfl dX12_gainOf_77 rfl rfl ?_
    refine ts_iconst (v := 1) (pc' := 79) rfl dX12_gainOf_78 (by decide) ?_
    refine ts_iadd (pc' := 80) rfl dX12_gainOf_79 ?_
    obtain ⟨c17, W⟩ := W
    refine ts_iaload (pc' := 81) rfl dX12_gainOf_80 c1 c17 ?_
    refine ts_iconst (v := 3) (pc' := 82) rfl dX12_gainOf_81 (by decide) ?_
    refine ts_icmp_ge (pc' := 85) (tgt := 91) rfl dX12_gainOf_82 (by decide) (fun q18 => ?_) (fun q18 => ?_)
    · replace W := W.1 q18
      refine ts_iconst (v := 0) (pc' := 92) rfl dX12_gainOf_91 (by decide) ?_
      exact ts_iret dX12_gainOf_92 rfl (Nat.le_refl _) (Nat.le_refl _) ⟨rfl, _, rfl, W⟩
    · replace W := W.2 q18
      refine ts_iconst (v := 2) (pc' := 86) rfl dX12_gainOf_85 (by decide) ?_
      refine ts_iload_n 0 (pc' := 87) rfl dX12_gainOf_86 rfl rfl ?_
      refine ts_imul (pc' := 88) rfl dX12_gainOf_87 ?_
      refine ts_goto (tgt := 92) dX12_gainOf_88 (by decide) ?_
      exact ts_iret dX12_gainOf_92 rfl (Nat.le_refl _) (Nat.le_refl _) ⟨rfl, _, rfl, W⟩
  replace W := W.2
  replace W := W q4 q5 q12 q16
  have hs19 : ∀ i, i < 4 → ¬ (hi p0 (4 + (6 * p1)).toNatClampNeg) = Int32.ofNat (1 + i) := by
    intro i hi0
    have h0 : i = 0 ∨ i = 1 ∨ i = 2 ∨ i = 3 := by omega
    rcases h0 with rfl | rfl | rfl | rfl
    · exact q4
    · exact q5
    · exact q12
    · exact q16
  refine ts_tableO (tgt := 93) dX12_gainOf_14 (ts_swout (l := 1) (n := 4) rfl (by decide) (by decide) hs19) (by decide) ?_
  refine ts_aload_n 2 (pc' := 94) rfl dX12_gainOf_93 rfl rfl ?_
  refine ts_iload_n 1 (pc' := 95) rfl dX12_gainOf_94 rfl rfl ?_
  refine ts_iconst (v := 1) (pc' := 96) rfl dX12_gainOf_95 (by decide) ?_
  refine ts_iadd (pc' := 97) rfl dX12_gainOf_96 ?_
  obtain ⟨c20, W⟩ := W
  refine ts_iaload (pc' := 98) rfl dX12_gainOf_97 c1 c20 ?_
  refine ts_iconst (v := 3) (pc' := 99) rfl dX12_gainOf_98 (by decide) ?_
  refine ts_icmp_lt (pc' := 102) (tgt := 110) rfl dX12_gainOf_99 (by decide) (fun q21 => ?_) (fun q21 => ?_)
  · replace W := W.1 q21
    refine ts_iconst (v := 2) (pc' := 111) rfl dX12_gainOf_110 (by decide) ?_
    refine ts_iload_n 0 (pc' := 112) rfl dX12_gainOf_111 rfl rfl ?_
    refine ts_imul (pc' := 113) rfl dX12_gainOf_112 ?_
    refine ts_goto (tgt := 117) dX12_gainOf_113 (by decide) ?_
    exact ts_iret dX12_gainOf_117 rfl (Nat.le_refl _) (Nat.le_refl _) ⟨rfl, _, rfl, W⟩
  · replace W := W.2 q21
    refine ts_aload_n 2 (pc' := 103) rfl dX12_gainOf_102 rfl rfl ?_
    refine ts_iload_n 3 (pc' := 104) rfl dX12_gainOf_103 rfl rfl ?_
    refine ts_callS (M' := mX12_higherBeside) (pc' := 107) (av := [.ref p0, .int p1]) rfl dX12_gainOf_104 rfl gX12_gainOf_X12_higherBeside rfl dsX12_higherBeside rfl (Nat.le_refl _) (Nat.le_of_ble_eq_true rfl) (Nat.le_of_ble_eq_true rfl) (Nat.le_refl _) (Nat.le_refl _) ts_kv0 W (ts_kki fun v24 hi22 hk23 W => ?_)
    refine ts_if_le (pc' := 110) (tgt := 116) rfl dX12_gainOf_107 (by decide) (fun q25 => ?_) (fun q25 => ?_)
    · replace W := W.1 q25
      refine ts_iconst (v := 0) (pc' := 117) rfl dX12_gainOf_116 (by decide) ?_
      exact ts_iret dX12_gainOf_117 rfl (Nat.le_refl _) (Nat.le_refl _) ⟨rfl, _, rfl, W⟩
    · replace W := W.2 q25
      refine ts_iconst (v := 2) (pc' := 111) rfl dX12_gainOf_110 (by decide) ?_
      refine ts_iload_n 0 (pc' := 112) rfl dX12_gainOf_111 rfl rfl ?_
      refine ts_imul (pc' := 113) rfl dX12_gainOf_112 ?_
      refine ts_goto (tgt := 117) dX12_gainOf_113 (by decide) ?_
      exact ts_iret dX12_gainOf_117 rfl (Nat.le_refl _) (Nat.le_refl _) ⟨rfl, _, rfl, W⟩
set_option maxHeartbeats 4000000 in
theorem wX12_gain_0 {d : Nat} {g : ts_G} {Q : Int32 → ts_I → ts_K → Prop} {p0 : Nat} {p1 : Int32} {hi : ts_I} {hk : ts_K} (W : ts_E0 d mX12_gainOf [.ref p0, .int p1] g hi hk (ts_qi (fun v3 hi1 hk2 => (g.2.1 p0 = 100) ∧ (vp_in ((4 + (6 * p1)) + 5) (g.2.2.1 p0)) ∧ (((hi1 p0 ((4 + (6 * p1)) + 5).toNatClampNeg) = (-1000000)) → (vp_in ((4 + (6 * p1)) + 4) (g.2.2.1 p0)) ∧ (((hi1 p0 ((4 + (6 * p1)) + 4).toNatClampNeg) ≠ 1) → (vp_in ((4 + (6 * p1)) + 3) (g.2.2.1 p0)) ∧ ts_E0 d mX12_isHigher [.ref p0, .int p1, .int ((hi1 p0 ((4 + (6 * p1)) + 3).toNatClampNeg) - 1)] g hi1 hk2 (ts_qi (fun v12 hi10 hk11 => ((v12 = 0) → Q (v3 + 0) hi10 hk11) ∧ (¬ (v12 = 0) → Q (v3 + 1) hi10 hk11)))) ∧ (¬ ((hi1 p0 ((4 + (6 * p1)) + 4).toNatClampNeg) ≠ 1) → (vp_in ((4 + (6 * p1)) + 3) (g.2.2.1 p0)) ∧ ts_E0 d mX12_isHigher [.ref p0, .int p1, .int ((hi1 p0 ((4 + (6 * p1)) + 3).toNatClampNeg) + 1)] g hi1 hk2 (ts_qi (fun v17 hi15 hk16 => ((v17 = 0) → Q (v3 + 0) hi15 hk16) ∧ (¬ (v17 = 0) → Q (v3 + 1) hi15 hk16))))) ∧ (¬ ((hi1 p0 ((4 + (6 * p1)) + 5).toNatClampNeg) = (-1000000)) → ts_E0 d mX12_gainOf [.ref p0, .int (hi1 p0 ((4 + (6 * p1)) + 5).toNatClampNeg)] g hi1 hk2 (ts_qi (fun v21 hi19 hk20 => (vp_in ((4 + (6 * p1)) + 4) (g.2.2.1 p0)) ∧ (((hi19 p0 ((4 + (6 * p1)) + 4).toNatClampNeg) ≠ 1) → (vp_in ((4 + (6 * p1)) + 3) (g.2.2.1 p0)) ∧ ts_E0 d mX12_isHigher [.ref p0, .int p1, .int ((hi19 p0 ((4 + (6 * p1)) + 3).toNatClampNeg) - 1)] g hi19 hk20 (ts_qi (fun v27 hi25 hk26 => ((v27 = 0) → Q (((v3 + v21) / 2) + 0) hi25 hk26) ∧ (¬ (v27 = 0) → Q (((v3 + v21) / 2) + 1) hi25 hk26)))) ∧ (¬ ((hi19 p0 ((4 + (6 * p1)) + 4).toNatClampNeg) ≠ 1) → (vp_in ((4 + (6 * p1)) + 3) (g.2.2.1 p0)) ∧ ts_E0 d mX12_isHigher [.ref p0, .int p1, .int ((hi19 p0 ((4 + (6 * p1)) + 3).toNatClampNeg) + 1)] g hi19 hk20 (ts_qi (fun v32 hi30 hk31 => ((v32 = 0) → Q (((v3 + v21) / 2) + 0) hi30 hk31) ∧ (¬ (v32 = 0) → Q (((v3 + v21) / 2) + 1) hi30 hk31)))))))))) : ts_J0 (d + 1) mX12_gain (ts_qi Q) g 0 [(0, .ref p0), (1, .int p1)] [] hi hk := by
  refine ts_iconst (v := 4) (pc' := 1) rfl dX12_gain_0 (by decide) ?_
  refine ts_bipush (v := 6) (pc' := 3) rfl dX12_gain_1 (by decide) ?_
  refine ts_iload_n 1 (pc' := 4) rfl dX12_gain_3 rfl rfl ?_
  refine ts_imul (pc' := 5) rfl dX12_gain_4 ?_
  refine ts_iadd (pc' := 6) rfl dX12_gain_5 ?_
  refine ts_istore_n (pc' := 7) (ls' := [(2, .int (4 + (6 * p1))), (0, .ref p0), (1, .int p1)]) rfl dX12_gain_6 rfl (Nat.le_of_ble_eq_true rfl) rfl ?_
  refine ts_aload_n 1 (pc' := 8) rfl dX12_gain_7 rfl rfl ?_
  refine ts_iload_n 2 (pc' := 9) rfl dX12_gain_8 rfl rfl ?_
  refine ts_callS (M' := mX12_gainOf) (pc' := 12) (av := [.ref p0, .int p1]) rfl dX12_gain_9 rfl gX12_gain_X12_gainOf rfl dsX12_gainOf rfl (Nat.le_refl _) (Nat.le_of_ble_eq_true rfl) (Nat.le_of_ble_eq_true rfl) (Nat.le_refl _) (Nat.le_refl _) ts_kv0 W (ts_kki fun v3 hi1 hk2 W => ?_)
  refine ts_istore_n (pc' := 13) (ls' := [(3, .int v3), (2, .int (4 + (6 * p1))), (0, .ref p0), (1, .int p1)]) rfl dX12_gain_12 rfl (Nat.le_of_ble_eq_true rfl) rfl ?_
  refine ts_aload_n 2 (pc' := 14) rfl dX12_gain_13 rfl rfl ?_
  refine ts_iload_n 1 (pc' := 15) rfl dX12_gain_14 rfl rfl ?_
  refine ts_iconst (v := 5) (pc' := 16) rfl dX12_gain_15 (by decide) ?_
  refine ts_iadd (pc' := 17) rfl dX12_gain_16 ?_
  obtain ⟨c4, W⟩ := W
  obtain ⟨c5, W⟩ := W
  refine ts_iaload (pc' := 18) rfl dX12_gain_17 c4 c5 ?_
  refine ts_ldc (v := (-1000000)) (pc' := 20) rfl dX12_gain_18 (by decide +kernel) ?_
  refine ts_icmp_eq (pc' := 23) (tgt := 37) rfl dX12_gain_20 (by decide) (fun q6 => ?_) (fun q6 => ?_)
  · replace W := W.1 q6
    refine ts_iload_n 0 (pc' := 38) rfl dX12_gain_37 rfl rfl ?_
    refine ts_aload_n 2 (pc' := 39) rfl dX12_gain_38 rfl rfl ?_
    refine ts_iload_n 3 (pc' := 40) rfl dX12_gain_39 rfl rfl ?_
    refine ts_aload_n 2 (pc' := 41) rfl dX12_gain_40 rfl rfl ?_
    refine ts_iload_n 1 (pc' := 42) rfl dX12_gain_41 rfl rfl ?_
    refine ts_iconst (v := 4) (pc' := 43) rfl dX12_gain_42 (by decide) ?_
    refine ts_iadd (pc' := 44) rfl dX12_gain_43 ?_
    obtain ⟨c7, W⟩ := W
    refine ts_iaload (pc' := 45) rfl dX12_gain_44 c4 c7 ?_
    refine ts_iconst (v := 1) (pc' := 46) rfl dX12_gain_45 (by decide) ?_
    refine ts_icmp_ne (pc' := 49) (tgt := 59) rfl dX12_gain_46 (by decide) (fun q8 => ?_) (fun q8 => ?_)
    · replace W := W.1 q8
      refine ts_aload_n 2 (pc' := 60) rfl dX12_gain_59 rfl rfl ?_
      refine ts_iload_n 1 (pc' := 61) rfl dX12_gain_60 rfl rfl ?_
      refine ts_iconst (v := 3) (pc' := 62) rfl dX12_gain_61 (by decide) ?_
      refine ts_iadd (pc' := 63) rfl dX12_gain_62 ?_
      obtain ⟨c9, W⟩ := W
      refine ts_iaload (pc' := 64) rfl dX12_gain_63 c4 c9 ?_
      refine ts_iconst (v := 1) (pc' := 65) rfl dX12_gain_64 (by decide) ?_
      refine ts_isub (pc' := 66) rfl dX12_gain_65 ?_
      refine ts_callS (M' := mX12_isHigher) (pc' := 69) (av := [.ref p0, .int p1, .int ((hi1 p0 ((4 + (6 * p1)) + 3).toNatClampNeg) - 1)]) rfl dX12_gain_66 rfl gX12_gain_X12_isHigher rfl dsX12_isHigher rfl (Nat.le_refl _) (Nat.le_of_ble_eq_true rfl) (Nat.le_of_ble_eq_true rfl) (Nat.le_refl _) (Nat.le_refl _) ts_kv0 W (ts_kki fun v12 hi10 hk11 W => ?_)
      refine ts_if_eq (pc' := 72) (tgt := 76) rfl dX12_gain_69 (by decide) (fun q13 => ?_) (fun q13 => ?_)
      · replace W := W.1 q13
        refine ts_iconst (v := 0) (pc' := 77) rfl dX12_gain_76 (by decide) ?_
        refine ts_iadd (pc' := 78) rfl dX12_gain_77 ?_
        exact ts_iret dX12_gain_78 rfl (Nat.le_refl _) (Nat.le_refl _) ⟨rfl, _, rfl, W⟩
      · replace W := W.2 q13
        refine ts_iconst (v := 1) (pc' := 73) rfl dX12_gain_72 (by decide) ?_
        refine ts_goto (tgt := 77) dX12_gain_73 (by decide) ?_
        refine ts_iadd (pc' := 78) rfl dX12_gain_77 ?_
        exact ts_iret dX12_gain_78 rfl (Nat.le_refl _) (Nat.le_refl _) ⟨rfl, _, rfl, W⟩
    · replace W := W.2 q8
      refine ts_aload_n 2 (pc' := 50) rfl dX12_gain_49 rfl rfl ?_
      refine ts_iload_n 1 (pc' := 51) rfl dX12_gain_50 rfl rfl ?_
      refine ts_iconst (v := 3) (pc' := 52) rfl dX12_gain_51 (by decide) ?_
      refine ts_iadd (pc' := 53) rfl dX12_gain_52 ?_
      obtain ⟨c14, W⟩ := W
      refine ts_iaload (pc' := 54) rfl dX12_gain_53 c4 c14 ?_
      refine ts_iconst (v := 1) (pc' := 55) rfl dX12_gain_54 (by decide) ?_
      refine ts_iadd (pc' := 56) rfl dX12_gain_55 ?_
      refine ts_goto (tgt := 66) dX12_gain_56 (by decide) ?_
      refine ts_callS (M' := mX12_isHigher) (pc' := 69) (av := [.ref p0, .int p1, .int ((hi1 p0 ((4 + (6 * p1)) + 3).toNatClampNeg) + 1)]) rfl dX12_gain_66 rfl gX12_gain_X12_isHigher rfl dsX12_isHigher rfl (Nat.le_refl _) (Nat.le_of_ble_eq_true rfl) (Nat.le_of_ble_eq_true rfl) (Nat.le_refl _) (Nat.le_refl _) ts_kv0 W (ts_kki fun v17 hi15 hk16 W => ?_)
      refine ts_if_eq (pc' := 72) (tgt := 76) rfl dX12_gain_69 (by decide) (fun q18 => ?_) (fun q18 => ?_)
      · replace W := W.1 q18
        refine ts_iconst (v := 0) (pc' := 77) rfl dX12_gain_76 (by decide) ?_
        refine ts_iadd (pc' := 78) rfl dX12_gain_77 ?_
        exact ts_iret dX12_gain_78 rfl (Nat.le_refl _) (Nat.le_refl _) ⟨rfl, _, rfl, W⟩
      · replace W := W.2 q18
        refine ts_iconst (v := 1) (pc' := 73) rfl dX12_gain_72 (by decide) ?_
        refine ts_goto (tgt := 77) dX12_gain_73 (by decide) ?_
        refine ts_iadd (pc' := 78) rfl dX12_gain_77 ?_
        exact ts_iret dX12_gain_78 rfl (Nat.le_refl _) (Nat.le_refl _) ⟨rfl, _, rfl, W⟩
  · replace W := W.2 q6
    refine ts_iload_n 0 (pc' := 24) rfl dX12_gain_23 rfl rfl ?_
    refine ts_aload_n 2 (pc' := 25) rfl dX12_gain_24 rfl rfl ?_
    refine ts_aload_n 2 (pc' := 26) rfl dX12_gain_25 rfl rfl ?_
    refine ts_iload_n 1 (pc' := 27) rfl dX12_gain_26 rfl rfl ?_
    refine ts_iconst (v := 5) (pc' := 28) rfl dX12_gain_27 (by decide) ?_
    refine ts_iadd (pc' := 29) rfl dX12_gain_28 ?_
    refine ts_iaload (pc' := 30) rfl dX12_gain_29 c4 c5 ?_
    refine ts_callS (M' := mX12_gainOf) (pc' := 33) (av := [.ref p0, .int (hi1 p0 ((4 + (6 * p1)) + 5).toNatClampNeg)]) rfl dX12_gain_30 rfl gX12_gain_X12_gainOf rfl dsX12_gainOf rfl (Nat.le_refl _) (Nat.le_of_ble_eq_true rfl) (Nat.le_of_ble_eq_true rfl) (Nat.le_refl _) (Nat.le_refl _) ts_kv0 W (ts_kki fun v21 hi19 hk20 W => ?_)
    refine ts_iadd (pc' := 34) rfl dX12_gain_33 ?_
    refine ts_iconst (v := 2) (pc' := 35) rfl dX12_gain_34 (by decide) ?_
    refine ts_idiv (pc' := 36) rfl dX12_gain_35 (by decide) ?_
    refine ts_istore_n (pc' := 37) (ls' := [(3, .int ((v3 + v21) / 2)), (2, .int (4 + (6 * p1))), (0, .ref p0), (1, .int p1)]) rfl dX12_gain_36 rfl (Nat.le_of_ble_eq_true rfl) rfl ?_
    refine ts_iload_n 0 (pc' := 38) rfl dX12_gain_37 rfl rfl ?_
    refine ts_aload_n 2 (pc' := 39) rfl dX12_gain_38 rfl rfl ?_
    refine ts_iload_n 3 (pc' := 40) rfl dX12_gain_39 rfl rfl ?_
    refine ts_aload_n 2 (pc' := 41) rfl dX12_gain_40 rfl rfl ?_
    refine ts_iload_n 1 (pc' := 42) rfl dX12_gain_41 rfl rfl ?_
    refine ts_iconst (v := 4) (pc' := 43) rfl dX12_gain_42 (by decide) ?_
    refine ts_iadd (pc' := 44) rfl dX12_gain_43 ?_
    obtain ⟨c22, W⟩ := W
    refine ts_iaload (pc' := 45) rfl dX12_gain_44 c4 c22 ?_
    refine ts_iconst (v := 1) (pc' := 46) rfl dX12_gain_45 (by decide) ?_
    refine ts_icmp_ne (pc' := 49) (tgt := 59) rfl dX12_gain_46 (by decide) (fun q23 => ?_) (fun q23 => ?_)
    · replace W := W.1 q23
      refine ts_aload_n 2 (pc' := 60) rfl dX12_gain_59 rfl rfl ?_
      refine ts_iload_n 1 (pc' := 61) rfl dX12_gain_60 rfl rfl ?_
      refine ts_iconst (v := 3) (pc' := 62) rfl dX12_gain_61 (by decide) ?_
      refine ts_iadd (pc' := 63) rfl dX12_gain_62 ?_
      obtain ⟨c24, W⟩ := W
      refine ts_iaload (pc' := 64) rfl dX12_gain_63 c4 c24 ?_
      refine ts_iconst (v := 1) (pc' := 65) rfl dX12_gain_64 (by decide) ?_
      refine ts_isub (pc' := 66) rfl dX12_gain_65 ?_
      refine ts_callS (M' := mX12_isHigher) (pc' := 69) (av := [.ref p0, .int p1, .int ((hi19 p0 ((4 + (6 * p1)) + 3).toNatClampNeg) - 1)]) rfl dX12_gain_66 rfl gX12_gain_X12_isHigher rfl dsX12_isHigher rfl (Nat.le_refl _) (Nat.le_of_ble_eq_true rfl) (Nat.le_of_ble_eq_true rfl) (Nat.le_refl _) (Nat.le_refl _) ts_kv0 W (ts_kki fun v27 hi25 hk26 W => ?_)
      refine ts_if_eq (pc' := 72) (tgt := 76) rfl dX12_gain_69 (by decide) (fun q28 => ?_) (fun q28 => ?_)
      · replace W := W.1 q28
        refine ts_iconst (v := 0) (pc' := 77) rfl dX12_gain_76 (by decide) ?_
        refine ts_iadd (pc' := 78) rfl dX12_gain_77 ?_
        exact ts_iret dX12_gain_78 rfl (Nat.le_refl _) (Nat.le_refl _) ⟨rfl, _, rfl, W⟩
      · replace W := W.2 q28
        refine ts_iconst (v := 1) (pc' := 73) rfl dX12_gain_72 (by decide) ?_
        refine ts_goto (tgt := 77) dX12_gain_73 (by decide) ?_
        refine ts_iadd (pc' := 78) rfl dX12_gain_77 ?_
        exact ts_iret dX12_gain_78 rfl (Nat.le_refl _) (Nat.le_refl _) ⟨rfl, _, rfl, W⟩
    · replace W := W.2 q23
      refine ts_aload_n 2 (pc' := 50) rfl dX12_gain_49 rfl rfl ?_
      refine ts_iload_n 1 (pc' := 51) rfl dX12_gain_50 rfl rfl ?_
      refine ts_iconst (v := 3) (pc' := 52) rfl dX12_gain_51 (by decide) ?_
      refine ts_iadd (pc' := 53) rfl dX12_gain_52 ?_
      obtain ⟨c29, W⟩ := W
      refine ts_iaload (pc' := 54) rfl dX12_gain_53 c4 c29 ?_
      refine ts_iconst (v := 1) (pc' := 55) rfl dX12_gain_54 (by decide) ?_
      refine ts_iadd (pc' := 56) rfl dX12_gain_55 ?_
      refine ts_goto (tgt := 66) dX12_gain_56 (by decide) ?_
      refine ts_callS (M' := mX12_isHigher) (pc' := 69) (av := [.ref p0, .int p1, .int ((hi19 p0 ((4 + (6 * p1)) + 3).toNatClampNeg) + 1)]) rfl dX12_gain_66 rfl gX12_gain_X12_isHigher rfl dsX12_isHigher rfl (Nat.le_refl _) (Nat.le_of_ble_eq_true rfl) (Nat.le_of_ble_eq_true rfl) (Nat.le_refl _) (Nat.le_refl _) ts_kv0 W (ts_kki fun v32 hi30 hk31 W => ?_)
      refine ts_if_eq (pc' := 72) (tgt := 76) rfl dX12_gain_69 (by decide) (fun q33 => ?_) (fun q33 => ?_)
      · replace W := W.1 q33
        refine ts_iconst (v := 0) (pc' := 77) rfl dX12_gain_76 (by decide) ?_
        refine ts_iadd (pc' := 78) rfl dX12_gain_77 ?_
        exact ts_iret dX12_gain_78 rfl (Nat.le_refl _) (Nat.le_refl _) ⟨rfl, _, rfl, W⟩
      · replace W := W.2 q33
        refine ts_iconst (v := 1) (pc' := 73) rfl dX12_gain_72 (by decide) ?_
        refine ts_goto (tgt := 77) dX12_gain_73 (by decide) ?_
        refine ts_iadd (pc' := 78) rfl dX12_gain_77 ?_
        exact ts_iret dX12_gain_78 rfl (Nat.le_refl _) (Nat.le_refl _) ⟨rfl, _, rfl, W⟩
set_option maxHeartbeats 4000000 in
theorem wX12_grows_0 {d : Nat} {g : ts_G} {Q : ts_I → ts_K → Prop} {p0 : Nat} {p1 : Int32} {p2 : Int32} {hi : ts_I} {hk : ts_K} (W : (g.2.1 p0 = 100) ∧ (vp_in ((4 + (6 * p1)) + 2) (g.2.2.1 p0)) ∧ ∀ hi3 : ts_I, hi3 = ts_up hi p0 ((4 + (6 * p1)) + 2).toNatClampNeg ((hi p0 ((4 + (6 * p1)) + 2).toNatClampNeg) + p2) → ts_J0 d mX12_grows (ts_qv Q) g 16 [(0, .ref p0), (3, .int (4 + (6 * p1)))] [] hi3 hk) : ts_J0 d mX12_grows (ts_qv Q) g 0 [(0, .ref p0), (1, .int p1), (2, .int p2)] [] hi hk := by
  refine ts_iconst (v := 4) (pc' := 1) rfl dX12_grows_0 (by decide) ?_
  refine ts_bipush (v := 6) (pc' := 3) rfl dX12_grows_1 (by decide) ?_
  refine ts_iload_n 1 (pc' := 4) rfl dX12_grows_3 rfl rfl ?_
  refine ts_imul (pc' := 5) rfl dX12_grows_4 ?_
  refine ts_iadd (pc' := 6) rfl dX12_grows_5 ?_
  refine ts_istore_n (pc' := 7) (ls' := [(3, .int (4 + (6 * p1))), (0, .ref p0), (1, .int p1), (2, .int p2)]) rfl dX12_grows_6 rfl (Nat.le_of_ble_eq_true rfl) rfl ?_
  refine ts_aload_n 1 (pc' := 8) rfl dX12_grows_7 rfl rfl ?_
  refine ts_iload_n 0 (pc' := 9) rfl dX12_grows_8 rfl rfl ?_
  refine ts_iconst (v := 2) (pc' := 10) rfl dX12_grows_9 (by decide) ?_
  refine ts_iadd (pc' := 11) rfl dX12_grows_10 ?_
  refine ts_dup2 (pc' := 12) rfl dX12_grows_11 rfl rfl ?_
  obtain ⟨c1, W⟩ := W
  obtain ⟨c2, W⟩ := W
  refine ts_iaload (pc' := 13) rfl dX12_grows_12 c1 c2 ?_
  refine ts_iload_n 3 (pc' := 14) rfl dX12_grows_13 rfl rfl ?_
  refine ts_iadd (pc' := 15) rfl dX12_grows_14 ?_
  refine ts_iastore (pc' := 16) rfl dX12_grows_15 c1 c2 ?_
  obtain ⟨hi3, ehi3⟩ : ∃ z, z = ts_up hi p0 ((4 + (6 * p1)) + 2).toNatClampNeg ((hi p0 ((4 + (6 * p1)) + 2).toNatClampNeg) + p2) := ⟨_, rfl⟩
  rw [← ehi3]; replace W := W hi3 ehi3
  exact ts_sub [1, 0] rfl W
set_option maxHeartbeats 4000000 in
theorem wX12_grows_16 {d : Nat} {g : ts_G} {Q : ts_I → ts_K → Prop} {l0 : Nat} {l3 : Int32} {hi : ts_I} {hk : ts_K} (W : (g.2.1 l0 = 100) ∧ (vp_in (l3 + 2) (g.2.2.1 l0)) ∧ (((hi l0 (l3 + 2).toNatClampNeg) ≤ 9) → (((hi l0 (l3 + 2).toNatClampNeg) ≤ 9) → ∀ hi5 : ts_I, hi5 = ts_up hi l0 (l3 + 2).toNatClampNeg (hi l0 (l3 + 2).toNatClampNeg) → Q hi5 hk) ∧ (¬ ((hi l0 (l3 + 2).toNatClampNeg) ≤ 9) → ∀ hi6 : ts_I, hi6 = ts_up hi l0 (l3 + 2).toNatClampNeg 9 → Q hi6 hk)) ∧ (¬ ((hi l0 (l3 + 2).toNatClampNeg) ≤ 9) → (vp_in (l3 + 1) (g.2.2.1 l0)) ∧ ((9 ≤ (hi l0 (l3 + 1).toNatClampNeg)) → (((hi l0 (l3 + 2).toNatClampNeg) ≤ 9) → ∀ hi10 : ts_I, hi10 = ts_up hi l0 (l3 + 2).toNatClampNeg (hi l0 (l3 + 2).toNatClampNeg) → Q hi10 hk) ∧ (¬ ((hi l0 (l3 + 2).toNatClampNeg) ≤ 9) → ∀ hi11 : ts_I, hi11 = ts_up hi l0 (l3 + 2).toNatClampNeg 9 → Q hi11 hk)) ∧ (¬ (9 ≤ (hi l0 (l3 + 1).toNatClampNeg)) → ∀ hi12 : ts_I, hi12 = ts_up hi l0 (l3 + 2).toNatClampNeg ((hi l0 (l3 + 2).toNatClampNeg) - 10) → ∀ hi13 : ts_I, hi13 = ts_up hi12 l0 (l3 + 1).toNatClampNeg ((hi12 l0 (l3 + 1).toNatClampNeg) + 1) → ts_J0 d mX12_grows (ts_qv Q) g 16 [(0, .ref l0), (3, .int l3)] [] hi13 hk))) : ts_J0 d mX12_grows (ts_qv Q) g 16 [(0, .ref l0), (3, .int l3)] [] hi hk := by
  refine ts_aload_n 0 (pc' := 17) rfl dX12_grows_16 rfl rfl ?_
  refine ts_iload_n 1 (pc' := 18) rfl dX12_grows_17 rfl rfl ?_
  refine ts_iconst (v := 2) (pc' := 19) rfl dX12_grows_18 (by decide) ?_
  refine ts_iadd (pc' := 20) rfl dX12_grows_19 ?_
  obtain ⟨c1, W⟩ := W
  obtain ⟨c2, W⟩ := W
  refine ts_iaload (pc' := 21) rfl dX12_grows_20 c1 c2 ?_
  refine ts_bipush (v := 9) (pc' := 23) rfl dX12_grows_21 (by decide) ?_
  refine ts_icmp_le (pc' := 26) (tgt := 58) rfl dX12_grows_23 (by decide) (fun q3 => ?_) (fun q3 => ?_)
  · replace W := W.1 q3
    refine ts_aload_n 0 (pc' := 59) rfl dX12_grows_58 rfl rfl ?_
    refine ts_iload_n 1 (pc' := 60) rfl dX12_grows_59 rfl rfl ?_
    refine ts_iconst (v := 2) (pc' := 61) rfl dX12_grows_60 (by decide) ?_
    refine ts_iadd (pc' := 62) rfl dX12_grows_61 ?_
    refine ts_aload_n 0 (pc' := 63) rfl dX12_grows_62 rfl rfl ?_
    refine ts_iload_n 1 (pc' := 64) rfl dX12_grows_63 rfl rfl ?_
    refine ts_iconst (v := 2) (pc' := 65) rfl dX12_grows_64 (by decide) ?_
    refine ts_iadd (pc' := 66) rfl dX12_grows_65 ?_
    refine ts_iaload (pc' := 67) rfl dX12_grows_66 c1 c2 ?_
    refine ts_bipush (v := 9) (pc' := 69) rfl dX12_grows_67 (by decide) ?_
    refine ts_icmp_le (pc' := 72) (tgt := 77) rfl dX12_grows_69 (by decide) (fun q4 => ?_) (fun q4 => ?_)
    · replace W := W.1 q4
      refine ts_aload_n 0 (pc' := 78) rfl dX12_grows_77 rfl rfl ?_
      refine ts_iload_n 1 (pc' := 79) rfl dX12_grows_78 rfl rfl ?_
      refine ts_iconst (v := 2) (pc' := 80) rfl dX12_grows_79 (by decide) ?_
      refine ts_iadd (pc' := 81) rfl dX12_grows_80 ?_
      refine ts_iaload (pc' := 82) rfl dX12_grows_81 c1 c2 ?_
      refine ts_iastore (pc' := 83) rfl dX12_grows_82 c1 c2 ?_
      obtain ⟨hi5, ehi5⟩ : ∃ z, z = ts_up hi l0 (l3 + 2).toNatClampNeg (hi l0 (l3 + 2).toNatClampNeg) := ⟨_, rfl⟩
      rw [← ehi5]; replace W := W hi5 ehi5
      exact ts_vret dX12_grows_83 rfl (Nat.le_refl _) (Nat.le_refl _) ⟨rfl, rfl, W⟩
    · replace W := W.2 q4
      refine ts_bipush (v := 9) (pc' := 74) rfl dX12_grows_72 (by decide) ?_
      refine ts_goto (tgt := 82) dX12_grows_74 (by decide) ?_
      refine ts_iastore (pc' := 83) rfl dX12_grows_82 c1 c2 ?_
      obtain ⟨hi6, ehi6⟩ : ∃ z, z = ts_up hi l0 (l3 + 2).toNatClampNeg 9 := ⟨_, rfl⟩
      rw [← ehi6]; replace W := W hi6 ehi6
      exact ts_vret dX12_grows_83 rfl (Nat.le_refl _) (Nat.le_refl _) ⟨rfl, rfl, W⟩
  · replace W := W.2 q3
    refine ts_aload_n 0 (pc' := 27) rfl dX12_grows_26 rfl rfl ?_
    refine ts_iload_n 1 (pc' := 28) rfl dX12_grows_27 rfl rfl ?_
    refine ts_iconst (v := 1) (pc' := 29) rfl dX12_grows_28 (by decide) ?_
    refine ts_iadd (pc' := 30) rfl dX12_grows_29 ?_
    obtain ⟨c7, W⟩ := W
    refine ts_iaload (pc' := 31) rfl dX12_grows_30 c1 c7 ?_
    refine ts_bipush (v := 9) (pc' := 33) rfl dX12_grows_31 (by decide) ?_
    refine ts_icmp_ge (pc' := 36) (tgt := 58) rfl dX12_grows_33 (by decide) (fun q8 => ?_) (fun q8 => ?_)
    · replace W := W.1 q8
      refine ts_aload_n 0 (pc' := 59) rfl dX12_grows_58 rfl rfl ?_
      refine ts_iload_n 1 (pc' := 60) rfl dX12_grows_59 rfl rfl ?_
      refine ts_iconst (v := 2) (pc' := 61) rfl dX12_grows_60 (by decide) ?_
      refine ts_iadd (pc' := 62) rfl dX12_grows_61 ?_
      refine ts_aload_n 0 (pc' := 63) rfl dX12_grows_62 rfl rfl ?_
      refine ts_iload_n 1 (pc' := 64) rfl dX12_grows_63 rfl rfl ?_
      refine ts_iconst (v := 2) (pc' := 65) rfl dX12_grows_64 (by decide) ?_
      refine ts_iadd (pc' := 66) rfl dX12_grows_65 ?_
      refine ts_iaload (pc' := 67) rfl dX12_grows_66 c1 c2 ?_
      refine ts_bipush (v := 9) (pc' := 69) rfl dX12_grows_67 (by decide) ?_
      refine ts_icmp_le (pc' := 72) (tgt := 77) rfl dX12_grows_69 (by decide) (fun q9 => ?_) (fun q9 => ?_)
      · replace W := W.1 q9
        refine ts_aload_n 0 (pc' := 78) rfl dX12_grows_77 rfl rfl ?_
        refine ts_iload_n 1 (pc' := 79) rfl dX12_grows_78 rfl rfl ?_
        refine ts_iconst (v := 2) (pc' := 80) rfl dX12_grows_79 (by decide) ?_
        refine ts_iadd (pc' := 81) rfl dX12_grows_80 ?_
        refine ts_iaload (pc' := 82) rfl dX12_grows_81 c1 c2 ?_
        refine ts_iastore (pc' := 83) rfl dX12_grows_82 c1 c2 ?_
        obtain ⟨hi10, ehi10⟩ : ∃ z, z = ts_up hi l0 (l3 + 2).toNatClampNeg (hi l0 (l3 + 2).toNatClampNeg) := ⟨_, rfl⟩
        rw [← ehi10]; replace W := W hi10 ehi10
        exact ts_vret dX12_grows_83 rfl (Nat.le_refl _) (Nat.le_refl _) ⟨rfl, rfl, W⟩
      · replace W := W.2 q9
        refine ts_bipush (v := 9) (pc' := 74) rfl dX12_grows_72 (by decide) ?_
        refine ts_goto (tgt := 82) dX12_grows_74 (by decide) ?_
        refine ts_iastore (pc' := 83) rfl dX12_grows_82 c1 c2 ?_
        obtain ⟨hi11, ehi11⟩ : ∃ z, z = ts_up hi l0 (l3 + 2).toNatClampNeg 9 := ⟨_, rfl⟩
        rw [← ehi11]; replace W := W hi11 ehi11
        exact ts_vret dX12_grows_83 rfl (Nat.le_refl _) (Nat.le_refl _) ⟨rfl, rfl, W⟩
    · replace W := W.2 q8
      refine ts_aload_n 0 (pc' := 37) rfl dX12_grows_36 rfl rfl ?_
      refine ts_iload_n 1 (pc' := 38) rfl dX12_grows_37 rfl rfl ?_
      refine ts_iconst (v := 2) (pc' := 39) rfl dX12_grows_38 (by decide) ?_
      refine ts_iadd (pc' := 40) rfl dX12_grows_39 ?_
      refine ts_dup2 (pc' := 41) rfl dX12_grows_40 rfl rfl ?_
      refine ts_iaload (pc' := 42) rfl dX12_grows_41 c1 c2 ?_
      refine ts_bipush (v := 10) (pc' := 44) rfl dX12_grows_42 (by decide) ?_
      refine ts_isub (pc' := 45) rfl dX12_grows_44 ?_
      refine ts_iastore (pc' := 46) rfl dX12_grows_45 c1 c2 ?_
      obtain ⟨hi12, ehi12⟩ : ∃ z, z = ts_up hi l0 (l3 + 2).toNatClampNeg ((hi l0 (l3 + 2).toNatClampNeg) - 10) := ⟨_, rfl⟩
      rw [← ehi12]; replace W := W hi12 ehi12
      refine ts_aload_n 0 (pc' := 47) rfl dX12_grows_46 rfl rfl ?_
      refine ts_iload_n 1 (pc' := 48) rfl dX12_grows_47 rfl rfl ?_
      refine ts_iconst (v := 1) (pc' := 49) rfl dX12_grows_48 (by decide) ?_
      refine ts_iadd (pc' := 50) rfl dX12_grows_49 ?_
      refine ts_dup2 (pc' := 51) rfl dX12_grows_50 rfl rfl ?_
      refine ts_iaload (pc' := 52) rfl dX12_grows_51 c1 c7 ?_
      refine ts_iconst (v := 1) (pc' := 53) rfl dX12_grows_52 (by decide) ?_
      refine ts_iadd (pc' := 54) rfl dX12_grows_53 ?_
      refine ts_iastore (pc' := 55) rfl dX12_grows_54 c1 c7 ?_
      obtain ⟨hi13, ehi13⟩ : ∃ z, z = ts_up hi12 l0 (l3 + 1).toNatClampNeg ((hi12 l0 (l3 + 1).toNatClampNeg) + 1) := ⟨_, rfl⟩
      rw [← ehi13]; replace W := W hi13 ehi13
      refine ts_goto (tgt := 16) dX12_grows_55 (by decide) ?_
      exact ts_sub [0, 1] rfl W
theorem hnX12_passes_X12 : ∀ w ∈ u_ws RX12 TX12 25, w ∈ wsX12_passes := by decide +kernel
theorem flX12_passes_44 : Cond.fieldLink RX12 44 "TurnipSquiresModel" "gains" "[I" ∈ wsX12_passes := by decide +kernel
set_option maxHeartbeats 4000000 in
theorem wX12_passes_0 {d : Nat} {g : ts_G} {Q : ts_I → ts_K → Prop} {o : Nat} {p0 : Nat} {hi : ts_I} {hk : ts_K} (W : ts_J0 (d + 1) mX12_passes (ts_qv Q) g 2 [(0, .ref o), (1, .ref p0), (2, .int 0)] [] hi hk) : ts_J0 (d + 1) mX12_passes (ts_qv Q) g 0 [(0, .ref o), (1, .ref p0)] [] hi hk := by
  refine ts_iconst (v := 0) (pc' := 1) rfl dX12_passes_0 (by decide) ?_
  refine ts_istore_n (pc' := 2) (ls' := [(2, .int 0), (0, .ref o), (1, .ref p0)]) rfl dX12_passes_1 rfl (Nat.le_of_ble_eq_true rfl) rfl ?_
  exact ts_sub [1, 2, 0] rfl W
set_option maxHeartbeats 4000000 in
theorem wX12_passes_2 {d : Nat} {g : ts_G} {Q : ts_I → ts_K → Prop} {l0 : Nat} {l1 : Nat} {l2 : Int32} {hi : ts_I} {hk : ts_K} (W : (g.2.1 l1 = 100) ∧ (vp_in 2 (g.2.2.1 l1)) ∧ (((hi l1 (2 : Int32).toNatClampNeg) ≤ l2) → ts_J0 (d + 1) mX12_passes (ts_qv Q) g 28 [(0, .ref l0), (1, .ref l1), (2, .int 0)] [] hi hk) ∧ (¬ ((hi l1 (2 : Int32).toNatClampNeg) ≤ l2) → (g.2.1 l0 = 11) ∧ (g.2.2.2 l0 20 ≠ 0) ∧ ts_E0 d mX12_gain [.ref l1, .int l2] g hi hk (ts_qi (fun v8 hi6 hk7 => (g.2.1 (g.2.2.2 l0 20) = 100) ∧ (vp_in l2 (g.2.2.1 (g.2.2.2 l0 20))) ∧ ∀ hi11 : ts_I, hi11 = ts_up hi6 (g.2.2.2 l0 20) l2.toNatClampNeg v8 → ts_J0 (d + 1) mX12_passes (ts_qv Q) g 2 [(0, .ref l0), (1, .ref l1), (2, .int (l2 + 1))] [] hi11 hk7)))) : ts_J0 (d + 1) mX12_passes (ts_qv Q) g 2 [(0, .ref l0), (1, .ref l1), (2, .int l2)] [] hi hk := by
  refine ts_iload_n 2 (pc' := 3) rfl dX12_passes_2 rfl rfl ?_
  refine ts_aload_n 1 (pc' := 4) rfl dX12_passes_3 rfl rfl ?_
  refine ts_iconst (v := 2) (pc' := 5) rfl dX12_passes_4 (by decide) ?_
  obtain ⟨c1, W⟩ := W
  obtain ⟨c2, W⟩ := W
  refine ts_iaload (pc' := 6) rfl dX12_passes_5 c1 c2 ?_
  refine ts_icmp_ge (pc' := 9) (tgt := 26) rfl dX12_passes_6 (by decide) (fun q3 => ?_) (fun q3 => ?_)
  · replace W := W.1 q3
    refine ts_iconst (v := 0) (pc' := 27) rfl dX12_passes_26 (by decide) ?_
    refine ts_istore_n (pc' := 28) (ls' := [(2, .int 0), (0, .ref l0), (1, .ref l1)]) rfl dX12_passes_27 rfl (Nat.le_of_ble_eq_true rfl) rfl ?_
    exact ts_sub [1, 2, 0] rfl W
  · replace W := W.2 q3
    refine ts_aload_n 0 (pc' := 10) rfl dX12_passes_9 rfl rfl ?_
    obtain ⟨c4, W⟩ := W
    obtain ⟨c5, W⟩ := W
    refine ts_getR (pc' := 13) (ci := 11) 20 cfX12.1 cfX12.2.1 cfX12.2.2 rfl (by decide) hnX12_passes_X12 flX12_passes_44 rfl dX12_passes_10 c4 c5 ?_
    refine ts_iload_n 2 (pc' := 14) rfl dX12_passes_13 rfl rfl ?_
    refine ts_aload_n 1 (pc' := 15) rfl dX12_passes_14 rfl rfl ?_
    refine ts_iload_n 2 (pc' := 16) rfl dX12_passes_15 rfl rfl ?_
    refine ts_callS (M' := mX12_gain) (pc' := 19) (av := [.ref l1, .int l2]) rfl dX12_passes_16 rfl gX12_passes_X12_gain rfl dsX12_gain rfl (Nat.le_refl _) (Nat.le_of_ble_eq_true rfl) (Nat.le_of_ble_eq_true rfl) (Nat.le_refl _) (Nat.le_refl _) ts_kv0 W (ts_kki fun v8 hi6 hk7 W => ?_)
    obtain ⟨c9, W⟩ := W
    obtain ⟨c10, W⟩ := W
    refine ts_iastore (pc' := 20) rfl dX12_passes_19 c9 c10 ?_
    obtain ⟨hi11, ehi11⟩ : ∃ z, z = ts_up hi6 (g.2.2.2 l0 20) l2.toNatClampNeg v8 := ⟨_, rfl⟩
    rw [← ehi11]; replace W := W hi11 ehi11
    refine ts_iinc 2 (pc' := 23) (ls' := [(2, .int (l2 + 1)), (0, .ref l0), (1, .ref l1)]) rfl dX12_passes_20 rfl rfl (Nat.le_of_ble_eq_true rfl) rfl ?_
    refine ts_goto (tgt := 2) dX12_passes_23 (by decide) ?_
    exact ts_sub [1, 2, 0] rfl W
set_option maxHeartbeats 4000000 in
theorem wX12_passes_28 {d : Nat} {g : ts_G} {Q : ts_I → ts_K → Prop} {l0 : Nat} {l1 : Nat} {l2 : Int32} {hi : ts_I} {hk : ts_K} (W : (g.2.1 l1 = 100) ∧ (vp_in 2 (g.2.2.1 l1)) ∧ (((hi l1 (2 : Int32).toNatClampNeg) ≤ l2) → (vp_in 3 (g.2.2.1 l1)) ∧ ∀ hi5 : ts_I, hi5 = ts_up hi l1 (3 : Int32).toNatClampNeg ((hi l1 (3 : Int32).toNatClampNeg) + 1) → Q hi5 hk) ∧ (¬ ((hi l1 (2 : Int32).toNatClampNeg) ≤ l2) → (g.2.1 l0 = 11) ∧ (g.2.2.2 l0 20 ≠ 0) ∧ (g.2.1 (g.2.2.2 l0 20) = 100) ∧ (vp_in l2 (g.2.2.1 (g.2.2.2 l0 20))) ∧ ts_E0 d mX12_grows [.ref l1, .int l2, .int (hi (g.2.2.2 l0 20) l2.toNatClampNeg)] g hi hk (ts_qv (fun hi10 hk11 => ts_J0 (d + 1) mX12_passes (ts_qv Q) g 28 [(0, .ref l0), (1, .ref l1), (2, .int (l2 + 1))] [] hi10 hk11)))) : ts_J0 (d + 1) mX12_passes (ts_qv Q) g 28 [(0, .ref l0), (1, .ref l1), (2, .int l2)] [] hi hk := by
  refine ts_iload_n 2 (pc' := 29) rfl dX12_passes_28 rfl rfl ?_
  refine ts_aload_n 1 (pc' := 30) rfl dX12_passes_29 rfl rfl ?_
  refine ts_iconst (v := 2) (pc' := 31) rfl dX12_passes_30 (by decide) ?_
  obtain ⟨c1, W⟩ := W
  obtain ⟨c2, W⟩ := W
  refine ts_iaload (pc' := 32) rfl dX12_passes_31 c1 c2 ?_
  refine ts_icmp_ge (pc' := 35) (tgt := 52) rfl dX12_passes_32 (by decide) (fun q3 => ?_) (fun q3 => ?_)
  · replace W := W.1 q3
    refine ts_aload_n 1 (pc' := 53) rfl dX12_passes_52 rfl rfl ?_
    refine ts_iconst (v := 3) (pc' := 54) rfl dX12_passes_53 (by decide) ?_
    refine ts_dup2 (pc' := 55) rfl dX12_passes_54 rfl rfl ?_
    obtain ⟨c4, W⟩ := W
    refine ts_iaload (pc' := 56) rfl dX12_passes_55 c1 c4 ?_
    refine ts_iconst (v := 1) (pc' := 57) rfl dX12_passes_56 (by decide) ?_
    refine ts_iadd (pc' := 58) rfl dX12_passes_57 ?_
    refine ts_iastore (pc' := 59) rfl dX12_passes_58 c1 c4 ?_
    obtain ⟨hi5, ehi5⟩ : ∃ z, z = ts_up hi l1 (3 : Int32).toNatClampNeg ((hi l1 (3 : Int32).toNatClampNeg) + 1) := ⟨_, rfl⟩
    rw [← ehi5]; replace W := W hi5 ehi5
    exact ts_vret dX12_passes_59 rfl (Nat.le_refl _) (Nat.le_refl _) ⟨rfl, rfl, W⟩
  · replace W := W.2 q3
    refine ts_aload_n 1 (pc' := 36) rfl dX12_passes_35 rfl rfl ?_
    refine ts_iload_n 2 (pc' := 37) rfl dX12_passes_36 rfl rfl ?_
    refine ts_aload_n 0 (pc' := 38) rfl dX12_passes_37 rfl rfl ?_
    obtain ⟨c6, W⟩ := W
    obtain ⟨c7, W⟩ := W
    refine ts_getR (pc' := 41) (ci := 11) 20 cfX12.1 cfX12.2.1 cfX12.2.2 rfl (by decide) hnX12_passes_X12 flX12_passes_44 rfl dX12_passes_38 c6 c7 ?_
    refine ts_iload_n 2 (pc' := 42) rfl dX12_passes_41 rfl rfl ?_
    obtain ⟨c8, W⟩ := W
    obtain ⟨c9, W⟩ := W
    refine ts_iaload (pc' := 43) rfl dX12_passes_42 c8 c9 ?_
    refine ts_callS (M' := mX12_grows) (pc' := 46) (av := [.ref l1, .int l2, .int (hi (g.2.2.2 l0 20) l2.toNatClampNeg)]) rfl dX12_passes_43 rfl gX12_passes_X12_grows rfl dsX12_grows rfl (Nat.le_refl _) (Nat.le_of_ble_eq_true rfl) (Nat.le_of_ble_eq_true rfl) (Nat.le_refl _) (Nat.le_refl _) ts_kv0 W (ts_kkv fun hi10 hk11 W => ?_)
    refine ts_iinc 2 (pc' := 49) (ls' := [(2, .int (l2 + 1)), (0, .ref l0), (1, .ref l1)]) rfl dX12_passes_46 rfl rfl (Nat.le_of_ble_eq_true rfl) rfl ?_
    refine ts_goto (tgt := 28) dX12_passes_49 (by decide) ?_
    exact ts_sub [1, 2, 0] rfl W
set_option maxHeartbeats 4000000 in
theorem wX12_sumOf_0 {d : Nat} {g : ts_G} {Q : Int32 → ts_I → ts_K → Prop} {p0 : Nat} {p1 : Int32} {hi : ts_I} {hk : ts_K} (W : ts_J0 d mX12_sumOf (ts_qi Q) g 4 [(0, .ref p0), (1, .int p1), (2, .int 0), (3, .int 0)] [] hi hk) : ts_J0 d mX12_sumOf (ts_qi Q) g 0 [(0, .ref p0), (1, .int p1)] [] hi hk := by
  refine ts_iconst (v := 0) (pc' := 1) rfl dX12_sumOf_0 (by decide) ?_
  refine ts_istore_n (pc' := 2) (ls' := [(2, .int 0), (0, .ref p0), (1, .int p1)]) rfl dX12_sumOf_1 rfl (Nat.le_of_ble_eq_true rfl) rfl ?_
  refine ts_iconst (v := 0) (pc' := 3) rfl dX12_sumOf_2 (by decide) ?_
  refine ts_istore_n (pc' := 4) (ls' := [(3, .int 0), (2, .int 0), (0, .ref p0), (1, .int p1)]) rfl dX12_sumOf_3 rfl (Nat.le_of_ble_eq_true rfl) rfl ?_
  exact ts_sub [2, 3, 1, 0] rfl W
set_option maxHeartbeats 4000000 in
theorem wX12_sumOf_4 {d : Nat} {g : ts_G} {Q : Int32 → ts_I → ts_K → Prop} {l0 : Nat} {l1 : Int32} {l2 : Int32} {l3 : Int32} {hi : ts_I} {hk : ts_K} (W : (g.2.1 l0 = 100) ∧ (vp_in 2 (g.2.2.1 l0)) ∧ (((hi l0 (2 : Int32).toNatClampNeg) ≤ l3) → Q l2 hi hk) ∧ (¬ ((hi l0 (2 : Int32).toNatClampNeg) ≤ l3) → (vp_in ((4 + (6 * l3)) + l1) (g.2.2.1 l0)) ∧ ts_J0 d mX12_sumOf (ts_qi Q) g 4 [(0, .ref l0), (1, .int l1), (2, .int (l2 + (hi l0 ((4 + (6 * l3)) + l1).toNatClampNeg))), (3, .int (l3 + 1))] [] hi hk)) : ts_J0 d mX12_sumOf (ts_qi Q) g 4 [(0, .ref l0), (1, .int l1), (2, .int l2), (3, .int l3)] [] hi hk := by
  refine ts_iload_n 3 (pc' := 5) rfl dX12_sumOf_4 rfl rfl ?_
  refine ts_aload_n 0 (pc' := 6) rfl dX12_sumOf_5 rfl rfl ?_
  refine ts_iconst (v := 2) (pc' := 7) rfl dX12_sumOf_6 (by decide) ?_
  obtain ⟨c1, W⟩ := W
  obtain ⟨c2, W⟩ := W
  refine ts_iaload (pc' := 8) rfl dX12_sumOf_7 c1 c2 ?_
  refine ts_icmp_ge (pc' := 11) (tgt := 30) rfl dX12_sumOf_8 (by decide) (fun q3 => ?_) (fun q3 => ?_)
  · replace W := W.1 q3
    refine ts_iload_n 2 (pc' := 31) rfl dX12_sumOf_30 rfl rfl ?_
    exact ts_iret dX12_sumOf_31 rfl (Nat.le_refl _) (Nat.le_refl _) ⟨rfl, _, rfl, W⟩
  · replace W := W.2 q3
    refine ts_iload_n 2 (pc' := 12) rfl dX12_sumOf_11 rfl rfl ?_
    refine ts_aload_n 0 (pc' := 13) rfl dX12_sumOf_12 rfl rfl ?_
    refine ts_iconst (v := 4) (pc' := 14) rfl dX12_sumOf_13 (by decide) ?_
    refine ts_bipush (v := 6) (pc' := 16) rfl dX12_sumOf_14 (by decide) ?_
    refine ts_iload_n 3 (pc' := 17) rfl dX12_sumOf_16 rfl rfl ?_
    refine ts_imul (pc' := 18) rfl dX12_sumOf_17 ?_
    refine ts_iadd (pc' := 19) rfl dX12_sumOf_18 ?_
    refine ts_iload_n 1 (pc' := 20) rfl dX12_sumOf_19 rfl rfl ?_
    refine ts_iadd (pc' := 21) rfl dX12_sumOf_20 ?_
    obtain ⟨c4, W⟩ := W
    refine ts_iaload (pc' := 22) rfl dX12_sumOf_21 c1 c4 ?_
    refine ts_iadd (pc' := 23) rfl dX12_sumOf_22 ?_
    refine ts_istore_n (pc' := 24) (ls' := [(2, .int (l2 + (hi l0 ((4 + (6 * l3)) + l1).toNatClampNeg))), (0, .ref l0), (1, .int l1), (3, .int l3)]) rfl dX12_sumOf_23 rfl (Nat.le_of_ble_eq_true rfl) rfl ?_
    refine ts_iinc 3 (pc' := 27) (ls' := [(3, .int (l3 + 1)), (2, .int (l2 + (hi l0 ((4 + (6 * l3)) + l1).toNatClampNeg))), (0, .ref l0), (1, .int l1)]) rfl dX12_sumOf_24 rfl rfl (Nat.le_of_ble_eq_true rfl) rfl ?_
    refine ts_goto (tgt := 4) dX12_sumOf_27 (by decide) ?_
    exact ts_sub [2, 3, 1, 0] rfl W
set_option maxHeartbeats 4000000 in
theorem wX12_changes_0 {d : Nat} {g : ts_G} {Q : ts_I → ts_K → Prop} {p0 : Nat} {p1 : Int32} {p2 : Int32} {hi : ts_I} {hk : ts_K} (W : (g.2.1 p0 = 100) ∧ (vp_in ((4 + (6 * p1)) + 3) (g.2.2.1 p0)) ∧ (vp_in ((4 + (6 * p2)) + 3) (g.2.2.1 p0)) ∧ ∀ hi4 : ts_I, hi4 = ts_up hi p0 ((4 + (6 * p1)) + 3).toNatClampNeg (hi p0 ((4 + (6 * p2)) + 3).toNatClampNeg) → ∀ hi5 : ts_I, hi5 = ts_up hi4 p0 ((4 + (6 * p2)) + 3).toNatClampNeg (hi p0 ((4 + (6 * p1)) + 3).toNatClampNeg) → Q hi5 hk) : ts_J0 d mX12_changes (ts_qv Q) g 0 [(0, .ref p0), (1, .int p1), (2, .int p2)] [] hi hk := by
  refine ts_aload_n 0 (pc' := 1) rfl dX12_changes_0 rfl rfl ?_
  refine ts_iconst (v := 4) (pc' := 2) rfl dX12_changes_1 (by decide) ?_
  refine ts_bipush (v := 6) (pc' := 4) rfl dX12_changes_2 (by decide) ?_
  refine ts_iload_n 1 (pc' := 5) rfl dX12_changes_4 rfl rfl ?_
  refine ts_imul (pc' := 6) rfl dX12_changes_5 ?_
  refine ts_iadd (pc' := 7) rfl dX12_changes_6 ?_
  refine ts_iconst (v := 3) (pc' := 8) rfl dX12_changes_7 (by decide) ?_
  refine ts_iadd (pc' := 9) rfl dX12_changes_8 ?_
  obtain ⟨c1, W⟩ := W
  obtain ⟨c2, W⟩ := W
  refine ts_iaload (pc' := 10) rfl dX12_changes_9 c1 c2 ?_
  refine ts_istore_n (pc' := 11) (ls' := [(3, .int (hi p0 ((4 + (6 * p1)) + 3).toNatClampNeg)), (0, .ref p0), (1, .int p1), (2, .int p2)]) rfl dX12_changes_10 rfl (Nat.le_of_ble_eq_true rfl) rfl ?_
  refine ts_aload_n 1 (pc' := 12) rfl dX12_changes_11 rfl rfl ?_
  refine ts_iconst (v := 4) (pc' := 13) rfl dX12_changes_12 (by decide) ?_
  refine ts_bipush (v := 6) (pc' := 15) rfl dX12_changes_13 (by decide) ?_
  refine ts_iload_n 2 (pc' := 16) rfl dX12_changes_15 rfl rfl ?_
  refine ts_imul (pc' := 17) rfl dX12_changes_16 ?_
  refine ts_iadd (pc' := 18) rfl dX12_changes_17 ?_
  refine ts_iconst (v := 3) (pc' := 19) rfl dX12_changes_18 (by decide) ?_
  refine ts_iadd (pc' := 20) rfl dX12_changes_19 ?_
  refine ts_aload_n 1 (pc' := 21) rfl dX12_changes_20 rfl rfl ?_
  refine ts_iconst (v := 4) (pc' := 22) rfl dX12_changes_21 (by decide) ?_
  refine ts_bipush (v := 6) (pc' := 24) rfl dX12_changes_22 (by decide) ?_
  refine ts_iload_n 3 (pc' := 25) rfl dX12_changes_24 rfl rfl ?_
  refine ts_imul (pc' := 26) rfl dX12_changes_25 ?_
  refine ts_iadd (pc' := 27) rfl dX12_changes_26 ?_
  refine ts_iconst (v := 3) (pc' := 28) rfl dX12_changes_27 (by decide) ?_
  refine ts_iadd (pc' := 29) rfl dX12_changes_28 ?_
  obtain ⟨c3, W⟩ := W
  refine ts_iaload (pc' := 30) rfl dX12_changes_29 c1 c3 ?_
  refine ts_iastore (pc' := 31) rfl dX12_changes_30 c1 c2 ?_
  obtain ⟨hi4, ehi4⟩ : ∃ z, z = ts_up hi p0 ((4 + (6 * p1)) + 3).toNatClampNeg (hi p0 ((4 + (6 * p2)) + 3).toNatClampNeg) := ⟨_, rfl⟩
  rw [← ehi4]; replace W := W hi4 ehi4
  refine ts_aload_n 1 (pc' := 32) rfl dX12_changes_31 rfl rfl ?_
  refine ts_iconst (v := 4) (pc' := 33) rfl dX12_changes_32 (by decide) ?_
  refine ts_bipush (v := 6) (pc' := 35) rfl dX12_changes_33 (by decide) ?_
  refine ts_iload_n 3 (pc' := 36) rfl dX12_changes_35 rfl rfl ?_
  refine ts_imul (pc' := 37) rfl dX12_changes_36 ?_
  refine ts_iadd (pc' := 38) rfl dX12_changes_37 ?_
  refine ts_iconst (v := 3) (pc' := 39) rfl dX12_changes_38 (by decide) ?_
  refine ts_iadd (pc' := 40) rfl dX12_changes_39 ?_
  refine ts_iload_n 0 (pc' := 41) rfl dX12_changes_40 rfl rfl ?_
  refine ts_iastore (pc' := 42) rfl dX12_changes_41 c1 c3 ?_
  obtain ⟨hi5, ehi5⟩ : ∃ z, z = ts_up hi4 p0 ((4 + (6 * p2)) + 3).toNatClampNeg (hi p0 ((4 + (6 * p1)) + 3).toNatClampNeg) := ⟨_, rfl⟩
  rw [← ehi5]; replace W := W hi5 ehi5
  exact ts_vret dX12_changes_42 rfl (Nat.le_refl _) (Nat.le_refl _) ⟨rfl, rfl, W⟩
theorem hnX12_married_X12 : ∀ w ∈ u_ws RX12 TX12 25, w ∈ wsX12_married := by decide +kernel
theorem flX12_married_25 : Cond.fieldLink RX12 25 "TurnipSquiresModel" "now" "[I" ∈ wsX12_married := by decide +kernel
set_option maxHeartbeats 4000000 in
theorem wX12_married_0 {d : Nat} {g : ts_G} {Q : Int32 → ts_I → ts_K → Prop} {o : Nat} {hi : ts_I} {hk : ts_K} (W : ts_J0 d mX12_married (ts_qi Q) g 4 [(0, .ref o), (1, .int 0), (2, .int 0)] [] hi hk) : ts_J0 d mX12_married (ts_qi Q) g 0 [(0, .ref o)] [] hi hk := by
  refine ts_iconst (v := 0) (pc' := 1) rfl dX12_married_0 (by decide) ?_
  refine ts_istore_n (pc' := 2) (ls' := [(1, .int 0), (0, .ref o)]) rfl dX12_married_1 rfl (Nat.le_of_ble_eq_true rfl) rfl ?_
  refine ts_iconst (v := 0) (pc' := 3) rfl dX12_married_2 (by decide) ?_
  refine ts_istore_n (pc' := 4) (ls' := [(2, .int 0), (1, .int 0), (0, .ref o)]) rfl dX12_married_3 rfl (Nat.le_of_ble_eq_true rfl) rfl ?_
  exact ts_sub [2, 1, 0] rfl W
set_option maxHeartbeats 4000000 in
theorem wX12_married_4 {d : Nat} {g : ts_G} {Q : Int32 → ts_I → ts_K → Prop} {l0 : Nat} {l1 : Int32} {l2 : Int32} {hi : ts_I} {hk : ts_K} (W : (g.2.1 l0 = 11) ∧ (g.2.2.2 l0 13 ≠ 0) ∧ (g.2.1 (g.2.2.2 l0 13) = 100) ∧ (vp_in 2 (g.2.2.1 (g.2.2.2 l0 13))) ∧ (((hi (g.2.2.2 l0 13) (2 : Int32).toNatClampNeg) ≤ l2) → Q l1 hi hk) ∧ (¬ ((hi (g.2.2.2 l0 13) (2 : Int32).toNatClampNeg) ≤ l2) → (vp_in ((4 + (6 * l2)) + 5) (g.2.2.1 (g.2.2.2 l0 13))) ∧ (((hi (g.2.2.2 l0 13) ((4 + (6 * l2)) + 5).toNatClampNeg) ≠ (-1000000)) → ts_J0 d mX12_married (ts_qi Q) g 4 [(0, .ref l0), (1, .int (l1 + 1)), (2, .int (l2 + 1))] [] hi hk) ∧ (¬ ((hi (g.2.2.2 l0 13) ((4 + (6 * l2)) + 5).toNatClampNeg) ≠ (-1000000)) → ts_J0 d mX12_married (ts_qi Q) g 4 [(0, .ref l0), (1, .int (l1 + 0)), (2, .int (l2 + 1))] [] hi hk))) : ts_J0 d mX12_married (ts_qi Q) g 4 [(0, .ref l0), (1, .int l1), (2, .int l2)] [] hi hk := by
  refine ts_iload_n 2 (pc' := 5) rfl dX12_married_4 rfl rfl ?_
  refine ts_aload_n 0 (pc' := 6) rfl dX12_married_5 rfl rfl ?_
  obtain ⟨c1, W⟩ := W
  obtain ⟨c2, W⟩ := W
  refine ts_getR (pc' := 9) (ci := 11) 13 cfX12.1 cfX12.2.1 cfX12.2.2 rfl (by decide) hnX12_married_X12 flX12_married_25 rfl dX12_married_6 c1 c2 ?_
  refine ts_iconst (v := 2) (pc' := 10) rfl dX12_married_9 (by decide) ?_
  obtain ⟨c3, W⟩ := W
  obtain ⟨c4, W⟩ := W
  refine ts_iaload (pc' := 11) rfl dX12_married_10 c3 c4 ?_
  refine ts_icmp_ge (pc' := 14) (tgt := 46) rfl dX12_married_11 (by decide) (fun q5 => ?_) (fun q5 => ?_)
  · replace W := W.1 q5
    refine ts_iload_n 1 (pc' := 47) rfl dX12_married_46 rfl rfl ?_
    exact ts_iret dX12_married_47 rfl (Nat.le_refl _) (Nat.le_refl _) ⟨rfl, _, rfl, W⟩
  · replace W := W.2 q5
    refine ts_iload_n 1 (pc' := 15) rfl dX12_married_14 rfl rfl ?_
    refine ts_aload_n 0 (pc' := 16) rfl dX12_married_15 rfl rfl ?_
    refine ts_getR (pc' := 19) (ci := 11) 13 cfX12.1 cfX12.2.1 cfX12.2.2 rfl (by decide) hnX12_married_X12 flX12_married_25 rfl dX12_married_16 c1 c2 ?_
    refine ts_iconst (v := 4) (pc' := 20) rfl dX12_married_19 (by decide) ?_
    refine ts_bipush (v := 6) (pc' := 22) rfl dX12_married_20 (by decide) ?_
    refine ts_iload_n 2 (pc' := 23) rfl dX12_married_22 rfl rfl ?_
    refine ts_imul (pc' := 24) rfl dX12_married_23 ?_
    refine ts_iadd (pc' := 25) rfl dX12_married_24 ?_
    refine ts_iconst (v := 5) (pc' := 26) rfl dX12_married_25 (by decide) ?_
    refine ts_iadd (pc' := 27) rfl dX12_married_26 ?_
    obtain ⟨c6, W⟩ := W
    refine ts_iaload (pc' := 28) rfl dX12_married_27 c3 c6 ?_
    refine ts_ldc (v := (-1000000)) (pc' := 30) rfl dX12_married_28 (by decide +kernel) ?_
    refine ts_icmp_ne (pc' := 33) (tgt := 37) rfl dX12_married_30 (by decide) (fun q7 => ?_) (fun q7 => ?_)
    · replace W := W.1 q7
      refine ts_iconst (v := 1) (pc' := 38) rfl dX12_married_37 (by decide) ?_
      refine ts_iadd (pc' := 39) rfl dX12_married_38 ?_
      refine ts_istore_n (pc' := 40) (ls' := [(1, .int (l1 + 1)), (0, .ref l0), (2, .int l2)]) rfl dX12_married_39 rfl (Nat.le_of_ble_eq_true rfl) rfl ?_
      refine ts_iinc 2 (pc' := 43) (ls' := [(2, .int (l2 + 1)), (1, .int (l1 + 1)), (0, .ref l0)]) rfl dX12_married_40 rfl rfl (Nat.le_of_ble_eq_true rfl) rfl ?_
      refine ts_goto (tgt := 4) dX12_married_43 (by decide) ?_
      exact ts_sub [2, 1, 0] rfl W
    · replace W := W.2 q7
      refine ts_iconst (v := 0) (pc' := 34) rfl dX12_married_33 (by decide) ?_
      refine ts_goto (tgt := 38) dX12_married_34 (by decide) ?_
      refine ts_iadd (pc' := 39) rfl dX12_married_38 ?_
      refine ts_istore_n (pc' := 40) (ls' := [(1, .int (l1 + 0)), (0, .ref l0), (2, .int l2)]) rfl dX12_married_39 rfl (Nat.le_of_ble_eq_true rfl) rfl ?_
      refine ts_iinc 2 (pc' := 43) (ls' := [(2, .int (l2 + 1)), (1, .int (l1 + 0)), (0, .ref l0)]) rfl dX12_married_40 rfl rfl (Nat.le_of_ble_eq_true rfl) rfl ?_
      refine ts_goto (tgt := 4) dX12_married_43 (by decide) ?_
      exact ts_sub [2, 1, 0] rfl W
