theorem hnX1_votesOf_X1 : ∀ w ∈ u_ws RX1 TX1 13, w ∈ wsX1_votesOf := by decide +kernel
theorem flX1_votesOf_17 : Cond.fieldLink RX1 17 "TurnipSquires$Field" "rank" "[I" ∈ wsX1_votesOf := by decide +kernel
theorem flX1_votesOf_42 : Cond.fieldLink RX1 42 "TurnipSquires$Field" "count" "I" ∈ wsX1_votesOf := by decide +kernel
set_option maxHeartbeats 4000000 in
theorem wX1_votesOf_0 {d : Nat} {g : ts_G} {Q : Int32 → ts_I → ts_K → Prop} {o : Nat} {p0 : Int32} {hi : ts_I} {hk : ts_K} (W : ts_J0 d mX1_votesOf (ts_qi Q) g 4 [(0, .ref o), (1, .int p0), (2, .int 0), (3, .int 0)] [] hi hk) : ts_J0 d mX1_votesOf (ts_qi Q) g 0 [(0, .ref o), (1, .int p0)] [] hi hk := by
  refine ts_iconst (v := 0) (pc' := 1) rfl dX1_votesOf_0 (by decide) ?_
  refine ts_istore_n (pc' := 2) (ls' := [(2, .int 0), (0, .ref o), (1, .int p0)]) rfl dX1_votesOf_1 rfl (Nat.le_of_ble_eq_true rfl) rfl ?_
  refine ts_iconst (v := 0) (pc' := 3) rfl dX1_votesOf_2 (by decide) ?_
  refine ts_istore_n (pc' := 4) (ls' := [(3, .int 0), (2, .int 0), (0, .ref o), (1, .int p0)]) rfl dX1_votesOf_3 rfl (Nat.le_of_ble_eq_true rfl) rfl ?_
  exact ts_sub [2, 3, 1, 0] rfl W
set_option maxHeartbeats 4000000 in
theorem wX1_votesOf_4 {d : Nat} {g : ts_G} {Q : Int32 → ts_I → ts_K → Prop} {l0 : Nat} {l1 : Int32} {l2 : Int32} {l3 : Int32} {hi : ts_I} {hk : ts_K} (W : (g.2.1 l0 = 1) ∧ (((hi l0 9) ≤ l3) → Q l2 hi hk) ∧ (¬ ((hi l0 9) ≤ l3) → ((((l1 >>> (l3 &&& 31)) &&& 1) ≠ 1) → ts_J0 d mX1_votesOf (ts_qi Q) g 4 [(0, .ref l0), (1, .int l1), (2, .int l2), (3, .int (l3 + 1))] [] hi hk) ∧ (¬ (((l1 >>> (l3 &&& 31)) &&& 1) ≠ 1) → (g.2.2.2 l0 1 ≠ 0) ∧ (g.2.1 (g.2.2.2 l0 1) = 100) ∧ (vp_in l3 (g.2.2.1 (g.2.2.2 l0 1))) ∧ ts_J0 d mX1_votesOf (ts_qi Q) g 4 [(0, .ref l0), (1, .int l1), (2, .int (l2 + (hi (g.2.2.2 l0 1) l3.toNatClampNeg))), (3, .int (l3 + 1))] [] hi hk))) : ts_J0 d mX1_votesOf (ts_qi Q) g 4 [(0, .ref l0), (1, .int l1), (2, .int l2), (3, .int l3)] [] hi hk := by
  refine ts_iload_n 3 (pc' := 5) rfl dX1_votesOf_4 rfl rfl ?_
  refine ts_aload_n 0 (pc' := 6) rfl dX1_votesOf_5 rfl rfl ?_
  obtain ⟨c1, W⟩ := W
  refine ts_getI (pc' := 9) (ci := 1) 9 cfX1.1 cfX1.2.1 cfX1.2.2 rfl (by decide) hnX1_votesOf_X1 flX1_votesOf_42 rfl dX1_votesOf_6 c1 ?_
  refine ts_icmp_ge (pc' := 12) (tgt := 36) rfl dX1_votesOf_9 (by decide) (fun q2 => ?_) (fun q2 => ?_)
  · replace W := W.1 q2
    refine ts_iload_n 2 (pc' := 37) rfl dX1_votesOf_36 rfl rfl ?_
    exact ts_iret dX1_votesOf_37 rfl (Nat.le_refl _) (Nat.le_refl _) ⟨rfl, _, rfl, W⟩
  · replace W := W.2 q2
    refine ts_iload_n 1 (pc' := 13) rfl dX1_votesOf_12 rfl rfl ?_
    refine ts_iload_n 3 (pc' := 14) rfl dX1_votesOf_13 rfl rfl ?_
    refine ts_ishr (pc' := 15) rfl dX1_votesOf_14 ?_
    refine ts_iconst (v := 1) (pc' := 16) rfl dX1_votesOf_15 (by decide) ?_
    refine ts_iand (pc' := 17) rfl dX1_votesOf_16 ?_
    refine ts_iconst (v := 1) (pc' := 18) rfl dX1_votesOf_17 (by decide) ?_
    refine ts_icmp_ne (pc' := 21) (tgt := 30) rfl dX1_votesOf_18 (by decide) (fun q3 => ?_) (fun q3 => ?_)
    · replace W := W.1 q3
      refine ts_iinc 3 (pc' := 33) (ls' := [(3, .int (l3 + 1)), (0, .ref l0), (1, .int l1), (2, .int l2)]) rfl dX1_votesOf_30 rfl rfl (Nat.le_of_ble_eq_true rfl) rfl ?_
      refine ts_goto (tgt := 4) dX1_votesOf_33 (by decide) ?_
      exact ts_sub [1, 2, 3, 0] rfl W
    · replace W := W.2 q3
      refine ts_iload_n 2 (pc' := 22) rfl dX1_votesOf_21 rfl rfl ?_
      refine ts_aload_n 0 (pc' := 23) rfl dX1_votesOf_22 rfl rfl ?_
      obtain ⟨c4, W⟩ := W
      refine ts_getR (pc' := 26) (ci := 1) 1 cfX1.1 cfX1.2.1 cfX1.2.2 rfl (by decide) hnX1_votesOf_X1 flX1_votesOf_17 rfl dX1_votesOf_23 c1 c4 ?_
      refine ts_iload_n 3 (pc' := 27) rfl dX1_votesOf_26 rfl rfl ?_
      obtain ⟨c5, W⟩ := W
      obtain ⟨c6, W⟩ := W
      refine ts_iaload (pc' := 28) rfl dX1_votesOf_27 c5 c6 ?_
      refine ts_iadd (pc' := 29) rfl dX1_votesOf_28 ?_
      refine ts_istore_n (pc' := 30) (ls' := [(2, .int (l2 + (hi (g.2.2.2 l0 1) l3.toNatClampNeg))), (0, .ref l0), (1, .int l1), (3, .int l3)]) rfl dX1_votesOf_29 rfl (Nat.le_of_ble_eq_true rfl) rfl ?_
      refine ts_iinc 3 (pc' := 33) (ls' := [(3, .int (l3 + 1)), (2, .int (l2 + (hi (g.2.2.2 l0 1) l3.toNatClampNeg))), (0, .ref l0), (1, .int l1)]) rfl dX1_votesOf_30 rfl rfl (Nat.le_of_ble_eq_true rfl) rfl ?_
      refine ts_goto (tgt := 4) dX1_votesOf_33 (by decide) ?_
      exact ts_sub [2, 3, 1, 0] rfl W
set_option maxHeartbeats 4000000 in
theorem wX11_outside_0 {d : Nat} {g : ts_G} {Q : Int32 → ts_I → ts_K → Prop} {p0 : Int32} {p1 : Int32} {p2 : Int32} {hi : ts_I} {hk : ts_K} (W : ((p0 < p1) → Q 1 hi hk) ∧ (¬ (p0 < p1) → ((p0 ≤ p2) → Q 0 hi hk) ∧ (¬ (p0 ≤ p2) → Q 1 hi hk))) : ts_J0 d mX11_outside (ts_qi Q) g 0 [(0, .int p0), (1, .int p1), (2, .int p2)] [] hi hk := by
  refine ts_iload_n 0 (pc' := 1) rfl dX11_outside_0 rfl rfl ?_
  refine ts_iload_n 1 (pc' := 2) rfl dX11_outside_1 rfl rfl ?_
  refine ts_icmp_lt (pc' := 5) (tgt := 10) rfl dX11_outside_2 (by decide) (fun q1 => ?_) (fun q1 => ?_)
  · replace W := W.1 q1
    refine ts_iconst (v := 1) (pc' := 11) rfl dX11_outside_10 (by decide) ?_
    refine ts_goto (tgt := 15) dX11_outside_11 (by decide) ?_
    exact ts_zret dX11_outside_15 rfl (by decide) (Nat.le_refl _) (Nat.le_refl _) ⟨rfl, _, rfl, W⟩
  · replace W := W.2 q1
    refine ts_iload_n 0 (pc' := 6) rfl dX11_outside_5 rfl rfl ?_
    refine ts_iload_n 2 (pc' := 7) rfl dX11_outside_6 rfl rfl ?_
    refine ts_icmp_le (pc' := 10) (tgt := 14) rfl dX11_outside_7 (by decide) (fun q2 => ?_) (fun q2 => ?_)
    · replace W := W.1 q2
      refine ts_iconst (v := 0) (pc' := 15) rfl dX11_outside_14 (by decide) ?_
      exact ts_zret dX11_outside_15 rfl (by decide) (Nat.le_refl _) (Nat.le_refl _) ⟨rfl, _, rfl, W⟩
    · replace W := W.2 q2
      refine ts_iconst (v := 1) (pc' := 11) rfl dX11_outside_10 (by decide) ?_
      refine ts_goto (tgt := 15) dX11_outside_11 (by decide) ?_
      exact ts_zret dX11_outside_15 rfl (by decide) (Nat.le_refl _) (Nat.le_refl _) ⟨rfl, _, rfl, W⟩
theorem hnX1_allRanks_X1 : ∀ w ∈ u_ws RX1 TX1 13, w ∈ wsX1_allRanks := by decide +kernel
theorem flX1_allRanks_42 : Cond.fieldLink RX1 42 "TurnipSquires$Field" "count" "I" ∈ wsX1_allRanks := by decide +kernel
set_option maxHeartbeats 4000000 in
theorem wX1_allRanks_0 {d : Nat} {g : ts_G} {Q : Int32 → ts_I → ts_K → Prop} {o : Nat} {hi : ts_I} {hk : ts_K} (W : (g.2.1 o = 1) ∧ ts_E0 d mX1_votesOf [.ref o, .int ((1 <<< ((hi o 9) &&& 31)) - 1)] g hi hk (ts_qi (fun v4 hi2 hk3 => Q v4 hi2 hk3))) : ts_J0 (d + 1) mX1_allRanks (ts_qi Q) g 0 [(0, .ref o)] [] hi hk := by
  refine ts_aload_n 0 (pc' := 1) rfl dX1_allRanks_0 rfl rfl ?_
  refine ts_iconst (v := 1) (pc' := 2) rfl dX1_allRanks_1 (by decide) ?_
  refine ts_aload_n 0 (pc' := 3) rfl dX1_allRanks_2 rfl rfl ?_
  obtain ⟨c1, W⟩ := W
  refine ts_getI (pc' := 6) (ci := 1) 9 cfX1.1 cfX1.2.1 cfX1.2.2 rfl (by decide) hnX1_allRanks_X1 flX1_allRanks_42 rfl dX1_allRanks_3 c1 ?_
  refine ts_ishl (pc' := 7) rfl dX1_allRanks_6 ?_
  refine ts_iconst (v := 1) (pc' := 8) rfl dX1_allRanks_7 (by decide) ?_
  refine ts_isub (pc' := 9) rfl dX1_allRanks_8 ?_
  refine ts_callV (pc' := 12) (av := [.int ((1 <<< ((hi o 9) &&& 31)) - 1)]) (b := o) rfl dX1_allRanks_9 rfl gX1_allRanks_X1_votesOf rfl dvX1_votesOf rfl (ci := 1) cfX1.1 (by decide) c1 (Nat.le_refl _) (Nat.le_of_ble_eq_true rfl) (Nat.le_of_ble_eq_true rfl) (Nat.le_refl _) (Nat.le_refl _) ts_kv0 W (ts_kki fun v4 hi2 hk3 W => ?_)
  exact ts_iret dX1_allRanks_12 rfl (Nat.le_refl _) (Nat.le_refl _) ⟨rfl, _, rfl, W⟩
set_option maxHeartbeats 4000000 in
theorem wJ6_bitCount_0f7a4_0 {d : Nat} {g : ts_G} {Q : Int32 → ts_I → ts_K → Prop} {p0 : Int32} {hi : ts_I} {hk : ts_K} (W : Q ((((((((p0 - ((p0.toUInt32 >>> ((1 : Int32).toUInt32 &&& Int32.toUInt32 31)).toInt32 &&& 1431655765)) &&& 858993459) + (((p0 - ((p0.toUInt32 >>> ((1 : Int32).toUInt32 &&& Int32.toUInt32 31)).toInt32 &&& 1431655765)).toUInt32 >>> ((2 : Int32).toUInt32 &&& Int32.toUInt32 31)).toInt32 &&& 858993459)) + ((((p0 - ((p0.toUInt32 >>> ((1 : Int32).toUInt32 &&& Int32.toUInt32 31)).toInt32 &&& 1431655765)) &&& 858993459) + (((p0 - ((p0.toUInt32 >>> ((1 : Int32).toUInt32 &&& Int32.toUInt32 31)).toInt32 &&& 1431655765)).toUInt32 >>> ((2 : Int32).toUInt32 &&& Int32.toUInt32 31)).toInt32 &&& 858993459)).toUInt32 >>> ((4 : Int32).toUInt32 &&& Int32.toUInt32 31)).toInt32) &&& 252645135) + ((((((p0 - ((p0.toUInt32 >>> ((1 : Int32).toUInt32 &&& Int32.toUInt32 31)).toInt32 &&& 1431655765)) &&& 858993459) + (((p0 - ((p0.toUInt32 >>> ((1 : Int32).toUInt32 &&& Int32.toUInt32 31)).toInt32 &&& 1431655765)).toUInt32 >>> ((2 : Int32).toUInt32 &&& Int32.toUInt32 31)).toInt32 &&& 858993459)) + ((((p0 - ((p0.toUInt32 >>> ((1 : Int32).toUInt32 &&& Int32.toUInt32 31)).toInt32 &&& 1431655765)) &&& 858993459) + (((p0 - ((p0.toUInt32 >>> ((1 : Int32).toUInt32 &&& Int32.toUInt32 31)).toInt32 &&& 1431655765)).toUInt32 >>> ((2 : Int32).toUInt32 &&& Int32.toUInt32 31)).toInt32 &&& 858993459)).toUInt32 >>> ((4 : Int32).toUInt32 &&& Int32.toUInt32 31)).toInt32) &&& 252645135).toUInt32 >>> ((8 : Int32).toUInt32 &&& Int32.toUInt32 31)).toInt32) + (((((((p0 - ((p0.toUInt32 >>> ((1 : Int32).toUInt32 &&& Int32.toUInt32 31)).toInt32 &&& 1431655765)) &&& 858993459) + (((p0 - ((p0.toUInt32 >>> ((1 : Int32).toUInt32 &&& Int32.toUInt32 31)).toInt32 &&& 1431655765)).toUInt32 >>> ((2 : Int32).toUInt32 &&& Int32.toUInt32 31)).toInt32 &&& 858993459)) + ((((p0 - ((p0.toUInt32 >>> ((1 : Int32).toUInt32 &&& Int32.toUInt32 31)).toInt32 &&& 1431655765)) &&& 858993459) + (((p0 - ((p0.toUInt32 >>> ((1 : Int32).toUInt32 &&& Int32.toUInt32 31)).toInt32 &&& 1431655765)).toUInt32 >>> ((2 : Int32).toUInt32 &&& Int32.toUInt32 31)).toInt32 &&& 858993459)).toUInt32 >>> ((4 : Int32).toUInt32 &&& Int32.toUInt32 31)).toInt32) &&& 252645135) + ((((((p0 - ((p0.toUInt32 >>> ((1 : Int32).toUInt32 &&& Int32.toUInt32 31)).toInt32 &&& 1431655765)) &&& 858993459) + (((p0 - ((p0.toUInt32 >>> ((1 : Int32).toUInt32 &&& Int32.toUInt32 31)).toInt32 &&& 1431655765)).toUInt32 >>> ((2 : Int32).toUInt32 &&& Int32.toUInt32 31)).toInt32 &&& 858993459)) + ((((p0 - ((p0.toUInt32 >>> ((1 : Int32).toUInt32 &&& Int32.toUInt32 31)).toInt32 &&& 1431655765)) &&& 858993459) + (((p0 - ((p0.toUInt32 >>> ((1 : Int32).toUInt32 &&& Int32.toUInt32 31)).toInt32 &&& 1431655765)).toUInt32 >>> ((2 : Int32).toUInt32 &&& Int32.toUInt32 31)).toInt32 &&& 858993459)).toUInt32 >>> ((4 : Int32).toUInt32 &&& Int32.toUInt32 31)).toInt32) &&& 252645135).toUInt32 >>> ((8 : Int32).toUInt32 &&& Int32.toUInt32 31)).toInt32).toUInt32 >>> ((16 : Int32).toUInt32 &&& Int32.toUInt32 31)).toInt32) &&& 63) hi hk) : ts_J0 d mJ6_bitCount_0f7a4 (ts_qi Q) g 0 [(0, .int p0)] [] hi hk := by
  refine ts_iload_n 0 (pc' := 1) rfl dJ6_bitCount_0f7a4_0 rfl rfl ?_
  refine ts_iload_n 0 (pc' := 2) rfl dJ6_bitCount_0f7a4_1 rfl rfl ?_
  refine ts_iconst (v := 1) (pc' := 3) rfl dJ6_bitCount_0f7a4_2 (by decide) ?_
  refine ts_iushr (pc' := 4) rfl dJ6_bitCount_0f7a4_3 rfl ?_
  refine ts_ldcw (v := 1431655765) (pc' := 7) rfl dJ6_bitCount_0f7a4_4 (by decide +kernel) ?_
  refine ts_iand (pc' := 8) rfl dJ6_bitCount_0f7a4_7 ?_
  refine ts_isub (pc' := 9) rfl dJ6_bitCount_0f7a4_8 ?_
  refine ts_istore_n (pc' := 10) (ls' := [(0, .int (p0 - ((p0.toUInt32 >>> ((1 : Int32).toUInt32 &&& Int32.toUInt32 31)).toInt32 &&& 1431655765)))]) rfl dJ6_bitCount_0f7a4_9 rfl (Nat.le_of_ble_eq_true rfl) rfl ?_
  refine ts_iload_n 0 (pc' := 11) rfl dJ6_bitCount_0f7a4_10 rfl rfl ?_
  refine ts_ldcw (v := 858993459) (pc' := 14) rfl dJ6_bitCount_0f7a4_11 (by decide +kernel) ?_
  refine ts_iand (pc' := 15) rfl dJ6_bitCount_0f7a4_14 ?_
  refine ts_iload_n 0 (pc' := 16) rfl dJ6_bitCount_0f7a4_15 rfl rfl ?_
  refine ts_iconst (v := 2) (pc' := 17) rfl dJ6_bitCount_0f7a4_16 (by decide) ?_
  refine ts_iushr (pc' := 18) rfl dJ6_bitCount_0f7a4_17 rfl ?_
  refine ts_ldcw (v := 858993459) (pc' := 21) rfl dJ6_bitCount_0f7a4_18 (by decide +kernel) ?_
  refine ts_iand (pc' := 22) rfl dJ6_bitCount_0f7a4_21 ?_
  refine ts_iadd (pc' := 23) rfl dJ6_bitCount_0f7a4_22 ?_
  refine ts_istore_n (pc' := 24) (ls' := [(0, .int (((p0 - ((p0.toUInt32 >>> ((1 : Int32).toUInt32 &&& Int32.toUInt32 31)).toInt32 &&& 1431655765)) &&& 858993459) + (((p0 - ((p0.toUInt32 >>> ((1 : Int32).toUInt32 &&& Int32.toUInt32 31)).toInt32 &&& 1431655765)).toUInt32 >>> ((2 : Int32).toUInt32 &&& Int32.toUInt32 31)).toInt32 &&& 858993459)))]) rfl dJ6_bitCount_0f7a4_23 rfl (Nat.le_of_ble_eq_true rfl) rfl ?_
  refine ts_iload_n 0 (pc' := 25) rfl dJ6_bitCount_0f7a4_24 rfl rfl ?_
  refine ts_iload_n 0 (pc' := 26) rfl dJ6_bitCount_0f7a4_25 rfl rfl ?_
  refine ts_iconst (v := 4) (pc' := 27) rfl dJ6_bitCount_0f7a4_26 (by decide) ?_
  refine ts_iushr (pc' := 28) rfl dJ6_bitCount_0f7a4_27 rfl ?_
  refine ts_iadd (pc' := 29) rfl dJ6_bitCount_0f7a4_28 ?_
  refine ts_ldcw (v := 252645135) (pc' := 32) rfl dJ6_bitCount_0f7a4_29 (by decide +kernel) ?_
  refine ts_iand (pc' := 33) rfl dJ6_bitCount_0f7a4_32 ?_
  refine ts_istore_n (pc' := 34) (ls' := [(0, .int (((((p0 - ((p0.toUInt32 >>> ((1 : Int32).toUInt32 &&& Int32.toUInt32 31)).toInt32 &&& 1431655765)) &&& 858993459) + (((p0 - ((p0.toUInt32 >>> ((1 : Int32).toUInt32 &&& Int32.toUInt32 31)).toInt32 &&& 1431655765)).toUInt32 >>> ((2 : Int32).toUInt32 &&& Int32.toUInt32 31)).toInt32 &&& 858993459)) + ((((p0 - ((p0.toUInt32 >>> ((1 : Int32).toUInt32 &&& Int32.toUInt32 31)).toInt32 &&& 1431655765)) &&& 858993459) + (((p0 - ((p0.toUInt32 >>> ((1 : Int32).toUInt32 &&& Int32.toUInt32 31)).toInt32 &&& 1431655765)).toUInt32 >>> ((2 : Int32).toUInt32 &&& Int32.toUInt32 31)).toInt32 &&& 858993459)).toUInt32 >>> ((4 : Int32).toUInt32 &&& Int32.toUInt32 31)).toInt32) &&& 252645135))]) rfl dJ6_bitCount_0f7a4_33 rfl (Nat.le_of_ble_eq_true rfl) rfl ?_
  refine ts_iload_n 0 (pc' := 35) rfl dJ6_bitCount_0f7a4_34 rfl rfl ?_
  refine ts_iload_n 0 (pc' := 36) rfl dJ6_bitCount_0f7a4_35 rfl rfl ?_
  refine ts_bipush (v := 8) (pc' := 38) rfl dJ6_bitCount_0f7a4_36 (by decide) ?_
  refine ts_iushr (pc' := 39) rfl dJ6_bitCount_0f7a4_38 rfl ?_
  refine ts_iadd (pc' := 40) rfl dJ6_bitCount_0f7a4_39 ?_
  refine ts_istore_n (pc' := 41) (ls' := [(0, .int ((((((p0 - ((p0.toUInt32 >>> ((1 : Int32).toUInt32 &&& Int32.toUInt32 31)).toInt32 &&& 1431655765)) &&& 858993459) + (((p0 - ((p0.toUInt32 >>> ((1 : Int32).toUInt32 &&& Int32.toUInt32 31)).toInt32 &&& 1431655765)).toUInt32 >>> ((2 : Int32).toUInt32 &&& Int32.toUInt32 31)).toInt32 &&& 858993459)) + ((((p0 - ((p0.toUInt32 >>> ((1 : Int32).toUInt32 &&& Int32.toUInt32 31)).toInt32 &&& 1431655765)) &&& 858993459) + (((p0 - ((p0.toUInt32 >>> ((1 : Int32).toUInt32 &&& Int32.toUInt32 31)).toInt32 &&& 1431655765)).toUInt32 >>> ((2 : Int32).toUInt32 &&& Int32.toUInt32 31)).toInt32 &&& 858993459)).toUInt32 >>> ((4 : Int32).toUInt32 &&& Int32.toUInt32 31)).toInt32) &&& 252645135) + ((((((p0 - ((p0.toUInt32 >>> ((1 : Int32).toUInt32 &&& Int32.toUInt32 31)).toInt32 &&& 1431655765)) &&& 858993459) + (((p0 - ((p0.toUInt32 >>> ((1 : Int32).toUInt32 &&& Int32.toUInt32 31)).toInt32 &&& 1431655765)).toUInt32 >>> ((2 : Int32).toUInt32 &&& Int32.toUInt32 31)).toInt32 &&& 858993459)) + ((((p0 - ((p0.toUInt32 >>> ((1 : Int32).toUInt32 &&& Int32.toUInt32 31)).toInt32 &&& 1431655765)) &&& 858993459) + (((p0 - ((p0.toUInt32 >>> ((1 : Int32).toUInt32 &&& Int32.toUInt32 31)).toInt32 &&& 1431655765)).toUInt32 >>> ((2 : Int32).toUInt32 &&& Int32.toUInt32 31)).toInt32 &&& 858993459)).toUInt32 >>> ((4 : Int32).toUInt32 &&& Int32.toUInt32 31)).toInt32) &&& 252645135).toUInt32 >>> ((8 : Int32).toUInt32 &&& Int32.toUInt32 31)).toInt32))]) rfl dJ6_bitCount_0f7a4_40 rfl (Nat.le_of_ble_eq_true rfl) rfl ?_
  refine ts_iload_n 0 (pc' := 42) rfl dJ6_bitCount_0f7a4_41 rfl rfl ?_
  refine ts_iload_n 0 (pc' := 43) rfl dJ6_bitCount_0f7a4_42 rfl rfl ?_
  refine ts_bipush (v := 16) (pc' := 45) rfl dJ6_bitCount_0f7a4_43 (by decide) ?_
  refine ts_iushr (pc' := 46) rfl dJ6_bitCount_0f7a4_45 rfl ?_
  refine ts_iadd (pc' := 47) rfl dJ6_bitCount_0f7a4_46 ?_
  refine ts_istore_n (pc' := 48) (ls' := [(0, .int (((((((p0 - ((p0.toUInt32 >>> ((1 : Int32).toUInt32 &&& Int32.toUInt32 31)).toInt32 &&& 1431655765)) &&& 858993459) + (((p0 - ((p0.toUInt32 >>> ((1 : Int32).toUInt32 &&& Int32.toUInt32 31)).toInt32 &&& 1431655765)).toUInt32 >>> ((2 : Int32).toUInt32 &&& Int32.toUInt32 31)).toInt32 &&& 858993459)) + ((((p0 - ((p0.toUInt32 >>> ((1 : Int32).toUInt32 &&& Int32.toUInt32 31)).toInt32 &&& 1431655765)) &&& 858993459) + (((p0 - ((p0.toUInt32 >>> ((1 : Int32).toUInt32 &&& Int32.toUInt32 31)).toInt32 &&& 1431655765)).toUInt32 >>> ((2 : Int32).toUInt32 &&& Int32.toUInt32 31)).toInt32 &&& 858993459)).toUInt32 >>> ((4 : Int32).toUInt32 &&& Int32.toUInt32 31)).toInt32) &&& 252645135) + ((((((p0 - ((p0.toUInt32 >>> ((1 : Int32).toUInt32 &&& Int32.toUInt32 31)).toInt32 &&& 1431655765)) &&& 858993459) + (((p0 - ((p0.toUInt32 >>> ((1 : Int32).toUInt32 &&& Int32.toUInt32 31)).toInt32 &&& 1431655765)).toUInt32 >>> ((2 : Int32).toUInt32 &&& Int32.toUInt32 31)).toInt32 &&& 858993459)) + ((((p0 - ((p0.toUInt32 >>> ((1 : Int32).toUInt32 &&& Int32.toUInt32 31)).toInt32 &&& 1431655765)) &&& 858993459) + (((p0 - ((p0.toUInt32 >>> ((1 : Int32).toUInt32 &&& Int32.toUInt32 31)).toInt32 &&& 1431655765)).toUInt32 >>> ((2 : Int32).toUInt32 &&& Int32.toUInt32 31)).toInt32 &&& 858993459)).toUInt32 >>> ((4 : Int32).toUInt32 &&& Int32.toUInt32 31)).toInt32) &&& 252645135).toUInt32 >>> ((8 : Int32).toUInt32 &&& Int32.toUInt32 31)).toInt32) + (((((((p0 - ((p0.toUInt32 >>> ((1 : Int32).toUInt32 &&& Int32.toUInt32 31)).toInt32 &&& 1431655765)) &&& 858993459) + (((p0 - ((p0.toUInt32 >>> ((1 : Int32).toUInt32 &&& Int32.toUInt32 31)).toInt32 &&& 1431655765)).toUInt32 >>> ((2 : Int32).toUInt32 &&& Int32.toUInt32 31)).toInt32 &&& 858993459)) + ((((p0 - ((p0.toUInt32 >>> ((1 : Int32).toUInt32 &&& Int32.toUInt32 31)).toInt32 &&& 1431655765)) &&& 858993459) + (((p0 - ((p0.toUInt32 >>> ((1 : Int32).toUInt32 &&& Int32.toUInt32 31)).toInt32 &&& 1431655765)).toUInt32 >>> ((2 : Int32).toUInt32 &&& Int32.toUInt32 31)).toInt32 &&& 858993459)).toUInt32 >>> ((4 : Int32).toUInt32 &&& Int32.toUInt32 31)).toInt32) &&& 252645135) + ((((((p0 - ((p0.toUInt32 >>> ((1 : Int32).toUInt32 &&& Int32.toUInt32 31)).toInt32 &&& 1431655765)) &&& 858993459) + (((p0 - ((p0.toUInt32 >>> ((1 : Int32).toUInt32 &&& Int32.toUInt32 31)).toInt32 &&& 1431655765)).toUInt32 >>> ((2 : Int32).toUInt32 &&& Int32.toUInt32 31)).toInt32 &&& 858993459)) + ((((p0 - ((p0.toUInt32 >>> ((1 : Int32).toUInt32 &&& Int32.toUInt32 31)).toInt32 &&& 1431655765)) &&& 858993459) + (((p0 - ((p0.toUInt32 >>> ((1 : Int32).toUInt32 &&& Int32.toUInt32 31)).toInt32 &&& 1431655765)).toUInt32 >>> ((2 : Int32).toUInt32 &&& Int32.toUInt32 31)).toInt32 &&& 858993459)).toUInt32 >>> ((4 : Int32).toUInt32 &&& Int32.toUInt32 31)).toInt32) &&& 252645135).toUInt32 >>> ((8 : Int32).toUInt32 &&& Int32.toUInt32 31)).toInt32).toUInt32 >>> ((16 : Int32).toUInt32 &&& Int32.toUInt32 31)).toInt32))]) rfl dJ6_bitCount_0f7a4_47 rfl (Nat.le_of_ble_eq_true rfl) rfl ?_
  refine ts_iload_n 0 (pc' := 49) rfl dJ6_bitCount_0f7a4_48 rfl rfl ?_
  refine ts_bipush (v := 63) (pc' := 51) rfl dJ6_bitCount_0f7a4_49 (by decide) ?_
  refine ts_iand (pc' := 52) rfl dJ6_bitCount_0f7a4_51 ?_
  exact ts_iret dJ6_bitCount_0f7a4_52 rfl (Nat.le_refl _) (Nat.le_refl _) ⟨rfl, _, rfl, W⟩
set_option maxHeartbeats 4000000 in
theorem wJ7_fill_53178_0 {d : Nat} {g : ts_G} {Q : ts_I → ts_K → Prop} {p0 : Nat} {p1 : Int32} {hi : ts_I} {hk : ts_K} (W : (g.2.1 p0 = 100) ∧ ts_J0 d mJ7_fill_53178 (ts_qv Q) g 5 [(0, .ref p0), (1, .int p1), (2, .int 0), (3, .int (Int32.ofNat (g.2.2.1 p0)))] [] hi hk) : ts_J0 d mJ7_fill_53178 (ts_qv Q) g 0 [(0, .ref p0), (1, .int p1)] [] hi hk := by
  refine ts_iconst (v := 0) (pc' := 1) rfl dJ7_fill_53178_0 (by decide) ?_
  refine ts_istore_n (pc' := 2) (ls' := [(2, .int 0), (0, .ref p0), (1, .int p1)]) rfl dJ7_fill_53178_1 rfl (Nat.le_of_ble_eq_true rfl) rfl ?_
  refine ts_aload_n 1 (pc' := 3) rfl dJ7_fill_53178_2 rfl rfl ?_
  obtain ⟨c1, W⟩ := W
  refine ts_alen (pc' := 4) rfl dJ7_fill_53178_3 (Or.inl c1) rfl ?_
  refine ts_istore_n (pc' := 5) (ls' := [(3, .int (Int32.ofNat (g.2.2.1 p0))), (2, .int 0), (0, .ref p0), (1, .int p1)]) rfl dJ7_fill_53178_4 rfl (Nat.le_of_ble_eq_true rfl) rfl ?_
  exact ts_sub [2, 3, 1, 0] rfl W
set_option maxHeartbeats 4000000 in
theorem wJ7_fill_53178_5 {d : Nat} {g : ts_G} {Q : ts_I → ts_K → Prop} {l0 : Nat} {l1 : Int32} {l2 : Int32} {l3 : Int32} {hi : ts_I} {hk : ts_K} (W : ((l3 ≤ l2) → Q hi hk) ∧ (¬ (l3 ≤ l2) → (g.2.1 l0 = 100) ∧ (vp_in l2 (g.2.2.1 l0)) ∧ ∀ hi4 : ts_I, hi4 = ts_up hi l0 l2.toNatClampNeg l1 → ts_J0 d mJ7_fill_53178 (ts_qv Q) g 5 [(0, .ref l0), (1, .int l1), (2, .int (l2 + 1)), (3, .int l3)] [] hi4 hk)) : ts_J0 d mJ7_fill_53178 (ts_qv Q) g 5 [(0, .ref l0), (1, .int l1), (2, .int l2), (3, .int l3)] [] hi hk := by
  refine ts_iload_n 2 (pc' := 6) rfl dJ7_fill_53178_5 rfl rfl ?_
  refine ts_iload_n 3 (pc' := 7) rfl dJ7_fill_53178_6 rfl rfl ?_
  refine ts_icmp_ge (pc' := 10) (tgt := 20) rfl dJ7_fill_53178_7 (by decide) (fun q1 => ?_) (fun q1 => ?_)
  · replace W := W.1 q1
    exact ts_vret dJ7_fill_53178_20 rfl (Nat.le_refl _) (Nat.le_refl _) ⟨rfl, rfl, W⟩
  · replace W := W.2 q1
    refine ts_aload_n 0 (pc' := 11) rfl dJ7_fill_53178_10 rfl rfl ?_
    refine ts_iload_n 2 (pc' := 12) rfl dJ7_fill_53178_11 rfl rfl ?_
    refine ts_iload_n 1 (pc' := 13) rfl dJ7_fill_53178_12 rfl rfl ?_
    obtain ⟨c2, W⟩ := W
    obtain ⟨c3, W⟩ := W
    refine ts_iastore (pc' := 14) rfl dJ7_fill_53178_13 c2 c3 ?_
    obtain ⟨hi4, ehi4⟩ : ∃ z, z = ts_up hi l0 l2.toNatClampNeg l1 := ⟨_, rfl⟩
    rw [← ehi4]; replace W := W hi4 ehi4
    refine ts_iinc 2 (pc' := 17) (ls' := [(2, .int (l2 + 1)), (0, .ref l0), (1, .int l1), (3, .int l3)]) rfl dJ7_fill_53178_14 rfl rfl (Nat.le_of_ble_eq_true rfl) rfl ?_
    refine ts_goto (tgt := 5) dJ7_fill_53178_17 (by decide) ?_
    exact ts_sub [1, 2, 0, 3] rfl W
set_option maxHeartbeats 4000000 in
theorem wX2_isA_0 {d : Nat} {g : ts_G} {Q : Int32 → ts_I → ts_K → Prop} {o : Nat} {p0 : Int32} {hi : ts_I} {hk : ts_K} (W : (p0 = 1 → (g.2.1 o = 0 ∨ g.2.1 o = 2 ∨ g.2.1 o = 3 ∨ g.2.1 o = 4 ∨ g.2.1 o = 7) ∧ ((if g.2.1 o ∈ ([2, 3, 4] : List Nat) then (1 : Int32) else 0) = 0 ∨ (if g.2.1 o ∈ ([2, 3, 4] : List Nat) then (1 : Int32) else 0) = 1) ∧ Q (if g.2.1 o ∈ ([2, 3, 4] : List Nat) then (1 : Int32) else 0) hi hk) ∧ (p0 = 2 → (g.2.1 o = 0 ∨ g.2.1 o = 2 ∨ g.2.1 o = 3 ∨ g.2.1 o = 4 ∨ g.2.1 o = 7) ∧ ((if g.2.1 o ∈ ([2] : List Nat) then (1 : Int32) else 0) = 0 ∨ (if g.2.1 o ∈ ([2] : List Nat) then (1 : Int32) else 0) = 1) ∧ Q (if g.2.1 o ∈ ([2] : List Nat) then (1 : Int32) else 0) hi hk) ∧ (p0 = 3 → (g.2.1 o = 0 ∨ g.2.1 o = 2 ∨ g.2.1 o = 3 ∨ g.2.1 o = 4 ∨ g.2.1 o = 7) ∧ ((if g.2.1 o ∈ ([4] : List Nat) then (1 : Int32) else 0) = 0 ∨ (if g.2.1 o ∈ ([4] : List Nat) then (1 : Int32) else 0) = 1) ∧ Q (if g.2.1 o ∈ ([4] : List Nat) then (1 : Int32) else 0) hi hk) ∧ (p0 = 4 → (g.2.1 o = 0 ∨ g.2.1 o = 2 ∨ g.2.1 o = 3 ∨ g.2.1 o = 4 ∨ g.2.1 o = 7) ∧ ((if g.2.1 o ∈ ([0, 7] : List Nat) then (1 : Int32) else 0) = 0 ∨ (if g.2.1 o ∈ ([0, 7] : List Nat) then (1 : Int32) else 0) = 1) ∧ Q (if g.2.1 o ∈ ([0, 7] : List Nat) then (1 : Int32) else 0) hi hk) ∧ (p0 = 5 → (g.2.1 o = 0 ∨ g.2.1 o = 2 ∨ g.2.1 o = 3 ∨ g.2.1 o = 4 ∨ g.2.1 o = 7) ∧ ((if g.2.1 o ∈ ([7] : List Nat) then (1 : Int32) else 0) = 0 ∨ (if g.2.1 o ∈ ([7] : List Nat) then (1 : Int32) else 0) = 1) ∧ Q (if g.2.1 o ∈ ([7] : List Nat) then (1 : Int32) else 0) hi hk) ∧ (¬ p0 = 1 → ¬ p0 = 2 → ¬ p0 = 3 → ¬ p0 = 4 → ¬ p0 = 5 → ((p0 ≠ 0) → Q 0 hi hk) ∧ (¬ (p0 ≠ 0) → Q 1 hi hk))) : ts_J0 d mX2_isA (ts_qi Q) g 0 [(0, .ref o), (1, .int p0)] [] hi hk := by
  refine ts_iload_n 1 (pc' := 1) rfl dX2_isA_0 rfl rfl ?_
  by_cases q1 : p0 = 1
  · replace W := W.1 q1
    refine ts_tableI (i := 1) (off := 35) (tgt := 36) dX2_isA_1 (by rw [q1]; rfl) (by decide) (by decide) rfl (by decide) ?_
    refine ts_aload_n 0 (pc' := 37) rfl dX2_isA_36 rfl rfl ?_
    obtain ⟨c2, W⟩ := W
    refine ts_instX4 (pc' := 40) rfl dX2_isA_37 (by decide +kernel) c2 ?_
    obtain ⟨c3, W⟩ := W
    exact ts_zret dX2_isA_40 rfl c3 (Nat.le_refl _) (Nat.le_refl _) ⟨rfl, _, rfl, W⟩
  replace W := W.2
  by_cases q4 : p0 = 2
  · replace W := W.1 q4
    refine ts_tableI (i := 2) (off := 40) (tgt := 41) dX2_isA_1 (by rw [q4]; rfl) (by decide) (by decide) rfl (by decide) ?_
    refine ts_aload_n 0 (pc' := 42) rfl dX2_isA_41 rfl rfl ?_
    obtain ⟨c5, W⟩ := W
    refine ts_instX3 (pc' := 45) rfl dX2_isA_42 (by decide +kernel) c5 ?_
    obtain ⟨c6, W⟩ := W
    exact ts_zret dX2_isA_45 rfl c6 (Nat.le_refl _) (Nat.le_refl _) ⟨rfl, _, rfl, W⟩
  replace W := W.2
  by_cases q7 : p0 = 3
  · replace W := W.1 q7
    refine ts_tableI (i := 3) (off := 45) (tgt := 46) dX2_isA_1 (by rw [q7]; rfl) (by decide) (by decide) rfl (by decide) ?_
    refine ts_aload_n 0 (pc' := 47) rfl dX2_isA_46 rfl rfl ?_
    obtain ⟨c8, W⟩ := W
    refine ts_instX5 (pc' := 50) rfl dX2_isA_47 (by decide +kernel) c8 ?_
    obtain ⟨c9, W⟩ := W
    exact ts_zret dX2_isA_50 rfl c9 (Nat.le_refl _) (Nat.le_refl _) ⟨rfl, _, rfl, W⟩
  replace W := W.2
  by_cases q10 : p0 = 4
  · replace W := W.1 q10
    refine ts_tableI (i := 4) (off := 50) (tgt := 51) dX2_isA_1 (by rw [q10]; rfl) (by decide) (by decide) rfl (by decide) ?_
    refine ts_aload_n 0 (pc' := 52) rfl dX2_isA_51 rfl rfl ?_
    obtain ⟨c11, W⟩ := W
    refine ts_instX0 (pc' := 55) rfl dX2_isA_52 (by decide +kernel) c11 ?_
    obtain ⟨c12, W⟩ := W
    exact ts_zret dX2_isA_55 rfl c12 (Nat.le_refl _) (Nat.le_refl _) ⟨rfl, _, rfl, W⟩
  replace W := W.2
  by_cases q13 : p0 = 5
  · replace W := W.1 q13
    refine ts_tableI (i := 5) (off := 55) (tgt := 56) dX2_isA_1 (by rw [q13]; rfl) (by decide) (by decide) rfl (by decide) ?_
    refine ts_aload_n 0 (pc' := 57) rfl dX2_isA_56 rfl rfl ?_
    obtain ⟨c14, W⟩ := W
    refine ts_instX8 (pc' := 60) rfl dX2_isA_57 (by decide +kernel) c14 ?_
    obtain ⟨c15, W⟩ := W
    exact ts_zret dX2_isA_60 rfl c15 (Nat.le_refl _) (Nat.le_refl _) ⟨rfl, _, rfl, W⟩
  replace W := W.2
  replace W := W q1 q4 q7 q10 q13
  refine ts_tableO (tgt := 61) dX2_isA_1 (ts_swout (lo := 1) (n := 5) (by decide) (by decide) (by intro i hi0; have h0 : i = 0 ∨ i = 1 ∨ i = 2 ∨ i = 3 ∨ i = 4 := by omega; rcases h0 with rfl | rfl | rfl | rfl | rfl
    · exact q1
    · exact q4
    · exact q7
    · exact q10
    · exact q13)) (by decide) ?_
  refine ts_iload_n 1 (pc' := 62) rfl dX2_isA_61 rfl rfl ?_
  refine ts_if_ne (pc' := 65) (tgt := 69) rfl dX2_isA_62 (by decide) (fun q16 => ?_) (fun q16 => ?_)
  · replace W := W.1 q16
    refine ts_iconst (v := 0) (pc' := 70) rfl dX2_isA_69 (by decide) ?_
    exact ts_zret dX2_isA_70 rfl (by decide) (Nat.le_refl _) (Nat.le_refl _) ⟨rfl, _, rfl, W⟩
  · replace W := W.2 q16
    refine ts_iconst (v := 1) (pc' := 66) rfl dX2_isA_65 (by decide) ?_
    refine ts_goto (tgt := 70) dX2_isA_66 (by decide) ?_
    exact ts_zret dX2_isA_70 rfl (by decide) (Nat.le_refl _) (Nat.le_refl _) ⟨rfl, _, rfl, W⟩
theorem hnX9_readNumber_X9 : ∀ w ∈ u_ws RX9 TX9 5, w ∈ wsX9_readNumber := by decide +kernel
theorem flX9_readNumber_19 : Cond.fieldLink RX9 19 "TurnipSquires$Tape" "at" "I" ∈ wsX9_readNumber := by decide +kernel
theorem flX9_readNumber_43 : Cond.fieldLink RX9 43 "TurnipSquires$Tape" "number" "I" ∈ wsX9_readNumber := by decide +kernel
set_option maxHeartbeats 4000000 in
theorem wX9_readNumber_0 {d : Nat} {g : ts_G} {Q : Int32 → ts_I → ts_K → Prop} {o : Nat} {p0 : Int32} {p1 : Int32} {hi : ts_I} {hk : ts_K} (W : ts_J0 (d + 1) mX9_readNumber (ts_qi Q) g 5 [(0, .ref o), (1, .int p0), (2, .int p1), (3, .int 0), (4, .int 0)] [] hi hk) : ts_J0 (d + 1) mX9_readNumber (ts_qi Q) g 0 [(0, .ref o), (1, .int p0), (2, .int p1)] [] hi hk := by
  refine ts_iconst (v := 0) (pc' := 1) rfl dX9_readNumber_0 (by decide) ?_
  refine ts_istore_n (pc' := 2) (ls' := [(3, .int 0), (0, .ref o), (1, .int p0), (2, .int p1)]) rfl dX9_readNumber_1 rfl (Nat.le_of_ble_eq_true rfl) rfl ?_
  refine ts_iconst (v := 0) (pc' := 3) rfl dX9_readNumber_2 (by decide) ?_
  refine ts_istore (pc' := 5) (ls' := [(4, .int 0), (3, .int 0), (0, .ref o), (1, .int p0), (2, .int p1)]) rfl dX9_readNumber_3 (Nat.le_of_ble_eq_true rfl) rfl ?_
  exact ts_sub [2, 3, 4, 1, 0] rfl W
set_option maxHeartbeats 4000000 in
theorem wX9_readNumber_5 {d : Nat} {g : ts_G} {Q : Int32 → ts_I → ts_K → Prop} {l0 : Nat} {l1 : Int32} {l2 : Int32} {l3 : Int32} {l4 : Int32} {hi : ts_I} {hk : ts_K} (W : ((3 ≤ l3) → ((l3 = 0) → (g.2.1 l0 = 8) ∧ ts_E0 d mX9_failed [.ref l0, .int 1] g hi hk (ts_qi (fun v5 hi3 hk4 => (v5 = 0 ∨ v5 = 1) ∧ Q v5 hi3 hk4))) ∧ (¬ (l3 = 0) → ((l3 ≤ 2) → ts_E0 d mX11_outside [.int l4, .int l1, .int l2] g hi hk (ts_qi (fun v11 hi9 hk10 => ((v11 = 0) → (g.2.1 l0 = 8) ∧ ∀ hi14 : ts_I, hi14 = ts_up hi9 l0 4 l4 → ∀ hi15 : ts_I, hi15 = ts_up hi14 l0 2 ((hi14 l0 2) + l3) → Q 1 hi15 hk10) ∧ (¬ (v11 = 0) → (g.2.1 l0 = 8) ∧ ts_E0 d mX9_failed [.ref l0, .int 2] g hi9 hk10 (ts_qi (fun v18 hi16 hk17 => (v18 = 0 ∨ v18 = 1) ∧ Q v18 hi16 hk17)))))) ∧ (¬ (l3 ≤ 2) → (g.2.1 l0 = 8) ∧ ts_E0 d mX9_failed [.ref l0, .int 1] g hi hk (ts_qi (fun v23 hi21 hk22 => (v23 = 0 ∨ v23 = 1) ∧ Q v23 hi21 hk22))))) ∧ (¬ (3 ≤ l3) → (g.2.1 l0 = 8) ∧ ts_E0 d mX9_byteAt [.ref l0, .int ((hi l0 2) + l3)] g hi hk (ts_qi (fun v29 hi27 hk28 => ts_E0 d mX9_isFigure [.int v29] g hi27 hk28 (ts_qi (fun v32 hi30 hk31 => ((v32 = 0) → ((l3 = 0) → ts_E0 d mX9_failed [.ref l0, .int 1] g hi30 hk31 (ts_qi (fun v37 hi35 hk36 => (v37 = 0 ∨ v37 = 1) ∧ Q v37 hi35 hk36))) ∧ (¬ (l3 = 0) → ((l3 ≤ 2) → ts_E0 d mX11_outside [.int l4, .int l1, .int l2] g hi30 hk31 (ts_qi (fun v42 hi40 hk41 => ((v42 = 0) → ∀ hi44 : ts_I, hi44 = ts_up hi40 l0 4 l4 → ∀ hi45 : ts_I, hi45 = ts_up hi44 l0 2 ((hi44 l0 2) + l3) → Q 1 hi45 hk41) ∧ (¬ (v42 = 0) → ts_E0 d mX9_failed [.ref l0, .int 2] g hi40 hk41 (ts_qi (fun v48 hi46 hk47 => (v48 = 0 ∨ v48 = 1) ∧ Q v48 hi46 hk47)))))) ∧ (¬ (l3 ≤ 2) → ts_E0 d mX9_failed [.ref l0, .int 1] g hi30 hk31 (ts_qi (fun v52 hi50 hk51 => (v52 = 0 ∨ v52 = 1) ∧ Q v52 hi50 hk51))))) ∧ (¬ (v32 = 0) → ts_E0 d mX9_byteAt [.ref l0, .int ((hi30 l0 2) + l3)] g hi30 hk31 (ts_qi (fun v56 hi54 hk55 => ts_J0 (d + 1) mX9_readNumber (ts_qi Q) g 5 [(0, .ref l0), (1, .int l1), (2, .int l2), (3, .int (l3 + 1)), (4, .int (((10 * l4) + v56) - 48))] [] hi54 hk55))))))))) : ts_J0 (d + 1) mX9_readNumber (ts_qi Q) g 5 [(0, .ref l0), (1, .int l1), (2, .int l2), (3, .int l3), (4, .int l4)] [] hi hk := by
  refine ts_iload_n 3 (pc' := 6) rfl dX9_readNumber_5 rfl rfl ?_
  refine ts_iconst (v := 3) (pc' := 7) rfl dX9_readNumber_6 (by decide) ?_
  refine ts_icmp_ge (pc' := 10) (tgt := 53) rfl dX9_readNumber_7 (by decide) (fun q1 => ?_) (fun q1 => ?_)
  · replace W := W.1 q1
    refine ts_iload_n 3 (pc' := 54) rfl dX9_readNumber_53 rfl rfl ?_
    refine ts_if_eq (pc' := 57) (tgt := 62) rfl dX9_readNumber_54 (by decide) (fun q2 => ?_) (fun q2 => ?_)
    · replace W := W.1 q2
      refine ts_aload_n 0 (pc' := 63) rfl dX9_readNumber_62 rfl rfl ?_
      refine ts_iconst (v := 1) (pc' := 64) rfl dX9_readNumber_63 (by decide) ?_
      obtain ⟨c6, W⟩ := W
      refine ts_callV (pc' := 67) (av := [.int 1]) (b := l0) rfl dX9_readNumber_64 rfl gX9_readNumber_X9_failed rfl dvX9_failed rfl (ci := 8) cfX9.1 (by decide) c6 (Nat.le_refl _) (Nat.le_of_ble_eq_true rfl) (Nat.le_of_ble_eq_true rfl) (Nat.le_refl _) (Nat.le_refl _) ts_kv0 W (ts_kki fun v5 hi3 hk4 W => ?_)
      obtain ⟨c7, W⟩ := W
      exact ts_zret dX9_readNumber_67 rfl c7 (Nat.le_refl _) (Nat.le_refl _) ⟨rfl, _, rfl, W⟩
    · replace W := W.2 q2
      refine ts_iload_n 3 (pc' := 58) rfl dX9_readNumber_57 rfl rfl ?_
      refine ts_iconst (v := 2) (pc' := 59) rfl dX9_readNumber_58 (by decide) ?_
      refine ts_icmp_le (pc' := 62) (tgt := 68) rfl dX9_readNumber_59 (by decide) (fun q8 => ?_) (fun q8 => ?_)
      · replace W := W.1 q8
        refine ts_iload 4 (pc' := 70) rfl dX9_readNumber_68 rfl ?_
        refine ts_iload_n 1 (pc' := 71) rfl dX9_readNumber_70 rfl rfl ?_
        refine ts_iload_n 2 (pc' := 72) rfl dX9_readNumber_71 rfl rfl ?_
        refine ts_callSN (pc' := 75) (av := [.int l4, .int l1, .int l2]) rfl dX9_readNumber_72 rfl gX9_readNumber_X11_outside_n81 rfl (host := RX11) (by decide +kernel) (by decide +kernel) (by decide +kernel) dsX11_outside rfl (Nat.le_refl _) (Nat.le_of_ble_eq_true rfl) (Nat.le_of_ble_eq_true rfl) (Nat.le_refl _) (Nat.le_refl _) ts_kv0 W (ts_kki fun v11 hi9 hk10 W => ?_)
        refine ts_if_eq (pc' := 78) (tgt := 84) rfl dX9_readNumber_75 (by decide) (fun q12 => ?_) (fun q12 => ?_)
        · replace W := W.1 q12
          refine ts_aload_n 0 (pc' := 85) rfl dX9_readNumber_84 rfl rfl ?_
          refine ts_iload 4 (pc' := 87) rfl dX9_readNumber_85 rfl ?_
          obtain ⟨c13, W⟩ := W
          refine ts_putI (pc' := 90) (ci := 8) 4 cfX9.1 cfX9.2.1 cfX9.2.2 rfl (by decide) hnX9_readNumber_X9 flX9_readNumber_43 tyX9_ok nmX9 rfl rfl rfl dX9_readNumber_87 c13 ?_
          obtain ⟨hi14, ehi14⟩ : ∃ z, z = ts_up hi9 l0 4 l4 := ⟨_, rfl⟩
          rw [← ehi14]; replace W := W hi14 ehi14
          refine ts_aload_n 0 (pc' := 91) rfl dX9_readNumber_90 rfl rfl ?_
          refine ts_dup (pc' := 92) rfl dX9_readNumber_91 rfl ?_
          refine ts_getI (pc' := 95) (ci := 8) 2 cfX9.1 cfX9.2.1 cfX9.2.2 rfl (by decide) hnX9_readNumber_X9 flX9_readNumber_19 rfl dX9_readNumber_92 c13 ?_
          refine ts_iload_n 3 (pc' := 96) rfl dX9_readNumber_95 rfl rfl ?_
          refine ts_iadd (pc' := 97) rfl dX9_readNumber_96 ?_
          refine ts_putI (pc' := 100) (ci := 8) 2 cfX9.1 cfX9.2.1 cfX9.2.2 rfl (by decide) hnX9_readNumber_X9 flX9_readNumber_19 tyX9_ok nmX9 rfl rfl rfl dX9_readNumber_97 c13 ?_
          obtain ⟨hi15, ehi15⟩ : ∃ z, z = ts_up hi14 l0 2 ((hi14 l0 2) + l3) := ⟨_, rfl⟩
          rw [← ehi15]; replace W := W hi15 ehi15
          refine ts_iconst (v := 1) (pc' := 101) rfl dX9_readNumber_100 (by decide) ?_
          exact ts_zret dX9_readNumber_101 rfl (by decide) (Nat.le_refl _) (Nat.le_refl _) ⟨rfl, _, rfl, W⟩
        · replace W := W.2 q12
          refine ts_aload_n 0 (pc' := 79) rfl dX9_readNumber_78 rfl rfl ?_
          refine ts_iconst (v := 2) (pc' := 80) rfl dX9_readNumber_79 (by decide) ?_
          obtain ⟨c19, W⟩ := W
          refine ts_callV (pc' := 83) (av := [.int 2]) (b := l0) rfl dX9_readNumber_80 rfl gX9_readNumber_X9_failed rfl dvX9_failed rfl (ci := 8) cfX9.1 (by decide) c19 (Nat.le_refl _) (Nat.le_of_ble_eq_true rfl) (Nat.le_of_ble_eq_true rfl) (Nat.le_refl _) (Nat.le_refl _) ts_kv0 W (ts_kki fun v18 hi16 hk17 W => ?_)
          obtain ⟨c20, W⟩ := W
          exact ts_zret dX9_readNumber_83 rfl c20 (Nat.le_refl _) (Nat.le_refl _) ⟨rfl, _, rfl, W⟩
      · replace W := W.2 q8
        refine ts_aload_n 0 (pc' := 63) rfl dX9_readNumber_62 rfl rfl ?_
        refine ts_iconst (v := 1) (pc' := 64) rfl dX9_readNumber_63 (by decide) ?_
        obtain ⟨c24, W⟩ := W
        refine ts_callV (pc' := 67) (av := [.int 1]) (b := l0) rfl dX9_readNumber_64 rfl gX9_readNumber_X9_failed rfl dvX9_failed rfl (ci := 8) cfX9.1 (by decide) c24 (Nat.le_refl _) (Nat.le_of_ble_eq_true rfl) (Nat.le_of_ble_eq_true rfl) (Nat.le_refl _) (Nat.le_refl _) ts_kv0 W (ts_kki fun v23 hi21 hk22 W => ?_)
        obtain ⟨c25, W⟩ := W
        exact ts_zret dX9_readNumber_67 rfl c25 (Nat.le_refl _) (Nat.le_refl _) ⟨rfl, _, rfl, W⟩
  · replace W := W.2 q1
    refine ts_aload_n 0 (pc' := 11) rfl dX9_readNumber_10 rfl rfl ?_
    refine ts_aload_n 0 (pc' := 12) rfl dX9_readNumber_11 rfl rfl ?_
    obtain ⟨c26, W⟩ := W
    refine ts_getI (pc' := 15) (ci := 8) 2 cfX9.1 cfX9.2.1 cfX9.2.2 rfl (by decide) hnX9_readNumber_X9 flX9_readNumber_19 rfl dX9_readNumber_12 c26 ?_
    refine ts_iload_n 3 (pc' := 16) rfl dX9_readNumber_15 rfl rfl ?_
    refine ts_iadd (pc' := 17) rfl dX9_readNumber_16 ?_
    refine ts_callV (pc' := 20) (av := [.int ((hi l0 2) + l3)]) (b := l0) rfl dX9_readNumber_17 rfl gX9_readNumber_X9_byteAt rfl dvX9_byteAt rfl (ci := 8) cfX9.1 (by decide) c26 (Nat.le_refl _) (Nat.le_of_ble_eq_true rfl) (Nat.le_of_ble_eq_true rfl) (Nat.le_refl _) (Nat.le_refl _) ts_kv0 W (ts_kki fun v29 hi27 hk28 W => ?_)
    refine ts_callS (pc' := 23) (av := [.int v29]) rfl dX9_readNumber_20 rfl gX9_readNumber_X9_isFigure rfl dsX9_isFigure rfl (Nat.le_refl _) (Nat.le_of_ble_eq_true rfl) (Nat.le_of_ble_eq_true rfl) (Nat.le_refl _) (Nat.le_refl _) ts_kv0 W (ts_kki fun v32 hi30 hk31 W => ?_)
    refine ts_if_eq (pc' := 26) (tgt := 53) rfl dX9_readNumber_23 (by decide) (fun q33 => ?_) (fun q33 => ?_)
    · replace W := W.1 q33
      refine ts_iload_n 3 (pc' := 54) rfl dX9_readNumber_53 rfl rfl ?_
      refine ts_if_eq (pc' := 57) (tgt := 62) rfl dX9_readNumber_54 (by decide) (fun q34 => ?_) (fun q34 => ?_)
      · replace W := W.1 q34
        refine ts_aload_n 0 (pc' := 63) rfl dX9_readNumber_62 rfl rfl ?_
        refine ts_iconst (v := 1) (pc' := 64) rfl dX9_readNumber_63 (by decide) ?_
        refine ts_callV (pc' := 67) (av := [.int 1]) (b := l0) rfl dX9_readNumber_64 rfl gX9_readNumber_X9_failed rfl dvX9_failed rfl (ci := 8) cfX9.1 (by decide) c26 (Nat.le_refl _) (Nat.le_of_ble_eq_true rfl) (Nat.le_of_ble_eq_true rfl) (Nat.le_refl _) (Nat.le_refl _) ts_kv0 W (ts_kki fun v37 hi35 hk36 W => ?_)
        obtain ⟨c38, W⟩ := W
        exact ts_zret dX9_readNumber_67 rfl c38 (Nat.le_refl _) (Nat.le_refl _) ⟨rfl, _, rfl, W⟩
      · replace W := W.2 q34
        refine ts_iload_n 3 (pc' := 58) rfl dX9_readNumber_57 rfl rfl ?_
        refine ts_iconst (v := 2) (pc' := 59) rfl dX9_readNumber_58 (by decide) ?_
        refine ts_icmp_le (pc' := 62) (tgt := 68) rfl dX9_readNumber_59 (by decide) (fun q39 => ?_) (fun q39 => ?_)
        · replace W := W.1 q39
          refine ts_iload 4 (pc' := 70) rfl dX9_readNumber_68 rfl ?_
          refine ts_iload_n 1 (pc' := 71) rfl dX9_readNumber_70 rfl rfl ?_
          refine ts_iload_n 2 (pc' := 72) rfl dX9_readNumber_71 rfl rfl ?_
          refine ts_callSN (pc' := 75) (av := [.int l4, .int l1, .int l2]) rfl dX9_readNumber_72 rfl gX9_readNumber_X11_outside_n81 rfl (host := RX11) (by decide +kernel) (by decide +kernel) (by decide +kernel) dsX11_outside rfl (Nat.le_refl _) (Nat.le_of_ble_eq_true rfl) (Nat.le_of_ble_eq_true rfl) (Nat.le_refl _) (Nat.le_refl _) ts_kv0 W (ts_kki fun v42 hi40 hk41 W => ?_)
          refine ts_if_eq (pc' := 78) (tgt := 84) rfl dX9_readNumber_75 (by decide) (fun q43 => ?_) (fun q43 => ?_)
          · replace W := W.1 q43
            refine ts_aload_n 0 (pc' := 85) rfl dX9_readNumber_84 rfl rfl ?_
            refine ts_iload 4 (pc' := 87) rfl dX9_readNumber_85 rfl ?_
            refine ts_putI (pc' := 90) (ci := 8) 4 cfX9.1 cfX9.2.1 cfX9.2.2 rfl (by decide) hnX9_readNumber_X9 flX9_readNumber_43 tyX9_ok nmX9 rfl rfl rfl dX9_readNumber_87 c26 ?_
            obtain ⟨hi44, ehi44⟩ : ∃ z, z = ts_up hi40 l0 4 l4 := ⟨_, rfl⟩
            rw [← ehi44]; replace W := W hi44 ehi44
            refine ts_aload_n 0 (pc' := 91) rfl dX9_readNumber_90 rfl rfl ?_
            refine ts_dup (pc' := 92) rfl dX9_readNumber_91 rfl ?_
            refine ts_getI (pc' := 95) (ci := 8) 2 cfX9.1 cfX9.2.1 cfX9.2.2 rfl (by decide) hnX9_readNumber_X9 flX9_readNumber_19 rfl dX9_readNumber_92 c26 ?_
            refine ts_iload_n 3 (pc' := 96) rfl dX9_readNumber_95 rfl rfl ?_
            refine ts_iadd (pc' := 97) rfl dX9_readNumber_96 ?_
            refine ts_putI (pc' := 100) (ci := 8) 2 cfX9.1 cfX9.2.1 cfX9.2.2 rfl (by decide) hnX9_readNumber_X9 flX9_readNumber_19 tyX9_ok nmX9 rfl rfl rfl dX9_readNumber_97 c26 ?_
            obtain ⟨hi45, ehi45⟩ : ∃ z, z = ts_up hi44 l0 2 ((hi44 l0 2) + l3) := ⟨_, rfl⟩
            rw [← ehi45]; replace W := W hi45 ehi45
            refine ts_iconst (v := 1) (pc' := 101) rfl dX9_readNumber_100 (by decide) ?_
            exact ts_zret dX9_readNumber_101 rfl (by decide) (Nat.le_refl _) (Nat.le_refl _) ⟨rfl, _, rfl, W⟩
          · replace W := W.2 q43
            refine ts_aload_n 0 (pc' := 79) rfl dX9_readNumber_78 rfl rfl ?_
            refine ts_iconst (v := 2) (pc' := 80) rfl dX9_readNumber_79 (by decide) ?_
            refine ts_callV (pc' := 83) (av := [.int 2]) (b := l0) rfl dX9_readNumber_80 rfl gX9_readNumber_X9_failed rfl dvX9_failed rfl (ci := 8) cfX9.1 (by decide) c26 (Nat.le_refl _) (Nat.le_of_ble_eq_true rfl) (Nat.le_of_ble_eq_true rfl) (Nat.le_refl _) (Nat.le_refl _) ts_kv0 W (ts_kki fun v48 hi46 hk47 W => ?_)
            obtain ⟨c49, W⟩ := W
            exact ts_zret dX9_readNumber_83 rfl c49 (Nat.le_refl _) (Nat.le_refl _) ⟨rfl, _, rfl, W⟩
        · replace W := W.2 q39
          refine ts_aload_n 0 (pc' := 63) rfl dX9_readNumber_62 rfl rfl ?_
          refine ts_iconst (v := 1) (pc' := 64) rfl dX9_readNumber_63 (by decide) ?_
          refine ts_callV (pc' := 67) (av := [.int 1]) (b := l0) rfl dX9_readNumber_64 rfl gX9_readNumber_X9_failed rfl dvX9_failed rfl (ci := 8) cfX9.1 (by decide) c26 (Nat.le_refl _) (Nat.le_of_ble_eq_true rfl) (Nat.le_of_ble_eq_true rfl) (Nat.le_refl _) (Nat.le_refl _) ts_kv0 W (ts_kki fun v52 hi50 hk51 W => ?_)
          obtain ⟨c53, W⟩ := W
          exact ts_zret dX9_readNumber_67 rfl c53 (Nat.le_refl _) (Nat.le_refl _) ⟨rfl, _, rfl, W⟩
    · replace W := W.2 q33
      refine ts_bipush (v := 10) (pc' := 28) rfl dX9_readNumber_26 (by decide) ?_
      refine ts_iload 4 (pc' := 30) rfl dX9_readNumber_28 rfl ?_
      refine ts_imul (pc' := 31) rfl dX9_readNumber_30 ?_
      refine ts_aload_n 0 (pc' := 32) rfl dX9_readNumber_31 rfl rfl ?_
      refine ts_aload_n 0 (pc' := 33) rfl dX9_readNumber_32 rfl rfl ?_
      refine ts_getI (pc' := 36) (ci := 8) 2 cfX9.1 cfX9.2.1 cfX9.2.2 rfl (by decide) hnX9_readNumber_X9 flX9_readNumber_19 rfl dX9_readNumber_33 c26 ?_
      refine ts_iload_n 3 (pc' := 37) rfl dX9_readNumber_36 rfl rfl ?_
      refine ts_iadd (pc' := 38) rfl dX9_readNumber_37 ?_
      refine ts_callV (pc' := 41) (av := [.int ((hi30 l0 2) + l3)]) (b := l0) rfl dX9_readNumber_38 rfl gX9_readNumber_X9_byteAt rfl dvX9_byteAt rfl (ci := 8) cfX9.1 (by decide) c26 (Nat.le_refl _) (Nat.le_of_ble_eq_true rfl) (Nat.le_of_ble_eq_true rfl) (Nat.le_refl _) (Nat.le_refl _) ts_kv0 W (ts_kki fun v56 hi54 hk55 W => ?_)
      refine ts_iadd (pc' := 42) rfl dX9_readNumber_41 ?_
      refine ts_bipush (v := 48) (pc' := 44) rfl dX9_readNumber_42 (by decide) ?_
      refine ts_isub (pc' := 45) rfl dX9_readNumber_44 ?_
      refine ts_istore (pc' := 47) (ls' := [(4, .int (((10 * l4) + v56) - 48)), (0, .ref l0), (1, .int l1), (2, .int l2), (3, .int l3)]) rfl dX9_readNumber_45 (Nat.le_of_ble_eq_true rfl) rfl ?_
      refine ts_iinc 4 (pc' := 50) (ls' := [(3, .int (l3 + 1)), (4, .int (((10 * l4) + v56) - 48)), (0, .ref l0), (1, .int l1), (2, .int l2)]) rfl dX9_readNumber_47 rfl rfl (Nat.le_of_ble_eq_true rfl) rfl ?_
      refine ts_goto (tgt := 5) dX9_readNumber_50 (by decide) ?_
      exact ts_sub [2, 3, 4, 0, 1] rfl W
theorem hnX1_findGains_X1 : ∀ w ∈ u_ws RX1 TX1 13, w ∈ wsX1_findGains := by decide +kernel
theorem flX1_findGains_11 : Cond.fieldLink RX1 11 "TurnipSquires$Field" "kind" "[LTurnipSquires$Kind;" ∈ wsX1_findGains := by decide +kernel
theorem flX1_findGains_24 : Cond.fieldLink RX1 24 "TurnipSquires$Field" "lean" "[I" ∈ wsX1_findGains := by decide +kernel
theorem flX1_findGains_27 : Cond.fieldLink RX1 27 "TurnipSquires$Field" "mate" "[I" ∈ wsX1_findGains := by decide +kernel
theorem flX1_findGains_36 : Cond.fieldLink RX1 36 "TurnipSquires$Field" "gain" "[I" ∈ wsX1_findGains := by decide +kernel
theorem flX1_findGains_39 : Cond.fieldLink RX1 39 "TurnipSquires$Field" "higher" "[I" ∈ wsX1_findGains := by decide +kernel
theorem flX1_findGains_42 : Cond.fieldLink RX1 42 "TurnipSquires$Field" "count" "I" ∈ wsX1_findGains := by decide +kernel
set_option maxHeartbeats 4000000 in
theorem wX1_findGains_0 {d : Nat} {g : ts_G} {Q : ts_I → ts_K → Prop} {o : Nat} {p0 : Int32} {hi : ts_I} {hk : ts_K} (W : (g.2.1 o = 1) ∧ ts_E0 d mX1_findHigher [.ref o] g hi hk (ts_qv (fun hi1 hk2 => ts_J0 (d + 1) mX1_findGains (ts_qv Q) g 6 [(0, .ref o), (1, .int p0), (2, .int 0)] [] hi1 hk2))) : ts_J0 (d + 1) mX1_findGains (ts_qv Q) g 0 [(0, .ref o), (1, .int p0)] [] hi hk := by
  refine ts_aload_n 0 (pc' := 1) rfl dX1_findGains_0 rfl rfl ?_
  obtain ⟨c3, W⟩ := W
  refine ts_callV (pc' := 4) (av := []) (b := o) rfl dX1_findGains_1 rfl gX1_findGains_X1_findHigher rfl dvX1_findHigher rfl (ci := 1) cfX1.1 (by decide) c3 (Nat.le_refl _) (Nat.le_of_ble_eq_true rfl) (Nat.le_of_ble_eq_true rfl) (Nat.le_refl _) (Nat.le_refl _) ts_kv0 W (ts_kkv fun hi1 hk2 W => ?_)
  refine ts_iconst (v := 0) (pc' := 5) rfl dX1_findGains_4 (by decide) ?_
  refine ts_istore_n (pc' := 6) (ls' := [(2, .int 0), (0, .ref o), (1, .int p0)]) rfl dX1_findGains_5 rfl (Nat.le_of_ble_eq_true rfl) rfl ?_
  exact ts_sub [1, 2, 0] rfl W
set_option maxHeartbeats 4000000 in
theorem wX1_findGains_6 {d : Nat} {g : ts_G} {Q : ts_I → ts_K → Prop} {l0 : Nat} {l1 : Int32} {l2 : Int32} {hi : ts_I} {hk : ts_K} (W : (g.2.1 l0 = 1) ∧ (((hi l0 9) ≤ l2) → ts_J0 (d + 1) mX1_findGains (ts_qv Q) g 40 [(0, .ref l0), (2, .int 0)] [] hi hk) ∧ (¬ ((hi l0 9) ≤ l2) → (g.2.2.2 l0 7 ≠ 0) ∧ (g.2.2.2 l0 0 ≠ 0) ∧ (g.2.1 (g.2.2.2 l0 0) = 103) ∧ (vp_in l2 (g.2.2.1 (g.2.2.2 l0 0))) ∧ (hk (g.2.2.2 l0 0) l2.toNatClampNeg ≠ 0) ∧ ts_EV [(0, mX0_gainIn), (2, mX3_gainIn), (3, mX4_gainIn), (4, mX5_gainIn), (7, mX8_gainIn)] d (hk (g.2.2.2 l0 0) l2.toNatClampNeg) [.ref (hk (g.2.2.2 l0 0) l2.toNatClampNeg), .ref l0, .int l2, .int l1] g hi hk (ts_qi (fun v10 hi8 hk9 => (g.2.1 (g.2.2.2 l0 7) = 100) ∧ (vp_in l2 (g.2.2.1 (g.2.2.2 l0 7))) ∧ ∀ hi13 : ts_I, hi13 = ts_up hi8 (g.2.2.2 l0 7) l2.toNatClampNeg v10 → ts_J0 (d + 1) mX1_findGains (ts_qv Q) g 6 [(0, .ref l0), (1, .int l1), (2, .int (l2 + 1))] [] hi13 hk9)))) : ts_J0 (d + 1) mX1_findGains (ts_qv Q) g 6 [(0, .ref l0), (1, .int l1), (2, .int l2)] [] hi hk := by
  refine ts_iload_n 2 (pc' := 7) rfl dX1_findGains_6 rfl rfl ?_
  refine ts_aload_n 0 (pc' := 8) rfl dX1_findGains_7 rfl rfl ?_
  obtain ⟨c1, W⟩ := W
  refine ts_getI (pc' := 11) (ci := 1) 9 cfX1.1 cfX1.2.1 cfX1.2.2 rfl (by decide) hnX1_findGains_X1 flX1_findGains_42 rfl dX1_findGains_8 c1 ?_
  refine ts_icmp_ge (pc' := 14) (tgt := 38) rfl dX1_findGains_11 (by decide) (fun q2 => ?_) (fun q2 => ?_)
  · replace W := W.1 q2
    refine ts_iconst (v := 0) (pc' := 39) rfl dX1_findGains_38 (by decide) ?_
    refine ts_istore_n (pc' := 40) (ls' := [(2, .int 0), (0, .ref l0), (1, .int l1)]) rfl dX1_findGains_39 rfl (Nat.le_of_ble_eq_true rfl) rfl ?_
    exact ts_sub [1, 0] rfl W
  · replace W := W.2 q2
    refine ts_aload_n 0 (pc' := 15) rfl dX1_findGains_14 rfl rfl ?_
    obtain ⟨c3, W⟩ := W
    refine ts_getR (pc' := 18) (ci := 1) 7 cfX1.1 cfX1.2.1 cfX1.2.2 rfl (by decide) hnX1_findGains_X1 flX1_findGains_36 rfl dX1_findGains_15 c1 c3 ?_
    refine ts_iload_n 2 (pc' := 19) rfl dX1_findGains_18 rfl rfl ?_
    refine ts_aload_n 0 (pc' := 20) rfl dX1_findGains_19 rfl rfl ?_
    obtain ⟨c4, W⟩ := W
    refine ts_getR (pc' := 23) (ci := 1) 0 cfX1.1 cfX1.2.1 cfX1.2.2 rfl (by decide) hnX1_findGains_X1 flX1_findGains_11 rfl dX1_findGains_20 c1 c4 ?_
    refine ts_iload_n 2 (pc' := 24) rfl dX1_findGains_23 rfl rfl ?_
    obtain ⟨c5, W⟩ := W
    obtain ⟨c6, W⟩ := W
    obtain ⟨c7, W⟩ := W
    refine ts_aaloadK (pc' := 25) rfl dX1_findGains_24 c5 c6 c7 ?_
    refine ts_aload_n 0 (pc' := 26) rfl dX1_findGains_25 rfl rfl ?_
    refine ts_iload_n 2 (pc' := 27) rfl dX1_findGains_26 rfl rfl ?_
    refine ts_iload_n 1 (pc' := 28) rfl dX1_findGains_27 rfl rfl ?_
    obtain ⟨M9, h9, W⟩ := W
    have kk9 : ∀ v10 hi8 hk9, _ → ts_JJ _ 0 0 _ none _ _ 0 0 31 _ _ g hi8 hk9 := fun v10 hi8 hk9 W => ?_
    rotate_left
    · simp only [List.mem_cons, List.not_mem_nil, or_false, Prod.mk.injEq] at h9
      rcases h9 with ⟨c9, rfl⟩ | ⟨c9, rfl⟩ | ⟨c9, rfl⟩ | ⟨c9, rfl⟩ | ⟨c9, rfl⟩
      · exact ts_callU (pc' := 31) (av := [.ref l0, .int l2, .int l1]) (st := _) (b := (hk (g.2.2.2 l0 0) l2.toNatClampNeg)) rfl dX1_findGains_28 rfl gX1_findGains_X0_gainIn_u74X0 rfl rfl dxoX2_gainIn rfl (ci := 0) cfX0.1 (by decide) c9 (Nat.le_refl _) (Nat.le_of_ble_eq_true rfl) (Nat.le_of_ble_eq_true rfl) (Nat.le_refl _) (Nat.le_refl _) ts_kv0 W (ts_kki kk9)
      · exact ts_callU (pc' := 31) (av := [.ref l0, .int l2, .int l1]) (st := _) (b := (hk (g.2.2.2 l0 0) l2.toNatClampNeg)) rfl dX1_findGains_28 rfl gX1_findGains_X3_gainIn_u74X3 rfl rfl dxoX2_gainIn rfl (ci := 2) cfX3.1 (by decide) c9 (Nat.le_refl _) (Nat.le_of_ble_eq_true rfl) (Nat.le_of_ble_eq_true rfl) (Nat.le_refl _) (Nat.le_refl _) ts_kv0 W (ts_kki kk9)
      · exact ts_callU (pc' := 31) (av := [.ref l0, .int l2, .int l1]) (st := _) (b := (hk (g.2.2.2 l0 0) l2.toNatClampNeg)) rfl dX1_findGains_28 rfl gX1_findGains_X4_gainIn_u74X4 rfl rfl dxoX2_gainIn rfl (ci := 3) cfX4.1 (by decide) c9 (Nat.le_refl _) (Nat.le_of_ble_eq_true rfl) (Nat.le_of_ble_eq_true rfl) (Nat.le_refl _) (Nat.le_refl _) ts_kv0 W (ts_kki kk9)
      · exact ts_callU (pc' := 31) (av := [.ref l0, .int l2, .int l1]) (st := _) (b := (hk (g.2.2.2 l0 0) l2.toNatClampNeg)) rfl dX1_findGains_28 rfl gX1_findGains_X5_gainIn_u74X5 rfl rfl dxoX2_gainIn rfl (ci := 4) cfX5.1 (by decide) c9 (Nat.le_refl _) (Nat.le_of_ble_eq_true rfl) (Nat.le_of_ble_eq_true rfl) (Nat.le_refl _) (Nat.le_refl _) ts_kv0 W (ts_kki kk9)
      · exact ts_callU (pc' := 31) (av := [.ref l0, .int l2, .int l1]) (st := _) (b := (hk (g.2.2.2 l0 0) l2.toNatClampNeg)) rfl dX1_findGains_28 rfl gX1_findGains_X8_gainIn_u74X8 rfl rfl dxoX2_gainIn rfl (ci := 7) cfX8.1 (by decide) c9 (Nat.le_refl _) (Nat.le_of_ble_eq_true rfl) (Nat.le_of_ble_eq_true rfl) (Nat.le_refl _) (Nat.le_refl _) ts_kv0 W (ts_kki kk9)
    obtain ⟨c11, W⟩ := W
    obtain ⟨c12, W⟩ := W
    refine ts_iastore (pc' := 32) rfl dX1_findGains_31 c11 c12 ?_
    obtain ⟨hi13, ehi13⟩ : ∃ z, z = ts_up hi8 (g.2.2.2 l0 7) l2.toNatClampNeg v10 := ⟨_, rfl⟩
    rw [← ehi13]; replace W := W hi13 ehi13
    refine ts_iinc 2 (pc' := 35) (ls' := [(2, .int (l2 + 1)), (0, .ref l0), (1, .int l1)]) rfl dX1_findGains_32 rfl rfl (Nat.le_of_ble_eq_true rfl) rfl ?_
    refine ts_goto (tgt := 6) dX1_findGains_35 (by decide) ?_
    exact ts_sub [1, 2, 0] rfl W
set_option maxHeartbeats 4000000 in
theorem wX1_findGains_40 {d : Nat} {g : ts_G} {Q : ts_I → ts_K → Prop} {l0 : Nat} {l2 : Int32} {hi : ts_I} {hk : ts_K} (W : (g.2.1 l0 = 1) ∧ (((hi l0 9) ≤ l2) → ts_J0 (d + 1) mX1_findGains (ts_qv Q) g 109 [(0, .ref l0), (2, .int 0)] [] hi hk) ∧ (¬ ((hi l0 9) ≤ l2) → (g.2.2.2 l0 4 ≠ 0) ∧ (g.2.1 (g.2.2.2 l0 4) = 100) ∧ (vp_in l2 (g.2.2.1 (g.2.2.2 l0 4))) ∧ (((hi (g.2.2.2 l0 4) l2.toNatClampNeg) ≤ l2) → ts_J0 (d + 1) mX1_findGains (ts_qv Q) g 40 [(0, .ref l0), (2, .int (l2 + 1))] [] hi hk) ∧ (¬ ((hi (g.2.2.2 l0 4) l2.toNatClampNeg) ≤ l2) → (((hi l0 9) ≤ (hi (g.2.2.2 l0 4) l2.toNatClampNeg)) → ts_J0 (d + 1) mX1_findGains (ts_qv Q) g 40 [(0, .ref l0), (2, .int (l2 + 1))] [] hi hk) ∧ (¬ ((hi l0 9) ≤ (hi (g.2.2.2 l0 4) l2.toNatClampNeg)) → (g.2.2.2 l0 7 ≠ 0) ∧ (g.2.1 (g.2.2.2 l0 7) = 100) ∧ (vp_in l2 (g.2.2.1 (g.2.2.2 l0 7))) ∧ (vp_in (hi (g.2.2.2 l0 4) l2.toNatClampNeg) (g.2.2.1 (g.2.2.2 l0 7))) ∧ ∀ hi12 : ts_I, hi12 = ts_up hi (g.2.2.2 l0 7) l2.toNatClampNeg (((hi (g.2.2.2 l0 7) l2.toNatClampNeg) + (hi (g.2.2.2 l0 7) (hi (g.2.2.2 l0 4) l2.toNatClampNeg).toNatClampNeg)) / 2) → ∀ hi13 : ts_I, hi13 = ts_up hi12 (g.2.2.2 l0 7) (hi (g.2.2.2 l0 4) l2.toNatClampNeg).toNatClampNeg (((hi (g.2.2.2 l0 7) l2.toNatClampNeg) + (hi (g.2.2.2 l0 7) (hi (g.2.2.2 l0 4) l2.toNatClampNeg).toNatClampNeg)) / 2) → ts_J0 (d + 1) mX1_findGains (ts_qv Q) g 40 [(0, .ref l0), (2, .int (l2 + 1))] [] hi13 hk)))) : ts_J0 (d + 1) mX1_findGains (ts_qv Q) g 40 [(0, .ref l0), (2, .int l2)] [] hi hk := by
  refine ts_iload_n 1 (pc' := 41) rfl dX1_findGains_40 rfl rfl ?_
  refine ts_aload_n 0 (pc' := 42) rfl dX1_findGains_41 rfl rfl ?_
  obtain ⟨c1, W⟩ := W
  refine ts_getI (pc' := 45) (ci := 1) 9 cfX1.1 cfX1.2.1 cfX1.2.2 rfl (by decide) hnX1_findGains_X1 flX1_findGains_42 rfl dX1_findGains_42 c1 ?_
  refine ts_icmp_ge (pc' := 48) (tgt := 107) rfl dX1_findGains_45 (by decide) (fun q2 => ?_) (fun q2 => ?_)
  · replace W := W.1 q2
    refine ts_iconst (v := 0) (pc' := 108) rfl dX1_findGains_107 (by decide) ?_
    refine ts_istore_n (pc' := 109) (ls' := [(2, .int 0), (0, .ref l0)]) rfl dX1_findGains_108 rfl (Nat.le_of_ble_eq_true rfl) rfl ?_
    exact ts_sub [1, 0] rfl W
  · replace W := W.2 q2
    refine ts_aload_n 0 (pc' := 49) rfl dX1_findGains_48 rfl rfl ?_
    obtain ⟨c3, W⟩ := W
    refine ts_getR (pc' := 52) (ci := 1) 4 cfX1.1 cfX1.2.1 cfX1.2.2 rfl (by decide) hnX1_findGains_X1 flX1_findGains_27 rfl dX1_findGains_49 c1 c3 ?_
    refine ts_iload_n 1 (pc' := 53) rfl dX1_findGains_52 rfl rfl ?_
    obtain ⟨c4, W⟩ := W
    obtain ⟨c5, W⟩ := W
    refine ts_iaload (pc' := 54) rfl dX1_findGains_53 c4 c5 ?_
    refine ts_istore_n (pc' := 55) (ls' := [(3, .int (hi (g.2.2.2 l0 4) l2.toNatClampNeg)), (0, .ref l0), (2, .int l2)]) rfl dX1_findGains_54 rfl (Nat.le_of_ble_eq_true rfl) rfl ?_
    refine ts_iload_n 0 (pc' := 56) rfl dX1_findGains_55 rfl rfl ?_
    refine ts_iload_n 2 (pc' := 57) rfl dX1_findGains_56 rfl rfl ?_
    refine ts_icmp_le (pc' := 60) (tgt := 101) rfl dX1_findGains_57 (by decide) (fun q6 => ?_) (fun q6 => ?_)
    · replace W := W.1 q6
      refine ts_iinc 2 (pc' := 104) (ls' := [(2, .int (l2 + 1)), (3, .int (hi (g.2.2.2 l0 4) l2.toNatClampNeg)), (0, .ref l0)]) rfl dX1_findGains_101 rfl rfl (Nat.le_of_ble_eq_true rfl) rfl ?_
      refine ts_goto (tgt := 40) dX1_findGains_104 (by decide) ?_
      exact ts_sub [2, 0] rfl W
    · replace W := W.2 q6
      refine ts_iload_n 0 (pc' := 61) rfl dX1_findGains_60 rfl rfl ?_
      refine ts_aload_n 1 (pc' := 62) rfl dX1_findGains_61 rfl rfl ?_
      refine ts_getI (pc' := 65) (ci := 1) 9 cfX1.1 cfX1.2.1 cfX1.2.2 rfl (by decide) hnX1_findGains_X1 flX1_findGains_42 rfl dX1_findGains_62 c1 ?_
      refine ts_icmp_ge (pc' := 68) (tgt := 101) rfl dX1_findGains_65 (by decide) (fun q7 => ?_) (fun q7 => ?_)
      · replace W := W.1 q7
        refine ts_iinc 2 (pc' := 104) (ls' := [(2, .int (l2 + 1)), (3, .int (hi (g.2.2.2 l0 4) l2.toNatClampNeg)), (0, .ref l0)]) rfl dX1_findGains_101 rfl rfl (Nat.le_of_ble_eq_true rfl) rfl ?_
        refine ts_goto (tgt := 40) dX1_findGains_104 (by decide) ?_
        exact ts_sub [2, 0] rfl W
      · replace W := W.2 q7
        refine ts_aload_n 1 (pc' := 69) rfl dX1_findGains_68 rfl rfl ?_
        obtain ⟨c8, W⟩ := W
        refine ts_getR (pc' := 72) (ci := 1) 7 cfX1.1 cfX1.2.1 cfX1.2.2 rfl (by decide) hnX1_findGains_X1 flX1_findGains_36 rfl dX1_findGains_69 c1 c8 ?_
        refine ts_iload_n 2 (pc' := 73) rfl dX1_findGains_72 rfl rfl ?_
        obtain ⟨c9, W⟩ := W
        obtain ⟨c10, W⟩ := W
        refine ts_iaload (pc' := 74) rfl dX1_findGains_73 c9 c10 ?_
        refine ts_aload_n 1 (pc' := 75) rfl dX1_findGains_74 rfl rfl ?_
        refine ts_getR (pc' := 78) (ci := 1) 7 cfX1.1 cfX1.2.1 cfX1.2.2 rfl (by decide) hnX1_findGains_X1 flX1_findGains_36 rfl dX1_findGains_75 c1 c8 ?_
        refine ts_iload_n 0 (pc' := 79) rfl dX1_findGains_78 rfl rfl ?_
        obtain ⟨c11, W⟩ := W
        refine ts_iaload (pc' := 80) rfl dX1_findGains_79 c9 c11 ?_
        refine ts_iadd (pc' := 81) rfl dX1_findGains_80 ?_
        refine ts_iconst (v := 2) (pc' := 82) rfl dX1_findGains_81 (by decide) ?_
        refine ts_idiv (pc' := 83) rfl dX1_findGains_82 (by decide) ?_
        refine ts_istore (pc' := 85) (ls' := [(4, .int (((hi (g.2.2.2 l0 7) l2.toNatClampNeg) + (hi (g.2.2.2 l0 7) (hi (g.2.2.2 l0 4) l2.toNatClampNeg).toNatClampNeg)) / 2)), (3, .int (hi (g.2.2.2 l0 4) l2.toNatClampNeg)), (0, .ref l0), (2, .int l2)]) rfl dX1_findGains_83 (Nat.le_of_ble_eq_true rfl) rfl ?_
        refine ts_aload_n 2 (pc' := 86) rfl dX1_findGains_85 rfl rfl ?_
        refine ts_getR (pc' := 89) (ci := 1) 7 cfX1.1 cfX1.2.1 cfX1.2.2 rfl (by decide) hnX1_findGains_X1 flX1_findGains_36 rfl dX1_findGains_86 c1 c8 ?_
        refine ts_iload_n 3 (pc' := 90) rfl dX1_findGains_89 rfl rfl ?_
        refine ts_iload 0 (pc' := 92) rfl dX1_findGains_90 rfl ?_
        refine ts_iastore (pc' := 93) rfl dX1_findGains_92 c9 c10 ?_
        obtain ⟨hi12, ehi12⟩ : ∃ z, z = ts_up hi (g.2.2.2 l0 7) l2.toNatClampNeg (((hi (g.2.2.2 l0 7) l2.toNatClampNeg) + (hi (g.2.2.2 l0 7) (hi (g.2.2.2 l0 4) l2.toNatClampNeg).toNatClampNeg)) / 2) := ⟨_, rfl⟩
        rw [← ehi12]; replace W := W hi12 ehi12
        refine ts_aload_n 2 (pc' := 94) rfl dX1_findGains_93 rfl rfl ?_
        refine ts_getR (pc' := 97) (ci := 1) 7 cfX1.1 cfX1.2.1 cfX1.2.2 rfl (by decide) hnX1_findGains_X1 flX1_findGains_36 rfl dX1_findGains_94 c1 c8 ?_
        refine ts_iload_n 1 (pc' := 98) rfl dX1_findGains_97 rfl rfl ?_
        refine ts_iload 0 (pc' := 100) rfl dX1_findGains_98 rfl ?_
        refine ts_iastore (pc' := 101) rfl dX1_findGains_100 c9 c11 ?_
        obtain ⟨hi13, ehi13⟩ : ∃ z, z = ts_up hi12 (g.2.2.2 l0 7) (hi (g.2.2.2 l0 4) l2.toNatClampNeg).toNatClampNeg (((hi (g.2.2.2 l0 7) l2.toNatClampNeg) + (hi (g.2.2.2 l0 7) (hi (g.2.2.2 l0 4) l2.toNatClampNeg).toNatClampNeg)) / 2) := ⟨_, rfl⟩
        rw [← ehi13]; replace W := W hi13 ehi13
        refine ts_iinc 3 (pc' := 104) (ls' := [(2, .int (l2 + 1)), (4, .int (((hi (g.2.2.2 l0 7) l2.toNatClampNeg) + (hi (g.2.2.2 l0 7) (hi (g.2.2.2 l0 4) l2.toNatClampNeg).toNatClampNeg)) / 2)), (3, .int (hi (g.2.2.2 l0 4) l2.toNatClampNeg)), (0, .ref l0)]) rfl dX1_findGains_101 rfl rfl (Nat.le_of_ble_eq_true rfl) rfl ?_
        refine ts_goto (tgt := 40) dX1_findGains_104 (by decide) ?_
        exact ts_sub [3, 0] rfl W
set_option maxHeartbeats 4000000 in
theorem wX1_findGains_109 {d : Nat} {g : ts_G} {Q : ts_I → ts_K → Prop} {l0 : Nat} {l2 : Int32} {hi : ts_I} {hk : ts_K} (W : (g.2.1 l0 = 1) ∧ (((hi l0 9) ≤ l2) → Q hi hk) ∧ (¬ ((hi l0 9) ≤ l2) → (g.2.2.2 l0 7 ≠ 0) ∧ (g.2.1 (g.2.2.2 l0 7) = 100) ∧ (vp_in l2 (g.2.2.1 (g.2.2.2 l0 7))) ∧ (g.2.2.2 l0 8 ≠ 0) ∧ (g.2.1 (g.2.2.2 l0 8) = 100) ∧ (vp_in l2 (g.2.2.1 (g.2.2.2 l0 8))) ∧ (g.2.2.2 l0 3 ≠ 0) ∧ (g.2.1 (g.2.2.2 l0 3) = 100) ∧ (vp_in l2 (g.2.2.1 (g.2.2.2 l0 3))) ∧ ∀ hi12 : ts_I, hi12 = ts_up hi (g.2.2.2 l0 7) l2.toNatClampNeg ((hi (g.2.2.2 l0 7) l2.toNatClampNeg) + (((hi (g.2.2.2 l0 8) l2.toNatClampNeg) >>> ((hi (g.2.2.2 l0 3) l2.toNatClampNeg) &&& 31)) &&& 1)) → ts_J0 (d + 1) mX1_findGains (ts_qv Q) g 109 [(0, .ref l0), (2, .int (l2 + 1))] [] hi12 hk)) : ts_J0 (d + 1) mX1_findGains (ts_qv Q) g 109 [(0, .ref l0), (2, .int l2)] [] hi hk := by
  refine ts_iload_n 1 (pc' := 110) rfl dX1_findGains_109 rfl rfl ?_
  refine ts_aload_n 0 (pc' := 111) rfl dX1_findGains_110 rfl rfl ?_
  obtain ⟨c1, W⟩ := W
  refine ts_getI (pc' := 114) (ci := 1) 9 cfX1.1 cfX1.2.1 cfX1.2.2 rfl (by decide) hnX1_findGains_X1 flX1_findGains_42 rfl dX1_findGains_111 c1 ?_
  refine ts_icmp_ge (pc' := 117) (tgt := 147) rfl dX1_findGains_114 (by decide) (fun q2 => ?_) (fun q2 => ?_)
  · replace W := W.1 q2
    exact ts_vret dX1_findGains_147 rfl (Nat.le_refl _) (Nat.le_refl _) ⟨rfl, rfl, W⟩
  · replace W := W.2 q2
    refine ts_aload_n 0 (pc' := 118) rfl dX1_findGains_117 rfl rfl ?_
    obtain ⟨c3, W⟩ := W
    refine ts_getR (pc' := 121) (ci := 1) 7 cfX1.1 cfX1.2.1 cfX1.2.2 rfl (by decide) hnX1_findGains_X1 flX1_findGains_36 rfl dX1_findGains_118 c1 c3 ?_
    refine ts_iload_n 1 (pc' := 122) rfl dX1_findGains_121 rfl rfl ?_
    refine ts_dup2 (pc' := 123) rfl dX1_findGains_122 rfl rfl ?_
    obtain ⟨c4, W⟩ := W
    obtain ⟨c5, W⟩ := W
    refine ts_iaload (pc' := 124) rfl dX1_findGains_123 c4 c5 ?_
    refine ts_aload_n 0 (pc' := 125) rfl dX1_findGains_124 rfl rfl ?_
    obtain ⟨c6, W⟩ := W
    refine ts_getR (pc' := 128) (ci := 1) 8 cfX1.1 cfX1.2.1 cfX1.2.2 rfl (by decide) hnX1_findGains_X1 flX1_findGains_39 rfl dX1_findGains_125 c1 c6 ?_
    refine ts_iload_n 1 (pc' := 129) rfl dX1_findGains_128 rfl rfl ?_
    obtain ⟨c7, W⟩ := W
    obtain ⟨c8, W⟩ := W
    refine ts_iaload (pc' := 130) rfl dX1_findGains_129 c7 c8 ?_
    refine ts_aload_n 0 (pc' := 131) rfl dX1_findGains_130 rfl rfl ?_
    obtain ⟨c9, W⟩ := W
    refine ts_getR (pc' := 134) (ci := 1) 3 cfX1.1 cfX1.2.1 cfX1.2.2 rfl (by decide) hnX1_findGains_X1 flX1_findGains_24 rfl dX1_findGains_131 c1 c9 ?_
    refine ts_iload_n 1 (pc' := 135) rfl dX1_findGains_134 rfl rfl ?_
    obtain ⟨c10, W⟩ := W
    obtain ⟨c11, W⟩ := W
    refine ts_iaload (pc' := 136) rfl dX1_findGains_135 c10 c11 ?_
    refine ts_ishr (pc' := 137) rfl dX1_findGains_136 ?_
    refine ts_iconst (v := 1) (pc' := 138) rfl dX1_findGains_137 (by decide) ?_
    refine ts_iand (pc' := 139) rfl dX1_findGains_138 ?_
    refine ts_iadd (pc' := 140) rfl dX1_findGains_139 ?_
    refine ts_iastore (pc' := 141) rfl dX1_findGains_140 c4 c5 ?_
    obtain ⟨hi12, ehi12⟩ : ∃ z, z = ts_up hi (g.2.2.2 l0 7) l2.toNatClampNeg ((hi (g.2.2.2 l0 7) l2.toNatClampNeg) + (((hi (g.2.2.2 l0 8) l2.toNatClampNeg) >>> ((hi (g.2.2.2 l0 3) l2.toNatClampNeg) &&& 31)) &&& 1)) := ⟨_, rfl⟩
    rw [← ehi12]; replace W := W hi12 ehi12
    refine ts_iinc 1 (pc' := 144) (ls' := [(2, .int (l2 + 1)), (0, .ref l0)]) rfl dX1_findGains_141 rfl rfl (Nat.le_of_ble_eq_true rfl) rfl ?_
    refine ts_goto (tgt := 109) dX1_findGains_144 (by decide) ?_
    exact ts_sub [1, 0] rfl W
set_option maxHeartbeats 4000000 in
theorem wX4_size_0 {d : Nat} {g : ts_G} {Q : Int32 → ts_I → ts_K → Prop} {o : Nat} {p0 : Nat} {p1 : Int32} {p2 : Nat} {hi : ts_I} {hk : ts_K} (W : (g.2.1 p2 = 9) ∧ ts_E0 d mX10_leave [.ref p2, .int 11] g hi hk (ts_qv (fun hi1 hk2 => (g.2.1 o = 0 ∨ g.2.1 o = 2 ∨ g.2.1 o = 3 ∨ g.2.1 o = 4 ∨ g.2.1 o = 7) ∧ ts_E0 d mX2_size [.ref o, .ref p0, .int p1, .ref p2] g hi1 hk2 (ts_qi (fun v6 hi4 hk5 => ts_EV [(2, mX3_mark), (3, mX4_mark), (4, mX5_mark)] d o [.ref o, .ref p0, .int p1, .ref p2] g hi4 hk5 (ts_qi (fun v10 hi8 hk9 => Q (v6 + v10) hi8 hk9))))))) : ts_J0 (d + 1) mX4_size (ts_qi Q) g 0 [(0, .ref o), (1, .ref p0), (2, .int p1), (3, .ref p2)] [] hi hk := by
  refine ts_aload_n 3 (pc' := 1) rfl dX4_size_0 rfl rfl ?_
  refine ts_bipush (v := 11) (pc' := 3) rfl dX4_size_1 (by decide) ?_
  obtain ⟨c3, W⟩ := W
  refine ts_callV (pc' := 6) (av := [.int 11]) (b := p2) rfl dX4_size_3 rfl gX4_size_X10_leave rfl dvX10_leave rfl (ci := 9) cfX10.1 (by decide) c3 (Nat.le_refl _) (Nat.le_of_ble_eq_true rfl) (Nat.le_of_ble_eq_true rfl) (Nat.le_refl _) (Nat.le_refl _) ts_kv0 W (ts_kkv fun hi1 hk2 W => ?_)
  refine ts_aload_n 0 (pc' := 7) rfl dX4_size_6 rfl rfl ?_
  refine ts_aload_n 1 (pc' := 8) rfl dX4_size_7 rfl rfl ?_
  refine ts_iload_n 2 (pc' := 9) rfl dX4_size_8 rfl rfl ?_
  refine ts_aload_n 3 (pc' := 10) rfl dX4_size_9 rfl rfl ?_
  obtain ⟨c7, W⟩ := W
  refine ts_callSUk (pc' := 13) (av := [.ref p0, .int p1, .ref p2]) (b := o) rfl dX4_size_10 rfl gX4_size_X2_size_s18 rfl dwX2_size rfl c7 (Nat.le_refl _) (Nat.le_of_ble_eq_true rfl) (Nat.le_of_ble_eq_true rfl) (Nat.le_refl _) (Nat.le_refl _) ts_kv0 W (ts_kki fun v6 hi4 hk5 W => ?_)
  refine ts_istore (pc' := 15) (ls' := [(4, .int v6), (0, .ref o), (1, .ref p0), (2, .int p1), (3, .ref p2)]) rfl dX4_size_13 (Nat.le_of_ble_eq_true rfl) rfl ?_
  refine ts_iload 0 (pc' := 17) rfl dX4_size_15 rfl ?_
  refine ts_aload_n 1 (pc' := 18) rfl dX4_size_17 rfl rfl ?_
  refine ts_aload_n 2 (pc' := 19) rfl dX4_size_18 rfl rfl ?_
  refine ts_iload_n 3 (pc' := 20) rfl dX4_size_19 rfl rfl ?_
  refine ts_aload_n 4 (pc' := 21) rfl dX4_size_20 rfl rfl ?_
  obtain ⟨M9, h9, W⟩ := W
  have kk9 : ∀ v10 hi8 hk9, _ → ts_JJ _ 0 0 _ none _ _ 0 0 24 _ _ g hi8 hk9 := fun v10 hi8 hk9 W => ?_
  rotate_left
  · simp only [List.mem_cons, List.not_mem_nil, or_false, Prod.mk.injEq] at h9
    rcases h9 with ⟨c9, rfl⟩ | ⟨c9, rfl⟩ | ⟨c9, rfl⟩
    · exact ts_callO (pc' := 24) (av := [.ref p0, .int p1, .ref p2]) (st := _) (b := o) rfl dX4_size_21 rfl gX4_size_X3_mark_u22X3 rfl (b0 := cX4_mark) (m0 := 4) (r0 := (some .int)) (by decide +kernel) dxoX4_mark rfl (ci := 2) cfX3.1 (by decide) c9 (Nat.le_refl _) (Nat.le_of_ble_eq_true rfl) (Nat.le_of_ble_eq_true rfl) (Nat.le_refl _) (Nat.le_refl _) ts_kv0 W (ts_kki kk9)
    · exact ts_callV (pc' := 24) (av := [.ref p0, .int p1, .ref p2]) (st := _) (b := o) rfl dX4_size_21 rfl gX4_size_X4_mark rfl dvX4_mark rfl (ci := 3) cfX4.1 (by decide) c9 (Nat.le_refl _) (Nat.le_of_ble_eq_true rfl) (Nat.le_of_ble_eq_true rfl) (Nat.le_refl _) (Nat.le_refl _) ts_kv0 W (ts_kki kk9)
    · exact ts_callO (pc' := 24) (av := [.ref p0, .int p1, .ref p2]) (st := _) (b := o) rfl dX4_size_21 rfl gX4_size_X5_mark_u22X5 rfl (b0 := cX4_mark) (m0 := 4) (r0 := (some .int)) (by decide +kernel) dxoX4_mark rfl (ci := 4) cfX5.1 (by decide) c9 (Nat.le_refl _) (Nat.le_of_ble_eq_true rfl) (Nat.le_of_ble_eq_true rfl) (Nat.le_refl _) (Nat.le_refl _) ts_kv0 W (ts_kki kk9)
  refine ts_iadd (pc' := 25) rfl dX4_size_24 ?_
  exact ts_iret dX4_size_25 rfl (Nat.le_refl _) (Nat.le_refl _) ⟨rfl, _, rfl, W⟩
theorem hnX6_narrowed_X6 : ∀ w ∈ u_ws RX6 TX6 4, w ∈ wsX6_narrowed := by decide +kernel
theorem flX6_narrowed_19 : Cond.fieldLink RX6 19 "TurnipSquires$Row" "lane" "I" ∈ wsX6_narrowed := by decide +kernel
set_option maxHeartbeats 4000000 in
theorem wX6_narrowed_0 {d : Nat} {g : ts_G} {Q : Int32 → ts_I → ts_K → Prop} {o : Nat} {p0 : Int32} {hi : ts_I} {hk : ts_K} (W : (g.2.1 o = 5) ∧ ((hi o 2) = 0 → Q (p0).toInt8.toInt32 hi hk) ∧ ((hi o 2) = 1 → Q (p0).toInt16.toInt32 hi hk) ∧ (¬ (hi o 2) = 0 → ¬ (hi o 2) = 1 → Q p0 hi hk)) : ts_J0 d mX6_narrowed (ts_qi Q) g 0 [(0, .ref o), (1, .int p0)] [] hi hk := by
  refine ts_aload_n 0 (pc' := 1) rfl dX6_narrowed_0 rfl rfl ?_
  obtain ⟨c1, W⟩ := W
  refine ts_getI (pc' := 4) (ci := 5) 2 cfX6.1 cfX6.2.1 cfX6.2.2 rfl (by decide) hnX6_narrowed_X6 flX6_narrowed_19 rfl dX6_narrowed_1 c1 ?_
  by_cases q2 : (hi o 2) = 0
  · replace W := W.1 q2
    refine ts_lookI (off := 28) (tgt := 32) dX6_narrowed_4 (by decide) (by rw [q2]; decide) (by decide) ?_
    refine ts_iload_n 1 (pc' := 33) rfl dX6_narrowed_32 rfl rfl ?_
    refine ts_i2b (pc' := 34) rfl dX6_narrowed_33 rfl ?_
    exact ts_iret dX6_narrowed_34 rfl (Nat.le_refl _) (Nat.le_refl _) ⟨rfl, _, rfl, W⟩
  replace W := W.2
  by_cases q3 : (hi o 2) = 1
  · replace W := W.1 q3
    refine ts_lookI (off := 31) (tgt := 35) dX6_narrowed_4 (by decide) (by rw [q3]; decide) (by decide) ?_
    refine ts_iload_n 1 (pc' := 36) rfl dX6_narrowed_35 rfl rfl ?_
    refine ts_i2s (pc' := 37) rfl dX6_narrowed_36 rfl ?_
    exact ts_iret dX6_narrowed_37 rfl (Nat.le_refl _) (Nat.le_refl _) ⟨rfl, _, rfl, W⟩
  replace W := W.2
  replace W := W q2 q3
  refine ts_lookI (off := 34) (tgt := 38) dX6_narrowed_4 (by decide) (by simp [Op.lookupswitch.offset, ts_neT q2, ts_neT q3]) (by decide) ?_
  refine ts_iload_n 1 (pc' := 39) rfl dX6_narrowed_38 rfl rfl ?_
  exact ts_iret dX6_narrowed_39 rfl (Nat.le_refl _) (Nat.le_refl _) ⟨rfl, _, rfl, W⟩
theorem hnX11_count_X1 : ∀ w ∈ u_ws RX1 TX1 13, w ∈ wsX11_count := by decide +kernel
theorem hnX11_count_X11 : ∀ w ∈ u_ws RX11 TX11 13, w ∈ wsX11_count := by decide +kernel
theorem hnX11_count_X9 : ∀ w ∈ u_ws RX9 TX9 5, w ∈ wsX11_count := by decide +kernel
theorem flX11_count_18 : Cond.fieldLink RX11 18 "TurnipSquires" "tape" "LTurnipSquires$Tape;" ∈ wsX11_count := by decide +kernel
theorem flX11_count_65 : Cond.fieldLink RX11 65 "TurnipSquires" "now" "LTurnipSquires$Field;" ∈ wsX11_count := by decide +kernel
theorem flX11_count_132 : Cond.fieldLink RX11 132 "TurnipSquires$Tape" "size" "I" ∈ wsX11_count := by decide +kernel
theorem flX11_count_152 : Cond.fieldLink RX11 152 "TurnipSquires" "actsKept" "I" ∈ wsX11_count := by decide +kernel
theorem flX11_count_155 : Cond.fieldLink RX11 155 "TurnipSquires$Field" "count" "I" ∈ wsX11_count := by decide +kernel
theorem flX11_count_159 : Cond.fieldLink RX11 159 "TurnipSquires$Field" "year" "I" ∈ wsX11_count := by decide +kernel
theorem flX11_count_195 : Cond.fieldLink RX11 195 "TurnipSquires$Field" "ground" "I" ∈ wsX11_count := by decide +kernel
theorem flX11_count_294 : Cond.fieldLink RX11 294 "TurnipSquires$Field" "frost" "I" ∈ wsX11_count := by decide +kernel
set_option maxHeartbeats 4000000 in
theorem wX11_count_0 {d : Nat} {g : ts_G} {Q : Int32 → ts_I → ts_K → Prop} {o : Nat} {p0 : Int32} {hi : ts_I} {hk : ts_K} (W : (p0 = 0 → (g.2.1 o = 10) ∧ ts_E0 d mX11_rowsThere [.ref o] g hi hk (ts_qi (fun v4 hi2 hk3 => Q v4 hi2 hk3))) ∧ (p0 = 1 → (g.2.1 o = 10) ∧ (g.2.2.2 o 6 ≠ 0) ∧ (g.2.1 (g.2.2.2 o 6) = 1) ∧ Q (hi (g.2.2.2 o 6) 9) hi hk) ∧ (p0 = 2 → (g.2.1 o = 10) ∧ (g.2.2.2 o 6 ≠ 0) ∧ (g.2.1 (g.2.2.2 o 6) = 1) ∧ Q (hi (g.2.2.2 o 6) 10) hi hk) ∧ (p0 = 3 → (g.2.1 o = 10) ∧ (g.2.2.2 o 6 ≠ 0) ∧ (g.2.1 (g.2.2.2 o 6) = 1) ∧ Q (hi (g.2.2.2 o 6) 11) hi hk) ∧ (p0 = 4 → (g.2.1 o = 10) ∧ (g.2.2.2 o 6 ≠ 0) ∧ (g.2.1 (g.2.2.2 o 6) = 1) ∧ Q (hi (g.2.2.2 o 6) 12) hi hk) ∧ (p0 = 5 → (g.2.1 o = 10) ∧ (g.2.2.2 o 6 ≠ 0) ∧ (g.2.1 (g.2.2.2 o 6) = 1) ∧ ts_E0 d mX1_allRanks [.ref (g.2.2.2 o 6)] g hi hk (ts_qi (fun v27 hi25 hk26 => Q v27 hi25 hk26))) ∧ (p0 = 6 → (g.2.1 o = 10) ∧ (g.2.2.2 o 6 ≠ 0) ∧ (g.2.1 (g.2.2.2 o 6) = 1) ∧ ts_E0 d mX1_allMarried [.ref (g.2.2.2 o 6)] g hi hk (ts_qi (fun v34 hi32 hk33 => Q v34 hi32 hk33))) ∧ (p0 = 7 → (g.2.1 o = 10) ∧ Q (hi o 12) hi hk) ∧ (p0 = 8 → (g.2.1 o = 10) ∧ (g.2.2.2 o 1 ≠ 0) ∧ (g.2.1 (g.2.2.2 o 1) = 8) ∧ Q (hi (g.2.2.2 o 1) 1) hi hk) ∧ (¬ p0 = 0 → ¬ p0 = 1 → ¬ p0 = 2 → ¬ p0 = 3 → ¬ p0 = 4 → ¬ p0 = 5 → ¬ p0 = 6 → ¬ p0 = 7 → ¬ p0 = 8 → Q (-1000001) hi hk)) : ts_J0 (d + 1) mX11_count (ts_qi Q) g 0 [(0, .ref o), (1, .int p0)] [] hi hk := by
  refine ts_iload_n 1 (pc' := 1) rfl dX11_count_0 rfl rfl ?_
  by_cases q1 : p0 = 0
  · replace W := W.1 q1
    refine ts_tableI (i := 0) (off := 51) (tgt := 52) dX11_count_1 (by rw [q1]; rfl) (by decide) (by decide) rfl (by decide) ?_
    refine ts_aload_n 0 (pc' := 53) rfl dX11_count_52 rfl rfl ?_
    obtain ⟨c5, W⟩ := W
    refine ts_callV (pc' := 56) (av := []) (b := o) rfl dX11_count_53 rfl gX11_count_X11_rowsThere rfl dvX11_rowsThere rfl (ci := 10) cfX11.1 (by decide) c5 (Nat.le_refl _) (Nat.le_of_ble_eq_true rfl) (Nat.le_of_ble_eq_true rfl) (Nat.le_refl _) (Nat.le_refl _) ts_kv0 W (ts_kki fun v4 hi2 hk3 W => ?_)
    exact ts_iret dX11_count_56 rfl (Nat.le_refl _) (Nat.le_refl _) ⟨rfl, _, rfl, W⟩
  replace W := W.2
  by_cases q6 : p0 = 1
  · replace W := W.1 q6
    refine ts_tableI (i := 1) (off := 56) (tgt := 57) dX11_count_1 (by rw [q6]; rfl) (by decide) (by decide) rfl (by decide) ?_
    refine ts_aload_n 0 (pc' := 58) rfl dX11_count_57 rfl rfl ?_
    obtain ⟨c7, W⟩ := W
    obtain ⟨c8, W⟩ := W
    refine ts_getR (pc' := 61) (ci := 10) 6 cfX11.1 cfX11.2.1 cfX11.2.2 rfl (by decide) hnX11_count_X11 flX11_count_65 rfl dX11_count_58 c7 c8 ?_
    obtain ⟨c9, W⟩ := W
    refine ts_getI (pc' := 64) (ci := 1) 9 cfX1.1 cfX1.2.1 cfX1.2.2 rfl (by decide) hnX11_count_X1 flX11_count_155 rfl dX11_count_61 c9 ?_
    exact ts_iret dX11_count_64 rfl (Nat.le_refl _) (Nat.le_refl _) ⟨rfl, _, rfl, W⟩
  replace W := W.2
  by_cases q10 : p0 = 2
  · replace W := W.1 q10
    refine ts_tableI (i := 2) (off := 64) (tgt := 65) dX11_count_1 (by rw [q10]; rfl) (by decide) (by decide) rfl (by decide) ?_
    refine ts_aload_n 0 (pc' := 66) rfl dX11_count_65 rfl rfl ?_
    obtain ⟨c11, W⟩ := W
    obtain ⟨c12, W⟩ := W
    refine ts_getR (pc' := 69) (ci := 10) 6 cfX11.1 cfX11.2.1 cfX11.2.2 rfl (by decide) hnX11_count_X11 flX11_count_65 rfl dX11_count_66 c11 c12 ?_
    obtain ⟨c13, W⟩ := W
    refine ts_getI (pc' := 72) (ci := 1) 10 cfX1.1 cfX1.2.1 cfX1.2.2 rfl (by decide) hnX11_count_X1 flX11_count_159 rfl dX11_count_69 c13 ?_
    exact ts_iret dX11_count_72 rfl (Nat.le_refl _) (Nat.le_refl _) ⟨rfl, _, rfl, W⟩
  replace W := W.2
  by_cases q14 : p0 = 3
  · replace W := W.1 q14
    refine ts_tableI (i := 3) (off := 72) (tgt := 73) dX11_count_1 (by rw [q14]; rfl) (by decide) (by decide) rfl (by decide) ?_
    refine ts_aload_n 0 (pc' := 74) rfl dX11_count_73 rfl rfl ?_
    obtain ⟨c15, W⟩ := W
    obtain ⟨c16, W⟩ := W
    refine ts_getR (pc' := 77) (ci := 10) 6 cfX11.1 cfX11.2.1 cfX11.2.2 rfl (by decide) hnX11_count_X11 flX11_count_65 rfl dX11_count_74 c15 c16 ?_
    obtain ⟨c17, W⟩ := W
    refine ts_getI (pc' := 80) (ci := 1) 11 cfX1.1 cfX1.2.1 cfX1.2.2 rfl (by decide) hnX11_count_X1 flX11_count_195 rfl dX11_count_77 c17 ?_
    exact ts_iret dX11_count_80 rfl (Nat.le_refl _) (Nat.le_refl _) ⟨rfl, _, rfl, W⟩
  replace W := W.2
  by_cases q18 : p0 = 4
  · replace W := W.1 q18
    refine ts_tableI (i := 4) (off := 80) (tgt := 81) dX11_count_1 (by rw [q18]; rfl) (by decide) (by decide) rfl (by decide) ?_
    refine ts_aload_n 0 (pc' := 82) rfl dX11_count_81 rfl rfl ?_
    obtain ⟨c19, W⟩ := W
    obtain ⟨c20, W⟩ := W
    refine ts_getR (pc' := 85) (ci := 10) 6 cfX11.1 cfX11.2.1 cfX11.2.2 rfl (by decide) hnX11_count_X11 flX11_count_65 rfl dX11_count_82 c19 c20 ?_
    obtain ⟨c21, W⟩ := W
    refine ts_getI (pc' := 88) (ci := 1) 12 cfX1.1 cfX1.2.1 cfX1.2.2 rfl (by decide) hnX11_count_X1 flX11_count_294 rfl dX11_count_85 c21 ?_
    exact ts_iret dX11_count_88 rfl (Nat.le_refl _) (Nat.le_refl _) ⟨rfl, _, rfl, W⟩
  replace W := W.2
  by_cases q22 : p0 = 5
  · replace W := W.1 q22
    refine ts_tableI (i := 5) (off := 88) (tgt := 89) dX11_count_1 (by rw [q22]; rfl) (by decide) (by decide) rfl (by decide) ?_
    refine ts_aload_n 0 (pc' := 90) rfl dX11_count_89 rfl rfl ?_
    obtain ⟨c23, W⟩ := W
    obtain ⟨c24, W⟩ := W
    refine ts_getR (pc' := 93) (ci := 10) 6 cfX11.1 cfX11.2.1 cfX11.2.2 rfl (by decide) hnX11_count_X11 flX11_count_65 rfl dX11_count_90 c23 c24 ?_
    obtain ⟨c28, W⟩ := W
    refine ts_callV (pc' := 96) (av := []) (b := (g.2.2.2 o 6)) rfl dX11_count_93 rfl gX11_count_X1_allRanks rfl dvX1_allRanks rfl (ci := 1) cfX1.1 (by decide) c28 (Nat.le_refl _) (Nat.le_of_ble_eq_true rfl) (Nat.le_of_ble_eq_true rfl) (Nat.le_refl _) (Nat.le_refl _) ts_kv0 W (ts_kki fun v27 hi25 hk26 W => ?_)
    exact ts_iret dX11_count_96 rfl (Nat.le_refl _) (Nat.le_refl _) ⟨rfl, _, rfl, W⟩
  replace W := W.2
  by_cases q29 : p0 = 6
  · replace W := W.1 q29
    refine ts_tableI (i := 6) (off := 96) (tgt := 97) dX11_count_1 (by rw [q29]; rfl) (by decide) (by decide) rfl (by decide) ?_
    refine ts_aload_n 0 (pc' := 98) rfl dX11_count_97 rfl rfl ?_
    obtain ⟨c30, W⟩ := W
    obtain ⟨c31, W⟩ := W
    refine ts_getR (pc' := 101) (ci := 10) 6 cfX11.1 cfX11.2.1 cfX11.2.2 rfl (by decide) hnX11_count_X11 flX11_count_65 rfl dX11_count_98 c30 c31 ?_
    obtain ⟨c35, W⟩ := W
    refine ts_callV (pc' := 104) (av := []) (b := (g.2.2.2 o 6)) rfl dX11_count_101 rfl gX11_count_X1_allMarried rfl dvX1_allMarried rfl (ci := 1) cfX1.1 (by decide) c35 (Nat.le_refl _) (Nat.le_of_ble_eq_true rfl) (Nat.le_of_ble_eq_true rfl) (Nat.le_refl _) (Nat.le_refl _) ts_kv0 W (ts_kki fun v34 hi32 hk33 W => ?_)
    exact ts_iret dX11_count_104 rfl (Nat.le_refl _) (Nat.le_refl _) ⟨rfl, _, rfl, W⟩
  replace W := W.2
  by_cases q36 : p0 = 7
  · replace W := W.1 q36
    refine ts_tableI (i := 7) (off := 104) (tgt := 105) dX11_count_1 (by rw [q36]; rfl) (by decide) (by decide) rfl (by decide) ?_
    refine ts_aload_n 0 (pc' := 106) rfl dX11_count_105 rfl rfl ?_
    obtain ⟨c37, W⟩ := W
    refine ts_getI (pc' := 109) (ci := 10) 12 cfX11.1 cfX11.2.1 cfX11.2.2 rfl (by decide) hnX11_count_X11 flX11_count_152 rfl dX11_count_106 c37 ?_
    exact ts_iret dX11_count_109 rfl (Nat.le_refl _) (Nat.le_refl _) ⟨rfl, _, rfl, W⟩
  replace W := W.2
  by_cases q38 : p0 = 8
  · replace W := W.1 q38
    refine ts_tableI (i := 8) (off := 109) (tgt := 110) dX11_count_1 (by rw [q38]; rfl) (by decide) (by decide) rfl (by decide) ?_
    refine ts_aload_n 0 (pc' := 111) rfl dX11_count_110 rfl rfl ?_
    obtain ⟨c39, W⟩ := W
    obtain ⟨c40, W⟩ := W
    refine ts_getR (pc' := 114) (ci := 10) 1 cfX11.1 cfX11.2.1 cfX11.2.2 rfl (by decide) hnX11_count_X11 flX11_count_18 rfl dX11_count_111 c39 c40 ?_
    obtain ⟨c41, W⟩ := W
    refine ts_getI (pc' := 117) (ci := 8) 1 cfX9.1 cfX9.2.1 cfX9.2.2 rfl (by decide) hnX11_count_X9 flX11_count_132 rfl dX11_count_114 c41 ?_
    exact ts_iret dX11_count_117 rfl (Nat.le_refl _) (Nat.le_refl _) ⟨rfl, _, rfl, W⟩
  replace W := W.2
  replace W := W q1 q6 q10 q14 q18 q22 q29 q36 q38
  refine ts_tableO (tgt := 118) dX11_count_1 (ts_swout (lo := 0) (n := 9) (by decide) (by decide) (by intro i hi0; have h0 : i = 0 ∨ i = 1 ∨ i = 2 ∨ i = 3 ∨ i = 4 ∨ i = 5 ∨ i = 6 ∨ i = 7 ∨ i = 8 := by omega; rcases h0 with rfl | rfl | rfl | rfl | rfl | rfl | rfl | rfl | rfl
    · exact q1
    · exact q6
    · exact q10
    · exact q14
    · exact q18
    · exact q22
    · exact q29
    · exact q36
    · exact q38)) (by decide) ?_
  refine ts_ldc (v := (-1000001)) (pc' := 120) rfl dX11_count_118 (by decide +kernel) ?_
  exact ts_iret dX11_count_120 rfl (Nat.le_refl _) (Nat.le_refl _) ⟨rfl, _, rfl, W⟩
