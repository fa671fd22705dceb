set_option maxHeartbeats 4000000 in
theorem wJ6_bitCount_0f7a4_0 {d : Nat} {g : ts_G} {Q : Int32 → ts_I → ts_K → Prop} {p0 : Int32} {hi : ts_I} {hk : ts_K} (W : Q ((((((((p0 - ((p0.toUInt32 >>> ((1 : Int32).toUInt32 &&& Int32.toUInt32 31)).toInt32 &&& 1431655765)) &&& 858993459) + (((p0 - ((p0.toUInt32 >>> ((1 : Int32).toUInt32 &&& Int32.toUInt32 31)).toInt32 &&& 1431655765)).toUInt32 >>> ((2 : Int32).toUInt32 &&& Int32.toUInt32 31)).toInt32 &&& 858993459)) + ((((p0 - ((p0.toUInt32 >>> ((1 : Int32).toUInt32 &&& Int32.toUInt32 31)).toInt32 &&& 1431655765)) &&& 858993459) + (((p0 - ((p0.toUInt32 >>> ((1 : Int32).toUInt32 &&& Int32.toUInt32 31)).toInt32 &&& 1431655765)).toUInt32 >>> ((2 : Int32).toUInt32 &&& Int32.toUInt32 31)).toInt32 &&& 858993459)).toUInt32 >>> ((4 : Int32).toUInt32 &&& Int32.toUInt32 31)).toInt32) &&& 252645135) + ((((((p0 - ((p0.toUInt32 >>> ((1 : Int32).toUInt32 &&& Int32.toUInt32 31)).toInt32 &&& 1431655765)) &&& 858993459) + (((p0 - ((p0.toUInt32 >>> ((1 : Int32).toUInt32 &&& Int32.toUInt32 31)).toInt32 &&& 1431655765)).toUInt32 >>> ((2 : Int32).toUInt32 &&& Int32.toUInt32 31)).toInt32 &&& 858993459)) + ((((p0 - ((p0.toUInt32 >>> ((1 : Int32).toUInt32 &&& Int32.toUInt32 31)).toInt32 &&& 1431655765)) &&& 858993459) + (((p0 - ((p0.toUInt32 >>> ((1 : Int32).toUInt32 &&& Int32.toUInt32 31)).toInt32 &&& 1431655765)).toUInt32 >>> ((2 : Int32).toUInt32 &&& Int32.toUInt32 31)).toInt32 &&& 858993459)).toUInt32 >>> ((4 : Int32).toUInt32 &&& Int32.toUInt32 31)).toInt32) &&& 252645135).toUInt32 >>> ((8 : Int32).toUInt32 &&& Int32.toUInt32 31)).toInt32) + (((((((p0 - ((p0.toUInt32 >>> ((1 : Int32).toUInt32 &&& Int32.toUInt32 31)).toInt32 &&& 1431655765)) &&& 858993459) + (((p0 - ((p0.toUInt32 >>> ((1 : Int32).toUInt32 &&& Int32.toUInt32 31)).toInt32 &&& 1431655765)).toUInt32 >>> ((2 : Int32).toUInt32 &&& Int32.toUInt32 31)).toInt32 &&& 858993459)) + ((((p0 - ((p0.toUInt32 >>> ((1 : Int32).toUInt32 &&& Int32.toUInt32 31)).toInt32 &&& 1431655765)) &&& 858993459) + (((p0 - ((p0.toUInt32 >>> ((1 : Int32).toUInt32 &&& Int32.toUInt32 31)).toInt32 &&& 1431655765)).toUInt32 >>> ((2 : Int32).toUInt32 &&& Int32.toUInt32 31)).toInt32 &&& 858993459)).toUInt32 >>> ((4 : Int32).toUInt32 &&& Int32.toUInt32 31)).toInt32) &&& 252645135) + ((((((p0 - ((p0.toUInt32 >>> ((1 : Int32).toUInt32 &&& Int32.toUInt32 31)).toInt32 &&& 1431655765)) &&& 858993459) + (((p0 - ((p0.toUInt32 >>> ((1 : Int32).toUInt32 &&& Int32.toUInt32 31)).toInt32 &&& 1431655765)).toUInt32 >>> ((2 : Int32).toUInt32 &&& Int32.toUInt32 31)).toInt32 &&& 858993459)) + ((((p0 - ((p0.toUInt32 >>> ((1 : Int32).toUInt32 &&& Int32.toUInt32 31)).toInt32 &&& 1431655765)) &&& 858993459) + (((p0 - ((p0.toUInt32 >>> ((1 : Int32).toUInt32 &&& Int32.toUInt32 31)).toInt32 &&& 1431655765)).toUInt32 >>> ((2 : Int32).toUInt32 &&& Int32.toUInt32 31)).toInt32 &&& 858993459)).toUInt32 >>> ((4 : Int32).toUInt32 &&& Int32.toUInt32 31)).toInt32) &&& 252645135).toUInt32 >>> ((8 : Int32).toUInt32 &&& Int32.toUInt32 31)).toInt32).toUInt32 >>> ((16 : Int32).toUInt32 &&& Int32.toUInt32 31)).toInt32) &&& 63) hi hk) : ts_J0 d mJ6_bitCount_0f7a4 (ts_qi Q) g 0 [(0, .int p0)] [] hi hk := by
  refine ts_iload_n 0 (pc' := 1) rfl dJ6_bitCount_0f7a4_0 rfl rfl ?_
  refine ts_iload_n 0 (pc' := 2) rfl dJ6_bitCount_0f7a4_1 rfl rfl ?_
  refine ts_iconst (v := 1) (pc' := 3) rfl dJ6_bitCount_0f7a4_2 (by decide) ?_
  refine ts_iushr (pc' := 4) rfl dJ6_bitCount_0f7a4_3 rfl ?_
  refine ts_ldcw (v := 1431655765) (pc' := 7) rfl dJ6_bitCount_0f7a4_4 (by decide +kernel) ?_
  refine ts_iand (pc' := 8) rfl dJ6_bitCount_0f7a4_7 ?_
  refine ts_isub (pc' := 9) rfl dJ6_bitCount_0f7a4_8 ?_
  refine ts_istore_n (pc' := 10) (ls' := [(0, .int (p0 - ((p0.toUInt32 >>> ((1 : Int32).toUInt32 &&& Int32.toUInt32 31)).toInt32 &&& 1431655765)))]) rfl dJ6_bitCount_0f7a4_9 rfl (Nat.le_of_ble_eq_true rfl) rfl ?_
  refine ts_iload_n 0 (pc' := 11) rfl dJ6_bitCount_0f7a4_10 rfl rfl ?_
  refine ts_ldcw (v := 858993459) (pc' := 14) rfl dJ6_bitCount_0f7a4_11 (by decide +kernel) ?_
  refine ts_iand (pc' := 15) rfl dJ6_bitCount_0f7a4_14 ?_
  refine ts_iload_n 0 (pc' := 16) rfl dJ6_bitCount_0f7a4_15 rfl rfl ?_
  refine ts_iconst (v := 2) (pc' := 17) rfl dJ6_bitCount_0f7a4_16 (by decide) ?_
  refine ts_iushr (pc' := 18) rfl dJ6_bitCount_0f7a4_17 rfl ?_
  refine ts_ldcw (v := 858993459) (pc' := 21) rfl dJ6_bitCount_0f7a4_18 (by decide +kernel) ?_
  refine ts_iand (pc' := 22) rfl dJ6_bitCount_0f7a4_21 ?_
  refine ts_iadd (pc' := 23) rfl dJ6_bitCount_0f7a4_22 ?_
  refine ts_istore_n (pc' := 24) (ls' := [(0, .int (((p0 - ((p0.toUInt32 >>> ((1 : Int32).toUInt32 &&& Int32.toUInt32 31)).toInt32 &&& 1431655765)) &&& 858993459) + (((p0 - ((p0.toUInt32 >>> ((1 : Int32).toUInt32 &&& Int32.toUInt32 31)).toInt32 &&& 1431655765)).toUInt32 >>> ((2 : Int32).toUInt32 &&& Int32.toUInt32 31)).toInt32 &&& 858993459)))]) rfl dJ6_bitCount_0f7a4_23 rfl (Nat.le_of_ble_eq_true rfl) rfl ?_
  refine ts_iload_n 0 (pc' := 25) rfl dJ6_bitCount_0f7a4_24 rfl rfl ?_
  refine ts_iload_n 0 (pc' := 26) rfl dJ6_bitCount_0f7a4_25 rfl rfl ?_
  refine ts_iconst (v := 4) (pc' := 27) rfl dJ6_bitCount_0f7a4_26 (by decide) ?_
  refine ts_iushr (pc' := 28) rfl dJ6_bitCount_0f7a4_27 rfl ?_
  refine ts_iadd (pc' := 29) rfl dJ6_bitCount_0f7a4_28 ?_
  refine ts_ldcw (v := 252645135) (pc' := 32) rfl dJ6_bitCount_0f7a4_29 (by decide +kernel) ?_
  refine ts_iand (pc' := 33) rfl dJ6_bitCount_0f7a4_32 ?_
  refine ts_istore_n (pc' := 34) (ls' := [(0, .int (((((p0 - ((p0.toUInt32 >>> ((1 : Int32).toUInt32 &&& Int32.toUInt32 31)).toInt32 &&& 1431655765)) &&& 858993459) + (((p0 - ((p0.toUInt32 >>> ((1 : Int32).toUInt32 &&& Int32.toUInt32 31)).toInt32 &&& 1431655765)).toUInt32 >>> ((2 : Int32).toUInt32 &&& Int32.toUInt32 31)).toInt32 &&& 858993459)) + ((((p0 - ((p0.toUInt32 >>> ((1 : Int32).toUInt32 &&& Int32.toUInt32 31)).toInt32 &&& 1431655765)) &&& 858993459) + (((p0 - ((p0.toUInt32 >>> ((1 : Int32).toUInt32 &&& Int32.toUInt32 31)).toInt32 &&& 1431655765)).toUInt32 >>> ((2 : Int32).toUInt32 &&& Int32.toUInt32 31)).toInt32 &&& 858993459)).toUInt32 >>> ((4 : Int32).toUInt32 &&& Int32.toUInt32 31)).toInt32) &&& 252645135))]) rfl dJ6_bitCount_0f7a4_33 rfl (Nat.le_of_ble_eq_true rfl) rfl ?_
  refine ts_iload_n 0 (pc' := 35) rfl dJ6_bitCount_0f7a4_34 rfl rfl ?_
  refine ts_iload_n 0 (pc' := 36) rfl dJ6_bitCount_0f7a4_35 rfl rfl ?_
  refine ts_bipush (v := 8) (pc' := 38) rfl dJ6_bitCount_0f7a4_36 (by decide) ?_
  refine ts_iushr (pc' := 39) rfl dJ6_bitCount_0f7a4_38 rfl ?_
  refine ts_iadd (pc' := 40) rfl dJ6_bitCount_0f7a4_39 ?_
  refine ts_istore_n (pc' := 41) (ls' := [(0, .int ((((((p0 - ((p0.toUInt32 >>> ((1 : Int32).toUInt32 &&& Int32.toUInt32 31)).toInt32 &&& 1431655765)) &&& 858993459) + (((p0 - ((p0.toUInt32 >>> ((1 : Int32).toUInt32 &&& Int32.toUInt32 31)).toInt32 &&& 1431655765)).toUInt32 >>> ((2 : Int32).toUInt32 &&& Int32.toUInt32 31)).toInt32 &&& 858993459)) + ((((p0 - ((p0.toUInt32 >>> ((1 : Int32).toUInt32 &&& Int32.toUInt32 31)).toInt32 &&& 1431655765)) &&& 858993459) + (((p0 - ((p0.toUInt32 >>> ((1 : Int32).toUInt32 &&& Int32.toUInt32 31)).toInt32 &&& 1431655765)).toUInt32 >>> ((2 : Int32).toUInt32 &&& Int32.toUInt32 31)).toInt32 &&& 858993459)).toUInt32 >>> ((4 : Int32).toUInt32 &&& Int32.toUInt32 31)).toInt32) &&& 252645135) + ((((((p0 - ((p0.toUInt32 >>> ((1 : Int32).toUInt32 &&& Int32.toUInt32 31)).toInt32 &&& 1431655765)) &&& 858993459) + (((p0 - ((p0.toUInt32 >>> ((1 : Int32).toUInt32 &&& Int32.toUInt32 31)).toInt32 &&& 1431655765)).toUInt32 >>> ((2 : Int32).toUInt32 &&& Int32.toUInt32 31)).toInt32 &&& 858993459)) + ((((p0 - ((p0.toUInt32 >>> ((1 : Int32).toUInt32 &&& Int32.toUInt32 31)).toInt32 &&& 1431655765)) &&& 858993459) + (((p0 - ((p0.toUInt32 >>> ((1 : Int32).toUInt32 &&& Int32.toUInt32 31)).toInt32 &&& 1431655765)).toUInt32 >>> ((2 : Int32).toUInt32 &&& Int32.toUInt32 31)).toInt32 &&& 858993459)).toUInt32 >>> ((4 : Int32).toUInt32 &&& Int32.toUInt32 31)).toInt32) &&& 252645135).toUInt32 >>> ((8 : Int32).toUInt32 &&& Int32.toUInt32 31)).toInt32))]) rfl dJ6_bitCount_0f7a4_40 rfl (Nat.le_of_ble_eq_true rfl) rfl ?_
  refine ts_iload_n 0 (pc' := 42) rfl dJ6_bitCount_0f7a4_41 rfl rfl ?_
  refine ts_iload_n 0 (pc' := 43) rfl dJ6_bitCount_0f7a4_42 rfl rfl ?_
  refine ts_bipush (v := 16) (pc' := 45) rfl dJ6_bitCount_0f7a4_43 (by decide) ?_
  refine ts_iushr (pc' := 46) rfl dJ6_bitCount_0f7a4_45 rfl ?_
  refine ts_iadd (pc' := 47) rfl dJ6_bitCount_0f7a4_46 ?_
  refine ts_istore_n (pc' := 48) (ls' := [(0, .int (((((((p0 - ((p0.toUInt32 >>> ((1 : Int32).toUInt32 &&& Int32.toUInt32 31)).toInt32 &&& 1431655765)) &&& 858993459) + (((p0 - ((p0.toUInt32 >>> ((1 : Int32).toUInt32 &&& Int32.toUInt32 31)).toInt32 &&& 1431655765)).toUInt32 >>> ((2 : Int32).toUInt32 &&& Int32.toUInt32 31)).toInt32 &&& 858993459)) + ((((p0 - ((p0.toUInt32 >>> ((1 : Int32).toUInt32 &&& Int32.toUInt32 31)).toInt32 &&& 1431655765)) &&& 858993459) + (((p0 - ((p0.toUInt32 >>> ((1 : Int32).toUInt32 &&& Int32.toUInt32 31)).toInt32 &&& 1431655765)).toUInt32 >>> ((2 : Int32).toUInt32 &&& Int32.toUInt32 31)).toInt32 &&& 858993459)).toUInt32 >>> ((4 : Int32).toUInt32 &&& Int32.toUInt32 31)).toInt32) &&& 252645135) + ((((((p0 - ((p0.toUInt32 >>> ((1 : Int32).toUInt32 &&& Int32.toUInt32 31)).toInt32 &&& 1431655765)) &&& 858993459) + (((p0 - ((p0.toUInt32 >>> ((1 : Int32).toUInt32 &&& Int32.toUInt32 31)).toInt32 &&& 1431655765)).toUInt32 >>> ((2 : Int32).toUInt32 &&& Int32.toUInt32 31)).toInt32 &&& 858993459)) + ((((p0 - ((p0.toUInt32 >>> ((1 : Int32).toUInt32 &&& Int32.toUInt32 31)).toInt32 &&& 1431655765)) &&& 858993459) + (((p0 - ((p0.toUInt32 >>> ((1 : Int32).toUInt32 &&& Int32.toUInt32 31)).toInt32 &&& 1431655765)).toUInt32 >>> ((2 : Int32).toUInt32 &&& Int32.toUInt32 31)).toInt32 &&& 858993459)).toUInt32 >>> ((4 : Int32).toUInt32 &&& Int32.toUInt32 31)).toInt32) &&& 252645135).toUInt32 >>> ((8 : Int32).toUInt32 &&& Int32.toUInt32 31)).toInt32) + (((((((p0 - ((p0.toUInt32 >>> ((1 : Int32).toUInt32 &&& Int32.toUInt32 31)).toInt32 &&& 1431655765)) &&& 858993459) + (((p0 - ((p0.toUInt32 >>> ((1 : Int32).toUInt32 &&& Int32.toUInt32 31)).toInt32 &&& 1431655765)).toUInt32 >>> ((2 : Int32).toUInt32 &&& Int32.toUInt32 31)).toInt32 &&& 858993459)) + ((((p0 - ((p0.toUInt32 >>> ((1 : Int32).toUInt32 &&& Int32.toUInt32 31)).toInt32 &&& 1431655765)) &&& 858993459) + (((p0 - ((p0.toUInt32 >>> ((1 : Int32).toUInt32 &&& Int32.toUInt32 31)).toInt32 &&& 1431655765)).toUInt32 >>> ((2 : Int32).toUInt32 &&& Int32.toUInt32 31)).toInt32 &&& 858993459)).toUInt32 >>> ((4 : Int32).toUInt32 &&& Int32.toUInt32 31)).toInt32) &&& 252645135) + ((((((p0 - ((p0.toUInt32 >>> ((1 : Int32).toUInt32 &&& Int32.toUInt32 31)).toInt32 &&& 1431655765)) &&& 858993459) + (((p0 - ((p0.toUInt32 >>> ((1 : Int32).toUInt32 &&& Int32.toUInt32 31)).toInt32 &&& 1431655765)).toUInt32 >>> ((2 : Int32).toUInt32 &&& Int32.toUInt32 31)).toInt32 &&& 858993459)) + ((((p0 - ((p0.toUInt32 >>> ((1 : Int32).toUInt32 &&& Int32.toUInt32 31)).toInt32 &&& 1431655765)) &&& 858993459) + (((p0 - ((p0.toUInt32 >>> ((1 : Int32).toUInt32 &&& Int32.toUInt32 31)).toInt32 &&& 1431655765)).toUInt32 >>> ((2 : Int32).toUInt32 &&& Int32.toUInt32 31)).toInt32 &&& 858993459)).toUInt32 >>> ((4 : Int32).toUInt32 &&& Int32.toUInt32 31)).toInt32) &&& 252645135).toUInt32 >>> ((8 : Int32).toUInt32 &&& Int32.toUInt32 31)).toInt32).toUInt32 >>> ((16 : Int32).toUInt32 &&& Int32.toUInt32 31)).toInt32))]) rfl dJ6_bitCount_0f7a4_47 rfl (Nat.le_of_ble_eq_true rfl) rfl ?_
  refine ts_iload_n 0 (pc' := 49) rfl dJ6_bitCount_0f7a4_48 rfl rfl ?_
  refine ts_bipush (v := 63) (pc' := 51) rfl dJ6_bitCount_0f7a4_49 (by decide) ?_
  refine ts_iand (pc' := 52) rfl dJ6_bitCount_0f7a4_51 ?_
  exact ts_iret dJ6_bitCount_0f7a4_52 rfl (Nat.le_refl _) (Nat.le_refl _) ⟨rfl, _, rfl, W⟩
set_option maxHeartbeats 4000000 in
theorem wJ7_fill_53178_0 {d : Nat} {g : ts_G} {Q : ts_I → ts_K → Prop} {p0 : Nat} {p1 : Int32} {hi : ts_I} {hk : ts_K} (W : (g.2.1 p0 = 100) ∧ ts_J0 d mJ7_fill_53178 (ts_qv Q) g 5 [(0, .ref p0), (1, .int p1), (2, .int 0), (3, .int (Int32.ofNat (g.2.2.1 p0)))] [] hi hk) : ts_J0 d mJ7_fill_53178 (ts_qv Q) g 0 [(0, .ref p0), (1, .int p1)] [] hi hk := by
  refine ts_iconst (v := 0) (pc' := 1) rfl dJ7_fill_53178_0 (by decide) ?_
  refine ts_istore_n (pc' := 2) (ls' := [(2, .int 0), (0, .ref p0), (1, .int p1)]) rfl dJ7_fill_53178_1 rfl (Nat.le_of_ble_eq_true rfl) rfl ?_
  refine ts_aload_n 1 (pc' := 3) rfl dJ7_fill_53178_2 rfl rfl ?_
  obtain ⟨c1, W⟩ := W
  refine ts_alen (pc' := 4) rfl dJ7_fill_53178_3 (Or.inl c1) rfl ?_
  refine ts_istore_n (pc' := 5) (ls' := [(3, .int (Int32.ofNat (g.2.2.1 p0))), (2, .int 0), (0, .ref p0), (1, .int p1)]) rfl dJ7_fill_53178_4 rfl (Nat.le_of_ble_eq_true rfl) rfl ?_
  exact ts_sub [2, 3, 1, 0] rfl W
set_option maxHeartbeats 4000000 in
theorem wJ7_fill_53178_5 {d : Nat} {g : ts_G} {Q : ts_I → ts_K → Prop} {l0 : Nat} {l1 : Int32} {l2 : Int32} {l3 : Int32} {hi : ts_I} {hk : ts_K} (W : ((l3 ≤ l2) → Q hi hk) ∧ (¬ (l3 ≤ l2) → (g.2.1 l0 = 100) ∧ (vp_in l2 (g.2.2.1 l0)) ∧ ∀ hi4 : ts_I, hi4 = ts_up hi l0 l2.toNatClampNeg l1 → ts_J0 d mJ7_fill_53178 (ts_qv Q) g 5 [(0, .ref l0), (1, .int l1), (2, .int (l2 + 1)), (3, .int l3)] [] hi4 hk)) : ts_J0 d mJ7_fill_53178 (ts_qv Q) g 5 [(0, .ref l0), (1, .int l1), (2, .int l2), (3, .int l3)] [] hi hk := by
  refine ts_iload_n 2 (pc' := 6) rfl dJ7_fill_53178_5 rfl rfl ?_
  refine ts_iload_n 3 (pc' := 7) rfl dJ7_fill_53178_6 rfl rfl ?_
  refine ts_icmp_ge (pc' := 10) (tgt := 20) rfl dJ7_fill_53178_7 (by decide) (fun q1 => ?_) (fun q1 => ?_)
  · replace W := W.1 q1
    exact ts_vret dJ7_fill_53178_20 rfl (Nat.le_refl _) (Nat.le_refl _) ⟨rfl, rfl, W⟩
  · replace W := W.2 q1
    refine ts_aload_n 0 (pc' := 11) rfl dJ7_fill_53178_10 rfl rfl ?_
    refine ts_iload_n 2 (pc' := 12) rfl dJ7_fill_53178_11 rfl rfl ?_
    refine ts_iload_n 1 (pc' := 13) rfl dJ7_fill_53178_12 rfl rfl ?_
    obtain ⟨c2, W⟩ := W
    obtain ⟨c3, W⟩ := W
    refine ts_iastore (pc' := 14) rfl dJ7_fill_53178_13 c2 c3 ?_
    obtain ⟨hi4, ehi4⟩ : ∃ z, z = ts_up hi l0 l2.toNatClampNeg l1 := ⟨_, rfl⟩
    rw [← ehi4]; replace W := W hi4 ehi4
    refine ts_iinc 2 (pc' := 17) (ls' := [(2, .int (l2 + 1)), (0, .ref l0), (1, .int l1), (3, .int l3)]) rfl dJ7_fill_53178_14 rfl rfl (Nat.le_of_ble_eq_true rfl) rfl ?_
    refine ts_goto (tgt := 5) dJ7_fill_53178_17 (by decide) ?_
    exact ts_sub [1, 2, 0, 3] rfl W
set_option maxHeartbeats 4000000 in
theorem wX2_isA_0 {d : Nat} {g : ts_G} {Q : Int32 → ts_I → ts_K → Prop} {o : Nat} {p0 : Int32} {hi : ts_I} {hk : ts_K} (W : (p0 = 1 → (g.2.1 o = 0 ∨ g.2.1 o = 2 ∨ g.2.1 o = 3 ∨ g.2.1 o = 4 ∨ g.2.1 o = 7) ∧ ((if g.2.1 o ∈ ([2, 3, 4] : List Nat) then (1 : Int32) else 0) = 0 ∨ (if g.2.1 o ∈ ([2, 3, 4] : List Nat) then (1 : Int32) else 0) = 1) ∧ Q (if g.2.1 o ∈ ([2, 3, 4] : List Nat) then (1 : Int32) else 0) hi hk) ∧ (p0 = 2 → (g.2.1 o = 0 ∨ g.2.1 o = 2 ∨ g.2.1 o = 3 ∨ g.2.1 o = 4 ∨ g.2.1 o = 7) ∧ ((if g.2.1 o ∈ ([2] : List Nat) then (1 : Int32) else 0) = 0 ∨ (if g.2.1 o ∈ ([2] : List Nat) then (1 : Int32) else 0) = 1) ∧ Q (if g.2.1 o ∈ ([2] : List Nat) then (1 : Int32) else 0) hi hk) ∧ (p0 = 3 → (g.2.1 o = 0 ∨ g.2.1 o = 2 ∨ g.2.1 o = 3 ∨ g.2.1 o = 4 ∨ g.2.1 o = 7) ∧ ((if g.2.1 o ∈ ([4] : List Nat) then (1 : Int32) else 0) = 0 ∨ (if g.2.1 o ∈ ([4] : List Nat) then (1 : Int32) else 0) = 1) ∧ Q (if g.2.1 o ∈ ([4] : List Nat) then (1 : Int32) else 0) hi hk) ∧ (p0 = 4 → (g.2.1 o = 0 ∨ g.2.1 o = 2 ∨ g.2.1 o = 3 ∨ g.2.1 o = 4 ∨ g.2.1 o = 7) ∧ ((if g.2.1 o ∈ ([0, 7] : List Nat) then (1 : Int32) else 0) = 0 ∨ (if g.2.1 o ∈ ([0, 7] : List Nat) then (1 : Int32) else 0) = 1) ∧ Q (if g.2.1 o ∈ ([0, 7] : List Nat) then (1 : Int32) else 0) hi hk) ∧ (p0 = 5 → (g.2.1 o = 0 ∨ g.2.1 o = 2 ∨ g.2.1 o = 3 ∨ g.2.1 o = 4 ∨ g.2.1 o = 7) ∧ ((if g.2.1 o ∈ ([7] : List Nat) then (1 : Int32) else 0) = 0 ∨ (if g.2.1 o ∈ ([7] : List Nat) then (1 : Int32) else 0) = 1) ∧ Q (if g.2.1 o ∈ ([7] : List Nat) then (1 : Int32) else 0) hi hk) ∧ (¬ p0 = 1 → ¬ p0 = 2 → ¬ p0 = 3 → ¬ p0 = 4 → ¬ p0 = 5 → ((p0 ≠ 0) → Q 0 hi hk) ∧ (¬ (p0 ≠ 0) → Q 1 hi hk))) : ts_J0 d mX2_isA (ts_qi Q) g 0 [(0, .ref o), (1, .int p0)] [] hi hk := by
  refine ts_iload_n 1 (pc' := 1) rfl dX2_isA_0 rfl rfl ?_
  by_cases q1 : p0 = 1
  · replace W := W.1 q1
    refine ts_tableI (i := 1) (off := 35) (tgt := 36) dX2_isA_1 (by rw [q1]; rfl) (by decide) (by decide) rfl (by decide) ?_
    refine ts_aload_n 0 (pc' := 37) rfl dX2_isA_36 rfl rfl ?_
    obtain ⟨c2, W⟩ := W
    refine ts_instX4 (pc' := 40) rfl dX2_isA_37 (by decide +kernel) c2 ?_
    obtain ⟨c3, W⟩ := W
    exact ts_zret dX2_isA_40 rfl c3 (Nat.le_refl _) (Nat.le_refl _) ⟨rfl, _, rfl, W⟩
  replace W := W.2
  by_cases q4 : p0 = 2
  · replace W := W.1 q4
    refine ts_tableI (i := 2) (off := 40) (tgt := 41) dX2_isA_1 (by rw [q4]; rfl) (by decide) (by decide) rfl (by decide) ?_
    refine ts_aload_n 0 (pc' := 42) rfl dX2_isA_41 rfl rfl ?_
    obtain ⟨c5, W⟩ := W
    refine ts_instX3 (pc' := 45) rfl dX2_isA_42 (by decide +kernel) c5 ?_
    obtain ⟨c6, W⟩ := W
    exact ts_zret dX2_isA_45 rfl c6 (Nat.le_refl _) (Nat.le_refl _) ⟨rfl, _, rfl, W⟩
  replace W := W.2
  by_cases q7 : p0 = 3
  · replace W := W.1 q7
    refine ts_tableI (i := 3) (off := 45) (tgt := 46) dX2_isA_1 (by rw [q7]; rfl) (by decide) (by decide) rfl (by decide) ?_
    refine ts_aload_n 0 (pc' := 47) rfl dX2_isA_46 rfl rfl ?_
    obtain ⟨c8, W⟩ := W
    refine ts_instX5 (pc' := 50) rfl dX2_isA_47 (by decide +kernel) c8 ?_
    obtain ⟨c9, W⟩ := W
    exact ts_zret dX2_isA_50 rfl c9 (Nat.le_refl _) (Nat.le_refl _) ⟨rfl, _, rfl, W⟩
  replace W := W.2
  by_cases q10 : p0 = 4
  · replace W := W.1 q10
    refine ts_tableI (i := 4) (off := 50) (tgt := 51) dX2_isA_1 (by rw [q10]; rfl) (by decide) (by decide) rfl (by decide) ?_
    refine ts_aload_n 0 (pc' := 52) rfl dX2_isA_51 rfl rfl ?_
    obtain ⟨c11, W⟩ := W
    refine ts_instX0 (pc' := 55) rfl dX2_isA_52 (by decide +kernel) c11 ?_
    obtain ⟨c12, W⟩ := W
    exact ts_zret dX2_isA_55 rfl c12 (Nat.le_refl _) (Nat.le_refl _) ⟨rfl, _, rfl, W⟩
  replace W := W.2
  by_cases q13 : p0 = 5
  · replace W := W.1 q13
    refine ts_tableI (i := 5) (off := 55) (tgt := 56) dX2_isA_1 (by rw [q13]; rfl) (by decide) (by decide) rfl (by decide) ?_
    refine ts_aload_n 0 (pc' := 57) rfl dX2_isA_56 rfl rfl ?_
    obtain ⟨c14, W⟩ := W
    refine ts_instX8 (pc' := 60) rfl dX2_isA_57 (by decide +kernel) c14 ?_
    obtain ⟨c15, W⟩ := W
    exact ts_zret dX2_isA_60 rfl c15 (Nat.le_refl _) (Nat.le_refl _) ⟨rfl, _, rfl, W⟩
  replace W := W.2
  replace W := W q1 q4 q7 q10 q13
  have hs16 : ∀ i, i < 5 → ¬ p0 = Int32.ofNat (1 + i) := by
    intro i hi0
    have h0 : i = 0 ∨ i = 1 ∨ i = 2 ∨ i = 3 ∨ i = 4 := by omega
    rcases h0 with rfl | rfl | rfl | rfl | rfl
    · exact q1
    · exact q4
    · exact q7
    · exact q10
    · exact q13
  refine ts_tableO (tgt := 61) dX2_isA_1 (ts_swout (l := 1) (n := 5) rfl (by decide) (by decide) hs16) (by decide) ?_
  refine ts_iload_n 1 (pc' := 62) rfl dX2_isA_61 rfl rfl ?_
  refine ts_if_ne (pc' := 65) (tgt := 69) rfl dX2_isA_62 (by decide) (fun q17 => ?_) (fun q17 => ?_)
  · replace W := W.1 q17
    refine ts_iconst (v := 0) (pc' := 70) rfl dX2_isA_69 (by decide) ?_
    exact ts_zret dX2_isA_70 rfl (by decide) (Nat.le_refl _) (Nat.le_refl _) ⟨rfl, _, rfl, W⟩
  · replace W := W.2 q17
    refine ts_iconst (v := 1) (pc' := 66) rfl dX2_isA_65 (by decide) ?_
    refine ts_goto (tgt := 70) dX2_isA_66 (by decide) ?_
    exact ts_zret dX2_isA_70 rfl (by decide) (Nat.le_refl _) (Nat.le_refl _) ⟨rfl, _, rfl, W⟩
theorem hnX2_size_X1 : ∀ w ∈ u_ws RX1 TX1 13, w ∈ wsX2_size := by decide +kernel
theorem flX2_size_31 : Cond.fieldLink RX2 31 "TurnipSquires$Field" "rank" "[I" ∈ wsX2_size := by decide +kernel
set_option maxHeartbeats 4000000 in
theorem wX2_size_0 {d : Nat} {g : ts_G} {Q : Int32 → ts_I → ts_K → Prop} {o : Nat} {p0 : Nat} {p1 : Int32} {p2 : Nat} {hi : ts_I} {hk : ts_K} (W : (g.2.1 p2 = 9) ∧ ts_E0 d mX10_leave [.ref p2, .int 10] g hi hk (ts_qv (fun hi1 hk2 => (g.2.1 p0 = 1) ∧ (g.2.2.2 p0 1 ≠ 0) ∧ (g.2.1 (g.2.2.2 p0 1) = 100) ∧ (vp_in p1 (g.2.2.1 (g.2.2.2 p0 1))) ∧ Q (hi1 (g.2.2.2 p0 1) p1.toNatClampNeg) hi1 hk2))) : ts_J0 (d + 1) mX2_size (ts_qi Q) g 0 [(0, .ref o), (1, .ref p0), (2, .int p1), (3, .ref p2)] [] hi hk := by
  refine ts_aload_n 3 (pc' := 1) rfl dX2_size_0 rfl rfl ?_
  refine ts_bipush (v := 10) (pc' := 3) rfl dX2_size_1 (by decide) ?_
  obtain ⟨c3, W⟩ := W
  refine ts_callV (M' := mX10_leave) (C := RX10) (pc' := 6) (av := [.int 10]) (b := p2) rfl dX2_size_3 rfl gX2_size_X10_leave rfl dvX10_leave rfl (ci := 9) cfX10.1 (by decide) c3 (Nat.le_refl _) (Nat.le_of_ble_eq_true rfl) (Nat.le_of_ble_eq_true rfl) (Nat.le_refl _) (Nat.le_refl _) ts_kv0 W (ts_kkv fun hi1 hk2 W => ?_)
  refine ts_aload_n 1 (pc' := 7) rfl dX2_size_6 rfl rfl ?_
  obtain ⟨c4, W⟩ := W
  obtain ⟨c5, W⟩ := W
  refine ts_getR (pc' := 10) (ci := 1) 1 cfX1.1 cfX1.2.1 cfX1.2.2 rfl (by decide) hnX2_size_X1 flX2_size_31 rfl dX2_size_7 c4 c5 ?_
  refine ts_iload_n 2 (pc' := 11) rfl dX2_size_10 rfl rfl ?_
  obtain ⟨c6, W⟩ := W
  obtain ⟨c7, W⟩ := W
  refine ts_iaload (pc' := 12) rfl dX2_size_11 c6 c7 ?_
  exact ts_iret dX2_size_12 rfl (Nat.le_refl _) (Nat.le_refl _) ⟨rfl, _, rfl, W⟩
set_option maxHeartbeats 4000000 in
theorem wX2_mark_0 {d : Nat} {g : ts_G} {Q : Int32 → ts_I → ts_K → Prop} {o : Nat} {p0 : Nat} {p1 : Int32} {p2 : Nat} {hi : ts_I} {hk : ts_K} (W : (g.2.1 p2 = 9) ∧ ts_E0 d mX10_leave [.ref p2, .int 20] g hi hk (ts_qv (fun hi1 hk2 => Q p1 hi1 hk2))) : ts_J0 (d + 1) mX2_mark (ts_qi Q) g 0 [(0, .ref o), (1, .ref p0), (2, .int p1), (3, .ref p2)] [] hi hk := by
  refine ts_aload_n 3 (pc' := 1) rfl dX2_mark_0 rfl rfl ?_
  refine ts_bipush (v := 20) (pc' := 3) rfl dX2_mark_1 (by decide) ?_
  obtain ⟨c3, W⟩ := W
  refine ts_callV (M' := mX10_leave) (C := RX10) (pc' := 6) (av := [.int 20]) (b := p2) rfl dX2_mark_3 rfl gX2_mark_X10_leave rfl dvX10_leave rfl (ci := 9) cfX10.1 (by decide) c3 (Nat.le_refl _) (Nat.le_of_ble_eq_true rfl) (Nat.le_of_ble_eq_true rfl) (Nat.le_refl _) (Nat.le_refl _) ts_kv0 W (ts_kkv fun hi1 hk2 W => ?_)
  refine ts_iload_n 2 (pc' := 7) rfl dX2_mark_6 rfl rfl ?_
  exact ts_iret dX2_mark_7 rfl (Nat.le_refl _) (Nat.le_refl _) ⟨rfl, _, rfl, W⟩
theorem hnX0_gainIn_X1 : ∀ w ∈ u_ws RX1 TX1 13, w ∈ wsX0_gainIn := by decide +kernel
theorem flX0_gainIn_7 : Cond.fieldLink RX0 7 "TurnipSquires$Field" "rank" "[I" ∈ wsX0_gainIn := by decide +kernel
theorem flX0_gainIn_13 : Cond.fieldLink RX0 13 "TurnipSquires$Field" "ground" "I" ∈ wsX0_gainIn := by decide +kernel
set_option maxHeartbeats 4000000 in
theorem wX0_gainIn_0 {d : Nat} {g : ts_G} {Q : Int32 → ts_I → ts_K → Prop} {o : Nat} {p0 : Nat} {p1 : Int32} {p2 : Int32} {hi : ts_I} {hk : ts_K} (W : (g.2.1 p0 = 1) ∧ (g.2.2.2 p0 1 ≠ 0) ∧ (g.2.1 (g.2.2.2 p0 1) = 100) ∧ (vp_in p1 (g.2.2.1 (g.2.2.2 p0 1))) ∧ ((3 ≤ (hi (g.2.2.2 p0 1) p1.toNatClampNeg)) → Q 0 hi hk) ∧ (¬ (3 ≤ (hi (g.2.2.2 p0 1) p1.toNatClampNeg)) → Q (2 * (hi p0 11)) hi hk)) : ts_J0 d mX0_gainIn (ts_qi Q) g 0 [(0, .ref o), (1, .ref p0), (2, .int p1), (3, .int p2)] [] hi hk := by
  refine ts_aload_n 1 (pc' := 1) rfl dX0_gainIn_0 rfl rfl ?_
  obtain ⟨c1, W⟩ := W
  obtain ⟨c2, W⟩ := W
  refine ts_getR (pc' := 4) (ci := 1) 1 cfX1.1 cfX1.2.1 cfX1.2.2 rfl (by decide) hnX0_gainIn_X1 flX0_gainIn_7 rfl dX0_gainIn_1 c1 c2 ?_
  refine ts_iload_n 2 (pc' := 5) rfl dX0_gainIn_4 rfl rfl ?_
  obtain ⟨c3, W⟩ := W
  obtain ⟨c4, W⟩ := W
  refine ts_iaload (pc' := 6) rfl dX0_gainIn_5 c3 c4 ?_
  refine ts_iconst (v := 3) (pc' := 7) rfl dX0_gainIn_6 (by decide) ?_
  refine ts_icmp_ge (pc' := 10) (tgt := 19) rfl dX0_gainIn_7 (by decide) (fun q5 => ?_) (fun q5 => ?_)
  · replace W := W.1 q5
    refine ts_iconst (v := 0) (pc' := 20) rfl dX0_gainIn_19 (by decide) ?_
    exact ts_iret dX0_gainIn_20 rfl (Nat.le_refl _) (Nat.le_refl _) ⟨rfl, _, rfl, W⟩
  · replace W := W.2 q5
    refine ts_iconst (v := 2) (pc' := 11) rfl dX0_gainIn_10 (by decide) ?_
    refine ts_aload_n 1 (pc' := 12) rfl dX0_gainIn_11 rfl rfl ?_
    refine ts_getI (pc' := 15) (ci := 1) 11 cfX1.1 cfX1.2.1 cfX1.2.2 rfl (by decide) hnX0_gainIn_X1 flX0_gainIn_13 rfl dX0_gainIn_12 c1 ?_
    refine ts_imul (pc' := 16) rfl dX0_gainIn_15 ?_
    refine ts_goto (tgt := 20) dX0_gainIn_16 (by decide) ?_
    exact ts_iret dX0_gainIn_20 rfl (Nat.le_refl _) (Nat.le_refl _) ⟨rfl, _, rfl, W⟩
set_option maxHeartbeats 4000000 in
theorem wX0_size_0 {d : Nat} {g : ts_G} {Q : Int32 → ts_I → ts_K → Prop} {o : Nat} {p0 : Nat} {p1 : Int32} {p2 : Nat} {hi : ts_I} {hk : ts_K} (W : (g.2.1 p2 = 9) ∧ ts_E0 d mX10_leave [.ref p2, .int 13] g hi hk (ts_qv (fun hi1 hk2 => (g.2.1 o = 0 ∨ g.2.1 o = 2 ∨ g.2.1 o = 3 ∨ g.2.1 o = 4 ∨ g.2.1 o = 7) ∧ ts_E0 d mX2_size [.ref o, .ref p0, .int p1, .ref p2] g hi1 hk2 (ts_qi (fun v6 hi4 hk5 => Q (v6 - 100) hi4 hk5))))) : ts_J0 (d + 1) mX0_size (ts_qi Q) g 0 [(0, .ref o), (1, .ref p0), (2, .int p1), (3, .ref p2)] [] hi hk := by
  refine ts_aload_n 3 (pc' := 1) rfl dX0_size_0 rfl rfl ?_
  refine ts_bipush (v := 13) (pc' := 3) rfl dX0_size_1 (by decide) ?_
  obtain ⟨c3, W⟩ := W
  refine ts_callV (M' := mX10_leave) (C := RX10) (pc' := 6) (av := [.int 13]) (b := p2) rfl dX0_size_3 rfl gX0_size_X10_leave rfl dvX10_leave rfl (ci := 9) cfX10.1 (by decide) c3 (Nat.le_refl _) (Nat.le_of_ble_eq_true rfl) (Nat.le_of_ble_eq_true rfl) (Nat.le_refl _) (Nat.le_refl _) ts_kv0 W (ts_kkv fun hi1 hk2 W => ?_)
  refine ts_aload_n 0 (pc' := 7) rfl dX0_size_6 rfl rfl ?_
  refine ts_aload_n 1 (pc' := 8) rfl dX0_size_7 rfl rfl ?_
  refine ts_iload_n 2 (pc' := 9) rfl dX0_size_8 rfl rfl ?_
  refine ts_aload_n 3 (pc' := 10) rfl dX0_size_9 rfl rfl ?_
  obtain ⟨c7, W⟩ := W
  refine ts_callSUk (M' := mX2_size) (pc' := 13) (av := [.ref p0, .int p1, .ref p2]) (b := o) rfl dX0_size_10 rfl gX0_size_X2_size_s22 rfl dwX2_size rfl c7 (Nat.le_refl _) (Nat.le_of_ble_eq_true rfl) (Nat.le_of_ble_eq_true rfl) (Nat.le_refl _) (Nat.le_refl _) ts_kv0 W (ts_kki fun v6 hi4 hk5 W => ?_)
  refine ts_bipush (v := 100) (pc' := 15) rfl dX0_size_13 (by decide) ?_
  refine ts_isub (pc' := 16) rfl dX0_size_15 ?_
  exact ts_iret dX0_size_16 rfl (Nat.le_refl _) (Nat.le_refl _) ⟨rfl, _, rfl, W⟩
set_option maxHeartbeats 4000000 in
theorem wX0_mark_0 {d : Nat} {g : ts_G} {Q : Int32 → ts_I → ts_K → Prop} {o : Nat} {p0 : Nat} {p1 : Int32} {p2 : Nat} {hi : ts_I} {hk : ts_K} (W : (g.2.1 p2 = 9) ∧ ts_E0 d mX10_leave [.ref p2, .int 23] g hi hk (ts_qv (fun hi1 hk2 => (g.2.1 o = 0 ∨ g.2.1 o = 2 ∨ g.2.1 o = 3 ∨ g.2.1 o = 4 ∨ g.2.1 o = 7) ∧ ts_E0 d mX2_mark [.ref o, .ref p0, .int p1, .ref p2] g hi1 hk2 (ts_qi (fun v6 hi4 hk5 => ts_EV [(0, mX0_size), (7, mX8_size)] d o [.ref o, .ref p0, .int p1, .ref p2] g hi4 hk5 (ts_qi (fun v10 hi8 hk9 => Q (v6 - v10) hi8 hk9))))))) : ts_J0 (d + 1) mX0_mark (ts_qi Q) g 0 [(0, .ref o), (1, .ref p0), (2, .int p1), (3, .ref p2)] [] hi hk := by
  refine ts_aload_n 3 (pc' := 1) rfl dX0_mark_0 rfl rfl ?_
  refine ts_bipush (v := 23) (pc' := 3) rfl dX0_mark_1 (by decide) ?_
  obtain ⟨c3, W⟩ := W
  refine ts_callV (M' := mX10_leave) (C := RX10) (pc' := 6) (av := [.int 23]) (b := p2) rfl dX0_mark_3 rfl gX0_mark_X10_leave rfl dvX10_leave rfl (ci := 9) cfX10.1 (by decide) c3 (Nat.le_refl _) (Nat.le_of_ble_eq_true rfl) (Nat.le_of_ble_eq_true rfl) (Nat.le_refl _) (Nat.le_refl _) ts_kv0 W (ts_kkv fun hi1 hk2 W => ?_)
  refine ts_aload_n 0 (pc' := 7) rfl dX0_mark_6 rfl rfl ?_
  refine ts_aload_n 1 (pc' := 8) rfl dX0_mark_7 rfl rfl ?_
  refine ts_iload_n 2 (pc' := 9) rfl dX0_mark_8 rfl rfl ?_
  refine ts_aload_n 3 (pc' := 10) rfl dX0_mark_9 rfl rfl ?_
  obtain ⟨c7, W⟩ := W
  refine ts_callSUk (M' := mX2_mark) (pc' := 13) (av := [.ref p0, .int p1, .ref p2]) (b := o) rfl dX0_mark_10 rfl gX0_mark_X2_mark_s26 rfl dwX2_mark rfl c7 (Nat.le_refl _) (Nat.le_of_ble_eq_true rfl) (Nat.le_of_ble_eq_true rfl) (Nat.le_refl _) (Nat.le_refl _) ts_kv0 W (ts_kki fun v6 hi4 hk5 W => ?_)
  refine ts_istore (pc' := 15) (ls' := [(4, .int v6), (0, .ref o), (1, .ref p0), (2, .int p1), (3, .ref p2)]) rfl dX0_mark_13 (Nat.le_of_ble_eq_true rfl) rfl ?_
  refine ts_iload 0 (pc' := 17) rfl dX0_mark_15 rfl ?_
  refine ts_aload_n 1 (pc' := 18) rfl dX0_mark_17 rfl rfl ?_
  refine ts_aload_n 2 (pc' := 19) rfl dX0_mark_18 rfl rfl ?_
  refine ts_iload_n 3 (pc' := 20) rfl dX0_mark_19 rfl rfl ?_
  refine ts_aload_n 4 (pc' := 21) rfl dX0_mark_20 rfl rfl ?_
  have kk9 : ∀ (v10 : Int32) (hi8 : ts_I) (hk9 : ts_K), (Q (v6 - v10) hi8 hk9) → ts_JJ (d + 1) 0 0 mX0_mark none g.1 (ts_q0 g (ts_qi Q)) 0 0 24 [(4, .int v6), (0, .ref o), (1, .ref p0), (2, .int p1), (3, .ref p2)] [.int v10, .int v6] g hi8 hk9 := by
    intro v10 hi8 hk9 W
    refine ts_isub (pc' := 25) rfl dX0_mark_24 ?_
    exact ts_iret dX0_mark_25 rfl (Nat.le_refl _) (Nat.le_refl _) ⟨rfl, _, rfl, W⟩
  obtain ⟨M9, h9, W⟩ := W
  simp only [List.mem_cons, List.not_mem_nil, or_false, Prod.mk.injEq] at h9
  rcases h9 with ⟨c9, rfl⟩ | ⟨c9, rfl⟩
  · exact ts_callV (M' := mX0_size) (C := RX0) (pc' := 24) (av := [.ref p0, .int p1, .ref p2]) (st := _) (b := o) rfl dX0_mark_21 rfl gX0_mark_X0_size rfl dvX0_size rfl (ci := 0) cfX0.1 (by decide) c9 (Nat.le_refl _) (Nat.le_of_ble_eq_true rfl) (Nat.le_of_ble_eq_true rfl) (Nat.le_refl _) (Nat.le_refl _) ts_kv0 W (ts_kki kk9)
  · exact ts_callO (M' := mX8_size) (C := RX8) (owner := "TurnipSquires$Fellow") (pc' := 24) (av := [.ref p0, .int p1, .ref p2]) (st := _) (b := o) rfl dX0_mark_21 rfl gX0_mark_X8_size_u29X8 rfl (b0 := cX0_size) (m0 := 4) (r0 := (some .int)) (by decide +kernel) dxoX0_size rfl (ci := 7) cfX8.1 (by decide) c9 (Nat.le_refl _) (Nat.le_of_ble_eq_true rfl) (Nat.le_of_ble_eq_true rfl) (Nat.le_refl _) (Nat.le_refl _) ts_kv0 W (ts_kki kk9)
theorem hnX3_gainIn_X1 : ∀ w ∈ u_ws RX1 TX1 13, w ∈ wsX3_gainIn := by decide +kernel
theorem flX3_gainIn_7 : Cond.fieldLink RX3 7 "TurnipSquires$Field" "ground" "I" ∈ wsX3_gainIn := by decide +kernel
set_option maxHeartbeats 4000000 in
theorem wX3_gainIn_0 {d : Nat} {g : ts_G} {Q : Int32 → ts_I → ts_K → Prop} {o : Nat} {p0 : Nat} {p1 : Int32} {p2 : Int32} {hi : ts_I} {hk : ts_K} (W : ((p2 = 0) → (g.2.1 p0 = 1) ∧ Q ((hi p0 11) / 2) hi hk) ∧ (¬ (p2 = 0) → (g.2.1 p0 = 1) ∧ Q (hi p0 11) hi hk)) : ts_J0 d mX3_gainIn (ts_qi Q) g 0 [(0, .ref o), (1, .ref p0), (2, .int p1), (3, .int p2)] [] hi hk := by
  refine ts_iload_n 3 (pc' := 1) rfl dX3_gainIn_0 rfl rfl ?_
  refine ts_if_eq (pc' := 4) (tgt := 11) rfl dX3_gainIn_1 (by decide) (fun q1 => ?_) (fun q1 => ?_)
  · replace W := W.1 q1
    refine ts_aload_n 1 (pc' := 12) rfl dX3_gainIn_11 rfl rfl ?_
    obtain ⟨c2, W⟩ := W
    refine ts_getI (pc' := 15) (ci := 1) 11 cfX1.1 cfX1.2.1 cfX1.2.2 rfl (by decide) hnX3_gainIn_X1 flX3_gainIn_7 rfl dX3_gainIn_12 c2 ?_
    refine ts_iconst (v := 2) (pc' := 16) rfl dX3_gainIn_15 (by decide) ?_
    refine ts_idiv (pc' := 17) rfl dX3_gainIn_16 (by decide) ?_
    exact ts_iret dX3_gainIn_17 rfl (Nat.le_refl _) (Nat.le_refl _) ⟨rfl, _, rfl, W⟩
  · replace W := W.2 q1
    refine ts_aload_n 1 (pc' := 5) rfl dX3_gainIn_4 rfl rfl ?_
    obtain ⟨c3, W⟩ := W
    refine ts_getI (pc' := 8) (ci := 1) 11 cfX1.1 cfX1.2.1 cfX1.2.2 rfl (by decide) hnX3_gainIn_X1 flX3_gainIn_7 rfl dX3_gainIn_5 c3 ?_
    refine ts_goto (tgt := 17) dX3_gainIn_8 (by decide) ?_
    exact ts_iret dX3_gainIn_17 rfl (Nat.le_refl _) (Nat.le_refl _) ⟨rfl, _, rfl, W⟩
set_option maxHeartbeats 4000000 in
theorem wX3_size_0 {d : Nat} {g : ts_G} {Q : Int32 → ts_I → ts_K → Prop} {o : Nat} {p0 : Nat} {p1 : Int32} {p2 : Nat} {hi : ts_I} {hk : ts_K} (W : (g.2.1 p2 = 9) ∧ ts_E0 d mX10_leave [.ref p2, .int 12] g hi hk (ts_qv (fun hi1 hk2 => (g.2.1 o = 0 ∨ g.2.1 o = 2 ∨ g.2.1 o = 3 ∨ g.2.1 o = 4 ∨ g.2.1 o = 7) ∧ ts_E0 d mX4_size [.ref o, .ref p0, .int p1, .ref p2] g hi1 hk2 (ts_qi (fun v6 hi4 hk5 => Q (-v6) hi4 hk5))))) : ts_J0 (d + 1) mX3_size (ts_qi Q) g 0 [(0, .ref o), (1, .ref p0), (2, .int p1), (3, .ref p2)] [] hi hk := by
  refine ts_aload_n 3 (pc' := 1) rfl dX3_size_0 rfl rfl ?_
  refine ts_bipush (v := 12) (pc' := 3) rfl dX3_size_1 (by decide) ?_
  obtain ⟨c3, W⟩ := W
  refine ts_callV (M' := mX10_leave) (C := RX10) (pc' := 6) (av := [.int 12]) (b := p2) rfl dX3_size_3 rfl gX3_size_X10_leave rfl dvX10_leave rfl (ci := 9) cfX10.1 (by decide) c3 (Nat.le_refl _) (Nat.le_of_ble_eq_true rfl) (Nat.le_of_ble_eq_true rfl) (Nat.le_refl _) (Nat.le_refl _) ts_kv0 W (ts_kkv fun hi1 hk2 W => ?_)
  refine ts_aload_n 0 (pc' := 7) rfl dX3_size_6 rfl rfl ?_
  refine ts_aload_n 1 (pc' := 8) rfl dX3_size_7 rfl rfl ?_
  refine ts_iload_n 2 (pc' := 9) rfl dX3_size_8 rfl rfl ?_
  refine ts_aload_n 3 (pc' := 10) rfl dX3_size_9 rfl rfl ?_
  obtain ⟨c7, W⟩ := W
  refine ts_callSUk (M' := mX4_size) (pc' := 13) (av := [.ref p0, .int p1, .ref p2]) (b := o) rfl dX3_size_10 rfl gX3_size_X4_size_s18 rfl dwX4_size rfl c7 (Nat.le_refl _) (Nat.le_of_ble_eq_true rfl) (Nat.le_of_ble_eq_true rfl) (Nat.le_refl _) (Nat.le_refl _) ts_kv0 W (ts_kki fun v6 hi4 hk5 W => ?_)
  refine ts_ineg (pc' := 14) rfl dX3_size_13 ?_
  exact ts_iret dX3_size_14 rfl (Nat.le_refl _) (Nat.le_refl _) ⟨rfl, _, rfl, W⟩
set_option maxHeartbeats 4000000 in
theorem wX3_mark_0 {d : Nat} {g : ts_G} {Q : Int32 → ts_I → ts_K → Prop} {o : Nat} {p0 : Nat} {p1 : Int32} {p2 : Nat} {hi : ts_I} {hk : ts_K} (W : (g.2.1 p2 = 9) ∧ ts_E0 d mX10_leave [.ref p2, .int 24] g hi hk (ts_qv (fun hi1 hk2 => (g.2.1 o = 0 ∨ g.2.1 o = 2 ∨ g.2.1 o = 3 ∨ g.2.1 o = 4 ∨ g.2.1 o = 7) ∧ ts_E0 d mX4_mark [.ref o, .ref p0, .int p1, .ref p2] g hi1 hk2 (ts_qi (fun v6 hi4 hk5 => Q (2 * v6) hi4 hk5))))) : ts_J0 (d + 1) mX3_mark (ts_qi Q) g 0 [(0, .ref o), (1, .ref p0), (2, .int p1), (3, .ref p2)] [] hi hk := by
  refine ts_aload_n 3 (pc' := 1) rfl dX3_mark_0 rfl rfl ?_
  refine ts_bipush (v := 24) (pc' := 3) rfl dX3_mark_1 (by decide) ?_
  obtain ⟨c3, W⟩ := W
  refine ts_callV (M' := mX10_leave) (C := RX10) (pc' := 6) (av := [.int 24]) (b := p2) rfl dX3_mark_3 rfl gX3_mark_X10_leave rfl dvX10_leave rfl (ci := 9) cfX10.1 (by decide) c3 (Nat.le_refl _) (Nat.le_of_ble_eq_true rfl) (Nat.le_of_ble_eq_true rfl) (Nat.le_refl _) (Nat.le_refl _) ts_kv0 W (ts_kkv fun hi1 hk2 W => ?_)
  refine ts_iconst (v := 2) (pc' := 7) rfl dX3_mark_6 (by decide) ?_
  refine ts_aload_n 0 (pc' := 8) rfl dX3_mark_7 rfl rfl ?_
  refine ts_aload_n 1 (pc' := 9) rfl dX3_mark_8 rfl rfl ?_
  refine ts_iload_n 2 (pc' := 10) rfl dX3_mark_9 rfl rfl ?_
  refine ts_aload_n 3 (pc' := 11) rfl dX3_mark_10 rfl rfl ?_
  obtain ⟨c7, W⟩ := W
  refine ts_callSUk (M' := mX4_mark) (pc' := 14) (av := [.ref p0, .int p1, .ref p2]) (b := o) rfl dX3_mark_11 rfl gX3_mark_X4_mark_s22 rfl dwX4_mark rfl c7 (Nat.le_refl _) (Nat.le_of_ble_eq_true rfl) (Nat.le_of_ble_eq_true rfl) (Nat.le_refl _) (Nat.le_refl _) ts_kv0 W (ts_kki fun v6 hi4 hk5 W => ?_)
  refine ts_imul (pc' := 15) rfl dX3_mark_14 ?_
  exact ts_iret dX3_mark_15 rfl (Nat.le_refl _) (Nat.le_refl _) ⟨rfl, _, rfl, W⟩
theorem hnX4_gainIn_X1 : ∀ w ∈ u_ws RX1 TX1 13, w ∈ wsX4_gainIn := by decide +kernel
theorem flX4_gainIn_7 : Cond.fieldLink RX4 7 "TurnipSquires$Field" "ground" "I" ∈ wsX4_gainIn := by decide +kernel
set_option maxHeartbeats 4000000 in
theorem wX4_gainIn_0 {d : Nat} {g : ts_G} {Q : Int32 → ts_I → ts_K → Prop} {o : Nat} {p0 : Nat} {p1 : Int32} {p2 : Int32} {hi : ts_I} {hk : ts_K} (W : (g.2.1 p0 = 1) ∧ Q (hi p0 11) hi hk) : ts_J0 d mX4_gainIn (ts_qi Q) g 0 [(0, .ref o), (1, .ref p0), (2, .int p1), (3, .int p2)] [] hi hk := by
  refine ts_aload_n 1 (pc' := 1) rfl dX4_gainIn_0 rfl rfl ?_
  obtain ⟨c1, W⟩ := W
  refine ts_getI (pc' := 4) (ci := 1) 11 cfX1.1 cfX1.2.1 cfX1.2.2 rfl (by decide) hnX4_gainIn_X1 flX4_gainIn_7 rfl dX4_gainIn_1 c1 ?_
  exact ts_iret dX4_gainIn_4 rfl (Nat.le_refl _) (Nat.le_refl _) ⟨rfl, _, rfl, W⟩
set_option maxHeartbeats 4000000 in
theorem wX4_size_0 {d : Nat} {g : ts_G} {Q : Int32 → ts_I → ts_K → Prop} {o : Nat} {p0 : Nat} {p1 : Int32} {p2 : Nat} {hi : ts_I} {hk : ts_K} (W : (g.2.1 p2 = 9) ∧ ts_E0 d mX10_leave [.ref p2, .int 11] g hi hk (ts_qv (fun hi1 hk2 => (g.2.1 o = 0 ∨ g.2.1 o = 2 ∨ g.2.1 o = 3 ∨ g.2.1 o = 4 ∨ g.2.1 o = 7) ∧ ts_E0 d mX2_size [.ref o, .ref p0, .int p1, .ref p2] g hi1 hk2 (ts_qi (fun v6 hi4 hk5 => ts_EV [(2, mX3_mark), (3, mX4_mark), (4, mX5_mark)] d o [.ref o, .ref p0, .int p1, .ref p2] g hi4 hk5 (ts_qi (fun v10 hi8 hk9 => Q (v6 + v10) hi8 hk9))))))) : ts_J0 (d + 1) mX4_size (ts_qi Q) g 0 [(0, .ref o), (1, .ref p0), (2, .int p1), (3, .ref p2)] [] hi hk := by
  refine ts_aload_n 3 (pc' := 1) rfl dX4_size_0 rfl rfl ?_
  refine ts_bipush (v := 11) (pc' := 3) rfl dX4_size_1 (by decide) ?_
  obtain ⟨c3, W⟩ := W
  refine ts_callV (M' := mX10_leave) (C := RX10) (pc' := 6) (av := [.int 11]) (b := p2) rfl dX4_size_3 rfl gX4_size_X10_leave rfl dvX10_leave rfl (ci := 9) cfX10.1 (by decide) c3 (Nat.le_refl _) (Nat.le_of_ble_eq_true rfl) (Nat.le_of_ble_eq_true rfl) (Nat.le_refl _) (Nat.le_refl _) ts_kv0 W (ts_kkv fun hi1 hk2 W => ?_)
  refine ts_aload_n 0 (pc' := 7) rfl dX4_size_6 rfl rfl ?_
  refine ts_aload_n 1 (pc' := 8) rfl dX4_size_7 rfl rfl ?_
  refine ts_iload_n 2 (pc' := 9) rfl dX4_size_8 rfl rfl ?_
  refine ts_aload_n 3 (pc' := 10) rfl dX4_size_9 rfl rfl ?_
  obtain ⟨c7, W⟩ := W
  refine ts_callSUk (M' := mX2_size) (pc' := 13) (av := [.ref p0, .int p1, .ref p2]) (b := o) rfl dX4_size_10 rfl gX4_size_X2_size_s18 rfl dwX2_size rfl c7 (Nat.le_refl _) (Nat.le_of_ble_eq_true rfl) (Nat.le_of_ble_eq_true rfl) (Nat.le_refl _) (Nat.le_refl _) ts_kv0 W (ts_kki fun v6 hi4 hk5 W => ?_)
  refine ts_istore (pc' := 15) (ls' := [(4, .int v6), (0, .ref o), (1, .ref p0), (2, .int p1), (3, .ref p2)]) rfl dX4_size_13 (Nat.le_of_ble_eq_true rfl) rfl ?_
  refine ts_iload 0 (pc' := 17) rfl dX4_size_15 rfl ?_
  refine ts_aload_n 1 (pc' := 18) rfl dX4_size_17 rfl rfl ?_
  refine ts_aload_n 2 (pc' := 19) rfl dX4_size_18 rfl rfl ?_
  refine ts_iload_n 3 (pc' := 20) rfl dX4_size_19 rfl rfl ?_
  refine ts_aload_n 4 (pc' := 21) rfl dX4_size_20 rfl rfl ?_
  have kk9 : ∀ (v10 : Int32) (hi8 : ts_I) (hk9 : ts_K), (Q (v6 + v10) hi8 hk9) → ts_JJ (d + 1) 0 0 mX4_size none g.1 (ts_q0 g (ts_qi Q)) 0 0 24 [(4, .int v6), (0, .ref o), (1, .ref p0), (2, .int p1), (3, .ref p2)] [.int v10, .int v6] g hi8 hk9 := by
    intro v10 hi8 hk9 W
    refine ts_iadd (pc' := 25) rfl dX4_size_24 ?_
    exact ts_iret dX4_size_25 rfl (Nat.le_refl _) (Nat.le_refl _) ⟨rfl, _, rfl, W⟩
  obtain ⟨M9, h9, W⟩ := W
  simp only [List.mem_cons, List.not_mem_nil, or_false, Prod.mk.injEq] at h9
  rcases h9 with ⟨c9, rfl⟩ | ⟨c9, rfl⟩ | ⟨c9, rfl⟩
  · exact ts_callO (M' := mX3_mark) (C := RX3) (owner := "TurnipSquires$Plain") (pc' := 24) (av := [.ref p0, .int p1, .ref p2]) (st := _) (b := o) rfl dX4_size_21 rfl gX4_size_X3_mark_u22X3 rfl (b0 := cX4_mark) (m0 := 4) (r0 := (some .int)) (by decide +kernel) dxoX4_mark rfl (ci := 2) cfX3.1 (by decide) c9 (Nat.le_refl _) (Nat.le_of_ble_eq_true rfl) (Nat.le_of_ble_eq_true rfl) (Nat.le_refl _) (Nat.le_refl _) ts_kv0 W (ts_kki kk9)
  · exact ts_callV (M' := mX4_mark) (C := RX4) (pc' := 24) (av := [.ref p0, .int p1, .ref p2]) (st := _) (b := o) rfl dX4_size_21 rfl gX4_size_X4_mark rfl dvX4_mark rfl (ci := 3) cfX4.1 (by decide) c9 (Nat.le_refl _) (Nat.le_of_ble_eq_true rfl) (Nat.le_of_ble_eq_true rfl) (Nat.le_refl _) (Nat.le_refl _) ts_kv0 W (ts_kki kk9)
  · exact ts_callO (M' := mX5_mark) (C := RX5) (owner := "TurnipSquires$Plain") (pc' := 24) (av := [.ref p0, .int p1, .ref p2]) (st := _) (b := o) rfl dX4_size_21 rfl gX4_size_X5_mark_u22X5 rfl (b0 := cX4_mark) (m0 := 4) (r0 := (some .int)) (by decide +kernel) dxoX4_mark rfl (ci := 4) cfX5.1 (by decide) c9 (Nat.le_refl _) (Nat.le_of_ble_eq_true rfl) (Nat.le_of_ble_eq_true rfl) (Nat.le_refl _) (Nat.le_refl _) ts_kv0 W (ts_kki kk9)
theorem hnX4_mark_X1 : ∀ w ∈ u_ws RX1 TX1 13, w ∈ wsX4_mark := by decide +kernel
theorem flX4_mark_28 : Cond.fieldLink RX4 28 "TurnipSquires$Field" "place" "[I" ∈ wsX4_mark := by decide +kernel
set_option maxHeartbeats 4000000 in
theorem wX4_mark_0 {d : Nat} {g : ts_G} {Q : Int32 → ts_I → ts_K → Prop} {o : Nat} {p0 : Nat} {p1 : Int32} {p2 : Nat} {hi : ts_I} {hk : ts_K} (W : (g.2.1 p2 = 9) ∧ ts_E0 d mX10_leave [.ref p2, .int 21] g hi hk (ts_qv (fun hi1 hk2 => (g.2.1 o = 0 ∨ g.2.1 o = 2 ∨ g.2.1 o = 3 ∨ g.2.1 o = 4 ∨ g.2.1 o = 7) ∧ ts_E0 d mX2_mark [.ref o, .ref p0, .int p1, .ref p2] g hi1 hk2 (ts_qi (fun v6 hi4 hk5 => (g.2.1 p0 = 1) ∧ (g.2.2.2 p0 5 ≠ 0) ∧ (g.2.1 (g.2.2.2 p0 5) = 100) ∧ (vp_in p1 (g.2.2.1 (g.2.2.2 p0 5))) ∧ Q (v6 + (hi4 (g.2.2.2 p0 5) p1.toNatClampNeg)) hi4 hk5))))) : ts_J0 (d + 1) mX4_mark (ts_qi Q) g 0 [(0, .ref o), (1, .ref p0), (2, .int p1), (3, .ref p2)] [] hi hk := by
  refine ts_aload_n 3 (pc' := 1) rfl dX4_mark_0 rfl rfl ?_
  refine ts_bipush (v := 21) (pc' := 3) rfl dX4_mark_1 (by decide) ?_
  obtain ⟨c3, W⟩ := W
  refine ts_callV (M' := mX10_leave) (C := RX10) (pc' := 6) (av := [.int 21]) (b := p2) rfl dX4_mark_3 rfl gX4_mark_X10_leave rfl dvX10_leave rfl (ci := 9) cfX10.1 (by decide) c3 (Nat.le_refl _) (Nat.le_of_ble_eq_true rfl) (Nat.le_of_ble_eq_true rfl) (Nat.le_refl _) (Nat.le_refl _) ts_kv0 W (ts_kkv fun hi1 hk2 W => ?_)
  refine ts_aload_n 0 (pc' := 7) rfl dX4_mark_6 rfl rfl ?_
  refine ts_aload_n 1 (pc' := 8) rfl dX4_mark_7 rfl rfl ?_
  refine ts_iload_n 2 (pc' := 9) rfl dX4_mark_8 rfl rfl ?_
  refine ts_aload_n 3 (pc' := 10) rfl dX4_mark_9 rfl rfl ?_
  obtain ⟨c7, W⟩ := W
  refine ts_callSUk (M' := mX2_mark) (pc' := 13) (av := [.ref p0, .int p1, .ref p2]) (b := o) rfl dX4_mark_10 rfl gX4_mark_X2_mark_s27 rfl dwX2_mark rfl c7 (Nat.le_refl _) (Nat.le_of_ble_eq_true rfl) (Nat.le_of_ble_eq_true rfl) (Nat.le_refl _) (Nat.le_refl _) ts_kv0 W (ts_kki fun v6 hi4 hk5 W => ?_)
  refine ts_aload_n 1 (pc' := 14) rfl dX4_mark_13 rfl rfl ?_
  obtain ⟨c8, W⟩ := W
  obtain ⟨c9, W⟩ := W
  refine ts_getR (pc' := 17) (ci := 1) 5 cfX1.1 cfX1.2.1 cfX1.2.2 rfl (by decide) hnX4_mark_X1 flX4_mark_28 rfl dX4_mark_14 c8 c9 ?_
  refine ts_iload_n 2 (pc' := 18) rfl dX4_mark_17 rfl rfl ?_
  obtain ⟨c10, W⟩ := W
  obtain ⟨c11, W⟩ := W
  refine ts_iaload (pc' := 19) rfl dX4_mark_18 c10 c11 ?_
  refine ts_iadd (pc' := 20) rfl dX4_mark_19 ?_
  exact ts_iret dX4_mark_20 rfl (Nat.le_refl _) (Nat.le_refl _) ⟨rfl, _, rfl, W⟩
theorem hnX5_gainIn_X1 : ∀ w ∈ u_ws RX1 TX1 13, w ∈ wsX5_gainIn := by decide +kernel
theorem flX5_gainIn_7 : Cond.fieldLink RX5 7 "TurnipSquires$Field" "ground" "I" ∈ wsX5_gainIn := by decide +kernel
theorem flX5_gainIn_13 : Cond.fieldLink RX5 13 "TurnipSquires$Field" "higher" "[I" ∈ wsX5_gainIn := by decide +kernel
set_option maxHeartbeats 4000000 in
theorem wX5_gainIn_0 {d : Nat} {g : ts_G} {Q : Int32 → ts_I → ts_K → Prop} {o : Nat} {p0 : Nat} {p1 : Int32} {p2 : Int32} {hi : ts_I} {hk : ts_K} (W : (g.2.1 p0 = 1) ∧ (g.2.2.2 p0 8 ≠ 0) ∧ (g.2.1 (g.2.2.2 p0 8) = 100) ∧ (vp_in p1 (g.2.2.1 (g.2.2.2 p0 8))) ∧ ts_E0 d mJ6_bitCount_0f7a4 [.int (hi (g.2.2.2 p0 8) p1.toNatClampNeg)] g hi hk (ts_qi (fun v7 hi5 hk6 => Q ((hi p0 11) + v7) hi5 hk6))) : ts_J0 (d + 1) mX5_gainIn (ts_qi Q) g 0 [(0, .ref o), (1, .ref p0), (2, .int p1), (3, .int p2)] [] hi hk := by
  refine ts_aload_n 1 (pc' := 1) rfl dX5_gainIn_0 rfl rfl ?_
  obtain ⟨c1, W⟩ := W
  refine ts_getI (pc' := 4) (ci := 1) 11 cfX1.1 cfX1.2.1 cfX1.2.2 rfl (by decide) hnX5_gainIn_X1 flX5_gainIn_7 rfl dX5_gainIn_1 c1 ?_
  refine ts_aload_n 1 (pc' := 5) rfl dX5_gainIn_4 rfl rfl ?_
  obtain ⟨c2, W⟩ := W
  refine ts_getR (pc' := 8) (ci := 1) 8 cfX1.1 cfX1.2.1 cfX1.2.2 rfl (by decide) hnX5_gainIn_X1 flX5_gainIn_13 rfl dX5_gainIn_5 c1 c2 ?_
  refine ts_iload_n 2 (pc' := 9) rfl dX5_gainIn_8 rfl rfl ?_
  obtain ⟨c3, W⟩ := W
  obtain ⟨c4, W⟩ := W
  refine ts_iaload (pc' := 10) rfl dX5_gainIn_9 c3 c4 ?_
  refine ts_callS (M' := mJ6_bitCount_0f7a4) (pc' := 13) (av := [.int (hi (g.2.2.2 p0 8) p1.toNatClampNeg)]) rfl dX5_gainIn_10 rfl gX5_gainIn_J6_bitCount_0f7a4 rfl dsJ6_bitCount_0f7a4 rfl (Nat.le_refl _) (Nat.le_of_ble_eq_true rfl) (Nat.le_of_ble_eq_true rfl) (Nat.le_refl _) (Nat.le_refl _) ts_kv0 W (ts_kki fun v7 hi5 hk6 W => ?_)
  refine ts_iadd (pc' := 14) rfl dX5_gainIn_13 ?_
  exact ts_iret dX5_gainIn_14 rfl (Nat.le_refl _) (Nat.le_refl _) ⟨rfl, _, rfl, W⟩
set_option maxHeartbeats 4000000 in
theorem wX5_mark_0 {d : Nat} {g : ts_G} {Q : Int32 → ts_I → ts_K → Prop} {o : Nat} {p0 : Nat} {p1 : Int32} {p2 : Nat} {hi : ts_I} {hk : ts_K} (W : (g.2.1 p2 = 9) ∧ ts_E0 d mX10_leave [.ref p2, .int 22] g hi hk (ts_qv (fun hi1 hk2 => (g.2.1 o = 0 ∨ g.2.1 o = 2 ∨ g.2.1 o = 3 ∨ g.2.1 o = 4 ∨ g.2.1 o = 7) ∧ ts_E0 d mX4_mark [.ref o, .ref p0, .int p1, .ref p2] g hi1 hk2 (ts_qi (fun v6 hi4 hk5 => Q (v6 - 1000) hi4 hk5))))) : ts_J0 (d + 1) mX5_mark (ts_qi Q) g 0 [(0, .ref o), (1, .ref p0), (2, .int p1), (3, .ref p2)] [] hi hk := by
  refine ts_aload_n 3 (pc' := 1) rfl dX5_mark_0 rfl rfl ?_
  refine ts_bipush (v := 22) (pc' := 3) rfl dX5_mark_1 (by decide) ?_
  obtain ⟨c3, W⟩ := W
  refine ts_callV (M' := mX10_leave) (C := RX10) (pc' := 6) (av := [.int 22]) (b := p2) rfl dX5_mark_3 rfl gX5_mark_X10_leave rfl dvX10_leave rfl (ci := 9) cfX10.1 (by decide) c3 (Nat.le_refl _) (Nat.le_of_ble_eq_true rfl) (Nat.le_of_ble_eq_true rfl) (Nat.le_refl _) (Nat.le_refl _) ts_kv0 W (ts_kkv fun hi1 hk2 W => ?_)
  refine ts_aload_n 0 (pc' := 7) rfl dX5_mark_6 rfl rfl ?_
  refine ts_aload_n 1 (pc' := 8) rfl dX5_mark_7 rfl rfl ?_
  refine ts_iload_n 2 (pc' := 9) rfl dX5_mark_8 rfl rfl ?_
  refine ts_aload_n 3 (pc' := 10) rfl dX5_mark_9 rfl rfl ?_
  obtain ⟨c7, W⟩ := W
  refine ts_callSUk (M' := mX4_mark) (pc' := 13) (av := [.ref p0, .int p1, .ref p2]) (b := o) rfl dX5_mark_10 rfl gX5_mark_X4_mark_s28 rfl dwX4_mark rfl c7 (Nat.le_refl _) (Nat.le_of_ble_eq_true rfl) (Nat.le_of_ble_eq_true rfl) (Nat.le_refl _) (Nat.le_refl _) ts_kv0 W (ts_kki fun v6 hi4 hk5 W => ?_)
  refine ts_sipush (v := 1000) (pc' := 16) rfl dX5_mark_13 (by decide) ?_
  refine ts_isub (pc' := 17) rfl dX5_mark_16 ?_
  exact ts_iret dX5_mark_17 rfl (Nat.le_refl _) (Nat.le_refl _) ⟨rfl, _, rfl, W⟩
theorem hnX8_gainIn_X1 : ∀ w ∈ u_ws RX1 TX1 13, w ∈ wsX8_gainIn := by decide +kernel
theorem flX8_gainIn_7 : Cond.fieldLink RX8 7 "TurnipSquires$Field" "higher" "[I" ∈ wsX8_gainIn := by decide +kernel
theorem flX8_gainIn_13 : Cond.fieldLink RX8 13 "TurnipSquires$Field" "ground" "I" ∈ wsX8_gainIn := by decide +kernel
set_option maxHeartbeats 4000000 in
theorem wX8_gainIn_0 {d : Nat} {g : ts_G} {Q : Int32 → ts_I → ts_K → Prop} {o : Nat} {p0 : Nat} {p1 : Int32} {p2 : Int32} {hi : ts_I} {hk : ts_K} (W : (g.2.1 p0 = 1) ∧ (g.2.2.2 p0 8 ≠ 0) ∧ (g.2.1 (g.2.2.2 p0 8) = 100) ∧ (vp_in p1 (g.2.2.1 (g.2.2.2 p0 8))) ∧ (((hi (g.2.2.2 p0 8) p1.toNatClampNeg) = 0) → (g.2.1 o = 0 ∨ g.2.1 o = 2 ∨ g.2.1 o = 3 ∨ g.2.1 o = 4 ∨ g.2.1 o = 7) ∧ ts_E0 d mX0_gainIn [.ref o, .ref p0, .int p1, .int p2] g hi hk (ts_qi (fun v8 hi6 hk7 => Q v8 hi6 hk7))) ∧ (¬ ((hi (g.2.2.2 p0 8) p1.toNatClampNeg) = 0) → Q (2 * (hi p0 11)) hi hk)) : ts_J0 (d + 1) mX8_gainIn (ts_qi Q) g 0 [(0, .ref o), (1, .ref p0), (2, .int p1), (3, .int p2)] [] hi hk := by
  refine ts_aload_n 1 (pc' := 1) rfl dX8_gainIn_0 rfl rfl ?_
  obtain ⟨c1, W⟩ := W
  obtain ⟨c2, W⟩ := W
  refine ts_getR (pc' := 4) (ci := 1) 8 cfX1.1 cfX1.2.1 cfX1.2.2 rfl (by decide) hnX8_gainIn_X1 flX8_gainIn_7 rfl dX8_gainIn_1 c1 c2 ?_
  refine ts_iload_n 2 (pc' := 5) rfl dX8_gainIn_4 rfl rfl ?_
  obtain ⟨c3, W⟩ := W
  obtain ⟨c4, W⟩ := W
  refine ts_iaload (pc' := 6) rfl dX8_gainIn_5 c3 c4 ?_
  refine ts_if_eq (pc' := 9) (tgt := 18) rfl dX8_gainIn_6 (by decide) (fun q5 => ?_) (fun q5 => ?_)
  · replace W := W.1 q5
    refine ts_aload_n 0 (pc' := 19) rfl dX8_gainIn_18 rfl rfl ?_
    refine ts_aload_n 1 (pc' := 20) rfl dX8_gainIn_19 rfl rfl ?_
    refine ts_iload_n 2 (pc' := 21) rfl dX8_gainIn_20 rfl rfl ?_
    refine ts_iload_n 3 (pc' := 22) rfl dX8_gainIn_21 rfl rfl ?_
    obtain ⟨c9, W⟩ := W
    refine ts_callSUk (M' := mX0_gainIn) (pc' := 25) (av := [.ref p0, .int p1, .int p2]) (b := o) rfl dX8_gainIn_22 rfl gX8_gainIn_X0_gainIn_s17 rfl dwX0_gainIn rfl c9 (Nat.le_refl _) (Nat.le_of_ble_eq_true rfl) (Nat.le_of_ble_eq_true rfl) (Nat.le_refl _) (Nat.le_refl _) ts_kv0 W (ts_kki fun v8 hi6 hk7 W => ?_)
    exact ts_iret dX8_gainIn_25 rfl (Nat.le_refl _) (Nat.le_refl _) ⟨rfl, _, rfl, W⟩
  · replace W := W.2 q5
    refine ts_iconst (v := 2) (pc' := 10) rfl dX8_gainIn_9 (by decide) ?_
    refine ts_aload_n 1 (pc' := 11) rfl dX8_gainIn_10 rfl rfl ?_
    refine ts_getI (pc' := 14) (ci := 1) 11 cfX1.1 cfX1.2.1 cfX1.2.2 rfl (by decide) hnX8_gainIn_X1 flX8_gainIn_13 rfl dX8_gainIn_11 c1 ?_
    refine ts_imul (pc' := 15) rfl dX8_gainIn_14 ?_
    refine ts_goto (tgt := 25) dX8_gainIn_15 (by decide) ?_
    exact ts_iret dX8_gainIn_25 rfl (Nat.le_refl _) (Nat.le_refl _) ⟨rfl, _, rfl, W⟩
set_option maxHeartbeats 4000000 in
theorem wX8_size_0 {d : Nat} {g : ts_G} {Q : Int32 → ts_I → ts_K → Prop} {o : Nat} {p0 : Nat} {p1 : Int32} {p2 : Nat} {hi : ts_I} {hk : ts_K} (W : (g.2.1 p2 = 9) ∧ ts_E0 d mX10_leave [.ref p2, .int 14] g hi hk (ts_qv (fun hi1 hk2 => (g.2.1 o = 0 ∨ g.2.1 o = 2 ∨ g.2.1 o = 3 ∨ g.2.1 o = 4 ∨ g.2.1 o = 7) ∧ ts_E0 d mX0_size [.ref o, .ref p0, .int p1, .ref p2] g hi1 hk2 (ts_qi (fun v6 hi4 hk5 => Q (2 * v6) hi4 hk5))))) : ts_J0 (d + 1) mX8_size (ts_qi Q) g 0 [(0, .ref o), (1, .ref p0), (2, .int p1), (3, .ref p2)] [] hi hk := by
  refine ts_aload_n 3 (pc' := 1) rfl dX8_size_0 rfl rfl ?_
  refine ts_bipush (v := 14) (pc' := 3) rfl dX8_size_1 (by decide) ?_
  obtain ⟨c3, W⟩ := W
  refine ts_callV (M' := mX10_leave) (C := RX10) (pc' := 6) (av := [.int 14]) (b := p2) rfl dX8_size_3 rfl gX8_size_X10_leave rfl dvX10_leave rfl (ci := 9) cfX10.1 (by decide) c3 (Nat.le_refl _) (Nat.le_of_ble_eq_true rfl) (Nat.le_of_ble_eq_true rfl) (Nat.le_refl _) (Nat.le_refl _) ts_kv0 W (ts_kkv fun hi1 hk2 W => ?_)
  refine ts_iconst (v := 2) (pc' := 7) rfl dX8_size_6 (by decide) ?_
  refine ts_aload_n 0 (pc' := 8) rfl dX8_size_7 rfl rfl ?_
  refine ts_aload_n 1 (pc' := 9) rfl dX8_size_8 rfl rfl ?_
  refine ts_iload_n 2 (pc' := 10) rfl dX8_size_9 rfl rfl ?_
  refine ts_aload_n 3 (pc' := 11) rfl dX8_size_10 rfl rfl ?_
  obtain ⟨c7, W⟩ := W
  refine ts_callSUk (M' := mX0_size) (pc' := 14) (av := [.ref p0, .int p1, .ref p2]) (b := o) rfl dX8_size_11 rfl gX8_size_X0_size_s26 rfl dwX0_size rfl c7 (Nat.le_refl _) (Nat.le_of_ble_eq_true rfl) (Nat.le_of_ble_eq_true rfl) (Nat.le_refl _) (Nat.le_refl _) ts_kv0 W (ts_kki fun v6 hi4 hk5 W => ?_)
  refine ts_imul (pc' := 15) rfl dX8_size_14 ?_
  exact ts_iret dX8_size_15 rfl (Nat.le_refl _) (Nat.le_refl _) ⟨rfl, _, rfl, W⟩
theorem hnX6_begin_X6 : ∀ w ∈ u_ws RX6 TX6 4, w ∈ wsX6_begin := by decide +kernel
theorem flX6_begin_9 : Cond.fieldLink RX6 9 "TurnipSquires$Row" "items" "[I" ∈ wsX6_begin := by decide +kernel
theorem flX6_begin_15 : Cond.fieldLink RX6 15 "TurnipSquires$Row" "there" "Z" ∈ wsX6_begin := by decide +kernel
theorem flX6_begin_19 : Cond.fieldLink RX6 19 "TurnipSquires$Row" "lane" "I" ∈ wsX6_begin := by decide +kernel
theorem flX6_begin_23 : Cond.fieldLink RX6 23 "TurnipSquires$Row" "size" "I" ∈ wsX6_begin := by decide +kernel
set_option maxHeartbeats 4000000 in
theorem wX6_begin_0 {d : Nat} {g : ts_G} {Q : ts_I → ts_K → Prop} {o : Nat} {p0 : Int32} {p1 : Int32} {hi : ts_I} {hk : ts_K} (W : (g.2.1 o = 5) ∧ ∀ hi2 : ts_I, hi2 = ts_up hi o 1 1 → ∀ hi3 : ts_I, hi3 = ts_up hi2 o 2 p0 → ∀ hi4 : ts_I, hi4 = ts_up hi3 o 3 p1 → (g.2.2.2 o 0 ≠ 0) ∧ ts_E0 d mJ7_fill_53178 [.ref (g.2.2.2 o 0), .int 0] g hi4 hk (ts_qv (fun hi6 hk7 => Q hi6 hk7))) : ts_J0 (d + 1) mX6_begin (ts_qv Q) g 0 [(0, .ref o), (1, .int p0), (2, .int p1)] [] hi hk := by
  refine ts_aload_n 0 (pc' := 1) rfl dX6_begin_0 rfl rfl ?_
  refine ts_iconst (v := 1) (pc' := 2) rfl dX6_begin_1 (by decide) ?_
  obtain ⟨c1, W⟩ := W
  refine ts_putZ (pc' := 5) (ci := 5) 1 cfX6.1 cfX6.2.1 cfX6.2.2 rfl (by decide) hnX6_begin_X6 flX6_begin_15 tyX6_ok nmX6 rfl rfl rfl dX6_begin_2 c1 (by decide) ?_
  obtain ⟨hi2, ehi2⟩ : ∃ z, z = ts_up hi o 1 1 := ⟨_, rfl⟩
  rw [← ehi2]; replace W := W hi2 ehi2
  refine ts_aload_n 0 (pc' := 6) rfl dX6_begin_5 rfl rfl ?_
  refine ts_iload_n 1 (pc' := 7) rfl dX6_begin_6 rfl rfl ?_
  refine ts_putI (pc' := 10) (ci := 5) 2 cfX6.1 cfX6.2.1 cfX6.2.2 rfl (by decide) hnX6_begin_X6 flX6_begin_19 tyX6_ok nmX6 rfl rfl rfl dX6_begin_7 c1 ?_
  obtain ⟨hi3, ehi3⟩ : ∃ z, z = ts_up hi2 o 2 p0 := ⟨_, rfl⟩
  rw [← ehi3]; replace W := W hi3 ehi3
  refine ts_aload_n 0 (pc' := 11) rfl dX6_begin_10 rfl rfl ?_
  refine ts_iload_n 2 (pc' := 12) rfl dX6_begin_11 rfl rfl ?_
  refine ts_putI (pc' := 15) (ci := 5) 3 cfX6.1 cfX6.2.1 cfX6.2.2 rfl (by decide) hnX6_begin_X6 flX6_begin_23 tyX6_ok nmX6 rfl rfl rfl dX6_begin_12 c1 ?_
  obtain ⟨hi4, ehi4⟩ : ∃ z, z = ts_up hi3 o 3 p1 := ⟨_, rfl⟩
  rw [← ehi4]; replace W := W hi4 ehi4
  refine ts_aload_n 0 (pc' := 16) rfl dX6_begin_15 rfl rfl ?_
  obtain ⟨c5, W⟩ := W
  refine ts_getR (pc' := 19) (ci := 5) 0 cfX6.1 cfX6.2.1 cfX6.2.2 rfl (by decide) hnX6_begin_X6 flX6_begin_9 rfl dX6_begin_16 c1 c5 ?_
  refine ts_iconst (v := 0) (pc' := 20) rfl dX6_begin_19 (by decide) ?_
  refine ts_callS (M' := mJ7_fill_53178) (pc' := 23) (av := [.ref (g.2.2.2 o 0), .int 0]) rfl dX6_begin_20 rfl gX6_begin_J7_fill_53178 rfl dsJ7_fill_53178 rfl (Nat.le_refl _) (Nat.le_of_ble_eq_true rfl) (Nat.le_of_ble_eq_true rfl) (Nat.le_refl _) (Nat.le_refl _) ts_kv0 W (ts_kkv fun hi6 hk7 W => ?_)
  exact ts_vret dX6_begin_23 rfl (Nat.le_refl _) (Nat.le_refl _) ⟨rfl, rfl, W⟩
theorem hnX6_has_X6 : ∀ w ∈ u_ws RX6 TX6 4, w ∈ wsX6_has := by decide +kernel
theorem flX6_has_23 : Cond.fieldLink RX6 23 "TurnipSquires$Row" "size" "I" ∈ wsX6_has := by decide +kernel
set_option maxHeartbeats 4000000 in
theorem wX6_has_0 {d : Nat} {g : ts_G} {Q : Int32 → ts_I → ts_K → Prop} {o : Nat} {p0 : Int32} {p1 : Int32} {hi : ts_I} {hk : ts_K} (W : ((p0 < 0) → Q 0 hi hk) ∧ (¬ (p0 < 0) → ((p1 < 0) → Q 0 hi hk) ∧ (¬ (p1 < 0) → (g.2.1 o = 5) ∧ (((hi o 3) < p0) → Q 0 hi hk) ∧ (¬ ((hi o 3) < p0) → ((((hi o 3) - p0) < p1) → Q 0 hi hk) ∧ (¬ (((hi o 3) - p0) < p1) → Q 1 hi hk))))) : ts_J0 d mX6_has (ts_qi Q) g 0 [(0, .ref o), (1, .int p0), (2, .int p1)] [] hi hk := by
  refine ts_iload_n 1 (pc' := 1) rfl dX6_has_0 rfl rfl ?_
  refine ts_if_lt (pc' := 4) (tgt := 30) rfl dX6_has_1 (by decide) (fun q1 => ?_) (fun q1 => ?_)
  · replace W := W.1 q1
    refine ts_iconst (v := 0) (pc' := 31) rfl dX6_has_30 (by decide) ?_
    exact ts_zret dX6_has_31 rfl (by decide) (Nat.le_refl _) (Nat.le_refl _) ⟨rfl, _, rfl, W⟩
  · replace W := W.2 q1
    refine ts_iload_n 2 (pc' := 5) rfl dX6_has_4 rfl rfl ?_
    refine ts_if_lt (pc' := 8) (tgt := 30) rfl dX6_has_5 (by decide) (fun q2 => ?_) (fun q2 => ?_)
    · replace W := W.1 q2
      refine ts_iconst (v := 0) (pc' := 31) rfl dX6_has_30 (by decide) ?_
      exact ts_zret dX6_has_31 rfl (by decide) (Nat.le_refl _) (Nat.le_refl _) ⟨rfl, _, rfl, W⟩
    · replace W := W.2 q2
      refine ts_iload_n 1 (pc' := 9) rfl dX6_has_8 rfl rfl ?_
      refine ts_aload_n 0 (pc' := 10) rfl dX6_has_9 rfl rfl ?_
      obtain ⟨c3, W⟩ := W
      refine ts_getI (pc' := 13) (ci := 5) 3 cfX6.1 cfX6.2.1 cfX6.2.2 rfl (by decide) hnX6_has_X6 flX6_has_23 rfl dX6_has_10 c3 ?_
      refine ts_icmp_gt (pc' := 16) (tgt := 30) rfl dX6_has_13 (by decide) (fun q4 => ?_) (fun q4 => ?_)
      · replace W := W.1 q4
        refine ts_iconst (v := 0) (pc' := 31) rfl dX6_has_30 (by decide) ?_
        exact ts_zret dX6_has_31 rfl (by decide) (Nat.le_refl _) (Nat.le_refl _) ⟨rfl, _, rfl, W⟩
      · replace W := W.2 q4
        refine ts_iload_n 2 (pc' := 17) rfl dX6_has_16 rfl rfl ?_
        refine ts_aload_n 0 (pc' := 18) rfl dX6_has_17 rfl rfl ?_
        refine ts_getI (pc' := 21) (ci := 5) 3 cfX6.1 cfX6.2.1 cfX6.2.2 rfl (by decide) hnX6_has_X6 flX6_has_23 rfl dX6_has_18 c3 ?_
        refine ts_iload_n 1 (pc' := 22) rfl dX6_has_21 rfl rfl ?_
        refine ts_isub (pc' := 23) rfl dX6_has_22 ?_
        refine ts_icmp_gt (pc' := 26) (tgt := 30) rfl dX6_has_23 (by decide) (fun q5 => ?_) (fun q5 => ?_)
        · replace W := W.1 q5
          refine ts_iconst (v := 0) (pc' := 31) rfl dX6_has_30 (by decide) ?_
          exact ts_zret dX6_has_31 rfl (by decide) (Nat.le_refl _) (Nat.le_refl _) ⟨rfl, _, rfl, W⟩
        · replace W := W.2 q5
          refine ts_iconst (v := 1) (pc' := 27) rfl dX6_has_26 (by decide) ?_
          refine ts_goto (tgt := 31) dX6_has_27 (by decide) ?_
          exact ts_zret dX6_has_31 rfl (by decide) (Nat.le_refl _) (Nat.le_refl _) ⟨rfl, _, rfl, W⟩
theorem hnX6_narrowed_X6 : ∀ w ∈ u_ws RX6 TX6 4, w ∈ wsX6_narrowed := by decide +kernel
theorem flX6_narrowed_19 : Cond.fieldLink RX6 19 "TurnipSquires$Row" "lane" "I" ∈ wsX6_narrowed := by decide +kernel
set_option maxHeartbeats 4000000 in
theorem wX6_narrowed_0 {d : Nat} {g : ts_G} {Q : Int32 → ts_I → ts_K → Prop} {o : Nat} {p0 : Int32} {hi : ts_I} {hk : ts_K} (W : (g.2.1 o = 5) ∧ ((hi o 2) = 0 → Q (p0).toInt8.toInt32 hi hk) ∧ ((hi o 2) = 1 → Q (p0).toInt16.toInt32 hi hk) ∧ (¬ (hi o 2) = 0 → ¬ (hi o 2) = 1 → Q p0 hi hk)) : ts_J0 d mX6_narrowed (ts_qi Q) g 0 [(0, .ref o), (1, .int p0)] [] hi hk := by
  refine ts_aload_n 0 (pc' := 1) rfl dX6_narrowed_0 rfl rfl ?_
  obtain ⟨c1, W⟩ := W
  refine ts_getI (pc' := 4) (ci := 5) 2 cfX6.1 cfX6.2.1 cfX6.2.2 rfl (by decide) hnX6_narrowed_X6 flX6_narrowed_19 rfl dX6_narrowed_1 c1 ?_
  by_cases q2 : (hi o 2) = 0
  · replace W := W.1 q2
    refine ts_lookI (off := 28) (tgt := 32) dX6_narrowed_4 (by decide) (by rw [q2]; decide) (by decide) ?_
    refine ts_iload_n 1 (pc' := 33) rfl dX6_narrowed_32 rfl rfl ?_
    refine ts_i2b (pc' := 34) rfl dX6_narrowed_33 rfl ?_
    exact ts_iret dX6_narrowed_34 rfl (Nat.le_refl _) (Nat.le_refl _) ⟨rfl, _, rfl, W⟩
  replace W := W.2
  by_cases q3 : (hi o 2) = 1
  · replace W := W.1 q3
    refine ts_lookI (off := 31) (tgt := 35) dX6_narrowed_4 (by decide) (by rw [q3]; decide) (by decide) ?_
    refine ts_iload_n 1 (pc' := 36) rfl dX6_narrowed_35 rfl rfl ?_
    refine ts_i2s (pc' := 37) rfl dX6_narrowed_36 rfl ?_
    exact ts_iret dX6_narrowed_37 rfl (Nat.le_refl _) (Nat.le_refl _) ⟨rfl, _, rfl, W⟩
  replace W := W.2
  replace W := W q2 q3
  have n4 : ¬ (0 : Int) = Int32.toInt (hi o 2) := fun q => lv_neT q2 (a := 0) (by decide) q.symm
  have n5 : ¬ (1 : Int) = Int32.toInt (hi o 2) := fun q => lv_neT q3 (a := 1) (by decide) q.symm
  refine ts_lookI (off := 34) (tgt := 38) dX6_narrowed_4 (by decide) (by simp [Op.lookupswitch.offset, n4, n5]) (by decide) ?_
  refine ts_iload_n 1 (pc' := 39) rfl dX6_narrowed_38 rfl rfl ?_
  exact ts_iret dX6_narrowed_39 rfl (Nat.le_refl _) (Nat.le_refl _) ⟨rfl, _, rfl, W⟩
theorem hnX10_leave_X10 : ∀ w ∈ u_ws RX10 TX10 2, w ∈ wsX10_leave := by decide +kernel
theorem flX10_leave_9 : Cond.fieldLink RX10 9 "TurnipSquires$Trace" "numbers" "[I" ∈ wsX10_leave := by decide +kernel
theorem flX10_leave_15 : Cond.fieldLink RX10 15 "TurnipSquires$Trace" "size" "I" ∈ wsX10_leave := by decide +kernel
set_option maxHeartbeats 4000000 in
theorem wX10_leave_0 {d : Nat} {g : ts_G} {Q : ts_I → ts_K → Prop} {o : Nat} {p0 : Int32} {hi : ts_I} {hk : ts_K} (W : (g.2.1 o = 9) ∧ ((16 ≤ (hi o 1)) → Q hi hk) ∧ (¬ (16 ≤ (hi o 1)) → (g.2.2.2 o 0 ≠ 0) ∧ (g.2.1 (g.2.2.2 o 0) = 100) ∧ (vp_in (hi o 1) (g.2.2.1 (g.2.2.2 o 0))) ∧ ∀ hi6 : ts_I, hi6 = ts_up hi (g.2.2.2 o 0) (hi o 1).toNatClampNeg p0 → ∀ hi7 : ts_I, hi7 = ts_up hi6 o 1 ((hi6 o 1) + 1) → Q hi7 hk)) : ts_J0 d mX10_leave (ts_qv Q) g 0 [(0, .ref o), (1, .int p0)] [] hi hk := by
  refine ts_aload_n 0 (pc' := 1) rfl dX10_leave_0 rfl rfl ?_
  obtain ⟨c1, W⟩ := W
  refine ts_getI (pc' := 4) (ci := 9) 1 cfX10.1 cfX10.2.1 cfX10.2.2 rfl (by decide) hnX10_leave_X10 flX10_leave_15 rfl dX10_leave_1 c1 ?_
  refine ts_bipush (v := 16) (pc' := 6) rfl dX10_leave_4 (by decide) ?_
  refine ts_icmp_ge (pc' := 9) (tgt := 29) rfl dX10_leave_6 (by decide) (fun q2 => ?_) (fun q2 => ?_)
  · replace W := W.1 q2
    exact ts_vret dX10_leave_29 rfl (Nat.le_refl _) (Nat.le_refl _) ⟨rfl, rfl, W⟩
  · replace W := W.2 q2
    refine ts_aload_n 0 (pc' := 10) rfl dX10_leave_9 rfl rfl ?_
    obtain ⟨c3, W⟩ := W
    refine ts_getR (pc' := 13) (ci := 9) 0 cfX10.1 cfX10.2.1 cfX10.2.2 rfl (by decide) hnX10_leave_X10 flX10_leave_9 rfl dX10_leave_10 c1 c3 ?_
    refine ts_aload_n 0 (pc' := 14) rfl dX10_leave_13 rfl rfl ?_
    refine ts_getI (pc' := 17) (ci := 9) 1 cfX10.1 cfX10.2.1 cfX10.2.2 rfl (by decide) hnX10_leave_X10 flX10_leave_15 rfl dX10_leave_14 c1 ?_
    refine ts_iload_n 1 (pc' := 18) rfl dX10_leave_17 rfl rfl ?_
    obtain ⟨c4, W⟩ := W
    obtain ⟨c5, W⟩ := W
    refine ts_iastore (pc' := 19) rfl dX10_leave_18 c4 c5 ?_
    obtain ⟨hi6, ehi6⟩ : ∃ z, z = ts_up hi (g.2.2.2 o 0) (hi o 1).toNatClampNeg p0 := ⟨_, rfl⟩
    rw [← ehi6]; replace W := W hi6 ehi6
    refine ts_aload_n 0 (pc' := 20) rfl dX10_leave_19 rfl rfl ?_
    refine ts_dup (pc' := 21) rfl dX10_leave_20 rfl ?_
    refine ts_getI (pc' := 24) (ci := 9) 1 cfX10.1 cfX10.2.1 cfX10.2.2 rfl (by decide) hnX10_leave_X10 flX10_leave_15 rfl dX10_leave_21 c1 ?_
    refine ts_iconst (v := 1) (pc' := 25) rfl dX10_leave_24 (by decide) ?_
    refine ts_iadd (pc' := 26) rfl dX10_leave_25 ?_
    refine ts_putI (pc' := 29) (ci := 9) 1 cfX10.1 cfX10.2.1 cfX10.2.2 rfl (by decide) hnX10_leave_X10 flX10_leave_15 tyX10_ok nmX10 rfl rfl rfl dX10_leave_26 c1 ?_
    obtain ⟨hi7, ehi7⟩ : ∃ z, z = ts_up hi6 o 1 ((hi6 o 1) + 1) := ⟨_, rfl⟩
    rw [← ehi7]; replace W := W hi7 ehi7
    exact ts_vret dX10_leave_29 rfl (Nat.le_refl _) (Nat.le_refl _) ⟨rfl, rfl, W⟩
