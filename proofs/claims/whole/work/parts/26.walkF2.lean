theorem hnX12_notes_X12 : ∀ w ∈ u_ws RX12 TX12 25, w ∈ wsX12_notes := by decide +kernel
theorem flX12_notes_25 : Cond.fieldLink RX12 25 "TurnipSquiresModel" "now" "[I" ∈ wsX12_notes := by decide +kernel
theorem flX12_notes_34 : Cond.fieldLink RX12 34 "TurnipSquiresModel" "past" "[I" ∈ wsX12_notes := by decide +kernel
theorem flX12_notes_145 : Cond.fieldLink RX12 145 "TurnipSquiresModel" "acts" "I" ∈ wsX12_notes := by decide +kernel
set_option maxHeartbeats 4000000 in
theorem wX12_notes_0 {d : Nat} {g : ts_G} {Q : ts_I → ts_K → Prop} {o : Nat} {hi : ts_I} {hk : ts_K} (W : (g.2.1 o = 11) ∧ (((hi o 17) ≠ 24) → (g.2.2.2 o 13 ≠ 0) ∧ (g.2.2.2 o 16 ≠ 0) ∧ ts_E0 d mX12_copies [.ref (g.2.2.2 o 13), .int 0, .ref (g.2.2.2 o 16), .int (46 * (hi o 17))] g hi hk (ts_qv (fun hi5 hk6 => ∀ hi7 : ts_I, hi7 = ts_up hi5 o 17 ((hi5 o 17) + 1) → Q hi7 hk6))) ∧ (¬ ((hi o 17) ≠ 24) → ts_J0 (d + 1) mX12_notes (ts_qv Q) g 11 [(0, .ref o), (1, .int 0)] [] hi hk)) : ts_J0 (d + 1) mX12_notes (ts_qv Q) g 0 [(0, .ref o)] [] hi hk := by
  refine ts_aload_n 0 (pc' := 1) rfl dX12_notes_0 rfl rfl ?_
  obtain ⟨c1, W⟩ := W
  refine ts_getI (pc' := 4) (ci := 11) 17 cfX12.1 cfX12.2.1 cfX12.2.2 rfl (by decide) hnX12_notes_X12 flX12_notes_145 rfl dX12_notes_1 c1 ?_
  refine ts_bipush (v := 24) (pc' := 6) rfl dX12_notes_4 (by decide) ?_
  refine ts_icmp_ne (pc' := 9) (tgt := 49) rfl dX12_notes_6 (by decide) (fun q2 => ?_) (fun q2 => ?_)
  · replace W := W.1 q2
    refine ts_aload_n 0 (pc' := 50) rfl dX12_notes_49 rfl rfl ?_
    obtain ⟨c3, W⟩ := W
    refine ts_getR (pc' := 53) (ci := 11) 13 cfX12.1 cfX12.2.1 cfX12.2.2 rfl (by decide) hnX12_notes_X12 flX12_notes_25 rfl dX12_notes_50 c1 c3 ?_
    refine ts_iconst (v := 0) (pc' := 54) rfl dX12_notes_53 (by decide) ?_
    refine ts_aload_n 0 (pc' := 55) rfl dX12_notes_54 rfl rfl ?_
    obtain ⟨c4, W⟩ := W
    refine ts_getR (pc' := 58) (ci := 11) 16 cfX12.1 cfX12.2.1 cfX12.2.2 rfl (by decide) hnX12_notes_X12 flX12_notes_34 rfl dX12_notes_55 c1 c4 ?_
    refine ts_bipush (v := 46) (pc' := 60) rfl dX12_notes_58 (by decide) ?_
    refine ts_aload_n 0 (pc' := 61) rfl dX12_notes_60 rfl rfl ?_
    refine ts_getI (pc' := 64) (ci := 11) 17 cfX12.1 cfX12.2.1 cfX12.2.2 rfl (by decide) hnX12_notes_X12 flX12_notes_145 rfl dX12_notes_61 c1 ?_
    refine ts_imul (pc' := 65) rfl dX12_notes_64 ?_
    refine ts_callS (M' := mX12_copies) (pc' := 68) (av := [.ref (g.2.2.2 o 13), .int 0, .ref (g.2.2.2 o 16), .int (46 * (hi o 17))]) rfl dX12_notes_65 rfl gX12_notes_X12_copies rfl dsX12_copies rfl (Nat.le_refl _) (Nat.le_of_ble_eq_true rfl) (Nat.le_of_ble_eq_true rfl) (Nat.le_refl _) (Nat.le_refl _) ts_kv0 W (ts_kkv fun hi5 hk6 W => ?_)
    refine ts_aload_n 0 (pc' := 69) rfl dX12_notes_68 rfl rfl ?_
    refine ts_dup (pc' := 70) rfl dX12_notes_69 rfl ?_
    refine ts_getI (pc' := 73) (ci := 11) 17 cfX12.1 cfX12.2.1 cfX12.2.2 rfl (by decide) hnX12_notes_X12 flX12_notes_145 rfl dX12_notes_70 c1 ?_
    refine ts_iconst (v := 1) (pc' := 74) rfl dX12_notes_73 (by decide) ?_
    refine ts_iadd (pc' := 75) rfl dX12_notes_74 ?_
    refine ts_putI (pc' := 78) (ci := 11) 17 cfX12.1 cfX12.2.1 cfX12.2.2 rfl (by decide) hnX12_notes_X12 flX12_notes_145 tyX12_ok nmX12 rfl rfl rfl dX12_notes_75 c1 ?_
    obtain ⟨hi7, ehi7⟩ : ∃ z, z = ts_up hi5 o 17 ((hi5 o 17) + 1) := ⟨_, rfl⟩
    rw [← ehi7]; replace W := W hi7 ehi7
    exact ts_vret dX12_notes_78 rfl (Nat.le_refl _) (Nat.le_refl _) ⟨rfl, rfl, W⟩
  · replace W := W.2 q2
    refine ts_iconst (v := 0) (pc' := 10) rfl dX12_notes_9 (by decide) ?_
    refine ts_istore_n (pc' := 11) (ls' := [(1, .int 0), (0, .ref o)]) rfl dX12_notes_10 rfl (Nat.le_of_ble_eq_true rfl) rfl ?_
    exact ts_sub [1, 0] rfl W
set_option maxHeartbeats 4000000 in
theorem wX12_notes_11 {d : Nat} {g : ts_G} {Q : ts_I → ts_K → Prop} {l0 : Nat} {l1 : Int32} {hi : ts_I} {hk : ts_K} (W : ((1058 ≤ l1) → (g.2.1 l0 = 11) ∧ ∀ hi3 : ts_I, hi3 = ts_up hi l0 17 ((hi l0 17) - 1) → (g.2.2.2 l0 13 ≠ 0) ∧ (g.2.2.2 l0 16 ≠ 0) ∧ ts_E0 d mX12_copies [.ref (g.2.2.2 l0 13), .int 0, .ref (g.2.2.2 l0 16), .int (46 * (hi3 l0 17))] g hi3 hk (ts_qv (fun hi6 hk7 => ∀ hi8 : ts_I, hi8 = ts_up hi6 l0 17 ((hi6 l0 17) + 1) → Q hi8 hk7))) ∧ (¬ (1058 ≤ l1) → (g.2.1 l0 = 11) ∧ (g.2.2.2 l0 16 ≠ 0) ∧ (g.2.1 (g.2.2.2 l0 16) = 100) ∧ (vp_in (l1 + 46) (g.2.2.1 (g.2.2.2 l0 16))) ∧ (vp_in l1 (g.2.2.1 (g.2.2.2 l0 16))) ∧ ∀ hi14 : ts_I, hi14 = ts_up hi (g.2.2.2 l0 16) l1.toNatClampNeg (hi (g.2.2.2 l0 16) (l1 + 46).toNatClampNeg) → ts_J0 (d + 1) mX12_notes (ts_qv Q) g 11 [(0, .ref l0), (1, .int (l1 + 1))] [] hi14 hk)) : ts_J0 (d + 1) mX12_notes (ts_qv Q) g 11 [(0, .ref l0), (1, .int l1)] [] hi hk := by
  refine ts_iload_n 1 (pc' := 12) rfl dX12_notes_11 rfl rfl ?_
  refine ts_sipush (v := 1058) (pc' := 15) rfl dX12_notes_12 (by decide) ?_
  refine ts_icmp_ge (pc' := 18) (tgt := 39) rfl dX12_notes_15 (by decide) (fun q1 => ?_) (fun q1 => ?_)
  · replace W := W.1 q1
    refine ts_aload_n 0 (pc' := 40) rfl dX12_notes_39 rfl rfl ?_
    refine ts_dup (pc' := 41) rfl dX12_notes_40 rfl ?_
    obtain ⟨c2, W⟩ := W
    refine ts_getI (pc' := 44) (ci := 11) 17 cfX12.1 cfX12.2.1 cfX12.2.2 rfl (by decide) hnX12_notes_X12 flX12_notes_145 rfl dX12_notes_41 c2 ?_
    refine ts_iconst (v := 1) (pc' := 45) rfl dX12_notes_44 (by decide) ?_
    refine ts_isub (pc' := 46) rfl dX12_notes_45 ?_
    refine ts_putI (pc' := 49) (ci := 11) 17 cfX12.1 cfX12.2.1 cfX12.2.2 rfl (by decide) hnX12_notes_X12 flX12_notes_145 tyX12_ok nmX12 rfl rfl rfl dX12_notes_46 c2 ?_
    obtain ⟨hi3, ehi3⟩ : ∃ z, z = ts_up hi l0 17 ((hi l0 17) - 1) := ⟨_, rfl⟩
    rw [← ehi3]; replace W := W hi3 ehi3
    refine ts_aload_n 0 (pc' := 50) rfl dX12_notes_49 rfl rfl ?_
    obtain ⟨c4, W⟩ := W
    refine ts_getR (pc' := 53) (ci := 11) 13 cfX12.1 cfX12.2.1 cfX12.2.2 rfl (by decide) hnX12_notes_X12 flX12_notes_25 rfl dX12_notes_50 c2 c4 ?_
    refine ts_iconst (v := 0) (pc' := 54) rfl dX12_notes_53 (by decide) ?_
    refine ts_aload_n 0 (pc' := 55) rfl dX12_notes_54 rfl rfl ?_
    obtain ⟨c5, W⟩ := W
    refine ts_getR (pc' := 58) (ci := 11) 16 cfX12.1 cfX12.2.1 cfX12.2.2 rfl (by decide) hnX12_notes_X12 flX12_notes_34 rfl dX12_notes_55 c2 c5 ?_
    refine ts_bipush (v := 46) (pc' := 60) rfl dX12_notes_58 (by decide) ?_
    refine ts_aload_n 0 (pc' := 61) rfl dX12_notes_60 rfl rfl ?_
    refine ts_getI (pc' := 64) (ci := 11) 17 cfX12.1 cfX12.2.1 cfX12.2.2 rfl (by decide) hnX12_notes_X12 flX12_notes_145 rfl dX12_notes_61 c2 ?_
    refine ts_imul (pc' := 65) rfl dX12_notes_64 ?_
    refine ts_callS (M' := mX12_copies) (pc' := 68) (av := [.ref (g.2.2.2 l0 13), .int 0, .ref (g.2.2.2 l0 16), .int (46 * (hi3 l0 17))]) rfl dX12_notes_65 rfl gX12_notes_X12_copies rfl dsX12_copies rfl (Nat.le_refl _) (Nat.le_of_ble_eq_true rfl) (Nat.le_of_ble_eq_true rfl) (Nat.le_refl _) (Nat.le_refl _) ts_kv0 W (ts_kkv fun hi6 hk7 W => ?_)
    refine ts_aload_n 0 (pc' := 69) rfl dX12_notes_68 rfl rfl ?_
    refine ts_dup (pc' := 70) rfl dX12_notes_69 rfl ?_
    refine ts_getI (pc' := 73) (ci := 11) 17 cfX12.1 cfX12.2.1 cfX12.2.2 rfl (by decide) hnX12_notes_X12 flX12_notes_145 rfl dX12_notes_70 c2 ?_
    refine ts_iconst (v := 1) (pc' := 74) rfl dX12_notes_73 (by decide) ?_
    refine ts_iadd (pc' := 75) rfl dX12_notes_74 ?_
    refine ts_putI (pc' := 78) (ci := 11) 17 cfX12.1 cfX12.2.1 cfX12.2.2 rfl (by decide) hnX12_notes_X12 flX12_notes_145 tyX12_ok nmX12 rfl rfl rfl dX12_notes_75 c2 ?_
    obtain ⟨hi8, ehi8⟩ : ∃ z, z = ts_up hi6 l0 17 ((hi6 l0 17) + 1) := ⟨_, rfl⟩
    rw [← ehi8]; replace W := W hi8 ehi8
    exact ts_vret dX12_notes_78 rfl (Nat.le_refl _) (Nat.le_refl _) ⟨rfl, rfl, W⟩
  · replace W := W.2 q1
    refine ts_aload_n 0 (pc' := 19) rfl dX12_notes_18 rfl rfl ?_
    obtain ⟨c9, W⟩ := W
    obtain ⟨c10, W⟩ := W
    refine ts_getR (pc' := 22) (ci := 11) 16 cfX12.1 cfX12.2.1 cfX12.2.2 rfl (by decide) hnX12_notes_X12 flX12_notes_34 rfl dX12_notes_19 c9 c10 ?_
    refine ts_iload_n 1 (pc' := 23) rfl dX12_notes_22 rfl rfl ?_
    refine ts_aload_n 0 (pc' := 24) rfl dX12_notes_23 rfl rfl ?_
    refine ts_getR (pc' := 27) (ci := 11) 16 cfX12.1 cfX12.2.1 cfX12.2.2 rfl (by decide) hnX12_notes_X12 flX12_notes_34 rfl dX12_notes_24 c9 c10 ?_
    refine ts_iload_n 1 (pc' := 28) rfl dX12_notes_27 rfl rfl ?_
    refine ts_bipush (v := 46) (pc' := 30) rfl dX12_notes_28 (by decide) ?_
    refine ts_iadd (pc' := 31) rfl dX12_notes_30 ?_
    obtain ⟨c11, W⟩ := W
    obtain ⟨c12, W⟩ := W
    refine ts_iaload (pc' := 32) rfl dX12_notes_31 c11 c12 ?_
    obtain ⟨c13, W⟩ := W
    refine ts_iastore (pc' := 33) rfl dX12_notes_32 c11 c13 ?_
    obtain ⟨hi14, ehi14⟩ : ∃ z, z = ts_up hi (g.2.2.2 l0 16) l1.toNatClampNeg (hi (g.2.2.2 l0 16) (l1 + 46).toNatClampNeg) := ⟨_, rfl⟩
    rw [← ehi14]; replace W := W hi14 ehi14
    refine ts_iinc 1 (pc' := 36) (ls' := [(1, .int (l1 + 1)), (0, .ref l0)]) rfl dX12_notes_33 rfl rfl (Nat.le_of_ble_eq_true rfl) rfl ?_
    refine ts_goto (tgt := 11) dX12_notes_36 (by decide) ?_
    exact ts_sub [1, 0] rfl W
theorem hnX12_years_X12 : ∀ w ∈ u_ws RX12 TX12 25, w ∈ wsX12_years := by decide +kernel
theorem flX12_years_25 : Cond.fieldLink RX12 25 "TurnipSquiresModel" "now" "[I" ∈ wsX12_years := by decide +kernel
set_option maxHeartbeats 4000000 in
theorem wX12_years_0 {d : Nat} {g : ts_G} {Q : Int32 → ts_I → ts_K → Prop} {o : Nat} {p0 : Int32} {hi : ts_I} {hk : ts_K} (W : (g.2.1 o = 11) ∧ ts_E0 d mX12_isField [.ref o] g hi hk (ts_qi (fun v3 hi1 hk2 => ((v3 ≠ 0) → ts_E0 d mX12_in [.int p0, .int 1, .int 24] g hi1 hk2 (ts_qi (fun v8 hi6 hk7 => ((v8 ≠ 0) → (g.2.2.2 o 13 ≠ 0) ∧ (g.2.1 (g.2.2.2 o 13) = 100) ∧ (vp_in 3 (g.2.2.1 (g.2.2.2 o 13))) ∧ ((((hi6 (g.2.2.2 o 13) (3 : Int32).toNatClampNeg) + p0) ≤ 9999) → ts_J0 (d + 1) mX12_years (ts_qi Q) g 42 [(0, .ref o), (1, .int p0), (2, .int 0)] [] hi6 hk7) ∧ (¬ (((hi6 (g.2.2.2 o 13) (3 : Int32).toNatClampNeg) + p0) ≤ 9999) → Q (-1000003) hi6 hk7)) ∧ (¬ (v8 ≠ 0) → Q (-1000001) hi6 hk7)))) ∧ (¬ (v3 ≠ 0) → Q (-1000002) hi1 hk2)))) : ts_J0 (d + 1) mX12_years (ts_qi Q) g 0 [(0, .ref o), (1, .int p0)] [] hi hk := by
  refine ts_aload_n 0 (pc' := 1) rfl dX12_years_0 rfl rfl ?_
  obtain ⟨c4, W⟩ := W
  refine ts_callV (M' := mX12_isField) (C := RX12) (pc' := 4) (av := []) (b := o) rfl dX12_years_1 rfl gX12_years_X12_isField rfl dvX12_isField rfl (ci := 11) cfX12.1 (by decide) c4 (Nat.le_refl _) (Nat.le_of_ble_eq_true rfl) (Nat.le_of_ble_eq_true rfl) (Nat.le_refl _) (Nat.le_refl _) ts_kv0 W (ts_kki fun v3 hi1 hk2 W => ?_)
  refine ts_if_ne (pc' := 7) (tgt := 10) rfl dX12_years_4 (by decide) (fun q5 => ?_) (fun q5 => ?_)
  · replace W := W.1 q5
    refine ts_iload_n 1 (pc' := 11) rfl dX12_years_10 rfl rfl ?_
    refine ts_iconst (v := 1) (pc' := 12) rfl dX12_years_11 (by decide) ?_
    refine ts_bipush (v := 24) (pc' := 14) rfl dX12_years_12 (by decide) ?_
    refine ts_callS (M' := mX12_in) (pc' := 17) (av := [.int p0, .int 1, .int 24]) rfl dX12_years_14 rfl gX12_years_X12_in rfl dsX12_in rfl (Nat.le_refl _) (Nat.le_of_ble_eq_true rfl) (Nat.le_of_ble_eq_true rfl) (Nat.le_refl _) (Nat.le_refl _) ts_kv0 W (ts_kki fun v8 hi6 hk7 W => ?_)
    refine ts_if_ne (pc' := 20) (tgt := 23) rfl dX12_years_17 (by decide) (fun q9 => ?_) (fun q9 => ?_)
    · replace W := W.1 q9
      refine ts_aload_n 0 (pc' := 24) rfl dX12_years_23 rfl rfl ?_
      obtain ⟨c10, W⟩ := W
      refine ts_getR (pc' := 27) (ci := 11) 13 cfX12.1 cfX12.2.1 cfX12.2.2 rfl (by decide) hnX12_years_X12 flX12_years_25 rfl dX12_years_24 c4 c10 ?_
      refine ts_iconst (v := 3) (pc' := 28) rfl dX12_years_27 (by decide) ?_
      obtain ⟨c11, W⟩ := W
      obtain ⟨c12, W⟩ := W
      refine ts_iaload (pc' := 29) rfl dX12_years_28 c11 c12 ?_
      refine ts_iload_n 1 (pc' := 30) rfl dX12_years_29 rfl rfl ?_
      refine ts_iadd (pc' := 31) rfl dX12_years_30 ?_
      refine ts_sipush (v := 9999) (pc' := 34) rfl dX12_years_31 (by decide) ?_
      refine ts_icmp_le (pc' := 37) (tgt := 40) rfl dX12_years_34 (by decide) (fun q13 => ?_) (fun q13 => ?_)
      · replace W := W.1 q13
        refine ts_iconst (v := 0) (pc' := 41) rfl dX12_years_40 (by decide) ?_
        refine ts_istore_n (pc' := 42) (ls' := [(2, .int 0), (0, .ref o), (1, .int p0)]) rfl dX12_years_41 rfl (Nat.le_of_ble_eq_true rfl) rfl ?_
        exact ts_sub [1, 2, 0] rfl W
      · replace W := W.2 q13
        refine ts_ldc (v := (-1000003)) (pc' := 39) rfl dX12_years_37 (by decide +kernel) ?_
        exact ts_iret dX12_years_39 rfl (Nat.le_refl _) (Nat.le_refl _) ⟨rfl, _, rfl, W⟩
    · replace W := W.2 q9
      refine ts_ldc (v := (-1000001)) (pc' := 22) rfl dX12_years_20 (by decide +kernel) ?_
      exact ts_iret dX12_years_22 rfl (Nat.le_refl _) (Nat.le_refl _) ⟨rfl, _, rfl, W⟩
  · replace W := W.2 q5
    refine ts_ldc (v := (-1000002)) (pc' := 9) rfl dX12_years_7 (by decide +kernel) ?_
    exact ts_iret dX12_years_9 rfl (Nat.le_refl _) (Nat.le_refl _) ⟨rfl, _, rfl, W⟩
set_option maxHeartbeats 4000000 in
theorem wX12_years_42 {d : Nat} {g : ts_G} {Q : Int32 → ts_I → ts_K → Prop} {l0 : Nat} {l1 : Int32} {l2 : Int32} {hi : ts_I} {hk : ts_K} (W : ((l1 ≤ l2) → (g.2.1 l0 = 11) ∧ (g.2.2.2 l0 13 ≠ 0) ∧ ts_E0 d mX12_sumOf [.ref (g.2.2.2 l0 13), .int 1] g hi hk (ts_qi (fun v6 hi4 hk5 => Q v6 hi4 hk5))) ∧ (¬ (l1 ≤ l2) → (g.2.1 l0 = 11) ∧ ts_E0 d mX12_notes [.ref l0] g hi hk (ts_qv (fun hi7 hk8 => (g.2.2.2 l0 13 ≠ 0) ∧ ts_E0 d mX12_passes [.ref l0, .ref (g.2.2.2 l0 13)] g hi7 hk8 (ts_qv (fun hi11 hk12 => ts_J0 (d + 1) mX12_years (ts_qi Q) g 42 [(0, .ref l0), (1, .int l1), (2, .int (l2 + 1))] [] hi11 hk12)))))) : ts_J0 (d + 1) mX12_years (ts_qi Q) g 42 [(0, .ref l0), (1, .int l1), (2, .int l2)] [] hi hk := by
  refine ts_iload_n 2 (pc' := 43) rfl dX12_years_42 rfl rfl ?_
  refine ts_iload_n 1 (pc' := 44) rfl dX12_years_43 rfl rfl ?_
  refine ts_icmp_ge (pc' := 47) (tgt := 65) rfl dX12_years_44 (by decide) (fun q1 => ?_) (fun q1 => ?_)
  · replace W := W.1 q1
    refine ts_aload_n 0 (pc' := 66) rfl dX12_years_65 rfl rfl ?_
    obtain ⟨c2, W⟩ := W
    obtain ⟨c3, W⟩ := W
    refine ts_getR (pc' := 69) (ci := 11) 13 cfX12.1 cfX12.2.1 cfX12.2.2 rfl (by decide) hnX12_years_X12 flX12_years_25 rfl dX12_years_66 c2 c3 ?_
    refine ts_iconst (v := 1) (pc' := 70) rfl dX12_years_69 (by decide) ?_
    refine ts_callS (M' := mX12_sumOf) (pc' := 73) (av := [.ref (g.2.2.2 l0 13), .int 1]) rfl dX12_years_70 rfl gX12_years_X12_sumOf rfl dsX12_sumOf rfl (Nat.le_refl _) (Nat.le_of_ble_eq_true rfl) (Nat.le_of_ble_eq_true rfl) (Nat.le_refl _) (Nat.le_refl _) ts_kv0 W (ts_kki fun v6 hi4 hk5 W => ?_)
    exact ts_iret dX12_years_73 rfl (Nat.le_refl _) (Nat.le_refl _) ⟨rfl, _, rfl, W⟩
  · replace W := W.2 q1
    refine ts_aload_n 0 (pc' := 48) rfl dX12_years_47 rfl rfl ?_
    obtain ⟨c9, W⟩ := W
    refine ts_callV (M' := mX12_notes) (C := RX12) (pc' := 51) (av := []) (b := l0) rfl dX12_years_48 rfl gX12_years_X12_notes rfl dvX12_notes rfl (ci := 11) cfX12.1 (by decide) c9 (Nat.le_refl _) (Nat.le_of_ble_eq_true rfl) (Nat.le_of_ble_eq_true rfl) (Nat.le_refl _) (Nat.le_refl _) ts_kv0 W (ts_kkv fun hi7 hk8 W => ?_)
    refine ts_aload_n 0 (pc' := 52) rfl dX12_years_51 rfl rfl ?_
    refine ts_aload_n 0 (pc' := 53) rfl dX12_years_52 rfl rfl ?_
    obtain ⟨c10, W⟩ := W
    refine ts_getR (pc' := 56) (ci := 11) 13 cfX12.1 cfX12.2.1 cfX12.2.2 rfl (by decide) hnX12_years_X12 flX12_years_25 rfl dX12_years_53 c9 c10 ?_
    refine ts_callV (M' := mX12_passes) (C := RX12) (pc' := 59) (av := [.ref (g.2.2.2 l0 13)]) (b := l0) rfl dX12_years_56 rfl gX12_years_X12_passes rfl dvX12_passes rfl (ci := 11) cfX12.1 (by decide) c9 (Nat.le_refl _) (Nat.le_of_ble_eq_true rfl) (Nat.le_of_ble_eq_true rfl) (Nat.le_refl _) (Nat.le_refl _) ts_kv0 W (ts_kkv fun hi11 hk12 W => ?_)
    refine ts_iinc 2 (pc' := 62) (ls' := [(2, .int (l2 + 1)), (0, .ref l0), (1, .int l1)]) rfl dX12_years_59 rfl rfl (Nat.le_of_ble_eq_true rfl) rfl ?_
    refine ts_goto (tgt := 42) dX12_years_62 (by decide) ?_
    exact ts_sub [1, 2, 0] rfl W
theorem hnX12_marry_X12 : ∀ w ∈ u_ws RX12 TX12 25, w ∈ wsX12_marry := by decide +kernel
theorem flX12_marry_25 : Cond.fieldLink RX12 25 "TurnipSquiresModel" "now" "[I" ∈ wsX12_marry := by decide +kernel
set_option maxHeartbeats 4000000 in
theorem wX12_marry_0 {d : Nat} {g : ts_G} {Q : Int32 → ts_I → ts_K → Prop} {o : Nat} {p0 : Int32} {p1 : Int32} {hi : ts_I} {hk : ts_K} (W : (g.2.1 o = 11) ∧ ts_E0 d mX12_isTurnip [.ref o, .int p0] g hi hk (ts_qi (fun v3 hi1 hk2 => ((v3 = 0) → Q (-1000001) hi1 hk2) ∧ (¬ (v3 = 0) → ts_E0 d mX12_isTurnip [.ref o, .int p1] g hi1 hk2 (ts_qi (fun v8 hi6 hk7 => ((v8 = 0) → Q (-1000001) hi6 hk7) ∧ (¬ (v8 = 0) → ((p0 ≠ p1) → (g.2.2.2 o 13 ≠ 0) ∧ (g.2.1 (g.2.2.2 o 13) = 100) ∧ (vp_in ((4 + (6 * p0)) + 5) (g.2.2.1 (g.2.2.2 o 13))) ∧ (((hi6 (g.2.2.2 o 13) ((4 + (6 * p0)) + 5).toNatClampNeg) ≠ (-1000000)) → Q (-1000002) hi6 hk7) ∧ (¬ ((hi6 (g.2.2.2 o 13) ((4 + (6 * p0)) + 5).toNatClampNeg) ≠ (-1000000)) → (vp_in ((4 + (6 * p1)) + 5) (g.2.2.1 (g.2.2.2 o 13))) ∧ (((hi6 (g.2.2.2 o 13) ((4 + (6 * p1)) + 5).toNatClampNeg) = (-1000000)) → ts_E0 d mX12_notes [.ref o] g hi6 hk7 (ts_qv (fun hi17 hk18 => ∀ hi19 : ts_I, hi19 = ts_up hi17 (g.2.2.2 o 13) ((4 + (6 * p0)) + 5).toNatClampNeg p1 → ∀ hi20 : ts_I, hi20 = ts_up hi19 (g.2.2.2 o 13) ((4 + (6 * p1)) + 5).toNatClampNeg p0 → ts_E0 d mX12_married [.ref o] g hi20 hk18 (ts_qi (fun v23 hi21 hk22 => Q v23 hi21 hk22))))) ∧ (¬ ((hi6 (g.2.2.2 o 13) ((4 + (6 * p1)) + 5).toNatClampNeg) = (-1000000)) → Q (-1000002) hi6 hk7))) ∧ (¬ (p0 ≠ p1) → Q (-1000001) hi6 hk7)))))))) : ts_J0 (d + 1) mX12_marry (ts_qi Q) g 0 [(0, .ref o), (1, .int p0), (2, .int p1)] [] hi hk := by
  refine ts_aload_n 0 (pc' := 1) rfl dX12_marry_0 rfl rfl ?_
  refine ts_iload_n 1 (pc' := 2) rfl dX12_marry_1 rfl rfl ?_
  obtain ⟨c4, W⟩ := W
  refine ts_callV (M' := mX12_isTurnip) (C := RX12) (pc' := 5) (av := [.int p0]) (b := o) rfl dX12_marry_2 rfl gX12_marry_X12_isTurnip rfl dvX12_isTurnip rfl (ci := 11) cfX12.1 (by decide) c4 (Nat.le_refl _) (Nat.le_of_ble_eq_true rfl) (Nat.le_of_ble_eq_true rfl) (Nat.le_refl _) (Nat.le_refl _) ts_kv0 W (ts_kki fun v3 hi1 hk2 W => ?_)
  refine ts_if_eq (pc' := 8) (tgt := 21) rfl dX12_marry_5 (by decide) (fun q5 => ?_) (fun q5 => ?_)
  · replace W := W.1 q5
    refine ts_ldc (v := (-1000001)) (pc' := 23) rfl dX12_marry_21 (by decide +kernel) ?_
    exact ts_iret dX12_marry_23 rfl (Nat.le_refl _) (Nat.le_refl _) ⟨rfl, _, rfl, W⟩
  · replace W := W.2 q5
    refine ts_aload_n 0 (pc' := 9) rfl dX12_marry_8 rfl rfl ?_
    refine ts_iload_n 2 (pc' := 10) rfl dX12_marry_9 rfl rfl ?_
    refine ts_callV (M' := mX12_isTurnip) (C := RX12) (pc' := 13) (av := [.int p1]) (b := o) rfl dX12_marry_10 rfl gX12_marry_X12_isTurnip rfl dvX12_isTurnip rfl (ci := 11) cfX12.1 (by decide) c4 (Nat.le_refl _) (Nat.le_of_ble_eq_true rfl) (Nat.le_of_ble_eq_true rfl) (Nat.le_refl _) (Nat.le_refl _) ts_kv0 W (ts_kki fun v8 hi6 hk7 W => ?_)
    refine ts_if_eq (pc' := 16) (tgt := 21) rfl dX12_marry_13 (by decide) (fun q9 => ?_) (fun q9 => ?_)
    · replace W := W.1 q9
      refine ts_ldc (v := (-1000001)) (pc' := 23) rfl dX12_marry_21 (by decide +kernel) ?_
      exact ts_iret dX12_marry_23 rfl (Nat.le_refl _) (Nat.le_refl _) ⟨rfl, _, rfl, W⟩
    · replace W := W.2 q9
      refine ts_iload_n 1 (pc' := 17) rfl dX12_marry_16 rfl rfl ?_
      refine ts_iload_n 2 (pc' := 18) rfl dX12_marry_17 rfl rfl ?_
      refine ts_icmp_ne (pc' := 21) (tgt := 24) rfl dX12_marry_18 (by decide) (fun q10 => ?_) (fun q10 => ?_)
      · replace W := W.1 q10
        refine ts_aload_n 0 (pc' := 25) rfl dX12_marry_24 rfl rfl ?_
        obtain ⟨c11, W⟩ := W
        refine ts_getR (pc' := 28) (ci := 11) 13 cfX12.1 cfX12.2.1 cfX12.2.2 rfl (by decide) hnX12_marry_X12 flX12_marry_25 rfl dX12_marry_25 c4 c11 ?_
        refine ts_iconst (v := 4) (pc' := 29) rfl dX12_marry_28 (by decide) ?_
        refine ts_bipush (v := 6) (pc' := 31) rfl dX12_marry_29 (by decide) ?_
        refine ts_iload_n 1 (pc' := 32) rfl dX12_marry_31 rfl rfl ?_
        refine ts_imul (pc' := 33) rfl dX12_marry_32 ?_
        refine ts_iadd (pc' := 34) rfl dX12_marry_33 ?_
        refine ts_iconst (v := 5) (pc' := 35) rfl dX12_marry_34 (by decide) ?_
        refine ts_iadd (pc' := 36) rfl dX12_marry_35 ?_
        obtain ⟨c12, W⟩ := W
        obtain ⟨c13, W⟩ := W
        refine ts_iaload (pc' := 37) rfl dX12_marry_36 c12 c13 ?_
        refine ts_ldc (v := (-1000000)) (pc' := 39) rfl dX12_marry_37 (by decide +kernel) ?_
        refine ts_icmp_ne (pc' := 42) (tgt := 60) rfl dX12_marry_39 (by decide) (fun q14 => ?_) (fun q14 => ?_)
        · replace W := W.1 q14
          refine ts_ldc (v := (-1000002)) (pc' := 62) rfl dX12_marry_60 (by decide +kernel) ?_
          exact ts_iret dX12_marry_62 rfl (Nat.le_refl _) (Nat.le_refl _) ⟨rfl, _, rfl, W⟩
        · replace W := W.2 q14
          refine ts_aload_n 0 (pc' := 43) rfl dX12_marry_42 rfl rfl ?_
          refine ts_getR (pc' := 46) (ci := 11) 13 cfX12.1 cfX12.2.1 cfX12.2.2 rfl (by decide) hnX12_marry_X12 flX12_marry_25 rfl dX12_marry_43 c4 c11 ?_
          refine ts_iconst (v := 4) (pc' := 47) rfl dX12_marry_46 (by decide) ?_
          refine ts_bipush (v := 6) (pc' := 49) rfl dX12_marry_47 (by decide) ?_
          refine ts_iload_n 2 (pc' := 50) rfl dX12_marry_49 rfl rfl ?_
          refine ts_imul (pc' := 51) rfl dX12_marry_50 ?_
          refine ts_iadd (pc' := 52) rfl dX12_marry_51 ?_
          refine ts_iconst (v := 5) (pc' := 53) rfl dX12_marry_52 (by decide) ?_
          refine ts_iadd (pc' := 54) rfl dX12_marry_53 ?_
          obtain ⟨c15, W⟩ := W
          refine ts_iaload (pc' := 55) rfl dX12_marry_54 c12 c15 ?_
          refine ts_ldc (v := (-1000000)) (pc' := 57) rfl dX12_marry_55 (by decide +kernel) ?_
          refine ts_icmp_eq (pc' := 60) (tgt := 63) rfl dX12_marry_57 (by decide) (fun q16 => ?_) (fun q16 => ?_)
          · replace W := W.1 q16
            refine ts_aload_n 0 (pc' := 64) rfl dX12_marry_63 rfl rfl ?_
            refine ts_callV (M' := mX12_notes) (C := RX12) (pc' := 67) (av := []) (b := o) rfl dX12_marry_64 rfl gX12_marry_X12_notes rfl dvX12_notes rfl (ci := 11) cfX12.1 (by decide) c4 (Nat.le_refl _) (Nat.le_of_ble_eq_true rfl) (Nat.le_of_ble_eq_true rfl) (Nat.le_refl _) (Nat.le_refl _) ts_kv0 W (ts_kkv fun hi17 hk18 W => ?_)
            refine ts_aload_n 0 (pc' := 68) rfl dX12_marry_67 rfl rfl ?_
            refine ts_getR (pc' := 71) (ci := 11) 13 cfX12.1 cfX12.2.1 cfX12.2.2 rfl (by decide) hnX12_marry_X12 flX12_marry_25 rfl dX12_marry_68 c4 c11 ?_
            refine ts_iconst (v := 4) (pc' := 72) rfl dX12_marry_71 (by decide) ?_
            refine ts_bipush (v := 6) (pc' := 74) rfl dX12_marry_72 (by decide) ?_
            refine ts_iload_n 1 (pc' := 75) rfl dX12_marry_74 rfl rfl ?_
            refine ts_imul (pc' := 76) rfl dX12_marry_75 ?_
            refine ts_iadd (pc' := 77) rfl dX12_marry_76 ?_
            refine ts_iconst (v := 5) (pc' := 78) rfl dX12_marry_77 (by decide) ?_
            refine ts_iadd (pc' := 79) rfl dX12_marry_78 ?_
            refine ts_iload_n 2 (pc' := 80) rfl dX12_marry_79 rfl rfl ?_
            refine ts_iastore (pc' := 81) rfl dX12_marry_80 c12 c13 ?_
            obtain ⟨hi19, ehi19⟩ : ∃ z, z = ts_up hi17 (g.2.2.2 o 13) ((4 + (6 * p0)) + 5).toNatClampNeg p1 := ⟨_, rfl⟩
            rw [← ehi19]; replace W := W hi19 ehi19
            refine ts_aload_n 0 (pc' := 82) rfl dX12_marry_81 rfl rfl ?_
            refine ts_getR (pc' := 85) (ci := 11) 13 cfX12.1 cfX12.2.1 cfX12.2.2 rfl (by decide) hnX12_marry_X12 flX12_marry_25 rfl dX12_marry_82 c4 c11 ?_
            refine ts_iconst (v := 4) (pc' := 86) rfl dX12_marry_85 (by decide) ?_
            refine ts_bipush (v := 6) (pc' := 88) rfl dX12_marry_86 (by decide) ?_
            refine ts_iload_n 2 (pc' := 89) rfl dX12_marry_88 rfl rfl ?_
            refine ts_imul (pc' := 90) rfl dX12_marry_89 ?_
            refine ts_iadd (pc' := 91) rfl dX12_marry_90 ?_
            refine ts_iconst (v := 5) (pc' := 92) rfl dX12_marry_91 (by decide) ?_
            refine ts_iadd (pc' := 93) rfl dX12_marry_92 ?_
            refine ts_iload_n 1 (pc' := 94) rfl dX12_marry_93 rfl rfl ?_
            refine ts_iastore (pc' := 95) rfl dX12_marry_94 c12 c15 ?_
            obtain ⟨hi20, ehi20⟩ : ∃ z, z = ts_up hi19 (g.2.2.2 o 13) ((4 + (6 * p1)) + 5).toNatClampNeg p0 := ⟨_, rfl⟩
            rw [← ehi20]; replace W := W hi20 ehi20
            refine ts_aload_n 0 (pc' := 96) rfl dX12_marry_95 rfl rfl ?_
            refine ts_callV (M' := mX12_married) (C := RX12) (pc' := 99) (av := []) (b := o) rfl dX12_marry_96 rfl gX12_marry_X12_married rfl dvX12_married rfl (ci := 11) cfX12.1 (by decide) c4 (Nat.le_refl _) (Nat.le_of_ble_eq_true rfl) (Nat.le_of_ble_eq_true rfl) (Nat.le_refl _) (Nat.le_refl _) ts_kv0 W (ts_kki fun v23 hi21 hk22 W => ?_)
            exact ts_iret dX12_marry_99 rfl (Nat.le_refl _) (Nat.le_refl _) ⟨rfl, _, rfl, W⟩
          · replace W := W.2 q16
            refine ts_ldc (v := (-1000002)) (pc' := 62) rfl dX12_marry_60 (by decide +kernel) ?_
            exact ts_iret dX12_marry_62 rfl (Nat.le_refl _) (Nat.le_refl _) ⟨rfl, _, rfl, W⟩
      · replace W := W.2 q10
        refine ts_ldc (v := (-1000001)) (pc' := 23) rfl dX12_marry_21 (by decide +kernel) ?_
        exact ts_iret dX12_marry_23 rfl (Nat.le_refl _) (Nat.le_refl _) ⟨rfl, _, rfl, W⟩
theorem hnX12_part_X12 : ∀ w ∈ u_ws RX12 TX12 25, w ∈ wsX12_part := by decide +kernel
theorem flX12_part_25 : Cond.fieldLink RX12 25 "TurnipSquiresModel" "now" "[I" ∈ wsX12_part := by decide +kernel
set_option maxHeartbeats 4000000 in
theorem wX12_part_0 {d : Nat} {g : ts_G} {Q : Int32 → ts_I → ts_K → Prop} {o : Nat} {p0 : Int32} {hi : ts_I} {hk : ts_K} (W : (g.2.1 o = 11) ∧ ts_E0 d mX12_isTurnip [.ref o, .int p0] g hi hk (ts_qi (fun v3 hi1 hk2 => ((v3 ≠ 0) → (g.2.2.2 o 13 ≠ 0) ∧ (g.2.1 (g.2.2.2 o 13) = 100) ∧ (vp_in ((4 + (6 * p0)) + 5) (g.2.2.1 (g.2.2.2 o 13))) ∧ (((hi1 (g.2.2.2 o 13) ((4 + (6 * p0)) + 5).toNatClampNeg) ≠ (-1000000)) → ts_E0 d mX12_notes [.ref o] g hi1 hk2 (ts_qv (fun hi10 hk11 => ∀ hi12 : ts_I, hi12 = ts_up hi10 (g.2.2.2 o 13) ((4 + (6 * p0)) + 5).toNatClampNeg (-1000000) → (vp_in ((4 + (6 * (hi1 (g.2.2.2 o 13) ((4 + (6 * p0)) + 5).toNatClampNeg))) + 5) (g.2.2.1 (g.2.2.2 o 13))) ∧ ∀ hi14 : ts_I, hi14 = ts_up hi12 (g.2.2.2 o 13) ((4 + (6 * (hi1 (g.2.2.2 o 13) ((4 + (6 * p0)) + 5).toNatClampNeg))) + 5).toNatClampNeg (-1000000) → Q (hi1 (g.2.2.2 o 13) ((4 + (6 * p0)) + 5).toNatClampNeg) hi14 hk11))) ∧ (¬ ((hi1 (g.2.2.2 o 13) ((4 + (6 * p0)) + 5).toNatClampNeg) ≠ (-1000000)) → Q (-1000002) hi1 hk2)) ∧ (¬ (v3 ≠ 0) → Q (-1000001) hi1 hk2)))) : ts_J0 (d + 1) mX12_part (ts_qi Q) g 0 [(0, .ref o), (1, .int p0)] [] hi hk := by
  refine ts_aload_n 0 (pc' := 1) rfl dX12_part_0 rfl rfl ?_
  refine ts_iload_n 1 (pc' := 2) rfl dX12_part_1 rfl rfl ?_
  obtain ⟨c4, W⟩ := W
  refine ts_callV (M' := mX12_isTurnip) (C := RX12) (pc' := 5) (av := [.int p0]) (b := o) rfl dX12_part_2 rfl gX12_part_X12_isTurnip rfl dvX12_isTurnip rfl (ci := 11) cfX12.1 (by decide) c4 (Nat.le_refl _) (Nat.le_of_ble_eq_true rfl) (Nat.le_of_ble_eq_true rfl) (Nat.le_refl _) (Nat.le_refl _) ts_kv0 W (ts_kki fun v3 hi1 hk2 W => ?_)
  refine ts_if_ne (pc' := 8) (tgt := 11) rfl dX12_part_5 (by decide) (fun q5 => ?_) (fun q5 => ?_)
  · replace W := W.1 q5
    refine ts_aload_n 0 (pc' := 12) rfl dX12_part_11 rfl rfl ?_
    obtain ⟨c6, W⟩ := W
    refine ts_getR (pc' := 15) (ci := 11) 13 cfX12.1 cfX12.2.1 cfX12.2.2 rfl (by decide) hnX12_part_X12 flX12_part_25 rfl dX12_part_12 c4 c6 ?_
    refine ts_iconst (v := 4) (pc' := 16) rfl dX12_part_15 (by decide) ?_
    refine ts_bipush (v := 6) (pc' := 18) rfl dX12_part_16 (by decide) ?_
    refine ts_iload_n 1 (pc' := 19) rfl dX12_part_18 rfl rfl ?_
    refine ts_imul (pc' := 20) rfl dX12_part_19 ?_
    refine ts_iadd (pc' := 21) rfl dX12_part_20 ?_
    refine ts_iconst (v := 5) (pc' := 22) rfl dX12_part_21 (by decide) ?_
    refine ts_iadd (pc' := 23) rfl dX12_part_22 ?_
    obtain ⟨c7, W⟩ := W
    obtain ⟨c8, W⟩ := W
    refine ts_iaload (pc' := 24) rfl dX12_part_23 c7 c8 ?_
    refine ts_istore_n (pc' := 25) (ls' := [(2, .int (hi1 (g.2.2.2 o 13) ((4 + (6 * p0)) + 5).toNatClampNeg)), (0, .ref o), (1, .int p0)]) rfl dX12_part_24 rfl (Nat.le_of_ble_eq_true rfl) rfl ?_
    refine ts_iload_n 0 (pc' := 26) rfl dX12_part_25 rfl rfl ?_
    refine ts_ldc (v := (-1000000)) (pc' := 28) rfl dX12_part_26 (by decide +kernel) ?_
    refine ts_icmp_ne (pc' := 31) (tgt := 34) rfl dX12_part_28 (by decide) (fun q9 => ?_) (fun q9 => ?_)
    · replace W := W.1 q9
      refine ts_aload_n 1 (pc' := 35) rfl dX12_part_34 rfl rfl ?_
      refine ts_callV (M' := mX12_notes) (C := RX12) (pc' := 38) (av := []) (b := o) rfl dX12_part_35 rfl gX12_part_X12_notes rfl dvX12_notes rfl (ci := 11) cfX12.1 (by decide) c4 (Nat.le_refl _) (Nat.le_of_ble_eq_true rfl) (Nat.le_of_ble_eq_true rfl) (Nat.le_refl _) (Nat.le_refl _) ts_kv0 W (ts_kkv fun hi10 hk11 W => ?_)
      refine ts_aload_n 1 (pc' := 39) rfl dX12_part_38 rfl rfl ?_
      refine ts_getR (pc' := 42) (ci := 11) 13 cfX12.1 cfX12.2.1 cfX12.2.2 rfl (by decide) hnX12_part_X12 flX12_part_25 rfl dX12_part_39 c4 c6 ?_
      refine ts_iconst (v := 4) (pc' := 43) rfl dX12_part_42 (by decide) ?_
      refine ts_bipush (v := 6) (pc' := 45) rfl dX12_part_43 (by decide) ?_
      refine ts_iload_n 2 (pc' := 46) rfl dX12_part_45 rfl rfl ?_
      refine ts_imul (pc' := 47) rfl dX12_part_46 ?_
      refine ts_iadd (pc' := 48) rfl dX12_part_47 ?_
      refine ts_iconst (v := 5) (pc' := 49) rfl dX12_part_48 (by decide) ?_
      refine ts_iadd (pc' := 50) rfl dX12_part_49 ?_
      refine ts_ldc (v := (-1000000)) (pc' := 52) rfl dX12_part_50 (by decide +kernel) ?_
      refine ts_iastore (pc' := 53) rfl dX12_part_52 c7 c8 ?_
      obtain ⟨hi12, ehi12⟩ : ∃ z, z = ts_up hi10 (g.2.2.2 o 13) ((4 + (6 * p0)) + 5).toNatClampNeg (-1000000) := ⟨_, rfl⟩
      rw [← ehi12]; replace W := W hi12 ehi12
      refine ts_aload_n 1 (pc' := 54) rfl dX12_part_53 rfl rfl ?_
      refine ts_getR (pc' := 57) (ci := 11) 13 cfX12.1 cfX12.2.1 cfX12.2.2 rfl (by decide) hnX12_part_X12 flX12_part_25 rfl dX12_part_54 c4 c6 ?_
      refine ts_iconst (v := 4) (pc' := 58) rfl dX12_part_57 (by decide) ?_
      refine ts_bipush (v := 6) (pc' := 60) rfl dX12_part_58 (by decide) ?_
      refine ts_iload_n 0 (pc' := 61) rfl dX12_part_60 rfl rfl ?_
      refine ts_imul (pc' := 62) rfl dX12_part_61 ?_
      refine ts_iadd (pc' := 63) rfl dX12_part_62 ?_
      refine ts_iconst (v := 5) (pc' := 64) rfl dX12_part_63 (by decide) ?_
      refine ts_iadd (pc' := 65) rfl dX12_part_64 ?_
      refine ts_ldc (v := (-1000000)) (pc' := 67) rfl dX12_part_65 (by decide +kernel) ?_
      obtain ⟨c13, W⟩ := W
      refine ts_iastore (pc' := 68) rfl dX12_part_67 c7 c13 ?_
      obtain ⟨hi14, ehi14⟩ : ∃ z, z = ts_up hi12 (g.2.2.2 o 13) ((4 + (6 * (hi1 (g.2.2.2 o 13) ((4 + (6 * p0)) + 5).toNatClampNeg))) + 5).toNatClampNeg (-1000000) := ⟨_, rfl⟩
      rw [← ehi14]; replace W := W hi14 ehi14
      refine ts_iload_n 0 (pc' := 69) rfl dX12_part_68 rfl rfl ?_
      exact ts_iret dX12_part_69 rfl (Nat.le_refl _) (Nat.le_refl _) ⟨rfl, _, rfl, W⟩
    · replace W := W.2 q9
      refine ts_ldc (v := (-1000002)) (pc' := 33) rfl dX12_part_31 (by decide +kernel) ?_
      exact ts_iret dX12_part_33 rfl (Nat.le_refl _) (Nat.le_refl _) ⟨rfl, _, rfl, W⟩
  · replace W := W.2 q5
    refine ts_ldc (v := (-1000001)) (pc' := 10) rfl dX12_part_8 (by decide +kernel) ?_
    exact ts_iret dX12_part_10 rfl (Nat.le_refl _) (Nat.le_refl _) ⟨rfl, _, rfl, W⟩
theorem hnX12_swap_X12 : ∀ w ∈ u_ws RX12 TX12 25, w ∈ wsX12_swap := by decide +kernel
theorem flX12_swap_25 : Cond.fieldLink RX12 25 "TurnipSquiresModel" "now" "[I" ∈ wsX12_swap := by decide +kernel
set_option maxHeartbeats 4000000 in
theorem wX12_swap_0 {d : Nat} {g : ts_G} {Q : Int32 → ts_I → ts_K → Prop} {o : Nat} {p0 : Int32} {p1 : Int32} {hi : ts_I} {hk : ts_K} (W : (g.2.1 o = 11) ∧ ts_E0 d mX12_isTurnip [.ref o, .int p0] g hi hk (ts_qi (fun v3 hi1 hk2 => ((v3 = 0) → Q (-1000001) hi1 hk2) ∧ (¬ (v3 = 0) → ts_E0 d mX12_isTurnip [.ref o, .int p1] g hi1 hk2 (ts_qi (fun v8 hi6 hk7 => ((v8 = 0) → Q (-1000001) hi6 hk7) ∧ (¬ (v8 = 0) → ((p0 ≠ p1) → ts_E0 d mX12_notes [.ref o] g hi6 hk7 (ts_qv (fun hi11 hk12 => (g.2.2.2 o 13 ≠ 0) ∧ ts_E0 d mX12_changes [.ref (g.2.2.2 o 13), .int p0, .int p1] g hi11 hk12 (ts_qv (fun hi14 hk15 => (g.2.1 (g.2.2.2 o 13) = 100) ∧ (vp_in ((4 + (6 * p0)) + 3) (g.2.2.1 (g.2.2.2 o 13))) ∧ Q (hi14 (g.2.2.2 o 13) ((4 + (6 * p0)) + 3).toNatClampNeg) hi14 hk15))))) ∧ (¬ (p0 ≠ p1) → Q (-1000001) hi6 hk7)))))))) : ts_J0 (d + 1) mX12_swap (ts_qi Q) g 0 [(0, .ref o), (1, .int p0), (2, .int p1)] [] hi hk := by
  refine ts_aload_n 0 (pc' := 1) rfl dX12_swap_0 rfl rfl ?_
  refine ts_iload_n 1 (pc' := 2) rfl dX12_swap_1 rfl rfl ?_
  obtain ⟨c4, W⟩ := W
  refine ts_callV (M' := mX12_isTurnip) (C := RX12) (pc' := 5) (av := [.int p0]) (b := o) rfl dX12_swap_2 rfl gX12_swap_X12_isTurnip rfl dvX12_isTurnip rfl (ci := 11) cfX12.1 (by decide) c4 (Nat.le_refl _) (Nat.le_of_ble_eq_true rfl) (Nat.le_of_ble_eq_true rfl) (Nat.le_refl _) (Nat.le_refl _) ts_kv0 W (ts_kki fun v3 hi1 hk2 W => ?_)
  refine ts_if_eq (pc' := 8) (tgt := 21) rfl dX12_swap_5 (by decide) (fun q5 => ?_) (fun q5 => ?_)
  · replace W := W.1 q5
    refine ts_ldc (v := (-1000001)) (pc' := 23) rfl dX12_swap_21 (by decide +kernel) ?_
    exact ts_iret dX12_swap_23 rfl (Nat.le_refl _) (Nat.le_refl _) ⟨rfl, _, rfl, W⟩
  · replace W := W.2 q5
    refine ts_aload_n 0 (pc' := 9) rfl dX12_swap_8 rfl rfl ?_
    refine ts_iload_n 2 (pc' := 10) rfl dX12_swap_9 rfl rfl ?_
    refine ts_callV (M' := mX12_isTurnip) (C := RX12) (pc' := 13) (av := [.int p1]) (b := o) rfl dX12_swap_10 rfl gX12_swap_X12_isTurnip rfl dvX12_isTurnip rfl (ci := 11) cfX12.1 (by decide) c4 (Nat.le_refl _) (Nat.le_of_ble_eq_true rfl) (Nat.le_of_ble_eq_true rfl) (Nat.le_refl _) (Nat.le_refl _) ts_kv0 W (ts_kki fun v8 hi6 hk7 W => ?_)
    refine ts_if_eq (pc' := 16) (tgt := 21) rfl dX12_swap_13 (by decide) (fun q9 => ?_) (fun q9 => ?_)
    · replace W := W.1 q9
      refine ts_ldc (v := (-1000001)) (pc' := 23) rfl dX12_swap_21 (by decide +kernel) ?_
      exact ts_iret dX12_swap_23 rfl (Nat.le_refl _) (Nat.le_refl _) ⟨rfl, _, rfl, W⟩
    · replace W := W.2 q9
      refine ts_iload_n 1 (pc' := 17) rfl dX12_swap_16 rfl rfl ?_
      refine ts_iload_n 2 (pc' := 18) rfl dX12_swap_17 rfl rfl ?_
      refine ts_icmp_ne (pc' := 21) (tgt := 24) rfl dX12_swap_18 (by decide) (fun q10 => ?_) (fun q10 => ?_)
      · replace W := W.1 q10
        refine ts_aload_n 0 (pc' := 25) rfl dX12_swap_24 rfl rfl ?_
        refine ts_callV (M' := mX12_notes) (C := RX12) (pc' := 28) (av := []) (b := o) rfl dX12_swap_25 rfl gX12_swap_X12_notes rfl dvX12_notes rfl (ci := 11) cfX12.1 (by decide) c4 (Nat.le_refl _) (Nat.le_of_ble_eq_true rfl) (Nat.le_of_ble_eq_true rfl) (Nat.le_refl _) (Nat.le_refl _) ts_kv0 W (ts_kkv fun hi11 hk12 W => ?_)
        refine ts_aload_n 0 (pc' := 29) rfl dX12_swap_28 rfl rfl ?_
        obtain ⟨c13, W⟩ := W
        refine ts_getR (pc' := 32) (ci := 11) 13 cfX12.1 cfX12.2.1 cfX12.2.2 rfl (by decide) hnX12_swap_X12 flX12_swap_25 rfl dX12_swap_29 c4 c13 ?_
        refine ts_iload_n 1 (pc' := 33) rfl dX12_swap_32 rfl rfl ?_
        refine ts_iload_n 2 (pc' := 34) rfl dX12_swap_33 rfl rfl ?_
        refine ts_callS (M' := mX12_changes) (pc' := 37) (av := [.ref (g.2.2.2 o 13), .int p0, .int p1]) rfl dX12_swap_34 rfl gX12_swap_X12_changes rfl dsX12_changes rfl (Nat.le_refl _) (Nat.le_of_ble_eq_true rfl) (Nat.le_of_ble_eq_true rfl) (Nat.le_refl _) (Nat.le_refl _) ts_kv0 W (ts_kkv fun hi14 hk15 W => ?_)
        refine ts_aload_n 0 (pc' := 38) rfl dX12_swap_37 rfl rfl ?_
        refine ts_getR (pc' := 41) (ci := 11) 13 cfX12.1 cfX12.2.1 cfX12.2.2 rfl (by decide) hnX12_swap_X12 flX12_swap_25 rfl dX12_swap_38 c4 c13 ?_
        refine ts_iconst (v := 4) (pc' := 42) rfl dX12_swap_41 (by decide) ?_
        refine ts_bipush (v := 6) (pc' := 44) rfl dX12_swap_42 (by decide) ?_
        refine ts_iload_n 1 (pc' := 45) rfl dX12_swap_44 rfl rfl ?_
        refine ts_imul (pc' := 46) rfl dX12_swap_45 ?_
        refine ts_iadd (pc' := 47) rfl dX12_swap_46 ?_
        refine ts_iconst (v := 3) (pc' := 48) rfl dX12_swap_47 (by decide) ?_
        refine ts_iadd (pc' := 49) rfl dX12_swap_48 ?_
        obtain ⟨c16, W⟩ := W
        obtain ⟨c17, W⟩ := W
        refine ts_iaload (pc' := 50) rfl dX12_swap_49 c16 c17 ?_
        exact ts_iret dX12_swap_50 rfl (Nat.le_refl _) (Nat.le_refl _) ⟨rfl, _, rfl, W⟩
      · replace W := W.2 q10
        refine ts_ldc (v := (-1000001)) (pc' := 23) rfl dX12_swap_21 (by decide +kernel) ?_
        exact ts_iret dX12_swap_23 rfl (Nat.le_refl _) (Nat.le_refl _) ⟨rfl, _, rfl, W⟩
theorem hnX12_lean_X12 : ∀ w ∈ u_ws RX12 TX12 25, w ∈ wsX12_lean := by decide +kernel
theorem flX12_lean_25 : Cond.fieldLink RX12 25 "TurnipSquiresModel" "now" "[I" ∈ wsX12_lean := by decide +kernel
set_option maxHeartbeats 4000000 in
theorem wX12_lean_0 {d : Nat} {g : ts_G} {Q : Int32 → ts_I → ts_K → Prop} {o : Nat} {p0 : Int32} {hi : ts_I} {hk : ts_K} (W : (g.2.1 o = 11) ∧ ts_E0 d mX12_isTurnip [.ref o, .int p0] g hi hk (ts_qi (fun v3 hi1 hk2 => ((v3 ≠ 0) → ts_E0 d mX12_notes [.ref o] g hi1 hk2 (ts_qv (fun hi6 hk7 => (g.2.2.2 o 13 ≠ 0) ∧ (g.2.1 (g.2.2.2 o 13) = 100) ∧ (vp_in ((4 + (6 * p0)) + 4) (g.2.2.1 (g.2.2.2 o 13))) ∧ ∀ hi11 : ts_I, hi11 = ts_up hi6 (g.2.2.2 o 13) ((4 + (6 * p0)) + 4).toNatClampNeg (1 - (hi6 (g.2.2.2 o 13) ((4 + (6 * p0)) + 4).toNatClampNeg)) → Q (hi11 (g.2.2.2 o 13) ((4 + (6 * p0)) + 4).toNatClampNeg) hi11 hk7))) ∧ (¬ (v3 ≠ 0) → Q (-1000001) hi1 hk2)))) : ts_J0 (d + 1) mX12_lean (ts_qi Q) g 0 [(0, .ref o), (1, .int p0)] [] hi hk := by
  refine ts_aload_n 0 (pc' := 1) rfl dX12_lean_0 rfl rfl ?_
  refine ts_iload_n 1 (pc' := 2) rfl dX12_lean_1 rfl rfl ?_
  obtain ⟨c4, W⟩ := W
  refine ts_callV (M' := mX12_isTurnip) (C := RX12) (pc' := 5) (av := [.int p0]) (b := o) rfl dX12_lean_2 rfl gX12_lean_X12_isTurnip rfl dvX12_isTurnip rfl (ci := 11) cfX12.1 (by decide) c4 (Nat.le_refl _) (Nat.le_of_ble_eq_true rfl) (Nat.le_of_ble_eq_true rfl) (Nat.le_refl _) (Nat.le_refl _) ts_kv0 W (ts_kki fun v3 hi1 hk2 W => ?_)
  refine ts_if_ne (pc' := 8) (tgt := 11) rfl dX12_lean_5 (by decide) (fun q5 => ?_) (fun q5 => ?_)
  · replace W := W.1 q5
    refine ts_aload_n 0 (pc' := 12) rfl dX12_lean_11 rfl rfl ?_
    refine ts_callV (M' := mX12_notes) (C := RX12) (pc' := 15) (av := []) (b := o) rfl dX12_lean_12 rfl gX12_lean_X12_notes rfl dvX12_notes rfl (ci := 11) cfX12.1 (by decide) c4 (Nat.le_refl _) (Nat.le_of_ble_eq_true rfl) (Nat.le_of_ble_eq_true rfl) (Nat.le_refl _) (Nat.le_refl _) ts_kv0 W (ts_kkv fun hi6 hk7 W => ?_)
    refine ts_aload_n 0 (pc' := 16) rfl dX12_lean_15 rfl rfl ?_
    obtain ⟨c8, W⟩ := W
    refine ts_getR (pc' := 19) (ci := 11) 13 cfX12.1 cfX12.2.1 cfX12.2.2 rfl (by decide) hnX12_lean_X12 flX12_lean_25 rfl dX12_lean_16 c4 c8 ?_
    refine ts_iconst (v := 4) (pc' := 20) rfl dX12_lean_19 (by decide) ?_
    refine ts_bipush (v := 6) (pc' := 22) rfl dX12_lean_20 (by decide) ?_
    refine ts_iload_n 1 (pc' := 23) rfl dX12_lean_22 rfl rfl ?_
    refine ts_imul (pc' := 24) rfl dX12_lean_23 ?_
    refine ts_iadd (pc' := 25) rfl dX12_lean_24 ?_
    refine ts_iconst (v := 4) (pc' := 26) rfl dX12_lean_25 (by decide) ?_
    refine ts_iadd (pc' := 27) rfl dX12_lean_26 ?_
    refine ts_iconst (v := 1) (pc' := 28) rfl dX12_lean_27 (by decide) ?_
    refine ts_aload_n 0 (pc' := 29) rfl dX12_lean_28 rfl rfl ?_
    refine ts_getR (pc' := 32) (ci := 11) 13 cfX12.1 cfX12.2.1 cfX12.2.2 rfl (by decide) hnX12_lean_X12 flX12_lean_25 rfl dX12_lean_29 c4 c8 ?_
    refine ts_iconst (v := 4) (pc' := 33) rfl dX12_lean_32 (by decide) ?_
    refine ts_bipush (v := 6) (pc' := 35) rfl dX12_lean_33 (by decide) ?_
    refine ts_iload_n 1 (pc' := 36) rfl dX12_lean_35 rfl rfl ?_
    refine ts_imul (pc' := 37) rfl dX12_lean_36 ?_
    refine ts_iadd (pc' := 38) rfl dX12_lean_37 ?_
    refine ts_iconst (v := 4) (pc' := 39) rfl dX12_lean_38 (by decide) ?_
    refine ts_iadd (pc' := 40) rfl dX12_lean_39 ?_
    obtain ⟨c9, W⟩ := W
    obtain ⟨c10, W⟩ := W
    refine ts_iaload (pc' := 41) rfl dX12_lean_40 c9 c10 ?_
    refine ts_isub (pc' := 42) rfl dX12_lean_41 ?_
    refine ts_iastore (pc' := 43) rfl dX12_lean_42 c9 c10 ?_
    obtain ⟨hi11, ehi11⟩ : ∃ z, z = ts_up hi6 (g.2.2.2 o 13) ((4 + (6 * p0)) + 4).toNatClampNeg (1 - (hi6 (g.2.2.2 o 13) ((4 + (6 * p0)) + 4).toNatClampNeg)) := ⟨_, rfl⟩
    rw [← ehi11]; replace W := W hi11 ehi11
    refine ts_aload_n 0 (pc' := 44) rfl dX12_lean_43 rfl rfl ?_
    refine ts_getR (pc' := 47) (ci := 11) 13 cfX12.1 cfX12.2.1 cfX12.2.2 rfl (by decide) hnX12_lean_X12 flX12_lean_25 rfl dX12_lean_44 c4 c8 ?_
    refine ts_iconst (v := 4) (pc' := 48) rfl dX12_lean_47 (by decide) ?_
    refine ts_bipush (v := 6) (pc' := 50) rfl dX12_lean_48 (by decide) ?_
    refine ts_iload_n 1 (pc' := 51) rfl dX12_lean_50 rfl rfl ?_
    refine ts_imul (pc' := 52) rfl dX12_lean_51 ?_
    refine ts_iadd (pc' := 53) rfl dX12_lean_52 ?_
    refine ts_iconst (v := 4) (pc' := 54) rfl dX12_lean_53 (by decide) ?_
    refine ts_iadd (pc' := 55) rfl dX12_lean_54 ?_
    refine ts_iaload (pc' := 56) rfl dX12_lean_55 c9 c10 ?_
    exact ts_iret dX12_lean_56 rfl (Nat.le_refl _) (Nat.le_refl _) ⟨rfl, _, rfl, W⟩
  · replace W := W.2 q5
    refine ts_ldc (v := (-1000001)) (pc' := 10) rfl dX12_lean_8 (by decide +kernel) ?_
    exact ts_iret dX12_lean_10 rfl (Nat.le_refl _) (Nat.le_refl _) ⟨rfl, _, rfl, W⟩
theorem hnX12_ground_X12 : ∀ w ∈ u_ws RX12 TX12 25, w ∈ wsX12_ground := by decide +kernel
theorem flX12_ground_25 : Cond.fieldLink RX12 25 "TurnipSquiresModel" "now" "[I" ∈ wsX12_ground := by decide +kernel
set_option maxHeartbeats 4000000 in
theorem wX12_ground_0 {d : Nat} {g : ts_G} {Q : Int32 → ts_I → ts_K → Prop} {o : Nat} {p0 : Int32} {hi : ts_I} {hk : ts_K} (W : (g.2.1 o = 11) ∧ ts_E0 d mX12_isField [.ref o] g hi hk (ts_qi (fun v3 hi1 hk2 => ((v3 ≠ 0) → ts_E0 d mX12_in [.int p0, .int 1, .int 9] g hi1 hk2 (ts_qi (fun v8 hi6 hk7 => ((v8 ≠ 0) → ts_E0 d mX12_notes [.ref o] g hi6 hk7 (ts_qv (fun hi10 hk11 => (g.2.2.2 o 13 ≠ 0) ∧ (g.2.1 (g.2.2.2 o 13) = 100) ∧ (vp_in 0 (g.2.2.1 (g.2.2.2 o 13))) ∧ ∀ hi15 : ts_I, hi15 = ts_up hi10 (g.2.2.2 o 13) (0 : Int32).toNatClampNeg p0 → Q (hi10 (g.2.2.2 o 13) (0 : Int32).toNatClampNeg) hi15 hk11))) ∧ (¬ (v8 ≠ 0) → Q (-1000001) hi6 hk7)))) ∧ (¬ (v3 ≠ 0) → Q (-1000002) hi1 hk2)))) : ts_J0 (d + 1) mX12_ground (ts_qi Q) g 0 [(0, .ref o), (1, .int p0)] [] hi hk := by
  refine ts_aload_n 0 (pc' := 1) rfl dX12_ground_0 rfl rfl ?_
  obtain ⟨c4, W⟩ := W
  refine ts_callV (M' := mX12_isField) (C := RX12) (pc' := 4) (av := []) (b := o) rfl dX12_ground_1 rfl gX12_ground_X12_isField rfl dvX12_isField rfl (ci := 11) cfX12.1 (by decide) c4 (Nat.le_refl _) (Nat.le_of_ble_eq_true rfl) (Nat.le_of_ble_eq_true rfl) (Nat.le_refl _) (Nat.le_refl _) ts_kv0 W (ts_kki fun v3 hi1 hk2 W => ?_)
  refine ts_if_ne (pc' := 7) (tgt := 10) rfl dX12_ground_4 (by decide) (fun q5 => ?_) (fun q5 => ?_)
  · replace W := W.1 q5
    refine ts_iload_n 1 (pc' := 11) rfl dX12_ground_10 rfl rfl ?_
    refine ts_iconst (v := 1) (pc' := 12) rfl dX12_ground_11 (by decide) ?_
    refine ts_bipush (v := 9) (pc' := 14) rfl dX12_ground_12 (by decide) ?_
    refine ts_callS (M' := mX12_in) (pc' := 17) (av := [.int p0, .int 1, .int 9]) rfl dX12_ground_14 rfl gX12_ground_X12_in rfl dsX12_in rfl (Nat.le_refl _) (Nat.le_of_ble_eq_true rfl) (Nat.le_of_ble_eq_true rfl) (Nat.le_refl _) (Nat.le_refl _) ts_kv0 W (ts_kki fun v8 hi6 hk7 W => ?_)
    refine ts_if_ne (pc' := 20) (tgt := 23) rfl dX12_ground_17 (by decide) (fun q9 => ?_) (fun q9 => ?_)
    · replace W := W.1 q9
      refine ts_aload_n 0 (pc' := 24) rfl dX12_ground_23 rfl rfl ?_
      refine ts_callV (M' := mX12_notes) (C := RX12) (pc' := 27) (av := []) (b := o) rfl dX12_ground_24 rfl gX12_ground_X12_notes rfl dvX12_notes rfl (ci := 11) cfX12.1 (by decide) c4 (Nat.le_refl _) (Nat.le_of_ble_eq_true rfl) (Nat.le_of_ble_eq_true rfl) (Nat.le_refl _) (Nat.le_refl _) ts_kv0 W (ts_kkv fun hi10 hk11 W => ?_)
      refine ts_aload_n 0 (pc' := 28) rfl dX12_ground_27 rfl rfl ?_
      obtain ⟨c12, W⟩ := W
      refine ts_getR (pc' := 31) (ci := 11) 13 cfX12.1 cfX12.2.1 cfX12.2.2 rfl (by decide) hnX12_ground_X12 flX12_ground_25 rfl dX12_ground_28 c4 c12 ?_
      refine ts_iconst (v := 0) (pc' := 32) rfl dX12_ground_31 (by decide) ?_
      obtain ⟨c13, W⟩ := W
      obtain ⟨c14, W⟩ := W
      refine ts_iaload (pc' := 33) rfl dX12_ground_32 c13 c14 ?_
      refine ts_istore_n (pc' := 34) (ls' := [(2, .int (hi10 (g.2.2.2 o 13) (0 : Int32).toNatClampNeg)), (0, .ref o), (1, .int p0)]) rfl dX12_ground_33 rfl (Nat.le_of_ble_eq_true rfl) rfl ?_
      refine ts_aload_n 1 (pc' := 35) rfl dX12_ground_34 rfl rfl ?_
      refine ts_getR (pc' := 38) (ci := 11) 13 cfX12.1 cfX12.2.1 cfX12.2.2 rfl (by decide) hnX12_ground_X12 flX12_ground_25 rfl dX12_ground_35 c4 c12 ?_
      refine ts_iconst (v := 0) (pc' := 39) rfl dX12_ground_38 (by decide) ?_
      refine ts_iload_n 2 (pc' := 40) rfl dX12_ground_39 rfl rfl ?_
      refine ts_iastore (pc' := 41) rfl dX12_ground_40 c13 c14 ?_
      obtain ⟨hi15, ehi15⟩ : ∃ z, z = ts_up hi10 (g.2.2.2 o 13) (0 : Int32).toNatClampNeg p0 := ⟨_, rfl⟩
      rw [← ehi15]; replace W := W hi15 ehi15
      refine ts_iload_n 0 (pc' := 42) rfl dX12_ground_41 rfl rfl ?_
      exact ts_iret dX12_ground_42 rfl (Nat.le_refl _) (Nat.le_refl _) ⟨rfl, _, rfl, W⟩
    · replace W := W.2 q9
      refine ts_ldc (v := (-1000001)) (pc' := 22) rfl dX12_ground_20 (by decide +kernel) ?_
      exact ts_iret dX12_ground_22 rfl (Nat.le_refl _) (Nat.le_refl _) ⟨rfl, _, rfl, W⟩
  · replace W := W.2 q5
    refine ts_ldc (v := (-1000002)) (pc' := 9) rfl dX12_ground_7 (by decide +kernel) ?_
    exact ts_iret dX12_ground_9 rfl (Nat.le_refl _) (Nat.le_refl _) ⟨rfl, _, rfl, W⟩
theorem hnX12_undo_X12 : ∀ w ∈ u_ws RX12 TX12 25, w ∈ wsX12_undo := by decide +kernel
theorem flX12_undo_25 : Cond.fieldLink RX12 25 "TurnipSquiresModel" "now" "[I" ∈ wsX12_undo := by decide +kernel
theorem flX12_undo_34 : Cond.fieldLink RX12 34 "TurnipSquiresModel" "past" "[I" ∈ wsX12_undo := by decide +kernel
theorem flX12_undo_145 : Cond.fieldLink RX12 145 "TurnipSquiresModel" "acts" "I" ∈ wsX12_undo := by decide +kernel
set_option maxHeartbeats 4000000 in
theorem wX12_undo_0 {d : Nat} {g : ts_G} {Q : Int32 → ts_I → ts_K → Prop} {o : Nat} {hi : ts_I} {hk : ts_K} (W : (g.2.1 o = 11) ∧ (((hi o 17) ≠ 0) → ∀ hi3 : ts_I, hi3 = ts_up hi o 17 ((hi o 17) - 1) → (g.2.2.2 o 16 ≠ 0) ∧ (g.2.2.2 o 13 ≠ 0) ∧ ts_E0 d mX12_copies [.ref (g.2.2.2 o 16), .int (46 * (hi3 o 17)), .ref (g.2.2.2 o 13), .int 0] g hi3 hk (ts_qv (fun hi6 hk7 => Q (hi6 o 17) hi6 hk7))) ∧ (¬ ((hi o 17) ≠ 0) → Q (-1000002) hi hk)) : ts_J0 (d + 1) mX12_undo (ts_qi Q) g 0 [(0, .ref o)] [] hi hk := by
  refine ts_aload_n 0 (pc' := 1) rfl dX12_undo_0 rfl rfl ?_
  obtain ⟨c1, W⟩ := W
  refine ts_getI (pc' := 4) (ci := 11) 17 cfX12.1 cfX12.2.1 cfX12.2.2 rfl (by decide) hnX12_undo_X12 flX12_undo_145 rfl dX12_undo_1 c1 ?_
  refine ts_if_ne (pc' := 7) (tgt := 10) rfl dX12_undo_4 (by decide) (fun q2 => ?_) (fun q2 => ?_)
  · replace W := W.1 q2
    refine ts_aload_n 0 (pc' := 11) rfl dX12_undo_10 rfl rfl ?_
    refine ts_dup (pc' := 12) rfl dX12_undo_11 rfl ?_
    refine ts_getI (pc' := 15) (ci := 11) 17 cfX12.1 cfX12.2.1 cfX12.2.2 rfl (by decide) hnX12_undo_X12 flX12_undo_145 rfl dX12_undo_12 c1 ?_
    refine ts_iconst (v := 1) (pc' := 16) rfl dX12_undo_15 (by decide) ?_
    refine ts_isub (pc' := 17) rfl dX12_undo_16 ?_
    refine ts_putI (pc' := 20) (ci := 11) 17 cfX12.1 cfX12.2.1 cfX12.2.2 rfl (by decide) hnX12_undo_X12 flX12_undo_145 tyX12_ok nmX12 rfl rfl rfl dX12_undo_17 c1 ?_
    obtain ⟨hi3, ehi3⟩ : ∃ z, z = ts_up hi o 17 ((hi o 17) - 1) := ⟨_, rfl⟩
    rw [← ehi3]; replace W := W hi3 ehi3
    refine ts_aload_n 0 (pc' := 21) rfl dX12_undo_20 rfl rfl ?_
    obtain ⟨c4, W⟩ := W
    refine ts_getR (pc' := 24) (ci := 11) 16 cfX12.1 cfX12.2.1 cfX12.2.2 rfl (by decide) hnX12_undo_X12 flX12_undo_34 rfl dX12_undo_21 c1 c4 ?_
    refine ts_bipush (v := 46) (pc' := 26) rfl dX12_undo_24 (by decide) ?_
    refine ts_aload_n 0 (pc' := 27) rfl dX12_undo_26 rfl rfl ?_
    refine ts_getI (pc' := 30) (ci := 11) 17 cfX12.1 cfX12.2.1 cfX12.2.2 rfl (by decide) hnX12_undo_X12 flX12_undo_145 rfl dX12_undo_27 c1 ?_
    refine ts_imul (pc' := 31) rfl dX12_undo_30 ?_
    refine ts_aload_n 0 (pc' := 32) rfl dX12_undo_31 rfl rfl ?_
    obtain ⟨c5, W⟩ := W
    refine ts_getR (pc' := 35) (ci := 11) 13 cfX12.1 cfX12.2.1 cfX12.2.2 rfl (by decide) hnX12_undo_X12 flX12_undo_25 rfl dX12_undo_32 c1 c5 ?_
    refine ts_iconst (v := 0) (pc' := 36) rfl dX12_undo_35 (by decide) ?_
    refine ts_callS (M' := mX12_copies) (pc' := 39) (av := [.ref (g.2.2.2 o 16), .int (46 * (hi3 o 17)), .ref (g.2.2.2 o 13), .int 0]) rfl dX12_undo_36 rfl gX12_undo_X12_copies rfl dsX12_copies rfl (Nat.le_refl _) (Nat.le_of_ble_eq_true rfl) (Nat.le_of_ble_eq_true rfl) (Nat.le_refl _) (Nat.le_refl _) ts_kv0 W (ts_kkv fun hi6 hk7 W => ?_)
    refine ts_aload_n 0 (pc' := 40) rfl dX12_undo_39 rfl rfl ?_
    refine ts_getI (pc' := 43) (ci := 11) 17 cfX12.1 cfX12.2.1 cfX12.2.2 rfl (by decide) hnX12_undo_X12 flX12_undo_145 rfl dX12_undo_40 c1 ?_
    exact ts_iret dX12_undo_43 rfl (Nat.le_refl _) (Nat.le_refl _) ⟨rfl, _, rfl, W⟩
  · replace W := W.2 q2
    refine ts_ldc (v := (-1000002)) (pc' := 9) rfl dX12_undo_7 (by decide +kernel) ?_
    exact ts_iret dX12_undo_9 rfl (Nat.le_refl _) (Nat.le_refl _) ⟨rfl, _, rfl, W⟩
theorem hnX12_turnip_X12 : ∀ w ∈ u_ws RX12 TX12 25, w ∈ wsX12_turnip := by decide +kernel
theorem flX12_turnip_25 : Cond.fieldLink RX12 25 "TurnipSquiresModel" "now" "[I" ∈ wsX12_turnip := by decide +kernel
set_option maxHeartbeats 4000000 in
theorem wX12_turnip_0 {d : Nat} {g : ts_G} {Q : Int32 → ts_I → ts_K → Prop} {o : Nat} {p0 : Int32} {p1 : Int32} {hi : ts_I} {hk : ts_K} (W : (g.2.1 o = 11) ∧ ts_E0 d mX12_isTurnip [.ref o, .int p0] g hi hk (ts_qi (fun v3 hi1 hk2 => ((v3 = 0) → Q (-1000001) hi1 hk2) ∧ (¬ (v3 = 0) → ts_E0 d mX12_in [.int p1, .int 0, .int 5] g hi1 hk2 (ts_qi (fun v8 hi6 hk7 => ((v8 ≠ 0) → ((p1 ≠ 5) → (g.2.2.2 o 13 ≠ 0) ∧ (g.2.1 (g.2.2.2 o 13) = 100) ∧ (vp_in (((4 + (6 * p0)) + 1) + p1) (g.2.2.1 (g.2.2.2 o 13))) ∧ Q (hi6 (g.2.2.2 o 13) (((4 + (6 * p0)) + 1) + p1).toNatClampNeg) hi6 hk7) ∧ (¬ (p1 ≠ 5) → (g.2.2.2 o 13 ≠ 0) ∧ ts_E0 d mX12_gain [.ref (g.2.2.2 o 13), .int p0] g hi6 hk7 (ts_qi (fun v17 hi15 hk16 => Q v17 hi15 hk16)))) ∧ (¬ (v8 ≠ 0) → Q (-1000001) hi6 hk7))))))) : ts_J0 (d + 1) mX12_turnip (ts_qi Q) g 0 [(0, .ref o), (1, .int p0), (2, .int p1)] [] hi hk := by
  refine ts_aload_n 0 (pc' := 1) rfl dX12_turnip_0 rfl rfl ?_
  refine ts_iload_n 1 (pc' := 2) rfl dX12_turnip_1 rfl rfl ?_
  obtain ⟨c4, W⟩ := W
  refine ts_callV (M' := mX12_isTurnip) (C := RX12) (pc' := 5) (av := [.int p0]) (b := o) rfl dX12_turnip_2 rfl gX12_turnip_X12_isTurnip rfl dvX12_isTurnip rfl (ci := 11) cfX12.1 (by decide) c4 (Nat.le_refl _) (Nat.le_of_ble_eq_true rfl) (Nat.le_of_ble_eq_true rfl) (Nat.le_refl _) (Nat.le_refl _) ts_kv0 W (ts_kki fun v3 hi1 hk2 W => ?_)
  refine ts_if_eq (pc' := 8) (tgt := 17) rfl dX12_turnip_5 (by decide) (fun q5 => ?_) (fun q5 => ?_)
  · replace W := W.1 q5
    refine ts_ldc (v := (-1000001)) (pc' := 19) rfl dX12_turnip_17 (by decide +kernel) ?_
    exact ts_iret dX12_turnip_19 rfl (Nat.le_refl _) (Nat.le_refl _) ⟨rfl, _, rfl, W⟩
  · replace W := W.2 q5
    refine ts_iload_n 2 (pc' := 9) rfl dX12_turnip_8 rfl rfl ?_
    refine ts_iconst (v := 0) (pc' := 10) rfl dX12_turnip_9 (by decide) ?_
    refine ts_iconst (v := 5) (pc' := 11) rfl dX12_turnip_10 (by decide) ?_
    refine ts_callS (M' := mX12_in) (pc' := 14) (av := [.int p1, .int 0, .int 5]) rfl dX12_turnip_11 rfl gX12_turnip_X12_in rfl dsX12_in rfl (Nat.le_refl _) (Nat.le_of_ble_eq_true rfl) (Nat.le_of_ble_eq_true rfl) (Nat.le_refl _) (Nat.le_refl _) ts_kv0 W (ts_kki fun v8 hi6 hk7 W => ?_)
    refine ts_if_ne (pc' := 17) (tgt := 20) rfl dX12_turnip_14 (by decide) (fun q9 => ?_) (fun q9 => ?_)
    · replace W := W.1 q9
      refine ts_iload_n 2 (pc' := 21) rfl dX12_turnip_20 rfl rfl ?_
      refine ts_iconst (v := 5) (pc' := 22) rfl dX12_turnip_21 (by decide) ?_
      refine ts_icmp_ne (pc' := 25) (tgt := 36) rfl dX12_turnip_22 (by decide) (fun q10 => ?_) (fun q10 => ?_)
      · replace W := W.1 q10
        refine ts_aload_n 0 (pc' := 37) rfl dX12_turnip_36 rfl rfl ?_
        obtain ⟨c11, W⟩ := W
        refine ts_getR (pc' := 40) (ci := 11) 13 cfX12.1 cfX12.2.1 cfX12.2.2 rfl (by decide) hnX12_turnip_X12 flX12_turnip_25 rfl dX12_turnip_37 c4 c11 ?_
        refine ts_iconst (v := 4) (pc' := 41) rfl dX12_turnip_40 (by decide) ?_
        refine ts_bipush (v := 6) (pc' := 43) rfl dX12_turnip_41 (by decide) ?_
        refine ts_iload_n 1 (pc' := 44) rfl dX12_turnip_43 rfl rfl ?_
        refine ts_imul (pc' := 45) rfl dX12_turnip_44 ?_
        refine ts_iadd (pc' := 46) rfl dX12_turnip_45 ?_
        refine ts_iconst (v := 1) (pc' := 47) rfl dX12_turnip_46 (by decide) ?_
        refine ts_iadd (pc' := 48) rfl dX12_turnip_47 ?_
        refine ts_iload_n 2 (pc' := 49) rfl dX12_turnip_48 rfl rfl ?_
        refine ts_iadd (pc' := 50) rfl dX12_turnip_49 ?_
        obtain ⟨c12, W⟩ := W
        obtain ⟨c13, W⟩ := W
        refine ts_iaload (pc' := 51) rfl dX12_turnip_50 c12 c13 ?_
        exact ts_iret dX12_turnip_51 rfl (Nat.le_refl _) (Nat.le_refl _) ⟨rfl, _, rfl, W⟩
      · replace W := W.2 q10
        refine ts_aload_n 0 (pc' := 26) rfl dX12_turnip_25 rfl rfl ?_
        obtain ⟨c14, W⟩ := W
        refine ts_getR (pc' := 29) (ci := 11) 13 cfX12.1 cfX12.2.1 cfX12.2.2 rfl (by decide) hnX12_turnip_X12 flX12_turnip_25 rfl dX12_turnip_26 c4 c14 ?_
        refine ts_iload_n 1 (pc' := 30) rfl dX12_turnip_29 rfl rfl ?_
        refine ts_callS (M' := mX12_gain) (pc' := 33) (av := [.ref (g.2.2.2 o 13), .int p0]) rfl dX12_turnip_30 rfl gX12_turnip_X12_gain rfl dsX12_gain rfl (Nat.le_refl _) (Nat.le_of_ble_eq_true rfl) (Nat.le_of_ble_eq_true rfl) (Nat.le_refl _) (Nat.le_refl _) ts_kv0 W (ts_kki fun v17 hi15 hk16 W => ?_)
        refine ts_goto (tgt := 51) dX12_turnip_33 (by decide) ?_
        exact ts_iret dX12_turnip_51 rfl (Nat.le_refl _) (Nat.le_refl _) ⟨rfl, _, rfl, W⟩
    · replace W := W.2 q9
      refine ts_ldc (v := (-1000001)) (pc' := 19) rfl dX12_turnip_17 (by decide +kernel) ?_
      exact ts_iret dX12_turnip_19 rfl (Nat.le_refl _) (Nat.le_refl _) ⟨rfl, _, rfl, W⟩
theorem hnX12_place_X12 : ∀ w ∈ u_ws RX12 TX12 25, w ∈ wsX12_place := by decide +kernel
theorem flX12_place_25 : Cond.fieldLink RX12 25 "TurnipSquiresModel" "now" "[I" ∈ wsX12_place := by decide +kernel
set_option maxHeartbeats 4000000 in
theorem wX12_place_0 {d : Nat} {g : ts_G} {Q : Int32 → ts_I → ts_K → Prop} {o : Nat} {p0 : Int32} {hi : ts_I} {hk : ts_K} (W : (g.2.1 o = 11) ∧ ts_E0 d mX12_isTurnip [.ref o, .int p0] g hi hk (ts_qi (fun v3 hi1 hk2 => ((v3 = 0) → Q (-1000001) hi1 hk2) ∧ (¬ (v3 = 0) → (g.2.2.2 o 13 ≠ 0) ∧ ts_E0 d mX12_inPlace [.ref (g.2.2.2 o 13), .int p0] g hi1 hk2 (ts_qi (fun v9 hi7 hk8 => Q v9 hi7 hk8)))))) : ts_J0 (d + 1) mX12_place (ts_qi Q) g 0 [(0, .ref o), (1, .int p0)] [] hi hk := by
  refine ts_aload_n 0 (pc' := 1) rfl dX12_place_0 rfl rfl ?_
  refine ts_iload_n 1 (pc' := 2) rfl dX12_place_1 rfl rfl ?_
  obtain ⟨c4, W⟩ := W
  refine ts_callV (M' := mX12_isTurnip) (C := RX12) (pc' := 5) (av := [.int p0]) (b := o) rfl dX12_place_2 rfl gX12_place_X12_isTurnip rfl dvX12_isTurnip rfl (ci := 11) cfX12.1 (by decide) c4 (Nat.le_refl _) (Nat.le_of_ble_eq_true rfl) (Nat.le_of_ble_eq_true rfl) (Nat.le_refl _) (Nat.le_refl _) ts_kv0 W (ts_kki fun v3 hi1 hk2 W => ?_)
  refine ts_if_eq (pc' := 8) (tgt := 19) rfl dX12_place_5 (by decide) (fun q5 => ?_) (fun q5 => ?_)
  · replace W := W.1 q5
    refine ts_ldc (v := (-1000001)) (pc' := 21) rfl dX12_place_19 (by decide +kernel) ?_
    exact ts_iret dX12_place_21 rfl (Nat.le_refl _) (Nat.le_refl _) ⟨rfl, _, rfl, W⟩
  · replace W := W.2 q5
    refine ts_aload_n 0 (pc' := 9) rfl dX12_place_8 rfl rfl ?_
    obtain ⟨c6, W⟩ := W
    refine ts_getR (pc' := 12) (ci := 11) 13 cfX12.1 cfX12.2.1 cfX12.2.2 rfl (by decide) hnX12_place_X12 flX12_place_25 rfl dX12_place_9 c4 c6 ?_
    refine ts_iload_n 1 (pc' := 13) rfl dX12_place_12 rfl rfl ?_
    refine ts_callS (M' := mX12_inPlace) (pc' := 16) (av := [.ref (g.2.2.2 o 13), .int p0]) rfl dX12_place_13 rfl gX12_place_X12_inPlace rfl dsX12_inPlace rfl (Nat.le_refl _) (Nat.le_of_ble_eq_true rfl) (Nat.le_of_ble_eq_true rfl) (Nat.le_refl _) (Nat.le_refl _) ts_kv0 W (ts_kki fun v9 hi7 hk8 W => ?_)
    refine ts_goto (tgt := 21) dX12_place_16 (by decide) ?_
    exact ts_iret dX12_place_21 rfl (Nat.le_refl _) (Nat.le_refl _) ⟨rfl, _, rfl, W⟩
theorem hnX12_goesOn_X12 : ∀ w ∈ u_ws RX12 TX12 25, w ∈ wsX12_goesOn := by decide +kernel
theorem flX12_goesOn_31 : Cond.fieldLink RX12 31 "TurnipSquiresModel" "tried" "[I" ∈ wsX12_goesOn := by decide +kernel
set_option maxHeartbeats 4000000 in
theorem wX12_goesOn_0 {d : Nat} {g : ts_G} {Q : ts_I → ts_K → Prop} {o : Nat} {p0 : Int32} {hi : ts_I} {hk : ts_K} (W : ts_J0 (d + 1) mX12_goesOn (ts_qv Q) g 2 [(0, .ref o), (1, .int p0), (2, .int 0)] [] hi hk) : ts_J0 (d + 1) mX12_goesOn (ts_qv Q) g 0 [(0, .ref o), (1, .int p0)] [] hi hk := by
  refine ts_iconst (v := 0) (pc' := 1) rfl dX12_goesOn_0 (by decide) ?_
  refine ts_istore_n (pc' := 2) (ls' := [(2, .int 0), (0, .ref o), (1, .int p0)]) rfl dX12_goesOn_1 rfl (Nat.le_of_ble_eq_true rfl) rfl ?_
  exact ts_sub [1, 2, 0] rfl W
set_option maxHeartbeats 4000000 in
theorem wX12_goesOn_2 {d : Nat} {g : ts_G} {Q : ts_I → ts_K → Prop} {l0 : Nat} {l1 : Int32} {l2 : Int32} {hi : ts_I} {hk : ts_K} (W : ((l1 ≤ l2) → Q hi hk) ∧ (¬ (l1 ≤ l2) → (g.2.1 l0 = 11) ∧ (g.2.2.2 l0 15 ≠ 0) ∧ ts_E0 d mX12_passes [.ref l0, .ref (g.2.2.2 l0 15)] g hi hk (ts_qv (fun hi4 hk5 => ts_J0 (d + 1) mX12_goesOn (ts_qv Q) g 2 [(0, .ref l0), (1, .int l1), (2, .int (l2 + 1))] [] hi4 hk5)))) : ts_J0 (d + 1) mX12_goesOn (ts_qv Q) g 2 [(0, .ref l0), (1, .int l1), (2, .int l2)] [] hi hk := by
  refine ts_iload_n 2 (pc' := 3) rfl dX12_goesOn_2 rfl rfl ?_
  refine ts_iload_n 1 (pc' := 4) rfl dX12_goesOn_3 rfl rfl ?_
  refine ts_icmp_ge (pc' := 7) (tgt := 21) rfl dX12_goesOn_4 (by decide) (fun q1 => ?_) (fun q1 => ?_)
  · replace W := W.1 q1
    exact ts_vret dX12_goesOn_21 rfl (Nat.le_refl _) (Nat.le_refl _) ⟨rfl, rfl, W⟩
  · replace W := W.2 q1
    refine ts_aload_n 0 (pc' := 8) rfl dX12_goesOn_7 rfl rfl ?_
    refine ts_aload_n 0 (pc' := 9) rfl dX12_goesOn_8 rfl rfl ?_
    obtain ⟨c2, W⟩ := W
    obtain ⟨c3, W⟩ := W
    refine ts_getR (pc' := 12) (ci := 11) 15 cfX12.1 cfX12.2.1 cfX12.2.2 rfl (by decide) hnX12_goesOn_X12 flX12_goesOn_31 rfl dX12_goesOn_9 c2 c3 ?_
    refine ts_callV (M' := mX12_passes) (C := RX12) (pc' := 15) (av := [.ref (g.2.2.2 l0 15)]) (b := l0) rfl dX12_goesOn_12 rfl gX12_goesOn_X12_passes rfl dvX12_passes rfl (ci := 11) cfX12.1 (by decide) c2 (Nat.le_refl _) (Nat.le_of_ble_eq_true rfl) (Nat.le_of_ble_eq_true rfl) (Nat.le_refl _) (Nat.le_refl _) ts_kv0 W (ts_kkv fun hi4 hk5 W => ?_)
    refine ts_iinc 2 (pc' := 18) (ls' := [(2, .int (l2 + 1)), (0, .ref l0), (1, .int l1)]) rfl dX12_goesOn_15 rfl rfl (Nat.le_of_ble_eq_true rfl) rfl ?_
    refine ts_goto (tgt := 2) dX12_goesOn_18 (by decide) ?_
    exact ts_sub [1, 2, 0] rfl W
theorem hnX12_ahead_X12 : ∀ w ∈ u_ws RX12 TX12 25, w ∈ wsX12_ahead := by decide +kernel
theorem flX12_ahead_25 : Cond.fieldLink RX12 25 "TurnipSquiresModel" "now" "[I" ∈ wsX12_ahead := by decide +kernel
theorem flX12_ahead_31 : Cond.fieldLink RX12 31 "TurnipSquiresModel" "tried" "[I" ∈ wsX12_ahead := by decide +kernel
set_option maxHeartbeats 4000000 in
theorem wX12_ahead_0 {d : Nat} {g : ts_G} {Q : Int32 → ts_I → ts_K → Prop} {o : Nat} {p0 : Int32} {p1 : Int32} {p2 : Int32} {hi : ts_I} {hk : ts_K} (W : (g.2.1 o = 11) ∧ ts_E0 d mX12_isTurnip [.ref o, .int p0] g hi hk (ts_qi (fun v3 hi1 hk2 => ((v3 = 0) → Q (-1000001) hi1 hk2) ∧ (¬ (v3 = 0) → ts_E0 d mX12_in [.int p1, .int 0, .int 60] g hi1 hk2 (ts_qi (fun v8 hi6 hk7 => ((v8 = 0) → Q (-1000001) hi6 hk7) ∧ (¬ (v8 = 0) → ts_E0 d mX12_in [.int p2, .int 0, .int 1] g hi6 hk7 (ts_qi (fun v12 hi10 hk11 => ((v12 ≠ 0) → (g.2.2.2 o 13 ≠ 0) ∧ (g.2.2.2 o 15 ≠ 0) ∧ ts_E0 d mX12_copies [.ref (g.2.2.2 o 13), .int 0, .ref (g.2.2.2 o 15), .int 0] g hi10 hk11 (ts_qv (fun hi16 hk17 => ts_E0 d mX12_goesOn [.ref o, .int p1] g hi16 hk17 (ts_qv (fun hi18 hk19 => ((p2 ≠ 0) → (g.2.1 (g.2.2.2 o 15) = 100) ∧ (vp_in ((4 + (6 * p0)) + 2) (g.2.2.1 (g.2.2.2 o 15))) ∧ Q (hi18 (g.2.2.2 o 15) ((4 + (6 * p0)) + 2).toNatClampNeg) hi18 hk19) ∧ (¬ (p2 ≠ 0) → (g.2.1 (g.2.2.2 o 15) = 100) ∧ (vp_in ((4 + (6 * p0)) + 1) (g.2.2.1 (g.2.2.2 o 15))) ∧ Q (hi18 (g.2.2.2 o 15) ((4 + (6 * p0)) + 1).toNatClampNeg) hi18 hk19)))))) ∧ (¬ (v12 ≠ 0) → Q (-1000001) hi10 hk11)))))))))) : ts_J0 (d + 1) mX12_ahead (ts_qi Q) g 0 [(0, .ref o), (1, .int p0), (2, .int p1), (3, .int p2)] [] hi hk := by
  refine ts_aload_n 0 (pc' := 1) rfl dX12_ahead_0 rfl rfl ?_
  refine ts_iload_n 1 (pc' := 2) rfl dX12_ahead_1 rfl rfl ?_
  obtain ⟨c4, W⟩ := W
  refine ts_callV (M' := mX12_isTurnip) (C := RX12) (pc' := 5) (av := [.int p0]) (b := o) rfl dX12_ahead_2 rfl gX12_ahead_X12_isTurnip rfl dvX12_isTurnip rfl (ci := 11) cfX12.1 (by decide) c4 (Nat.le_refl _) (Nat.le_of_ble_eq_true rfl) (Nat.le_of_ble_eq_true rfl) (Nat.le_refl _) (Nat.le_refl _) ts_kv0 W (ts_kki fun v3 hi1 hk2 W => ?_)
  refine ts_if_eq (pc' := 8) (tgt := 27) rfl dX12_ahead_5 (by decide) (fun q5 => ?_) (fun q5 => ?_)
  · replace W := W.1 q5
    refine ts_ldc (v := (-1000001)) (pc' := 29) rfl dX12_ahead_27 (by decide +kernel) ?_
    exact ts_iret dX12_ahead_29 rfl (Nat.le_refl _) (Nat.le_refl _) ⟨rfl, _, rfl, W⟩
  · replace W := W.2 q5
    refine ts_iload_n 2 (pc' := 9) rfl dX12_ahead_8 rfl rfl ?_
    refine ts_iconst (v := 0) (pc' := 10) rfl dX12_ahead_9 (by decide) ?_
    refine ts_bipush (v := 60) (pc' := 12) rfl dX12_ahead_10 (by decide) ?_
    refine ts_callS (M' := mX12_in) (pc' := 15) (av := [.int p1, .int 0, .int 60]) rfl dX12_ahead_12 rfl gX12_ahead_X12_in rfl dsX12_in rfl (Nat.le_refl _) (Nat.le_of_ble_eq_true rfl) (Nat.le_of_ble_eq_true rfl) (Nat.le_refl _) (Nat.le_refl _) ts_kv0 W (ts_kki fun v8 hi6 hk7 W => ?_)
    refine ts_if_eq (pc' := 18) (tgt := 27) rfl dX12_ahead_15 (by decide) (fun q9 => ?_) (fun q9 => ?_)
    · replace W := W.1 q9
      refine ts_ldc (v := (-1000001)) (pc' := 29) rfl dX12_ahead_27 (by decide +kernel) ?_
      exact ts_iret dX12_ahead_29 rfl (Nat.le_refl _) (Nat.le_refl _) ⟨rfl, _, rfl, W⟩
    · replace W := W.2 q9
      refine ts_iload_n 3 (pc' := 19) rfl dX12_ahead_18 rfl rfl ?_
      refine ts_iconst (v := 0) (pc' := 20) rfl dX12_ahead_19 (by decide) ?_
      refine ts_iconst (v := 1) (pc' := 21) rfl dX12_ahead_20 (by decide) ?_
      refine ts_callS (M' := mX12_in) (pc' := 24) (av := [.int p2, .int 0, .int 1]) rfl dX12_ahead_21 rfl gX12_ahead_X12_in rfl dsX12_in rfl (Nat.le_refl _) (Nat.le_of_ble_eq_true rfl) (Nat.le_of_ble_eq_true rfl) (Nat.le_refl _) (Nat.le_refl _) ts_kv0 W (ts_kki fun v12 hi10 hk11 W => ?_)
      refine ts_if_ne (pc' := 27) (tgt := 30) rfl dX12_ahead_24 (by decide) (fun q13 => ?_) (fun q13 => ?_)
      · replace W := W.1 q13
        refine ts_aload_n 0 (pc' := 31) rfl dX12_ahead_30 rfl rfl ?_
        obtain ⟨c14, W⟩ := W
        refine ts_getR (pc' := 34) (ci := 11) 13 cfX12.1 cfX12.2.1 cfX12.2.2 rfl (by decide) hnX12_ahead_X12 flX12_ahead_25 rfl dX12_ahead_31 c4 c14 ?_
        refine ts_iconst (v := 0) (pc' := 35) rfl dX12_ahead_34 (by decide) ?_
        refine ts_aload_n 0 (pc' := 36) rfl dX12_ahead_35 rfl rfl ?_
        obtain ⟨c15, W⟩ := W
        refine ts_getR (pc' := 39) (ci := 11) 15 cfX12.1 cfX12.2.1 cfX12.2.2 rfl (by decide) hnX12_ahead_X12 flX12_ahead_31 rfl dX12_ahead_36 c4 c15 ?_
        refine ts_iconst (v := 0) (pc' := 40) rfl dX12_ahead_39 (by decide) ?_
        refine ts_callS (M' := mX12_copies) (pc' := 43) (av := [.ref (g.2.2.2 o 13), .int 0, .ref (g.2.2.2 o 15), .int 0]) rfl dX12_ahead_40 rfl gX12_ahead_X12_copies rfl dsX12_copies rfl (Nat.le_refl _) (Nat.le_of_ble_eq_true rfl) (Nat.le_of_ble_eq_true rfl) (Nat.le_refl _) (Nat.le_refl _) ts_kv0 W (ts_kkv fun hi16 hk17 W => ?_)
        refine ts_aload_n 0 (pc' := 44) rfl dX12_ahead_43 rfl rfl ?_
        refine ts_iload_n 2 (pc' := 45) rfl dX12_ahead_44 rfl rfl ?_
        refine ts_callV (M' := mX12_goesOn) (C := RX12) (pc' := 48) (av := [.int p1]) (b := o) rfl dX12_ahead_45 rfl gX12_ahead_X12_goesOn rfl dvX12_goesOn rfl (ci := 11) cfX12.1 (by decide) c4 (Nat.le_refl _) (Nat.le_of_ble_eq_true rfl) (Nat.le_of_ble_eq_true rfl) (Nat.le_refl _) (Nat.le_refl _) ts_kv0 W (ts_kkv fun hi18 hk19 W => ?_)
        refine ts_aload_n 0 (pc' := 49) rfl dX12_ahead_48 rfl rfl ?_
        refine ts_getR (pc' := 52) (ci := 11) 15 cfX12.1 cfX12.2.1 cfX12.2.2 rfl (by decide) hnX12_ahead_X12 flX12_ahead_31 rfl dX12_ahead_49 c4 c15 ?_
        refine ts_iconst (v := 4) (pc' := 53) rfl dX12_ahead_52 (by decide) ?_
        refine ts_bipush (v := 6) (pc' := 55) rfl dX12_ahead_53 (by decide) ?_
        refine ts_iload_n 1 (pc' := 56) rfl dX12_ahead_55 rfl rfl ?_
        refine ts_imul (pc' := 57) rfl dX12_ahead_56 ?_
        refine ts_iadd (pc' := 58) rfl dX12_ahead_57 ?_
        refine ts_iload_n 3 (pc' := 59) rfl dX12_ahead_58 rfl rfl ?_
        refine ts_if_ne (pc' := 62) (tgt := 66) rfl dX12_ahead_59 (by decide) (fun q20 => ?_) (fun q20 => ?_)
        · replace W := W.1 q20
          refine ts_iconst (v := 2) (pc' := 67) rfl dX12_ahead_66 (by decide) ?_
          refine ts_iadd (pc' := 68) rfl dX12_ahead_67 ?_
          obtain ⟨c21, W⟩ := W
          obtain ⟨c22, W⟩ := W
          refine ts_iaload (pc' := 69) rfl dX12_ahead_68 c21 c22 ?_
          exact ts_iret dX12_ahead_69 rfl (Nat.le_refl _) (Nat.le_refl _) ⟨rfl, _, rfl, W⟩
        · replace W := W.2 q20
          refine ts_iconst (v := 1) (pc' := 63) rfl dX12_ahead_62 (by decide) ?_
          refine ts_goto (tgt := 67) dX12_ahead_63 (by decide) ?_
          refine ts_iadd (pc' := 68) rfl dX12_ahead_67 ?_
          obtain ⟨c23, W⟩ := W
          obtain ⟨c24, W⟩ := W
          refine ts_iaload (pc' := 69) rfl dX12_ahead_68 c23 c24 ?_
          exact ts_iret dX12_ahead_69 rfl (Nat.le_refl _) (Nat.le_refl _) ⟨rfl, _, rfl, W⟩
      · replace W := W.2 q13
        refine ts_ldc (v := (-1000001)) (pc' := 29) rfl dX12_ahead_27 (by decide +kernel) ?_
        exact ts_iret dX12_ahead_29 rfl (Nat.le_refl _) (Nat.le_refl _) ⟨rfl, _, rfl, W⟩
theorem hnX12_risen_X12 : ∀ w ∈ u_ws RX12 TX12 25, w ∈ wsX12_risen := by decide +kernel
theorem flX12_risen_25 : Cond.fieldLink RX12 25 "TurnipSquiresModel" "now" "[I" ∈ wsX12_risen := by decide +kernel
theorem flX12_risen_31 : Cond.fieldLink RX12 31 "TurnipSquiresModel" "tried" "[I" ∈ wsX12_risen := by decide +kernel
set_option maxHeartbeats 4000000 in
theorem wX12_risen_0 {d : Nat} {g : ts_G} {Q : Int32 → ts_I → ts_K → Prop} {o : Nat} {p0 : Int32} {p1 : Int32} {hi : ts_I} {hk : ts_K} (W : (g.2.1 o = 11) ∧ ts_E0 d mX12_isTurnip [.ref o, .int p0] g hi hk (ts_qi (fun v3 hi1 hk2 => ((v3 = 0) → Q (-1000001) hi1 hk2) ∧ (¬ (v3 = 0) → ts_E0 d mX12_in [.int p1, .int 0, .int 9] g hi1 hk2 (ts_qi (fun v8 hi6 hk7 => ((v8 ≠ 0) → (g.2.2.2 o 13 ≠ 0) ∧ (g.2.2.2 o 15 ≠ 0) ∧ ts_E0 d mX12_copies [.ref (g.2.2.2 o 13), .int 0, .ref (g.2.2.2 o 15), .int 0] g hi6 hk7 (ts_qv (fun hi12 hk13 => ts_J0 (d + 1) mX12_risen (ts_qi Q) g 36 [(0, .ref o), (1, .int p0), (2, .int p1), (3, .int 0)] [] hi12 hk13))) ∧ (¬ (v8 ≠ 0) → Q (-1000001) hi6 hk7))))))) : ts_J0 (d + 1) mX12_risen (ts_qi Q) g 0 [(0, .ref o), (1, .int p0), (2, .int p1)] [] hi hk := by
  refine ts_aload_n 0 (pc' := 1) rfl dX12_risen_0 rfl rfl ?_
  refine ts_iload_n 1 (pc' := 2) rfl dX12_risen_1 rfl rfl ?_
  obtain ⟨c4, W⟩ := W
  refine ts_callV (M' := mX12_isTurnip) (C := RX12) (pc' := 5) (av := [.int p0]) (b := o) rfl dX12_risen_2 rfl gX12_risen_X12_isTurnip rfl dvX12_isTurnip rfl (ci := 11) cfX12.1 (by decide) c4 (Nat.le_refl _) (Nat.le_of_ble_eq_true rfl) (Nat.le_of_ble_eq_true rfl) (Nat.le_refl _) (Nat.le_refl _) ts_kv0 W (ts_kki fun v3 hi1 hk2 W => ?_)
  refine ts_if_eq (pc' := 8) (tgt := 18) rfl dX12_risen_5 (by decide) (fun q5 => ?_) (fun q5 => ?_)
  · replace W := W.1 q5
    refine ts_ldc (v := (-1000001)) (pc' := 20) rfl dX12_risen_18 (by decide +kernel) ?_
    exact ts_iret dX12_risen_20 rfl (Nat.le_refl _) (Nat.le_refl _) ⟨rfl, _, rfl, W⟩
  · replace W := W.2 q5
    refine ts_iload_n 2 (pc' := 9) rfl dX12_risen_8 rfl rfl ?_
    refine ts_iconst (v := 0) (pc' := 10) rfl dX12_risen_9 (by decide) ?_
    refine ts_bipush (v := 9) (pc' := 12) rfl dX12_risen_10 (by decide) ?_
    refine ts_callS (M' := mX12_in) (pc' := 15) (av := [.int p1, .int 0, .int 9]) rfl dX12_risen_12 rfl gX12_risen_X12_in rfl dsX12_in rfl (Nat.le_refl _) (Nat.le_of_ble_eq_true rfl) (Nat.le_of_ble_eq_true rfl) (Nat.le_refl _) (Nat.le_refl _) ts_kv0 W (ts_kki fun v8 hi6 hk7 W => ?_)
    refine ts_if_ne (pc' := 18) (tgt := 21) rfl dX12_risen_15 (by decide) (fun q9 => ?_) (fun q9 => ?_)
    · replace W := W.1 q9
      refine ts_aload_n 0 (pc' := 22) rfl dX12_risen_21 rfl rfl ?_
      obtain ⟨c10, W⟩ := W
      refine ts_getR (pc' := 25) (ci := 11) 13 cfX12.1 cfX12.2.1 cfX12.2.2 rfl (by decide) hnX12_risen_X12 flX12_risen_25 rfl dX12_risen_22 c4 c10 ?_
      refine ts_iconst (v := 0) (pc' := 26) rfl dX12_risen_25 (by decide) ?_
      refine ts_aload_n 0 (pc' := 27) rfl dX12_risen_26 rfl rfl ?_
      obtain ⟨c11, W⟩ := W
      refine ts_getR (pc' := 30) (ci := 11) 15 cfX12.1 cfX12.2.1 cfX12.2.2 rfl (by decide) hnX12_risen_X12 flX12_risen_31 rfl dX12_risen_27 c4 c11 ?_
      refine ts_iconst (v := 0) (pc' := 31) rfl dX12_risen_30 (by decide) ?_
      refine ts_callS (M' := mX12_copies) (pc' := 34) (av := [.ref (g.2.2.2 o 13), .int 0, .ref (g.2.2.2 o 15), .int 0]) rfl dX12_risen_31 rfl gX12_risen_X12_copies rfl dsX12_copies rfl (Nat.le_refl _) (Nat.le_of_ble_eq_true rfl) (Nat.le_of_ble_eq_true rfl) (Nat.le_refl _) (Nat.le_refl _) ts_kv0 W (ts_kkv fun hi12 hk13 W => ?_)
      refine ts_iconst (v := 0) (pc' := 35) rfl dX12_risen_34 (by decide) ?_
      refine ts_istore_n (pc' := 36) (ls' := [(3, .int 0), (0, .ref o), (1, .int p0), (2, .int p1)]) rfl dX12_risen_35 rfl (Nat.le_of_ble_eq_true rfl) rfl ?_
      exact ts_sub [1, 2, 3, 0] rfl W
    · replace W := W.2 q9
      refine ts_ldc (v := (-1000001)) (pc' := 20) rfl dX12_risen_18 (by decide +kernel) ?_
      exact ts_iret dX12_risen_20 rfl (Nat.le_refl _) (Nat.le_refl _) ⟨rfl, _, rfl, W⟩
set_option maxHeartbeats 4000000 in
theorem wX12_risen_36 {d : Nat} {g : ts_G} {Q : Int32 → ts_I → ts_K → Prop} {l0 : Nat} {l1 : Int32} {l2 : Int32} {l3 : Int32} {hi : ts_I} {hk : ts_K} (W : ((61 ≤ l3) → Q (-1000000) hi hk) ∧ (¬ (61 ≤ l3) → (g.2.1 l0 = 11) ∧ (g.2.2.2 l0 15 ≠ 0) ∧ (g.2.1 (g.2.2.2 l0 15) = 100) ∧ (vp_in ((4 + (6 * l1)) + 1) (g.2.2.1 (g.2.2.2 l0 15))) ∧ (((hi (g.2.2.2 l0 15) ((4 + (6 * l1)) + 1).toNatClampNeg) < l2) → ts_E0 d mX12_passes [.ref l0, .ref (g.2.2.2 l0 15)] g hi hk (ts_qv (fun hi7 hk8 => ts_J0 (d + 1) mX12_risen (ts_qi Q) g 36 [(0, .ref l0), (1, .int l1), (2, .int l2), (3, .int (l3 + 1))] [] hi7 hk8))) ∧ (¬ ((hi (g.2.2.2 l0 15) ((4 + (6 * l1)) + 1).toNatClampNeg) < l2) → Q l3 hi hk))) : ts_J0 (d + 1) mX12_risen (ts_qi Q) g 36 [(0, .ref l0), (1, .int l1), (2, .int l2), (3, .int l3)] [] hi hk := by
  refine ts_iload_n 3 (pc' := 37) rfl dX12_risen_36 rfl rfl ?_
  refine ts_bipush (v := 61) (pc' := 39) rfl dX12_risen_37 (by decide) ?_
  refine ts_icmp_ge (pc' := 42) (tgt := 75) rfl dX12_risen_39 (by decide) (fun q1 => ?_) (fun q1 => ?_)
  · replace W := W.1 q1
    refine ts_ldc (v := (-1000000)) (pc' := 77) rfl dX12_risen_75 (by decide +kernel) ?_
    exact ts_iret dX12_risen_77 rfl (Nat.le_refl _) (Nat.le_refl _) ⟨rfl, _, rfl, W⟩
  · replace W := W.2 q1
    refine ts_aload_n 0 (pc' := 43) rfl dX12_risen_42 rfl rfl ?_
    obtain ⟨c2, W⟩ := W
    obtain ⟨c3, W⟩ := W
    refine ts_getR (pc' := 46) (ci := 11) 15 cfX12.1 cfX12.2.1 cfX12.2.2 rfl (by decide) hnX12_risen_X12 flX12_risen_31 rfl dX12_risen_43 c2 c3 ?_
    refine ts_iconst (v := 4) (pc' := 47) rfl dX12_risen_46 (by decide) ?_
    refine ts_bipush (v := 6) (pc' := 49) rfl dX12_risen_47 (by decide) ?_
    refine ts_iload_n 1 (pc' := 50) rfl dX12_risen_49 rfl rfl ?_
    refine ts_imul (pc' := 51) rfl dX12_risen_50 ?_
    refine ts_iadd (pc' := 52) rfl dX12_risen_51 ?_
    refine ts_iconst (v := 1) (pc' := 53) rfl dX12_risen_52 (by decide) ?_
    refine ts_iadd (pc' := 54) rfl dX12_risen_53 ?_
    obtain ⟨c4, W⟩ := W
    obtain ⟨c5, W⟩ := W
    refine ts_iaload (pc' := 55) rfl dX12_risen_54 c4 c5 ?_
    refine ts_iload_n 2 (pc' := 56) rfl dX12_risen_55 rfl rfl ?_
    refine ts_icmp_lt (pc' := 59) (tgt := 61) rfl dX12_risen_56 (by decide) (fun q6 => ?_) (fun q6 => ?_)
    · replace W := W.1 q6
      refine ts_aload_n 0 (pc' := 62) rfl dX12_risen_61 rfl rfl ?_
      refine ts_aload_n 0 (pc' := 63) rfl dX12_risen_62 rfl rfl ?_
      refine ts_getR (pc' := 66) (ci := 11) 15 cfX12.1 cfX12.2.1 cfX12.2.2 rfl (by decide) hnX12_risen_X12 flX12_risen_31 rfl dX12_risen_63 c2 c3 ?_
      refine ts_callV (M' := mX12_passes) (C := RX12) (pc' := 69) (av := [.ref (g.2.2.2 l0 15)]) (b := l0) rfl dX12_risen_66 rfl gX12_risen_X12_passes rfl dvX12_passes rfl (ci := 11) cfX12.1 (by decide) c2 (Nat.le_refl _) (Nat.le_of_ble_eq_true rfl) (Nat.le_of_ble_eq_true rfl) (Nat.le_refl _) (Nat.le_refl _) ts_kv0 W (ts_kkv fun hi7 hk8 W => ?_)
      refine ts_iinc 3 (pc' := 72) (ls' := [(3, .int (l3 + 1)), (0, .ref l0), (1, .int l1), (2, .int l2)]) rfl dX12_risen_69 rfl rfl (Nat.le_of_ble_eq_true rfl) rfl ?_
      refine ts_goto (tgt := 36) dX12_risen_72 (by decide) ?_
      exact ts_sub [1, 2, 3, 0] rfl W
    · replace W := W.2 q6
      refine ts_iload_n 3 (pc' := 60) rfl dX12_risen_59 rfl rfl ?_
      exact ts_iret dX12_risen_60 rfl (Nat.le_refl _) (Nat.le_refl _) ⟨rfl, _, rfl, W⟩
theorem hnX12_squire_X12 : ∀ w ∈ u_ws RX12 TX12 25, w ∈ wsX12_squire := by decide +kernel
theorem flX12_squire_25 : Cond.fieldLink RX12 25 "TurnipSquiresModel" "now" "[I" ∈ wsX12_squire := by decide +kernel
theorem flX12_squire_31 : Cond.fieldLink RX12 31 "TurnipSquiresModel" "tried" "[I" ∈ wsX12_squire := by decide +kernel
set_option maxHeartbeats 4000000 in
theorem wX12_squire_0 {d : Nat} {g : ts_G} {Q : Int32 → ts_I → ts_K → Prop} {o : Nat} {p0 : Int32} {hi : ts_I} {hk : ts_K} (W : (g.2.1 o = 11) ∧ ts_E0 d mX12_isField [.ref o] g hi hk (ts_qi (fun v3 hi1 hk2 => ((v3 ≠ 0) → ts_E0 d mX12_in [.int p0, .int 0, .int 1] g hi1 hk2 (ts_qi (fun v8 hi6 hk7 => ((v8 ≠ 0) → (g.2.2.2 o 13 ≠ 0) ∧ (g.2.2.2 o 15 ≠ 0) ∧ ts_E0 d mX12_copies [.ref (g.2.2.2 o 13), .int 0, .ref (g.2.2.2 o 15), .int 0] g hi6 hk7 (ts_qv (fun hi12 hk13 => ts_J0 (d + 1) mX12_squire (ts_qi Q) g 37 [(0, .ref o), (1, .int p0), (2, .int 0)] [] hi12 hk13))) ∧ (¬ (v8 ≠ 0) → Q (-1000001) hi6 hk7)))) ∧ (¬ (v3 ≠ 0) → Q (-1000002) hi1 hk2)))) : ts_J0 (d + 1) mX12_squire (ts_qi Q) g 0 [(0, .ref o), (1, .int p0)] [] hi hk := by
  refine ts_aload_n 0 (pc' := 1) rfl dX12_squire_0 rfl rfl ?_
  obtain ⟨c4, W⟩ := W
  refine ts_callV (M' := mX12_isField) (C := RX12) (pc' := 4) (av := []) (b := o) rfl dX12_squire_1 rfl gX12_squire_X12_isField rfl dvX12_isField rfl (ci := 11) cfX12.1 (by decide) c4 (Nat.le_refl _) (Nat.le_of_ble_eq_true rfl) (Nat.le_of_ble_eq_true rfl) (Nat.le_refl _) (Nat.le_refl _) ts_kv0 W (ts_kki fun v3 hi1 hk2 W => ?_)
  refine ts_if_ne (pc' := 7) (tgt := 10) rfl dX12_squire_4 (by decide) (fun q5 => ?_) (fun q5 => ?_)
  · replace W := W.1 q5
    refine ts_iload_n 1 (pc' := 11) rfl dX12_squire_10 rfl rfl ?_
    refine ts_iconst (v := 0) (pc' := 12) rfl dX12_squire_11 (by decide) ?_
    refine ts_iconst (v := 1) (pc' := 13) rfl dX12_squire_12 (by decide) ?_
    refine ts_callS (M' := mX12_in) (pc' := 16) (av := [.int p0, .int 0, .int 1]) rfl dX12_squire_13 rfl gX12_squire_X12_in rfl dsX12_in rfl (Nat.le_refl _) (Nat.le_of_ble_eq_true rfl) (Nat.le_of_ble_eq_true rfl) (Nat.le_refl _) (Nat.le_refl _) ts_kv0 W (ts_kki fun v8 hi6 hk7 W => ?_)
    refine ts_if_ne (pc' := 19) (tgt := 22) rfl dX12_squire_16 (by decide) (fun q9 => ?_) (fun q9 => ?_)
    · replace W := W.1 q9
      refine ts_aload_n 0 (pc' := 23) rfl dX12_squire_22 rfl rfl ?_
      obtain ⟨c10, W⟩ := W
      refine ts_getR (pc' := 26) (ci := 11) 13 cfX12.1 cfX12.2.1 cfX12.2.2 rfl (by decide) hnX12_squire_X12 flX12_squire_25 rfl dX12_squire_23 c4 c10 ?_
      refine ts_iconst (v := 0) (pc' := 27) rfl dX12_squire_26 (by decide) ?_
      refine ts_aload_n 0 (pc' := 28) rfl dX12_squire_27 rfl rfl ?_
      obtain ⟨c11, W⟩ := W
      refine ts_getR (pc' := 31) (ci := 11) 15 cfX12.1 cfX12.2.1 cfX12.2.2 rfl (by decide) hnX12_squire_X12 flX12_squire_31 rfl dX12_squire_28 c4 c11 ?_
      refine ts_iconst (v := 0) (pc' := 32) rfl dX12_squire_31 (by decide) ?_
      refine ts_callS (M' := mX12_copies) (pc' := 35) (av := [.ref (g.2.2.2 o 13), .int 0, .ref (g.2.2.2 o 15), .int 0]) rfl dX12_squire_32 rfl gX12_squire_X12_copies rfl dsX12_copies rfl (Nat.le_refl _) (Nat.le_of_ble_eq_true rfl) (Nat.le_of_ble_eq_true rfl) (Nat.le_refl _) (Nat.le_refl _) ts_kv0 W (ts_kkv fun hi12 hk13 W => ?_)
      refine ts_iconst (v := 0) (pc' := 36) rfl dX12_squire_35 (by decide) ?_
      refine ts_istore_n (pc' := 37) (ls' := [(2, .int 0), (0, .ref o), (1, .int p0)]) rfl dX12_squire_36 rfl (Nat.le_of_ble_eq_true rfl) rfl ?_
      exact ts_sub [1, 2, 0] rfl W
    · replace W := W.2 q9
      refine ts_ldc (v := (-1000001)) (pc' := 21) rfl dX12_squire_19 (by decide +kernel) ?_
      exact ts_iret dX12_squire_21 rfl (Nat.le_refl _) (Nat.le_refl _) ⟨rfl, _, rfl, W⟩
  · replace W := W.2 q5
    refine ts_ldc (v := (-1000002)) (pc' := 9) rfl dX12_squire_7 (by decide +kernel) ?_
    exact ts_iret dX12_squire_9 rfl (Nat.le_refl _) (Nat.le_refl _) ⟨rfl, _, rfl, W⟩
set_option maxHeartbeats 4000000 in
theorem wX12_squire_37 {d : Nat} {g : ts_G} {Q : Int32 → ts_I → ts_K → Prop} {l0 : Nat} {l1 : Int32} {l2 : Int32} {hi : ts_I} {hk : ts_K} (W : ((61 ≤ l2) → Q (-1000000) hi hk) ∧ (¬ (61 ≤ l2) → ts_J0 (d + 1) mX12_squire (ts_qi Q) g 45 [(0, .ref l0), (1, .int l1), (2, .int l2), (3, .int 0)] [] hi hk)) : ts_J0 (d + 1) mX12_squire (ts_qi Q) g 37 [(0, .ref l0), (1, .int l1), (2, .int l2)] [] hi hk := by
  refine ts_iload_n 2 (pc' := 38) rfl dX12_squire_37 rfl rfl ?_
  refine ts_bipush (v := 61) (pc' := 40) rfl dX12_squire_38 (by decide) ?_
  refine ts_icmp_ge (pc' := 43) (tgt := 103) rfl dX12_squire_40 (by decide) (fun q1 => ?_) (fun q1 => ?_)
  · replace W := W.1 q1
    refine ts_ldc (v := (-1000000)) (pc' := 105) rfl dX12_squire_103 (by decide +kernel) ?_
    exact ts_iret dX12_squire_105 rfl (Nat.le_refl _) (Nat.le_refl _) ⟨rfl, _, rfl, W⟩
  · replace W := W.2 q1
    refine ts_iconst (v := 0) (pc' := 44) rfl dX12_squire_43 (by decide) ?_
    refine ts_istore_n (pc' := 45) (ls' := [(3, .int 0), (0, .ref l0), (1, .int l1), (2, .int l2)]) rfl dX12_squire_44 rfl (Nat.le_of_ble_eq_true rfl) rfl ?_
    exact ts_sub [1, 2, 3, 0] rfl W
set_option maxHeartbeats 4000000 in
theorem wX12_squire_45 {d : Nat} {g : ts_G} {Q : Int32 → ts_I → ts_K → Prop} {l0 : Nat} {l1 : Int32} {l2 : Int32} {l3 : Int32} {hi : ts_I} {hk : ts_K} (W : (g.2.1 l0 = 11) ∧ (g.2.2.2 l0 13 ≠ 0) ∧ (g.2.1 (g.2.2.2 l0 13) = 100) ∧ (vp_in 2 (g.2.2.1 (g.2.2.2 l0 13))) ∧ (((hi (g.2.2.2 l0 13) (2 : Int32).toNatClampNeg) ≤ l3) → (g.2.2.2 l0 15 ≠ 0) ∧ ts_E0 d mX12_passes [.ref l0, .ref (g.2.2.2 l0 15)] g hi hk (ts_qv (fun hi7 hk8 => ts_J0 (d + 1) mX12_squire (ts_qi Q) g 37 [(0, .ref l0), (1, .int l1), (2, .int (l2 + 1))] [] hi7 hk8))) ∧ (¬ ((hi (g.2.2.2 l0 13) (2 : Int32).toNatClampNeg) ≤ l3) → (g.2.2.2 l0 15 ≠ 0) ∧ (g.2.1 (g.2.2.2 l0 15) = 100) ∧ (vp_in ((4 + (6 * l3)) + 1) (g.2.2.1 (g.2.2.2 l0 15))) ∧ (((hi (g.2.2.2 l0 15) ((4 + (6 * l3)) + 1).toNatClampNeg) ≠ 9) → ts_J0 (d + 1) mX12_squire (ts_qi Q) g 45 [(0, .ref l0), (1, .int l1), (2, .int l2), (3, .int (l3 + 1))] [] hi hk) ∧ (¬ ((hi (g.2.2.2 l0 15) ((4 + (6 * l3)) + 1).toNatClampNeg) ≠ 9) → ((l1 ≠ 0) → Q l2 hi hk) ∧ (¬ (l1 ≠ 0) → Q l3 hi hk)))) : ts_J0 (d + 1) mX12_squire (ts_qi Q) g 45 [(0, .ref l0), (1, .int l1), (2, .int l2), (3, .int l3)] [] hi hk := by
  refine ts_iload_n 3 (pc' := 46) rfl dX12_squire_45 rfl rfl ?_
  refine ts_aload_n 0 (pc' := 47) rfl dX12_squire_46 rfl rfl ?_
  obtain ⟨c1, W⟩ := W
  obtain ⟨c2, W⟩ := W
  refine ts_getR (pc' := 50) (ci := 11) 13 cfX12.1 cfX12.2.1 cfX12.2.2 rfl (by decide) hnX12_squire_X12 flX12_squire_25 rfl dX12_squire_47 c1 c2 ?_
  refine ts_iconst (v := 2) (pc' := 51) rfl dX12_squire_50 (by decide) ?_
  obtain ⟨c3, W⟩ := W
  obtain ⟨c4, W⟩ := W
  refine ts_iaload (pc' := 52) rfl dX12_squire_51 c3 c4 ?_
  refine ts_icmp_ge (pc' := 55) (tgt := 89) rfl dX12_squire_52 (by decide) (fun q5 => ?_) (fun q5 => ?_)
  · replace W := W.1 q5
    refine ts_aload_n 0 (pc' := 90) rfl dX12_squire_89 rfl rfl ?_
    refine ts_aload_n 0 (pc' := 91) rfl dX12_squire_90 rfl rfl ?_
    obtain ⟨c6, W⟩ := W
    refine ts_getR (pc' := 94) (ci := 11) 15 cfX12.1 cfX12.2.1 cfX12.2.2 rfl (by decide) hnX12_squire_X12 flX12_squire_31 rfl dX12_squire_91 c1 c6 ?_
    refine ts_callV (M' := mX12_passes) (C := RX12) (pc' := 97) (av := [.ref (g.2.2.2 l0 15)]) (b := l0) rfl dX12_squire_94 rfl gX12_squire_X12_passes rfl dvX12_passes rfl (ci := 11) cfX12.1 (by decide) c1 (Nat.le_refl _) (Nat.le_of_ble_eq_true rfl) (Nat.le_of_ble_eq_true rfl) (Nat.le_refl _) (Nat.le_refl _) ts_kv0 W (ts_kkv fun hi7 hk8 W => ?_)
    refine ts_iinc 2 (pc' := 100) (ls' := [(2, .int (l2 + 1)), (0, .ref l0), (1, .int l1), (3, .int l3)]) rfl dX12_squire_97 rfl rfl (Nat.le_of_ble_eq_true rfl) rfl ?_
    refine ts_goto (tgt := 37) dX12_squire_100 (by decide) ?_
    exact ts_sub [1, 2, 0] rfl W
  · replace W := W.2 q5
    refine ts_aload_n 0 (pc' := 56) rfl dX12_squire_55 rfl rfl ?_
    obtain ⟨c9, W⟩ := W
    refine ts_getR (pc' := 59) (ci := 11) 15 cfX12.1 cfX12.2.1 cfX12.2.2 rfl (by decide) hnX12_squire_X12 flX12_squire_31 rfl dX12_squire_56 c1 c9 ?_
    refine ts_iconst (v := 4) (pc' := 60) rfl dX12_squire_59 (by decide) ?_
    refine ts_bipush (v := 6) (pc' := 62) rfl dX12_squire_60 (by decide) ?_
    refine ts_iload_n 3 (pc' := 63) rfl dX12_squire_62 rfl rfl ?_
    refine ts_imul (pc' := 64) rfl dX12_squire_63 ?_
    refine ts_iadd (pc' := 65) rfl dX12_squire_64 ?_
    refine ts_iconst (v := 1) (pc' := 66) rfl dX12_squire_65 (by decide) ?_
    refine ts_iadd (pc' := 67) rfl dX12_squire_66 ?_
    obtain ⟨c10, W⟩ := W
    obtain ⟨c11, W⟩ := W
    refine ts_iaload (pc' := 68) rfl dX12_squire_67 c10 c11 ?_
    refine ts_bipush (v := 9) (pc' := 70) rfl dX12_squire_68 (by decide) ?_
    refine ts_icmp_ne (pc' := 73) (tgt := 83) rfl dX12_squire_70 (by decide) (fun q12 => ?_) (fun q12 => ?_)
    · replace W := W.1 q12
      refine ts_iinc 3 (pc' := 86) (ls' := [(3, .int (l3 + 1)), (0, .ref l0), (1, .int l1), (2, .int l2)]) rfl dX12_squire_83 rfl rfl (Nat.le_of_ble_eq_true rfl) rfl ?_
      refine ts_goto (tgt := 45) dX12_squire_86 (by decide) ?_
      exact ts_sub [1, 2, 3, 0] rfl W
    · replace W := W.2 q12
      refine ts_iload_n 1 (pc' := 74) rfl dX12_squire_73 rfl rfl ?_
      refine ts_if_ne (pc' := 77) (tgt := 81) rfl dX12_squire_74 (by decide) (fun q13 => ?_) (fun q13 => ?_)
      · replace W := W.1 q13
        refine ts_iload_n 2 (pc' := 82) rfl dX12_squire_81 rfl rfl ?_
        exact ts_iret dX12_squire_82 rfl (Nat.le_refl _) (Nat.le_refl _) ⟨rfl, _, rfl, W⟩
      · replace W := W.2 q13
        refine ts_iload_n 3 (pc' := 78) rfl dX12_squire_77 rfl rfl ?_
        refine ts_goto (tgt := 82) dX12_squire_78 (by decide) ?_
        exact ts_iret dX12_squire_82 rfl (Nat.le_refl _) (Nat.le_refl _) ⟨rfl, _, rfl, W⟩
theorem hnX12_isFree_X12 : ∀ w ∈ u_ws RX12 TX12 25, w ∈ wsX12_isFree := by decide +kernel
theorem flX12_isFree_47 : Cond.fieldLink RX12 47 "TurnipSquiresModel" "line" "[I" ∈ wsX12_isFree := by decide +kernel
set_option maxHeartbeats 4000000 in
theorem wX12_isFree_0 {d : Nat} {g : ts_G} {Q : Int32 → ts_I → ts_K → Prop} {o : Nat} {p0 : Int32} {p1 : Int32} {hi : ts_I} {hk : ts_K} (W : ts_J0 d mX12_isFree (ts_qi Q) g 5 [(0, .ref o), (1, .int p0), (2, .int p1), (3, .int 1), (4, .int 0)] [] hi hk) : ts_J0 d mX12_isFree (ts_qi Q) g 0 [(0, .ref o), (1, .int p0), (2, .int p1)] [] hi hk := by
  refine ts_iconst (v := 1) (pc' := 1) rfl dX12_isFree_0 (by decide) ?_
  refine ts_istore_n (pc' := 2) (ls' := [(3, .int 1), (0, .ref o), (1, .int p0), (2, .int p1)]) rfl dX12_isFree_1 rfl (Nat.le_of_ble_eq_true rfl) rfl ?_
  refine ts_iconst (v := 0) (pc' := 3) rfl dX12_isFree_2 (by decide) ?_
  refine ts_istore (pc' := 5) (ls' := [(4, .int 0), (3, .int 1), (0, .ref o), (1, .int p0), (2, .int p1)]) rfl dX12_isFree_3 (Nat.le_of_ble_eq_true rfl) rfl ?_
  exact ts_sub [2, 3, 4, 1, 0] rfl W
set_option maxHeartbeats 4000000 in
theorem wX12_isFree_5 {d : Nat} {g : ts_G} {Q : Int32 → ts_I → ts_K → Prop} {l0 : Nat} {l1 : Int32} {l2 : Int32} {l3 : Int32} {l4 : Int32} {hi : ts_I} {hk : ts_K} (W : ((l2 ≤ l4) → (l3 = 0 ∨ l3 = 1) ∧ Q l3 hi hk) ∧ (¬ (l2 ≤ l4) → ((l3 = 0) → ts_J0 d mX12_isFree (ts_qi Q) g 5 [(0, .ref l0), (1, .int l1), (2, .int l2), (3, .int 0), (4, .int (l4 + 1))] [] hi hk) ∧ (¬ (l3 = 0) → (g.2.1 l0 = 11) ∧ (g.2.2.2 l0 21 ≠ 0) ∧ (g.2.1 (g.2.2.2 l0 21) = 100) ∧ (vp_in l4 (g.2.2.1 (g.2.2.2 l0 21))) ∧ (((hi (g.2.2.2 l0 21) l4.toNatClampNeg) = l1) → ts_J0 d mX12_isFree (ts_qi Q) g 5 [(0, .ref l0), (1, .int l1), (2, .int l2), (3, .int 0), (4, .int (l4 + 1))] [] hi hk) ∧ (¬ ((hi (g.2.2.2 l0 21) l4.toNatClampNeg) = l1) → ts_J0 d mX12_isFree (ts_qi Q) g 5 [(0, .ref l0), (1, .int l1), (2, .int l2), (3, .int 1), (4, .int (l4 + 1))] [] hi hk)))) : ts_J0 d mX12_isFree (ts_qi Q) g 5 [(0, .ref l0), (1, .int l1), (2, .int l2), (3, .int l3), (4, .int l4)] [] hi hk := by
  refine ts_iload 4 (pc' := 7) rfl dX12_isFree_5 rfl ?_
  refine ts_iload_n 2 (pc' := 8) rfl dX12_isFree_7 rfl rfl ?_
  refine ts_icmp_ge (pc' := 11) (tgt := 38) rfl dX12_isFree_8 (by decide) (fun q1 => ?_) (fun q1 => ?_)
  · replace W := W.1 q1
    refine ts_iload_n 3 (pc' := 39) rfl dX12_isFree_38 rfl rfl ?_
    obtain ⟨c2, W⟩ := W
    exact ts_zret dX12_isFree_39 rfl c2 (Nat.le_refl _) (Nat.le_refl _) ⟨rfl, _, rfl, W⟩
  · replace W := W.2 q1
    refine ts_iload_n 3 (pc' := 12) rfl dX12_isFree_11 rfl rfl ?_
    refine ts_if_eq (pc' := 15) (tgt := 30) rfl dX12_isFree_12 (by decide) (fun q3 => ?_) (fun q3 => ?_)
    · replace W := W.1 q3
      refine ts_iconst (v := 0) (pc' := 31) rfl dX12_isFree_30 (by decide) ?_
      refine ts_istore_n (pc' := 32) (ls' := [(3, .int 0), (0, .ref l0), (1, .int l1), (2, .int l2), (4, .int l4)]) rfl dX12_isFree_31 rfl (Nat.le_of_ble_eq_true rfl) rfl ?_
      refine ts_iinc 4 (pc' := 35) (ls' := [(4, .int (l4 + 1)), (3, .int 0), (0, .ref l0), (1, .int l1), (2, .int l2)]) rfl dX12_isFree_32 rfl rfl (Nat.le_of_ble_eq_true rfl) rfl ?_
      refine ts_goto (tgt := 5) dX12_isFree_35 (by decide) ?_
      exact ts_sub [2, 3, 4, 1, 0] rfl W
    · replace W := W.2 q3
      refine ts_aload_n 0 (pc' := 16) rfl dX12_isFree_15 rfl rfl ?_
      obtain ⟨c4, W⟩ := W
      obtain ⟨c5, W⟩ := W
      refine ts_getR (pc' := 19) (ci := 11) 21 cfX12.1 cfX12.2.1 cfX12.2.2 rfl (by decide) hnX12_isFree_X12 flX12_isFree_47 rfl dX12_isFree_16 c4 c5 ?_
      refine ts_iload 4 (pc' := 21) rfl dX12_isFree_19 rfl ?_
      obtain ⟨c6, W⟩ := W
      obtain ⟨c7, W⟩ := W
      refine ts_iaload (pc' := 22) rfl dX12_isFree_21 c6 c7 ?_
      refine ts_iload_n 1 (pc' := 23) rfl dX12_isFree_22 rfl rfl ?_
      refine ts_icmp_eq (pc' := 26) (tgt := 30) rfl dX12_isFree_23 (by decide) (fun q8 => ?_) (fun q8 => ?_)
      · replace W := W.1 q8
        refine ts_iconst (v := 0) (pc' := 31) rfl dX12_isFree_30 (by decide) ?_
        refine ts_istore_n (pc' := 32) (ls' := [(3, .int 0), (0, .ref l0), (1, .int l1), (2, .int l2), (4, .int l4)]) rfl dX12_isFree_31 rfl (Nat.le_of_ble_eq_true rfl) rfl ?_
        refine ts_iinc 4 (pc' := 35) (ls' := [(4, .int (l4 + 1)), (3, .int 0), (0, .ref l0), (1, .int l1), (2, .int l2)]) rfl dX12_isFree_32 rfl rfl (Nat.le_of_ble_eq_true rfl) rfl ?_
        refine ts_goto (tgt := 5) dX12_isFree_35 (by decide) ?_
        exact ts_sub [2, 3, 4, 1, 0] rfl W
      · replace W := W.2 q8
        refine ts_iconst (v := 1) (pc' := 27) rfl dX12_isFree_26 (by decide) ?_
        refine ts_goto (tgt := 31) dX12_isFree_27 (by decide) ?_
        refine ts_istore_n (pc' := 32) (ls' := [(3, .int 1), (0, .ref l0), (1, .int l1), (2, .int l2), (4, .int l4)]) rfl dX12_isFree_31 rfl (Nat.le_of_ble_eq_true rfl) rfl ?_
        refine ts_iinc 4 (pc' := 35) (ls' := [(4, .int (l4 + 1)), (3, .int 1), (0, .ref l0), (1, .int l1), (2, .int l2)]) rfl dX12_isFree_32 rfl rfl (Nat.le_of_ble_eq_true rfl) rfl ?_
        refine ts_goto (tgt := 5) dX12_isFree_35 (by decide) ?_
        exact ts_sub [2, 3, 4, 1, 0] rfl W
theorem hnX12_marries_X12 : ∀ w ∈ u_ws RX12 TX12 25, w ∈ wsX12_marries := by decide +kernel
theorem flX12_marries_25 : Cond.fieldLink RX12 25 "TurnipSquiresModel" "now" "[I" ∈ wsX12_marries := by decide +kernel
theorem flX12_marries_47 : Cond.fieldLink RX12 47 "TurnipSquiresModel" "line" "[I" ∈ wsX12_marries := by decide +kernel
set_option maxHeartbeats 4000000 in
theorem wX12_marries_0 {d : Nat} {g : ts_G} {Q : Int32 → ts_I → ts_K → Prop} {o : Nat} {hi : ts_I} {hk : ts_K} (W : (g.2.1 o = 11) ∧ (g.2.2.2 o 13 ≠ 0) ∧ (g.2.1 (g.2.2.2 o 13) = 100) ∧ (vp_in 2 (g.2.2.1 (g.2.2.2 o 13))) ∧ ts_J0 (d + 1) mX12_marries (ts_qi Q) g 9 [(0, .ref o), (1, .int ((hi (g.2.2.2 o 13) (2 : Int32).toNatClampNeg) - 1))] [] hi hk) : ts_J0 (d + 1) mX12_marries (ts_qi Q) g 0 [(0, .ref o)] [] hi hk := by
  refine ts_aload_n 0 (pc' := 1) rfl dX12_marries_0 rfl rfl ?_
  obtain ⟨c1, W⟩ := W
  obtain ⟨c2, W⟩ := W
  refine ts_getR (pc' := 4) (ci := 11) 13 cfX12.1 cfX12.2.1 cfX12.2.2 rfl (by decide) hnX12_marries_X12 flX12_marries_25 rfl dX12_marries_1 c1 c2 ?_
  refine ts_iconst (v := 2) (pc' := 5) rfl dX12_marries_4 (by decide) ?_
  obtain ⟨c3, W⟩ := W
  obtain ⟨c4, W⟩ := W
  refine ts_iaload (pc' := 6) rfl dX12_marries_5 c3 c4 ?_
  refine ts_iconst (v := 1) (pc' := 7) rfl dX12_marries_6 (by decide) ?_
  refine ts_isub (pc' := 8) rfl dX12_marries_7 ?_
  refine ts_istore_n (pc' := 9) (ls' := [(1, .int ((hi (g.2.2.2 o 13) (2 : Int32).toNatClampNeg) - 1)), (0, .ref o)]) rfl dX12_marries_8 rfl (Nat.le_of_ble_eq_true rfl) rfl ?_
  exact ts_sub [1, 0] rfl W
set_option maxHeartbeats 4000000 in
theorem wX12_marries_9 {d : Nat} {g : ts_G} {Q : Int32 → ts_I → ts_K → Prop} {l0 : Nat} {l1 : Int32} {hi : ts_I} {hk : ts_K} (W : ((l1 < 0) → Q 0 hi hk) ∧ (¬ (l1 < 0) → (g.2.1 l0 = 11) ∧ (g.2.2.2 l0 21 ≠ 0) ∧ (g.2.1 (g.2.2.2 l0 21) = 100) ∧ (vp_in l1 (g.2.2.1 (g.2.2.2 l0 21))) ∧ (((hi (g.2.2.2 l0 21) l1.toNatClampNeg) ≠ (-1000000)) → ts_J0 (d + 1) mX12_marries (ts_qi Q) g 39 [(0, .ref l0), (1, .int l1), (2, .int (hi (g.2.2.2 l0 21) l1.toNatClampNeg)), (3, .int ((hi (g.2.2.2 l0 21) l1.toNatClampNeg) + 1))] [] hi hk) ∧ (¬ ((hi (g.2.2.2 l0 21) l1.toNatClampNeg) ≠ (-1000000)) → ts_J0 (d + 1) mX12_marries (ts_qi Q) g 39 [(0, .ref l0), (1, .int l1), (2, .int l1), (3, .int (l1 + 1))] [] hi hk))) : ts_J0 (d + 1) mX12_marries (ts_qi Q) g 9 [(0, .ref l0), (1, .int l1)] [] hi hk := by
  refine ts_iload_n 1 (pc' := 10) rfl dX12_marries_9 rfl rfl ?_
  refine ts_if_lt (pc' := 13) (tgt := 147) rfl dX12_marries_10 (by decide) (fun q1 => ?_) (fun q1 => ?_)
  · replace W := W.1 q1
    refine ts_iconst (v := 0) (pc' := 148) rfl dX12_marries_147 (by decide) ?_
    exact ts_zret dX12_marries_148 rfl (by decide) (Nat.le_refl _) (Nat.le_refl _) ⟨rfl, _, rfl, W⟩
  · replace W := W.2 q1
    refine ts_aload_n 0 (pc' := 14) rfl dX12_marries_13 rfl rfl ?_
    obtain ⟨c2, W⟩ := W
    obtain ⟨c3, W⟩ := W
    refine ts_getR (pc' := 17) (ci := 11) 21 cfX12.1 cfX12.2.1 cfX12.2.2 rfl (by decide) hnX12_marries_X12 flX12_marries_47 rfl dX12_marries_14 c2 c3 ?_
    refine ts_iload_n 1 (pc' := 18) rfl dX12_marries_17 rfl rfl ?_
    obtain ⟨c4, W⟩ := W
    obtain ⟨c5, W⟩ := W
    refine ts_iaload (pc' := 19) rfl dX12_marries_18 c4 c5 ?_
    refine ts_ldc (v := (-1000000)) (pc' := 21) rfl dX12_marries_19 (by decide +kernel) ?_
    refine ts_icmp_ne (pc' := 24) (tgt := 28) rfl dX12_marries_21 (by decide) (fun q6 => ?_) (fun q6 => ?_)
    · replace W := W.1 q6
      refine ts_aload_n 0 (pc' := 29) rfl dX12_marries_28 rfl rfl ?_
      refine ts_getR (pc' := 32) (ci := 11) 21 cfX12.1 cfX12.2.1 cfX12.2.2 rfl (by decide) hnX12_marries_X12 flX12_marries_47 rfl dX12_marries_29 c2 c3 ?_
      refine ts_iload_n 1 (pc' := 33) rfl dX12_marries_32 rfl rfl ?_
      refine ts_iaload (pc' := 34) rfl dX12_marries_33 c4 c5 ?_
      refine ts_istore_n (pc' := 35) (ls' := [(2, .int (hi (g.2.2.2 l0 21) l1.toNatClampNeg)), (0, .ref l0), (1, .int l1)]) rfl dX12_marries_34 rfl (Nat.le_of_ble_eq_true rfl) rfl ?_
      refine ts_iload_n 0 (pc' := 36) rfl dX12_marries_35 rfl rfl ?_
      refine ts_iconst (v := 1) (pc' := 37) rfl dX12_marries_36 (by decide) ?_
      refine ts_iadd (pc' := 38) rfl dX12_marries_37 ?_
      refine ts_istore_n (pc' := 39) (ls' := [(3, .int ((hi (g.2.2.2 l0 21) l1.toNatClampNeg) + 1)), (2, .int (hi (g.2.2.2 l0 21) l1.toNatClampNeg)), (0, .ref l0), (1, .int l1)]) rfl dX12_marries_38 rfl (Nat.le_of_ble_eq_true rfl) rfl ?_
      exact ts_sub [2, 3, 1, 0] rfl W
    · replace W := W.2 q6
      refine ts_iload_n 1 (pc' := 25) rfl dX12_marries_24 rfl rfl ?_
      refine ts_goto (tgt := 34) dX12_marries_25 (by decide) ?_
      refine ts_istore_n (pc' := 35) (ls' := [(2, .int l1), (0, .ref l0), (1, .int l1)]) rfl dX12_marries_34 rfl (Nat.le_of_ble_eq_true rfl) rfl ?_
      refine ts_iload_n 0 (pc' := 36) rfl dX12_marries_35 rfl rfl ?_
      refine ts_iconst (v := 1) (pc' := 37) rfl dX12_marries_36 (by decide) ?_
      refine ts_iadd (pc' := 38) rfl dX12_marries_37 ?_
      refine ts_istore_n (pc' := 39) (ls' := [(3, .int (l1 + 1)), (2, .int l1), (0, .ref l0), (1, .int l1)]) rfl dX12_marries_38 rfl (Nat.le_of_ble_eq_true rfl) rfl ?_
      exact ts_sub [2, 3, 1, 0] rfl W
set_option maxHeartbeats 4000000 in
theorem wX12_marries_39 {d : Nat} {g : ts_G} {Q : Int32 → ts_I → ts_K → Prop} {l0 : Nat} {l1 : Int32} {l2 : Int32} {l3 : Int32} {hi : ts_I} {hk : ts_K} (W : (g.2.1 l0 = 11) ∧ (g.2.2.2 l0 13 ≠ 0) ∧ (g.2.1 (g.2.2.2 l0 13) = 100) ∧ (vp_in 2 (g.2.2.1 (g.2.2.2 l0 13))) ∧ (((hi (g.2.2.2 l0 13) (2 : Int32).toNatClampNeg) ≤ l3) → ts_J0 (d + 1) mX12_marries (ts_qi Q) g 9 [(0, .ref l0), (1, .int (l1 + (-1)))] [] hi hk) ∧ (¬ ((hi (g.2.2.2 l0 13) (2 : Int32).toNatClampNeg) ≤ l3) → ((l2 < l1) → ts_J0 (d + 1) mX12_marries (ts_qi Q) g 9 [(0, .ref l0), (1, .int (l1 + (-1)))] [] hi hk) ∧ (¬ (l2 < l1) → ts_E0 d mX12_isFree [.ref l0, .int l3, .int l1] g hi hk (ts_qi (fun v9 hi7 hk8 => ((v9 = 0) → ts_J0 (d + 1) mX12_marries (ts_qi Q) g 39 [(0, .ref l0), (1, .int l1), (2, .int l2), (3, .int (l3 + 1))] [] hi7 hk8) ∧ (¬ (v9 = 0) → ts_J0 (d + 1) mX12_marries (ts_qi Q) g 66 [(0, .ref l0), (1, .int l1), (3, .int l3), (4, .int l1)] [] hi7 hk8)))))) : ts_J0 (d + 1) mX12_marries (ts_qi Q) g 39 [(0, .ref l0), (1, .int l1), (2, .int l2), (3, .int l3)] [] hi hk := by
  refine ts_iload_n 3 (pc' := 40) rfl dX12_marries_39 rfl rfl ?_
  refine ts_aload_n 0 (pc' := 41) rfl dX12_marries_40 rfl rfl ?_
  obtain ⟨c1, W⟩ := W
  obtain ⟨c2, W⟩ := W
  refine ts_getR (pc' := 44) (ci := 11) 13 cfX12.1 cfX12.2.1 cfX12.2.2 rfl (by decide) hnX12_marries_X12 flX12_marries_25 rfl dX12_marries_41 c1 c2 ?_
  refine ts_iconst (v := 2) (pc' := 45) rfl dX12_marries_44 (by decide) ?_
  obtain ⟨c3, W⟩ := W
  obtain ⟨c4, W⟩ := W
  refine ts_iaload (pc' := 46) rfl dX12_marries_45 c3 c4 ?_
  refine ts_icmp_ge (pc' := 49) (tgt := 141) rfl dX12_marries_46 (by decide) (fun q5 => ?_) (fun q5 => ?_)
  · replace W := W.1 q5
    refine ts_iinc 1 (pc' := 144) (ls' := [(1, .int (l1 + (-1))), (0, .ref l0), (2, .int l2), (3, .int l3)]) rfl dX12_marries_141 rfl rfl (Nat.le_of_ble_eq_true rfl) rfl ?_
    refine ts_goto (tgt := 9) dX12_marries_144 (by decide) ?_
    exact ts_sub [1, 0] rfl W
  · replace W := W.2 q5
    refine ts_iload_n 2 (pc' := 50) rfl dX12_marries_49 rfl rfl ?_
    refine ts_iload_n 1 (pc' := 51) rfl dX12_marries_50 rfl rfl ?_
    refine ts_icmp_lt (pc' := 54) (tgt := 141) rfl dX12_marries_51 (by decide) (fun q6 => ?_) (fun q6 => ?_)
    · replace W := W.1 q6
      refine ts_iinc 1 (pc' := 144) (ls' := [(1, .int (l1 + (-1))), (0, .ref l0), (2, .int l2), (3, .int l3)]) rfl dX12_marries_141 rfl rfl (Nat.le_of_ble_eq_true rfl) rfl ?_
      refine ts_goto (tgt := 9) dX12_marries_144 (by decide) ?_
      exact ts_sub [1, 0] rfl W
    · replace W := W.2 q6
      refine ts_aload_n 0 (pc' := 55) rfl dX12_marries_54 rfl rfl ?_
      refine ts_iload_n 3 (pc' := 56) rfl dX12_marries_55 rfl rfl ?_
      refine ts_iload_n 1 (pc' := 57) rfl dX12_marries_56 rfl rfl ?_
      refine ts_callV (M' := mX12_isFree) (C := RX12) (pc' := 60) (av := [.int l3, .int l1]) (b := l0) rfl dX12_marries_57 rfl gX12_marries_X12_isFree rfl dvX12_isFree rfl (ci := 11) cfX12.1 (by decide) c1 (Nat.le_refl _) (Nat.le_of_ble_eq_true rfl) (Nat.le_of_ble_eq_true rfl) (Nat.le_refl _) (Nat.le_refl _) ts_kv0 W (ts_kki fun v9 hi7 hk8 W => ?_)
      refine ts_if_eq (pc' := 63) (tgt := 135) rfl dX12_marries_60 (by decide) (fun q10 => ?_) (fun q10 => ?_)
      · replace W := W.1 q10
        refine ts_iinc 3 (pc' := 138) (ls' := [(3, .int (l3 + 1)), (0, .ref l0), (1, .int l1), (2, .int l2)]) rfl dX12_marries_135 rfl rfl (Nat.le_of_ble_eq_true rfl) rfl ?_
        refine ts_goto (tgt := 39) dX12_marries_138 (by decide) ?_
        exact ts_sub [1, 2, 3, 0] rfl W
      · replace W := W.2 q10
        refine ts_iload_n 1 (pc' := 64) rfl dX12_marries_63 rfl rfl ?_
        refine ts_istore (pc' := 66) (ls' := [(4, .int l1), (0, .ref l0), (1, .int l1), (2, .int l2), (3, .int l3)]) rfl dX12_marries_64 (Nat.le_of_ble_eq_true rfl) rfl ?_
        exact ts_sub [1, 2, 4, 0] rfl W
set_option maxHeartbeats 4000000 in
theorem wX12_marries_66 {d : Nat} {g : ts_G} {Q : Int32 → ts_I → ts_K → Prop} {l0 : Nat} {l1 : Int32} {l3 : Int32} {l4 : Int32} {hi : ts_I} {hk : ts_K} (W : (g.2.1 l0 = 11) ∧ (g.2.2.2 l0 13 ≠ 0) ∧ (g.2.1 (g.2.2.2 l0 13) = 100) ∧ (vp_in 2 (g.2.2.1 (g.2.2.2 l0 13))) ∧ (((hi (g.2.2.2 l0 13) (2 : Int32).toNatClampNeg) ≤ l4) → (g.2.2.2 l0 21 ≠ 0) ∧ (g.2.1 (g.2.2.2 l0 21) = 100) ∧ (vp_in l1 (g.2.2.1 (g.2.2.2 l0 21))) ∧ ∀ hi9 : ts_I, hi9 = ts_up hi (g.2.2.2 l0 21) l1.toNatClampNeg l3 → (vp_in l3 (g.2.2.1 (g.2.2.2 l0 21))) ∧ ∀ hi11 : ts_I, hi11 = ts_up hi9 (g.2.2.2 l0 21) l3.toNatClampNeg l1 → Q 1 hi11 hk) ∧ (¬ ((hi (g.2.2.2 l0 13) (2 : Int32).toNatClampNeg) ≤ l4) → (g.2.2.2 l0 21 ≠ 0) ∧ (g.2.1 (g.2.2.2 l0 21) = 100) ∧ (vp_in l4 (g.2.2.1 (g.2.2.2 l0 21))) ∧ ts_E0 d mX12_in [.int (hi (g.2.2.2 l0 21) l4.toNatClampNeg), .int 0, .int (l1 - 1)] g hi hk (ts_qi (fun v17 hi15 hk16 => ((v17 = 0) → ∀ hi19 : ts_I, hi19 = ts_up hi15 (g.2.2.2 l0 21) l4.toNatClampNeg (-1000000) → ts_J0 (d + 1) mX12_marries (ts_qi Q) g 66 [(0, .ref l0), (1, .int l1), (3, .int l3), (4, .int (l4 + 1))] [] hi19 hk16) ∧ (¬ (v17 = 0) → ∀ hi20 : ts_I, hi20 = ts_up hi15 (g.2.2.2 l0 21) l4.toNatClampNeg (hi15 (g.2.2.2 l0 21) l4.toNatClampNeg) → ts_J0 (d + 1) mX12_marries (ts_qi Q) g 66 [(0, .ref l0), (1, .int l1), (3, .int l3), (4, .int (l4 + 1))] [] hi20 hk16))))) : ts_J0 (d + 1) mX12_marries (ts_qi Q) g 66 [(0, .ref l0), (1, .int l1), (3, .int l3), (4, .int l4)] [] hi hk := by
  refine ts_iload 3 (pc' := 68) rfl dX12_marries_66 rfl ?_
  refine ts_aload_n 0 (pc' := 69) rfl dX12_marries_68 rfl rfl ?_
  obtain ⟨c1, W⟩ := W
  obtain ⟨c2, W⟩ := W
  refine ts_getR (pc' := 72) (ci := 11) 13 cfX12.1 cfX12.2.1 cfX12.2.2 rfl (by decide) hnX12_marries_X12 flX12_marries_25 rfl dX12_marries_69 c1 c2 ?_
  refine ts_iconst (v := 2) (pc' := 73) rfl dX12_marries_72 (by decide) ?_
  obtain ⟨c3, W⟩ := W
  obtain ⟨c4, W⟩ := W
  refine ts_iaload (pc' := 74) rfl dX12_marries_73 c3 c4 ?_
  refine ts_icmp_ge (pc' := 77) (tgt := 119) rfl dX12_marries_74 (by decide) (fun q5 => ?_) (fun q5 => ?_)
  · replace W := W.1 q5
    refine ts_aload_n 0 (pc' := 120) rfl dX12_marries_119 rfl rfl ?_
    obtain ⟨c6, W⟩ := W
    refine ts_getR (pc' := 123) (ci := 11) 21 cfX12.1 cfX12.2.1 cfX12.2.2 rfl (by decide) hnX12_marries_X12 flX12_marries_47 rfl dX12_marries_120 c1 c6 ?_
    refine ts_iload_n 1 (pc' := 124) rfl dX12_marries_123 rfl rfl ?_
    refine ts_iload_n 2 (pc' := 125) rfl dX12_marries_124 rfl rfl ?_
    obtain ⟨c7, W⟩ := W
    obtain ⟨c8, W⟩ := W
    refine ts_iastore (pc' := 126) rfl dX12_marries_125 c7 c8 ?_
    obtain ⟨hi9, ehi9⟩ : ∃ z, z = ts_up hi (g.2.2.2 l0 21) l1.toNatClampNeg l3 := ⟨_, rfl⟩
    rw [← ehi9]; replace W := W hi9 ehi9
    refine ts_aload_n 0 (pc' := 127) rfl dX12_marries_126 rfl rfl ?_
    refine ts_getR (pc' := 130) (ci := 11) 21 cfX12.1 cfX12.2.1 cfX12.2.2 rfl (by decide) hnX12_marries_X12 flX12_marries_47 rfl dX12_marries_127 c1 c6 ?_
    refine ts_iload_n 2 (pc' := 131) rfl dX12_marries_130 rfl rfl ?_
    refine ts_iload_n 1 (pc' := 132) rfl dX12_marries_131 rfl rfl ?_
    obtain ⟨c10, W⟩ := W
    refine ts_iastore (pc' := 133) rfl dX12_marries_132 c7 c10 ?_
    obtain ⟨hi11, ehi11⟩ : ∃ z, z = ts_up hi9 (g.2.2.2 l0 21) l3.toNatClampNeg l1 := ⟨_, rfl⟩
    rw [← ehi11]; replace W := W hi11 ehi11
    refine ts_iconst (v := 1) (pc' := 134) rfl dX12_marries_133 (by decide) ?_
    exact ts_zret dX12_marries_134 rfl (by decide) (Nat.le_refl _) (Nat.le_refl _) ⟨rfl, _, rfl, W⟩
  · replace W := W.2 q5
    refine ts_aload_n 0 (pc' := 78) rfl dX12_marries_77 rfl rfl ?_
    obtain ⟨c12, W⟩ := W
    refine ts_getR (pc' := 81) (ci := 11) 21 cfX12.1 cfX12.2.1 cfX12.2.2 rfl (by decide) hnX12_marries_X12 flX12_marries_47 rfl dX12_marries_78 c1 c12 ?_
    refine ts_iload 3 (pc' := 83) rfl dX12_marries_81 rfl ?_
    refine ts_aload_n 0 (pc' := 84) rfl dX12_marries_83 rfl rfl ?_
    refine ts_getR (pc' := 87) (ci := 11) 21 cfX12.1 cfX12.2.1 cfX12.2.2 rfl (by decide) hnX12_marries_X12 flX12_marries_47 rfl dX12_marries_84 c1 c12 ?_
    refine ts_iload 3 (pc' := 89) rfl dX12_marries_87 rfl ?_
    obtain ⟨c13, W⟩ := W
    obtain ⟨c14, W⟩ := W
    refine ts_iaload (pc' := 90) rfl dX12_marries_89 c13 c14 ?_
    refine ts_iconst (v := 0) (pc' := 91) rfl dX12_marries_90 (by decide) ?_
    refine ts_iload_n 1 (pc' := 92) rfl dX12_marries_91 rfl rfl ?_
    refine ts_iconst (v := 1) (pc' := 93) rfl dX12_marries_92 (by decide) ?_
    refine ts_isub (pc' := 94) rfl dX12_marries_93 ?_
    refine ts_callS (M' := mX12_in) (pc' := 97) (av := [.int (hi (g.2.2.2 l0 21) l4.toNatClampNeg), .int 0, .int (l1 - 1)]) rfl dX12_marries_94 rfl gX12_marries_X12_in rfl dsX12_in rfl (Nat.le_refl _) (Nat.le_of_ble_eq_true rfl) (Nat.le_of_ble_eq_true rfl) (Nat.le_refl _) (Nat.le_refl _) ts_kv0 W (ts_kki fun v17 hi15 hk16 W => ?_)
    refine ts_if_eq (pc' := 100) (tgt := 110) rfl dX12_marries_97 (by decide) (fun q18 => ?_) (fun q18 => ?_)
    · replace W := W.1 q18
      refine ts_ldc (v := (-1000000)) (pc' := 112) rfl dX12_marries_110 (by decide +kernel) ?_
      refine ts_iastore (pc' := 113) rfl dX12_marries_112 c13 c14 ?_
      obtain ⟨hi19, ehi19⟩ : ∃ z, z = ts_up hi15 (g.2.2.2 l0 21) l4.toNatClampNeg (-1000000) := ⟨_, rfl⟩
      rw [← ehi19]; replace W := W hi19 ehi19
      refine ts_iinc 3 (pc' := 116) (ls' := [(4, .int (l4 + 1)), (0, .ref l0), (1, .int l1), (3, .int l3)]) rfl dX12_marries_113 rfl rfl (Nat.le_of_ble_eq_true rfl) rfl ?_
      refine ts_goto (tgt := 66) dX12_marries_116 (by decide) ?_
      exact ts_sub [1, 2, 3, 0] rfl W
    · replace W := W.2 q18
      refine ts_aload_n 0 (pc' := 101) rfl dX12_marries_100 rfl rfl ?_
      refine ts_getR (pc' := 104) (ci := 11) 21 cfX12.1 cfX12.2.1 cfX12.2.2 rfl (by decide) hnX12_marries_X12 flX12_marries_47 rfl dX12_marries_101 c1 c12 ?_
      refine ts_iload 3 (pc' := 106) rfl dX12_marries_104 rfl ?_
      refine ts_iaload (pc' := 107) rfl dX12_marries_106 c13 c14 ?_
      refine ts_goto (tgt := 112) dX12_marries_107 (by decide) ?_
      refine ts_iastore (pc' := 113) rfl dX12_marries_112 c13 c14 ?_
      obtain ⟨hi20, ehi20⟩ : ∃ z, z = ts_up hi15 (g.2.2.2 l0 21) l4.toNatClampNeg (hi15 (g.2.2.2 l0 21) l4.toNatClampNeg) := ⟨_, rfl⟩
      rw [← ehi20]; replace W := W hi20 ehi20
      refine ts_iinc 3 (pc' := 116) (ls' := [(4, .int (l4 + 1)), (0, .ref l0), (1, .int l1), (3, .int l3)]) rfl dX12_marries_113 rfl rfl (Nat.le_of_ble_eq_true rfl) rfl ?_
      refine ts_goto (tgt := 66) dX12_marries_116 (by decide) ?_
      exact ts_sub [1, 2, 3, 0] rfl W
theorem hnX12_pairs_X12 : ∀ w ∈ u_ws RX12 TX12 25, w ∈ wsX12_pairs := by decide +kernel
theorem flX12_pairs_25 : Cond.fieldLink RX12 25 "TurnipSquiresModel" "now" "[I" ∈ wsX12_pairs := by decide +kernel
theorem flX12_pairs_31 : Cond.fieldLink RX12 31 "TurnipSquiresModel" "tried" "[I" ∈ wsX12_pairs := by decide +kernel
theorem flX12_pairs_47 : Cond.fieldLink RX12 47 "TurnipSquiresModel" "line" "[I" ∈ wsX12_pairs := by decide +kernel
theorem flX12_pairs_50 : Cond.fieldLink RX12 50 "TurnipSquiresModel" "best" "[I" ∈ wsX12_pairs := by decide +kernel
set_option maxHeartbeats 4000000 in
theorem wX12_pairs_0 {d : Nat} {g : ts_G} {Q : Int32 → ts_I → ts_K → Prop} {o : Nat} {p0 : Int32} {p1 : Int32} {hi : ts_I} {hk : ts_K} (W : (g.2.1 o = 11) ∧ ts_E0 d mX12_isField [.ref o] g hi hk (ts_qi (fun v3 hi1 hk2 => ((v3 ≠ 0) → ts_E0 d mX12_in [.int p0, .int 1, .int 20] g hi1 hk2 (ts_qi (fun v8 hi6 hk7 => ((v8 = 0) → Q (-1000001) hi6 hk7) ∧ (¬ (v8 = 0) → ((p1 = (-1)) → ts_J0 (d + 1) mX12_pairs (ts_qi Q) g 38 [(0, .ref o), (1, .int p0), (2, .int p1), (3, .int 0)] [] hi6 hk7) ∧ (¬ (p1 = (-1)) → ts_E0 d mX12_isTurnip [.ref o, .int p1] g hi6 hk7 (ts_qi (fun v13 hi11 hk12 => ((v13 ≠ 0) → ts_J0 (d + 1) mX12_pairs (ts_qi Q) g 38 [(0, .ref o), (1, .int p0), (2, .int p1), (3, .int 0)] [] hi11 hk12) ∧ (¬ (v13 ≠ 0) → Q (-1000001) hi11 hk12)))))))) ∧ (¬ (v3 ≠ 0) → Q (-1000002) hi1 hk2)))) : ts_J0 (d + 1) mX12_pairs (ts_qi Q) g 0 [(0, .ref o), (1, .int p0), (2, .int p1)] [] hi hk := by
  refine ts_aload_n 0 (pc' := 1) rfl dX12_pairs_0 rfl rfl ?_
  obtain ⟨c4, W⟩ := W
  refine ts_callV (M' := mX12_isField) (C := RX12) (pc' := 4) (av := []) (b := o) rfl dX12_pairs_1 rfl gX12_pairs_X12_isField rfl dvX12_isField rfl (ci := 11) cfX12.1 (by decide) c4 (Nat.le_refl _) (Nat.le_of_ble_eq_true rfl) (Nat.le_of_ble_eq_true rfl) (Nat.le_refl _) (Nat.le_refl _) ts_kv0 W (ts_kki fun v3 hi1 hk2 W => ?_)
  refine ts_if_ne (pc' := 7) (tgt := 10) rfl dX12_pairs_4 (by decide) (fun q5 => ?_) (fun q5 => ?_)
  · replace W := W.1 q5
    refine ts_iload_n 1 (pc' := 11) rfl dX12_pairs_10 rfl rfl ?_
    refine ts_iconst (v := 1) (pc' := 12) rfl dX12_pairs_11 (by decide) ?_
    refine ts_bipush (v := 20) (pc' := 14) rfl dX12_pairs_12 (by decide) ?_
    refine ts_callS (M' := mX12_in) (pc' := 17) (av := [.int p0, .int 1, .int 20]) rfl dX12_pairs_14 rfl gX12_pairs_X12_in rfl dsX12_in rfl (Nat.le_refl _) (Nat.le_of_ble_eq_true rfl) (Nat.le_of_ble_eq_true rfl) (Nat.le_refl _) (Nat.le_refl _) ts_kv0 W (ts_kki fun v8 hi6 hk7 W => ?_)
    refine ts_if_eq (pc' := 20) (tgt := 33) rfl dX12_pairs_17 (by decide) (fun q9 => ?_) (fun q9 => ?_)
    · replace W := W.1 q9
      refine ts_ldc (v := (-1000001)) (pc' := 35) rfl dX12_pairs_33 (by decide +kernel) ?_
      exact ts_iret dX12_pairs_35 rfl (Nat.le_refl _) (Nat.le_refl _) ⟨rfl, _, rfl, W⟩
    · replace W := W.2 q9
      refine ts_iload_n 2 (pc' := 21) rfl dX12_pairs_20 rfl rfl ?_
      refine ts_iconst (v := (-1)) (pc' := 22) rfl dX12_pairs_21 (by decide) ?_
      refine ts_icmp_eq (pc' := 25) (tgt := 36) rfl dX12_pairs_22 (by decide) (fun q10 => ?_) (fun q10 => ?_)
      · replace W := W.1 q10
        refine ts_iconst (v := 0) (pc' := 37) rfl dX12_pairs_36 (by decide) ?_
        refine ts_istore_n (pc' := 38) (ls' := [(3, .int 0), (0, .ref o), (1, .int p0), (2, .int p1)]) rfl dX12_pairs_37 rfl (Nat.le_of_ble_eq_true rfl) rfl ?_
        exact ts_sub [1, 2, 3, 0] rfl W
      · replace W := W.2 q10
        refine ts_aload_n 0 (pc' := 26) rfl dX12_pairs_25 rfl rfl ?_
        refine ts_iload_n 2 (pc' := 27) rfl dX12_pairs_26 rfl rfl ?_
        refine ts_callV (M' := mX12_isTurnip) (C := RX12) (pc' := 30) (av := [.int p1]) (b := o) rfl dX12_pairs_27 rfl gX12_pairs_X12_isTurnip rfl dvX12_isTurnip rfl (ci := 11) cfX12.1 (by decide) c4 (Nat.le_refl _) (Nat.le_of_ble_eq_true rfl) (Nat.le_of_ble_eq_true rfl) (Nat.le_refl _) (Nat.le_refl _) ts_kv0 W (ts_kki fun v13 hi11 hk12 W => ?_)
        refine ts_if_ne (pc' := 33) (tgt := 36) rfl dX12_pairs_30 (by decide) (fun q14 => ?_) (fun q14 => ?_)
        · replace W := W.1 q14
          refine ts_iconst (v := 0) (pc' := 37) rfl dX12_pairs_36 (by decide) ?_
          refine ts_istore_n (pc' := 38) (ls' := [(3, .int 0), (0, .ref o), (1, .int p0), (2, .int p1)]) rfl dX12_pairs_37 rfl (Nat.le_of_ble_eq_true rfl) rfl ?_
          exact ts_sub [1, 2, 3, 0] rfl W
        · replace W := W.2 q14
          refine ts_ldc (v := (-1000001)) (pc' := 35) rfl dX12_pairs_33 (by decide +kernel) ?_
          exact ts_iret dX12_pairs_35 rfl (Nat.le_refl _) (Nat.le_refl _) ⟨rfl, _, rfl, W⟩
  · replace W := W.2 q5
    refine ts_ldc (v := (-1000002)) (pc' := 9) rfl dX12_pairs_7 (by decide +kernel) ?_
    exact ts_iret dX12_pairs_9 rfl (Nat.le_refl _) (Nat.le_refl _) ⟨rfl, _, rfl, W⟩
set_option maxHeartbeats 4000000 in
theorem wX12_pairs_38 {d : Nat} {g : ts_G} {Q : Int32 → ts_I → ts_K → Prop} {l0 : Nat} {l1 : Int32} {l2 : Int32} {l3 : Int32} {hi : ts_I} {hk : ts_K} (W : ((7 ≤ l3) → ts_J0 (d + 1) mX12_pairs (ts_qi Q) g 63 [(0, .ref l0), (1, .int l1), (2, .int l2), (3, .int (-1)), (4, .int 1)] [] hi hk) ∧ (¬ (7 ≤ l3) → (g.2.1 l0 = 11) ∧ (g.2.2.2 l0 21 ≠ 0) ∧ (g.2.1 (g.2.2.2 l0 21) = 100) ∧ (vp_in l3 (g.2.2.1 (g.2.2.2 l0 21))) ∧ ∀ hi6 : ts_I, hi6 = ts_up hi (g.2.2.2 l0 21) l3.toNatClampNeg (-1000000) → ts_J0 (d + 1) mX12_pairs (ts_qi Q) g 38 [(0, .ref l0), (1, .int l1), (2, .int l2), (3, .int (l3 + 1))] [] hi6 hk)) : ts_J0 (d + 1) mX12_pairs (ts_qi Q) g 38 [(0, .ref l0), (1, .int l1), (2, .int l2), (3, .int l3)] [] hi hk := by
  refine ts_iload_n 3 (pc' := 39) rfl dX12_pairs_38 rfl rfl ?_
  refine ts_bipush (v := 7) (pc' := 41) rfl dX12_pairs_39 (by decide) ?_
  refine ts_icmp_ge (pc' := 44) (tgt := 58) rfl dX12_pairs_41 (by decide) (fun q1 => ?_) (fun q1 => ?_)
  · replace W := W.1 q1
    refine ts_iconst (v := (-1)) (pc' := 59) rfl dX12_pairs_58 (by decide) ?_
    refine ts_istore_n (pc' := 60) (ls' := [(3, .int (-1)), (0, .ref l0), (1, .int l1), (2, .int l2)]) rfl dX12_pairs_59 rfl (Nat.le_of_ble_eq_true rfl) rfl ?_
    refine ts_iconst (v := 1) (pc' := 61) rfl dX12_pairs_60 (by decide) ?_
    refine ts_istore (pc' := 63) (ls' := [(4, .int 1), (3, .int (-1)), (0, .ref l0), (1, .int l1), (2, .int l2)]) rfl dX12_pairs_61 (Nat.le_of_ble_eq_true rfl) rfl ?_
    exact ts_sub [2, 3, 4, 1, 0] rfl W
  · replace W := W.2 q1
    refine ts_aload_n 0 (pc' := 45) rfl dX12_pairs_44 rfl rfl ?_
    obtain ⟨c2, W⟩ := W
    obtain ⟨c3, W⟩ := W
    refine ts_getR (pc' := 48) (ci := 11) 21 cfX12.1 cfX12.2.1 cfX12.2.2 rfl (by decide) hnX12_pairs_X12 flX12_pairs_47 rfl dX12_pairs_45 c2 c3 ?_
    refine ts_iload_n 3 (pc' := 49) rfl dX12_pairs_48 rfl rfl ?_
    refine ts_ldc (v := (-1000000)) (pc' := 51) rfl dX12_pairs_49 (by decide +kernel) ?_
    obtain ⟨c4, W⟩ := W
    obtain ⟨c5, W⟩ := W
    refine ts_iastore (pc' := 52) rfl dX12_pairs_51 c4 c5 ?_
    obtain ⟨hi6, ehi6⟩ : ∃ z, z = ts_up hi (g.2.2.2 l0 21) l3.toNatClampNeg (-1000000) := ⟨_, rfl⟩
    rw [← ehi6]; replace W := W hi6 ehi6
    refine ts_iinc 3 (pc' := 55) (ls' := [(3, .int (l3 + 1)), (0, .ref l0), (1, .int l1), (2, .int l2)]) rfl dX12_pairs_52 rfl rfl (Nat.le_of_ble_eq_true rfl) rfl ?_
    refine ts_goto (tgt := 38) dX12_pairs_55 (by decide) ?_
    exact ts_sub [1, 2, 3, 0] rfl W
set_option maxHeartbeats 4000000 in
theorem wX12_pairs_63 {d : Nat} {g : ts_G} {Q : Int32 → ts_I → ts_K → Prop} {l0 : Nat} {l1 : Int32} {l2 : Int32} {l3 : Int32} {l4 : Int32} {hi : ts_I} {hk : ts_K} (W : ((l4 = 0) → ((l2 ≠ (-1)) → (g.2.1 l0 = 11) ∧ (g.2.2.2 l0 22 ≠ 0) ∧ (g.2.1 (g.2.2.2 l0 22) = 100) ∧ (vp_in l2 (g.2.2.1 (g.2.2.2 l0 22))) ∧ Q (hi (g.2.2.2 l0 22) l2.toNatClampNeg) hi hk) ∧ (¬ (l2 ≠ (-1)) → Q l3 hi hk)) ∧ (¬ (l4 = 0) → (g.2.1 l0 = 11) ∧ (g.2.2.2 l0 13 ≠ 0) ∧ (g.2.2.2 l0 15 ≠ 0) ∧ ts_E0 d mX12_copies [.ref (g.2.2.2 l0 13), .int 0, .ref (g.2.2.2 l0 15), .int 0] g hi hk (ts_qv (fun hi10 hk11 => ts_J0 (d + 1) mX12_pairs (ts_qi Q) g 84 [(0, .ref l0), (1, .int l1), (2, .int l2), (3, .int l3), (5, .int 0)] [] hi10 hk11)))) : ts_J0 (d + 1) mX12_pairs (ts_qi Q) g 63 [(0, .ref l0), (1, .int l1), (2, .int l2), (3, .int l3), (4, .int l4)] [] hi hk := by
  refine ts_iload 4 (pc' := 65) rfl dX12_pairs_63 rfl ?_
  refine ts_if_eq (pc' := 68) (tgt := 195) rfl dX12_pairs_65 (by decide) (fun q1 => ?_) (fun q1 => ?_)
  · replace W := W.1 q1
    refine ts_iload_n 2 (pc' := 196) rfl dX12_pairs_195 rfl rfl ?_
    refine ts_iconst (v := (-1)) (pc' := 197) rfl dX12_pairs_196 (by decide) ?_
    refine ts_icmp_ne (pc' := 200) (tgt := 204) rfl dX12_pairs_197 (by decide) (fun q2 => ?_) (fun q2 => ?_)
    · replace W := W.1 q2
      refine ts_aload_n 0 (pc' := 205) rfl dX12_pairs_204 rfl rfl ?_
      obtain ⟨c3, W⟩ := W
      obtain ⟨c4, W⟩ := W
      refine ts_getR (pc' := 208) (ci := 11) 22 cfX12.1 cfX12.2.1 cfX12.2.2 rfl (by decide) hnX12_pairs_X12 flX12_pairs_50 rfl dX12_pairs_205 c3 c4 ?_
      refine ts_iload_n 2 (pc' := 209) rfl dX12_pairs_208 rfl rfl ?_
      obtain ⟨c5, W⟩ := W
      obtain ⟨c6, W⟩ := W
      refine ts_iaload (pc' := 210) rfl dX12_pairs_209 c5 c6 ?_
      exact ts_iret dX12_pairs_210 rfl (Nat.le_refl _) (Nat.le_refl _) ⟨rfl, _, rfl, W⟩
    · replace W := W.2 q2
      refine ts_iload_n 3 (pc' := 201) rfl dX12_pairs_200 rfl rfl ?_
      refine ts_goto (tgt := 210) dX12_pairs_201 (by decide) ?_
      exact ts_iret dX12_pairs_210 rfl (Nat.le_refl _) (Nat.le_refl _) ⟨rfl, _, rfl, W⟩
  · replace W := W.2 q1
    refine ts_aload_n 0 (pc' := 69) rfl dX12_pairs_68 rfl rfl ?_
    obtain ⟨c7, W⟩ := W
    obtain ⟨c8, W⟩ := W
    refine ts_getR (pc' := 72) (ci := 11) 13 cfX12.1 cfX12.2.1 cfX12.2.2 rfl (by decide) hnX12_pairs_X12 flX12_pairs_25 rfl dX12_pairs_69 c7 c8 ?_
    refine ts_iconst (v := 0) (pc' := 73) rfl dX12_pairs_72 (by decide) ?_
    refine ts_aload_n 0 (pc' := 74) rfl dX12_pairs_73 rfl rfl ?_
    obtain ⟨c9, W⟩ := W
    refine ts_getR (pc' := 77) (ci := 11) 15 cfX12.1 cfX12.2.1 cfX12.2.2 rfl (by decide) hnX12_pairs_X12 flX12_pairs_31 rfl dX12_pairs_74 c7 c9 ?_
    refine ts_iconst (v := 0) (pc' := 78) rfl dX12_pairs_77 (by decide) ?_
    refine ts_callS (M' := mX12_copies) (pc' := 81) (av := [.ref (g.2.2.2 l0 13), .int 0, .ref (g.2.2.2 l0 15), .int 0]) rfl dX12_pairs_78 rfl gX12_pairs_X12_copies rfl dsX12_copies rfl (Nat.le_refl _) (Nat.le_of_ble_eq_true rfl) (Nat.le_of_ble_eq_true rfl) (Nat.le_refl _) (Nat.le_refl _) ts_kv0 W (ts_kkv fun hi10 hk11 W => ?_)
    refine ts_iconst (v := 0) (pc' := 82) rfl dX12_pairs_81 (by decide) ?_
    refine ts_istore (pc' := 84) (ls' := [(5, .int 0), (0, .ref l0), (1, .int l1), (2, .int l2), (3, .int l3), (4, .int l4)]) rfl dX12_pairs_82 (Nat.le_of_ble_eq_true rfl) rfl ?_
    exact ts_sub [1, 2, 3, 4, 0] rfl W
set_option maxHeartbeats 4000000 in
theorem wX12_pairs_84 {d : Nat} {g : ts_G} {Q : Int32 → ts_I → ts_K → Prop} {l0 : Nat} {l1 : Int32} {l2 : Int32} {l3 : Int32} {l5 : Int32} {hi : ts_I} {hk : ts_K} (W : (g.2.1 l0 = 11) ∧ (g.2.2.2 l0 13 ≠ 0) ∧ (g.2.1 (g.2.2.2 l0 13) = 100) ∧ (vp_in 2 (g.2.2.1 (g.2.2.2 l0 13))) ∧ (((hi (g.2.2.2 l0 13) (2 : Int32).toNatClampNeg) ≤ l5) → ts_E0 d mX12_goesOn [.ref l0, .int l1] g hi hk (ts_qv (fun hi6 hk7 => (g.2.2.2 l0 15 ≠ 0) ∧ ts_E0 d mX12_sumOf [.ref (g.2.2.2 l0 15), .int 1] g hi6 hk7 (ts_qi (fun v11 hi9 hk10 => ts_J0 (d + 1) mX12_pairs (ts_qi Q) g 140 [(0, .ref l0), (1, .int l1), (2, .int l2), (3, .int l3), (5, .int v11), (6, .int 0)] [] hi9 hk10))))) ∧ (¬ ((hi (g.2.2.2 l0 13) (2 : Int32).toNatClampNeg) ≤ l5) → (g.2.2.2 l0 15 ≠ 0) ∧ (g.2.2.2 l0 21 ≠ 0) ∧ (g.2.1 (g.2.2.2 l0 21) = 100) ∧ (vp_in l5 (g.2.2.1 (g.2.2.2 l0 21))) ∧ (g.2.1 (g.2.2.2 l0 15) = 100) ∧ (vp_in ((4 + (6 * l5)) + 5) (g.2.2.1 (g.2.2.2 l0 15))) ∧ ∀ hi18 : ts_I, hi18 = ts_up hi (g.2.2.2 l0 15) ((4 + (6 * l5)) + 5).toNatClampNeg (hi (g.2.2.2 l0 21) l5.toNatClampNeg) → ts_J0 (d + 1) mX12_pairs (ts_qi Q) g 84 [(0, .ref l0), (1, .int l1), (2, .int l2), (3, .int l3), (5, .int (l5 + 1))] [] hi18 hk)) : ts_J0 (d + 1) mX12_pairs (ts_qi Q) g 84 [(0, .ref l0), (1, .int l1), (2, .int l2), (3, .int l3), (5, .int l5)] [] hi hk := by
  refine ts_iload 4 (pc' := 86) rfl dX12_pairs_84 rfl ?_
  refine ts_aload_n 0 (pc' := 87) rfl dX12_pairs_86 rfl rfl ?_
  obtain ⟨c1, W⟩ := W
  obtain ⟨c2, W⟩ := W
  refine ts_getR (pc' := 90) (ci := 11) 13 cfX12.1 cfX12.2.1 cfX12.2.2 rfl (by decide) hnX12_pairs_X12 flX12_pairs_25 rfl dX12_pairs_87 c1 c2 ?_
  refine ts_iconst (v := 2) (pc' := 91) rfl dX12_pairs_90 (by decide) ?_
  obtain ⟨c3, W⟩ := W
  obtain ⟨c4, W⟩ := W
  refine ts_iaload (pc' := 92) rfl dX12_pairs_91 c3 c4 ?_
  refine ts_icmp_ge (pc' := 95) (tgt := 122) rfl dX12_pairs_92 (by decide) (fun q5 => ?_) (fun q5 => ?_)
  · replace W := W.1 q5
    refine ts_aload_n 0 (pc' := 123) rfl dX12_pairs_122 rfl rfl ?_
    refine ts_iload_n 1 (pc' := 124) rfl dX12_pairs_123 rfl rfl ?_
    refine ts_callV (M' := mX12_goesOn) (C := RX12) (pc' := 127) (av := [.int l1]) (b := l0) rfl dX12_pairs_124 rfl gX12_pairs_X12_goesOn rfl dvX12_goesOn rfl (ci := 11) cfX12.1 (by decide) c1 (Nat.le_refl _) (Nat.le_of_ble_eq_true rfl) (Nat.le_of_ble_eq_true rfl) (Nat.le_refl _) (Nat.le_refl _) ts_kv0 W (ts_kkv fun hi6 hk7 W => ?_)
    refine ts_aload_n 0 (pc' := 128) rfl dX12_pairs_127 rfl rfl ?_
    obtain ⟨c8, W⟩ := W
    refine ts_getR (pc' := 131) (ci := 11) 15 cfX12.1 cfX12.2.1 cfX12.2.2 rfl (by decide) hnX12_pairs_X12 flX12_pairs_31 rfl dX12_pairs_128 c1 c8 ?_
    refine ts_iconst (v := 1) (pc' := 132) rfl dX12_pairs_131 (by decide) ?_
    refine ts_callS (M' := mX12_sumOf) (pc' := 135) (av := [.ref (g.2.2.2 l0 15), .int 1]) rfl dX12_pairs_132 rfl gX12_pairs_X12_sumOf rfl dsX12_sumOf rfl (Nat.le_refl _) (Nat.le_of_ble_eq_true rfl) (Nat.le_of_ble_eq_true rfl) (Nat.le_refl _) (Nat.le_refl _) ts_kv0 W (ts_kki fun v11 hi9 hk10 W => ?_)
    refine ts_istore (pc' := 137) (ls' := [(5, .int v11), (0, .ref l0), (1, .int l1), (2, .int l2), (3, .int l3)]) rfl dX12_pairs_135 (Nat.le_of_ble_eq_true rfl) rfl ?_
    refine ts_iconst (v := 0) (pc' := 138) rfl dX12_pairs_137 (by decide) ?_
    refine ts_istore (pc' := 140) (ls' := [(6, .int 0), (5, .int v11), (0, .ref l0), (1, .int l1), (2, .int l2), (3, .int l3)]) rfl dX12_pairs_138 (Nat.le_of_ble_eq_true rfl) rfl ?_
    exact ts_sub [2, 3, 4, 5, 1, 0] rfl W
  · replace W := W.2 q5
    refine ts_aload_n 0 (pc' := 96) rfl dX12_pairs_95 rfl rfl ?_
    obtain ⟨c12, W⟩ := W
    refine ts_getR (pc' := 99) (ci := 11) 15 cfX12.1 cfX12.2.1 cfX12.2.2 rfl (by decide) hnX12_pairs_X12 flX12_pairs_31 rfl dX12_pairs_96 c1 c12 ?_
    refine ts_iconst (v := 4) (pc' := 100) rfl dX12_pairs_99 (by decide) ?_
    refine ts_bipush (v := 6) (pc' := 102) rfl dX12_pairs_100 (by decide) ?_
    refine ts_iload 4 (pc' := 104) rfl dX12_pairs_102 rfl ?_
    refine ts_imul (pc' := 105) rfl dX12_pairs_104 ?_
    refine ts_iadd (pc' := 106) rfl dX12_pairs_105 ?_
    refine ts_iconst (v := 5) (pc' := 107) rfl dX12_pairs_106 (by decide) ?_
    refine ts_iadd (pc' := 108) rfl dX12_pairs_107 ?_
    refine ts_aload_n 0 (pc' := 109) rfl dX12_pairs_108 rfl rfl ?_
    obtain ⟨c13, W⟩ := W
    refine ts_getR (pc' := 112) (ci := 11) 21 cfX12.1 cfX12.2.1 cfX12.2.2 rfl (by decide) hnX12_pairs_X12 flX12_pairs_47 rfl dX12_pairs_109 c1 c13 ?_
    refine ts_iload 4 (pc' := 114) rfl dX12_pairs_112 rfl ?_
    obtain ⟨c14, W⟩ := W
    obtain ⟨c15, W⟩ := W
    refine ts_iaload (pc' := 115) rfl dX12_pairs_114 c14 c15 ?_
    obtain ⟨c16, W⟩ := W
    obtain ⟨c17, W⟩ := W
    refine ts_iastore (pc' := 116) rfl dX12_pairs_115 c16 c17 ?_
    obtain ⟨hi18, ehi18⟩ : ∃ z, z = ts_up hi (g.2.2.2 l0 15) ((4 + (6 * l5)) + 5).toNatClampNeg (hi (g.2.2.2 l0 21) l5.toNatClampNeg) := ⟨_, rfl⟩
    rw [← ehi18]; replace W := W hi18 ehi18
    refine ts_iinc 4 (pc' := 119) (ls' := [(5, .int (l5 + 1)), (0, .ref l0), (1, .int l1), (2, .int l2), (3, .int l3)]) rfl dX12_pairs_116 rfl rfl (Nat.le_of_ble_eq_true rfl) rfl ?_
    refine ts_goto (tgt := 84) dX12_pairs_119 (by decide) ?_
    exact ts_sub [1, 2, 3, 4, 0] rfl W
set_option maxHeartbeats 4000000 in
theorem wX12_pairs_140 {d : Nat} {g : ts_G} {Q : Int32 → ts_I → ts_K → Prop} {l0 : Nat} {l1 : Int32} {l2 : Int32} {l3 : Int32} {l5 : Int32} {l6 : Int32} {hi : ts_I} {hk : ts_K} (W : ((7 ≤ l6) → ((l5 ≤ l3) → (g.2.1 l0 = 11) ∧ ts_E0 d mX12_marries [.ref l0] g hi hk (ts_qi (fun v5 hi3 hk4 => ts_J0 (d + 1) mX12_pairs (ts_qi Q) g 63 [(0, .ref l0), (1, .int l1), (2, .int l2), (3, .int l3), (4, .int v5)] [] hi3 hk4))) ∧ (¬ (l5 ≤ l3) → (g.2.1 l0 = 11) ∧ ts_E0 d mX12_marries [.ref l0] g hi hk (ts_qi (fun v9 hi7 hk8 => ts_J0 (d + 1) mX12_pairs (ts_qi Q) g 63 [(0, .ref l0), (1, .int l1), (2, .int l2), (3, .int l5), (4, .int v9)] [] hi7 hk8)))) ∧ (¬ (7 ≤ l6) → ((l5 ≤ l3) → ((l5 ≤ l3) → (g.2.1 l0 = 11) ∧ ts_E0 d mX12_marries [.ref l0] g hi hk (ts_qi (fun v15 hi13 hk14 => ts_J0 (d + 1) mX12_pairs (ts_qi Q) g 63 [(0, .ref l0), (1, .int l1), (2, .int l2), (3, .int l3), (4, .int v15)] [] hi13 hk14))) ∧ (¬ (l5 ≤ l3) → (g.2.1 l0 = 11) ∧ ts_E0 d mX12_marries [.ref l0] g hi hk (ts_qi (fun v19 hi17 hk18 => ts_J0 (d + 1) mX12_pairs (ts_qi Q) g 63 [(0, .ref l0), (1, .int l1), (2, .int l2), (3, .int l5), (4, .int v19)] [] hi17 hk18)))) ∧ (¬ (l5 ≤ l3) → (g.2.1 l0 = 11) ∧ (g.2.2.2 l0 22 ≠ 0) ∧ (g.2.2.2 l0 21 ≠ 0) ∧ (g.2.1 (g.2.2.2 l0 21) = 100) ∧ (vp_in l6 (g.2.2.1 (g.2.2.2 l0 21))) ∧ (g.2.1 (g.2.2.2 l0 22) = 100) ∧ (vp_in l6 (g.2.2.1 (g.2.2.2 l0 22))) ∧ ∀ hi28 : ts_I, hi28 = ts_up hi (g.2.2.2 l0 22) l6.toNatClampNeg (hi (g.2.2.2 l0 21) l6.toNatClampNeg) → ts_J0 (d + 1) mX12_pairs (ts_qi Q) g 140 [(0, .ref l0), (1, .int l1), (2, .int l2), (3, .int l3), (5, .int l5), (6, .int (l6 + 1))] [] hi28 hk))) : ts_J0 (d + 1) mX12_pairs (ts_qi Q) g 140 [(0, .ref l0), (1, .int l1), (2, .int l2), (3, .int l3), (5, .int l5), (6, .int l6)] [] hi hk := by
  refine ts_iload 5 (pc' := 142) rfl dX12_pairs_140 rfl ?_
  refine ts_bipush (v := 7) (pc' := 144) rfl dX12_pairs_142 (by decide) ?_
  refine ts_icmp_ge (pc' := 147) (tgt := 173) rfl dX12_pairs_144 (by decide) (fun q1 => ?_) (fun q1 => ?_)
  · replace W := W.1 q1
    refine ts_iload 4 (pc' := 175) rfl dX12_pairs_173 rfl ?_
    refine ts_iload_n 3 (pc' := 176) rfl dX12_pairs_175 rfl rfl ?_
    refine ts_icmp_le (pc' := 179) (tgt := 184) rfl dX12_pairs_176 (by decide) (fun q2 => ?_) (fun q2 => ?_)
    · replace W := W.1 q2
      refine ts_iload_n 3 (pc' := 185) rfl dX12_pairs_184 rfl rfl ?_
      refine ts_istore_n (pc' := 186) (ls' := [(3, .int l3), (0, .ref l0), (1, .int l1), (2, .int l2), (5, .int l5), (6, .int l6)]) rfl dX12_pairs_185 rfl (Nat.le_of_ble_eq_true rfl) rfl ?_
      refine ts_aload_n 1 (pc' := 187) rfl dX12_pairs_186 rfl rfl ?_
      obtain ⟨c6, W⟩ := W
      refine ts_callV (M' := mX12_marries) (C := RX12) (pc' := 190) (av := []) (b := l0) rfl dX12_pairs_187 rfl gX12_pairs_X12_marries rfl dvX12_marries rfl (ci := 11) cfX12.1 (by decide) c6 (Nat.le_refl _) (Nat.le_of_ble_eq_true rfl) (Nat.le_of_ble_eq_true rfl) (Nat.le_refl _) (Nat.le_refl _) ts_kv0 W (ts_kki fun v5 hi3 hk4 W => ?_)
      refine ts_istore (pc' := 192) (ls' := [(4, .int v5), (3, .int l3), (0, .ref l0), (1, .int l1), (2, .int l2), (5, .int l5), (6, .int l6)]) rfl dX12_pairs_190 (Nat.le_of_ble_eq_true rfl) rfl ?_
      refine ts_goto (tgt := 63) dX12_pairs_192 (by decide) ?_
      exact ts_sub [2, 3, 4, 1, 0] rfl W
    · replace W := W.2 q2
      refine ts_iload 4 (pc' := 181) rfl dX12_pairs_179 rfl ?_
      refine ts_goto (tgt := 185) dX12_pairs_181 (by decide) ?_
      refine ts_istore_n (pc' := 186) (ls' := [(3, .int l5), (0, .ref l0), (1, .int l1), (2, .int l2), (5, .int l5), (6, .int l6)]) rfl dX12_pairs_185 rfl (Nat.le_of_ble_eq_true rfl) rfl ?_
      refine ts_aload_n 1 (pc' := 187) rfl dX12_pairs_186 rfl rfl ?_
      obtain ⟨c10, W⟩ := W
      refine ts_callV (M' := mX12_marries) (C := RX12) (pc' := 190) (av := []) (b := l0) rfl dX12_pairs_187 rfl gX12_pairs_X12_marries rfl dvX12_marries rfl (ci := 11) cfX12.1 (by decide) c10 (Nat.le_refl _) (Nat.le_of_ble_eq_true rfl) (Nat.le_of_ble_eq_true rfl) (Nat.le_refl _) (Nat.le_refl _) ts_kv0 W (ts_kki fun v9 hi7 hk8 W => ?_)
      refine ts_istore (pc' := 192) (ls' := [(4, .int v9), (3, .int l5), (0, .ref l0), (1, .int l1), (2, .int l2), (5, .int l5), (6, .int l6)]) rfl dX12_pairs_190 (Nat.le_of_ble_eq_true rfl) rfl ?_
      refine ts_goto (tgt := 63) dX12_pairs_192 (by decide) ?_
      exact ts_sub [2, 3, 4, 1, 0] rfl W
  · replace W := W.2 q1
    refine ts_iload 4 (pc' := 149) rfl dX12_pairs_147 rfl ?_
    refine ts_iload_n 3 (pc' := 150) rfl dX12_pairs_149 rfl rfl ?_
    refine ts_icmp_le (pc' := 153) (tgt := 173) rfl dX12_pairs_150 (by decide) (fun q11 => ?_) (fun q11 => ?_)
    · replace W := W.1 q11
      refine ts_iload 4 (pc' := 175) rfl dX12_pairs_173 rfl ?_
      refine ts_iload_n 3 (pc' := 176) rfl dX12_pairs_175 rfl rfl ?_
      refine ts_icmp_le (pc' := 179) (tgt := 184) rfl dX12_pairs_176 (by decide) (fun q12 => ?_) (fun q12 => ?_)
      · replace W := W.1 q12
        refine ts_iload_n 3 (pc' := 185) rfl dX12_pairs_184 rfl rfl ?_
        refine ts_istore_n (pc' := 186) (ls' := [(3, .int l3), (0, .ref l0), (1, .int l1), (2, .int l2), (5, .int l5), (6, .int l6)]) rfl dX12_pairs_185 rfl (Nat.le_of_ble_eq_true rfl) rfl ?_
        refine ts_aload_n 1 (pc' := 187) rfl dX12_pairs_186 rfl rfl ?_
        obtain ⟨c16, W⟩ := W
        refine ts_callV (M' := mX12_marries) (C := RX12) (pc' := 190) (av := []) (b := l0) rfl dX12_pairs_187 rfl gX12_pairs_X12_marries rfl dvX12_marries rfl (ci := 11) cfX12.1 (by decide) c16 (Nat.le_refl _) (Nat.le_of_ble_eq_true rfl) (Nat.le_of_ble_eq_true rfl) (Nat.le_refl _) (Nat.le_refl _) ts_kv0 W (ts_kki fun v15 hi13 hk14 W => ?_)
        refine ts_istore (pc' := 192) (ls' := [(4, .int v15), (3, .int l3), (0, .ref l0), (1, .int l1), (2, .int l2), (5, .int l5), (6, .int l6)]) rfl dX12_pairs_190 (Nat.le_of_ble_eq_true rfl) rfl ?_
        refine ts_goto (tgt := 63) dX12_pairs_192 (by decide) ?_
        exact ts_sub [2, 3, 4, 1, 0] rfl W
      · replace W := W.2 q12
        refine ts_iload 4 (pc' := 181) rfl dX12_pairs_179 rfl ?_
        refine ts_goto (tgt := 185) dX12_pairs_181 (by decide) ?_
        refine ts_istore_n (pc' := 186) (ls' := [(3, .int l5), (0, .ref l0), (1, .int l1), (2, .int l2), (5, .int l5), (6, .int l6)]) rfl dX12_pairs_185 rfl (Nat.le_of_ble_eq_true rfl) rfl ?_
        refine ts_aload_n 1 (pc' := 187) rfl dX12_pairs_186 rfl rfl ?_
        obtain ⟨c20, W⟩ := W
        refine ts_callV (M' := mX12_marries) (C := RX12) (pc' := 190) (av := []) (b := l0) rfl dX12_pairs_187 rfl gX12_pairs_X12_marries rfl dvX12_marries rfl (ci := 11) cfX12.1 (by decide) c20 (Nat.le_refl _) (Nat.le_of_ble_eq_true rfl) (Nat.le_of_ble_eq_true rfl) (Nat.le_refl _) (Nat.le_refl _) ts_kv0 W (ts_kki fun v19 hi17 hk18 W => ?_)
        refine ts_istore (pc' := 192) (ls' := [(4, .int v19), (3, .int l5), (0, .ref l0), (1, .int l1), (2, .int l2), (5, .int l5), (6, .int l6)]) rfl dX12_pairs_190 (Nat.le_of_ble_eq_true rfl) rfl ?_
        refine ts_goto (tgt := 63) dX12_pairs_192 (by decide) ?_
        exact ts_sub [2, 3, 4, 1, 0] rfl W
    · replace W := W.2 q11
      refine ts_aload_n 0 (pc' := 154) rfl dX12_pairs_153 rfl rfl ?_
      obtain ⟨c21, W⟩ := W
      obtain ⟨c22, W⟩ := W
      refine ts_getR (pc' := 157) (ci := 11) 22 cfX12.1 cfX12.2.1 cfX12.2.2 rfl (by decide) hnX12_pairs_X12 flX12_pairs_50 rfl dX12_pairs_154 c21 c22 ?_
      refine ts_iload 5 (pc' := 159) rfl dX12_pairs_157 rfl ?_
      refine ts_aload_n 0 (pc' := 160) rfl dX12_pairs_159 rfl rfl ?_
      obtain ⟨c23, W⟩ := W
      refine ts_getR (pc' := 163) (ci := 11) 21 cfX12.1 cfX12.2.1 cfX12.2.2 rfl (by decide) hnX12_pairs_X12 flX12_pairs_47 rfl dX12_pairs_160 c21 c23 ?_
      refine ts_iload 5 (pc' := 165) rfl dX12_pairs_163 rfl ?_
      obtain ⟨c24, W⟩ := W
      obtain ⟨c25, W⟩ := W
      refine ts_iaload (pc' := 166) rfl dX12_pairs_165 c24 c25 ?_
      obtain ⟨c26, W⟩ := W
      obtain ⟨c27, W⟩ := W
      refine ts_iastore (pc' := 167) rfl dX12_pairs_166 c26 c27 ?_
      obtain ⟨hi28, ehi28⟩ : ∃ z, z = ts_up hi (g.2.2.2 l0 22) l6.toNatClampNeg (hi (g.2.2.2 l0 21) l6.toNatClampNeg) := ⟨_, rfl⟩
      rw [← ehi28]; replace W := W hi28 ehi28
      refine ts_iinc 5 (pc' := 170) (ls' := [(6, .int (l6 + 1)), (0, .ref l0), (1, .int l1), (2, .int l2), (3, .int l3), (5, .int l5)]) rfl dX12_pairs_167 rfl rfl (Nat.le_of_ble_eq_true rfl) rfl ?_
      refine ts_goto (tgt := 140) dX12_pairs_170 (by decide) ?_
      exact ts_sub [1, 2, 3, 4, 5, 0] rfl W
theorem hnX12_change_X12 : ∀ w ∈ u_ws RX12 TX12 25, w ∈ wsX12_change := by decide +kernel
theorem flX12_change_25 : Cond.fieldLink RX12 25 "TurnipSquiresModel" "now" "[I" ∈ wsX12_change := by decide +kernel
theorem flX12_change_31 : Cond.fieldLink RX12 31 "TurnipSquiresModel" "tried" "[I" ∈ wsX12_change := by decide +kernel
set_option maxHeartbeats 4000000 in
theorem wX12_change_0 {d : Nat} {g : ts_G} {Q : Int32 → ts_I → ts_K → Prop} {o : Nat} {p0 : Int32} {p1 : Int32} {hi : ts_I} {hk : ts_K} (W : (g.2.1 o = 11) ∧ ts_E0 d mX12_isField [.ref o] g hi hk (ts_qi (fun v3 hi1 hk2 => ((v3 ≠ 0) → ts_E0 d mX12_in [.int p0, .int 1, .int 30] g hi1 hk2 (ts_qi (fun v8 hi6 hk7 => ((v8 = 0) → Q (-1000001) hi6 hk7) ∧ (¬ (v8 = 0) → ts_E0 d mX12_in [.int p1, .int 0, .int 1] g hi6 hk7 (ts_qi (fun v12 hi10 hk11 => ((v12 ≠ 0) → ts_J0 (d + 1) mX12_change (ts_qi Q) g 42 [(0, .ref o), (1, .int p0), (2, .int p1), (3, .int (-1000000)), (4, .int (-1000000)), (5, .int 0)] [] hi10 hk11) ∧ (¬ (v12 ≠ 0) → Q (-1000001) hi10 hk11))))))) ∧ (¬ (v3 ≠ 0) → Q (-1000002) hi1 hk2)))) : ts_J0 (d + 1) mX12_change (ts_qi Q) g 0 [(0, .ref o), (1, .int p0), (2, .int p1)] [] hi hk := by
  refine ts_aload_n 0 (pc' := 1) rfl dX12_change_0 rfl rfl ?_
  obtain ⟨c4, W⟩ := W
  refine ts_callV (M' := mX12_isField) (C := RX12) (pc' := 4) (av := []) (b := o) rfl dX12_change_1 rfl gX12_change_X12_isField rfl dvX12_isField rfl (ci := 11) cfX12.1 (by decide) c4 (Nat.le_refl _) (Nat.le_of_ble_eq_true rfl) (Nat.le_of_ble_eq_true rfl) (Nat.le_refl _) (Nat.le_refl _) ts_kv0 W (ts_kki fun v3 hi1 hk2 W => ?_)
  refine ts_if_ne (pc' := 7) (tgt := 10) rfl dX12_change_4 (by decide) (fun q5 => ?_) (fun q5 => ?_)
  · replace W := W.1 q5
    refine ts_iload_n 1 (pc' := 11) rfl dX12_change_10 rfl rfl ?_
    refine ts_iconst (v := 1) (pc' := 12) rfl dX12_change_11 (by decide) ?_
    refine ts_bipush (v := 30) (pc' := 14) rfl dX12_change_12 (by decide) ?_
    refine ts_callS (M' := mX12_in) (pc' := 17) (av := [.int p0, .int 1, .int 30]) rfl dX12_change_14 rfl gX12_change_X12_in rfl dsX12_in rfl (Nat.le_refl _) (Nat.le_of_ble_eq_true rfl) (Nat.le_of_ble_eq_true rfl) (Nat.le_refl _) (Nat.le_refl _) ts_kv0 W (ts_kki fun v8 hi6 hk7 W => ?_)
    refine ts_if_eq (pc' := 20) (tgt := 29) rfl dX12_change_17 (by decide) (fun q9 => ?_) (fun q9 => ?_)
    · replace W := W.1 q9
      refine ts_ldc (v := (-1000001)) (pc' := 31) rfl dX12_change_29 (by decide +kernel) ?_
      exact ts_iret dX12_change_31 rfl (Nat.le_refl _) (Nat.le_refl _) ⟨rfl, _, rfl, W⟩
    · replace W := W.2 q9
      refine ts_iload_n 2 (pc' := 21) rfl dX12_change_20 rfl rfl ?_
      refine ts_iconst (v := 0) (pc' := 22) rfl dX12_change_21 (by decide) ?_
      refine ts_iconst (v := 1) (pc' := 23) rfl dX12_change_22 (by decide) ?_
      refine ts_callS (M' := mX12_in) (pc' := 26) (av := [.int p1, .int 0, .int 1]) rfl dX12_change_23 rfl gX12_change_X12_in rfl dsX12_in rfl (Nat.le_refl _) (Nat.le_of_ble_eq_true rfl) (Nat.le_of_ble_eq_true rfl) (Nat.le_refl _) (Nat.le_refl _) ts_kv0 W (ts_kki fun v12 hi10 hk11 W => ?_)
      refine ts_if_ne (pc' := 29) (tgt := 32) rfl dX12_change_26 (by decide) (fun q13 => ?_) (fun q13 => ?_)
      · replace W := W.1 q13
        refine ts_ldc (v := (-1000000)) (pc' := 34) rfl dX12_change_32 (by decide +kernel) ?_
        refine ts_istore_n (pc' := 35) (ls' := [(3, .int (-1000000)), (0, .ref o), (1, .int p0), (2, .int p1)]) rfl dX12_change_34 rfl (Nat.le_of_ble_eq_true rfl) rfl ?_
        refine ts_ldc (v := (-1000000)) (pc' := 37) rfl dX12_change_35 (by decide +kernel) ?_
        refine ts_istore (pc' := 39) (ls' := [(4, .int (-1000000)), (3, .int (-1000000)), (0, .ref o), (1, .int p0), (2, .int p1)]) rfl dX12_change_37 (Nat.le_of_ble_eq_true rfl) rfl ?_
        refine ts_iconst (v := 0) (pc' := 40) rfl dX12_change_39 (by decide) ?_
        refine ts_istore (pc' := 42) (ls' := [(5, .int 0), (4, .int (-1000000)), (3, .int (-1000000)), (0, .ref o), (1, .int p0), (2, .int p1)]) rfl dX12_change_40 (Nat.le_of_ble_eq_true rfl) rfl ?_
        exact ts_sub [3, 4, 5, 2, 1, 0] rfl W
      · replace W := W.2 q13
        refine ts_ldc (v := (-1000001)) (pc' := 31) rfl dX12_change_29 (by decide +kernel) ?_
        exact ts_iret dX12_change_31 rfl (Nat.le_refl _) (Nat.le_refl _) ⟨rfl, _, rfl, W⟩
  · replace W := W.2 q5
    refine ts_ldc (v := (-1000002)) (pc' := 9) rfl dX12_change_7 (by decide +kernel) ?_
    exact ts_iret dX12_change_9 rfl (Nat.le_refl _) (Nat.le_refl _) ⟨rfl, _, rfl, W⟩
set_option maxHeartbeats 4000000 in
theorem wX12_change_42 {d : Nat} {g : ts_G} {Q : Int32 → ts_I → ts_K → Prop} {l0 : Nat} {l1 : Int32} {l2 : Int32} {l3 : Int32} {l4 : Int32} {l5 : Int32} {hi : ts_I} {hk : ts_K} (W : (g.2.1 l0 = 11) ∧ (g.2.2.2 l0 13 ≠ 0) ∧ (g.2.1 (g.2.2.2 l0 13) = 100) ∧ (vp_in 2 (g.2.2.1 (g.2.2.2 l0 13))) ∧ (((hi (g.2.2.2 l0 13) (2 : Int32).toNatClampNeg) ≤ l5) → ((l2 ≠ 0) → Q l4 hi hk) ∧ (¬ (l2 ≠ 0) → Q l3 hi hk)) ∧ (¬ ((hi (g.2.2.2 l0 13) (2 : Int32).toNatClampNeg) ≤ l5) → ts_J0 (d + 1) mX12_change (ts_qi Q) g 59 [(0, .ref l0), (1, .int l1), (2, .int l2), (3, .int l3), (4, .int l4), (5, .int l5), (6, .int (l5 + 1))] [] hi hk)) : ts_J0 (d + 1) mX12_change (ts_qi Q) g 42 [(0, .ref l0), (1, .int l1), (2, .int l2), (3, .int l3), (4, .int l4), (5, .int l5)] [] hi hk := by
  refine ts_iload 5 (pc' := 44) rfl dX12_change_42 rfl ?_
  refine ts_aload_n 0 (pc' := 45) rfl dX12_change_44 rfl rfl ?_
  obtain ⟨c1, W⟩ := W
  obtain ⟨c2, W⟩ := W
  refine ts_getR (pc' := 48) (ci := 11) 13 cfX12.1 cfX12.2.1 cfX12.2.2 rfl (by decide) hnX12_change_X12 flX12_change_25 rfl dX12_change_45 c1 c2 ?_
  refine ts_iconst (v := 2) (pc' := 49) rfl dX12_change_48 (by decide) ?_
  obtain ⟨c3, W⟩ := W
  obtain ⟨c4, W⟩ := W
  refine ts_iaload (pc' := 50) rfl dX12_change_49 c3 c4 ?_
  refine ts_icmp_ge (pc' := 53) (tgt := 157) rfl dX12_change_50 (by decide) (fun q5 => ?_) (fun q5 => ?_)
  · replace W := W.1 q5
    refine ts_iload_n 2 (pc' := 158) rfl dX12_change_157 rfl rfl ?_
    refine ts_if_ne (pc' := 161) (tgt := 165) rfl dX12_change_158 (by decide) (fun q6 => ?_) (fun q6 => ?_)
    · replace W := W.1 q6
      refine ts_iload 4 (pc' := 167) rfl dX12_change_165 rfl ?_
      exact ts_iret dX12_change_167 rfl (Nat.le_refl _) (Nat.le_refl _) ⟨rfl, _, rfl, W⟩
    · replace W := W.2 q6
      refine ts_iload_n 3 (pc' := 162) rfl dX12_change_161 rfl rfl ?_
      refine ts_goto (tgt := 167) dX12_change_162 (by decide) ?_
      exact ts_iret dX12_change_167 rfl (Nat.le_refl _) (Nat.le_refl _) ⟨rfl, _, rfl, W⟩
  · replace W := W.2 q5
    refine ts_iload 5 (pc' := 55) rfl dX12_change_53 rfl ?_
    refine ts_iconst (v := 1) (pc' := 56) rfl dX12_change_55 (by decide) ?_
    refine ts_iadd (pc' := 57) rfl dX12_change_56 ?_
    refine ts_istore (pc' := 59) (ls' := [(6, .int (l5 + 1)), (0, .ref l0), (1, .int l1), (2, .int l2), (3, .int l3), (4, .int l4), (5, .int l5)]) rfl dX12_change_57 (Nat.le_of_ble_eq_true rfl) rfl ?_
    exact ts_sub [1, 2, 3, 4, 5, 6, 0] rfl W
set_option maxHeartbeats 4000000 in
theorem wX12_change_59 {d : Nat} {g : ts_G} {Q : Int32 → ts_I → ts_K → Prop} {l0 : Nat} {l1 : Int32} {l2 : Int32} {l3 : Int32} {l4 : Int32} {l5 : Int32} {l6 : Int32} {hi : ts_I} {hk : ts_K} (W : (g.2.1 l0 = 11) ∧ (g.2.2.2 l0 13 ≠ 0) ∧ (g.2.1 (g.2.2.2 l0 13) = 100) ∧ (vp_in 2 (g.2.2.1 (g.2.2.2 l0 13))) ∧ (((hi (g.2.2.2 l0 13) (2 : Int32).toNatClampNeg) ≤ l6) → ts_J0 (d + 1) mX12_change (ts_qi Q) g 42 [(0, .ref l0), (1, .int l1), (2, .int l2), (3, .int l3), (4, .int l4), (5, .int (l5 + 1))] [] hi hk) ∧ (¬ ((hi (g.2.2.2 l0 13) (2 : Int32).toNatClampNeg) ≤ l6) → (g.2.2.2 l0 15 ≠ 0) ∧ ts_E0 d mX12_copies [.ref (g.2.2.2 l0 13), .int 0, .ref (g.2.2.2 l0 15), .int 0] g hi hk (ts_qv (fun hi7 hk8 => ts_E0 d mX12_changes [.ref (g.2.2.2 l0 15), .int l5, .int l6] g hi7 hk8 (ts_qv (fun hi9 hk10 => ts_E0 d mX12_goesOn [.ref l0, .int l1] g hi9 hk10 (ts_qv (fun hi11 hk12 => ts_E0 d mX12_sumOf [.ref (g.2.2.2 l0 15), .int 1] g hi11 hk12 (ts_qi (fun v15 hi13 hk14 => ((v15 ≤ l4) → ((v15 ≤ l4) → ts_J0 (d + 1) mX12_change (ts_qi Q) g 59 [(0, .ref l0), (1, .int l1), (2, .int l2), (3, .int l3), (4, .int l4), (5, .int l5), (6, .int (l6 + 1))] [] hi13 hk14) ∧ (¬ (v15 ≤ l4) → ts_J0 (d + 1) mX12_change (ts_qi Q) g 59 [(0, .ref l0), (1, .int l1), (2, .int l2), (3, .int l3), (4, .int v15), (5, .int l5), (6, .int (l6 + 1))] [] hi13 hk14)) ∧ (¬ (v15 ≤ l4) → ((v15 ≤ l4) → ts_J0 (d + 1) mX12_change (ts_qi Q) g 59 [(0, .ref l0), (1, .int l1), (2, .int l2), (3, .int ((10 * l5) + l6)), (4, .int l4), (5, .int l5), (6, .int (l6 + 1))] [] hi13 hk14) ∧ (¬ (v15 ≤ l4) → ts_J0 (d + 1) mX12_change (ts_qi Q) g 59 [(0, .ref l0), (1, .int l1), (2, .int l2), (3, .int ((10 * l5) + l6)), (4, .int v15), (5, .int l5), (6, .int (l6 + 1))] [] hi13 hk14)))))))))))) : ts_J0 (d + 1) mX12_change (ts_qi Q) g 59 [(0, .ref l0), (1, .int l1), (2, .int l2), (3, .int l3), (4, .int l4), (5, .int l5), (6, .int l6)] [] hi hk := by
  refine ts_iload 6 (pc' := 61) rfl dX12_change_59 rfl ?_
  refine ts_aload_n 0 (pc' := 62) rfl dX12_change_61 rfl rfl ?_
  obtain ⟨c1, W⟩ := W
  obtain ⟨c2, W⟩ := W
  refine ts_getR (pc' := 65) (ci := 11) 13 cfX12.1 cfX12.2.1 cfX12.2.2 rfl (by decide) hnX12_change_X12 flX12_change_25 rfl dX12_change_62 c1 c2 ?_
  refine ts_iconst (v := 2) (pc' := 66) rfl dX12_change_65 (by decide) ?_
  obtain ⟨c3, W⟩ := W
  obtain ⟨c4, W⟩ := W
  refine ts_iaload (pc' := 67) rfl dX12_change_66 c3 c4 ?_
  refine ts_icmp_ge (pc' := 70) (tgt := 151) rfl dX12_change_67 (by decide) (fun q5 => ?_) (fun q5 => ?_)
  · replace W := W.1 q5
    refine ts_iinc 5 (pc' := 154) (ls' := [(5, .int (l5 + 1)), (0, .ref l0), (1, .int l1), (2, .int l2), (3, .int l3), (4, .int l4), (6, .int l6)]) rfl dX12_change_151 rfl rfl (Nat.le_of_ble_eq_true rfl) rfl ?_
    refine ts_goto (tgt := 42) dX12_change_154 (by decide) ?_
    exact ts_sub [1, 2, 3, 4, 5, 0] rfl W
  · replace W := W.2 q5
    refine ts_aload_n 0 (pc' := 71) rfl dX12_change_70 rfl rfl ?_
    refine ts_getR (pc' := 74) (ci := 11) 13 cfX12.1 cfX12.2.1 cfX12.2.2 rfl (by decide) hnX12_change_X12 flX12_change_25 rfl dX12_change_71 c1 c2 ?_
    refine ts_iconst (v := 0) (pc' := 75) rfl dX12_change_74 (by decide) ?_
    refine ts_aload_n 0 (pc' := 76) rfl dX12_change_75 rfl rfl ?_
    obtain ⟨c6, W⟩ := W
    refine ts_getR (pc' := 79) (ci := 11) 15 cfX12.1 cfX12.2.1 cfX12.2.2 rfl (by decide) hnX12_change_X12 flX12_change_31 rfl dX12_change_76 c1 c6 ?_
    refine ts_iconst (v := 0) (pc' := 80) rfl dX12_change_79 (by decide) ?_
    refine ts_callS (M' := mX12_copies) (pc' := 83) (av := [.ref (g.2.2.2 l0 13), .int 0, .ref (g.2.2.2 l0 15), .int 0]) rfl dX12_change_80 rfl gX12_change_X12_copies rfl dsX12_copies rfl (Nat.le_refl _) (Nat.le_of_ble_eq_true rfl) (Nat.le_of_ble_eq_true rfl) (Nat.le_refl _) (Nat.le_refl _) ts_kv0 W (ts_kkv fun hi7 hk8 W => ?_)
    refine ts_aload_n 0 (pc' := 84) rfl dX12_change_83 rfl rfl ?_
    refine ts_getR (pc' := 87) (ci := 11) 15 cfX12.1 cfX12.2.1 cfX12.2.2 rfl (by decide) hnX12_change_X12 flX12_change_31 rfl dX12_change_84 c1 c6 ?_
    refine ts_iload 5 (pc' := 89) rfl dX12_change_87 rfl ?_
    refine ts_iload 6 (pc' := 91) rfl dX12_change_89 rfl ?_
    refine ts_callS (M' := mX12_changes) (pc' := 94) (av := [.ref (g.2.2.2 l0 15), .int l5, .int l6]) rfl dX12_change_91 rfl gX12_change_X12_changes rfl dsX12_changes rfl (Nat.le_refl _) (Nat.le_of_ble_eq_true rfl) (Nat.le_of_ble_eq_true rfl) (Nat.le_refl _) (Nat.le_refl _) ts_kv0 W (ts_kkv fun hi9 hk10 W => ?_)
    refine ts_aload_n 0 (pc' := 95) rfl dX12_change_94 rfl rfl ?_
    refine ts_iload_n 1 (pc' := 96) rfl dX12_change_95 rfl rfl ?_
    refine ts_callV (M' := mX12_goesOn) (C := RX12) (pc' := 99) (av := [.int l1]) (b := l0) rfl dX12_change_96 rfl gX12_change_X12_goesOn rfl dvX12_goesOn rfl (ci := 11) cfX12.1 (by decide) c1 (Nat.le_refl _) (Nat.le_of_ble_eq_true rfl) (Nat.le_of_ble_eq_true rfl) (Nat.le_refl _) (Nat.le_refl _) ts_kv0 W (ts_kkv fun hi11 hk12 W => ?_)
    refine ts_aload_n 0 (pc' := 100) rfl dX12_change_99 rfl rfl ?_
    refine ts_getR (pc' := 103) (ci := 11) 15 cfX12.1 cfX12.2.1 cfX12.2.2 rfl (by decide) hnX12_change_X12 flX12_change_31 rfl dX12_change_100 c1 c6 ?_
    refine ts_iconst (v := 1) (pc' := 104) rfl dX12_change_103 (by decide) ?_
    refine ts_callS (M' := mX12_sumOf) (pc' := 107) (av := [.ref (g.2.2.2 l0 15), .int 1]) rfl dX12_change_104 rfl gX12_change_X12_sumOf rfl dsX12_sumOf rfl (Nat.le_refl _) (Nat.le_of_ble_eq_true rfl) (Nat.le_of_ble_eq_true rfl) (Nat.le_refl _) (Nat.le_refl _) ts_kv0 W (ts_kki fun v15 hi13 hk14 W => ?_)
    refine ts_istore (pc' := 109) (ls' := [(7, .int v15), (0, .ref l0), (1, .int l1), (2, .int l2), (3, .int l3), (4, .int l4), (5, .int l5), (6, .int l6)]) rfl dX12_change_107 (Nat.le_of_ble_eq_true rfl) rfl ?_
    refine ts_iload 0 (pc' := 111) rfl dX12_change_109 rfl ?_
    refine ts_iload 5 (pc' := 113) rfl dX12_change_111 rfl ?_
    refine ts_icmp_le (pc' := 116) (tgt := 127) rfl dX12_change_113 (by decide) (fun q16 => ?_) (fun q16 => ?_)
    · replace W := W.1 q16
      refine ts_iload_n 4 (pc' := 128) rfl dX12_change_127 rfl rfl ?_
      refine ts_istore_n (pc' := 129) (ls' := [(3, .int l3), (7, .int v15), (0, .ref l0), (1, .int l1), (2, .int l2), (4, .int l4), (5, .int l5), (6, .int l6)]) rfl dX12_change_128 rfl (Nat.le_of_ble_eq_true rfl) rfl ?_
      refine ts_iload 1 (pc' := 131) rfl dX12_change_129 rfl ?_
      refine ts_iload 5 (pc' := 133) rfl dX12_change_131 rfl ?_
      refine ts_icmp_le (pc' := 136) (tgt := 141) rfl dX12_change_133 (by decide) (fun q17 => ?_) (fun q17 => ?_)
      · replace W := W.1 q17
        refine ts_iload 5 (pc' := 143) rfl dX12_change_141 rfl ?_
        refine ts_istore (pc' := 145) (ls' := [(4, .int l4), (3, .int l3), (7, .int v15), (0, .ref l0), (1, .int l1), (2, .int l2), (5, .int l5), (6, .int l6)]) rfl dX12_change_143 (Nat.le_of_ble_eq_true rfl) rfl ?_
        refine ts_iinc 7 (pc' := 148) (ls' := [(6, .int (l6 + 1)), (4, .int l4), (3, .int l3), (7, .int v15), (0, .ref l0), (1, .int l1), (2, .int l2), (5, .int l5)]) rfl dX12_change_145 rfl rfl (Nat.le_of_ble_eq_true rfl) rfl ?_
        refine ts_goto (tgt := 59) dX12_change_148 (by decide) ?_
        exact ts_sub [4, 5, 6, 2, 1, 7, 0] rfl W
      · replace W := W.2 q17
        refine ts_iload 1 (pc' := 138) rfl dX12_change_136 rfl ?_
        refine ts_goto (tgt := 143) dX12_change_138 (by decide) ?_
        refine ts_istore (pc' := 145) (ls' := [(4, .int v15), (3, .int l3), (7, .int v15), (0, .ref l0), (1, .int l1), (2, .int l2), (5, .int l5), (6, .int l6)]) rfl dX12_change_143 (Nat.le_of_ble_eq_true rfl) rfl ?_
        refine ts_iinc 7 (pc' := 148) (ls' := [(6, .int (l6 + 1)), (4, .int v15), (3, .int l3), (7, .int v15), (0, .ref l0), (1, .int l1), (2, .int l2), (5, .int l5)]) rfl dX12_change_145 rfl rfl (Nat.le_of_ble_eq_true rfl) rfl ?_
        refine ts_goto (tgt := 59) dX12_change_148 (by decide) ?_
        exact ts_sub [4, 5, 6, 2, 1, 7, 0] rfl W
    · replace W := W.2 q16
      refine ts_bipush (v := 10) (pc' := 118) rfl dX12_change_116 (by decide) ?_
      refine ts_iload 6 (pc' := 120) rfl dX12_change_118 rfl ?_
      refine ts_imul (pc' := 121) rfl dX12_change_120 ?_
      refine ts_iload 7 (pc' := 123) rfl dX12_change_121 rfl ?_
      refine ts_iadd (pc' := 124) rfl dX12_change_123 ?_
      refine ts_goto (tgt := 128) dX12_change_124 (by decide) ?_
      refine ts_istore_n (pc' := 129) (ls' := [(3, .int ((10 * l5) + l6)), (7, .int v15), (0, .ref l0), (1, .int l1), (2, .int l2), (4, .int l4), (5, .int l5), (6, .int l6)]) rfl dX12_change_128 rfl (Nat.le_of_ble_eq_true rfl) rfl ?_
      refine ts_iload 1 (pc' := 131) rfl dX12_change_129 rfl ?_
      refine ts_iload 5 (pc' := 133) rfl dX12_change_131 rfl ?_
      refine ts_icmp_le (pc' := 136) (tgt := 141) rfl dX12_change_133 (by decide) (fun q18 => ?_) (fun q18 => ?_)
      · replace W := W.1 q18
        refine ts_iload 5 (pc' := 143) rfl dX12_change_141 rfl ?_
        refine ts_istore (pc' := 145) (ls' := [(4, .int l4), (3, .int ((10 * l5) + l6)), (7, .int v15), (0, .ref l0), (1, .int l1), (2, .int l2), (5, .int l5), (6, .int l6)]) rfl dX12_change_143 (Nat.le_of_ble_eq_true rfl) rfl ?_
        refine ts_iinc 7 (pc' := 148) (ls' := [(6, .int (l6 + 1)), (4, .int l4), (3, .int ((10 * l5) + l6)), (7, .int v15), (0, .ref l0), (1, .int l1), (2, .int l2), (5, .int l5)]) rfl dX12_change_145 rfl rfl (Nat.le_of_ble_eq_true rfl) rfl ?_
        refine ts_goto (tgt := 59) dX12_change_148 (by decide) ?_
        exact ts_sub [4, 5, 6, 2, 1, 7, 0] rfl W
      · replace W := W.2 q18
        refine ts_iload 1 (pc' := 138) rfl dX12_change_136 rfl ?_
        refine ts_goto (tgt := 143) dX12_change_138 (by decide) ?_
        refine ts_istore (pc' := 145) (ls' := [(4, .int v15), (3, .int ((10 * l5) + l6)), (7, .int v15), (0, .ref l0), (1, .int l1), (2, .int l2), (5, .int l5), (6, .int l6)]) rfl dX12_change_143 (Nat.le_of_ble_eq_true rfl) rfl ?_
        refine ts_iinc 7 (pc' := 148) (ls' := [(6, .int (l6 + 1)), (4, .int v15), (3, .int ((10 * l5) + l6)), (7, .int v15), (0, .ref l0), (1, .int l1), (2, .int l2), (5, .int l5)]) rfl dX12_change_145 rfl rfl (Nat.le_of_ble_eq_true rfl) rfl ?_
        refine ts_goto (tgt := 59) dX12_change_148 (by decide) ?_
        exact ts_sub [4, 5, 6, 2, 1, 7, 0] rfl W
theorem hnX12_wins_X12 : ∀ w ∈ u_ws RX12 TX12 25, w ∈ wsX12_wins := by decide +kernel
theorem flX12_wins_25 : Cond.fieldLink RX12 25 "TurnipSquiresModel" "now" "[I" ∈ wsX12_wins := by decide +kernel
set_option maxHeartbeats 4000000 in
theorem wX12_wins_0 {d : Nat} {g : ts_G} {Q : Int32 → ts_I → ts_K → Prop} {o : Nat} {p0 : Int32} {hi : ts_I} {hk : ts_K} (W : ts_J0 (d + 1) mX12_wins (ts_qi Q) g 4 [(0, .ref o), (1, .int p0), (2, .int 0), (3, .int 0)] [] hi hk) : ts_J0 (d + 1) mX12_wins (ts_qi Q) g 0 [(0, .ref o), (1, .int p0)] [] hi hk := by
  refine ts_iconst (v := 0) (pc' := 1) rfl dX12_wins_0 (by decide) ?_
  refine ts_istore_n (pc' := 2) (ls' := [(2, .int 0), (0, .ref o), (1, .int p0)]) rfl dX12_wins_1 rfl (Nat.le_of_ble_eq_true rfl) rfl ?_
  refine ts_iconst (v := 0) (pc' := 3) rfl dX12_wins_2 (by decide) ?_
  refine ts_istore_n (pc' := 4) (ls' := [(3, .int 0), (2, .int 0), (0, .ref o), (1, .int p0)]) rfl dX12_wins_3 rfl (Nat.le_of_ble_eq_true rfl) rfl ?_
  exact ts_sub [2, 3, 1, 0] rfl W
set_option maxHeartbeats 4000000 in
theorem wX12_wins_4 {d : Nat} {g : ts_G} {Q : Int32 → ts_I → ts_K → Prop} {l0 : Nat} {l1 : Int32} {l2 : Int32} {l3 : Int32} {hi : ts_I} {hk : ts_K} (W : (g.2.1 l0 = 11) ∧ (g.2.2.2 l0 13 ≠ 0) ∧ (g.2.1 (g.2.2.2 l0 13) = 100) ∧ (vp_in 2 (g.2.2.1 (g.2.2.2 l0 13))) ∧ (((hi (g.2.2.2 l0 13) (2 : Int32).toNatClampNeg) ≤ l3) → ts_E0 d mX12_sumOf [.ref (g.2.2.2 l0 13), .int 1] g hi hk (ts_qi (fun v8 hi6 hk7 => (((2 * l2) ≤ v8) → Q 0 hi6 hk7) ∧ (¬ ((2 * l2) ≤ v8) → Q 1 hi6 hk7)))) ∧ (¬ ((hi (g.2.2.2 l0 13) (2 : Int32).toNatClampNeg) ≤ l3) → ts_E0 d mX12_has [.int l1, .int l3] g hi hk (ts_qi (fun v12 hi10 hk11 => ((v12 = 0) → ts_J0 (d + 1) mX12_wins (ts_qi Q) g 4 [(0, .ref l0), (1, .int l1), (2, .int (l2 + 0)), (3, .int (l3 + 1))] [] hi10 hk11) ∧ (¬ (v12 = 0) → (vp_in ((4 + (6 * l3)) + 1) (g.2.2.1 (g.2.2.2 l0 13))) ∧ ts_J0 (d + 1) mX12_wins (ts_qi Q) g 4 [(0, .ref l0), (1, .int l1), (2, .int (l2 + (hi10 (g.2.2.2 l0 13) ((4 + (6 * l3)) + 1).toNatClampNeg))), (3, .int (l3 + 1))] [] hi10 hk11))))) : ts_J0 (d + 1) mX12_wins (ts_qi Q) g 4 [(0, .ref l0), (1, .int l1), (2, .int l2), (3, .int l3)] [] hi hk := by
  refine ts_iload_n 3 (pc' := 5) rfl dX12_wins_4 rfl rfl ?_
  refine ts_aload_n 0 (pc' := 6) rfl dX12_wins_5 rfl rfl ?_
  obtain ⟨c1, W⟩ := W
  obtain ⟨c2, W⟩ := W
  refine ts_getR (pc' := 9) (ci := 11) 13 cfX12.1 cfX12.2.1 cfX12.2.2 rfl (by decide) hnX12_wins_X12 flX12_wins_25 rfl dX12_wins_6 c1 c2 ?_
  refine ts_iconst (v := 2) (pc' := 10) rfl dX12_wins_9 (by decide) ?_
  obtain ⟨c3, W⟩ := W
  obtain ⟨c4, W⟩ := W
  refine ts_iaload (pc' := 11) rfl dX12_wins_10 c3 c4 ?_
  refine ts_icmp_ge (pc' := 14) (tgt := 48) rfl dX12_wins_11 (by decide) (fun q5 => ?_) (fun q5 => ?_)
  · replace W := W.1 q5
    refine ts_iconst (v := 2) (pc' := 49) rfl dX12_wins_48 (by decide) ?_
    refine ts_iload_n 2 (pc' := 50) rfl dX12_wins_49 rfl rfl ?_
    refine ts_imul (pc' := 51) rfl dX12_wins_50 ?_
    refine ts_aload_n 0 (pc' := 52) rfl dX12_wins_51 rfl rfl ?_
    refine ts_getR (pc' := 55) (ci := 11) 13 cfX12.1 cfX12.2.1 cfX12.2.2 rfl (by decide) hnX12_wins_X12 flX12_wins_25 rfl dX12_wins_52 c1 c2 ?_
    refine ts_iconst (v := 1) (pc' := 56) rfl dX12_wins_55 (by decide) ?_
    refine ts_callS (M' := mX12_sumOf) (pc' := 59) (av := [.ref (g.2.2.2 l0 13), .int 1]) rfl dX12_wins_56 rfl gX12_wins_X12_sumOf rfl dsX12_sumOf rfl (Nat.le_refl _) (Nat.le_of_ble_eq_true rfl) (Nat.le_of_ble_eq_true rfl) (Nat.le_refl _) (Nat.le_refl _) ts_kv0 W (ts_kki fun v8 hi6 hk7 W => ?_)
    refine ts_icmp_le (pc' := 62) (tgt := 66) rfl dX12_wins_59 (by decide) (fun q9 => ?_) (fun q9 => ?_)
    · replace W := W.1 q9
      refine ts_iconst (v := 0) (pc' := 67) rfl dX12_wins_66 (by decide) ?_
      exact ts_zret dX12_wins_67 rfl (by decide) (Nat.le_refl _) (Nat.le_refl _) ⟨rfl, _, rfl, W⟩
    · replace W := W.2 q9
      refine ts_iconst (v := 1) (pc' := 63) rfl dX12_wins_62 (by decide) ?_
      refine ts_goto (tgt := 67) dX12_wins_63 (by decide) ?_
      exact ts_zret dX12_wins_67 rfl (by decide) (Nat.le_refl _) (Nat.le_refl _) ⟨rfl, _, rfl, W⟩
  · replace W := W.2 q5
    refine ts_iload_n 2 (pc' := 15) rfl dX12_wins_14 rfl rfl ?_
    refine ts_iload_n 1 (pc' := 16) rfl dX12_wins_15 rfl rfl ?_
    refine ts_iload_n 3 (pc' := 17) rfl dX12_wins_16 rfl rfl ?_
    refine ts_callS (M' := mX12_has) (pc' := 20) (av := [.int l1, .int l3]) rfl dX12_wins_17 rfl gX12_wins_X12_has rfl dsX12_has rfl (Nat.le_refl _) (Nat.le_of_ble_eq_true rfl) (Nat.le_of_ble_eq_true rfl) (Nat.le_refl _) (Nat.le_refl _) ts_kv0 W (ts_kki fun v12 hi10 hk11 W => ?_)
    refine ts_if_eq (pc' := 23) (tgt := 39) rfl dX12_wins_20 (by decide) (fun q13 => ?_) (fun q13 => ?_)
    · replace W := W.1 q13
      refine ts_iconst (v := 0) (pc' := 40) rfl dX12_wins_39 (by decide) ?_
      refine ts_iadd (pc' := 41) rfl dX12_wins_40 ?_
      refine ts_istore_n (pc' := 42) (ls' := [(2, .int (l2 + 0)), (0, .ref l0), (1, .int l1), (3, .int l3)]) rfl dX12_wins_41 rfl (Nat.le_of_ble_eq_true rfl) rfl ?_
      refine ts_iinc 3 (pc' := 45) (ls' := [(3, .int (l3 + 1)), (2, .int (l2 + 0)), (0, .ref l0), (1, .int l1)]) rfl dX12_wins_42 rfl rfl (Nat.le_of_ble_eq_true rfl) rfl ?_
      refine ts_goto (tgt := 4) dX12_wins_45 (by decide) ?_
      exact ts_sub [2, 3, 1, 0] rfl W
    · replace W := W.2 q13
      refine ts_aload_n 0 (pc' := 24) rfl dX12_wins_23 rfl rfl ?_
      refine ts_getR (pc' := 27) (ci := 11) 13 cfX12.1 cfX12.2.1 cfX12.2.2 rfl (by decide) hnX12_wins_X12 flX12_wins_25 rfl dX12_wins_24 c1 c2 ?_
      refine ts_iconst (v := 4) (pc' := 28) rfl dX12_wins_27 (by decide) ?_
      refine ts_bipush (v := 6) (pc' := 30) rfl dX12_wins_28 (by decide) ?_
      refine ts_iload_n 3 (pc' := 31) rfl dX12_wins_30 rfl rfl ?_
      refine ts_imul (pc' := 32) rfl dX12_wins_31 ?_
      refine ts_iadd (pc' := 33) rfl dX12_wins_32 ?_
      refine ts_iconst (v := 1) (pc' := 34) rfl dX12_wins_33 (by decide) ?_
      refine ts_iadd (pc' := 35) rfl dX12_wins_34 ?_
      obtain ⟨c14, W⟩ := W
      refine ts_iaload (pc' := 36) rfl dX12_wins_35 c3 c14 ?_
      refine ts_goto (tgt := 40) dX12_wins_36 (by decide) ?_
      refine ts_iadd (pc' := 41) rfl dX12_wins_40 ?_
      refine ts_istore_n (pc' := 42) (ls' := [(2, .int (l2 + (hi10 (g.2.2.2 l0 13) ((4 + (6 * l3)) + 1).toNatClampNeg))), (0, .ref l0), (1, .int l1), (3, .int l3)]) rfl dX12_wins_41 rfl (Nat.le_of_ble_eq_true rfl) rfl ?_
      refine ts_iinc 3 (pc' := 45) (ls' := [(3, .int (l3 + 1)), (2, .int (l2 + (hi10 (g.2.2.2 l0 13) ((4 + (6 * l3)) + 1).toNatClampNeg))), (0, .ref l0), (1, .int l1)]) rfl dX12_wins_42 rfl rfl (Nat.le_of_ble_eq_true rfl) rfl ?_
      refine ts_goto (tgt := 4) dX12_wins_45 (by decide) ?_
      exact ts_sub [2, 3, 1, 0] rfl W
theorem hnX12_power_X12 : ∀ w ∈ u_ws RX12 TX12 25, w ∈ wsX12_power := by decide +kernel
theorem flX12_power_25 : Cond.fieldLink RX12 25 "TurnipSquiresModel" "now" "[I" ∈ wsX12_power := by decide +kernel
set_option maxHeartbeats 4000000 in
theorem wX12_power_0 {d : Nat} {g : ts_G} {Q : Int32 → ts_I → ts_K → Prop} {o : Nat} {p0 : Int32} {hi : ts_I} {hk : ts_K} (W : (g.2.1 o = 11) ∧ ts_E0 d mX12_isTurnip [.ref o, .int p0] g hi hk (ts_qi (fun v3 hi1 hk2 => ((v3 ≠ 0) → ts_J0 (d + 1) mX12_power (ts_qi Q) g 15 [(0, .ref o), (1, .int p0), (2, .int 0), (3, .int 0)] [] hi1 hk2) ∧ (¬ (v3 ≠ 0) → Q (-1000001) hi1 hk2)))) : ts_J0 (d + 1) mX12_power (ts_qi Q) g 0 [(0, .ref o), (1, .int p0)] [] hi hk := by
  refine ts_aload_n 0 (pc' := 1) rfl dX12_power_0 rfl rfl ?_
  refine ts_iload_n 1 (pc' := 2) rfl dX12_power_1 rfl rfl ?_
  obtain ⟨c4, W⟩ := W
  refine ts_callV (M' := mX12_isTurnip) (C := RX12) (pc' := 5) (av := [.int p0]) (b := o) rfl dX12_power_2 rfl gX12_power_X12_isTurnip rfl dvX12_isTurnip rfl (ci := 11) cfX12.1 (by decide) c4 (Nat.le_refl _) (Nat.le_of_ble_eq_true rfl) (Nat.le_of_ble_eq_true rfl) (Nat.le_refl _) (Nat.le_refl _) ts_kv0 W (ts_kki fun v3 hi1 hk2 W => ?_)
  refine ts_if_ne (pc' := 8) (tgt := 11) rfl dX12_power_5 (by decide) (fun q5 => ?_) (fun q5 => ?_)
  · replace W := W.1 q5
    refine ts_iconst (v := 0) (pc' := 12) rfl dX12_power_11 (by decide) ?_
    refine ts_istore_n (pc' := 13) (ls' := [(2, .int 0), (0, .ref o), (1, .int p0)]) rfl dX12_power_12 rfl (Nat.le_of_ble_eq_true rfl) rfl ?_
    refine ts_iconst (v := 0) (pc' := 14) rfl dX12_power_13 (by decide) ?_
    refine ts_istore_n (pc' := 15) (ls' := [(3, .int 0), (2, .int 0), (0, .ref o), (1, .int p0)]) rfl dX12_power_14 rfl (Nat.le_of_ble_eq_true rfl) rfl ?_
    exact ts_sub [2, 3, 1, 0] rfl W
  · replace W := W.2 q5
    refine ts_ldc (v := (-1000001)) (pc' := 10) rfl dX12_power_8 (by decide +kernel) ?_
    exact ts_iret dX12_power_10 rfl (Nat.le_refl _) (Nat.le_refl _) ⟨rfl, _, rfl, W⟩
set_option maxHeartbeats 4000000 in
theorem wX12_power_15 {d : Nat} {g : ts_G} {Q : Int32 → ts_I → ts_K → Prop} {l0 : Nat} {l1 : Int32} {l2 : Int32} {l3 : Int32} {hi : ts_I} {hk : ts_K} (W : (g.2.1 l0 = 11) ∧ (g.2.2.2 l0 13 ≠ 0) ∧ (g.2.1 (g.2.2.2 l0 13) = 100) ∧ (vp_in 2 (g.2.2.1 (g.2.2.2 l0 13))) ∧ (((1 <<< ((hi (g.2.2.2 l0 13) (2 : Int32).toNatClampNeg) &&& 31)) ≤ l3) → Q l2 hi hk) ∧ (¬ ((1 <<< ((hi (g.2.2.2 l0 13) (2 : Int32).toNatClampNeg) &&& 31)) ≤ l3) → ts_E0 d mX12_has [.int l3, .int l1] g hi hk (ts_qi (fun v8 hi6 hk7 => ((v8 ≠ 0) → ts_J0 (d + 1) mX12_power (ts_qi Q) g 15 [(0, .ref l0), (1, .int l1), (2, .int (l2 + 0)), (3, .int (l3 + 1))] [] hi6 hk7) ∧ (¬ (v8 ≠ 0) → ts_E0 d mX12_wins [.ref l0, .int l3] g hi6 hk7 (ts_qi (fun v12 hi10 hk11 => ((v12 ≠ 0) → ts_J0 (d + 1) mX12_power (ts_qi Q) g 15 [(0, .ref l0), (1, .int l1), (2, .int (l2 + 0)), (3, .int (l3 + 1))] [] hi10 hk11) ∧ (¬ (v12 ≠ 0) → ts_E0 d mX12_wins [.ref l0, .int (l3 ||| (1 <<< (l1 &&& 31)))] g hi10 hk11 (ts_qi (fun v16 hi14 hk15 => ((v16 = 0) → ts_J0 (d + 1) mX12_power (ts_qi Q) g 15 [(0, .ref l0), (1, .int l1), (2, .int (l2 + 0)), (3, .int (l3 + 1))] [] hi14 hk15) ∧ (¬ (v16 = 0) → ts_J0 (d + 1) mX12_power (ts_qi Q) g 15 [(0, .ref l0), (1, .int l1), (2, .int (l2 + 1)), (3, .int (l3 + 1))] [] hi14 hk15))))))))))) : ts_J0 (d + 1) mX12_power (ts_qi Q) g 15 [(0, .ref l0), (1, .int l1), (2, .int l2), (3, .int l3)] [] hi hk := by
  refine ts_iload_n 3 (pc' := 16) rfl dX12_power_15 rfl rfl ?_
  refine ts_iconst (v := 1) (pc' := 17) rfl dX12_power_16 (by decide) ?_
  refine ts_aload_n 0 (pc' := 18) rfl dX12_power_17 rfl rfl ?_
  obtain ⟨c1, W⟩ := W
  obtain ⟨c2, W⟩ := W
  refine ts_getR (pc' := 21) (ci := 11) 13 cfX12.1 cfX12.2.1 cfX12.2.2 rfl (by decide) hnX12_power_X12 flX12_power_25 rfl dX12_power_18 c1 c2 ?_
  refine ts_iconst (v := 2) (pc' := 22) rfl dX12_power_21 (by decide) ?_
  obtain ⟨c3, W⟩ := W
  obtain ⟨c4, W⟩ := W
  refine ts_iaload (pc' := 23) rfl dX12_power_22 c3 c4 ?_
  refine ts_ishl (pc' := 24) rfl dX12_power_23 ?_
  refine ts_icmp_ge (pc' := 27) (tgt := 69) rfl dX12_power_24 (by decide) (fun q5 => ?_) (fun q5 => ?_)
  · replace W := W.1 q5
    refine ts_iload_n 2 (pc' := 70) rfl dX12_power_69 rfl rfl ?_
    exact ts_iret dX12_power_70 rfl (Nat.le_refl _) (Nat.le_refl _) ⟨rfl, _, rfl, W⟩
  · replace W := W.2 q5
    refine ts_iload_n 2 (pc' := 28) rfl dX12_power_27 rfl rfl ?_
    refine ts_iload_n 3 (pc' := 29) rfl dX12_power_28 rfl rfl ?_
    refine ts_iload_n 1 (pc' := 30) rfl dX12_power_29 rfl rfl ?_
    refine ts_callS (M' := mX12_has) (pc' := 33) (av := [.int l3, .int l1]) rfl dX12_power_30 rfl gX12_power_X12_has rfl dsX12_has rfl (Nat.le_refl _) (Nat.le_of_ble_eq_true rfl) (Nat.le_of_ble_eq_true rfl) (Nat.le_refl _) (Nat.le_refl _) ts_kv0 W (ts_kki fun v8 hi6 hk7 W => ?_)
    refine ts_if_ne (pc' := 36) (tgt := 60) rfl dX12_power_33 (by decide) (fun q9 => ?_) (fun q9 => ?_)
    · replace W := W.1 q9
      refine ts_iconst (v := 0) (pc' := 61) rfl dX12_power_60 (by decide) ?_
      refine ts_iadd (pc' := 62) rfl dX12_power_61 ?_
      refine ts_istore_n (pc' := 63) (ls' := [(2, .int (l2 + 0)), (0, .ref l0), (1, .int l1), (3, .int l3)]) rfl dX12_power_62 rfl (Nat.le_of_ble_eq_true rfl) rfl ?_
      refine ts_iinc 3 (pc' := 66) (ls' := [(3, .int (l3 + 1)), (2, .int (l2 + 0)), (0, .ref l0), (1, .int l1)]) rfl dX12_power_63 rfl rfl (Nat.le_of_ble_eq_true rfl) rfl ?_
      refine ts_goto (tgt := 15) dX12_power_66 (by decide) ?_
      exact ts_sub [2, 3, 1, 0] rfl W
    · replace W := W.2 q9
      refine ts_aload_n 0 (pc' := 37) rfl dX12_power_36 rfl rfl ?_
      refine ts_iload_n 3 (pc' := 38) rfl dX12_power_37 rfl rfl ?_
      refine ts_callV (M' := mX12_wins) (C := RX12) (pc' := 41) (av := [.int l3]) (b := l0) rfl dX12_power_38 rfl gX12_power_X12_wins rfl dvX12_wins rfl (ci := 11) cfX12.1 (by decide) c1 (Nat.le_refl _) (Nat.le_of_ble_eq_true rfl) (Nat.le_of_ble_eq_true rfl) (Nat.le_refl _) (Nat.le_refl _) ts_kv0 W (ts_kki fun v12 hi10 hk11 W => ?_)
      refine ts_if_ne (pc' := 44) (tgt := 60) rfl dX12_power_41 (by decide) (fun q13 => ?_) (fun q13 => ?_)
      · replace W := W.1 q13
        refine ts_iconst (v := 0) (pc' := 61) rfl dX12_power_60 (by decide) ?_
        refine ts_iadd (pc' := 62) rfl dX12_power_61 ?_
        refine ts_istore_n (pc' := 63) (ls' := [(2, .int (l2 + 0)), (0, .ref l0), (1, .int l1), (3, .int l3)]) rfl dX12_power_62 rfl (Nat.le_of_ble_eq_true rfl) rfl ?_
        refine ts_iinc 3 (pc' := 66) (ls' := [(3, .int (l3 + 1)), (2, .int (l2 + 0)), (0, .ref l0), (1, .int l1)]) rfl dX12_power_63 rfl rfl (Nat.le_of_ble_eq_true rfl) rfl ?_
        refine ts_goto (tgt := 15) dX12_power_66 (by decide) ?_
        exact ts_sub [2, 3, 1, 0] rfl W
      · replace W := W.2 q13
        refine ts_aload_n 0 (pc' := 45) rfl dX12_power_44 rfl rfl ?_
        refine ts_iload_n 3 (pc' := 46) rfl dX12_power_45 rfl rfl ?_
        refine ts_iconst (v := 1) (pc' := 47) rfl dX12_power_46 (by decide) ?_
        refine ts_iload_n 1 (pc' := 48) rfl dX12_power_47 rfl rfl ?_
        refine ts_ishl (pc' := 49) rfl dX12_power_48 ?_
        refine ts_ior (pc' := 50) rfl dX12_power_49 ?_
        refine ts_callV (M' := mX12_wins) (C := RX12) (pc' := 53) (av := [.int (l3 ||| (1 <<< (l1 &&& 31)))]) (b := l0) rfl dX12_power_50 rfl gX12_power_X12_wins rfl dvX12_wins rfl (ci := 11) cfX12.1 (by decide) c1 (Nat.le_refl _) (Nat.le_of_ble_eq_true rfl) (Nat.le_of_ble_eq_true rfl) (Nat.le_refl _) (Nat.le_refl _) ts_kv0 W (ts_kki fun v16 hi14 hk15 W => ?_)
        refine ts_if_eq (pc' := 56) (tgt := 60) rfl dX12_power_53 (by decide) (fun q17 => ?_) (fun q17 => ?_)
        · replace W := W.1 q17
          refine ts_iconst (v := 0) (pc' := 61) rfl dX12_power_60 (by decide) ?_
          refine ts_iadd (pc' := 62) rfl dX12_power_61 ?_
          refine ts_istore_n (pc' := 63) (ls' := [(2, .int (l2 + 0)), (0, .ref l0), (1, .int l1), (3, .int l3)]) rfl dX12_power_62 rfl (Nat.le_of_ble_eq_true rfl) rfl ?_
          refine ts_iinc 3 (pc' := 66) (ls' := [(3, .int (l3 + 1)), (2, .int (l2 + 0)), (0, .ref l0), (1, .int l1)]) rfl dX12_power_63 rfl rfl (Nat.le_of_ble_eq_true rfl) rfl ?_
          refine ts_goto (tgt := 15) dX12_power_66 (by decide) ?_
          exact ts_sub [2, 3, 1, 0] rfl W
        · replace W := W.2 q17
          refine ts_iconst (v := 1) (pc' := 57) rfl dX12_power_56 (by decide) ?_
          refine ts_goto (tgt := 61) dX12_power_57 (by decide) ?_
          refine ts_iadd (pc' := 62) rfl dX12_power_61 ?_
          refine ts_istore_n (pc' := 63) (ls' := [(2, .int (l2 + 1)), (0, .ref l0), (1, .int l1), (3, .int l3)]) rfl dX12_power_62 rfl (Nat.le_of_ble_eq_true rfl) rfl ?_
          refine ts_iinc 3 (pc' := 66) (ls' := [(3, .int (l3 + 1)), (2, .int (l2 + 1)), (0, .ref l0), (1, .int l1)]) rfl dX12_power_63 rfl rfl (Nat.le_of_ble_eq_true rfl) rfl ?_
          refine ts_goto (tgt := 15) dX12_power_66 (by decide) ?_
          exact ts_sub [2, 3, 1, 0] rfl W
theorem hnX12_blocs_X12 : ∀ w ∈ u_ws RX12 TX12 25, w ∈ wsX12_blocs := by decide +kernel
theorem flX12_blocs_25 : Cond.fieldLink RX12 25 "TurnipSquiresModel" "now" "[I" ∈ wsX12_blocs := by decide +kernel
set_option maxHeartbeats 4000000 in
theorem wX12_blocs_0 {d : Nat} {g : ts_G} {Q : Int32 → ts_I → ts_K → Prop} {o : Nat} {p0 : Int32} {hi : ts_I} {hk : ts_K} (W : (g.2.1 o = 11) ∧ ts_E0 d mX12_isField [.ref o] g hi hk (ts_qi (fun v3 hi1 hk2 => ((v3 ≠ 0) → ts_E0 d mX12_in [.int p0, .int 0, .int 1] g hi1 hk2 (ts_qi (fun v8 hi6 hk7 => ((v8 ≠ 0) → ts_J0 (d + 1) mX12_blocs (ts_qi Q) g 27 [(0, .ref o), (1, .int p0), (2, .int (-1000000)), (3, .int 0)] [] hi6 hk7) ∧ (¬ (v8 ≠ 0) → Q (-1000001) hi6 hk7)))) ∧ (¬ (v3 ≠ 0) → Q (-1000002) hi1 hk2)))) : ts_J0 (d + 1) mX12_blocs (ts_qi Q) g 0 [(0, .ref o), (1, .int p0)] [] hi hk := by
  refine ts_aload_n 0 (pc' := 1) rfl dX12_blocs_0 rfl rfl ?_
  obtain ⟨c4, W⟩ := W
  refine ts_callV (M' := mX12_isField) (C := RX12) (pc' := 4) (av := []) (b := o) rfl dX12_blocs_1 rfl gX12_blocs_X12_isField rfl dvX12_isField rfl (ci := 11) cfX12.1 (by decide) c4 (Nat.le_refl _) (Nat.le_of_ble_eq_true rfl) (Nat.le_of_ble_eq_true rfl) (Nat.le_refl _) (Nat.le_refl _) ts_kv0 W (ts_kki fun v3 hi1 hk2 W => ?_)
  refine ts_if_ne (pc' := 7) (tgt := 10) rfl dX12_blocs_4 (by decide) (fun q5 => ?_) (fun q5 => ?_)
  · replace W := W.1 q5
    refine ts_iload_n 1 (pc' := 11) rfl dX12_blocs_10 rfl rfl ?_
    refine ts_iconst (v := 0) (pc' := 12) rfl dX12_blocs_11 (by decide) ?_
    refine ts_iconst (v := 1) (pc' := 13) rfl dX12_blocs_12 (by decide) ?_
    refine ts_callS (M' := mX12_in) (pc' := 16) (av := [.int p0, .int 0, .int 1]) rfl dX12_blocs_13 rfl gX12_blocs_X12_in rfl dsX12_in rfl (Nat.le_refl _) (Nat.le_of_ble_eq_true rfl) (Nat.le_of_ble_eq_true rfl) (Nat.le_refl _) (Nat.le_refl _) ts_kv0 W (ts_kki fun v8 hi6 hk7 W => ?_)
    refine ts_if_ne (pc' := 19) (tgt := 22) rfl dX12_blocs_16 (by decide) (fun q9 => ?_) (fun q9 => ?_)
    · replace W := W.1 q9
      refine ts_ldc (v := (-1000000)) (pc' := 24) rfl dX12_blocs_22 (by decide +kernel) ?_
      refine ts_istore_n (pc' := 25) (ls' := [(2, .int (-1000000)), (0, .ref o), (1, .int p0)]) rfl dX12_blocs_24 rfl (Nat.le_of_ble_eq_true rfl) rfl ?_
      refine ts_iconst (v := 0) (pc' := 26) rfl dX12_blocs_25 (by decide) ?_
      refine ts_istore_n (pc' := 27) (ls' := [(3, .int 0), (2, .int (-1000000)), (0, .ref o), (1, .int p0)]) rfl dX12_blocs_26 rfl (Nat.le_of_ble_eq_true rfl) rfl ?_
      exact ts_sub [2, 3, 1, 0] rfl W
    · replace W := W.2 q9
      refine ts_ldc (v := (-1000001)) (pc' := 21) rfl dX12_blocs_19 (by decide +kernel) ?_
      exact ts_iret dX12_blocs_21 rfl (Nat.le_refl _) (Nat.le_refl _) ⟨rfl, _, rfl, W⟩
  · replace W := W.2 q5
    refine ts_ldc (v := (-1000002)) (pc' := 9) rfl dX12_blocs_7 (by decide +kernel) ?_
    exact ts_iret dX12_blocs_9 rfl (Nat.le_refl _) (Nat.le_refl _) ⟨rfl, _, rfl, W⟩
set_option maxHeartbeats 4000000 in
theorem wX12_blocs_27 {d : Nat} {g : ts_G} {Q : Int32 → ts_I → ts_K → Prop} {l0 : Nat} {l1 : Int32} {l2 : Int32} {l3 : Int32} {hi : ts_I} {hk : ts_K} (W : (g.2.1 l0 = 11) ∧ (g.2.2.2 l0 13 ≠ 0) ∧ (g.2.1 (g.2.2.2 l0 13) = 100) ∧ (vp_in 2 (g.2.2.1 (g.2.2.2 l0 13))) ∧ (((1 <<< ((hi (g.2.2.2 l0 13) (2 : Int32).toNatClampNeg) &&& 31)) ≤ l3) → ((l2 = (-1000000)) → Q l2 hi hk) ∧ (¬ (l2 = (-1000000)) → ((l1 ≠ 1) → ts_E0 d mX12_ones [.int l2] g hi hk (ts_qi (fun v10 hi8 hk9 => Q v10 hi8 hk9))) ∧ (¬ (l1 ≠ 1) → Q l2 hi hk))) ∧ (¬ ((1 <<< ((hi (g.2.2.2 l0 13) (2 : Int32).toNatClampNeg) &&& 31)) ≤ l3) → ts_E0 d mX12_wins [.ref l0, .int l3] g hi hk (ts_qi (fun v13 hi11 hk12 => ((v13 = 0) → ts_J0 (d + 1) mX12_blocs (ts_qi Q) g 27 [(0, .ref l0), (1, .int l1), (2, .int l2), (3, .int (l3 + 1))] [] hi11 hk12) ∧ (¬ (v13 = 0) → ((l2 = (-1000000)) → ts_J0 (d + 1) mX12_blocs (ts_qi Q) g 27 [(0, .ref l0), (1, .int l1), (2, .int l3), (3, .int (l3 + 1))] [] hi11 hk12) ∧ (¬ (l2 = (-1000000)) → ts_E0 d mX12_ones [.int l3] g hi11 hk12 (ts_qi (fun v18 hi16 hk17 => ts_E0 d mX12_ones [.int l2] g hi16 hk17 (ts_qi (fun v21 hi19 hk20 => ((v21 ≤ v18) → ts_J0 (d + 1) mX12_blocs (ts_qi Q) g 27 [(0, .ref l0), (1, .int l1), (2, .int l2), (3, .int (l3 + 1))] [] hi19 hk20) ∧ (¬ (v21 ≤ v18) → ts_J0 (d + 1) mX12_blocs (ts_qi Q) g 27 [(0, .ref l0), (1, .int l1), (2, .int l3), (3, .int (l3 + 1))] [] hi19 hk20))))))))))) : ts_J0 (d + 1) mX12_blocs (ts_qi Q) g 27 [(0, .ref l0), (1, .int l1), (2, .int l2), (3, .int l3)] [] hi hk := by
  refine ts_iload_n 3 (pc' := 28) rfl dX12_blocs_27 rfl rfl ?_
  refine ts_iconst (v := 1) (pc' := 29) rfl dX12_blocs_28 (by decide) ?_
  refine ts_aload_n 0 (pc' := 30) rfl dX12_blocs_29 rfl rfl ?_
  obtain ⟨c1, W⟩ := W
  obtain ⟨c2, W⟩ := W
  refine ts_getR (pc' := 33) (ci := 11) 13 cfX12.1 cfX12.2.1 cfX12.2.2 rfl (by decide) hnX12_blocs_X12 flX12_blocs_25 rfl dX12_blocs_30 c1 c2 ?_
  refine ts_iconst (v := 2) (pc' := 34) rfl dX12_blocs_33 (by decide) ?_
  obtain ⟨c3, W⟩ := W
  obtain ⟨c4, W⟩ := W
  refine ts_iaload (pc' := 35) rfl dX12_blocs_34 c3 c4 ?_
  refine ts_ishl (pc' := 36) rfl dX12_blocs_35 ?_
  refine ts_icmp_ge (pc' := 39) (tgt := 76) rfl dX12_blocs_36 (by decide) (fun q5 => ?_) (fun q5 => ?_)
  · replace W := W.1 q5
    refine ts_iload_n 2 (pc' := 77) rfl dX12_blocs_76 rfl rfl ?_
    refine ts_ldc (v := (-1000000)) (pc' := 79) rfl dX12_blocs_77 (by decide +kernel) ?_
    refine ts_icmp_eq (pc' := 82) (tgt := 87) rfl dX12_blocs_79 (by decide) (fun q6 => ?_) (fun q6 => ?_)
    · replace W := W.1 q6
      refine ts_iload_n 2 (pc' := 88) rfl dX12_blocs_87 rfl rfl ?_
      refine ts_goto (tgt := 95) dX12_blocs_88 (by decide) ?_
      exact ts_iret dX12_blocs_95 rfl (Nat.le_refl _) (Nat.le_refl _) ⟨rfl, _, rfl, W⟩
    · replace W := W.2 q6
      refine ts_iload_n 1 (pc' := 83) rfl dX12_blocs_82 rfl rfl ?_
      refine ts_iconst (v := 1) (pc' := 84) rfl dX12_blocs_83 (by decide) ?_
      refine ts_icmp_ne (pc' := 87) (tgt := 91) rfl dX12_blocs_84 (by decide) (fun q7 => ?_) (fun q7 => ?_)
      · replace W := W.1 q7
        refine ts_iload_n 2 (pc' := 92) rfl dX12_blocs_91 rfl rfl ?_
        refine ts_callS (M' := mX12_ones) (pc' := 95) (av := [.int l2]) rfl dX12_blocs_92 rfl gX12_blocs_X12_ones rfl dsX12_ones rfl (Nat.le_refl _) (Nat.le_of_ble_eq_true rfl) (Nat.le_of_ble_eq_true rfl) (Nat.le_refl _) (Nat.le_refl _) ts_kv0 W (ts_kki fun v10 hi8 hk9 W => ?_)
        exact ts_iret dX12_blocs_95 rfl (Nat.le_refl _) (Nat.le_refl _) ⟨rfl, _, rfl, W⟩
      · replace W := W.2 q7
        refine ts_iload_n 2 (pc' := 88) rfl dX12_blocs_87 rfl rfl ?_
        refine ts_goto (tgt := 95) dX12_blocs_88 (by decide) ?_
        exact ts_iret dX12_blocs_95 rfl (Nat.le_refl _) (Nat.le_refl _) ⟨rfl, _, rfl, W⟩
  · replace W := W.2 q5
    refine ts_aload_n 0 (pc' := 40) rfl dX12_blocs_39 rfl rfl ?_
    refine ts_iload_n 3 (pc' := 41) rfl dX12_blocs_40 rfl rfl ?_
    refine ts_callV (M' := mX12_wins) (C := RX12) (pc' := 44) (av := [.int l3]) (b := l0) rfl dX12_blocs_41 rfl gX12_blocs_X12_wins rfl dvX12_wins rfl (ci := 11) cfX12.1 (by decide) c1 (Nat.le_refl _) (Nat.le_of_ble_eq_true rfl) (Nat.le_of_ble_eq_true rfl) (Nat.le_refl _) (Nat.le_refl _) ts_kv0 W (ts_kki fun v13 hi11 hk12 W => ?_)
    refine ts_if_eq (pc' := 47) (tgt := 68) rfl dX12_blocs_44 (by decide) (fun q14 => ?_) (fun q14 => ?_)
    · replace W := W.1 q14
      refine ts_iload_n 2 (pc' := 69) rfl dX12_blocs_68 rfl rfl ?_
      refine ts_istore_n (pc' := 70) (ls' := [(2, .int l2), (0, .ref l0), (1, .int l1), (3, .int l3)]) rfl dX12_blocs_69 rfl (Nat.le_of_ble_eq_true rfl) rfl ?_
      refine ts_iinc 3 (pc' := 73) (ls' := [(3, .int (l3 + 1)), (2, .int l2), (0, .ref l0), (1, .int l1)]) rfl dX12_blocs_70 rfl rfl (Nat.le_of_ble_eq_true rfl) rfl ?_
      refine ts_goto (tgt := 27) dX12_blocs_73 (by decide) ?_
      exact ts_sub [2, 3, 1, 0] rfl W
    · replace W := W.2 q14
      refine ts_iload_n 2 (pc' := 48) rfl dX12_blocs_47 rfl rfl ?_
      refine ts_ldc (v := (-1000000)) (pc' := 50) rfl dX12_blocs_48 (by decide +kernel) ?_
      refine ts_icmp_eq (pc' := 53) (tgt := 64) rfl dX12_blocs_50 (by decide) (fun q15 => ?_) (fun q15 => ?_)
      · replace W := W.1 q15
        refine ts_iload_n 3 (pc' := 65) rfl dX12_blocs_64 rfl rfl ?_
        refine ts_goto (tgt := 69) dX12_blocs_65 (by decide) ?_
        refine ts_istore_n (pc' := 70) (ls' := [(2, .int l3), (0, .ref l0), (1, .int l1), (3, .int l3)]) rfl dX12_blocs_69 rfl (Nat.le_of_ble_eq_true rfl) rfl ?_
        refine ts_iinc 3 (pc' := 73) (ls' := [(3, .int (l3 + 1)), (2, .int l3), (0, .ref l0), (1, .int l1)]) rfl dX12_blocs_70 rfl rfl (Nat.le_of_ble_eq_true rfl) rfl ?_
        refine ts_goto (tgt := 27) dX12_blocs_73 (by decide) ?_
        exact ts_sub [2, 3, 1, 0] rfl W
      · replace W := W.2 q15
        refine ts_iload_n 3 (pc' := 54) rfl dX12_blocs_53 rfl rfl ?_
        refine ts_callS (M' := mX12_ones) (pc' := 57) (av := [.int l3]) rfl dX12_blocs_54 rfl gX12_blocs_X12_ones rfl dsX12_ones rfl (Nat.le_refl _) (Nat.le_of_ble_eq_true rfl) (Nat.le_of_ble_eq_true rfl) (Nat.le_refl _) (Nat.le_refl _) ts_kv0 W (ts_kki fun v18 hi16 hk17 W => ?_)
        refine ts_iload_n 2 (pc' := 58) rfl dX12_blocs_57 rfl rfl ?_
        refine ts_callS (M' := mX12_ones) (pc' := 61) (av := [.int l2]) rfl dX12_blocs_58 rfl gX12_blocs_X12_ones rfl dsX12_ones rfl (Nat.le_refl _) (Nat.le_of_ble_eq_true rfl) (Nat.le_of_ble_eq_true rfl) (Nat.le_refl _) (Nat.le_refl _) ts_kv0 W (ts_kki fun v21 hi19 hk20 W => ?_)
        refine ts_icmp_ge (pc' := 64) (tgt := 68) rfl dX12_blocs_61 (by decide) (fun q22 => ?_) (fun q22 => ?_)
        · replace W := W.1 q22
          refine ts_iload_n 2 (pc' := 69) rfl dX12_blocs_68 rfl rfl ?_
          refine ts_istore_n (pc' := 70) (ls' := [(2, .int l2), (0, .ref l0), (1, .int l1), (3, .int l3)]) rfl dX12_blocs_69 rfl (Nat.le_of_ble_eq_true rfl) rfl ?_
          refine ts_iinc 3 (pc' := 73) (ls' := [(3, .int (l3 + 1)), (2, .int l2), (0, .ref l0), (1, .int l1)]) rfl dX12_blocs_70 rfl rfl (Nat.le_of_ble_eq_true rfl) rfl ?_
          refine ts_goto (tgt := 27) dX12_blocs_73 (by decide) ?_
          exact ts_sub [2, 3, 1, 0] rfl W
        · replace W := W.2 q22
          refine ts_iload_n 3 (pc' := 65) rfl dX12_blocs_64 rfl rfl ?_
          refine ts_goto (tgt := 69) dX12_blocs_65 (by decide) ?_
          refine ts_istore_n (pc' := 70) (ls' := [(2, .int l3), (0, .ref l0), (1, .int l1), (3, .int l3)]) rfl dX12_blocs_69 rfl (Nat.le_of_ble_eq_true rfl) rfl ?_
          refine ts_iinc 3 (pc' := 73) (ls' := [(3, .int (l3 + 1)), (2, .int l3), (0, .ref l0), (1, .int l1)]) rfl dX12_blocs_70 rfl rfl (Nat.le_of_ble_eq_true rfl) rfl ?_
          refine ts_goto (tgt := 27) dX12_blocs_73 (by decide) ?_
          exact ts_sub [2, 3, 1, 0] rfl W
theorem hnX12_risesSo_X12 : ∀ w ∈ u_ws RX12 TX12 25, w ∈ wsX12_risesSo := by decide +kernel
theorem flX12_risesSo_16 : Cond.fieldLink RX12 16 "TurnipSquiresModel" "items" "[I" ∈ wsX12_risesSo := by decide +kernel
theorem flX12_risesSo_25 : Cond.fieldLink RX12 25 "TurnipSquiresModel" "now" "[I" ∈ wsX12_risesSo := by decide +kernel
theorem flX12_risesSo_31 : Cond.fieldLink RX12 31 "TurnipSquiresModel" "tried" "[I" ∈ wsX12_risesSo := by decide +kernel
set_option maxHeartbeats 4000000 in
theorem wX12_risesSo_0 {d : Nat} {g : ts_G} {Q : Int32 → ts_I → ts_K → Prop} {o : Nat} {p0 : Int32} {p1 : Int32} {p2 : Int32} {p3 : Int32} {p4 : Int32} {hi : ts_I} {hk : ts_K} (W : (g.2.1 o = 11) ∧ (g.2.2.2 o 13 ≠ 0) ∧ (g.2.2.2 o 15 ≠ 0) ∧ ts_E0 d mX12_copies [.ref (g.2.2.2 o 13), .int 0, .ref (g.2.2.2 o 15), .int 0] g hi hk (ts_qv (fun hi4 hk5 => (g.2.1 (g.2.2.2 o 15) = 100) ∧ (vp_in p3 (g.2.2.1 (g.2.2.2 o 15))) ∧ ∀ hi8 : ts_I, hi8 = ts_up hi4 (g.2.2.2 o 15) p3.toNatClampNeg p4 → ts_J0 (d + 1) mX12_risesSo (ts_qi Q) g 28 [(0, .ref o), (1, .int p0), (2, .int p1), (3, .int p2), (6, .int 1), (7, .int 0)] [] hi8 hk5))) : ts_J0 (d + 1) mX12_risesSo (ts_qi Q) g 0 [(0, .ref o), (1, .int p0), (2, .int p1), (3, .int p2), (4, .int p3), (5, .int p4)] [] hi hk := by
  refine ts_aload_n 0 (pc' := 1) rfl dX12_risesSo_0 rfl rfl ?_
  obtain ⟨c1, W⟩ := W
  obtain ⟨c2, W⟩ := W
  refine ts_getR (pc' := 4) (ci := 11) 13 cfX12.1 cfX12.2.1 cfX12.2.2 rfl (by decide) hnX12_risesSo_X12 flX12_risesSo_25 rfl dX12_risesSo_1 c1 c2 ?_
  refine ts_iconst (v := 0) (pc' := 5) rfl dX12_risesSo_4 (by decide) ?_
  refine ts_aload_n 0 (pc' := 6) rfl dX12_risesSo_5 rfl rfl ?_
  obtain ⟨c3, W⟩ := W
  refine ts_getR (pc' := 9) (ci := 11) 15 cfX12.1 cfX12.2.1 cfX12.2.2 rfl (by decide) hnX12_risesSo_X12 flX12_risesSo_31 rfl dX12_risesSo_6 c1 c3 ?_
  refine ts_iconst (v := 0) (pc' := 10) rfl dX12_risesSo_9 (by decide) ?_
  refine ts_callS (M' := mX12_copies) (pc' := 13) (av := [.ref (g.2.2.2 o 13), .int 0, .ref (g.2.2.2 o 15), .int 0]) rfl dX12_risesSo_10 rfl gX12_risesSo_X12_copies rfl dsX12_copies rfl (Nat.le_refl _) (Nat.le_of_ble_eq_true rfl) (Nat.le_of_ble_eq_true rfl) (Nat.le_refl _) (Nat.le_refl _) ts_kv0 W (ts_kkv fun hi4 hk5 W => ?_)
  refine ts_aload_n 0 (pc' := 14) rfl dX12_risesSo_13 rfl rfl ?_
  refine ts_getR (pc' := 17) (ci := 11) 15 cfX12.1 cfX12.2.1 cfX12.2.2 rfl (by decide) hnX12_risesSo_X12 flX12_risesSo_31 rfl dX12_risesSo_14 c1 c3 ?_
  refine ts_iload 4 (pc' := 19) rfl dX12_risesSo_17 rfl ?_
  refine ts_iload 5 (pc' := 21) rfl dX12_risesSo_19 rfl ?_
  obtain ⟨c6, W⟩ := W
  obtain ⟨c7, W⟩ := W
  refine ts_iastore (pc' := 22) rfl dX12_risesSo_21 c6 c7 ?_
  obtain ⟨hi8, ehi8⟩ : ∃ z, z = ts_up hi4 (g.2.2.2 o 15) p3.toNatClampNeg p4 := ⟨_, rfl⟩
  rw [← ehi8]; replace W := W hi8 ehi8
  refine ts_iconst (v := 1) (pc' := 23) rfl dX12_risesSo_22 (by decide) ?_
  refine ts_istore (pc' := 25) (ls' := [(6, .int 1), (0, .ref o), (1, .int p0), (2, .int p1), (3, .int p2), (4, .int p3), (5, .int p4)]) rfl dX12_risesSo_23 (Nat.le_of_ble_eq_true rfl) rfl ?_
  refine ts_iconst (v := 0) (pc' := 26) rfl dX12_risesSo_25 (by decide) ?_
  refine ts_istore (pc' := 28) (ls' := [(7, .int 0), (6, .int 1), (0, .ref o), (1, .int p0), (2, .int p1), (3, .int p2), (4, .int p3), (5, .int p4)]) rfl dX12_risesSo_26 (Nat.le_of_ble_eq_true rfl) rfl ?_
  exact ts_sub [2, 3, 4, 5, 1, 0] rfl W
set_option maxHeartbeats 4000000 in
theorem wX12_risesSo_28 {d : Nat} {g : ts_G} {Q : Int32 → ts_I → ts_K → Prop} {l0 : Nat} {l1 : Int32} {l2 : Int32} {l3 : Int32} {l6 : Int32} {l7 : Int32} {hi : ts_I} {hk : ts_K} (W : ((l3 ≤ l7) → (l6 = 0 ∨ l6 = 1) ∧ Q l6 hi hk) ∧ (¬ (l3 ≤ l7) → (g.2.1 l0 = 11) ∧ (g.2.2.2 l0 15 ≠ 0) ∧ ts_E0 d mX12_passes [.ref l0, .ref (g.2.2.2 l0 15)] g hi hk (ts_qv (fun hi5 hk6 => ((l6 = 0) → ts_J0 (d + 1) mX12_risesSo (ts_qi Q) g 28 [(0, .ref l0), (1, .int l1), (2, .int l2), (3, .int l3), (6, .int 0), (7, .int (l7 + 1))] [] hi5 hk6) ∧ (¬ (l6 = 0) → (g.2.1 (g.2.2.2 l0 15) = 100) ∧ (vp_in ((4 + (6 * l1)) + 1) (g.2.2.1 (g.2.2.2 l0 15))) ∧ (g.2.2.2 l0 2 ≠ 0) ∧ (g.2.1 (g.2.2.2 l0 2) = 100) ∧ (vp_in (l2 + l7) (g.2.2.1 (g.2.2.2 l0 2))) ∧ (((hi5 (g.2.2.2 l0 15) ((4 + (6 * l1)) + 1).toNatClampNeg) ≠ (hi5 (g.2.2.2 l0 2) (l2 + l7).toNatClampNeg)) → ts_J0 (d + 1) mX12_risesSo (ts_qi Q) g 28 [(0, .ref l0), (1, .int l1), (2, .int l2), (3, .int l3), (6, .int 0), (7, .int (l7 + 1))] [] hi5 hk6) ∧ (¬ ((hi5 (g.2.2.2 l0 15) ((4 + (6 * l1)) + 1).toNatClampNeg) ≠ (hi5 (g.2.2.2 l0 2) (l2 + l7).toNatClampNeg)) → ts_J0 (d + 1) mX12_risesSo (ts_qi Q) g 28 [(0, .ref l0), (1, .int l1), (2, .int l2), (3, .int l3), (6, .int 1), (7, .int (l7 + 1))] [] hi5 hk6)))))) : ts_J0 (d + 1) mX12_risesSo (ts_qi Q) g 28 [(0, .ref l0), (1, .int l1), (2, .int l2), (3, .int l3), (6, .int l6), (7, .int l7)] [] hi hk := by
  refine ts_iload 5 (pc' := 30) rfl dX12_risesSo_28 rfl ?_
  refine ts_iload_n 3 (pc' := 31) rfl dX12_risesSo_30 rfl rfl ?_
  refine ts_icmp_ge (pc' := 34) (tgt := 85) rfl dX12_risesSo_31 (by decide) (fun q1 => ?_) (fun q1 => ?_)
  · replace W := W.1 q1
    refine ts_iload 4 (pc' := 87) rfl dX12_risesSo_85 rfl ?_
    obtain ⟨c2, W⟩ := W
    exact ts_zret dX12_risesSo_87 rfl c2 (Nat.le_refl _) (Nat.le_refl _) ⟨rfl, _, rfl, W⟩
  · replace W := W.2 q1
    refine ts_aload_n 0 (pc' := 35) rfl dX12_risesSo_34 rfl rfl ?_
    refine ts_aload_n 0 (pc' := 36) rfl dX12_risesSo_35 rfl rfl ?_
    obtain ⟨c3, W⟩ := W
    obtain ⟨c4, W⟩ := W
    refine ts_getR (pc' := 39) (ci := 11) 15 cfX12.1 cfX12.2.1 cfX12.2.2 rfl (by decide) hnX12_risesSo_X12 flX12_risesSo_31 rfl dX12_risesSo_36 c3 c4 ?_
    refine ts_callV (M' := mX12_passes) (C := RX12) (pc' := 42) (av := [.ref (g.2.2.2 l0 15)]) (b := l0) rfl dX12_risesSo_39 rfl gX12_risesSo_X12_passes rfl dvX12_passes rfl (ci := 11) cfX12.1 (by decide) c3 (Nat.le_refl _) (Nat.le_of_ble_eq_true rfl) (Nat.le_of_ble_eq_true rfl) (Nat.le_refl _) (Nat.le_refl _) ts_kv0 W (ts_kkv fun hi5 hk6 W => ?_)
    refine ts_iload 4 (pc' := 44) rfl dX12_risesSo_42 rfl ?_
    refine ts_if_eq (pc' := 47) (tgt := 76) rfl dX12_risesSo_44 (by decide) (fun q7 => ?_) (fun q7 => ?_)
    · replace W := W.1 q7
      refine ts_iconst (v := 0) (pc' := 77) rfl dX12_risesSo_76 (by decide) ?_
      refine ts_istore (pc' := 79) (ls' := [(6, .int 0), (0, .ref l0), (1, .int l1), (2, .int l2), (3, .int l3), (7, .int l7)]) rfl dX12_risesSo_77 (Nat.le_of_ble_eq_true rfl) rfl ?_
      refine ts_iinc 5 (pc' := 82) (ls' := [(7, .int (l7 + 1)), (6, .int 0), (0, .ref l0), (1, .int l1), (2, .int l2), (3, .int l3)]) rfl dX12_risesSo_79 rfl rfl (Nat.le_of_ble_eq_true rfl) rfl ?_
      refine ts_goto (tgt := 28) dX12_risesSo_82 (by decide) ?_
      exact ts_sub [2, 3, 4, 5, 1, 0] rfl W
    · replace W := W.2 q7
      refine ts_aload_n 0 (pc' := 48) rfl dX12_risesSo_47 rfl rfl ?_
      refine ts_getR (pc' := 51) (ci := 11) 15 cfX12.1 cfX12.2.1 cfX12.2.2 rfl (by decide) hnX12_risesSo_X12 flX12_risesSo_31 rfl dX12_risesSo_48 c3 c4 ?_
      refine ts_iconst (v := 4) (pc' := 52) rfl dX12_risesSo_51 (by decide) ?_
      refine ts_bipush (v := 6) (pc' := 54) rfl dX12_risesSo_52 (by decide) ?_
      refine ts_iload_n 1 (pc' := 55) rfl dX12_risesSo_54 rfl rfl ?_
      refine ts_imul (pc' := 56) rfl dX12_risesSo_55 ?_
      refine ts_iadd (pc' := 57) rfl dX12_risesSo_56 ?_
      refine ts_iconst (v := 1) (pc' := 58) rfl dX12_risesSo_57 (by decide) ?_
      refine ts_iadd (pc' := 59) rfl dX12_risesSo_58 ?_
      obtain ⟨c8, W⟩ := W
      obtain ⟨c9, W⟩ := W
      refine ts_iaload (pc' := 60) rfl dX12_risesSo_59 c8 c9 ?_
      refine ts_aload_n 0 (pc' := 61) rfl dX12_risesSo_60 rfl rfl ?_
      obtain ⟨c10, W⟩ := W
      refine ts_getR (pc' := 64) (ci := 11) 2 cfX12.1 cfX12.2.1 cfX12.2.2 rfl (by decide) hnX12_risesSo_X12 flX12_risesSo_16 rfl dX12_risesSo_61 c3 c10 ?_
      refine ts_iload_n 2 (pc' := 65) rfl dX12_risesSo_64 rfl rfl ?_
      refine ts_iload 5 (pc' := 67) rfl dX12_risesSo_65 rfl ?_
      refine ts_iadd (pc' := 68) rfl dX12_risesSo_67 ?_
      obtain ⟨c11, W⟩ := W
      obtain ⟨c12, W⟩ := W
      refine ts_iaload (pc' := 69) rfl dX12_risesSo_68 c11 c12 ?_
      refine ts_icmp_ne (pc' := 72) (tgt := 76) rfl dX12_risesSo_69 (by decide) (fun q13 => ?_) (fun q13 => ?_)
      · replace W := W.1 q13
        refine ts_iconst (v := 0) (pc' := 77) rfl dX12_risesSo_76 (by decide) ?_
        refine ts_istore (pc' := 79) (ls' := [(6, .int 0), (0, .ref l0), (1, .int l1), (2, .int l2), (3, .int l3), (7, .int l7)]) rfl dX12_risesSo_77 (Nat.le_of_ble_eq_true rfl) rfl ?_
        refine ts_iinc 5 (pc' := 82) (ls' := [(7, .int (l7 + 1)), (6, .int 0), (0, .ref l0), (1, .int l1), (2, .int l2), (3, .int l3)]) rfl dX12_risesSo_79 rfl rfl (Nat.le_of_ble_eq_true rfl) rfl ?_
        refine ts_goto (tgt := 28) dX12_risesSo_82 (by decide) ?_
        exact ts_sub [2, 3, 4, 5, 1, 0] rfl W
      · replace W := W.2 q13
        refine ts_iconst (v := 1) (pc' := 73) rfl dX12_risesSo_72 (by decide) ?_
        refine ts_goto (tgt := 77) dX12_risesSo_73 (by decide) ?_
        refine ts_istore (pc' := 79) (ls' := [(6, .int 1), (0, .ref l0), (1, .int l1), (2, .int l2), (3, .int l3), (7, .int l7)]) rfl dX12_risesSo_77 (Nat.le_of_ble_eq_true rfl) rfl ?_
        refine ts_iinc 5 (pc' := 82) (ls' := [(7, .int (l7 + 1)), (6, .int 1), (0, .ref l0), (1, .int l1), (2, .int l2), (3, .int l3)]) rfl dX12_risesSo_79 rfl rfl (Nat.le_of_ble_eq_true rfl) rfl ?_
        refine ts_goto (tgt := 28) dX12_risesSo_82 (by decide) ?_
        exact ts_sub [2, 3, 4, 5, 1, 0] rfl W
set_option maxHeartbeats 4000000 in
theorem wX12_fits_0 {d : Nat} {g : ts_G} {Q : Int32 → ts_I → ts_K → Prop} {o : Nat} {p0 : Int32} {p1 : Int32} {p2 : Int32} {p3 : Int32} {p4 : Int32} {hi : ts_I} {hk : ts_K} (W : (g.2.1 o = 11) ∧ ts_E0 d mX12_isTurnip [.ref o, .int p0] g hi hk (ts_qi (fun v3 hi1 hk2 => ((v3 = 0) → Q (-1000001) hi1 hk2) ∧ (¬ (v3 = 0) → ts_E0 d mX12_isRow [.int p1] g hi1 hk2 (ts_qi (fun v8 hi6 hk7 => ((v8 = 0) → Q (-1000001) hi6 hk7) ∧ (¬ (v8 = 0) → ts_E0 d mX12_in [.int p3, .int 1, .int 12] g hi6 hk7 (ts_qi (fun v12 hi10 hk11 => ((v12 = 0) → Q (-1000001) hi10 hk11) ∧ (¬ (v12 = 0) → ts_E0 d mX12_in [.int p4, .int 0, .int 3] g hi10 hk11 (ts_qi (fun v16 hi14 hk15 => ((v16 ≠ 0) → ts_E0 d mX12_isMissing [.ref o, .int p1] g hi14 hk15 (ts_qi (fun v20 hi18 hk19 => ((v20 = 0) → ts_E0 d mX12_isPart [.ref o, .int p1, .int p2, .int p3] g hi18 hk19 (ts_qi (fun v24 hi22 hk23 => ((v24 ≠ 0) → ((p4 ≠ 0) → ((p4 ≠ 1) → ((p4 ≠ 2) → ts_J0 (d + 1) mX12_fits (ts_qi Q) g 112 [(0, .ref o), (1, .int p0), (2, .int p1), (3, .int p2), (4, .int p3), (5, .int p4)] [.int 1] hi22 hk23) ∧ (¬ (p4 ≠ 2) → ts_J0 (d + 1) mX12_fits (ts_qi Q) g 112 [(0, .ref o), (1, .int p0), (2, .int p1), (3, .int p2), (4, .int p3), (5, .int p4)] [.int 0] hi22 hk23)) ∧ (¬ (p4 ≠ 1) → ts_J0 (d + 1) mX12_fits (ts_qi Q) g 112 [(0, .ref o), (1, .int p0), (2, .int p1), (3, .int p2), (4, .int p3), (5, .int p4)] [.int ((4 + (6 * p0)) + 2)] hi22 hk23)) ∧ (¬ (p4 ≠ 0) → ts_J0 (d + 1) mX12_fits (ts_qi Q) g 112 [(0, .ref o), (1, .int p0), (2, .int p1), (3, .int p2), (4, .int p3), (5, .int p4)] [.int (4 + (6 * p0))] hi22 hk23)) ∧ (¬ (v24 ≠ 0) → ts_E0 d mX12_found [.ref o, .int 2] g hi22 hk23 (ts_qi (fun v31 hi29 hk30 => Q v31 hi29 hk30)))))) ∧ (¬ (v20 = 0) → ts_E0 d mX12_found [.ref o, .int 1] g hi18 hk19 (ts_qi (fun v34 hi32 hk33 => Q v34 hi32 hk33)))))) ∧ (¬ (v16 ≠ 0) → Q (-1000001) hi14 hk15))))))))))))) : ts_J0 (d + 1) mX12_fits (ts_qi Q) g 0 [(0, .ref o), (1, .int p0), (2, .int p1), (3, .int p2), (4, .int p3), (5, .int p4)] [] hi hk := by
  refine ts_aload_n 0 (pc' := 1) rfl dX12_fits_0 rfl rfl ?_
  refine ts_iload_n 1 (pc' := 2) rfl dX12_fits_1 rfl rfl ?_
  obtain ⟨c4, W⟩ := W
  refine ts_callV (M' := mX12_isTurnip) (C := RX12) (pc' := 5) (av := [.int p0]) (b := o) rfl dX12_fits_2 rfl gX12_fits_X12_isTurnip rfl dvX12_isTurnip rfl (ci := 11) cfX12.1 (by decide) c4 (Nat.le_refl _) (Nat.le_of_ble_eq_true rfl) (Nat.le_of_ble_eq_true rfl) (Nat.le_refl _) (Nat.le_refl _) ts_kv0 W (ts_kki fun v3 hi1 hk2 W => ?_)
  refine ts_if_eq (pc' := 8) (tgt := 36) rfl dX12_fits_5 (by decide) (fun q5 => ?_) (fun q5 => ?_)
  · replace W := W.1 q5
    refine ts_ldc (v := (-1000001)) (pc' := 38) rfl dX12_fits_36 (by decide +kernel) ?_
    exact ts_iret dX12_fits_38 rfl (Nat.le_refl _) (Nat.le_refl _) ⟨rfl, _, rfl, W⟩
  · replace W := W.2 q5
    refine ts_iload_n 2 (pc' := 9) rfl dX12_fits_8 rfl rfl ?_
    refine ts_callS (M' := mX12_isRow) (pc' := 12) (av := [.int p1]) rfl dX12_fits_9 rfl gX12_fits_X12_isRow rfl dsX12_isRow rfl (Nat.le_refl _) (Nat.le_of_ble_eq_true rfl) (Nat.le_of_ble_eq_true rfl) (Nat.le_refl _) (Nat.le_refl _) ts_kv0 W (ts_kki fun v8 hi6 hk7 W => ?_)
    refine ts_if_eq (pc' := 15) (tgt := 36) rfl dX12_fits_12 (by decide) (fun q9 => ?_) (fun q9 => ?_)
    · replace W := W.1 q9
      refine ts_ldc (v := (-1000001)) (pc' := 38) rfl dX12_fits_36 (by decide +kernel) ?_
      exact ts_iret dX12_fits_38 rfl (Nat.le_refl _) (Nat.le_refl _) ⟨rfl, _, rfl, W⟩
    · replace W := W.2 q9
      refine ts_iload 4 (pc' := 17) rfl dX12_fits_15 rfl ?_
      refine ts_iconst (v := 1) (pc' := 18) rfl dX12_fits_17 (by decide) ?_
      refine ts_bipush (v := 12) (pc' := 20) rfl dX12_fits_18 (by decide) ?_
      refine ts_callS (M' := mX12_in) (pc' := 23) (av := [.int p3, .int 1, .int 12]) rfl dX12_fits_20 rfl gX12_fits_X12_in rfl dsX12_in rfl (Nat.le_refl _) (Nat.le_of_ble_eq_true rfl) (Nat.le_of_ble_eq_true rfl) (Nat.le_refl _) (Nat.le_refl _) ts_kv0 W (ts_kki fun v12 hi10 hk11 W => ?_)
      refine ts_if_eq (pc' := 26) (tgt := 36) rfl dX12_fits_23 (by decide) (fun q13 => ?_) (fun q13 => ?_)
      · replace W := W.1 q13
        refine ts_ldc (v := (-1000001)) (pc' := 38) rfl dX12_fits_36 (by decide +kernel) ?_
        exact ts_iret dX12_fits_38 rfl (Nat.le_refl _) (Nat.le_refl _) ⟨rfl, _, rfl, W⟩
      · replace W := W.2 q13
        refine ts_iload 5 (pc' := 28) rfl dX12_fits_26 rfl ?_
        refine ts_iconst (v := 0) (pc' := 29) rfl dX12_fits_28 (by decide) ?_
        refine ts_iconst (v := 3) (pc' := 30) rfl dX12_fits_29 (by decide) ?_
        refine ts_callS (M' := mX12_in) (pc' := 33) (av := [.int p4, .int 0, .int 3]) rfl dX12_fits_30 rfl gX12_fits_X12_in rfl dsX12_in rfl (Nat.le_refl _) (Nat.le_of_ble_eq_true rfl) (Nat.le_of_ble_eq_true rfl) (Nat.le_refl _) (Nat.le_refl _) ts_kv0 W (ts_kki fun v16 hi14 hk15 W => ?_)
        refine ts_if_ne (pc' := 36) (tgt := 39) rfl dX12_fits_33 (by decide) (fun q17 => ?_) (fun q17 => ?_)
        · replace W := W.1 q17
          refine ts_aload_n 0 (pc' := 40) rfl dX12_fits_39 rfl rfl ?_
          refine ts_iload_n 2 (pc' := 41) rfl dX12_fits_40 rfl rfl ?_
          refine ts_callV (M' := mX12_isMissing) (C := RX12) (pc' := 44) (av := [.int p1]) (b := o) rfl dX12_fits_41 rfl gX12_fits_X12_isMissing rfl dvX12_isMissing rfl (ci := 11) cfX12.1 (by decide) c4 (Nat.le_refl _) (Nat.le_of_ble_eq_true rfl) (Nat.le_of_ble_eq_true rfl) (Nat.le_refl _) (Nat.le_refl _) ts_kv0 W (ts_kki fun v20 hi18 hk19 W => ?_)
          refine ts_if_eq (pc' := 47) (tgt := 53) rfl dX12_fits_44 (by decide) (fun q21 => ?_) (fun q21 => ?_)
          · replace W := W.1 q21
            refine ts_aload_n 0 (pc' := 54) rfl dX12_fits_53 rfl rfl ?_
            refine ts_iload_n 2 (pc' := 55) rfl dX12_fits_54 rfl rfl ?_
            refine ts_iload_n 3 (pc' := 56) rfl dX12_fits_55 rfl rfl ?_
            refine ts_iload 4 (pc' := 58) rfl dX12_fits_56 rfl ?_
            refine ts_callV (M' := mX12_isPart) (C := RX12) (pc' := 61) (av := [.int p1, .int p2, .int p3]) (b := o) rfl dX12_fits_58 rfl gX12_fits_X12_isPart rfl dvX12_isPart rfl (ci := 11) cfX12.1 (by decide) c4 (Nat.le_refl _) (Nat.le_of_ble_eq_true rfl) (Nat.le_of_ble_eq_true rfl) (Nat.le_refl _) (Nat.le_refl _) ts_kv0 W (ts_kki fun v24 hi22 hk23 W => ?_)
            refine ts_if_ne (pc' := 64) (tgt := 70) rfl dX12_fits_61 (by decide) (fun q25 => ?_) (fun q25 => ?_)
            · replace W := W.1 q25
              refine ts_iconst (v := 4) (pc' := 71) rfl dX12_fits_70 (by decide) ?_
              refine ts_bipush (v := 6) (pc' := 73) rfl dX12_fits_71 (by decide) ?_
              refine ts_iload_n 1 (pc' := 74) rfl dX12_fits_73 rfl rfl ?_
              refine ts_imul (pc' := 75) rfl dX12_fits_74 ?_
              refine ts_iadd (pc' := 76) rfl dX12_fits_75 ?_
              refine ts_istore (pc' := 78) (ls' := [(6, .int (4 + (6 * p0))), (0, .ref o), (1, .int p0), (2, .int p1), (3, .int p2), (4, .int p3), (5, .int p4)]) rfl dX12_fits_76 (Nat.le_of_ble_eq_true rfl) rfl ?_
              refine ts_iload 6 (pc' := 80) rfl dX12_fits_78 rfl ?_
              refine ts_if_ne (pc' := 83) (tgt := 88) rfl dX12_fits_80 (by decide) (fun q26 => ?_) (fun q26 => ?_)
              · replace W := W.1 q26
                refine ts_iload 6 (pc' := 90) rfl dX12_fits_88 rfl ?_
                refine ts_iconst (v := 1) (pc' := 91) rfl dX12_fits_90 (by decide) ?_
                refine ts_icmp_ne (pc' := 94) (tgt := 101) rfl dX12_fits_91 (by decide) (fun q27 => ?_) (fun q27 => ?_)
                · replace W := W.1 q27
                  refine ts_iload 6 (pc' := 103) rfl dX12_fits_101 rfl ?_
                  refine ts_iconst (v := 2) (pc' := 104) rfl dX12_fits_103 (by decide) ?_
                  refine ts_icmp_ne (pc' := 107) (tgt := 111) rfl dX12_fits_104 (by decide) (fun q28 => ?_) (fun q28 => ?_)
                  · replace W := W.1 q28
                    refine ts_iconst (v := 1) (pc' := 112) rfl dX12_fits_111 (by decide) ?_
                    exact ts_sub [1, 2, 3, 4, 5, 6] rfl W
                  · replace W := W.2 q28
                    refine ts_iconst (v := 0) (pc' := 108) rfl dX12_fits_107 (by decide) ?_
                    refine ts_goto (tgt := 112) dX12_fits_108 (by decide) ?_
                    exact ts_sub [1, 2, 3, 4, 5, 6] rfl W
                · replace W := W.2 q27
                  refine ts_iload 0 (pc' := 96) rfl dX12_fits_94 rfl ?_
                  refine ts_iconst (v := 2) (pc' := 97) rfl dX12_fits_96 (by decide) ?_
                  refine ts_iadd (pc' := 98) rfl dX12_fits_97 ?_
                  refine ts_goto (tgt := 112) dX12_fits_98 (by decide) ?_
                  exact ts_sub [1, 2, 3, 4, 5, 6] rfl W
              · replace W := W.2 q26
                refine ts_iload 0 (pc' := 85) rfl dX12_fits_83 rfl ?_
                refine ts_goto (tgt := 112) dX12_fits_85 (by decide) ?_
                exact ts_sub [1, 2, 3, 4, 5, 6] rfl W
            · replace W := W.2 q25
              refine ts_aload_n 0 (pc' := 65) rfl dX12_fits_64 rfl rfl ?_
              refine ts_iconst (v := 2) (pc' := 66) rfl dX12_fits_65 (by decide) ?_
              refine ts_callV (M' := mX12_found) (C := RX12) (pc' := 69) (av := [.int 2]) (b := o) rfl dX12_fits_66 rfl gX12_fits_X12_found rfl dvX12_found rfl (ci := 11) cfX12.1 (by decide) c4 (Nat.le_refl _) (Nat.le_of_ble_eq_true rfl) (Nat.le_of_ble_eq_true rfl) (Nat.le_refl _) (Nat.le_refl _) ts_kv0 W (ts_kki fun v31 hi29 hk30 W => ?_)
              exact ts_iret dX12_fits_69 rfl (Nat.le_refl _) (Nat.le_refl _) ⟨rfl, _, rfl, W⟩
          · replace W := W.2 q21
            refine ts_aload_n 0 (pc' := 48) rfl dX12_fits_47 rfl rfl ?_
            refine ts_iconst (v := 1) (pc' := 49) rfl dX12_fits_48 (by decide) ?_
            refine ts_callV (M' := mX12_found) (C := RX12) (pc' := 52) (av := [.int 1]) (b := o) rfl dX12_fits_49 rfl gX12_fits_X12_found rfl dvX12_found rfl (ci := 11) cfX12.1 (by decide) c4 (Nat.le_refl _) (Nat.le_of_ble_eq_true rfl) (Nat.le_of_ble_eq_true rfl) (Nat.le_refl _) (Nat.le_refl _) ts_kv0 W (ts_kki fun v34 hi32 hk33 W => ?_)
            exact ts_iret dX12_fits_52 rfl (Nat.le_refl _) (Nat.le_refl _) ⟨rfl, _, rfl, W⟩
        · replace W := W.2 q17
          refine ts_ldc (v := (-1000001)) (pc' := 38) rfl dX12_fits_36 (by decide +kernel) ?_
          exact ts_iret dX12_fits_38 rfl (Nat.le_refl _) (Nat.le_refl _) ⟨rfl, _, rfl, W⟩
set_option maxHeartbeats 4000000 in
theorem wX12_fits_112 {d : Nat} {g : ts_G} {Q : Int32 → ts_I → ts_K → Prop} {l0 : Nat} {l1 : Int32} {l2 : Int32} {l3 : Int32} {l4 : Int32} {l5 : Int32} {s0 : Int32} {hi : ts_I} {hk : ts_K} (W : ((l5 ≠ 0) → ((l5 ≠ 3) → ts_J0 (d + 1) mX12_fits (ts_qi Q) g 136 [(0, .ref l0), (1, .int l1), (2, .int l2), (3, .int l3), (4, .int l4), (5, .int l5), (7, .int s0)] [.int 9] hi hk) ∧ (¬ (l5 ≠ 3) → ts_J0 (d + 1) mX12_fits (ts_qi Q) g 136 [(0, .ref l0), (1, .int l1), (2, .int l2), (3, .int l3), (4, .int l4), (5, .int l5), (7, .int s0)] [.int 15] hi hk)) ∧ (¬ (l5 ≠ 0) → ts_J0 (d + 1) mX12_fits (ts_qi Q) g 136 [(0, .ref l0), (1, .int l1), (2, .int l2), (3, .int l3), (4, .int l4), (5, .int l5), (7, .int s0)] [.int 5] hi hk)) : ts_J0 (d + 1) mX12_fits (ts_qi Q) g 112 [(0, .ref l0), (1, .int l1), (2, .int l2), (3, .int l3), (4, .int l4), (5, .int l5)] [.int s0] hi hk := by
  refine ts_istore (pc' := 114) (ls' := [(7, .int s0), (0, .ref l0), (1, .int l1), (2, .int l2), (3, .int l3), (4, .int l4), (5, .int l5)]) rfl dX12_fits_112 (Nat.le_of_ble_eq_true rfl) rfl ?_
  refine ts_iload 6 (pc' := 116) rfl dX12_fits_114 rfl ?_
  refine ts_if_ne (pc' := 119) (tgt := 123) rfl dX12_fits_116 (by decide) (fun q1 => ?_) (fun q1 => ?_)
  · replace W := W.1 q1
    refine ts_iload 6 (pc' := 125) rfl dX12_fits_123 rfl ?_
    refine ts_iconst (v := 3) (pc' := 126) rfl dX12_fits_125 (by decide) ?_
    refine ts_icmp_ne (pc' := 129) (tgt := 134) rfl dX12_fits_126 (by decide) (fun q2 => ?_) (fun q2 => ?_)
    · replace W := W.1 q2
      refine ts_bipush (v := 9) (pc' := 136) rfl dX12_fits_134 (by decide) ?_
      exact ts_sub [1, 2, 3, 4, 5, 6, 0] rfl W
    · replace W := W.2 q2
      refine ts_bipush (v := 15) (pc' := 131) rfl dX12_fits_129 (by decide) ?_
      refine ts_goto (tgt := 136) dX12_fits_131 (by decide) ?_
      exact ts_sub [1, 2, 3, 4, 5, 6, 0] rfl W
  · replace W := W.2 q1
    refine ts_iconst (v := 5) (pc' := 120) rfl dX12_fits_119 (by decide) ?_
    refine ts_goto (tgt := 136) dX12_fits_120 (by decide) ?_
    exact ts_sub [1, 2, 3, 4, 5, 6, 0] rfl W
set_option maxHeartbeats 4000000 in
theorem wX12_fits_136 {d : Nat} {g : ts_G} {Q : Int32 → ts_I → ts_K → Prop} {l0 : Nat} {l1 : Int32} {l2 : Int32} {l3 : Int32} {l4 : Int32} {l5 : Int32} {l7 : Int32} {s0 : Int32} {hi : ts_I} {hk : ts_K} (W : (((l5 - l5 / 2 * 2) ≠ 0) → ts_J0 (d + 1) mX12_fits (ts_qi Q) g 153 [(0, .ref l0), (1, .int l1), (2, .int l2), (3, .int l3), (4, .int l4), (7, .int l7), (8, .int s0), (9, .int 0)] [.int 0] hi hk) ∧ (¬ ((l5 - l5 / 2 * 2) ≠ 0) → ts_J0 (d + 1) mX12_fits (ts_qi Q) g 153 [(0, .ref l0), (1, .int l1), (2, .int l2), (3, .int l3), (4, .int l4), (7, .int l7), (8, .int s0), (9, .int 0)] [.int 1] hi hk)) : ts_J0 (d + 1) mX12_fits (ts_qi Q) g 136 [(0, .ref l0), (1, .int l1), (2, .int l2), (3, .int l3), (4, .int l4), (5, .int l5), (7, .int l7)] [.int s0] hi hk := by
  refine ts_istore (pc' := 138) (ls' := [(8, .int s0), (0, .ref l0), (1, .int l1), (2, .int l2), (3, .int l3), (4, .int l4), (5, .int l5), (7, .int l7)]) rfl dX12_fits_136 (Nat.le_of_ble_eq_true rfl) rfl ?_
  refine ts_iconst (v := 0) (pc' := 139) rfl dX12_fits_138 (by decide) ?_
  refine ts_istore (pc' := 141) (ls' := [(9, .int 0), (8, .int s0), (0, .ref l0), (1, .int l1), (2, .int l2), (3, .int l3), (4, .int l4), (5, .int l5), (7, .int l7)]) rfl dX12_fits_139 (Nat.le_of_ble_eq_true rfl) rfl ?_
  refine ts_iload 7 (pc' := 143) rfl dX12_fits_141 rfl ?_
  refine ts_iconst (v := 2) (pc' := 144) rfl dX12_fits_143 (by decide) ?_
  refine ts_irem (pc' := 145) rfl dX12_fits_144 (by decide) ?_
  refine ts_if_ne (pc' := 148) (tgt := 152) rfl dX12_fits_145 (by decide) (fun q1 => ?_) (fun q1 => ?_)
  · replace W := W.1 q1
    refine ts_iconst (v := 0) (pc' := 153) rfl dX12_fits_152 (by decide) ?_
    exact ts_sub [2, 3, 4, 5, 6, 8, 1, 0] rfl W
  · replace W := W.2 q1
    refine ts_iconst (v := 1) (pc' := 149) rfl dX12_fits_148 (by decide) ?_
    refine ts_goto (tgt := 153) dX12_fits_149 (by decide) ?_
    exact ts_sub [2, 3, 4, 5, 6, 8, 1, 0] rfl W
set_option maxHeartbeats 4000000 in
theorem wX12_fits_153 {d : Nat} {g : ts_G} {Q : Int32 → ts_I → ts_K → Prop} {l0 : Nat} {l1 : Int32} {l2 : Int32} {l3 : Int32} {l4 : Int32} {l7 : Int32} {l8 : Int32} {l9 : Int32} {s0 : Int32} {hi : ts_I} {hk : ts_K} (W : ts_J0 (d + 1) mX12_fits (ts_qi Q) g 155 [(0, .ref l0), (1, .int l1), (2, .int l2), (3, .int l3), (4, .int l4), (7, .int l7), (8, .int l8), (9, .int l9), (10, .int s0)] [] hi hk) : ts_J0 (d + 1) mX12_fits (ts_qi Q) g 153 [(0, .ref l0), (1, .int l1), (2, .int l2), (3, .int l3), (4, .int l4), (7, .int l7), (8, .int l8), (9, .int l9)] [.int s0] hi hk := by
  refine ts_istore (pc' := 155) (ls' := [(10, .int s0), (0, .ref l0), (1, .int l1), (2, .int l2), (3, .int l3), (4, .int l4), (7, .int l7), (8, .int l8), (9, .int l9)]) rfl dX12_fits_153 (Nat.le_of_ble_eq_true rfl) rfl ?_
  exact ts_sub [1, 2, 3, 4, 5, 6, 7, 8, 0] rfl W
set_option maxHeartbeats 4000000 in
theorem wX12_fits_155 {d : Nat} {g : ts_G} {Q : Int32 → ts_I → ts_K → Prop} {l0 : Nat} {l1 : Int32} {l2 : Int32} {l3 : Int32} {l4 : Int32} {l7 : Int32} {l8 : Int32} {l9 : Int32} {l10 : Int32} {hi : ts_I} {hk : ts_K} (W : ((l8 < l10) → (g.2.1 l0 = 11) ∧ ts_E0 d mX12_well [.ref l0, .int l9] g hi hk (ts_qi (fun v4 hi2 hk3 => Q v4 hi2 hk3))) ∧ (¬ (l8 < l10) → (g.2.1 l0 = 11) ∧ ts_E0 d mX12_risesSo [.ref l0, .int l1, .int ((40 * l2) + l3), .int l4, .int l7, .int l10] g hi hk (ts_qi (fun v8 hi6 hk7 => ((v8 = 0) → ts_J0 (d + 1) mX12_fits (ts_qi Q) g 155 [(0, .ref l0), (1, .int l1), (2, .int l2), (3, .int l3), (4, .int l4), (7, .int l7), (8, .int l8), (9, .int (l9 ||| 0)), (10, .int (l10 + 1))] [] hi6 hk7) ∧ (¬ (v8 = 0) → ts_J0 (d + 1) mX12_fits (ts_qi Q) g 155 [(0, .ref l0), (1, .int l1), (2, .int l2), (3, .int l3), (4, .int l4), (7, .int l7), (8, .int l8), (9, .int (l9 ||| (1 <<< (l10 &&& 31)))), (10, .int (l10 + 1))] [] hi6 hk7))))) : ts_J0 (d + 1) mX12_fits (ts_qi Q) g 155 [(0, .ref l0), (1, .int l1), (2, .int l2), (3, .int l3), (4, .int l4), (7, .int l7), (8, .int l8), (9, .int l9), (10, .int l10)] [] hi hk := by
  refine ts_iload 8 (pc' := 157) rfl dX12_fits_155 rfl ?_
  refine ts_iload 6 (pc' := 159) rfl dX12_fits_157 rfl ?_
  refine ts_icmp_gt (pc' := 162) (tgt := 201) rfl dX12_fits_159 (by decide) (fun q1 => ?_) (fun q1 => ?_)
  · replace W := W.1 q1
    refine ts_aload_n 0 (pc' := 202) rfl dX12_fits_201 rfl rfl ?_
    refine ts_iload 7 (pc' := 204) rfl dX12_fits_202 rfl ?_
    obtain ⟨c5, W⟩ := W
    refine ts_callV (M' := mX12_well) (C := RX12) (pc' := 207) (av := [.int l9]) (b := l0) rfl dX12_fits_204 rfl gX12_fits_X12_well rfl dvX12_well rfl (ci := 11) cfX12.1 (by decide) c5 (Nat.le_refl _) (Nat.le_of_ble_eq_true rfl) (Nat.le_of_ble_eq_true rfl) (Nat.le_refl _) (Nat.le_refl _) ts_kv0 W (ts_kki fun v4 hi2 hk3 W => ?_)
    exact ts_iret dX12_fits_207 rfl (Nat.le_refl _) (Nat.le_refl _) ⟨rfl, _, rfl, W⟩
  · replace W := W.2 q1
    refine ts_iload 7 (pc' := 164) rfl dX12_fits_162 rfl ?_
    refine ts_aload_n 0 (pc' := 165) rfl dX12_fits_164 rfl rfl ?_
    refine ts_iload_n 1 (pc' := 166) rfl dX12_fits_165 rfl rfl ?_
    refine ts_bipush (v := 40) (pc' := 168) rfl dX12_fits_166 (by decide) ?_
    refine ts_iload_n 2 (pc' := 169) rfl dX12_fits_168 rfl rfl ?_
    refine ts_imul (pc' := 170) rfl dX12_fits_169 ?_
    refine ts_iload_n 3 (pc' := 171) rfl dX12_fits_170 rfl rfl ?_
    refine ts_iadd (pc' := 172) rfl dX12_fits_171 ?_
    refine ts_iload 4 (pc' := 174) rfl dX12_fits_172 rfl ?_
    refine ts_iload 5 (pc' := 176) rfl dX12_fits_174 rfl ?_
    refine ts_iload 8 (pc' := 178) rfl dX12_fits_176 rfl ?_
    obtain ⟨c9, W⟩ := W
    refine ts_callV (M' := mX12_risesSo) (C := RX12) (pc' := 181) (av := [.int l1, .int ((40 * l2) + l3), .int l4, .int l7, .int l10]) (b := l0) rfl dX12_fits_178 rfl gX12_fits_X12_risesSo rfl dvX12_risesSo rfl (ci := 11) cfX12.1 (by decide) c9 (Nat.le_refl _) (Nat.le_of_ble_eq_true rfl) (Nat.le_of_ble_eq_true rfl) (Nat.le_refl _) (Nat.le_refl _) ts_kv0 W (ts_kki fun v8 hi6 hk7 W => ?_)
    refine ts_if_eq (pc' := 184) (tgt := 191) rfl dX12_fits_181 (by decide) (fun q10 => ?_) (fun q10 => ?_)
    · replace W := W.1 q10
      refine ts_iconst (v := 0) (pc' := 192) rfl dX12_fits_191 (by decide) ?_
      refine ts_ior (pc' := 193) rfl dX12_fits_192 ?_
      refine ts_istore (pc' := 195) (ls' := [(9, .int (l9 ||| 0)), (0, .ref l0), (1, .int l1), (2, .int l2), (3, .int l3), (4, .int l4), (7, .int l7), (8, .int l8), (10, .int l10)]) rfl dX12_fits_193 (Nat.le_of_ble_eq_true rfl) rfl ?_
      refine ts_iinc 8 (pc' := 198) (ls' := [(10, .int (l10 + 1)), (9, .int (l9 ||| 0)), (0, .ref l0), (1, .int l1), (2, .int l2), (3, .int l3), (4, .int l4), (7, .int l7), (8, .int l8)]) rfl dX12_fits_195 rfl rfl (Nat.le_of_ble_eq_true rfl) rfl ?_
      refine ts_goto (tgt := 155) dX12_fits_198 (by decide) ?_
      exact ts_sub [2, 3, 4, 5, 6, 7, 8, 1, 0] rfl W
    · replace W := W.2 q10
      refine ts_iconst (v := 1) (pc' := 185) rfl dX12_fits_184 (by decide) ?_
      refine ts_iload 8 (pc' := 187) rfl dX12_fits_185 rfl ?_
      refine ts_ishl (pc' := 188) rfl dX12_fits_187 ?_
      refine ts_goto (tgt := 192) dX12_fits_188 (by decide) ?_
      refine ts_ior (pc' := 193) rfl dX12_fits_192 ?_
      refine ts_istore (pc' := 195) (ls' := [(9, .int (l9 ||| (1 <<< (l10 &&& 31)))), (0, .ref l0), (1, .int l1), (2, .int l2), (3, .int l3), (4, .int l4), (7, .int l7), (8, .int l8), (10, .int l10)]) rfl dX12_fits_193 (Nat.le_of_ble_eq_true rfl) rfl ?_
      refine ts_iinc 8 (pc' := 198) (ls' := [(10, .int (l10 + 1)), (9, .int (l9 ||| (1 <<< (l10 &&& 31)))), (0, .ref l0), (1, .int l1), (2, .int l2), (3, .int l3), (4, .int l4), (7, .int l7), (8, .int l8)]) rfl dX12_fits_195 rfl rfl (Nat.le_of_ble_eq_true rfl) rfl ?_
      refine ts_goto (tgt := 155) dX12_fits_198 (by decide) ?_
      exact ts_sub [2, 3, 4, 5, 6, 7, 8, 1, 0] rfl W
theorem hnX12_chance_X12 : ∀ w ∈ u_ws RX12 TX12 25, w ∈ wsX12_chance := by decide +kernel
theorem flX12_chance_25 : Cond.fieldLink RX12 25 "TurnipSquiresModel" "now" "[I" ∈ wsX12_chance := by decide +kernel
theorem flX12_chance_31 : Cond.fieldLink RX12 31 "TurnipSquiresModel" "tried" "[I" ∈ wsX12_chance := by decide +kernel
set_option maxHeartbeats 4000000 in
theorem wX12_chance_0 {d : Nat} {g : ts_G} {Q : Int32 → ts_I → ts_K → Prop} {o : Nat} {p0 : Int32} {p1 : Int32} {p2 : Int32} {p3 : Int32} {p4 : Int32} {hi : ts_I} {hk : ts_K} (W : (g.2.1 o = 11) ∧ ts_E0 d mX12_isTurnip [.ref o, .int p0] g hi hk (ts_qi (fun v3 hi1 hk2 => ((v3 = 0) → Q (-1000001) hi1 hk2) ∧ (¬ (v3 = 0) → ts_E0 d mX12_in [.int p1, .int 0, .int 9] g hi1 hk2 (ts_qi (fun v8 hi6 hk7 => ((v8 = 0) → Q (-1000001) hi6 hk7) ∧ (¬ (v8 = 0) → ts_E0 d mX12_in [.int p2, .int 0, .int 8] g hi6 hk7 (ts_qi (fun v12 hi10 hk11 => ((v12 = 0) → Q (-1000001) hi10 hk11) ∧ (¬ (v12 = 0) → ts_E0 d mX12_in [.int p3, .int 0, .int 10] g hi10 hk11 (ts_qi (fun v16 hi14 hk15 => ((v16 = 0) → Q (-1000001) hi14 hk15) ∧ (¬ (v16 = 0) → ts_E0 d mX12_in [.int p4, .int 0, .int 1] g hi14 hk15 (ts_qi (fun v20 hi18 hk19 => ((v20 ≠ 0) → ts_J0 (d + 1) mX12_chance (ts_qi Q) g 61 [(0, .ref o), (1, .int p0), (2, .int p1), (3, .int p2), (4, .int p3), (5, .int p4), (6, .int 0), (7, .int 1), (8, .int 0)] [] hi18 hk19) ∧ (¬ (v20 ≠ 0) → Q (-1000001) hi18 hk19)))))))))))))))) : ts_J0 (d + 1) mX12_chance (ts_qi Q) g 0 [(0, .ref o), (1, .int p0), (2, .int p1), (3, .int p2), (4, .int p3), (5, .int p4)] [] hi hk := by
  refine ts_aload_n 0 (pc' := 1) rfl dX12_chance_0 rfl rfl ?_
  refine ts_iload_n 1 (pc' := 2) rfl dX12_chance_1 rfl rfl ?_
  obtain ⟨c4, W⟩ := W
  refine ts_callV (M' := mX12_isTurnip) (C := RX12) (pc' := 5) (av := [.int p0]) (b := o) rfl dX12_chance_2 rfl gX12_chance_X12_isTurnip rfl dvX12_isTurnip rfl (ci := 11) cfX12.1 (by decide) c4 (Nat.le_refl _) (Nat.le_of_ble_eq_true rfl) (Nat.le_of_ble_eq_true rfl) (Nat.le_refl _) (Nat.le_refl _) ts_kv0 W (ts_kki fun v3 hi1 hk2 W => ?_)
  refine ts_if_eq (pc' := 8) (tgt := 49) rfl dX12_chance_5 (by decide) (fun q5 => ?_) (fun q5 => ?_)
  · replace W := W.1 q5
    refine ts_ldc (v := (-1000001)) (pc' := 51) rfl dX12_chance_49 (by decide +kernel) ?_
    exact ts_iret dX12_chance_51 rfl (Nat.le_refl _) (Nat.le_refl _) ⟨rfl, _, rfl, W⟩
  · replace W := W.2 q5
    refine ts_iload_n 2 (pc' := 9) rfl dX12_chance_8 rfl rfl ?_
    refine ts_iconst (v := 0) (pc' := 10) rfl dX12_chance_9 (by decide) ?_
    refine ts_bipush (v := 9) (pc' := 12) rfl dX12_chance_10 (by decide) ?_
    refine ts_callS (M' := mX12_in) (pc' := 15) (av := [.int p1, .int 0, .int 9]) rfl dX12_chance_12 rfl gX12_chance_X12_in rfl dsX12_in rfl (Nat.le_refl _) (Nat.le_of_ble_eq_true rfl) (Nat.le_of_ble_eq_true rfl) (Nat.le_refl _) (Nat.le_refl _) ts_kv0 W (ts_kki fun v8 hi6 hk7 W => ?_)
    refine ts_if_eq (pc' := 18) (tgt := 49) rfl dX12_chance_15 (by decide) (fun q9 => ?_) (fun q9 => ?_)
    · replace W := W.1 q9
      refine ts_ldc (v := (-1000001)) (pc' := 51) rfl dX12_chance_49 (by decide +kernel) ?_
      exact ts_iret dX12_chance_51 rfl (Nat.le_refl _) (Nat.le_refl _) ⟨rfl, _, rfl, W⟩
    · replace W := W.2 q9
      refine ts_iload_n 3 (pc' := 19) rfl dX12_chance_18 rfl rfl ?_
      refine ts_iconst (v := 0) (pc' := 20) rfl dX12_chance_19 (by decide) ?_
      refine ts_bipush (v := 8) (pc' := 22) rfl dX12_chance_20 (by decide) ?_
      refine ts_callS (M' := mX12_in) (pc' := 25) (av := [.int p2, .int 0, .int 8]) rfl dX12_chance_22 rfl gX12_chance_X12_in rfl dsX12_in rfl (Nat.le_refl _) (Nat.le_of_ble_eq_true rfl) (Nat.le_of_ble_eq_true rfl) (Nat.le_refl _) (Nat.le_refl _) ts_kv0 W (ts_kki fun v12 hi10 hk11 W => ?_)
      refine ts_if_eq (pc' := 28) (tgt := 49) rfl dX12_chance_25 (by decide) (fun q13 => ?_) (fun q13 => ?_)
      · replace W := W.1 q13
        refine ts_ldc (v := (-1000001)) (pc' := 51) rfl dX12_chance_49 (by decide +kernel) ?_
        exact ts_iret dX12_chance_51 rfl (Nat.le_refl _) (Nat.le_refl _) ⟨rfl, _, rfl, W⟩
      · replace W := W.2 q13
        refine ts_iload 4 (pc' := 30) rfl dX12_chance_28 rfl ?_
        refine ts_iconst (v := 0) (pc' := 31) rfl dX12_chance_30 (by decide) ?_
        refine ts_bipush (v := 10) (pc' := 33) rfl dX12_chance_31 (by decide) ?_
        refine ts_callS (M' := mX12_in) (pc' := 36) (av := [.int p3, .int 0, .int 10]) rfl dX12_chance_33 rfl gX12_chance_X12_in rfl dsX12_in rfl (Nat.le_refl _) (Nat.le_of_ble_eq_true rfl) (Nat.le_of_ble_eq_true rfl) (Nat.le_refl _) (Nat.le_refl _) ts_kv0 W (ts_kki fun v16 hi14 hk15 W => ?_)
        refine ts_if_eq (pc' := 39) (tgt := 49) rfl dX12_chance_36 (by decide) (fun q17 => ?_) (fun q17 => ?_)
        · replace W := W.1 q17
          refine ts_ldc (v := (-1000001)) (pc' := 51) rfl dX12_chance_49 (by decide +kernel) ?_
          exact ts_iret dX12_chance_51 rfl (Nat.le_refl _) (Nat.le_refl _) ⟨rfl, _, rfl, W⟩
        · replace W := W.2 q17
          refine ts_iload 5 (pc' := 41) rfl dX12_chance_39 rfl ?_
          refine ts_iconst (v := 0) (pc' := 42) rfl dX12_chance_41 (by decide) ?_
          refine ts_iconst (v := 1) (pc' := 43) rfl dX12_chance_42 (by decide) ?_
          refine ts_callS (M' := mX12_in) (pc' := 46) (av := [.int p4, .int 0, .int 1]) rfl dX12_chance_43 rfl gX12_chance_X12_in rfl dsX12_in rfl (Nat.le_refl _) (Nat.le_of_ble_eq_true rfl) (Nat.le_of_ble_eq_true rfl) (Nat.le_refl _) (Nat.le_refl _) ts_kv0 W (ts_kki fun v20 hi18 hk19 W => ?_)
          refine ts_if_ne (pc' := 49) (tgt := 52) rfl dX12_chance_46 (by decide) (fun q21 => ?_) (fun q21 => ?_)
          · replace W := W.1 q21
            refine ts_iconst (v := 0) (pc' := 53) rfl dX12_chance_52 (by decide) ?_
            refine ts_istore (pc' := 55) (ls' := [(6, .int 0), (0, .ref o), (1, .int p0), (2, .int p1), (3, .int p2), (4, .int p3), (5, .int p4)]) rfl dX12_chance_53 (Nat.le_of_ble_eq_true rfl) rfl ?_
            refine ts_iconst (v := 1) (pc' := 56) rfl dX12_chance_55 (by decide) ?_
            refine ts_istore (pc' := 58) (ls' := [(7, .int 1), (6, .int 0), (0, .ref o), (1, .int p0), (2, .int p1), (3, .int p2), (4, .int p3), (5, .int p4)]) rfl dX12_chance_56 (Nat.le_of_ble_eq_true rfl) rfl ?_
            refine ts_iconst (v := 0) (pc' := 59) rfl dX12_chance_58 (by decide) ?_
            refine ts_istore (pc' := 61) (ls' := [(8, .int 0), (7, .int 1), (6, .int 0), (0, .ref o), (1, .int p0), (2, .int p1), (3, .int p2), (4, .int p3), (5, .int p4)]) rfl dX12_chance_59 (Nat.le_of_ble_eq_true rfl) rfl ?_
            exact ts_sub [3, 4, 5, 6, 7, 8, 2, 1, 0] rfl W
          · replace W := W.2 q21
            refine ts_ldc (v := (-1000001)) (pc' := 51) rfl dX12_chance_49 (by decide +kernel) ?_
            exact ts_iret dX12_chance_51 rfl (Nat.le_refl _) (Nat.le_refl _) ⟨rfl, _, rfl, W⟩
set_option maxHeartbeats 4000000 in
theorem wX12_chance_61 {d : Nat} {g : ts_G} {Q : Int32 → ts_I → ts_K → Prop} {l0 : Nat} {l1 : Int32} {l2 : Int32} {l3 : Int32} {l4 : Int32} {l5 : Int32} {l6 : Int32} {l7 : Int32} {l8 : Int32} {hi : ts_I} {hk : ts_K} (W : ((l3 ≤ l8) → ts_J0 (d + 1) mX12_chance (ts_qi Q) g 83 [(0, .ref l0), (1, .int l1), (2, .int l2), (3, .int l3), (4, .int l4), (5, .int l5), (6, .int l6), (7, .int l7), (8, .int 0)] [] hi hk) ∧ (¬ (l3 ≤ l8) → ts_J0 (d + 1) mX12_chance (ts_qi Q) g 61 [(0, .ref l0), (1, .int l1), (2, .int l2), (3, .int l3), (4, .int l4), (5, .int l5), (6, .int l6), (7, .int (l7 * 10)), (8, .int (l8 + 1))] [] hi hk)) : ts_J0 (d + 1) mX12_chance (ts_qi Q) g 61 [(0, .ref l0), (1, .int l1), (2, .int l2), (3, .int l3), (4, .int l4), (5, .int l5), (6, .int l6), (7, .int l7), (8, .int l8)] [] hi hk := by
  refine ts_iload 8 (pc' := 63) rfl dX12_chance_61 rfl ?_
  refine ts_iload_n 3 (pc' := 64) rfl dX12_chance_63 rfl rfl ?_
  refine ts_icmp_ge (pc' := 67) (tgt := 80) rfl dX12_chance_64 (by decide) (fun q1 => ?_) (fun q1 => ?_)
  · replace W := W.1 q1
    refine ts_iconst (v := 0) (pc' := 81) rfl dX12_chance_80 (by decide) ?_
    refine ts_istore (pc' := 83) (ls' := [(8, .int 0), (0, .ref l0), (1, .int l1), (2, .int l2), (3, .int l3), (4, .int l4), (5, .int l5), (6, .int l6), (7, .int l7)]) rfl dX12_chance_81 (Nat.le_of_ble_eq_true rfl) rfl ?_
    exact ts_sub [1, 2, 3, 4, 5, 6, 7, 8, 0] rfl W
  · replace W := W.2 q1
    refine ts_iload 7 (pc' := 69) rfl dX12_chance_67 rfl ?_
    refine ts_bipush (v := 10) (pc' := 71) rfl dX12_chance_69 (by decide) ?_
    refine ts_imul (pc' := 72) rfl dX12_chance_71 ?_
    refine ts_istore (pc' := 74) (ls' := [(7, .int (l7 * 10)), (0, .ref l0), (1, .int l1), (2, .int l2), (3, .int l3), (4, .int l4), (5, .int l5), (6, .int l6), (8, .int l8)]) rfl dX12_chance_72 (Nat.le_of_ble_eq_true rfl) rfl ?_
    refine ts_iinc 8 (pc' := 77) (ls' := [(8, .int (l8 + 1)), (7, .int (l7 * 10)), (0, .ref l0), (1, .int l1), (2, .int l2), (3, .int l3), (4, .int l4), (5, .int l5), (6, .int l6)]) rfl dX12_chance_74 rfl rfl (Nat.le_of_ble_eq_true rfl) rfl ?_
    refine ts_goto (tgt := 61) dX12_chance_77 (by decide) ?_
    exact ts_sub [2, 3, 4, 5, 6, 7, 8, 1, 0] rfl W
set_option maxHeartbeats 4000000 in
theorem wX12_chance_83 {d : Nat} {g : ts_G} {Q : Int32 → ts_I → ts_K → Prop} {l0 : Nat} {l1 : Int32} {l2 : Int32} {l3 : Int32} {l4 : Int32} {l5 : Int32} {l6 : Int32} {l7 : Int32} {l8 : Int32} {hi : ts_I} {hk : ts_K} (W : (((1 <<< (l3 &&& 31)) ≤ l8) → ts_J0 (d + 1) mX12_chance (ts_qi Q) g 219 [(5, .int l5), (6, .int l6), (7, .int l7), (8, .int l6), (9, .int l7)] [] hi hk) ∧ (¬ ((1 <<< (l3 &&& 31)) ≤ l8) → (g.2.1 l0 = 11) ∧ (g.2.2.2 l0 13 ≠ 0) ∧ (g.2.2.2 l0 15 ≠ 0) ∧ ts_E0 d mX12_copies [.ref (g.2.2.2 l0 13), .int 0, .ref (g.2.2.2 l0 15), .int 0] g hi hk (ts_qv (fun hi5 hk6 => ts_J0 (d + 1) mX12_chance (ts_qi Q) g 110 [(0, .ref l0), (1, .int l1), (2, .int l2), (3, .int l3), (4, .int l4), (5, .int l5), (6, .int l6), (7, .int l7), (8, .int l8), (9, .int 1), (10, .int 0)] [] hi5 hk6)))) : ts_J0 (d + 1) mX12_chance (ts_qi Q) g 83 [(0, .ref l0), (1, .int l1), (2, .int l2), (3, .int l3), (4, .int l4), (5, .int l5), (6, .int l6), (7, .int l7), (8, .int l8)] [] hi hk := by
  refine ts_iload 8 (pc' := 85) rfl dX12_chance_83 rfl ?_
  refine ts_iconst (v := 1) (pc' := 86) rfl dX12_chance_85 (by decide) ?_
  refine ts_iload_n 3 (pc' := 87) rfl dX12_chance_86 rfl rfl ?_
  refine ts_ishl (pc' := 88) rfl dX12_chance_87 ?_
  refine ts_icmp_ge (pc' := 91) (tgt := 211) rfl dX12_chance_88 (by decide) (fun q1 => ?_) (fun q1 => ?_)
  · replace W := W.1 q1
    refine ts_iload 6 (pc' := 213) rfl dX12_chance_211 rfl ?_
    refine ts_istore (pc' := 215) (ls' := [(8, .int l6), (0, .ref l0), (1, .int l1), (2, .int l2), (3, .int l3), (4, .int l4), (5, .int l5), (6, .int l6), (7, .int l7)]) rfl dX12_chance_213 (Nat.le_of_ble_eq_true rfl) rfl ?_
    refine ts_iload 8 (pc' := 217) rfl dX12_chance_215 rfl ?_
    refine ts_istore (pc' := 219) (ls' := [(9, .int l7), (8, .int l6), (0, .ref l0), (1, .int l1), (2, .int l2), (3, .int l3), (4, .int l4), (5, .int l5), (6, .int l6), (7, .int l7)]) rfl dX12_chance_217 (Nat.le_of_ble_eq_true rfl) rfl ?_
    exact ts_sub [7, 8, 9, 1, 0] rfl W
  · replace W := W.2 q1
    refine ts_iconst (v := 1) (pc' := 92) rfl dX12_chance_91 (by decide) ?_
    refine ts_istore (pc' := 94) (ls' := [(9, .int 1), (0, .ref l0), (1, .int l1), (2, .int l2), (3, .int l3), (4, .int l4), (5, .int l5), (6, .int l6), (7, .int l7), (8, .int l8)]) rfl dX12_chance_92 (Nat.le_of_ble_eq_true rfl) rfl ?_
    refine ts_aload_n 1 (pc' := 95) rfl dX12_chance_94 rfl rfl ?_
    obtain ⟨c2, W⟩ := W
    obtain ⟨c3, W⟩ := W
    refine ts_getR (pc' := 98) (ci := 11) 13 cfX12.1 cfX12.2.1 cfX12.2.2 rfl (by decide) hnX12_chance_X12 flX12_chance_25 rfl dX12_chance_95 c2 c3 ?_
    refine ts_iconst (v := 0) (pc' := 99) rfl dX12_chance_98 (by decide) ?_
    refine ts_aload_n 1 (pc' := 100) rfl dX12_chance_99 rfl rfl ?_
    obtain ⟨c4, W⟩ := W
    refine ts_getR (pc' := 103) (ci := 11) 15 cfX12.1 cfX12.2.1 cfX12.2.2 rfl (by decide) hnX12_chance_X12 flX12_chance_31 rfl dX12_chance_100 c2 c4 ?_
    refine ts_iconst (v := 0) (pc' := 104) rfl dX12_chance_103 (by decide) ?_
    refine ts_callS (M' := mX12_copies) (pc' := 107) (av := [.ref (g.2.2.2 l0 13), .int 0, .ref (g.2.2.2 l0 15), .int 0]) rfl dX12_chance_104 rfl gX12_chance_X12_copies rfl dsX12_copies rfl (Nat.le_refl _) (Nat.le_of_ble_eq_true rfl) (Nat.le_of_ble_eq_true rfl) (Nat.le_refl _) (Nat.le_refl _) ts_kv0 W (ts_kkv fun hi5 hk6 W => ?_)
    refine ts_iconst (v := 0) (pc' := 108) rfl dX12_chance_107 (by decide) ?_
    refine ts_istore (pc' := 110) (ls' := [(10, .int 0), (9, .int 1), (0, .ref l0), (1, .int l1), (2, .int l2), (3, .int l3), (4, .int l4), (5, .int l5), (6, .int l6), (7, .int l7), (8, .int l8)]) rfl dX12_chance_108 (Nat.le_of_ble_eq_true rfl) rfl ?_
    exact ts_sub [2, 3, 4, 5, 6, 7, 8, 9, 10, 1, 0] rfl W
set_option maxHeartbeats 4000000 in
theorem wX12_chance_219 {d : Nat} {g : ts_G} {Q : Int32 → ts_I → ts_K → Prop} {l5 : Int32} {l6 : Int32} {l7 : Int32} {l8 : Int32} {l9 : Int32} {hi : ts_I} {hk : ts_K} (W : ((l9 = 0) → ((l5 ≠ 0) → (¬ l8 = 0) ∧ Q (l7 / l8) hi hk) ∧ (¬ (l5 ≠ 0) → (¬ l8 = 0) ∧ Q (l6 / l8) hi hk)) ∧ (¬ (l9 = 0) → (¬ l9 = 0) ∧ ts_J0 (d + 1) mX12_chance (ts_qi Q) g 219 [(5, .int l5), (6, .int l6), (7, .int l7), (8, .int l9), (9, .int (l8 - l8 / l9 * l9))] [] hi hk)) : ts_J0 (d + 1) mX12_chance (ts_qi Q) g 219 [(5, .int l5), (6, .int l6), (7, .int l7), (8, .int l8), (9, .int l9)] [] hi hk := by
  refine ts_iload 4 (pc' := 221) rfl dX12_chance_219 rfl ?_
  refine ts_if_eq (pc' := 224) (tgt := 242) rfl dX12_chance_221 (by decide) (fun q1 => ?_) (fun q1 => ?_)
  · replace W := W.1 q1
    refine ts_iload 0 (pc' := 244) rfl dX12_chance_242 rfl ?_
    refine ts_if_ne (pc' := 247) (tgt := 252) rfl dX12_chance_244 (by decide) (fun q2 => ?_) (fun q2 => ?_)
    · replace W := W.1 q2
      refine ts_iload 2 (pc' := 254) rfl dX12_chance_252 rfl ?_
      refine ts_iload 3 (pc' := 256) rfl dX12_chance_254 rfl ?_
      obtain ⟨c3, W⟩ := W
      refine ts_idiv (pc' := 257) rfl dX12_chance_256 c3 ?_
      exact ts_iret dX12_chance_257 rfl (Nat.le_refl _) (Nat.le_refl _) ⟨rfl, _, rfl, W⟩
    · replace W := W.2 q2
      refine ts_iload 1 (pc' := 249) rfl dX12_chance_247 rfl ?_
      refine ts_goto (tgt := 254) dX12_chance_249 (by decide) ?_
      refine ts_iload 3 (pc' := 256) rfl dX12_chance_254 rfl ?_
      obtain ⟨c4, W⟩ := W
      refine ts_idiv (pc' := 257) rfl dX12_chance_256 c4 ?_
      exact ts_iret dX12_chance_257 rfl (Nat.le_refl _) (Nat.le_refl _) ⟨rfl, _, rfl, W⟩
  · replace W := W.2 q1
    refine ts_iload 3 (pc' := 226) rfl dX12_chance_224 rfl ?_
    refine ts_iload 4 (pc' := 228) rfl dX12_chance_226 rfl ?_
    obtain ⟨c5, W⟩ := W
    refine ts_irem (pc' := 229) rfl dX12_chance_228 c5 ?_
    refine ts_istore (pc' := 231) (ls' := [(10, .int (l8 - l8 / l9 * l9)), (5, .int l5), (6, .int l6), (7, .int l7), (8, .int l8), (9, .int l9)]) rfl dX12_chance_229 (Nat.le_of_ble_eq_true rfl) rfl ?_
    refine ts_iload 5 (pc' := 233) rfl dX12_chance_231 rfl ?_
    refine ts_istore (pc' := 235) (ls' := [(8, .int l9), (10, .int (l8 - l8 / l9 * l9)), (5, .int l5), (6, .int l6), (7, .int l7), (9, .int l9)]) rfl dX12_chance_233 (Nat.le_of_ble_eq_true rfl) rfl ?_
    refine ts_iload 1 (pc' := 237) rfl dX12_chance_235 rfl ?_
    refine ts_istore (pc' := 239) (ls' := [(9, .int (l8 - l8 / l9 * l9)), (8, .int l9), (10, .int (l8 - l8 / l9 * l9)), (5, .int l5), (6, .int l6), (7, .int l7)]) rfl dX12_chance_237 (Nat.le_of_ble_eq_true rfl) rfl ?_
    refine ts_goto (tgt := 219) dX12_chance_239 (by decide) ?_
    exact ts_sub [3, 4, 5, 1, 0] rfl W
set_option maxHeartbeats 4000000 in
theorem wX12_chance_110 {d : Nat} {g : ts_G} {Q : Int32 → ts_I → ts_K → Prop} {l0 : Nat} {l1 : Int32} {l2 : Int32} {l3 : Int32} {l4 : Int32} {l5 : Int32} {l6 : Int32} {l7 : Int32} {l8 : Int32} {l9 : Int32} {l10 : Int32} {hi : ts_I} {hk : ts_K} (W : ((l3 ≤ l10) → (g.2.1 l0 = 11) ∧ (g.2.2.2 l0 15 ≠ 0) ∧ (g.2.1 (g.2.2.2 l0 15) = 100) ∧ (vp_in ((4 + (6 * l1)) + 1) (g.2.2.1 (g.2.2.2 l0 15))) ∧ (((hi (g.2.2.2 l0 15) ((4 + (6 * l1)) + 1).toNatClampNeg) < l2) → ts_J0 (d + 1) mX12_chance (ts_qi Q) g 83 [(0, .ref l0), (1, .int l1), (2, .int l2), (3, .int l3), (4, .int l4), (5, .int l5), (6, .int (l6 + 0)), (7, .int l7), (8, .int (l8 + 1))] [] hi hk) ∧ (¬ ((hi (g.2.2.2 l0 15) ((4 + (6 * l1)) + 1).toNatClampNeg) < l2) → ts_J0 (d + 1) mX12_chance (ts_qi Q) g 83 [(0, .ref l0), (1, .int l1), (2, .int l2), (3, .int l3), (4, .int l4), (5, .int l5), (6, .int (l6 + l9)), (7, .int l7), (8, .int (l8 + 1))] [] hi hk)) ∧ (¬ (l3 ≤ l10) → ts_E0 d mX12_has [.int l8, .int l10] g hi hk (ts_qi (fun v9 hi7 hk8 => ((v9 = 0) → (g.2.1 l0 = 11) ∧ (g.2.2.2 l0 15 ≠ 0) ∧ ts_E0 d mX12_has [.int l8, .int l10] g hi7 hk8 (ts_qi (fun v15 hi13 hk14 => ((v15 = 0) → (g.2.1 (g.2.2.2 l0 15) = 100) ∧ (vp_in 1 (g.2.2.1 (g.2.2.2 l0 15))) ∧ ∀ hi19 : ts_I, hi19 = ts_up hi13 (g.2.2.2 l0 15) (1 : Int32).toNatClampNeg 0 → ts_E0 d mX12_passes [.ref l0, .ref (g.2.2.2 l0 15)] g hi19 hk14 (ts_qv (fun hi20 hk21 => ts_J0 (d + 1) mX12_chance (ts_qi Q) g 110 [(0, .ref l0), (1, .int l1), (2, .int l2), (3, .int l3), (4, .int l4), (5, .int l5), (6, .int l6), (7, .int l7), (8, .int l8), (9, .int (l9 * (10 - l4))), (10, .int (l10 + 1))] [] hi20 hk21))) ∧ (¬ (v15 = 0) → (g.2.1 (g.2.2.2 l0 15) = 100) ∧ (vp_in 1 (g.2.2.1 (g.2.2.2 l0 15))) ∧ ∀ hi24 : ts_I, hi24 = ts_up hi13 (g.2.2.2 l0 15) (1 : Int32).toNatClampNeg 15 → ts_E0 d mX12_passes [.ref l0, .ref (g.2.2.2 l0 15)] g hi24 hk14 (ts_qv (fun hi25 hk26 => ts_J0 (d + 1) mX12_chance (ts_qi Q) g 110 [(0, .ref l0), (1, .int l1), (2, .int l2), (3, .int l3), (4, .int l4), (5, .int l5), (6, .int l6), (7, .int l7), (8, .int l8), (9, .int (l9 * (10 - l4))), (10, .int (l10 + 1))] [] hi25 hk26)))))) ∧ (¬ (v9 = 0) → (g.2.1 l0 = 11) ∧ (g.2.2.2 l0 15 ≠ 0) ∧ ts_E0 d mX12_has [.int l8, .int l10] g hi7 hk8 (ts_qi (fun v31 hi29 hk30 => ((v31 = 0) → (g.2.1 (g.2.2.2 l0 15) = 100) ∧ (vp_in 1 (g.2.2.1 (g.2.2.2 l0 15))) ∧ ∀ hi35 : ts_I, hi35 = ts_up hi29 (g.2.2.2 l0 15) (1 : Int32).toNatClampNeg 0 → ts_E0 d mX12_passes [.ref l0, .ref (g.2.2.2 l0 15)] g hi35 hk30 (ts_qv (fun hi36 hk37 => ts_J0 (d + 1) mX12_chance (ts_qi Q) g 110 [(0, .ref l0), (1, .int l1), (2, .int l2), (3, .int l3), (4, .int l4), (5, .int l5), (6, .int l6), (7, .int l7), (8, .int l8), (9, .int (l9 * l4)), (10, .int (l10 + 1))] [] hi36 hk37))) ∧ (¬ (v31 = 0) → (g.2.1 (g.2.2.2 l0 15) = 100) ∧ (vp_in 1 (g.2.2.1 (g.2.2.2 l0 15))) ∧ ∀ hi40 : ts_I, hi40 = ts_up hi29 (g.2.2.2 l0 15) (1 : Int32).toNatClampNeg 15 → ts_E0 d mX12_passes [.ref l0, .ref (g.2.2.2 l0 15)] g hi40 hk30 (ts_qv (fun hi41 hk42 => ts_J0 (d + 1) mX12_chance (ts_qi Q) g 110 [(0, .ref l0), (1, .int l1), (2, .int l2), (3, .int l3), (4, .int l4), (5, .int l5), (6, .int l6), (7, .int l7), (8, .int l8), (9, .int (l9 * l4)), (10, .int (l10 + 1))] [] hi41 hk42)))))))))) : ts_J0 (d + 1) mX12_chance (ts_qi Q) g 110 [(0, .ref l0), (1, .int l1), (2, .int l2), (3, .int l3), (4, .int l4), (5, .int l5), (6, .int l6), (7, .int l7), (8, .int l8), (9, .int l9), (10, .int l10)] [] hi hk := by
  refine ts_iload 10 (pc' := 112) rfl dX12_chance_110 rfl ?_
  refine ts_iload_n 3 (pc' := 113) rfl dX12_chance_112 rfl rfl ?_
  refine ts_icmp_ge (pc' := 116) (tgt := 177) rfl dX12_chance_113 (by decide) (fun q1 => ?_) (fun q1 => ?_)
  · replace W := W.1 q1
    refine ts_iload 6 (pc' := 179) rfl dX12_chance_177 rfl ?_
    refine ts_aload_n 0 (pc' := 180) rfl dX12_chance_179 rfl rfl ?_
    obtain ⟨c2, W⟩ := W
    obtain ⟨c3, W⟩ := W
    refine ts_getR (pc' := 183) (ci := 11) 15 cfX12.1 cfX12.2.1 cfX12.2.2 rfl (by decide) hnX12_chance_X12 flX12_chance_31 rfl dX12_chance_180 c2 c3 ?_
    refine ts_iconst (v := 4) (pc' := 184) rfl dX12_chance_183 (by decide) ?_
    refine ts_bipush (v := 6) (pc' := 186) rfl dX12_chance_184 (by decide) ?_
    refine ts_iload_n 1 (pc' := 187) rfl dX12_chance_186 rfl rfl ?_
    refine ts_imul (pc' := 188) rfl dX12_chance_187 ?_
    refine ts_iadd (pc' := 189) rfl dX12_chance_188 ?_
    refine ts_iconst (v := 1) (pc' := 190) rfl dX12_chance_189 (by decide) ?_
    refine ts_iadd (pc' := 191) rfl dX12_chance_190 ?_
    obtain ⟨c4, W⟩ := W
    obtain ⟨c5, W⟩ := W
    refine ts_iaload (pc' := 192) rfl dX12_chance_191 c4 c5 ?_
    refine ts_iload_n 2 (pc' := 193) rfl dX12_chance_192 rfl rfl ?_
    refine ts_icmp_lt (pc' := 196) (tgt := 201) rfl dX12_chance_193 (by decide) (fun q6 => ?_) (fun q6 => ?_)
    · replace W := W.1 q6
      refine ts_iconst (v := 0) (pc' := 202) rfl dX12_chance_201 (by decide) ?_
      refine ts_iadd (pc' := 203) rfl dX12_chance_202 ?_
      refine ts_istore (pc' := 205) (ls' := [(6, .int (l6 + 0)), (0, .ref l0), (1, .int l1), (2, .int l2), (3, .int l3), (4, .int l4), (5, .int l5), (7, .int l7), (8, .int l8), (9, .int l9), (10, .int l10)]) rfl dX12_chance_203 (Nat.le_of_ble_eq_true rfl) rfl ?_
      refine ts_iinc 8 (pc' := 208) (ls' := [(8, .int (l8 + 1)), (6, .int (l6 + 0)), (0, .ref l0), (1, .int l1), (2, .int l2), (3, .int l3), (4, .int l4), (5, .int l5), (7, .int l7), (9, .int l9), (10, .int l10)]) rfl dX12_chance_205 rfl rfl (Nat.le_of_ble_eq_true rfl) rfl ?_
      refine ts_goto (tgt := 83) dX12_chance_208 (by decide) ?_
      exact ts_sub [2, 3, 4, 5, 6, 7, 1, 8, 0] rfl W
    · replace W := W.2 q6
      refine ts_iload 9 (pc' := 198) rfl dX12_chance_196 rfl ?_
      refine ts_goto (tgt := 202) dX12_chance_198 (by decide) ?_
      refine ts_iadd (pc' := 203) rfl dX12_chance_202 ?_
      refine ts_istore (pc' := 205) (ls' := [(6, .int (l6 + l9)), (0, .ref l0), (1, .int l1), (2, .int l2), (3, .int l3), (4, .int l4), (5, .int l5), (7, .int l7), (8, .int l8), (9, .int l9), (10, .int l10)]) rfl dX12_chance_203 (Nat.le_of_ble_eq_true rfl) rfl ?_
      refine ts_iinc 8 (pc' := 208) (ls' := [(8, .int (l8 + 1)), (6, .int (l6 + l9)), (0, .ref l0), (1, .int l1), (2, .int l2), (3, .int l3), (4, .int l4), (5, .int l5), (7, .int l7), (9, .int l9), (10, .int l10)]) rfl dX12_chance_205 rfl rfl (Nat.le_of_ble_eq_true rfl) rfl ?_
      refine ts_goto (tgt := 83) dX12_chance_208 (by decide) ?_
      exact ts_sub [2, 3, 4, 5, 6, 7, 1, 8, 0] rfl W
  · replace W := W.2 q1
    refine ts_iload 9 (pc' := 118) rfl dX12_chance_116 rfl ?_
    refine ts_iload 8 (pc' := 120) rfl dX12_chance_118 rfl ?_
    refine ts_iload 10 (pc' := 122) rfl dX12_chance_120 rfl ?_
    refine ts_callS (M' := mX12_has) (pc' := 125) (av := [.int l8, .int l10]) rfl dX12_chance_122 rfl gX12_chance_X12_has rfl dsX12_has rfl (Nat.le_refl _) (Nat.le_of_ble_eq_true rfl) (Nat.le_of_ble_eq_true rfl) (Nat.le_refl _) (Nat.le_refl _) ts_kv0 W (ts_kki fun v9 hi7 hk8 W => ?_)
    refine ts_if_eq (pc' := 128) (tgt := 133) rfl dX12_chance_125 (by decide) (fun q10 => ?_) (fun q10 => ?_)
    · replace W := W.1 q10
      refine ts_bipush (v := 10) (pc' := 135) rfl dX12_chance_133 (by decide) ?_
      refine ts_iload 4 (pc' := 137) rfl dX12_chance_135 rfl ?_
      refine ts_isub (pc' := 138) rfl dX12_chance_137 ?_
      refine ts_imul (pc' := 139) rfl dX12_chance_138 ?_
      refine ts_istore (pc' := 141) (ls' := [(9, .int (l9 * (10 - l4))), (0, .ref l0), (1, .int l1), (2, .int l2), (3, .int l3), (4, .int l4), (5, .int l5), (6, .int l6), (7, .int l7), (8, .int l8), (10, .int l10)]) rfl dX12_chance_139 (Nat.le_of_ble_eq_true rfl) rfl ?_
      refine ts_aload_n 1 (pc' := 142) rfl dX12_chance_141 rfl rfl ?_
      obtain ⟨c11, W⟩ := W
      obtain ⟨c12, W⟩ := W
      refine ts_getR (pc' := 145) (ci := 11) 15 cfX12.1 cfX12.2.1 cfX12.2.2 rfl (by decide) hnX12_chance_X12 flX12_chance_31 rfl dX12_chance_142 c11 c12 ?_
      refine ts_iconst (v := 1) (pc' := 146) rfl dX12_chance_145 (by decide) ?_
      refine ts_iload 9 (pc' := 148) rfl dX12_chance_146 rfl ?_
      refine ts_iload 10 (pc' := 150) rfl dX12_chance_148 rfl ?_
      refine ts_callS (M' := mX12_has) (pc' := 153) (av := [.int l8, .int l10]) rfl dX12_chance_150 rfl gX12_chance_X12_has rfl dsX12_has rfl (Nat.le_refl _) (Nat.le_of_ble_eq_true rfl) (Nat.le_of_ble_eq_true rfl) (Nat.le_refl _) (Nat.le_refl _) ts_kv0 W (ts_kki fun v15 hi13 hk14 W => ?_)
      refine ts_if_eq (pc' := 156) (tgt := 161) rfl dX12_chance_153 (by decide) (fun q16 => ?_) (fun q16 => ?_)
      · replace W := W.1 q16
        refine ts_iconst (v := 0) (pc' := 162) rfl dX12_chance_161 (by decide) ?_
        obtain ⟨c17, W⟩ := W
        obtain ⟨c18, W⟩ := W
        refine ts_iastore (pc' := 163) rfl dX12_chance_162 c17 c18 ?_
        obtain ⟨hi19, ehi19⟩ : ∃ z, z = ts_up hi13 (g.2.2.2 l0 15) (1 : Int32).toNatClampNeg 0 := ⟨_, rfl⟩
        rw [← ehi19]; replace W := W hi19 ehi19
        refine ts_aload_n 1 (pc' := 164) rfl dX12_chance_163 rfl rfl ?_
        refine ts_aload_n 1 (pc' := 165) rfl dX12_chance_164 rfl rfl ?_
        refine ts_getR (pc' := 168) (ci := 11) 15 cfX12.1 cfX12.2.1 cfX12.2.2 rfl (by decide) hnX12_chance_X12 flX12_chance_31 rfl dX12_chance_165 c11 c12 ?_
        refine ts_callV (M' := mX12_passes) (C := RX12) (pc' := 171) (av := [.ref (g.2.2.2 l0 15)]) (b := l0) rfl dX12_chance_168 rfl gX12_chance_X12_passes rfl dvX12_passes rfl (ci := 11) cfX12.1 (by decide) c11 (Nat.le_refl _) (Nat.le_of_ble_eq_true rfl) (Nat.le_of_ble_eq_true rfl) (Nat.le_refl _) (Nat.le_refl _) ts_kv0 W (ts_kkv fun hi20 hk21 W => ?_)
        refine ts_iinc 10 (pc' := 174) (ls' := [(10, .int (l10 + 1)), (9, .int (l9 * (10 - l4))), (0, .ref l0), (1, .int l1), (2, .int l2), (3, .int l3), (4, .int l4), (5, .int l5), (6, .int l6), (7, .int l7), (8, .int l8)]) rfl dX12_chance_171 rfl rfl (Nat.le_of_ble_eq_true rfl) rfl ?_
        refine ts_goto (tgt := 110) dX12_chance_174 (by decide) ?_
        exact ts_sub [2, 3, 4, 5, 6, 7, 8, 9, 10, 1, 0] rfl W
      · replace W := W.2 q16
        refine ts_bipush (v := 15) (pc' := 158) rfl dX12_chance_156 (by decide) ?_
        refine ts_goto (tgt := 162) dX12_chance_158 (by decide) ?_
        obtain ⟨c22, W⟩ := W
        obtain ⟨c23, W⟩ := W
        refine ts_iastore (pc' := 163) rfl dX12_chance_162 c22 c23 ?_
        obtain ⟨hi24, ehi24⟩ : ∃ z, z = ts_up hi13 (g.2.2.2 l0 15) (1 : Int32).toNatClampNeg 15 := ⟨_, rfl⟩
        rw [← ehi24]; replace W := W hi24 ehi24
        refine ts_aload_n 1 (pc' := 164) rfl dX12_chance_163 rfl rfl ?_
        refine ts_aload_n 1 (pc' := 165) rfl dX12_chance_164 rfl rfl ?_
        refine ts_getR (pc' := 168) (ci := 11) 15 cfX12.1 cfX12.2.1 cfX12.2.2 rfl (by decide) hnX12_chance_X12 flX12_chance_31 rfl dX12_chance_165 c11 c12 ?_
        refine ts_callV (M' := mX12_passes) (C := RX12) (pc' := 171) (av := [.ref (g.2.2.2 l0 15)]) (b := l0) rfl dX12_chance_168 rfl gX12_chance_X12_passes rfl dvX12_passes rfl (ci := 11) cfX12.1 (by decide) c11 (Nat.le_refl _) (Nat.le_of_ble_eq_true rfl) (Nat.le_of_ble_eq_true rfl) (Nat.le_refl _) (Nat.le_refl _) ts_kv0 W (ts_kkv fun hi25 hk26 W => ?_)
        refine ts_iinc 10 (pc' := 174) (ls' := [(10, .int (l10 + 1)), (9, .int (l9 * (10 - l4))), (0, .ref l0), (1, .int l1), (2, .int l2), (3, .int l3), (4, .int l4), (5, .int l5), (6, .int l6), (7, .int l7), (8, .int l8)]) rfl dX12_chance_171 rfl rfl (Nat.le_of_ble_eq_true rfl) rfl ?_
        refine ts_goto (tgt := 110) dX12_chance_174 (by decide) ?_
        exact ts_sub [2, 3, 4, 5, 6, 7, 8, 9, 10, 1, 0] rfl W
    · replace W := W.2 q10
      refine ts_iload 4 (pc' := 130) rfl dX12_chance_128 rfl ?_
      refine ts_goto (tgt := 138) dX12_chance_130 (by decide) ?_
      refine ts_imul (pc' := 139) rfl dX12_chance_138 ?_
      refine ts_istore (pc' := 141) (ls' := [(9, .int (l9 * l4)), (0, .ref l0), (1, .int l1), (2, .int l2), (3, .int l3), (4, .int l4), (5, .int l5), (6, .int l6), (7, .int l7), (8, .int l8), (10, .int l10)]) rfl dX12_chance_139 (Nat.le_of_ble_eq_true rfl) rfl ?_
      refine ts_aload_n 1 (pc' := 142) rfl dX12_chance_141 rfl rfl ?_
      obtain ⟨c27, W⟩ := W
      obtain ⟨c28, W⟩ := W
      refine ts_getR (pc' := 145) (ci := 11) 15 cfX12.1 cfX12.2.1 cfX12.2.2 rfl (by decide) hnX12_chance_X12 flX12_chance_31 rfl dX12_chance_142 c27 c28 ?_
      refine ts_iconst (v := 1) (pc' := 146) rfl dX12_chance_145 (by decide) ?_
      refine ts_iload 9 (pc' := 148) rfl dX12_chance_146 rfl ?_
      refine ts_iload 10 (pc' := 150) rfl dX12_chance_148 rfl ?_
      refine ts_callS (M' := mX12_has) (pc' := 153) (av := [.int l8, .int l10]) rfl dX12_chance_150 rfl gX12_chance_X12_has rfl dsX12_has rfl (Nat.le_refl _) (Nat.le_of_ble_eq_true rfl) (Nat.le_of_ble_eq_true rfl) (Nat.le_refl _) (Nat.le_refl _) ts_kv0 W (ts_kki fun v31 hi29 hk30 W => ?_)
      refine ts_if_eq (pc' := 156) (tgt := 161) rfl dX12_chance_153 (by decide) (fun q32 => ?_) (fun q32 => ?_)
      · replace W := W.1 q32
        refine ts_iconst (v := 0) (pc' := 162) rfl dX12_chance_161 (by decide) ?_
        obtain ⟨c33, W⟩ := W
        obtain ⟨c34, W⟩ := W
        refine ts_iastore (pc' := 163) rfl dX12_chance_162 c33 c34 ?_
        obtain ⟨hi35, ehi35⟩ : ∃ z, z = ts_up hi29 (g.2.2.2 l0 15) (1 : Int32).toNatClampNeg 0 := ⟨_, rfl⟩
        rw [← ehi35]; replace W := W hi35 ehi35
        refine ts_aload_n 1 (pc' := 164) rfl dX12_chance_163 rfl rfl ?_
        refine ts_aload_n 1 (pc' := 165) rfl dX12_chance_164 rfl rfl ?_
        refine ts_getR (pc' := 168) (ci := 11) 15 cfX12.1 cfX12.2.1 cfX12.2.2 rfl (by decide) hnX12_chance_X12 flX12_chance_31 rfl dX12_chance_165 c27 c28 ?_
        refine ts_callV (M' := mX12_passes) (C := RX12) (pc' := 171) (av := [.ref (g.2.2.2 l0 15)]) (b := l0) rfl dX12_chance_168 rfl gX12_chance_X12_passes rfl dvX12_passes rfl (ci := 11) cfX12.1 (by decide) c27 (Nat.le_refl _) (Nat.le_of_ble_eq_true rfl) (Nat.le_of_ble_eq_true rfl) (Nat.le_refl _) (Nat.le_refl _) ts_kv0 W (ts_kkv fun hi36 hk37 W => ?_)
        refine ts_iinc 10 (pc' := 174) (ls' := [(10, .int (l10 + 1)), (9, .int (l9 * l4)), (0, .ref l0), (1, .int l1), (2, .int l2), (3, .int l3), (4, .int l4), (5, .int l5), (6, .int l6), (7, .int l7), (8, .int l8)]) rfl dX12_chance_171 rfl rfl (Nat.le_of_ble_eq_true rfl) rfl ?_
        refine ts_goto (tgt := 110) dX12_chance_174 (by decide) ?_
        exact ts_sub [2, 3, 4, 5, 6, 7, 8, 9, 10, 1, 0] rfl W
      · replace W := W.2 q32
        refine ts_bipush (v := 15) (pc' := 158) rfl dX12_chance_156 (by decide) ?_
        refine ts_goto (tgt := 162) dX12_chance_158 (by decide) ?_
        obtain ⟨c38, W⟩ := W
        obtain ⟨c39, W⟩ := W
        refine ts_iastore (pc' := 163) rfl dX12_chance_162 c38 c39 ?_
        obtain ⟨hi40, ehi40⟩ : ∃ z, z = ts_up hi29 (g.2.2.2 l0 15) (1 : Int32).toNatClampNeg 15 := ⟨_, rfl⟩
        rw [← ehi40]; replace W := W hi40 ehi40
        refine ts_aload_n 1 (pc' := 164) rfl dX12_chance_163 rfl rfl ?_
        refine ts_aload_n 1 (pc' := 165) rfl dX12_chance_164 rfl rfl ?_
        refine ts_getR (pc' := 168) (ci := 11) 15 cfX12.1 cfX12.2.1 cfX12.2.2 rfl (by decide) hnX12_chance_X12 flX12_chance_31 rfl dX12_chance_165 c27 c28 ?_
        refine ts_callV (M' := mX12_passes) (C := RX12) (pc' := 171) (av := [.ref (g.2.2.2 l0 15)]) (b := l0) rfl dX12_chance_168 rfl gX12_chance_X12_passes rfl dvX12_passes rfl (ci := 11) cfX12.1 (by decide) c27 (Nat.le_refl _) (Nat.le_of_ble_eq_true rfl) (Nat.le_of_ble_eq_true rfl) (Nat.le_refl _) (Nat.le_refl _) ts_kv0 W (ts_kkv fun hi41 hk42 W => ?_)
        refine ts_iinc 10 (pc' := 174) (ls' := [(10, .int (l10 + 1)), (9, .int (l9 * l4)), (0, .ref l0), (1, .int l1), (2, .int l2), (3, .int l3), (4, .int l4), (5, .int l5), (6, .int l6), (7, .int l7), (8, .int l8)]) rfl dX12_chance_171 rfl rfl (Nat.le_of_ble_eq_true rfl) rfl ?_
        refine ts_goto (tgt := 110) dX12_chance_174 (by decide) ?_
        exact ts_sub [2, 3, 4, 5, 6, 7, 8, 9, 10, 1, 0] rfl W
theorem hnX12_drawn_X12 : ∀ w ∈ u_ws RX12 TX12 25, w ∈ wsX12_drawn := by decide +kernel
theorem flX12_drawn_25 : Cond.fieldLink RX12 25 "TurnipSquiresModel" "now" "[I" ∈ wsX12_drawn := by decide +kernel
theorem flX12_drawn_31 : Cond.fieldLink RX12 31 "TurnipSquiresModel" "tried" "[I" ∈ wsX12_drawn := by decide +kernel
set_option maxHeartbeats 4000000 in
theorem wX12_drawn_0 {d : Nat} {g : ts_G} {Q : Int32 → ts_I → ts_K → Prop} {o : Nat} {p0 : Int32} {p1 : Int32} {p2 : Int32} {hi : ts_I} {hk : ts_K} (W : (g.2.1 o = 11) ∧ ts_E0 d mX12_isField [.ref o] g hi hk (ts_qi (fun v3 hi1 hk2 => ((v3 ≠ 0) → ts_E0 d mX12_in [.int p0, .int 0, .int 60] g hi1 hk2 (ts_qi (fun v8 hi6 hk7 => ((v8 = 0) → Q (-1000001) hi6 hk7) ∧ (¬ (v8 = 0) → ts_E0 d mX12_in [.int p1, .int 1, .int 999999] g hi6 hk7 (ts_qi (fun v12 hi10 hk11 => ((v12 = 0) → Q (-1000001) hi10 hk11) ∧ (¬ (v12 = 0) → ts_E0 d mX12_in [.int p2, .int 0, .int 1] g hi10 hk11 (ts_qi (fun v16 hi14 hk15 => ((v16 ≠ 0) → (g.2.2.2 o 13 ≠ 0) ∧ (g.2.2.2 o 15 ≠ 0) ∧ ts_E0 d mX12_copies [.ref (g.2.2.2 o 13), .int 0, .ref (g.2.2.2 o 15), .int 0] g hi14 hk15 (ts_qv (fun hi20 hk21 => ts_J0 (d + 1) mX12_drawn (ts_qi Q) g 62 [(0, .ref o), (1, .int p0), (3, .int p2), (4, .long (p1).toInt64), (6, .int 0)] [] hi20 hk21))) ∧ (¬ (v16 ≠ 0) → Q (-1000001) hi14 hk15)))))))))) ∧ (¬ (v3 ≠ 0) → Q (-1000002) hi1 hk2)))) : ts_J0 (d + 1) mX12_drawn (ts_qi Q) g 0 [(0, .ref o), (1, .int p0), (2, .int p1), (3, .int p2)] [] hi hk := by
  refine ts_aload_n 0 (pc' := 1) rfl dX12_drawn_0 rfl rfl ?_
  obtain ⟨c4, W⟩ := W
  refine ts_callV (M' := mX12_isField) (C := RX12) (pc' := 4) (av := []) (b := o) rfl dX12_drawn_1 rfl gX12_drawn_X12_isField rfl dvX12_isField rfl (ci := 11) cfX12.1 (by decide) c4 (Nat.le_refl _) (Nat.le_of_ble_eq_true rfl) (Nat.le_of_ble_eq_true rfl) (Nat.le_refl _) (Nat.le_refl _) ts_kv0 W (ts_kki fun v3 hi1 hk2 W => ?_)
  refine ts_if_ne (pc' := 7) (tgt := 10) rfl dX12_drawn_4 (by decide) (fun q5 => ?_) (fun q5 => ?_)
  · replace W := W.1 q5
    refine ts_iload_n 1 (pc' := 11) rfl dX12_drawn_10 rfl rfl ?_
    refine ts_iconst (v := 0) (pc' := 12) rfl dX12_drawn_11 (by decide) ?_
    refine ts_bipush (v := 60) (pc' := 14) rfl dX12_drawn_12 (by decide) ?_
    refine ts_callS (M' := mX12_in) (pc' := 17) (av := [.int p0, .int 0, .int 60]) rfl dX12_drawn_14 rfl gX12_drawn_X12_in rfl dsX12_in rfl (Nat.le_refl _) (Nat.le_of_ble_eq_true rfl) (Nat.le_of_ble_eq_true rfl) (Nat.le_refl _) (Nat.le_refl _) ts_kv0 W (ts_kki fun v8 hi6 hk7 W => ?_)
    refine ts_if_eq (pc' := 20) (tgt := 39) rfl dX12_drawn_17 (by decide) (fun q9 => ?_) (fun q9 => ?_)
    · replace W := W.1 q9
      refine ts_ldc (v := (-1000001)) (pc' := 41) rfl dX12_drawn_39 (by decide +kernel) ?_
      exact ts_iret dX12_drawn_41 rfl (Nat.le_refl _) (Nat.le_refl _) ⟨rfl, _, rfl, W⟩
    · replace W := W.2 q9
      refine ts_iload_n 2 (pc' := 21) rfl dX12_drawn_20 rfl rfl ?_
      refine ts_iconst (v := 1) (pc' := 22) rfl dX12_drawn_21 (by decide) ?_
      refine ts_ldc (v := 999999) (pc' := 24) rfl dX12_drawn_22 (by decide +kernel) ?_
      refine ts_callS (M' := mX12_in) (pc' := 27) (av := [.int p1, .int 1, .int 999999]) rfl dX12_drawn_24 rfl gX12_drawn_X12_in rfl dsX12_in rfl (Nat.le_refl _) (Nat.le_of_ble_eq_true rfl) (Nat.le_of_ble_eq_true rfl) (Nat.le_refl _) (Nat.le_refl _) ts_kv0 W (ts_kki fun v12 hi10 hk11 W => ?_)
      refine ts_if_eq (pc' := 30) (tgt := 39) rfl dX12_drawn_27 (by decide) (fun q13 => ?_) (fun q13 => ?_)
      · replace W := W.1 q13
        refine ts_ldc (v := (-1000001)) (pc' := 41) rfl dX12_drawn_39 (by decide +kernel) ?_
        exact ts_iret dX12_drawn_41 rfl (Nat.le_refl _) (Nat.le_refl _) ⟨rfl, _, rfl, W⟩
      · replace W := W.2 q13
        refine ts_iload_n 3 (pc' := 31) rfl dX12_drawn_30 rfl rfl ?_
        refine ts_iconst (v := 0) (pc' := 32) rfl dX12_drawn_31 (by decide) ?_
        refine ts_iconst (v := 1) (pc' := 33) rfl dX12_drawn_32 (by decide) ?_
        refine ts_callS (M' := mX12_in) (pc' := 36) (av := [.int p2, .int 0, .int 1]) rfl dX12_drawn_33 rfl gX12_drawn_X12_in rfl dsX12_in rfl (Nat.le_refl _) (Nat.le_of_ble_eq_true rfl) (Nat.le_of_ble_eq_true rfl) (Nat.le_refl _) (Nat.le_refl _) ts_kv0 W (ts_kki fun v16 hi14 hk15 W => ?_)
        refine ts_if_ne (pc' := 39) (tgt := 42) rfl dX12_drawn_36 (by decide) (fun q17 => ?_) (fun q17 => ?_)
        · replace W := W.1 q17
          refine ts_aload_n 0 (pc' := 43) rfl dX12_drawn_42 rfl rfl ?_
          obtain ⟨c18, W⟩ := W
          refine ts_getR (pc' := 46) (ci := 11) 13 cfX12.1 cfX12.2.1 cfX12.2.2 rfl (by decide) hnX12_drawn_X12 flX12_drawn_25 rfl dX12_drawn_43 c4 c18 ?_
          refine ts_iconst (v := 0) (pc' := 47) rfl dX12_drawn_46 (by decide) ?_
          refine ts_aload_n 0 (pc' := 48) rfl dX12_drawn_47 rfl rfl ?_
          obtain ⟨c19, W⟩ := W
          refine ts_getR (pc' := 51) (ci := 11) 15 cfX12.1 cfX12.2.1 cfX12.2.2 rfl (by decide) hnX12_drawn_X12 flX12_drawn_31 rfl dX12_drawn_48 c4 c19 ?_
          refine ts_iconst (v := 0) (pc' := 52) rfl dX12_drawn_51 (by decide) ?_
          refine ts_callS (M' := mX12_copies) (pc' := 55) (av := [.ref (g.2.2.2 o 13), .int 0, .ref (g.2.2.2 o 15), .int 0]) rfl dX12_drawn_52 rfl gX12_drawn_X12_copies rfl dsX12_copies rfl (Nat.le_refl _) (Nat.le_of_ble_eq_true rfl) (Nat.le_of_ble_eq_true rfl) (Nat.le_refl _) (Nat.le_refl _) ts_kv0 W (ts_kkv fun hi20 hk21 W => ?_)
          refine ts_iload_n 2 (pc' := 56) rfl dX12_drawn_55 rfl rfl ?_
          refine ts_i2l (pc' := 57) rfl dX12_drawn_56 rfl ?_
          refine ts_lstore (pc' := 59) (ls' := [(4, .long (p1).toInt64), (0, .ref o), (1, .int p0), (2, .int p1), (3, .int p2)]) rfl dX12_drawn_57 (Nat.le_of_ble_eq_true rfl) rfl ?_
          refine ts_iconst (v := 0) (pc' := 60) rfl dX12_drawn_59 (by decide) ?_
          refine ts_istore (pc' := 62) (ls' := [(6, .int 0), (4, .long (p1).toInt64), (0, .ref o), (1, .int p0), (2, .int p1), (3, .int p2)]) rfl dX12_drawn_60 (Nat.le_of_ble_eq_true rfl) rfl ?_
          exact ts_sub [2, 3, 5, 1, 0] rfl W
        · replace W := W.2 q17
          refine ts_ldc (v := (-1000001)) (pc' := 41) rfl dX12_drawn_39 (by decide +kernel) ?_
          exact ts_iret dX12_drawn_41 rfl (Nat.le_refl _) (Nat.le_refl _) ⟨rfl, _, rfl, W⟩
  · replace W := W.2 q5
    refine ts_ldc (v := (-1000002)) (pc' := 9) rfl dX12_drawn_7 (by decide +kernel) ?_
    exact ts_iret dX12_drawn_9 rfl (Nat.le_refl _) (Nat.le_refl _) ⟨rfl, _, rfl, W⟩
set_option maxHeartbeats 4000000 in
theorem wX12_drawn_62 {d : Nat} {g : ts_G} {Q : Int32 → ts_I → ts_K → Prop} {l0 : Nat} {l1 : Int32} {l3 : Int32} {l4 : Int64} {l6 : Int32} {hi : ts_I} {hk : ts_K} (W : ((l1 ≤ l6) → (g.2.1 l0 = 11) ∧ (g.2.2.2 l0 15 ≠ 0) ∧ ((l3 ≠ 0) → ts_E0 d mX12_sumOf [.ref (g.2.2.2 l0 15), .int 2] g hi hk (ts_qi (fun v7 hi5 hk6 => Q v7 hi5 hk6))) ∧ (¬ (l3 ≠ 0) → ts_E0 d mX12_sumOf [.ref (g.2.2.2 l0 15), .int 1] g hi hk (ts_qi (fun v10 hi8 hk9 => Q v10 hi8 hk9)))) ∧ (¬ (l1 ≤ l6) → (g.2.1 l0 = 11) ∧ (g.2.2.2 l0 15 ≠ 0) ∧ (g.2.1 (g.2.2.2 l0 15) = 100) ∧ (vp_in 0 (g.2.2.1 (g.2.2.2 l0 15))) ∧ ∀ hi15 : ts_I, hi15 = ts_up hi (g.2.2.2 l0 15) (0 : Int32).toNatClampNeg (((((l4 * 16807) - (l4 * 16807) / 2147483647 * 2147483647) - ((l4 * 16807) - (l4 * 16807) / 2147483647 * 2147483647) / 9 * 9)).toInt32 + 1) → (g.2.2.2 l0 13 ≠ 0) ∧ (g.2.1 (g.2.2.2 l0 13) = 100) ∧ (vp_in 2 (g.2.2.1 (g.2.2.2 l0 13))) ∧ (¬ ((hi15 (g.2.2.2 l0 13) (2 : Int32).toNatClampNeg)).toInt64 = 0) ∧ (((lg_cmp (((l4 * 16807) - (l4 * 16807) / 2147483647 * 2147483647) - ((l4 * 16807) - (l4 * 16807) / 2147483647 * 2147483647) / 3 * 3) 0) ≠ 0) → ts_E0 d mX12_passes [.ref l0, .ref (g.2.2.2 l0 15)] g hi15 hk (ts_qv (fun hi21 hk22 => ts_J0 (d + 1) mX12_drawn (ts_qi Q) g 62 [(0, .ref l0), (1, .int l1), (3, .int l3), (4, .long ((l4 * 16807) - (l4 * 16807) / 2147483647 * 2147483647)), (6, .int (l6 + 1))] [] hi21 hk22))) ∧ (¬ ((lg_cmp (((l4 * 16807) - (l4 * 16807) / 2147483647 * 2147483647) - ((l4 * 16807) - (l4 * 16807) / 2147483647 * 2147483647) / 3 * 3) 0) ≠ 0) → ((((((l4 * 16807) - (l4 * 16807) / 2147483647 * 2147483647) - ((l4 * 16807) - (l4 * 16807) / 2147483647 * 2147483647) / ((hi15 (g.2.2.2 l0 13) (2 : Int32).toNatClampNeg)).toInt64 * ((hi15 (g.2.2.2 l0 13) (2 : Int32).toNatClampNeg)).toInt64)).toInt32 = (((((l4 * 16807) - (l4 * 16807) / 2147483647 * 2147483647) / 2) - (((l4 * 16807) - (l4 * 16807) / 2147483647 * 2147483647) / 2) / ((hi15 (g.2.2.2 l0 13) (2 : Int32).toNatClampNeg)).toInt64 * ((hi15 (g.2.2.2 l0 13) (2 : Int32).toNatClampNeg)).toInt64)).toInt32) → ts_E0 d mX12_passes [.ref l0, .ref (g.2.2.2 l0 15)] g hi15 hk (ts_qv (fun hi24 hk25 => ts_J0 (d + 1) mX12_drawn (ts_qi Q) g 62 [(0, .ref l0), (1, .int l1), (3, .int l3), (4, .long ((l4 * 16807) - (l4 * 16807) / 2147483647 * 2147483647)), (6, .int (l6 + 1))] [] hi24 hk25))) ∧ (¬ (((((l4 * 16807) - (l4 * 16807) / 2147483647 * 2147483647) - ((l4 * 16807) - (l4 * 16807) / 2147483647 * 2147483647) / ((hi15 (g.2.2.2 l0 13) (2 : Int32).toNatClampNeg)).toInt64 * ((hi15 (g.2.2.2 l0 13) (2 : Int32).toNatClampNeg)).toInt64)).toInt32 = (((((l4 * 16807) - (l4 * 16807) / 2147483647 * 2147483647) / 2) - (((l4 * 16807) - (l4 * 16807) / 2147483647 * 2147483647) / 2) / ((hi15 (g.2.2.2 l0 13) (2 : Int32).toNatClampNeg)).toInt64 * ((hi15 (g.2.2.2 l0 13) (2 : Int32).toNatClampNeg)).toInt64)).toInt32) → ts_E0 d mX12_changes [.ref (g.2.2.2 l0 15), .int ((((l4 * 16807) - (l4 * 16807) / 2147483647 * 2147483647) - ((l4 * 16807) - (l4 * 16807) / 2147483647 * 2147483647) / ((hi15 (g.2.2.2 l0 13) (2 : Int32).toNatClampNeg)).toInt64 * ((hi15 (g.2.2.2 l0 13) (2 : Int32).toNatClampNeg)).toInt64)).toInt32, .int (((((l4 * 16807) - (l4 * 16807) / 2147483647 * 2147483647) / 2) - (((l4 * 16807) - (l4 * 16807) / 2147483647 * 2147483647) / 2) / ((hi15 (g.2.2.2 l0 13) (2 : Int32).toNatClampNeg)).toInt64 * ((hi15 (g.2.2.2 l0 13) (2 : Int32).toNatClampNeg)).toInt64)).toInt32] g hi15 hk (ts_qv (fun hi26 hk27 => ts_E0 d mX12_passes [.ref l0, .ref (g.2.2.2 l0 15)] g hi26 hk27 (ts_qv (fun hi28 hk29 => ts_J0 (d + 1) mX12_drawn (ts_qi Q) g 62 [(0, .ref l0), (1, .int l1), (3, .int l3), (4, .long ((l4 * 16807) - (l4 * 16807) / 2147483647 * 2147483647)), (6, .int (l6 + 1))] [] hi28 hk29)))))))) : ts_J0 (d + 1) mX12_drawn (ts_qi Q) g 62 [(0, .ref l0), (1, .int l1), (3, .int l3), (4, .long l4), (6, .int l6)] [] hi hk := by
  refine ts_iload 4 (pc' := 64) rfl dX12_drawn_62 rfl ?_
  refine ts_iload_n 1 (pc' := 65) rfl dX12_drawn_64 rfl rfl ?_
  refine ts_icmp_ge (pc' := 68) (tgt := 168) rfl dX12_drawn_65 (by decide) (fun q1 => ?_) (fun q1 => ?_)
  · replace W := W.1 q1
    refine ts_aload_n 0 (pc' := 169) rfl dX12_drawn_168 rfl rfl ?_
    obtain ⟨c2, W⟩ := W
    obtain ⟨c3, W⟩ := W
    refine ts_getR (pc' := 172) (ci := 11) 15 cfX12.1 cfX12.2.1 cfX12.2.2 rfl (by decide) hnX12_drawn_X12 flX12_drawn_31 rfl dX12_drawn_169 c2 c3 ?_
    refine ts_iload_n 2 (pc' := 173) rfl dX12_drawn_172 rfl rfl ?_
    refine ts_if_ne (pc' := 176) (tgt := 180) rfl dX12_drawn_173 (by decide) (fun q4 => ?_) (fun q4 => ?_)
    · replace W := W.1 q4
      refine ts_iconst (v := 2) (pc' := 181) rfl dX12_drawn_180 (by decide) ?_
      refine ts_callS (M' := mX12_sumOf) (pc' := 184) (av := [.ref (g.2.2.2 l0 15), .int 2]) rfl dX12_drawn_181 rfl gX12_drawn_X12_sumOf rfl dsX12_sumOf rfl (Nat.le_refl _) (Nat.le_of_ble_eq_true rfl) (Nat.le_of_ble_eq_true rfl) (Nat.le_refl _) (Nat.le_refl _) ts_kv0 W (ts_kki fun v7 hi5 hk6 W => ?_)
      exact ts_iret dX12_drawn_184 rfl (Nat.le_refl _) (Nat.le_refl _) ⟨rfl, _, rfl, W⟩
    · replace W := W.2 q4
      refine ts_iconst (v := 1) (pc' := 177) rfl dX12_drawn_176 (by decide) ?_
      refine ts_goto (tgt := 181) dX12_drawn_177 (by decide) ?_
      refine ts_callS (M' := mX12_sumOf) (pc' := 184) (av := [.ref (g.2.2.2 l0 15), .int 1]) rfl dX12_drawn_181 rfl gX12_drawn_X12_sumOf rfl dsX12_sumOf rfl (Nat.le_refl _) (Nat.le_of_ble_eq_true rfl) (Nat.le_of_ble_eq_true rfl) (Nat.le_refl _) (Nat.le_refl _) ts_kv0 W (ts_kki fun v10 hi8 hk9 W => ?_)
      exact ts_iret dX12_drawn_184 rfl (Nat.le_refl _) (Nat.le_refl _) ⟨rfl, _, rfl, W⟩
  · replace W := W.2 q1
    refine ts_lload 3 (pc' := 70) rfl dX12_drawn_68 rfl ?_
    refine ts_ldc2 (v := 16807) (pc' := 73) rfl dX12_drawn_70 (by decide +kernel) ?_
    refine ts_lmul (pc' := 74) rfl dX12_drawn_73 ?_
    refine ts_ldc2 (v := 2147483647) (pc' := 77) rfl dX12_drawn_74 (by decide +kernel) ?_
    refine ts_lrem (pc' := 78) rfl dX12_drawn_77 (by decide) ?_
    refine ts_lstore (pc' := 80) (ls' := [(4, .long ((l4 * 16807) - (l4 * 16807) / 2147483647 * 2147483647)), (0, .ref l0), (1, .int l1), (3, .int l3), (6, .int l6)]) rfl dX12_drawn_78 (Nat.le_of_ble_eq_true rfl) rfl ?_
    refine ts_aload_n 1 (pc' := 81) rfl dX12_drawn_80 rfl rfl ?_
    obtain ⟨c11, W⟩ := W
    obtain ⟨c12, W⟩ := W
    refine ts_getR (pc' := 84) (ci := 11) 15 cfX12.1 cfX12.2.1 cfX12.2.2 rfl (by decide) hnX12_drawn_X12 flX12_drawn_31 rfl dX12_drawn_81 c11 c12 ?_
    refine ts_iconst (v := 0) (pc' := 85) rfl dX12_drawn_84 (by decide) ?_
    refine ts_lload 0 (pc' := 87) rfl dX12_drawn_85 rfl ?_
    refine ts_ldc2 (v := 9) (pc' := 90) rfl dX12_drawn_87 (by decide +kernel) ?_
    refine ts_lrem (pc' := 91) rfl dX12_drawn_90 (by decide) ?_
    refine ts_l2i (pc' := 92) rfl dX12_drawn_91 rfl ?_
    refine ts_iconst (v := 1) (pc' := 93) rfl dX12_drawn_92 (by decide) ?_
    refine ts_iadd (pc' := 94) rfl dX12_drawn_93 ?_
    obtain ⟨c13, W⟩ := W
    obtain ⟨c14, W⟩ := W
    refine ts_iastore (pc' := 95) rfl dX12_drawn_94 c13 c14 ?_
    obtain ⟨hi15, ehi15⟩ : ∃ z, z = ts_up hi (g.2.2.2 l0 15) (0 : Int32).toNatClampNeg (((((l4 * 16807) - (l4 * 16807) / 2147483647 * 2147483647) - ((l4 * 16807) - (l4 * 16807) / 2147483647 * 2147483647) / 9 * 9)).toInt32 + 1) := ⟨_, rfl⟩
    rw [← ehi15]; replace W := W hi15 ehi15
    refine ts_lload 0 (pc' := 97) rfl dX12_drawn_95 rfl ?_
    refine ts_aload_n 1 (pc' := 98) rfl dX12_drawn_97 rfl rfl ?_
    obtain ⟨c16, W⟩ := W
    refine ts_getR (pc' := 101) (ci := 11) 13 cfX12.1 cfX12.2.1 cfX12.2.2 rfl (by decide) hnX12_drawn_X12 flX12_drawn_25 rfl dX12_drawn_98 c11 c16 ?_
    refine ts_iconst (v := 2) (pc' := 102) rfl dX12_drawn_101 (by decide) ?_
    obtain ⟨c17, W⟩ := W
    obtain ⟨c18, W⟩ := W
    refine ts_iaload (pc' := 103) rfl dX12_drawn_102 c17 c18 ?_
    refine ts_i2l (pc' := 104) rfl dX12_drawn_103 rfl ?_
    obtain ⟨c19, W⟩ := W
    refine ts_lrem (pc' := 105) rfl dX12_drawn_104 c19 ?_
    refine ts_l2i (pc' := 106) rfl dX12_drawn_105 rfl ?_
    refine ts_istore (pc' := 108) (ls' := [(7, .int ((((l4 * 16807) - (l4 * 16807) / 2147483647 * 2147483647) - ((l4 * 16807) - (l4 * 16807) / 2147483647 * 2147483647) / ((hi15 (g.2.2.2 l0 13) (2 : Int32).toNatClampNeg)).toInt64 * ((hi15 (g.2.2.2 l0 13) (2 : Int32).toNatClampNeg)).toInt64)).toInt32), (4, .long ((l4 * 16807) - (l4 * 16807) / 2147483647 * 2147483647)), (0, .ref l0), (1, .int l1), (3, .int l3), (6, .int l6)]) rfl dX12_drawn_106 (Nat.le_of_ble_eq_true rfl) rfl ?_
    refine ts_lload 1 (pc' := 110) rfl dX12_drawn_108 rfl ?_
    refine ts_ldc2 (v := 2) (pc' := 113) rfl dX12_drawn_110 (by decide +kernel) ?_
    refine ts_ldiv (pc' := 114) rfl dX12_drawn_113 (by decide) ?_
    refine ts_aload_n 2 (pc' := 115) rfl dX12_drawn_114 rfl rfl ?_
    refine ts_getR (pc' := 118) (ci := 11) 13 cfX12.1 cfX12.2.1 cfX12.2.2 rfl (by decide) hnX12_drawn_X12 flX12_drawn_25 rfl dX12_drawn_115 c11 c16 ?_
    refine ts_iconst (v := 2) (pc' := 119) rfl dX12_drawn_118 (by decide) ?_
    refine ts_iaload (pc' := 120) rfl dX12_drawn_119 c17 c18 ?_
    refine ts_i2l (pc' := 121) rfl dX12_drawn_120 rfl ?_
    refine ts_lrem (pc' := 122) rfl dX12_drawn_121 c19 ?_
    refine ts_l2i (pc' := 123) rfl dX12_drawn_122 rfl ?_
    refine ts_istore (pc' := 125) (ls' := [(8, .int (((((l4 * 16807) - (l4 * 16807) / 2147483647 * 2147483647) / 2) - (((l4 * 16807) - (l4 * 16807) / 2147483647 * 2147483647) / 2) / ((hi15 (g.2.2.2 l0 13) (2 : Int32).toNatClampNeg)).toInt64 * ((hi15 (g.2.2.2 l0 13) (2 : Int32).toNatClampNeg)).toInt64)).toInt32), (7, .int ((((l4 * 16807) - (l4 * 16807) / 2147483647 * 2147483647) - ((l4 * 16807) - (l4 * 16807) / 2147483647 * 2147483647) / ((hi15 (g.2.2.2 l0 13) (2 : Int32).toNatClampNeg)).toInt64 * ((hi15 (g.2.2.2 l0 13) (2 : Int32).toNatClampNeg)).toInt64)).toInt32), (4, .long ((l4 * 16807) - (l4 * 16807) / 2147483647 * 2147483647)), (0, .ref l0), (1, .int l1), (3, .int l3), (6, .int l6)]) rfl dX12_drawn_123 (Nat.le_of_ble_eq_true rfl) rfl ?_
    refine ts_lload 2 (pc' := 127) rfl dX12_drawn_125 rfl ?_
    refine ts_ldc2 (v := 3) (pc' := 130) rfl dX12_drawn_127 (by decide +kernel) ?_
    refine ts_lrem (pc' := 131) rfl dX12_drawn_130 (by decide) ?_
    refine ts_lconst (v := 0) (pc' := 132) rfl dX12_drawn_131 (by decide) ?_
    refine ts_lcmp (pc' := 133) rfl dX12_drawn_132 ?_
    refine ts_if_ne (pc' := 136) (tgt := 154) rfl dX12_drawn_133 (by decide) (fun q20 => ?_) (fun q20 => ?_)
    · replace W := W.1 q20
      refine ts_aload_n 3 (pc' := 155) rfl dX12_drawn_154 rfl rfl ?_
      refine ts_aload_n 3 (pc' := 156) rfl dX12_drawn_155 rfl rfl ?_
      refine ts_getR (pc' := 159) (ci := 11) 15 cfX12.1 cfX12.2.1 cfX12.2.2 rfl (by decide) hnX12_drawn_X12 flX12_drawn_31 rfl dX12_drawn_156 c11 c12 ?_
      refine ts_callV (M' := mX12_passes) (C := RX12) (pc' := 162) (av := [.ref (g.2.2.2 l0 15)]) (b := l0) rfl dX12_drawn_159 rfl gX12_drawn_X12_passes rfl dvX12_passes rfl (ci := 11) cfX12.1 (by decide) c11 (Nat.le_refl _) (Nat.le_of_ble_eq_true rfl) (Nat.le_of_ble_eq_true rfl) (Nat.le_refl _) (Nat.le_refl _) ts_kv0 W (ts_kkv fun hi21 hk22 W => ?_)
      refine ts_iinc 6 (pc' := 165) (ls' := [(6, .int (l6 + 1)), (8, .int (((((l4 * 16807) - (l4 * 16807) / 2147483647 * 2147483647) / 2) - (((l4 * 16807) - (l4 * 16807) / 2147483647 * 2147483647) / 2) / ((hi15 (g.2.2.2 l0 13) (2 : Int32).toNatClampNeg)).toInt64 * ((hi15 (g.2.2.2 l0 13) (2 : Int32).toNatClampNeg)).toInt64)).toInt32), (7, .int ((((l4 * 16807) - (l4 * 16807) / 2147483647 * 2147483647) - ((l4 * 16807) - (l4 * 16807) / 2147483647 * 2147483647) / ((hi15 (g.2.2.2 l0 13) (2 : Int32).toNatClampNeg)).toInt64 * ((hi15 (g.2.2.2 l0 13) (2 : Int32).toNatClampNeg)).toInt64)).toInt32), (4, .long ((l4 * 16807) - (l4 * 16807) / 2147483647 * 2147483647)), (0, .ref l0), (1, .int l1), (3, .int l3)]) rfl dX12_drawn_162 rfl rfl (Nat.le_of_ble_eq_true rfl) rfl ?_
      refine ts_goto (tgt := 62) dX12_drawn_165 (by decide) ?_
      exact ts_sub [4, 5, 6, 3, 0] rfl W
    · replace W := W.2 q20
      refine ts_iload 1 (pc' := 138) rfl dX12_drawn_136 rfl ?_
      refine ts_iload 0 (pc' := 140) rfl dX12_drawn_138 rfl ?_
      refine ts_icmp_eq (pc' := 143) (tgt := 154) rfl dX12_drawn_140 (by decide) (fun q23 => ?_) (fun q23 => ?_)
      · replace W := W.1 q23
        refine ts_aload_n 3 (pc' := 155) rfl dX12_drawn_154 rfl rfl ?_
        refine ts_aload_n 3 (pc' := 156) rfl dX12_drawn_155 rfl rfl ?_
        refine ts_getR (pc' := 159) (ci := 11) 15 cfX12.1 cfX12.2.1 cfX12.2.2 rfl (by decide) hnX12_drawn_X12 flX12_drawn_31 rfl dX12_drawn_156 c11 c12 ?_
        refine ts_callV (M' := mX12_passes) (C := RX12) (pc' := 162) (av := [.ref (g.2.2.2 l0 15)]) (b := l0) rfl dX12_drawn_159 rfl gX12_drawn_X12_passes rfl dvX12_passes rfl (ci := 11) cfX12.1 (by decide) c11 (Nat.le_refl _) (Nat.le_of_ble_eq_true rfl) (Nat.le_of_ble_eq_true rfl) (Nat.le_refl _) (Nat.le_refl _) ts_kv0 W (ts_kkv fun hi24 hk25 W => ?_)
        refine ts_iinc 6 (pc' := 165) (ls' := [(6, .int (l6 + 1)), (8, .int (((((l4 * 16807) - (l4 * 16807) / 2147483647 * 2147483647) / 2) - (((l4 * 16807) - (l4 * 16807) / 2147483647 * 2147483647) / 2) / ((hi15 (g.2.2.2 l0 13) (2 : Int32).toNatClampNeg)).toInt64 * ((hi15 (g.2.2.2 l0 13) (2 : Int32).toNatClampNeg)).toInt64)).toInt32), (7, .int ((((l4 * 16807) - (l4 * 16807) / 2147483647 * 2147483647) - ((l4 * 16807) - (l4 * 16807) / 2147483647 * 2147483647) / ((hi15 (g.2.2.2 l0 13) (2 : Int32).toNatClampNeg)).toInt64 * ((hi15 (g.2.2.2 l0 13) (2 : Int32).toNatClampNeg)).toInt64)).toInt32), (4, .long ((l4 * 16807) - (l4 * 16807) / 2147483647 * 2147483647)), (0, .ref l0), (1, .int l1), (3, .int l3)]) rfl dX12_drawn_162 rfl rfl (Nat.le_of_ble_eq_true rfl) rfl ?_
        refine ts_goto (tgt := 62) dX12_drawn_165 (by decide) ?_
        exact ts_sub [4, 5, 6, 3, 0] rfl W
      · replace W := W.2 q23
        refine ts_aload_n 3 (pc' := 144) rfl dX12_drawn_143 rfl rfl ?_
        refine ts_getR (pc' := 147) (ci := 11) 15 cfX12.1 cfX12.2.1 cfX12.2.2 rfl (by decide) hnX12_drawn_X12 flX12_drawn_31 rfl dX12_drawn_144 c11 c12 ?_
        refine ts_iload 1 (pc' := 149) rfl dX12_drawn_147 rfl ?_
        refine ts_iload 0 (pc' := 151) rfl dX12_drawn_149 rfl ?_
        refine ts_callS (M' := mX12_changes) (pc' := 154) (av := [.ref (g.2.2.2 l0 15), .int ((((l4 * 16807) - (l4 * 16807) / 2147483647 * 2147483647) - ((l4 * 16807) - (l4 * 16807) / 2147483647 * 2147483647) / ((hi15 (g.2.2.2 l0 13) (2 : Int32).toNatClampNeg)).toInt64 * ((hi15 (g.2.2.2 l0 13) (2 : Int32).toNatClampNeg)).toInt64)).toInt32, .int (((((l4 * 16807) - (l4 * 16807) / 2147483647 * 2147483647) / 2) - (((l4 * 16807) - (l4 * 16807) / 2147483647 * 2147483647) / 2) / ((hi15 (g.2.2.2 l0 13) (2 : Int32).toNatClampNeg)).toInt64 * ((hi15 (g.2.2.2 l0 13) (2 : Int32).toNatClampNeg)).toInt64)).toInt32]) rfl dX12_drawn_151 rfl gX12_drawn_X12_changes rfl dsX12_changes rfl (Nat.le_refl _) (Nat.le_of_ble_eq_true rfl) (Nat.le_of_ble_eq_true rfl) (Nat.le_refl _) (Nat.le_refl _) ts_kv0 W (ts_kkv fun hi26 hk27 W => ?_)
        refine ts_aload_n 3 (pc' := 155) rfl dX12_drawn_154 rfl rfl ?_
        refine ts_aload_n 3 (pc' := 156) rfl dX12_drawn_155 rfl rfl ?_
        refine ts_getR (pc' := 159) (ci := 11) 15 cfX12.1 cfX12.2.1 cfX12.2.2 rfl (by decide) hnX12_drawn_X12 flX12_drawn_31 rfl dX12_drawn_156 c11 c12 ?_
        refine ts_callV (M' := mX12_passes) (C := RX12) (pc' := 162) (av := [.ref (g.2.2.2 l0 15)]) (b := l0) rfl dX12_drawn_159 rfl gX12_drawn_X12_passes rfl dvX12_passes rfl (ci := 11) cfX12.1 (by decide) c11 (Nat.le_refl _) (Nat.le_of_ble_eq_true rfl) (Nat.le_of_ble_eq_true rfl) (Nat.le_refl _) (Nat.le_refl _) ts_kv0 W (ts_kkv fun hi28 hk29 W => ?_)
        refine ts_iinc 6 (pc' := 165) (ls' := [(6, .int (l6 + 1)), (8, .int (((((l4 * 16807) - (l4 * 16807) / 2147483647 * 2147483647) / 2) - (((l4 * 16807) - (l4 * 16807) / 2147483647 * 2147483647) / 2) / ((hi15 (g.2.2.2 l0 13) (2 : Int32).toNatClampNeg)).toInt64 * ((hi15 (g.2.2.2 l0 13) (2 : Int32).toNatClampNeg)).toInt64)).toInt32), (7, .int ((((l4 * 16807) - (l4 * 16807) / 2147483647 * 2147483647) - ((l4 * 16807) - (l4 * 16807) / 2147483647 * 2147483647) / ((hi15 (g.2.2.2 l0 13) (2 : Int32).toNatClampNeg)).toInt64 * ((hi15 (g.2.2.2 l0 13) (2 : Int32).toNatClampNeg)).toInt64)).toInt32), (4, .long ((l4 * 16807) - (l4 * 16807) / 2147483647 * 2147483647)), (0, .ref l0), (1, .int l1), (3, .int l3)]) rfl dX12_drawn_162 rfl rfl (Nat.le_of_ble_eq_true rfl) rfl ?_
        refine ts_goto (tgt := 62) dX12_drawn_165 (by decide) ?_
        exact ts_sub [4, 5, 6, 3, 0] rfl W
theorem hnX12_image_X12 : ∀ w ∈ u_ws RX12 TX12 25, w ∈ wsX12_image := by decide +kernel
theorem flX12_image_25 : Cond.fieldLink RX12 25 "TurnipSquiresModel" "now" "[I" ∈ wsX12_image := by decide +kernel
theorem flX12_image_37 : Cond.fieldLink RX12 37 "TurnipSquiresModel" "images" "[I" ∈ wsX12_image := by decide +kernel
theorem flX12_image_40 : Cond.fieldLink RX12 40 "TurnipSquiresModel" "kept" "[Z" ∈ wsX12_image := by decide +kernel
set_option maxHeartbeats 4000000 in
theorem wX12_image_0 {d : Nat} {g : ts_G} {Q : Int32 → ts_I → ts_K → Prop} {o : Nat} {p0 : Int32} {hi : ts_I} {hk : ts_K} (W : ts_E0 d mX12_in [.int p0, .int 0, .int 1] g hi hk (ts_qi (fun v3 hi1 hk2 => ((v3 ≠ 0) → (g.2.1 o = 11) ∧ ts_E0 d mX12_isField [.ref o] g hi1 hk2 (ts_qi (fun v7 hi5 hk6 => ((v7 ≠ 0) → (g.2.2.2 o 13 ≠ 0) ∧ (g.2.2.2 o 18 ≠ 0) ∧ ts_E0 d mX12_copies [.ref (g.2.2.2 o 13), .int 0, .ref (g.2.2.2 o 18), .int (46 * p0)] g hi5 hk6 (ts_qv (fun hi12 hk13 => (g.2.2.2 o 19 ≠ 0) ∧ (g.2.1 (g.2.2.2 o 19) = 101) ∧ (vp_in p0 (g.2.2.1 (g.2.2.2 o 19))) ∧ ∀ hi17 : ts_I, hi17 = ts_up hi12 (g.2.2.2 o 19) p0.toNatClampNeg 1 → Q 1 hi17 hk13))) ∧ (¬ (v7 ≠ 0) → Q (-1000002) hi5 hk6)))) ∧ (¬ (v3 ≠ 0) → Q (-1000001) hi1 hk2)))) : ts_J0 (d + 1) mX12_image (ts_qi Q) g 0 [(0, .ref o), (1, .int p0)] [] hi hk := by
  refine ts_iload_n 1 (pc' := 1) rfl dX12_image_0 rfl rfl ?_
  refine ts_iconst (v := 0) (pc' := 2) rfl dX12_image_1 (by decide) ?_
  refine ts_iconst (v := 1) (pc' := 3) rfl dX12_image_2 (by decide) ?_
  refine ts_callS (M' := mX12_in) (pc' := 6) (av := [.int p0, .int 0, .int 1]) rfl dX12_image_3 rfl gX12_image_X12_in rfl dsX12_in rfl (Nat.le_refl _) (Nat.le_of_ble_eq_true rfl) (Nat.le_of_ble_eq_true rfl) (Nat.le_refl _) (Nat.le_refl _) ts_kv0 W (ts_kki fun v3 hi1 hk2 W => ?_)
  refine ts_if_ne (pc' := 9) (tgt := 12) rfl dX12_image_6 (by decide) (fun q4 => ?_) (fun q4 => ?_)
  · replace W := W.1 q4
    refine ts_aload_n 0 (pc' := 13) rfl dX12_image_12 rfl rfl ?_
    obtain ⟨c8, W⟩ := W
    refine ts_callV (M' := mX12_isField) (C := RX12) (pc' := 16) (av := []) (b := o) rfl dX12_image_13 rfl gX12_image_X12_isField rfl dvX12_isField rfl (ci := 11) cfX12.1 (by decide) c8 (Nat.le_refl _) (Nat.le_of_ble_eq_true rfl) (Nat.le_of_ble_eq_true rfl) (Nat.le_refl _) (Nat.le_refl _) ts_kv0 W (ts_kki fun v7 hi5 hk6 W => ?_)
    refine ts_if_ne (pc' := 19) (tgt := 22) rfl dX12_image_16 (by decide) (fun q9 => ?_) (fun q9 => ?_)
    · replace W := W.1 q9
      refine ts_aload_n 0 (pc' := 23) rfl dX12_image_22 rfl rfl ?_
      obtain ⟨c10, W⟩ := W
      refine ts_getR (pc' := 26) (ci := 11) 13 cfX12.1 cfX12.2.1 cfX12.2.2 rfl (by decide) hnX12_image_X12 flX12_image_25 rfl dX12_image_23 c8 c10 ?_
      refine ts_iconst (v := 0) (pc' := 27) rfl dX12_image_26 (by decide) ?_
      refine ts_aload_n 0 (pc' := 28) rfl dX12_image_27 rfl rfl ?_
      obtain ⟨c11, W⟩ := W
      refine ts_getR (pc' := 31) (ci := 11) 18 cfX12.1 cfX12.2.1 cfX12.2.2 rfl (by decide) hnX12_image_X12 flX12_image_37 rfl dX12_image_28 c8 c11 ?_
      refine ts_bipush (v := 46) (pc' := 33) rfl dX12_image_31 (by decide) ?_
      refine ts_iload_n 1 (pc' := 34) rfl dX12_image_33 rfl rfl ?_
      refine ts_imul (pc' := 35) rfl dX12_image_34 ?_
      refine ts_callS (M' := mX12_copies) (pc' := 38) (av := [.ref (g.2.2.2 o 13), .int 0, .ref (g.2.2.2 o 18), .int (46 * p0)]) rfl dX12_image_35 rfl gX12_image_X12_copies rfl dsX12_copies rfl (Nat.le_refl _) (Nat.le_of_ble_eq_true rfl) (Nat.le_of_ble_eq_true rfl) (Nat.le_refl _) (Nat.le_refl _) ts_kv0 W (ts_kkv fun hi12 hk13 W => ?_)
      refine ts_aload_n 0 (pc' := 39) rfl dX12_image_38 rfl rfl ?_
      obtain ⟨c14, W⟩ := W
      refine ts_getR (pc' := 42) (ci := 11) 19 cfX12.1 cfX12.2.1 cfX12.2.2 rfl (by decide) hnX12_image_X12 flX12_image_40 rfl dX12_image_39 c8 c14 ?_
      refine ts_iload_n 1 (pc' := 43) rfl dX12_image_42 rfl rfl ?_
      refine ts_iconst (v := 1) (pc' := 44) rfl dX12_image_43 (by decide) ?_
      obtain ⟨c15, W⟩ := W
      obtain ⟨c16, W⟩ := W
      refine ts_zastore (pc' := 45) rfl dX12_image_44 c15 c16 (by decide) ?_
      obtain ⟨hi17, ehi17⟩ : ∃ z, z = ts_up hi12 (g.2.2.2 o 19) p0.toNatClampNeg 1 := ⟨_, rfl⟩
      rw [← ehi17]; replace W := W hi17 ehi17
      refine ts_iconst (v := 1) (pc' := 46) rfl dX12_image_45 (by decide) ?_
      exact ts_iret dX12_image_46 rfl (Nat.le_refl _) (Nat.le_refl _) ⟨rfl, _, rfl, W⟩
    · replace W := W.2 q9
      refine ts_ldc (v := (-1000002)) (pc' := 21) rfl dX12_image_19 (by decide +kernel) ?_
      exact ts_iret dX12_image_21 rfl (Nat.le_refl _) (Nat.le_refl _) ⟨rfl, _, rfl, W⟩
  · replace W := W.2 q4
    refine ts_ldc (v := (-1000001)) (pc' := 11) rfl dX12_image_9 (by decide +kernel) ?_
    exact ts_iret dX12_image_11 rfl (Nat.le_refl _) (Nat.le_refl _) ⟨rfl, _, rfl, W⟩
theorem hnX12_restore_X12 : ∀ w ∈ u_ws RX12 TX12 25, w ∈ wsX12_restore := by decide +kernel
theorem flX12_restore_25 : Cond.fieldLink RX12 25 "TurnipSquiresModel" "now" "[I" ∈ wsX12_restore := by decide +kernel
theorem flX12_restore_37 : Cond.fieldLink RX12 37 "TurnipSquiresModel" "images" "[I" ∈ wsX12_restore := by decide +kernel
theorem flX12_restore_40 : Cond.fieldLink RX12 40 "TurnipSquiresModel" "kept" "[Z" ∈ wsX12_restore := by decide +kernel
theorem flX12_restore_145 : Cond.fieldLink RX12 145 "TurnipSquiresModel" "acts" "I" ∈ wsX12_restore := by decide +kernel
set_option maxHeartbeats 4000000 in
theorem wX12_restore_0 {d : Nat} {g : ts_G} {Q : Int32 → ts_I → ts_K → Prop} {o : Nat} {p0 : Int32} {hi : ts_I} {hk : ts_K} (W : ts_E0 d mX12_in [.int p0, .int 0, .int 1] g hi hk (ts_qi (fun v3 hi1 hk2 => ((v3 ≠ 0) → (g.2.1 o = 11) ∧ (g.2.2.2 o 19 ≠ 0) ∧ (g.2.1 (g.2.2.2 o 19) = 101) ∧ (vp_in p0 (g.2.2.1 (g.2.2.2 o 19))) ∧ (((hi1 (g.2.2.2 o 19) p0.toNatClampNeg) ≠ 0) → (g.2.2.2 o 18 ≠ 0) ∧ (g.2.2.2 o 13 ≠ 0) ∧ ts_E0 d mX12_copies [.ref (g.2.2.2 o 18), .int (46 * p0), .ref (g.2.2.2 o 13), .int 0] g hi1 hk2 (ts_qv (fun hi12 hk13 => ∀ hi14 : ts_I, hi14 = ts_up hi12 o 17 0 → Q 1 hi14 hk13))) ∧ (¬ ((hi1 (g.2.2.2 o 19) p0.toNatClampNeg) ≠ 0) → Q (-1000002) hi1 hk2)) ∧ (¬ (v3 ≠ 0) → Q (-1000001) hi1 hk2)))) : ts_J0 (d + 1) mX12_restore (ts_qi Q) g 0 [(0, .ref o), (1, .int p0)] [] hi hk := by
  refine ts_iload_n 1 (pc' := 1) rfl dX12_restore_0 rfl rfl ?_
  refine ts_iconst (v := 0) (pc' := 2) rfl dX12_restore_1 (by decide) ?_
  refine ts_iconst (v := 1) (pc' := 3) rfl dX12_restore_2 (by decide) ?_
  refine ts_callS (M' := mX12_in) (pc' := 6) (av := [.int p0, .int 0, .int 1]) rfl dX12_restore_3 rfl gX12_restore_X12_in rfl dsX12_in rfl (Nat.le_refl _) (Nat.le_of_ble_eq_true rfl) (Nat.le_of_ble_eq_true rfl) (Nat.le_refl _) (Nat.le_refl _) ts_kv0 W (ts_kki fun v3 hi1 hk2 W => ?_)
  refine ts_if_ne (pc' := 9) (tgt := 12) rfl dX12_restore_6 (by decide) (fun q4 => ?_) (fun q4 => ?_)
  · replace W := W.1 q4
    refine ts_aload_n 0 (pc' := 13) rfl dX12_restore_12 rfl rfl ?_
    obtain ⟨c5, W⟩ := W
    obtain ⟨c6, W⟩ := W
    refine ts_getR (pc' := 16) (ci := 11) 19 cfX12.1 cfX12.2.1 cfX12.2.2 rfl (by decide) hnX12_restore_X12 flX12_restore_40 rfl dX12_restore_13 c5 c6 ?_
    refine ts_iload_n 1 (pc' := 17) rfl dX12_restore_16 rfl rfl ?_
    obtain ⟨c7, W⟩ := W
    obtain ⟨c8, W⟩ := W
    refine ts_zaload (pc' := 18) rfl dX12_restore_17 c7 c8 ?_
    refine ts_if_ne (pc' := 21) (tgt := 24) rfl dX12_restore_18 (by decide) (fun q9 => ?_) (fun q9 => ?_)
    · replace W := W.1 q9
      refine ts_aload_n 0 (pc' := 25) rfl dX12_restore_24 rfl rfl ?_
      obtain ⟨c10, W⟩ := W
      refine ts_getR (pc' := 28) (ci := 11) 18 cfX12.1 cfX12.2.1 cfX12.2.2 rfl (by decide) hnX12_restore_X12 flX12_restore_37 rfl dX12_restore_25 c5 c10 ?_
      refine ts_bipush (v := 46) (pc' := 30) rfl dX12_restore_28 (by decide) ?_
      refine ts_iload_n 1 (pc' := 31) rfl dX12_restore_30 rfl rfl ?_
      refine ts_imul (pc' := 32) rfl dX12_restore_31 ?_
      refine ts_aload_n 0 (pc' := 33) rfl dX12_restore_32 rfl rfl ?_
      obtain ⟨c11, W⟩ := W
      refine ts_getR (pc' := 36) (ci := 11) 13 cfX12.1 cfX12.2.1 cfX12.2.2 rfl (by decide) hnX12_restore_X12 flX12_restore_25 rfl dX12_restore_33 c5 c11 ?_
      refine ts_iconst (v := 0) (pc' := 37) rfl dX12_restore_36 (by decide) ?_
      refine ts_callS (M' := mX12_copies) (pc' := 40) (av := [.ref (g.2.2.2 o 18), .int (46 * p0), .ref (g.2.2.2 o 13), .int 0]) rfl dX12_restore_37 rfl gX12_restore_X12_copies rfl dsX12_copies rfl (Nat.le_refl _) (Nat.le_of_ble_eq_true rfl) (Nat.le_of_ble_eq_true rfl) (Nat.le_refl _) (Nat.le_refl _) ts_kv0 W (ts_kkv fun hi12 hk13 W => ?_)
      refine ts_aload_n 0 (pc' := 41) rfl dX12_restore_40 rfl rfl ?_
      refine ts_iconst (v := 0) (pc' := 42) rfl dX12_restore_41 (by decide) ?_
      refine ts_putI (pc' := 45) (ci := 11) 17 cfX12.1 cfX12.2.1 cfX12.2.2 rfl (by decide) hnX12_restore_X12 flX12_restore_145 tyX12_ok nmX12 rfl rfl rfl dX12_restore_42 c5 ?_
      obtain ⟨hi14, ehi14⟩ : ∃ z, z = ts_up hi12 o 17 0 := ⟨_, rfl⟩
      rw [← ehi14]; replace W := W hi14 ehi14
      refine ts_iconst (v := 1) (pc' := 46) rfl dX12_restore_45 (by decide) ?_
      exact ts_iret dX12_restore_46 rfl (Nat.le_refl _) (Nat.le_refl _) ⟨rfl, _, rfl, W⟩
    · replace W := W.2 q9
      refine ts_ldc (v := (-1000002)) (pc' := 23) rfl dX12_restore_21 (by decide +kernel) ?_
      exact ts_iret dX12_restore_23 rfl (Nat.le_refl _) (Nat.le_refl _) ⟨rfl, _, rfl, W⟩
  · replace W := W.2 q4
    refine ts_ldc (v := (-1000001)) (pc' := 11) rfl dX12_restore_9 (by decide +kernel) ?_
    exact ts_iret dX12_restore_11 rfl (Nat.le_refl _) (Nat.le_refl _) ⟨rfl, _, rfl, W⟩
theorem hnX12_kindIn_X12 : ∀ w ∈ u_ws RX12 TX12 25, w ∈ wsX12_kindIn := by decide +kernel
theorem flX12_kindIn_25 : Cond.fieldLink RX12 25 "TurnipSquiresModel" "now" "[I" ∈ wsX12_kindIn := by decide +kernel
set_option maxHeartbeats 4000000 in
theorem wX12_kindIn_0 {d : Nat} {g : ts_G} {Q : Int32 → ts_I → ts_K → Prop} {o : Nat} {p0 : Int32} {hi : ts_I} {hk : ts_K} (W : (g.2.1 o = 11) ∧ (g.2.2.2 o 13 ≠ 0) ∧ (g.2.1 (g.2.2.2 o 13) = 100) ∧ (vp_in (4 + (6 * p0)) (g.2.2.1 (g.2.2.2 o 13))) ∧ Q (hi (g.2.2.2 o 13) (4 + (6 * p0)).toNatClampNeg) hi hk) : ts_J0 d mX12_kindIn (ts_qi Q) g 0 [(0, .ref o), (1, .int p0)] [] hi hk := by
  refine ts_aload_n 0 (pc' := 1) rfl dX12_kindIn_0 rfl rfl ?_
  obtain ⟨c1, W⟩ := W
  obtain ⟨c2, W⟩ := W
  refine ts_getR (pc' := 4) (ci := 11) 13 cfX12.1 cfX12.2.1 cfX12.2.2 rfl (by decide) hnX12_kindIn_X12 flX12_kindIn_25 rfl dX12_kindIn_1 c1 c2 ?_
  refine ts_iconst (v := 4) (pc' := 5) rfl dX12_kindIn_4 (by decide) ?_
  refine ts_bipush (v := 6) (pc' := 7) rfl dX12_kindIn_5 (by decide) ?_
  refine ts_iload_n 1 (pc' := 8) rfl dX12_kindIn_7 rfl rfl ?_
  refine ts_imul (pc' := 9) rfl dX12_kindIn_8 ?_
  refine ts_iadd (pc' := 10) rfl dX12_kindIn_9 ?_
  obtain ⟨c3, W⟩ := W
  obtain ⟨c4, W⟩ := W
  refine ts_iaload (pc' := 11) rfl dX12_kindIn_10 c3 c4 ?_
  exact ts_iret dX12_kindIn_11 rfl (Nat.le_refl _) (Nat.le_refl _) ⟨rfl, _, rfl, W⟩
set_option maxHeartbeats 4000000 in
theorem wX12_kind_0 {d : Nat} {g : ts_G} {Q : Int32 → ts_I → ts_K → Prop} {o : Nat} {p0 : Int32} {hi : ts_I} {hk : ts_K} (W : (g.2.1 o = 11) ∧ ts_E0 d mX12_isTurnip [.ref o, .int p0] g hi hk (ts_qi (fun v3 hi1 hk2 => ((v3 = 0) → Q (-1000001) hi1 hk2) ∧ (¬ (v3 = 0) → ts_E0 d mX12_kindIn [.ref o, .int p0] g hi1 hk2 (ts_qi (fun v8 hi6 hk7 => Q v8 hi6 hk7)))))) : ts_J0 (d + 1) mX12_kind (ts_qi Q) g 0 [(0, .ref o), (1, .int p0)] [] hi hk := by
  refine ts_aload_n 0 (pc' := 1) rfl dX12_kind_0 rfl rfl ?_
  refine ts_iload_n 1 (pc' := 2) rfl dX12_kind_1 rfl rfl ?_
  obtain ⟨c4, W⟩ := W
  refine ts_callV (M' := mX12_isTurnip) (C := RX12) (pc' := 5) (av := [.int p0]) (b := o) rfl dX12_kind_2 rfl gX12_kind_X12_isTurnip rfl dvX12_isTurnip rfl (ci := 11) cfX12.1 (by decide) c4 (Nat.le_refl _) (Nat.le_of_ble_eq_true rfl) (Nat.le_of_ble_eq_true rfl) (Nat.le_refl _) (Nat.le_refl _) ts_kv0 W (ts_kki fun v3 hi1 hk2 W => ?_)
  refine ts_if_eq (pc' := 8) (tgt := 16) rfl dX12_kind_5 (by decide) (fun q5 => ?_) (fun q5 => ?_)
  · replace W := W.1 q5
    refine ts_ldc (v := (-1000001)) (pc' := 18) rfl dX12_kind_16 (by decide +kernel) ?_
    exact ts_iret dX12_kind_18 rfl (Nat.le_refl _) (Nat.le_refl _) ⟨rfl, _, rfl, W⟩
  · replace W := W.2 q5
    refine ts_aload_n 0 (pc' := 9) rfl dX12_kind_8 rfl rfl ?_
    refine ts_iload_n 1 (pc' := 10) rfl dX12_kind_9 rfl rfl ?_
    refine ts_callV (M' := mX12_kindIn) (C := RX12) (pc' := 13) (av := [.int p0]) (b := o) rfl dX12_kind_10 rfl gX12_kind_X12_kindIn rfl dvX12_kindIn rfl (ci := 11) cfX12.1 (by decide) c4 (Nat.le_refl _) (Nat.le_of_ble_eq_true rfl) (Nat.le_of_ble_eq_true rfl) (Nat.le_refl _) (Nat.le_refl _) ts_kv0 W (ts_kki fun v8 hi6 hk7 W => ?_)
    refine ts_goto (tgt := 18) dX12_kind_13 (by decide) ?_
    exact ts_iret dX12_kind_18 rfl (Nat.le_refl _) (Nat.le_refl _) ⟨rfl, _, rfl, W⟩
set_option maxHeartbeats 4000000 in
theorem wX12_as_0 {d : Nat} {g : ts_G} {Q : Int32 → ts_I → ts_K → Prop} {o : Nat} {p0 : Int32} {p1 : Int32} {hi : ts_I} {hk : ts_K} (W : (g.2.1 o = 11) ∧ ts_E0 d mX12_isTurnip [.ref o, .int p0] g hi hk (ts_qi (fun v3 hi1 hk2 => ((v3 = 0) → Q (-1000001) hi1 hk2) ∧ (¬ (v3 = 0) → ts_E0 d mX12_in [.int p1, .int 0, .int 5] g hi1 hk2 (ts_qi (fun v8 hi6 hk7 => ((v8 ≠ 0) → ts_E0 d mX12_kindIn [.ref o, .int p0] g hi6 hk7 (ts_qi (fun v12 hi10 hk11 => ((p1 = 0) → ts_E0 d mX12_well [.ref o, .int p0] g hi10 hk11 (ts_qi (fun v17 hi15 hk16 => Q v17 hi15 hk16))) ∧ (¬ (p1 = 0) → ((p1 = v12) → ts_E0 d mX12_well [.ref o, .int p0] g hi10 hk11 (ts_qi (fun v22 hi20 hk21 => Q v22 hi20 hk21))) ∧ (¬ (p1 = v12) → ((p1 ≠ 1) → ((p1 ≠ 4) → ts_E0 d mX12_found [.ref o, .int 3] g hi10 hk11 (ts_qi (fun v28 hi26 hk27 => Q v28 hi26 hk27))) ∧ (¬ (p1 ≠ 4) → ((v12 ≠ 5) → ts_E0 d mX12_found [.ref o, .int 3] g hi10 hk11 (ts_qi (fun v33 hi31 hk32 => Q v33 hi31 hk32))) ∧ (¬ (v12 ≠ 5) → ts_E0 d mX12_well [.ref o, .int p0] g hi10 hk11 (ts_qi (fun v37 hi35 hk36 => Q v37 hi35 hk36))))) ∧ (¬ (p1 ≠ 1) → ((v12 < 4) → ts_E0 d mX12_well [.ref o, .int p0] g hi10 hk11 (ts_qi (fun v42 hi40 hk41 => Q v42 hi40 hk41))) ∧ (¬ (v12 < 4) → ((p1 ≠ 4) → ts_E0 d mX12_found [.ref o, .int 3] g hi10 hk11 (ts_qi (fun v47 hi45 hk46 => Q v47 hi45 hk46))) ∧ (¬ (p1 ≠ 4) → ((v12 ≠ 5) → ts_E0 d mX12_found [.ref o, .int 3] g hi10 hk11 (ts_qi (fun v52 hi50 hk51 => Q v52 hi50 hk51))) ∧ (¬ (v12 ≠ 5) → ts_E0 d mX12_well [.ref o, .int p0] g hi10 hk11 (ts_qi (fun v56 hi54 hk55 => Q v56 hi54 hk55))))))))))) ∧ (¬ (v8 ≠ 0) → Q (-1000001) hi6 hk7))))))) : ts_J0 (d + 1) mX12_as (ts_qi Q) g 0 [(0, .ref o), (1, .int p0), (2, .int p1)] [] hi hk := by
  refine ts_aload_n 0 (pc' := 1) rfl dX12_as_0 rfl rfl ?_
  refine ts_iload_n 1 (pc' := 2) rfl dX12_as_1 rfl rfl ?_
  obtain ⟨c4, W⟩ := W
  refine ts_callV (M' := mX12_isTurnip) (C := RX12) (pc' := 5) (av := [.int p0]) (b := o) rfl dX12_as_2 rfl gX12_as_X12_isTurnip rfl dvX12_isTurnip rfl (ci := 11) cfX12.1 (by decide) c4 (Nat.le_refl _) (Nat.le_of_ble_eq_true rfl) (Nat.le_of_ble_eq_true rfl) (Nat.le_refl _) (Nat.le_refl _) ts_kv0 W (ts_kki fun v3 hi1 hk2 W => ?_)
  refine ts_if_eq (pc' := 8) (tgt := 17) rfl dX12_as_5 (by decide) (fun q5 => ?_) (fun q5 => ?_)
  · replace W := W.1 q5
    refine ts_ldc (v := (-1000001)) (pc' := 19) rfl dX12_as_17 (by decide +kernel) ?_
    exact ts_iret dX12_as_19 rfl (Nat.le_refl _) (Nat.le_refl _) ⟨rfl, _, rfl, W⟩
  · replace W := W.2 q5
    refine ts_iload_n 2 (pc' := 9) rfl dX12_as_8 rfl rfl ?_
    refine ts_iconst (v := 0) (pc' := 10) rfl dX12_as_9 (by decide) ?_
    refine ts_iconst (v := 5) (pc' := 11) rfl dX12_as_10 (by decide) ?_
    refine ts_callS (M' := mX12_in) (pc' := 14) (av := [.int p1, .int 0, .int 5]) rfl dX12_as_11 rfl gX12_as_X12_in rfl dsX12_in rfl (Nat.le_refl _) (Nat.le_of_ble_eq_true rfl) (Nat.le_of_ble_eq_true rfl) (Nat.le_refl _) (Nat.le_refl _) ts_kv0 W (ts_kki fun v8 hi6 hk7 W => ?_)
    refine ts_if_ne (pc' := 17) (tgt := 20) rfl dX12_as_14 (by decide) (fun q9 => ?_) (fun q9 => ?_)
    · replace W := W.1 q9
      refine ts_aload_n 0 (pc' := 21) rfl dX12_as_20 rfl rfl ?_
      refine ts_iload_n 1 (pc' := 22) rfl dX12_as_21 rfl rfl ?_
      refine ts_callV (M' := mX12_kindIn) (C := RX12) (pc' := 25) (av := [.int p0]) (b := o) rfl dX12_as_22 rfl gX12_as_X12_kindIn rfl dvX12_kindIn rfl (ci := 11) cfX12.1 (by decide) c4 (Nat.le_refl _) (Nat.le_of_ble_eq_true rfl) (Nat.le_of_ble_eq_true rfl) (Nat.le_refl _) (Nat.le_refl _) ts_kv0 W (ts_kki fun v12 hi10 hk11 W => ?_)
      refine ts_istore_n (pc' := 26) (ls' := [(3, .int v12), (0, .ref o), (1, .int p0), (2, .int p1)]) rfl dX12_as_25 rfl (Nat.le_of_ble_eq_true rfl) rfl ?_
      refine ts_iload_n 3 (pc' := 27) rfl dX12_as_26 rfl rfl ?_
      refine ts_if_eq (pc' := 30) (tgt := 55) rfl dX12_as_27 (by decide) (fun q13 => ?_) (fun q13 => ?_)
      · replace W := W.1 q13
        refine ts_iconst (v := 1) (pc' := 56) rfl dX12_as_55 (by decide) ?_
        refine ts_goto (tgt := 60) dX12_as_56 (by decide) ?_
        refine ts_istore (pc' := 62) (ls' := [(4, .int 1), (3, .int v12), (0, .ref o), (1, .int p0), (2, .int p1)]) rfl dX12_as_60 (Nat.le_of_ble_eq_true rfl) rfl ?_
        refine ts_iload 0 (pc' := 64) rfl dX12_as_62 rfl ?_
        refine ts_if_eq (pc' := 67) (tgt := 75) rfl dX12_as_64 (by decide) (fun q14 => ?_) (fun q14 => ?_)
        · exact absurd q14 (by decide)
        refine ts_aload_n 2 (pc' := 68) rfl dX12_as_67 rfl rfl ?_
        refine ts_iload_n 3 (pc' := 69) rfl dX12_as_68 rfl rfl ?_
        refine ts_callV (M' := mX12_well) (C := RX12) (pc' := 72) (av := [.int p0]) (b := o) rfl dX12_as_69 rfl gX12_as_X12_well rfl dvX12_well rfl (ci := 11) cfX12.1 (by decide) c4 (Nat.le_refl _) (Nat.le_of_ble_eq_true rfl) (Nat.le_of_ble_eq_true rfl) (Nat.le_refl _) (Nat.le_refl _) ts_kv0 W (ts_kki fun v17 hi15 hk16 W => ?_)
        refine ts_goto (tgt := 80) dX12_as_72 (by decide) ?_
        exact ts_iret dX12_as_80 rfl (Nat.le_refl _) (Nat.le_refl _) ⟨rfl, _, rfl, W⟩
      · replace W := W.2 q13
        refine ts_iload_n 3 (pc' := 31) rfl dX12_as_30 rfl rfl ?_
        refine ts_iload_n 0 (pc' := 32) rfl dX12_as_31 rfl rfl ?_
        refine ts_icmp_eq (pc' := 35) (tgt := 55) rfl dX12_as_32 (by decide) (fun q18 => ?_) (fun q18 => ?_)
        · replace W := W.1 q18
          refine ts_iconst (v := 1) (pc' := 56) rfl dX12_as_55 (by decide) ?_
          refine ts_goto (tgt := 60) dX12_as_56 (by decide) ?_
          refine ts_istore (pc' := 62) (ls' := [(4, .int 1), (3, .int v12), (0, .ref o), (1, .int p0), (2, .int p1)]) rfl dX12_as_60 (Nat.le_of_ble_eq_true rfl) rfl ?_
          refine ts_iload 0 (pc' := 64) rfl dX12_as_62 rfl ?_
          refine ts_if_eq (pc' := 67) (tgt := 75) rfl dX12_as_64 (by decide) (fun q19 => ?_) (fun q19 => ?_)
          · exact absurd q19 (by decide)
          refine ts_aload_n 2 (pc' := 68) rfl dX12_as_67 rfl rfl ?_
          refine ts_iload_n 3 (pc' := 69) rfl dX12_as_68 rfl rfl ?_
          refine ts_callV (M' := mX12_well) (C := RX12) (pc' := 72) (av := [.int p0]) (b := o) rfl dX12_as_69 rfl gX12_as_X12_well rfl dvX12_well rfl (ci := 11) cfX12.1 (by decide) c4 (Nat.le_refl _) (Nat.le_of_ble_eq_true rfl) (Nat.le_of_ble_eq_true rfl) (Nat.le_refl _) (Nat.le_refl _) ts_kv0 W (ts_kki fun v22 hi20 hk21 W => ?_)
          refine ts_goto (tgt := 80) dX12_as_72 (by decide) ?_
          exact ts_iret dX12_as_80 rfl (Nat.le_refl _) (Nat.le_refl _) ⟨rfl, _, rfl, W⟩
        · replace W := W.2 q18
          refine ts_iload_n 3 (pc' := 36) rfl dX12_as_35 rfl rfl ?_
          refine ts_iconst (v := 1) (pc' := 37) rfl dX12_as_36 (by decide) ?_
          refine ts_icmp_ne (pc' := 40) (tgt := 45) rfl dX12_as_37 (by decide) (fun q23 => ?_) (fun q23 => ?_)
          · replace W := W.1 q23
            refine ts_iload_n 3 (pc' := 46) rfl dX12_as_45 rfl rfl ?_
            refine ts_iconst (v := 4) (pc' := 47) rfl dX12_as_46 (by decide) ?_
            refine ts_icmp_ne (pc' := 50) (tgt := 59) rfl dX12_as_47 (by decide) (fun q24 => ?_) (fun q24 => ?_)
            · replace W := W.1 q24
              refine ts_iconst (v := 0) (pc' := 60) rfl dX12_as_59 (by decide) ?_
              refine ts_istore (pc' := 62) (ls' := [(4, .int 0), (3, .int v12), (0, .ref o), (1, .int p0), (2, .int p1)]) rfl dX12_as_60 (Nat.le_of_ble_eq_true rfl) rfl ?_
              refine ts_iload 0 (pc' := 64) rfl dX12_as_62 rfl ?_
              refine ts_if_eq (pc' := 67) (tgt := 75) rfl dX12_as_64 (by decide) (fun q25 => ?_) (fun q25 => ?_)
              rotate_left
              · exact absurd (by decide) q25
              refine ts_aload_n 2 (pc' := 76) rfl dX12_as_75 rfl rfl ?_
              refine ts_iconst (v := 3) (pc' := 77) rfl dX12_as_76 (by decide) ?_
              refine ts_callV (M' := mX12_found) (C := RX12) (pc' := 80) (av := [.int 3]) (b := o) rfl dX12_as_77 rfl gX12_as_X12_found rfl dvX12_found rfl (ci := 11) cfX12.1 (by decide) c4 (Nat.le_refl _) (Nat.le_of_ble_eq_true rfl) (Nat.le_of_ble_eq_true rfl) (Nat.le_refl _) (Nat.le_refl _) ts_kv0 W (ts_kki fun v28 hi26 hk27 W => ?_)
              exact ts_iret dX12_as_80 rfl (Nat.le_refl _) (Nat.le_refl _) ⟨rfl, _, rfl, W⟩
            · replace W := W.2 q24
              refine ts_iload_n 0 (pc' := 51) rfl dX12_as_50 rfl rfl ?_
              refine ts_iconst (v := 5) (pc' := 52) rfl dX12_as_51 (by decide) ?_
              refine ts_icmp_ne (pc' := 55) (tgt := 59) rfl dX12_as_52 (by decide) (fun q29 => ?_) (fun q29 => ?_)
              · replace W := W.1 q29
                refine ts_iconst (v := 0) (pc' := 60) rfl dX12_as_59 (by decide) ?_
                refine ts_istore (pc' := 62) (ls' := [(4, .int 0), (3, .int v12), (0, .ref o), (1, .int p0), (2, .int p1)]) rfl dX12_as_60 (Nat.le_of_ble_eq_true rfl) rfl ?_
                refine ts_iload 0 (pc' := 64) rfl dX12_as_62 rfl ?_
                refine ts_if_eq (pc' := 67) (tgt := 75) rfl dX12_as_64 (by decide) (fun q30 => ?_) (fun q30 => ?_)
                rotate_left
                · exact absurd (by decide) q30
                refine ts_aload_n 2 (pc' := 76) rfl dX12_as_75 rfl rfl ?_
                refine ts_iconst (v := 3) (pc' := 77) rfl dX12_as_76 (by decide) ?_
                refine ts_callV (M' := mX12_found) (C := RX12) (pc' := 80) (av := [.int 3]) (b := o) rfl dX12_as_77 rfl gX12_as_X12_found rfl dvX12_found rfl (ci := 11) cfX12.1 (by decide) c4 (Nat.le_refl _) (Nat.le_of_ble_eq_true rfl) (Nat.le_of_ble_eq_true rfl) (Nat.le_refl _) (Nat.le_refl _) ts_kv0 W (ts_kki fun v33 hi31 hk32 W => ?_)
                exact ts_iret dX12_as_80 rfl (Nat.le_refl _) (Nat.le_refl _) ⟨rfl, _, rfl, W⟩
              · replace W := W.2 q29
                refine ts_iconst (v := 1) (pc' := 56) rfl dX12_as_55 (by decide) ?_
                refine ts_goto (tgt := 60) dX12_as_56 (by decide) ?_
                refine ts_istore (pc' := 62) (ls' := [(4, .int 1), (3, .int v12), (0, .ref o), (1, .int p0), (2, .int p1)]) rfl dX12_as_60 (Nat.le_of_ble_eq_true rfl) rfl ?_
                refine ts_iload 0 (pc' := 64) rfl dX12_as_62 rfl ?_
                refine ts_if_eq (pc' := 67) (tgt := 75) rfl dX12_as_64 (by decide) (fun q34 => ?_) (fun q34 => ?_)
                · exact absurd q34 (by decide)
                refine ts_aload_n 2 (pc' := 68) rfl dX12_as_67 rfl rfl ?_
                refine ts_iload_n 3 (pc' := 69) rfl dX12_as_68 rfl rfl ?_
                refine ts_callV (M' := mX12_well) (C := RX12) (pc' := 72) (av := [.int p0]) (b := o) rfl dX12_as_69 rfl gX12_as_X12_well rfl dvX12_well rfl (ci := 11) cfX12.1 (by decide) c4 (Nat.le_refl _) (Nat.le_of_ble_eq_true rfl) (Nat.le_of_ble_eq_true rfl) (Nat.le_refl _) (Nat.le_refl _) ts_kv0 W (ts_kki fun v37 hi35 hk36 W => ?_)
                refine ts_goto (tgt := 80) dX12_as_72 (by decide) ?_
                exact ts_iret dX12_as_80 rfl (Nat.le_refl _) (Nat.le_refl _) ⟨rfl, _, rfl, W⟩
          · replace W := W.2 q23
            refine ts_iload_n 0 (pc' := 41) rfl dX12_as_40 rfl rfl ?_
            refine ts_iconst (v := 4) (pc' := 42) rfl dX12_as_41 (by decide) ?_
            refine ts_icmp_lt (pc' := 45) (tgt := 55) rfl dX12_as_42 (by decide) (fun q38 => ?_) (fun q38 => ?_)
            · replace W := W.1 q38
              refine ts_iconst (v := 1) (pc' := 56) rfl dX12_as_55 (by decide) ?_
              refine ts_goto (tgt := 60) dX12_as_56 (by decide) ?_
              refine ts_istore (pc' := 62) (ls' := [(4, .int 1), (3, .int v12), (0, .ref o), (1, .int p0), (2, .int p1)]) rfl dX12_as_60 (Nat.le_of_ble_eq_true rfl) rfl ?_
              refine ts_iload 0 (pc' := 64) rfl dX12_as_62 rfl ?_
              refine ts_if_eq (pc' := 67) (tgt := 75) rfl dX12_as_64 (by decide) (fun q39 => ?_) (fun q39 => ?_)
              · exact absurd q39 (by decide)
              refine ts_aload_n 2 (pc' := 68) rfl dX12_as_67 rfl rfl ?_
              refine ts_iload_n 3 (pc' := 69) rfl dX12_as_68 rfl rfl ?_
              refine ts_callV (M' := mX12_well) (C := RX12) (pc' := 72) (av := [.int p0]) (b := o) rfl dX12_as_69 rfl gX12_as_X12_well rfl dvX12_well rfl (ci := 11) cfX12.1 (by decide) c4 (Nat.le_refl _) (Nat.le_of_ble_eq_true rfl) (Nat.le_of_ble_eq_true rfl) (Nat.le_refl _) (Nat.le_refl _) ts_kv0 W (ts_kki fun v42 hi40 hk41 W => ?_)
              refine ts_goto (tgt := 80) dX12_as_72 (by decide) ?_
              exact ts_iret dX12_as_80 rfl (Nat.le_refl _) (Nat.le_refl _) ⟨rfl, _, rfl, W⟩
            · replace W := W.2 q38
              refine ts_iload_n 3 (pc' := 46) rfl dX12_as_45 rfl rfl ?_
              refine ts_iconst (v := 4) (pc' := 47) rfl dX12_as_46 (by decide) ?_
              refine ts_icmp_ne (pc' := 50) (tgt := 59) rfl dX12_as_47 (by decide) (fun q43 => ?_) (fun q43 => ?_)
              · replace W := W.1 q43
                refine ts_iconst (v := 0) (pc' := 60) rfl dX12_as_59 (by decide) ?_
                refine ts_istore (pc' := 62) (ls' := [(4, .int 0), (3, .int v12), (0, .ref o), (1, .int p0), (2, .int p1)]) rfl dX12_as_60 (Nat.le_of_ble_eq_true rfl) rfl ?_
                refine ts_iload 0 (pc' := 64) rfl dX12_as_62 rfl ?_
                refine ts_if_eq (pc' := 67) (tgt := 75) rfl dX12_as_64 (by decide) (fun q44 => ?_) (fun q44 => ?_)
                rotate_left
                · exact absurd (by decide) q44
                refine ts_aload_n 2 (pc' := 76) rfl dX12_as_75 rfl rfl ?_
                refine ts_iconst (v := 3) (pc' := 77) rfl dX12_as_76 (by decide) ?_
                refine ts_callV (M' := mX12_found) (C := RX12) (pc' := 80) (av := [.int 3]) (b := o) rfl dX12_as_77 rfl gX12_as_X12_found rfl dvX12_found rfl (ci := 11) cfX12.1 (by decide) c4 (Nat.le_refl _) (Nat.le_of_ble_eq_true rfl) (Nat.le_of_ble_eq_true rfl) (Nat.le_refl _) (Nat.le_refl _) ts_kv0 W (ts_kki fun v47 hi45 hk46 W => ?_)
                exact ts_iret dX12_as_80 rfl (Nat.le_refl _) (Nat.le_refl _) ⟨rfl, _, rfl, W⟩
              · replace W := W.2 q43
                refine ts_iload_n 0 (pc' := 51) rfl dX12_as_50 rfl rfl ?_
                refine ts_iconst (v := 5) (pc' := 52) rfl dX12_as_51 (by decide) ?_
                refine ts_icmp_ne (pc' := 55) (tgt := 59) rfl dX12_as_52 (by decide) (fun q48 => ?_) (fun q48 => ?_)
                · replace W := W.1 q48
                  refine ts_iconst (v := 0) (pc' := 60) rfl dX12_as_59 (by decide) ?_
                  refine ts_istore (pc' := 62) (ls' := [(4, .int 0), (3, .int v12), (0, .ref o), (1, .int p0), (2, .int p1)]) rfl dX12_as_60 (Nat.le_of_ble_eq_true rfl) rfl ?_
                  refine ts_iload 0 (pc' := 64) rfl dX12_as_62 rfl ?_
                  refine ts_if_eq (pc' := 67) (tgt := 75) rfl dX12_as_64 (by decide) (fun q49 => ?_) (fun q49 => ?_)
                  rotate_left
                  · exact absurd (by decide) q49
                  refine ts_aload_n 2 (pc' := 76) rfl dX12_as_75 rfl rfl ?_
                  refine ts_iconst (v := 3) (pc' := 77) rfl dX12_as_76 (by decide) ?_
                  refine ts_callV (M' := mX12_found) (C := RX12) (pc' := 80) (av := [.int 3]) (b := o) rfl dX12_as_77 rfl gX12_as_X12_found rfl dvX12_found rfl (ci := 11) cfX12.1 (by decide) c4 (Nat.le_refl _) (Nat.le_of_ble_eq_true rfl) (Nat.le_of_ble_eq_true rfl) (Nat.le_refl _) (Nat.le_refl _) ts_kv0 W (ts_kki fun v52 hi50 hk51 W => ?_)
                  exact ts_iret dX12_as_80 rfl (Nat.le_refl _) (Nat.le_refl _) ⟨rfl, _, rfl, W⟩
                · replace W := W.2 q48
                  refine ts_iconst (v := 1) (pc' := 56) rfl dX12_as_55 (by decide) ?_
                  refine ts_goto (tgt := 60) dX12_as_56 (by decide) ?_
                  refine ts_istore (pc' := 62) (ls' := [(4, .int 1), (3, .int v12), (0, .ref o), (1, .int p0), (2, .int p1)]) rfl dX12_as_60 (Nat.le_of_ble_eq_true rfl) rfl ?_
                  refine ts_iload 0 (pc' := 64) rfl dX12_as_62 rfl ?_
                  refine ts_if_eq (pc' := 67) (tgt := 75) rfl dX12_as_64 (by decide) (fun q53 => ?_) (fun q53 => ?_)
                  · exact absurd q53 (by decide)
                  refine ts_aload_n 2 (pc' := 68) rfl dX12_as_67 rfl rfl ?_
                  refine ts_iload_n 3 (pc' := 69) rfl dX12_as_68 rfl rfl ?_
                  refine ts_callV (M' := mX12_well) (C := RX12) (pc' := 72) (av := [.int p0]) (b := o) rfl dX12_as_69 rfl gX12_as_X12_well rfl dvX12_well rfl (ci := 11) cfX12.1 (by decide) c4 (Nat.le_refl _) (Nat.le_of_ble_eq_true rfl) (Nat.le_of_ble_eq_true rfl) (Nat.le_refl _) (Nat.le_refl _) ts_kv0 W (ts_kki fun v56 hi54 hk55 W => ?_)
                  refine ts_goto (tgt := 80) dX12_as_72 (by decide) ?_
                  exact ts_iret dX12_as_80 rfl (Nat.le_refl _) (Nat.le_refl _) ⟨rfl, _, rfl, W⟩
    · replace W := W.2 q9
      refine ts_ldc (v := (-1000001)) (pc' := 19) rfl dX12_as_17 (by decide +kernel) ?_
      exact ts_iret dX12_as_19 rfl (Nat.le_refl _) (Nat.le_refl _) ⟨rfl, _, rfl, W⟩
theorem hnX12_begins_X12 : ∀ w ∈ u_ws RX12 TX12 25, w ∈ wsX12_begins := by decide +kernel
theorem flX12_begins_53 : Cond.fieldLink RX12 53 "TurnipSquiresModel" "trace" "[I" ∈ wsX12_begins := by decide +kernel
theorem flX12_begins_231 : Cond.fieldLink RX12 231 "TurnipSquiresModel" "traced" "I" ∈ wsX12_begins := by decide +kernel
set_option maxHeartbeats 4000000 in
theorem wX12_begins_0 {d : Nat} {g : ts_G} {Q : ts_I → ts_K → Prop} {o : Nat} {p0 : Int32} {hi : ts_I} {hk : ts_K} (W : (g.2.1 o = 11) ∧ ((16 ≤ (hi o 24)) → Q hi hk) ∧ (¬ (16 ≤ (hi o 24)) → (g.2.2.2 o 23 ≠ 0) ∧ (g.2.1 (g.2.2.2 o 23) = 100) ∧ (vp_in (hi o 24) (g.2.2.1 (g.2.2.2 o 23))) ∧ ∀ hi6 : ts_I, hi6 = ts_up hi (g.2.2.2 o 23) (hi o 24).toNatClampNeg p0 → ∀ hi7 : ts_I, hi7 = ts_up hi6 o 24 ((hi6 o 24) + 1) → Q hi7 hk)) : ts_J0 d mX12_begins (ts_qv Q) g 0 [(0, .ref o), (1, .int p0)] [] hi hk := by
  refine ts_aload_n 0 (pc' := 1) rfl dX12_begins_0 rfl rfl ?_
  obtain ⟨c1, W⟩ := W
  refine ts_getI (pc' := 4) (ci := 11) 24 cfX12.1 cfX12.2.1 cfX12.2.2 rfl (by decide) hnX12_begins_X12 flX12_begins_231 rfl dX12_begins_1 c1 ?_
  refine ts_bipush (v := 16) (pc' := 6) rfl dX12_begins_4 (by decide) ?_
  refine ts_icmp_ge (pc' := 9) (tgt := 29) rfl dX12_begins_6 (by decide) (fun q2 => ?_) (fun q2 => ?_)
  · replace W := W.1 q2
    exact ts_vret dX12_begins_29 rfl (Nat.le_refl _) (Nat.le_refl _) ⟨rfl, rfl, W⟩
  · replace W := W.2 q2
    refine ts_aload_n 0 (pc' := 10) rfl dX12_begins_9 rfl rfl ?_
    obtain ⟨c3, W⟩ := W
    refine ts_getR (pc' := 13) (ci := 11) 23 cfX12.1 cfX12.2.1 cfX12.2.2 rfl (by decide) hnX12_begins_X12 flX12_begins_53 rfl dX12_begins_10 c1 c3 ?_
    refine ts_aload_n 0 (pc' := 14) rfl dX12_begins_13 rfl rfl ?_
    refine ts_getI (pc' := 17) (ci := 11) 24 cfX12.1 cfX12.2.1 cfX12.2.2 rfl (by decide) hnX12_begins_X12 flX12_begins_231 rfl dX12_begins_14 c1 ?_
    refine ts_iload_n 1 (pc' := 18) rfl dX12_begins_17 rfl rfl ?_
    obtain ⟨c4, W⟩ := W
    obtain ⟨c5, W⟩ := W
    refine ts_iastore (pc' := 19) rfl dX12_begins_18 c4 c5 ?_
    obtain ⟨hi6, ehi6⟩ : ∃ z, z = ts_up hi (g.2.2.2 o 23) (hi o 24).toNatClampNeg p0 := ⟨_, rfl⟩
    rw [← ehi6]; replace W := W hi6 ehi6
    refine ts_aload_n 0 (pc' := 20) rfl dX12_begins_19 rfl rfl ?_
    refine ts_dup (pc' := 21) rfl dX12_begins_20 rfl ?_
    refine ts_getI (pc' := 24) (ci := 11) 24 cfX12.1 cfX12.2.1 cfX12.2.2 rfl (by decide) hnX12_begins_X12 flX12_begins_231 rfl dX12_begins_21 c1 ?_
    refine ts_iconst (v := 1) (pc' := 25) rfl dX12_begins_24 (by decide) ?_
    refine ts_iadd (pc' := 26) rfl dX12_begins_25 ?_
    refine ts_putI (pc' := 29) (ci := 11) 24 cfX12.1 cfX12.2.1 cfX12.2.2 rfl (by decide) hnX12_begins_X12 flX12_begins_231 tyX12_ok nmX12 rfl rfl rfl dX12_begins_26 c1 ?_
    obtain ⟨hi7, ehi7⟩ : ∃ z, z = ts_up hi6 o 24 ((hi6 o 24) + 1) := ⟨_, rfl⟩
    rw [← ehi7]; replace W := W hi7 ehi7
    exact ts_vret dX12_begins_29 rfl (Nat.le_refl _) (Nat.le_refl _) ⟨rfl, rfl, W⟩
theorem hnX12_plainMark_X12 : ∀ w ∈ u_ws RX12 TX12 25, w ∈ wsX12_plainMark := by decide +kernel
theorem flX12_plainMark_25 : Cond.fieldLink RX12 25 "TurnipSquiresModel" "now" "[I" ∈ wsX12_plainMark := by decide +kernel
set_option maxHeartbeats 4000000 in
theorem wX12_plainMark_0 {d : Nat} {g : ts_G} {Q : Int32 → ts_I → ts_K → Prop} {o : Nat} {p0 : Int32} {hi : ts_I} {hk : ts_K} (W : (g.2.1 o = 11) ∧ ts_E0 d mX12_kindIn [.ref o, .int p0] g hi hk (ts_qi (fun v3 hi1 hk2 => ((v3 = 1) → ts_E0 d mX12_begins [.ref o, .int 21] g hi1 hk2 (ts_qv (fun hi6 hk7 => ts_E0 d mX12_begins [.ref o, .int 20] g hi6 hk7 (ts_qv (fun hi8 hk9 => (g.2.2.2 o 13 ≠ 0) ∧ (g.2.1 (g.2.2.2 o 13) = 100) ∧ (vp_in ((4 + (6 * p0)) + 3) (g.2.2.1 (g.2.2.2 o 13))) ∧ ((v3 ≠ 2) → ((v3 ≠ 3) → Q (p0 + (hi8 (g.2.2.2 o 13) ((4 + (6 * p0)) + 3).toNatClampNeg)) hi8 hk9) ∧ (¬ (v3 ≠ 3) → Q ((p0 + (hi8 (g.2.2.2 o 13) ((4 + (6 * p0)) + 3).toNatClampNeg)) - 1000) hi8 hk9)) ∧ (¬ (v3 ≠ 2) → Q (2 * (p0 + (hi8 (g.2.2.2 o 13) ((4 + (6 * p0)) + 3).toNatClampNeg))) hi8 hk9)))))) ∧ (¬ (v3 = 1) → ((v3 ≠ 2) → ts_E0 d mX12_begins [.ref o, .int 22] g hi1 hk2 (ts_qv (fun hi16 hk17 => ts_E0 d mX12_begins [.ref o, .int 21] g hi16 hk17 (ts_qv (fun hi18 hk19 => ts_E0 d mX12_begins [.ref o, .int 20] g hi18 hk19 (ts_qv (fun hi20 hk21 => (g.2.2.2 o 13 ≠ 0) ∧ (g.2.1 (g.2.2.2 o 13) = 100) ∧ (vp_in ((4 + (6 * p0)) + 3) (g.2.2.1 (g.2.2.2 o 13))) ∧ ((v3 ≠ 2) → ((v3 ≠ 3) → Q (p0 + (hi20 (g.2.2.2 o 13) ((4 + (6 * p0)) + 3).toNatClampNeg)) hi20 hk21) ∧ (¬ (v3 ≠ 3) → Q ((p0 + (hi20 (g.2.2.2 o 13) ((4 + (6 * p0)) + 3).toNatClampNeg)) - 1000) hi20 hk21)) ∧ (¬ (v3 ≠ 2) → Q (2 * (p0 + (hi20 (g.2.2.2 o 13) ((4 + (6 * p0)) + 3).toNatClampNeg))) hi20 hk21)))))))) ∧ (¬ (v3 ≠ 2) → ts_E0 d mX12_begins [.ref o, .int 24] g hi1 hk2 (ts_qv (fun hi27 hk28 => ts_E0 d mX12_begins [.ref o, .int 21] g hi27 hk28 (ts_qv (fun hi29 hk30 => ts_E0 d mX12_begins [.ref o, .int 20] g hi29 hk30 (ts_qv (fun hi31 hk32 => (g.2.2.2 o 13 ≠ 0) ∧ (g.2.1 (g.2.2.2 o 13) = 100) ∧ (vp_in ((4 + (6 * p0)) + 3) (g.2.2.1 (g.2.2.2 o 13))) ∧ ((v3 ≠ 2) → ((v3 ≠ 3) → Q (p0 + (hi31 (g.2.2.2 o 13) ((4 + (6 * p0)) + 3).toNatClampNeg)) hi31 hk32) ∧ (¬ (v3 ≠ 3) → Q ((p0 + (hi31 (g.2.2.2 o 13) ((4 + (6 * p0)) + 3).toNatClampNeg)) - 1000) hi31 hk32)) ∧ (¬ (v3 ≠ 2) → Q (2 * (p0 + (hi31 (g.2.2.2 o 13) ((4 + (6 * p0)) + 3).toNatClampNeg))) hi31 hk32)))))))))))) : ts_J0 (d + 1) mX12_plainMark (ts_qi Q) g 0 [(0, .ref o), (1, .int p0)] [] hi hk := by
  refine ts_aload_n 0 (pc' := 1) rfl dX12_plainMark_0 rfl rfl ?_
  refine ts_iload_n 1 (pc' := 2) rfl dX12_plainMark_1 rfl rfl ?_
  obtain ⟨c4, W⟩ := W
  refine ts_callV (M' := mX12_kindIn) (C := RX12) (pc' := 5) (av := [.int p0]) (b := o) rfl dX12_plainMark_2 rfl gX12_plainMark_X12_kindIn rfl dvX12_kindIn rfl (ci := 11) cfX12.1 (by decide) c4 (Nat.le_refl _) (Nat.le_of_ble_eq_true rfl) (Nat.le_of_ble_eq_true rfl) (Nat.le_refl _) (Nat.le_refl _) ts_kv0 W (ts_kki fun v3 hi1 hk2 W => ?_)
  refine ts_istore_n (pc' := 6) (ls' := [(2, .int v3), (0, .ref o), (1, .int p0)]) rfl dX12_plainMark_5 rfl (Nat.le_of_ble_eq_true rfl) rfl ?_
  refine ts_iload_n 0 (pc' := 7) rfl dX12_plainMark_6 rfl rfl ?_
  refine ts_iconst (v := 1) (pc' := 8) rfl dX12_plainMark_7 (by decide) ?_
  refine ts_icmp_eq (pc' := 11) (tgt := 27) rfl dX12_plainMark_8 (by decide) (fun q5 => ?_) (fun q5 => ?_)
  · replace W := W.1 q5
    refine ts_aload_n 1 (pc' := 28) rfl dX12_plainMark_27 rfl rfl ?_
    refine ts_bipush (v := 21) (pc' := 30) rfl dX12_plainMark_28 (by decide) ?_
    refine ts_callV (M' := mX12_begins) (C := RX12) (pc' := 33) (av := [.int 21]) (b := o) rfl dX12_plainMark_30 rfl gX12_plainMark_X12_begins rfl dvX12_begins rfl (ci := 11) cfX12.1 (by decide) c4 (Nat.le_refl _) (Nat.le_of_ble_eq_true rfl) (Nat.le_of_ble_eq_true rfl) (Nat.le_refl _) (Nat.le_refl _) ts_kv0 W (ts_kkv fun hi6 hk7 W => ?_)
    refine ts_aload_n 1 (pc' := 34) rfl dX12_plainMark_33 rfl rfl ?_
    refine ts_bipush (v := 20) (pc' := 36) rfl dX12_plainMark_34 (by decide) ?_
    refine ts_callV (M' := mX12_begins) (C := RX12) (pc' := 39) (av := [.int 20]) (b := o) rfl dX12_plainMark_36 rfl gX12_plainMark_X12_begins rfl dvX12_begins rfl (ci := 11) cfX12.1 (by decide) c4 (Nat.le_refl _) (Nat.le_of_ble_eq_true rfl) (Nat.le_of_ble_eq_true rfl) (Nat.le_refl _) (Nat.le_refl _) ts_kv0 W (ts_kkv fun hi8 hk9 W => ?_)
    refine ts_iload_n 2 (pc' := 40) rfl dX12_plainMark_39 rfl rfl ?_
    refine ts_aload_n 1 (pc' := 41) rfl dX12_plainMark_40 rfl rfl ?_
    obtain ⟨c10, W⟩ := W
    refine ts_getR (pc' := 44) (ci := 11) 13 cfX12.1 cfX12.2.1 cfX12.2.2 rfl (by decide) hnX12_plainMark_X12 flX12_plainMark_25 rfl dX12_plainMark_41 c4 c10 ?_
    refine ts_iconst (v := 4) (pc' := 45) rfl dX12_plainMark_44 (by decide) ?_
    refine ts_bipush (v := 6) (pc' := 47) rfl dX12_plainMark_45 (by decide) ?_
    refine ts_iload_n 2 (pc' := 48) rfl dX12_plainMark_47 rfl rfl ?_
    refine ts_imul (pc' := 49) rfl dX12_plainMark_48 ?_
    refine ts_iadd (pc' := 50) rfl dX12_plainMark_49 ?_
    refine ts_iconst (v := 3) (pc' := 51) rfl dX12_plainMark_50 (by decide) ?_
    refine ts_iadd (pc' := 52) rfl dX12_plainMark_51 ?_
    obtain ⟨c11, W⟩ := W
    obtain ⟨c12, W⟩ := W
    refine ts_iaload (pc' := 53) rfl dX12_plainMark_52 c11 c12 ?_
    refine ts_iadd (pc' := 54) rfl dX12_plainMark_53 ?_
    refine ts_istore_n (pc' := 55) (ls' := [(3, .int (p0 + (hi8 (g.2.2.2 o 13) ((4 + (6 * p0)) + 3).toNatClampNeg))), (2, .int v3), (0, .ref o), (1, .int p0)]) rfl dX12_plainMark_54 rfl (Nat.le_of_ble_eq_true rfl) rfl ?_
    refine ts_iload_n 1 (pc' := 56) rfl dX12_plainMark_55 rfl rfl ?_
    refine ts_iconst (v := 2) (pc' := 57) rfl dX12_plainMark_56 (by decide) ?_
    refine ts_icmp_ne (pc' := 60) (tgt := 66) rfl dX12_plainMark_57 (by decide) (fun q13 => ?_) (fun q13 => ?_)
    · replace W := W.1 q13
      refine ts_iload_n 1 (pc' := 67) rfl dX12_plainMark_66 rfl rfl ?_
      refine ts_iconst (v := 3) (pc' := 68) rfl dX12_plainMark_67 (by decide) ?_
      refine ts_icmp_ne (pc' := 71) (tgt := 79) rfl dX12_plainMark_68 (by decide) (fun q14 => ?_) (fun q14 => ?_)
      · replace W := W.1 q14
        refine ts_iload_n 0 (pc' := 80) rfl dX12_plainMark_79 rfl rfl ?_
        exact ts_iret dX12_plainMark_80 rfl (Nat.le_refl _) (Nat.le_refl _) ⟨rfl, _, rfl, W⟩
      · replace W := W.2 q14
        refine ts_iload_n 0 (pc' := 72) rfl dX12_plainMark_71 rfl rfl ?_
        refine ts_sipush (v := 1000) (pc' := 75) rfl dX12_plainMark_72 (by decide) ?_
        refine ts_isub (pc' := 76) rfl dX12_plainMark_75 ?_
        refine ts_goto (tgt := 80) dX12_plainMark_76 (by decide) ?_
        exact ts_iret dX12_plainMark_80 rfl (Nat.le_refl _) (Nat.le_refl _) ⟨rfl, _, rfl, W⟩
    · replace W := W.2 q13
      refine ts_iconst (v := 2) (pc' := 61) rfl dX12_plainMark_60 (by decide) ?_
      refine ts_iload_n 0 (pc' := 62) rfl dX12_plainMark_61 rfl rfl ?_
      refine ts_imul (pc' := 63) rfl dX12_plainMark_62 ?_
      refine ts_goto (tgt := 80) dX12_plainMark_63 (by decide) ?_
      exact ts_iret dX12_plainMark_80 rfl (Nat.le_refl _) (Nat.le_refl _) ⟨rfl, _, rfl, W⟩
  · replace W := W.2 q5
    refine ts_aload_n 1 (pc' := 12) rfl dX12_plainMark_11 rfl rfl ?_
    refine ts_iload_n 0 (pc' := 13) rfl dX12_plainMark_12 rfl rfl ?_
    refine ts_iconst (v := 2) (pc' := 14) rfl dX12_plainMark_13 (by decide) ?_
    refine ts_icmp_ne (pc' := 17) (tgt := 22) rfl dX12_plainMark_14 (by decide) (fun q15 => ?_) (fun q15 => ?_)
    · replace W := W.1 q15
      refine ts_bipush (v := 22) (pc' := 24) rfl dX12_plainMark_22 (by decide) ?_
      refine ts_callV (M' := mX12_begins) (C := RX12) (pc' := 27) (av := [.int 22]) (b := o) rfl dX12_plainMark_24 rfl gX12_plainMark_X12_begins rfl dvX12_begins rfl (ci := 11) cfX12.1 (by decide) c4 (Nat.le_refl _) (Nat.le_of_ble_eq_true rfl) (Nat.le_of_ble_eq_true rfl) (Nat.le_refl _) (Nat.le_refl _) ts_kv0 W (ts_kkv fun hi16 hk17 W => ?_)
      refine ts_aload_n 1 (pc' := 28) rfl dX12_plainMark_27 rfl rfl ?_
      refine ts_bipush (v := 21) (pc' := 30) rfl dX12_plainMark_28 (by decide) ?_
      refine ts_callV (M' := mX12_begins) (C := RX12) (pc' := 33) (av := [.int 21]) (b := o) rfl dX12_plainMark_30 rfl gX12_plainMark_X12_begins rfl dvX12_begins rfl (ci := 11) cfX12.1 (by decide) c4 (Nat.le_refl _) (Nat.le_of_ble_eq_true rfl) (Nat.le_of_ble_eq_true rfl) (Nat.le_refl _) (Nat.le_refl _) ts_kv0 W (ts_kkv fun hi18 hk19 W => ?_)
      refine ts_aload_n 1 (pc' := 34) rfl dX12_plainMark_33 rfl rfl ?_
      refine ts_bipush (v := 20) (pc' := 36) rfl dX12_plainMark_34 (by decide) ?_
      refine ts_callV (M' := mX12_begins) (C := RX12) (pc' := 39) (av := [.int 20]) (b := o) rfl dX12_plainMark_36 rfl gX12_plainMark_X12_begins rfl dvX12_begins rfl (ci := 11) cfX12.1 (by decide) c4 (Nat.le_refl _) (Nat.le_of_ble_eq_true rfl) (Nat.le_of_ble_eq_true rfl) (Nat.le_refl _) (Nat.le_refl _) ts_kv0 W (ts_kkv fun hi20 hk21 W => ?_)
      refine ts_iload_n 2 (pc' := 40) rfl dX12_plainMark_39 rfl rfl ?_
      refine ts_aload_n 1 (pc' := 41) rfl dX12_plainMark_40 rfl rfl ?_
      obtain ⟨c22, W⟩ := W
      refine ts_getR (pc' := 44) (ci := 11) 13 cfX12.1 cfX12.2.1 cfX12.2.2 rfl (by decide) hnX12_plainMark_X12 flX12_plainMark_25 rfl dX12_plainMark_41 c4 c22 ?_
      refine ts_iconst (v := 4) (pc' := 45) rfl dX12_plainMark_44 (by decide) ?_
      refine ts_bipush (v := 6) (pc' := 47) rfl dX12_plainMark_45 (by decide) ?_
      refine ts_iload_n 2 (pc' := 48) rfl dX12_plainMark_47 rfl rfl ?_
      refine ts_imul (pc' := 49) rfl dX12_plainMark_48 ?_
      refine ts_iadd (pc' := 50) rfl dX12_plainMark_49 ?_
      refine ts_iconst (v := 3) (pc' := 51) rfl dX12_plainMark_50 (by decide) ?_
      refine ts_iadd (pc' := 52) rfl dX12_plainMark_51 ?_
      obtain ⟨c23, W⟩ := W
      obtain ⟨c24, W⟩ := W
      refine ts_iaload (pc' := 53) rfl dX12_plainMark_52 c23 c24 ?_
      refine ts_iadd (pc' := 54) rfl dX12_plainMark_53 ?_
      refine ts_istore_n (pc' := 55) (ls' := [(3, .int (p0 + (hi20 (g.2.2.2 o 13) ((4 + (6 * p0)) + 3).toNatClampNeg))), (2, .int v3), (0, .ref o), (1, .int p0)]) rfl dX12_plainMark_54 rfl (Nat.le_of_ble_eq_true rfl) rfl ?_
      refine ts_iload_n 1 (pc' := 56) rfl dX12_plainMark_55 rfl rfl ?_
      refine ts_iconst (v := 2) (pc' := 57) rfl dX12_plainMark_56 (by decide) ?_
      refine ts_icmp_ne (pc' := 60) (tgt := 66) rfl dX12_plainMark_57 (by decide) (fun q25 => ?_) (fun q25 => ?_)
      · replace W := W.1 q25
        refine ts_iload_n 1 (pc' := 67) rfl dX12_plainMark_66 rfl rfl ?_
        refine ts_iconst (v := 3) (pc' := 68) rfl dX12_plainMark_67 (by decide) ?_
        refine ts_icmp_ne (pc' := 71) (tgt := 79) rfl dX12_plainMark_68 (by decide) (fun q26 => ?_) (fun q26 => ?_)
        · replace W := W.1 q26
          refine ts_iload_n 0 (pc' := 80) rfl dX12_plainMark_79 rfl rfl ?_
          exact ts_iret dX12_plainMark_80 rfl (Nat.le_refl _) (Nat.le_refl _) ⟨rfl, _, rfl, W⟩
        · replace W := W.2 q26
          refine ts_iload_n 0 (pc' := 72) rfl dX12_plainMark_71 rfl rfl ?_
          refine ts_sipush (v := 1000) (pc' := 75) rfl dX12_plainMark_72 (by decide) ?_
          refine ts_isub (pc' := 76) rfl dX12_plainMark_75 ?_
          refine ts_goto (tgt := 80) dX12_plainMark_76 (by decide) ?_
          exact ts_iret dX12_plainMark_80 rfl (Nat.le_refl _) (Nat.le_refl _) ⟨rfl, _, rfl, W⟩
      · replace W := W.2 q25
        refine ts_iconst (v := 2) (pc' := 61) rfl dX12_plainMark_60 (by decide) ?_
        refine ts_iload_n 0 (pc' := 62) rfl dX12_plainMark_61 rfl rfl ?_
        refine ts_imul (pc' := 63) rfl dX12_plainMark_62 ?_
        refine ts_goto (tgt := 80) dX12_plainMark_63 (by decide) ?_
        exact ts_iret dX12_plainMark_80 rfl (Nat.le_refl _) (Nat.le_refl _) ⟨rfl, _, rfl, W⟩
    · replace W := W.2 q15
      refine ts_bipush (v := 24) (pc' := 19) rfl dX12_plainMark_17 (by decide) ?_
      refine ts_goto (tgt := 24) dX12_plainMark_19 (by decide) ?_
      refine ts_callV (M' := mX12_begins) (C := RX12) (pc' := 27) (av := [.int 24]) (b := o) rfl dX12_plainMark_24 rfl gX12_plainMark_X12_begins rfl dvX12_begins rfl (ci := 11) cfX12.1 (by decide) c4 (Nat.le_refl _) (Nat.le_of_ble_eq_true rfl) (Nat.le_of_ble_eq_true rfl) (Nat.le_refl _) (Nat.le_refl _) ts_kv0 W (ts_kkv fun hi27 hk28 W => ?_)
      refine ts_aload_n 1 (pc' := 28) rfl dX12_plainMark_27 rfl rfl ?_
      refine ts_bipush (v := 21) (pc' := 30) rfl dX12_plainMark_28 (by decide) ?_
      refine ts_callV (M' := mX12_begins) (C := RX12) (pc' := 33) (av := [.int 21]) (b := o) rfl dX12_plainMark_30 rfl gX12_plainMark_X12_begins rfl dvX12_begins rfl (ci := 11) cfX12.1 (by decide) c4 (Nat.le_refl _) (Nat.le_of_ble_eq_true rfl) (Nat.le_of_ble_eq_true rfl) (Nat.le_refl _) (Nat.le_refl _) ts_kv0 W (ts_kkv fun hi29 hk30 W => ?_)
      refine ts_aload_n 1 (pc' := 34) rfl dX12_plainMark_33 rfl rfl ?_
      refine ts_bipush (v := 20) (pc' := 36) rfl dX12_plainMark_34 (by decide) ?_
      refine ts_callV (M' := mX12_begins) (C := RX12) (pc' := 39) (av := [.int 20]) (b := o) rfl dX12_plainMark_36 rfl gX12_plainMark_X12_begins rfl dvX12_begins rfl (ci := 11) cfX12.1 (by decide) c4 (Nat.le_refl _) (Nat.le_of_ble_eq_true rfl) (Nat.le_of_ble_eq_true rfl) (Nat.le_refl _) (Nat.le_refl _) ts_kv0 W (ts_kkv fun hi31 hk32 W => ?_)
      refine ts_iload_n 2 (pc' := 40) rfl dX12_plainMark_39 rfl rfl ?_
      refine ts_aload_n 1 (pc' := 41) rfl dX12_plainMark_40 rfl rfl ?_
      obtain ⟨c33, W⟩ := W
      refine ts_getR (pc' := 44) (ci := 11) 13 cfX12.1 cfX12.2.1 cfX12.2.2 rfl (by decide) hnX12_plainMark_X12 flX12_plainMark_25 rfl dX12_plainMark_41 c4 c33 ?_
      refine ts_iconst (v := 4) (pc' := 45) rfl dX12_plainMark_44 (by decide) ?_
      refine ts_bipush (v := 6) (pc' := 47) rfl dX12_plainMark_45 (by decide) ?_
      refine ts_iload_n 2 (pc' := 48) rfl dX12_plainMark_47 rfl rfl ?_
      refine ts_imul (pc' := 49) rfl dX12_plainMark_48 ?_
      refine ts_iadd (pc' := 50) rfl dX12_plainMark_49 ?_
      refine ts_iconst (v := 3) (pc' := 51) rfl dX12_plainMark_50 (by decide) ?_
      refine ts_iadd (pc' := 52) rfl dX12_plainMark_51 ?_
      obtain ⟨c34, W⟩ := W
      obtain ⟨c35, W⟩ := W
      refine ts_iaload (pc' := 53) rfl dX12_plainMark_52 c34 c35 ?_
      refine ts_iadd (pc' := 54) rfl dX12_plainMark_53 ?_
      refine ts_istore_n (pc' := 55) (ls' := [(3, .int (p0 + (hi31 (g.2.2.2 o 13) ((4 + (6 * p0)) + 3).toNatClampNeg))), (2, .int v3), (0, .ref o), (1, .int p0)]) rfl dX12_plainMark_54 rfl (Nat.le_of_ble_eq_true rfl) rfl ?_
      refine ts_iload_n 1 (pc' := 56) rfl dX12_plainMark_55 rfl rfl ?_
      refine ts_iconst (v := 2) (pc' := 57) rfl dX12_plainMark_56 (by decide) ?_
      refine ts_icmp_ne (pc' := 60) (tgt := 66) rfl dX12_plainMark_57 (by decide) (fun q36 => ?_) (fun q36 => ?_)
      · replace W := W.1 q36
        refine ts_iload_n 1 (pc' := 67) rfl dX12_plainMark_66 rfl rfl ?_
        refine ts_iconst (v := 3) (pc' := 68) rfl dX12_plainMark_67 (by decide) ?_
        refine ts_icmp_ne (pc' := 71) (tgt := 79) rfl dX12_plainMark_68 (by decide) (fun q37 => ?_) (fun q37 => ?_)
        · replace W := W.1 q37
          refine ts_iload_n 0 (pc' := 80) rfl dX12_plainMark_79 rfl rfl ?_
          exact ts_iret dX12_plainMark_80 rfl (Nat.le_refl _) (Nat.le_refl _) ⟨rfl, _, rfl, W⟩
        · replace W := W.2 q37
          refine ts_iload_n 0 (pc' := 72) rfl dX12_plainMark_71 rfl rfl ?_
          refine ts_sipush (v := 1000) (pc' := 75) rfl dX12_plainMark_72 (by decide) ?_
          refine ts_isub (pc' := 76) rfl dX12_plainMark_75 ?_
          refine ts_goto (tgt := 80) dX12_plainMark_76 (by decide) ?_
          exact ts_iret dX12_plainMark_80 rfl (Nat.le_refl _) (Nat.le_refl _) ⟨rfl, _, rfl, W⟩
      · replace W := W.2 q36
        refine ts_iconst (v := 2) (pc' := 61) rfl dX12_plainMark_60 (by decide) ?_
        refine ts_iload_n 0 (pc' := 62) rfl dX12_plainMark_61 rfl rfl ?_
        refine ts_imul (pc' := 63) rfl dX12_plainMark_62 ?_
        refine ts_goto (tgt := 80) dX12_plainMark_63 (by decide) ?_
        exact ts_iret dX12_plainMark_80 rfl (Nat.le_refl _) (Nat.le_refl _) ⟨rfl, _, rfl, W⟩
theorem hnX12_fellowSize_X12 : ∀ w ∈ u_ws RX12 TX12 25, w ∈ wsX12_fellowSize := by decide +kernel
theorem flX12_fellowSize_25 : Cond.fieldLink RX12 25 "TurnipSquiresModel" "now" "[I" ∈ wsX12_fellowSize := by decide +kernel
set_option maxHeartbeats 4000000 in
theorem wX12_fellowSize_0 {d : Nat} {g : ts_G} {Q : Int32 → ts_I → ts_K → Prop} {o : Nat} {p0 : Int32} {hi : ts_I} {hk : ts_K} (W : (g.2.1 o = 11) ∧ ts_E0 d mX12_kindIn [.ref o, .int p0] g hi hk (ts_qi (fun v3 hi1 hk2 => ((v3 ≠ 5) → ts_E0 d mX12_begins [.ref o, .int 13] g hi1 hk2 (ts_qv (fun hi7 hk8 => ts_E0 d mX12_begins [.ref o, .int 10] g hi7 hk8 (ts_qv (fun hi9 hk10 => (g.2.2.2 o 13 ≠ 0) ∧ (g.2.1 (g.2.2.2 o 13) = 100) ∧ (vp_in ((4 + (6 * p0)) + 1) (g.2.2.1 (g.2.2.2 o 13))) ∧ Q ((hi9 (g.2.2.2 o 13) ((4 + (6 * p0)) + 1).toNatClampNeg) - 100) hi9 hk10))))) ∧ (¬ (v3 ≠ 5) → ts_E0 d mX12_begins [.ref o, .int 14] g hi1 hk2 (ts_qv (fun hi16 hk17 => ts_E0 d mX12_begins [.ref o, .int 13] g hi16 hk17 (ts_qv (fun hi18 hk19 => ts_E0 d mX12_begins [.ref o, .int 10] g hi18 hk19 (ts_qv (fun hi20 hk21 => (g.2.2.2 o 13 ≠ 0) ∧ (g.2.1 (g.2.2.2 o 13) = 100) ∧ (vp_in ((4 + (6 * p0)) + 1) (g.2.2.1 (g.2.2.2 o 13))) ∧ Q (2 * ((hi20 (g.2.2.2 o 13) ((4 + (6 * p0)) + 1).toNatClampNeg) - 100)) hi20 hk21)))))))))) : ts_J0 (d + 1) mX12_fellowSize (ts_qi Q) g 0 [(0, .ref o), (1, .int p0)] [] hi hk := by
  refine ts_aload_n 0 (pc' := 1) rfl dX12_fellowSize_0 rfl rfl ?_
  refine ts_iload_n 1 (pc' := 2) rfl dX12_fellowSize_1 rfl rfl ?_
  obtain ⟨c4, W⟩ := W
  refine ts_callV (M' := mX12_kindIn) (C := RX12) (pc' := 5) (av := [.int p0]) (b := o) rfl dX12_fellowSize_2 rfl gX12_fellowSize_X12_kindIn rfl dvX12_kindIn rfl (ci := 11) cfX12.1 (by decide) c4 (Nat.le_refl _) (Nat.le_of_ble_eq_true rfl) (Nat.le_of_ble_eq_true rfl) (Nat.le_refl _) (Nat.le_refl _) ts_kv0 W (ts_kki fun v3 hi1 hk2 W => ?_)
  refine ts_iconst (v := 5) (pc' := 6) rfl dX12_fellowSize_5 (by decide) ?_
  refine ts_icmp_ne (pc' := 9) (tgt := 13) rfl dX12_fellowSize_6 (by decide) (fun q5 => ?_) (fun q5 => ?_)
  · replace W := W.1 q5
    refine ts_iconst (v := 0) (pc' := 14) rfl dX12_fellowSize_13 (by decide) ?_
    refine ts_istore_n (pc' := 15) (ls' := [(2, .int 0), (0, .ref o), (1, .int p0)]) rfl dX12_fellowSize_14 rfl (Nat.le_of_ble_eq_true rfl) rfl ?_
    refine ts_iload_n 0 (pc' := 16) rfl dX12_fellowSize_15 rfl rfl ?_
    refine ts_if_eq (pc' := 19) (tgt := 25) rfl dX12_fellowSize_16 (by decide) (fun q6 => ?_) (fun q6 => ?_)
    rotate_left
    · exact absurd (by decide) q6
    refine ts_aload_n 1 (pc' := 26) rfl dX12_fellowSize_25 rfl rfl ?_
    refine ts_bipush (v := 13) (pc' := 28) rfl dX12_fellowSize_26 (by decide) ?_
    refine ts_callV (M' := mX12_begins) (C := RX12) (pc' := 31) (av := [.int 13]) (b := o) rfl dX12_fellowSize_28 rfl gX12_fellowSize_X12_begins rfl dvX12_begins rfl (ci := 11) cfX12.1 (by decide) c4 (Nat.le_refl _) (Nat.le_of_ble_eq_true rfl) (Nat.le_of_ble_eq_true rfl) (Nat.le_refl _) (Nat.le_refl _) ts_kv0 W (ts_kkv fun hi7 hk8 W => ?_)
    refine ts_aload_n 1 (pc' := 32) rfl dX12_fellowSize_31 rfl rfl ?_
    refine ts_bipush (v := 10) (pc' := 34) rfl dX12_fellowSize_32 (by decide) ?_
    refine ts_callV (M' := mX12_begins) (C := RX12) (pc' := 37) (av := [.int 10]) (b := o) rfl dX12_fellowSize_34 rfl gX12_fellowSize_X12_begins rfl dvX12_begins rfl (ci := 11) cfX12.1 (by decide) c4 (Nat.le_refl _) (Nat.le_of_ble_eq_true rfl) (Nat.le_of_ble_eq_true rfl) (Nat.le_refl _) (Nat.le_refl _) ts_kv0 W (ts_kkv fun hi9 hk10 W => ?_)
    refine ts_aload_n 1 (pc' := 38) rfl dX12_fellowSize_37 rfl rfl ?_
    obtain ⟨c11, W⟩ := W
    refine ts_getR (pc' := 41) (ci := 11) 13 cfX12.1 cfX12.2.1 cfX12.2.2 rfl (by decide) hnX12_fellowSize_X12 flX12_fellowSize_25 rfl dX12_fellowSize_38 c4 c11 ?_
    refine ts_iconst (v := 4) (pc' := 42) rfl dX12_fellowSize_41 (by decide) ?_
    refine ts_bipush (v := 6) (pc' := 44) rfl dX12_fellowSize_42 (by decide) ?_
    refine ts_iload_n 2 (pc' := 45) rfl dX12_fellowSize_44 rfl rfl ?_
    refine ts_imul (pc' := 46) rfl dX12_fellowSize_45 ?_
    refine ts_iadd (pc' := 47) rfl dX12_fellowSize_46 ?_
    refine ts_iconst (v := 1) (pc' := 48) rfl dX12_fellowSize_47 (by decide) ?_
    refine ts_iadd (pc' := 49) rfl dX12_fellowSize_48 ?_
    obtain ⟨c12, W⟩ := W
    obtain ⟨c13, W⟩ := W
    refine ts_iaload (pc' := 50) rfl dX12_fellowSize_49 c12 c13 ?_
    refine ts_bipush (v := 100) (pc' := 52) rfl dX12_fellowSize_50 (by decide) ?_
    refine ts_isub (pc' := 53) rfl dX12_fellowSize_52 ?_
    refine ts_istore_n (pc' := 54) (ls' := [(3, .int ((hi9 (g.2.2.2 o 13) ((4 + (6 * p0)) + 1).toNatClampNeg) - 100)), (2, .int 0), (0, .ref o), (1, .int p0)]) rfl dX12_fellowSize_53 rfl (Nat.le_of_ble_eq_true rfl) rfl ?_
    refine ts_iload_n 1 (pc' := 55) rfl dX12_fellowSize_54 rfl rfl ?_
    refine ts_if_eq (pc' := 58) (tgt := 64) rfl dX12_fellowSize_55 (by decide) (fun q14 => ?_) (fun q14 => ?_)
    rotate_left
    · exact absurd (by decide) q14
    refine ts_iload_n 0 (pc' := 65) rfl dX12_fellowSize_64 rfl rfl ?_
    exact ts_iret dX12_fellowSize_65 rfl (Nat.le_refl _) (Nat.le_refl _) ⟨rfl, _, rfl, W⟩
  · replace W := W.2 q5
    refine ts_iconst (v := 1) (pc' := 10) rfl dX12_fellowSize_9 (by decide) ?_
    refine ts_goto (tgt := 14) dX12_fellowSize_10 (by decide) ?_
    refine ts_istore_n (pc' := 15) (ls' := [(2, .int 1), (0, .ref o), (1, .int p0)]) rfl dX12_fellowSize_14 rfl (Nat.le_of_ble_eq_true rfl) rfl ?_
    refine ts_iload_n 0 (pc' := 16) rfl dX12_fellowSize_15 rfl rfl ?_
    refine ts_if_eq (pc' := 19) (tgt := 25) rfl dX12_fellowSize_16 (by decide) (fun q15 => ?_) (fun q15 => ?_)
    · exact absurd q15 (by decide)
    refine ts_aload_n 1 (pc' := 20) rfl dX12_fellowSize_19 rfl rfl ?_
    refine ts_bipush (v := 14) (pc' := 22) rfl dX12_fellowSize_20 (by decide) ?_
    refine ts_callV (M' := mX12_begins) (C := RX12) (pc' := 25) (av := [.int 14]) (b := o) rfl dX12_fellowSize_22 rfl gX12_fellowSize_X12_begins rfl dvX12_begins rfl (ci := 11) cfX12.1 (by decide) c4 (Nat.le_refl _) (Nat.le_of_ble_eq_true rfl) (Nat.le_of_ble_eq_true rfl) (Nat.le_refl _) (Nat.le_refl _) ts_kv0 W (ts_kkv fun hi16 hk17 W => ?_)
    refine ts_aload_n 1 (pc' := 26) rfl dX12_fellowSize_25 rfl rfl ?_
    refine ts_bipush (v := 13) (pc' := 28) rfl dX12_fellowSize_26 (by decide) ?_
    refine ts_callV (M' := mX12_begins) (C := RX12) (pc' := 31) (av := [.int 13]) (b := o) rfl dX12_fellowSize_28 rfl gX12_fellowSize_X12_begins rfl dvX12_begins rfl (ci := 11) cfX12.1 (by decide) c4 (Nat.le_refl _) (Nat.le_of_ble_eq_true rfl) (Nat.le_of_ble_eq_true rfl) (Nat.le_refl _) (Nat.le_refl _) ts_kv0 W (ts_kkv fun hi18 hk19 W => ?_)
    refine ts_aload_n 1 (pc' := 32) rfl dX12_fellowSize_31 rfl rfl ?_
    refine ts_bipush (v := 10) (pc' := 34) rfl dX12_fellowSize_32 (by decide) ?_
    refine ts_callV (M' := mX12_begins) (C := RX12) (pc' := 37) (av := [.int 10]) (b := o) rfl dX12_fellowSize_34 rfl gX12_fellowSize_X12_begins rfl dvX12_begins rfl (ci := 11) cfX12.1 (by decide) c4 (Nat.le_refl _) (Nat.le_of_ble_eq_true rfl) (Nat.le_of_ble_eq_true rfl) (Nat.le_refl _) (Nat.le_refl _) ts_kv0 W (ts_kkv fun hi20 hk21 W => ?_)
    refine ts_aload_n 1 (pc' := 38) rfl dX12_fellowSize_37 rfl rfl ?_
    obtain ⟨c22, W⟩ := W
    refine ts_getR (pc' := 41) (ci := 11) 13 cfX12.1 cfX12.2.1 cfX12.2.2 rfl (by decide) hnX12_fellowSize_X12 flX12_fellowSize_25 rfl dX12_fellowSize_38 c4 c22 ?_
    refine ts_iconst (v := 4) (pc' := 42) rfl dX12_fellowSize_41 (by decide) ?_
    refine ts_bipush (v := 6) (pc' := 44) rfl dX12_fellowSize_42 (by decide) ?_
    refine ts_iload_n 2 (pc' := 45) rfl dX12_fellowSize_44 rfl rfl ?_
    refine ts_imul (pc' := 46) rfl dX12_fellowSize_45 ?_
    refine ts_iadd (pc' := 47) rfl dX12_fellowSize_46 ?_
    refine ts_iconst (v := 1) (pc' := 48) rfl dX12_fellowSize_47 (by decide) ?_
    refine ts_iadd (pc' := 49) rfl dX12_fellowSize_48 ?_
    obtain ⟨c23, W⟩ := W
    obtain ⟨c24, W⟩ := W
    refine ts_iaload (pc' := 50) rfl dX12_fellowSize_49 c23 c24 ?_
    refine ts_bipush (v := 100) (pc' := 52) rfl dX12_fellowSize_50 (by decide) ?_
    refine ts_isub (pc' := 53) rfl dX12_fellowSize_52 ?_
    refine ts_istore_n (pc' := 54) (ls' := [(3, .int ((hi20 (g.2.2.2 o 13) ((4 + (6 * p0)) + 1).toNatClampNeg) - 100)), (2, .int 1), (0, .ref o), (1, .int p0)]) rfl dX12_fellowSize_53 rfl (Nat.le_of_ble_eq_true rfl) rfl ?_
    refine ts_iload_n 1 (pc' := 55) rfl dX12_fellowSize_54 rfl rfl ?_
    refine ts_if_eq (pc' := 58) (tgt := 64) rfl dX12_fellowSize_55 (by decide) (fun q25 => ?_) (fun q25 => ?_)
    · exact absurd q25 (by decide)
    refine ts_iconst (v := 2) (pc' := 59) rfl dX12_fellowSize_58 (by decide) ?_
    refine ts_iload_n 0 (pc' := 60) rfl dX12_fellowSize_59 rfl rfl ?_
    refine ts_imul (pc' := 61) rfl dX12_fellowSize_60 ?_
    refine ts_goto (tgt := 65) dX12_fellowSize_61 (by decide) ?_
    exact ts_iret dX12_fellowSize_65 rfl (Nat.le_refl _) (Nat.le_refl _) ⟨rfl, _, rfl, W⟩
theorem hnX12_plainSize_X12 : ∀ w ∈ u_ws RX12 TX12 25, w ∈ wsX12_plainSize := by decide +kernel
theorem flX12_plainSize_25 : Cond.fieldLink RX12 25 "TurnipSquiresModel" "now" "[I" ∈ wsX12_plainSize := by decide +kernel
set_option maxHeartbeats 4000000 in
theorem wX12_plainSize_0 {d : Nat} {g : ts_G} {Q : Int32 → ts_I → ts_K → Prop} {o : Nat} {p0 : Int32} {hi : ts_I} {hk : ts_K} (W : (g.2.1 o = 11) ∧ ts_E0 d mX12_kindIn [.ref o, .int p0] g hi hk (ts_qi (fun v3 hi1 hk2 => ((v3 ≠ 2) → ts_E0 d mX12_begins [.ref o, .int 11] g hi1 hk2 (ts_qv (fun hi7 hk8 => ts_E0 d mX12_begins [.ref o, .int 10] g hi7 hk8 (ts_qv (fun hi9 hk10 => (g.2.2.2 o 13 ≠ 0) ∧ (g.2.1 (g.2.2.2 o 13) = 100) ∧ (vp_in ((4 + (6 * p0)) + 1) (g.2.2.1 (g.2.2.2 o 13))) ∧ ts_E0 d mX12_plainMark [.ref o, .int p0] g hi9 hk10 (ts_qi (fun v16 hi14 hk15 => Q ((hi9 (g.2.2.2 o 13) ((4 + (6 * p0)) + 1).toNatClampNeg) + v16) hi14 hk15))))))) ∧ (¬ (v3 ≠ 2) → ts_E0 d mX12_begins [.ref o, .int 12] g hi1 hk2 (ts_qv (fun hi19 hk20 => ts_E0 d mX12_begins [.ref o, .int 11] g hi19 hk20 (ts_qv (fun hi21 hk22 => ts_E0 d mX12_begins [.ref o, .int 10] g hi21 hk22 (ts_qv (fun hi23 hk24 => (g.2.2.2 o 13 ≠ 0) ∧ (g.2.1 (g.2.2.2 o 13) = 100) ∧ (vp_in ((4 + (6 * p0)) + 1) (g.2.2.1 (g.2.2.2 o 13))) ∧ ts_E0 d mX12_plainMark [.ref o, .int p0] g hi23 hk24 (ts_qi (fun v30 hi28 hk29 => Q (-((hi23 (g.2.2.2 o 13) ((4 + (6 * p0)) + 1).toNatClampNeg) + v30)) hi28 hk29)))))))))))) : ts_J0 (d + 1) mX12_plainSize (ts_qi Q) g 0 [(0, .ref o), (1, .int p0)] [] hi hk := by
  refine ts_aload_n 0 (pc' := 1) rfl dX12_plainSize_0 rfl rfl ?_
  refine ts_iload_n 1 (pc' := 2) rfl dX12_plainSize_1 rfl rfl ?_
  obtain ⟨c4, W⟩ := W
  refine ts_callV (M' := mX12_kindIn) (C := RX12) (pc' := 5) (av := [.int p0]) (b := o) rfl dX12_plainSize_2 rfl gX12_plainSize_X12_kindIn rfl dvX12_kindIn rfl (ci := 11) cfX12.1 (by decide) c4 (Nat.le_refl _) (Nat.le_of_ble_eq_true rfl) (Nat.le_of_ble_eq_true rfl) (Nat.le_refl _) (Nat.le_refl _) ts_kv0 W (ts_kki fun v3 hi1 hk2 W => ?_)
  refine ts_iconst (v := 2) (pc' := 6) rfl dX12_plainSize_5 (by decide) ?_
  refine ts_icmp_ne (pc' := 9) (tgt := 13) rfl dX12_plainSize_6 (by decide) (fun q5 => ?_) (fun q5 => ?_)
  · replace W := W.1 q5
    refine ts_iconst (v := 0) (pc' := 14) rfl dX12_plainSize_13 (by decide) ?_
    refine ts_istore_n (pc' := 15) (ls' := [(2, .int 0), (0, .ref o), (1, .int p0)]) rfl dX12_plainSize_14 rfl (Nat.le_of_ble_eq_true rfl) rfl ?_
    refine ts_iload_n 0 (pc' := 16) rfl dX12_plainSize_15 rfl rfl ?_
    refine ts_if_eq (pc' := 19) (tgt := 25) rfl dX12_plainSize_16 (by decide) (fun q6 => ?_) (fun q6 => ?_)
    rotate_left
    · exact absurd (by decide) q6
    refine ts_aload_n 1 (pc' := 26) rfl dX12_plainSize_25 rfl rfl ?_
    refine ts_bipush (v := 11) (pc' := 28) rfl dX12_plainSize_26 (by decide) ?_
    refine ts_callV (M' := mX12_begins) (C := RX12) (pc' := 31) (av := [.int 11]) (b := o) rfl dX12_plainSize_28 rfl gX12_plainSize_X12_begins rfl dvX12_begins rfl (ci := 11) cfX12.1 (by decide) c4 (Nat.le_refl _) (Nat.le_of_ble_eq_true rfl) (Nat.le_of_ble_eq_true rfl) (Nat.le_refl _) (Nat.le_refl _) ts_kv0 W (ts_kkv fun hi7 hk8 W => ?_)
    refine ts_aload_n 1 (pc' := 32) rfl dX12_plainSize_31 rfl rfl ?_
    refine ts_bipush (v := 10) (pc' := 34) rfl dX12_plainSize_32 (by decide) ?_
    refine ts_callV (M' := mX12_begins) (C := RX12) (pc' := 37) (av := [.int 10]) (b := o) rfl dX12_plainSize_34 rfl gX12_plainSize_X12_begins rfl dvX12_begins rfl (ci := 11) cfX12.1 (by decide) c4 (Nat.le_refl _) (Nat.le_of_ble_eq_true rfl) (Nat.le_of_ble_eq_true rfl) (Nat.le_refl _) (Nat.le_refl _) ts_kv0 W (ts_kkv fun hi9 hk10 W => ?_)
    refine ts_aload_n 1 (pc' := 38) rfl dX12_plainSize_37 rfl rfl ?_
    obtain ⟨c11, W⟩ := W
    refine ts_getR (pc' := 41) (ci := 11) 13 cfX12.1 cfX12.2.1 cfX12.2.2 rfl (by decide) hnX12_plainSize_X12 flX12_plainSize_25 rfl dX12_plainSize_38 c4 c11 ?_
    refine ts_iconst (v := 4) (pc' := 42) rfl dX12_plainSize_41 (by decide) ?_
    refine ts_bipush (v := 6) (pc' := 44) rfl dX12_plainSize_42 (by decide) ?_
    refine ts_iload_n 2 (pc' := 45) rfl dX12_plainSize_44 rfl rfl ?_
    refine ts_imul (pc' := 46) rfl dX12_plainSize_45 ?_
    refine ts_iadd (pc' := 47) rfl dX12_plainSize_46 ?_
    refine ts_iconst (v := 1) (pc' := 48) rfl dX12_plainSize_47 (by decide) ?_
    refine ts_iadd (pc' := 49) rfl dX12_plainSize_48 ?_
    obtain ⟨c12, W⟩ := W
    obtain ⟨c13, W⟩ := W
    refine ts_iaload (pc' := 50) rfl dX12_plainSize_49 c12 c13 ?_
    refine ts_aload_n 1 (pc' := 51) rfl dX12_plainSize_50 rfl rfl ?_
    refine ts_iload_n 2 (pc' := 52) rfl dX12_plainSize_51 rfl rfl ?_
    refine ts_callV (M' := mX12_plainMark) (C := RX12) (pc' := 55) (av := [.int p0]) (b := o) rfl dX12_plainSize_52 rfl gX12_plainSize_X12_plainMark rfl dvX12_plainMark rfl (ci := 11) cfX12.1 (by decide) c4 (Nat.le_refl _) (Nat.le_of_ble_eq_true rfl) (Nat.le_of_ble_eq_true rfl) (Nat.le_refl _) (Nat.le_refl _) ts_kv0 W (ts_kki fun v16 hi14 hk15 W => ?_)
    refine ts_iadd (pc' := 56) rfl dX12_plainSize_55 ?_
    refine ts_istore_n (pc' := 57) (ls' := [(3, .int ((hi9 (g.2.2.2 o 13) ((4 + (6 * p0)) + 1).toNatClampNeg) + v16)), (2, .int 0), (0, .ref o), (1, .int p0)]) rfl dX12_plainSize_56 rfl (Nat.le_of_ble_eq_true rfl) rfl ?_
    refine ts_iload_n 1 (pc' := 58) rfl dX12_plainSize_57 rfl rfl ?_
    refine ts_if_eq (pc' := 61) (tgt := 66) rfl dX12_plainSize_58 (by decide) (fun q17 => ?_) (fun q17 => ?_)
    rotate_left
    · exact absurd (by decide) q17
    refine ts_iload_n 0 (pc' := 67) rfl dX12_plainSize_66 rfl rfl ?_
    exact ts_iret dX12_plainSize_67 rfl (Nat.le_refl _) (Nat.le_refl _) ⟨rfl, _, rfl, W⟩
  · replace W := W.2 q5
    refine ts_iconst (v := 1) (pc' := 10) rfl dX12_plainSize_9 (by decide) ?_
    refine ts_goto (tgt := 14) dX12_plainSize_10 (by decide) ?_
    refine ts_istore_n (pc' := 15) (ls' := [(2, .int 1), (0, .ref o), (1, .int p0)]) rfl dX12_plainSize_14 rfl (Nat.le_of_ble_eq_true rfl) rfl ?_
    refine ts_iload_n 0 (pc' := 16) rfl dX12_plainSize_15 rfl rfl ?_
    refine ts_if_eq (pc' := 19) (tgt := 25) rfl dX12_plainSize_16 (by decide) (fun q18 => ?_) (fun q18 => ?_)
    · exact absurd q18 (by decide)
    refine ts_aload_n 1 (pc' := 20) rfl dX12_plainSize_19 rfl rfl ?_
    refine ts_bipush (v := 12) (pc' := 22) rfl dX12_plainSize_20 (by decide) ?_
    refine ts_callV (M' := mX12_begins) (C := RX12) (pc' := 25) (av := [.int 12]) (b := o) rfl dX12_plainSize_22 rfl gX12_plainSize_X12_begins rfl dvX12_begins rfl (ci := 11) cfX12.1 (by decide) c4 (Nat.le_refl _) (Nat.le_of_ble_eq_true rfl) (Nat.le_of_ble_eq_true rfl) (Nat.le_refl _) (Nat.le_refl _) ts_kv0 W (ts_kkv fun hi19 hk20 W => ?_)
    refine ts_aload_n 1 (pc' := 26) rfl dX12_plainSize_25 rfl rfl ?_
    refine ts_bipush (v := 11) (pc' := 28) rfl dX12_plainSize_26 (by decide) ?_
    refine ts_callV (M' := mX12_begins) (C := RX12) (pc' := 31) (av := [.int 11]) (b := o) rfl dX12_plainSize_28 rfl gX12_plainSize_X12_begins rfl dvX12_begins rfl (ci := 11) cfX12.1 (by decide) c4 (Nat.le_refl _) (Nat.le_of_ble_eq_true rfl) (Nat.le_of_ble_eq_true rfl) (Nat.le_refl _) (Nat.le_refl _) ts_kv0 W (ts_kkv fun hi21 hk22 W => ?_)
    refine ts_aload_n 1 (pc' := 32) rfl dX12_plainSize_31 rfl rfl ?_
    refine ts_bipush (v := 10) (pc' := 34) rfl dX12_plainSize_32 (by decide) ?_
    refine ts_callV (M' := mX12_begins) (C := RX12) (pc' := 37) (av := [.int 10]) (b := o) rfl dX12_plainSize_34 rfl gX12_plainSize_X12_begins rfl dvX12_begins rfl (ci := 11) cfX12.1 (by decide) c4 (Nat.le_refl _) (Nat.le_of_ble_eq_true rfl) (Nat.le_of_ble_eq_true rfl) (Nat.le_refl _) (Nat.le_refl _) ts_kv0 W (ts_kkv fun hi23 hk24 W => ?_)
    refine ts_aload_n 1 (pc' := 38) rfl dX12_plainSize_37 rfl rfl ?_
    obtain ⟨c25, W⟩ := W
    refine ts_getR (pc' := 41) (ci := 11) 13 cfX12.1 cfX12.2.1 cfX12.2.2 rfl (by decide) hnX12_plainSize_X12 flX12_plainSize_25 rfl dX12_plainSize_38 c4 c25 ?_
    refine ts_iconst (v := 4) (pc' := 42) rfl dX12_plainSize_41 (by decide) ?_
    refine ts_bipush (v := 6) (pc' := 44) rfl dX12_plainSize_42 (by decide) ?_
    refine ts_iload_n 2 (pc' := 45) rfl dX12_plainSize_44 rfl rfl ?_
    refine ts_imul (pc' := 46) rfl dX12_plainSize_45 ?_
    refine ts_iadd (pc' := 47) rfl dX12_plainSize_46 ?_
    refine ts_iconst (v := 1) (pc' := 48) rfl dX12_plainSize_47 (by decide) ?_
    refine ts_iadd (pc' := 49) rfl dX12_plainSize_48 ?_
    obtain ⟨c26, W⟩ := W
    obtain ⟨c27, W⟩ := W
    refine ts_iaload (pc' := 50) rfl dX12_plainSize_49 c26 c27 ?_
    refine ts_aload_n 1 (pc' := 51) rfl dX12_plainSize_50 rfl rfl ?_
    refine ts_iload_n 2 (pc' := 52) rfl dX12_plainSize_51 rfl rfl ?_
    refine ts_callV (M' := mX12_plainMark) (C := RX12) (pc' := 55) (av := [.int p0]) (b := o) rfl dX12_plainSize_52 rfl gX12_plainSize_X12_plainMark rfl dvX12_plainMark rfl (ci := 11) cfX12.1 (by decide) c4 (Nat.le_refl _) (Nat.le_of_ble_eq_true rfl) (Nat.le_of_ble_eq_true rfl) (Nat.le_refl _) (Nat.le_refl _) ts_kv0 W (ts_kki fun v30 hi28 hk29 W => ?_)
    refine ts_iadd (pc' := 56) rfl dX12_plainSize_55 ?_
    refine ts_istore_n (pc' := 57) (ls' := [(3, .int ((hi23 (g.2.2.2 o 13) ((4 + (6 * p0)) + 1).toNatClampNeg) + v30)), (2, .int 1), (0, .ref o), (1, .int p0)]) rfl dX12_plainSize_56 rfl (Nat.le_of_ble_eq_true rfl) rfl ?_
    refine ts_iload_n 1 (pc' := 58) rfl dX12_plainSize_57 rfl rfl ?_
    refine ts_if_eq (pc' := 61) (tgt := 66) rfl dX12_plainSize_58 (by decide) (fun q31 => ?_) (fun q31 => ?_)
    · exact absurd q31 (by decide)
    refine ts_iload_n 0 (pc' := 62) rfl dX12_plainSize_61 rfl rfl ?_
    refine ts_ineg (pc' := 63) rfl dX12_plainSize_62 ?_
    refine ts_goto (tgt := 67) dX12_plainSize_63 (by decide) ?_
    exact ts_iret dX12_plainSize_67 rfl (Nat.le_refl _) (Nat.le_refl _) ⟨rfl, _, rfl, W⟩
set_option maxHeartbeats 4000000 in
theorem wX12_fellowMark_0 {d : Nat} {g : ts_G} {Q : Int32 → ts_I → ts_K → Prop} {o : Nat} {p0 : Int32} {hi : ts_I} {hk : ts_K} (W : (g.2.1 o = 11) ∧ ts_E0 d mX12_begins [.ref o, .int 23] g hi hk (ts_qv (fun hi1 hk2 => ts_E0 d mX12_begins [.ref o, .int 20] g hi1 hk2 (ts_qv (fun hi4 hk5 => ts_E0 d mX12_fellowSize [.ref o, .int p0] g hi4 hk5 (ts_qi (fun v8 hi6 hk7 => Q (p0 - v8) hi6 hk7))))))) : ts_J0 (d + 1) mX12_fellowMark (ts_qi Q) g 0 [(0, .ref o), (1, .int p0)] [] hi hk := by
  refine ts_aload_n 0 (pc' := 1) rfl dX12_fellowMark_0 rfl rfl ?_
  refine ts_bipush (v := 23) (pc' := 3) rfl dX12_fellowMark_1 (by decide) ?_
  obtain ⟨c3, W⟩ := W
  refine ts_callV (M' := mX12_begins) (C := RX12) (pc' := 6) (av := [.int 23]) (b := o) rfl dX12_fellowMark_3 rfl gX12_fellowMark_X12_begins rfl dvX12_begins rfl (ci := 11) cfX12.1 (by decide) c3 (Nat.le_refl _) (Nat.le_of_ble_eq_true rfl) (Nat.le_of_ble_eq_true rfl) (Nat.le_refl _) (Nat.le_refl _) ts_kv0 W (ts_kkv fun hi1 hk2 W => ?_)
  refine ts_aload_n 0 (pc' := 7) rfl dX12_fellowMark_6 rfl rfl ?_
  refine ts_bipush (v := 20) (pc' := 9) rfl dX12_fellowMark_7 (by decide) ?_
  refine ts_callV (M' := mX12_begins) (C := RX12) (pc' := 12) (av := [.int 20]) (b := o) rfl dX12_fellowMark_9 rfl gX12_fellowMark_X12_begins rfl dvX12_begins rfl (ci := 11) cfX12.1 (by decide) c3 (Nat.le_refl _) (Nat.le_of_ble_eq_true rfl) (Nat.le_of_ble_eq_true rfl) (Nat.le_refl _) (Nat.le_refl _) ts_kv0 W (ts_kkv fun hi4 hk5 W => ?_)
  refine ts_iload_n 1 (pc' := 13) rfl dX12_fellowMark_12 rfl rfl ?_
  refine ts_aload_n 0 (pc' := 14) rfl dX12_fellowMark_13 rfl rfl ?_
  refine ts_iload_n 1 (pc' := 15) rfl dX12_fellowMark_14 rfl rfl ?_
  refine ts_callV (M' := mX12_fellowSize) (C := RX12) (pc' := 18) (av := [.int p0]) (b := o) rfl dX12_fellowMark_15 rfl gX12_fellowMark_X12_fellowSize rfl dvX12_fellowSize rfl (ci := 11) cfX12.1 (by decide) c3 (Nat.le_refl _) (Nat.le_of_ble_eq_true rfl) (Nat.le_of_ble_eq_true rfl) (Nat.le_refl _) (Nat.le_refl _) ts_kv0 W (ts_kki fun v8 hi6 hk7 W => ?_)
  refine ts_isub (pc' := 19) rfl dX12_fellowMark_18 ?_
  exact ts_iret dX12_fellowMark_19 rfl (Nat.le_refl _) (Nat.le_refl _) ⟨rfl, _, rfl, W⟩
theorem hnX12_ask_X12 : ∀ w ∈ u_ws RX12 TX12 25, w ∈ wsX12_ask := by decide +kernel
theorem flX12_ask_231 : Cond.fieldLink RX12 231 "TurnipSquiresModel" "traced" "I" ∈ wsX12_ask := by decide +kernel
set_option maxHeartbeats 4000000 in
theorem wX12_ask_0 {d : Nat} {g : ts_G} {Q : Int32 → ts_I → ts_K → Prop} {o : Nat} {p0 : Int32} {p1 : Int32} {hi : ts_I} {hk : ts_K} (W : (g.2.1 o = 11) ∧ ts_E0 d mX12_isTurnip [.ref o, .int p0] g hi hk (ts_qi (fun v3 hi1 hk2 => ((v3 = 0) → Q (-1000001) hi1 hk2) ∧ (¬ (v3 = 0) → ts_E0 d mX12_in [.int p1, .int 0, .int 1] g hi1 hk2 (ts_qi (fun v8 hi6 hk7 => ((v8 ≠ 0) → ∀ hi10 : ts_I, hi10 = ts_up hi6 o 24 0 → ts_E0 d mX12_kindIn [.ref o, .int p0] g hi10 hk7 (ts_qi (fun v13 hi11 hk12 => ((v13 < 4) → ((p1 ≠ 0) → ts_E0 d mX12_plainMark [.ref o, .int p0] g hi11 hk12 (ts_qi (fun v19 hi17 hk18 => Q v19 hi17 hk18))) ∧ (¬ (p1 ≠ 0) → ts_E0 d mX12_plainSize [.ref o, .int p0] g hi11 hk12 (ts_qi (fun v23 hi21 hk22 => Q v23 hi21 hk22)))) ∧ (¬ (v13 < 4) → ((p1 ≠ 0) → ts_E0 d mX12_fellowMark [.ref o, .int p0] g hi11 hk12 (ts_qi (fun v28 hi26 hk27 => Q v28 hi26 hk27))) ∧ (¬ (p1 ≠ 0) → ts_E0 d mX12_fellowSize [.ref o, .int p0] g hi11 hk12 (ts_qi (fun v32 hi30 hk31 => Q v32 hi30 hk31))))))) ∧ (¬ (v8 ≠ 0) → Q (-1000001) hi6 hk7))))))) : ts_J0 (d + 1) mX12_ask (ts_qi Q) g 0 [(0, .ref o), (1, .int p0), (2, .int p1)] [] hi hk := by
  refine ts_aload_n 0 (pc' := 1) rfl dX12_ask_0 rfl rfl ?_
  refine ts_iload_n 1 (pc' := 2) rfl dX12_ask_1 rfl rfl ?_
  obtain ⟨c4, W⟩ := W
  refine ts_callV (M' := mX12_isTurnip) (C := RX12) (pc' := 5) (av := [.int p0]) (b := o) rfl dX12_ask_2 rfl gX12_ask_X12_isTurnip rfl dvX12_isTurnip rfl (ci := 11) cfX12.1 (by decide) c4 (Nat.le_refl _) (Nat.le_of_ble_eq_true rfl) (Nat.le_of_ble_eq_true rfl) (Nat.le_refl _) (Nat.le_refl _) ts_kv0 W (ts_kki fun v3 hi1 hk2 W => ?_)
  refine ts_if_eq (pc' := 8) (tgt := 17) rfl dX12_ask_5 (by decide) (fun q5 => ?_) (fun q5 => ?_)
  · replace W := W.1 q5
    refine ts_ldc (v := (-1000001)) (pc' := 19) rfl dX12_ask_17 (by decide +kernel) ?_
    exact ts_iret dX12_ask_19 rfl (Nat.le_refl _) (Nat.le_refl _) ⟨rfl, _, rfl, W⟩
  · replace W := W.2 q5
    refine ts_iload_n 2 (pc' := 9) rfl dX12_ask_8 rfl rfl ?_
    refine ts_iconst (v := 0) (pc' := 10) rfl dX12_ask_9 (by decide) ?_
    refine ts_iconst (v := 1) (pc' := 11) rfl dX12_ask_10 (by decide) ?_
    refine ts_callS (M' := mX12_in) (pc' := 14) (av := [.int p1, .int 0, .int 1]) rfl dX12_ask_11 rfl gX12_ask_X12_in rfl dsX12_in rfl (Nat.le_refl _) (Nat.le_of_ble_eq_true rfl) (Nat.le_of_ble_eq_true rfl) (Nat.le_refl _) (Nat.le_refl _) ts_kv0 W (ts_kki fun v8 hi6 hk7 W => ?_)
    refine ts_if_ne (pc' := 17) (tgt := 20) rfl dX12_ask_14 (by decide) (fun q9 => ?_) (fun q9 => ?_)
    · replace W := W.1 q9
      refine ts_aload_n 0 (pc' := 21) rfl dX12_ask_20 rfl rfl ?_
      refine ts_iconst (v := 0) (pc' := 22) rfl dX12_ask_21 (by decide) ?_
      refine ts_putI (pc' := 25) (ci := 11) 24 cfX12.1 cfX12.2.1 cfX12.2.2 rfl (by decide) hnX12_ask_X12 flX12_ask_231 tyX12_ok nmX12 rfl rfl rfl dX12_ask_22 c4 ?_
      obtain ⟨hi10, ehi10⟩ : ∃ z, z = ts_up hi6 o 24 0 := ⟨_, rfl⟩
      rw [← ehi10]; replace W := W hi10 ehi10
      refine ts_aload_n 0 (pc' := 26) rfl dX12_ask_25 rfl rfl ?_
      refine ts_iload_n 1 (pc' := 27) rfl dX12_ask_26 rfl rfl ?_
      refine ts_callV (M' := mX12_kindIn) (C := RX12) (pc' := 30) (av := [.int p0]) (b := o) rfl dX12_ask_27 rfl gX12_ask_X12_kindIn rfl dvX12_kindIn rfl (ci := 11) cfX12.1 (by decide) c4 (Nat.le_refl _) (Nat.le_of_ble_eq_true rfl) (Nat.le_of_ble_eq_true rfl) (Nat.le_refl _) (Nat.le_refl _) ts_kv0 W (ts_kki fun v13 hi11 hk12 W => ?_)
      refine ts_iconst (v := 4) (pc' := 31) rfl dX12_ask_30 (by decide) ?_
      refine ts_icmp_lt (pc' := 34) (tgt := 38) rfl dX12_ask_31 (by decide) (fun q14 => ?_) (fun q14 => ?_)
      · replace W := W.1 q14
        refine ts_iconst (v := 0) (pc' := 39) rfl dX12_ask_38 (by decide) ?_
        refine ts_istore_n (pc' := 40) (ls' := [(3, .int 0), (0, .ref o), (1, .int p0), (2, .int p1)]) rfl dX12_ask_39 rfl (Nat.le_of_ble_eq_true rfl) rfl ?_
        refine ts_iload_n 3 (pc' := 41) rfl dX12_ask_40 rfl rfl ?_
        refine ts_if_ne (pc' := 44) (tgt := 62) rfl dX12_ask_41 (by decide) (fun q15 => ?_) (fun q15 => ?_)
        · replace W := W.1 q15
          refine ts_iload_n 0 (pc' := 63) rfl dX12_ask_62 rfl rfl ?_
          refine ts_if_eq (pc' := 66) (tgt := 74) rfl dX12_ask_63 (by decide) (fun q16 => ?_) (fun q16 => ?_)
          rotate_left
          · exact absurd (by decide) q16
          refine ts_aload_n 1 (pc' := 75) rfl dX12_ask_74 rfl rfl ?_
          refine ts_iload_n 2 (pc' := 76) rfl dX12_ask_75 rfl rfl ?_
          refine ts_callV (M' := mX12_plainMark) (C := RX12) (pc' := 79) (av := [.int p0]) (b := o) rfl dX12_ask_76 rfl gX12_ask_X12_plainMark rfl dvX12_plainMark rfl (ci := 11) cfX12.1 (by decide) c4 (Nat.le_refl _) (Nat.le_of_ble_eq_true rfl) (Nat.le_of_ble_eq_true rfl) (Nat.le_refl _) (Nat.le_refl _) ts_kv0 W (ts_kki fun v19 hi17 hk18 W => ?_)
          exact ts_iret dX12_ask_79 rfl (Nat.le_refl _) (Nat.le_refl _) ⟨rfl, _, rfl, W⟩
        · replace W := W.2 q15
          refine ts_iload_n 0 (pc' := 45) rfl dX12_ask_44 rfl rfl ?_
          refine ts_if_eq (pc' := 48) (tgt := 56) rfl dX12_ask_45 (by decide) (fun q20 => ?_) (fun q20 => ?_)
          rotate_left
          · exact absurd (by decide) q20
          refine ts_aload_n 1 (pc' := 57) rfl dX12_ask_56 rfl rfl ?_
          refine ts_iload_n 2 (pc' := 58) rfl dX12_ask_57 rfl rfl ?_
          refine ts_callV (M' := mX12_plainSize) (C := RX12) (pc' := 61) (av := [.int p0]) (b := o) rfl dX12_ask_58 rfl gX12_ask_X12_plainSize rfl dvX12_plainSize rfl (ci := 11) cfX12.1 (by decide) c4 (Nat.le_refl _) (Nat.le_of_ble_eq_true rfl) (Nat.le_of_ble_eq_true rfl) (Nat.le_refl _) (Nat.le_refl _) ts_kv0 W (ts_kki fun v23 hi21 hk22 W => ?_)
          exact ts_iret dX12_ask_61 rfl (Nat.le_refl _) (Nat.le_refl _) ⟨rfl, _, rfl, W⟩
      · replace W := W.2 q14
        refine ts_iconst (v := 1) (pc' := 35) rfl dX12_ask_34 (by decide) ?_
        refine ts_goto (tgt := 39) dX12_ask_35 (by decide) ?_
        refine ts_istore_n (pc' := 40) (ls' := [(3, .int 1), (0, .ref o), (1, .int p0), (2, .int p1)]) rfl dX12_ask_39 rfl (Nat.le_of_ble_eq_true rfl) rfl ?_
        refine ts_iload_n 3 (pc' := 41) rfl dX12_ask_40 rfl rfl ?_
        refine ts_if_ne (pc' := 44) (tgt := 62) rfl dX12_ask_41 (by decide) (fun q24 => ?_) (fun q24 => ?_)
        · replace W := W.1 q24
          refine ts_iload_n 0 (pc' := 63) rfl dX12_ask_62 rfl rfl ?_
          refine ts_if_eq (pc' := 66) (tgt := 74) rfl dX12_ask_63 (by decide) (fun q25 => ?_) (fun q25 => ?_)
          · exact absurd q25 (by decide)
          refine ts_aload_n 1 (pc' := 67) rfl dX12_ask_66 rfl rfl ?_
          refine ts_iload_n 2 (pc' := 68) rfl dX12_ask_67 rfl rfl ?_
          refine ts_callV (M' := mX12_fellowMark) (C := RX12) (pc' := 71) (av := [.int p0]) (b := o) rfl dX12_ask_68 rfl gX12_ask_X12_fellowMark rfl dvX12_fellowMark rfl (ci := 11) cfX12.1 (by decide) c4 (Nat.le_refl _) (Nat.le_of_ble_eq_true rfl) (Nat.le_of_ble_eq_true rfl) (Nat.le_refl _) (Nat.le_refl _) ts_kv0 W (ts_kki fun v28 hi26 hk27 W => ?_)
          refine ts_goto (tgt := 79) dX12_ask_71 (by decide) ?_
          exact ts_iret dX12_ask_79 rfl (Nat.le_refl _) (Nat.le_refl _) ⟨rfl, _, rfl, W⟩
        · replace W := W.2 q24
          refine ts_iload_n 0 (pc' := 45) rfl dX12_ask_44 rfl rfl ?_
          refine ts_if_eq (pc' := 48) (tgt := 56) rfl dX12_ask_45 (by decide) (fun q29 => ?_) (fun q29 => ?_)
          · exact absurd q29 (by decide)
          refine ts_aload_n 1 (pc' := 49) rfl dX12_ask_48 rfl rfl ?_
          refine ts_iload_n 2 (pc' := 50) rfl dX12_ask_49 rfl rfl ?_
          refine ts_callV (M' := mX12_fellowSize) (C := RX12) (pc' := 53) (av := [.int p0]) (b := o) rfl dX12_ask_50 rfl gX12_ask_X12_fellowSize rfl dvX12_fellowSize rfl (ci := 11) cfX12.1 (by decide) c4 (Nat.le_refl _) (Nat.le_of_ble_eq_true rfl) (Nat.le_of_ble_eq_true rfl) (Nat.le_refl _) (Nat.le_refl _) ts_kv0 W (ts_kki fun v32 hi30 hk31 W => ?_)
          refine ts_goto (tgt := 61) dX12_ask_53 (by decide) ?_
          exact ts_iret dX12_ask_61 rfl (Nat.le_refl _) (Nat.le_refl _) ⟨rfl, _, rfl, W⟩
    · replace W := W.2 q9
      refine ts_ldc (v := (-1000001)) (pc' := 19) rfl dX12_ask_17 (by decide +kernel) ?_
      exact ts_iret dX12_ask_19 rfl (Nat.le_refl _) (Nat.le_refl _) ⟨rfl, _, rfl, W⟩
theorem hnX12_trace_X12 : ∀ w ∈ u_ws RX12 TX12 25, w ∈ wsX12_trace := by decide +kernel
theorem flX12_trace_53 : Cond.fieldLink RX12 53 "TurnipSquiresModel" "trace" "[I" ∈ wsX12_trace := by decide +kernel
theorem flX12_trace_231 : Cond.fieldLink RX12 231 "TurnipSquiresModel" "traced" "I" ∈ wsX12_trace := by decide +kernel
set_option maxHeartbeats 4000000 in
theorem wX12_trace_0 {d : Nat} {g : ts_G} {Q : Int32 → ts_I → ts_K → Prop} {o : Nat} {p0 : Int32} {hi : ts_I} {hk : ts_K} (W : (g.2.1 o = 11) ∧ ts_E0 d mX12_in [.int p0, .int 0, .int ((hi o 24) - 1)] g hi hk (ts_qi (fun v4 hi2 hk3 => ((v4 = 0) → Q (-1000000) hi2 hk3) ∧ (¬ (v4 = 0) → (g.2.2.2 o 23 ≠ 0) ∧ (g.2.1 (g.2.2.2 o 23) = 100) ∧ (vp_in p0 (g.2.2.1 (g.2.2.2 o 23))) ∧ Q (hi2 (g.2.2.2 o 23) p0.toNatClampNeg) hi2 hk3)))) : ts_J0 (d + 1) mX12_trace (ts_qi Q) g 0 [(0, .ref o), (1, .int p0)] [] hi hk := by
  refine ts_iload_n 1 (pc' := 1) rfl dX12_trace_0 rfl rfl ?_
  refine ts_iconst (v := 0) (pc' := 2) rfl dX12_trace_1 (by decide) ?_
  refine ts_aload_n 0 (pc' := 3) rfl dX12_trace_2 rfl rfl ?_
  obtain ⟨c1, W⟩ := W
  refine ts_getI (pc' := 6) (ci := 11) 24 cfX12.1 cfX12.2.1 cfX12.2.2 rfl (by decide) hnX12_trace_X12 flX12_trace_231 rfl dX12_trace_3 c1 ?_
  refine ts_iconst (v := 1) (pc' := 7) rfl dX12_trace_6 (by decide) ?_
  refine ts_isub (pc' := 8) rfl dX12_trace_7 ?_
  refine ts_callS (M' := mX12_in) (pc' := 11) (av := [.int p0, .int 0, .int ((hi o 24) - 1)]) rfl dX12_trace_8 rfl gX12_trace_X12_in rfl dsX12_in rfl (Nat.le_refl _) (Nat.le_of_ble_eq_true rfl) (Nat.le_of_ble_eq_true rfl) (Nat.le_refl _) (Nat.le_refl _) ts_kv0 W (ts_kki fun v4 hi2 hk3 W => ?_)
  refine ts_if_eq (pc' := 14) (tgt := 23) rfl dX12_trace_11 (by decide) (fun q5 => ?_) (fun q5 => ?_)
  · replace W := W.1 q5
    refine ts_ldc (v := (-1000000)) (pc' := 25) rfl dX12_trace_23 (by decide +kernel) ?_
    exact ts_iret dX12_trace_25 rfl (Nat.le_refl _) (Nat.le_refl _) ⟨rfl, _, rfl, W⟩
  · replace W := W.2 q5
    refine ts_aload_n 0 (pc' := 15) rfl dX12_trace_14 rfl rfl ?_
    obtain ⟨c6, W⟩ := W
    refine ts_getR (pc' := 18) (ci := 11) 23 cfX12.1 cfX12.2.1 cfX12.2.2 rfl (by decide) hnX12_trace_X12 flX12_trace_53 rfl dX12_trace_15 c1 c6 ?_
    refine ts_iload_n 1 (pc' := 19) rfl dX12_trace_18 rfl rfl ?_
    obtain ⟨c7, W⟩ := W
    obtain ⟨c8, W⟩ := W
    refine ts_iaload (pc' := 20) rfl dX12_trace_19 c7 c8 ?_
    refine ts_goto (tgt := 25) dX12_trace_20 (by decide) ?_
    exact ts_iret dX12_trace_25 rfl (Nat.le_refl _) (Nat.le_refl _) ⟨rfl, _, rfl, W⟩
theorem hnX12_count_X12 : ∀ w ∈ u_ws RX12 TX12 25, w ∈ wsX12_count := by decide +kernel
theorem flX12_count_25 : Cond.fieldLink RX12 25 "TurnipSquiresModel" "now" "[I" ∈ wsX12_count := by decide +kernel
theorem flX12_count_88 : Cond.fieldLink RX12 88 "TurnipSquiresModel" "taped" "I" ∈ wsX12_count := by decide +kernel
theorem flX12_count_145 : Cond.fieldLink RX12 145 "TurnipSquiresModel" "acts" "I" ∈ wsX12_count := by decide +kernel
set_option maxHeartbeats 4000000 in
theorem wX12_count_0 {d : Nat} {g : ts_G} {Q : Int32 → ts_I → ts_K → Prop} {o : Nat} {p0 : Int32} {hi : ts_I} {hk : ts_K} (W : (p0 = 0 → ts_J0 (d + 1) mX12_count (ts_qi Q) g 54 [(0, .ref o), (2, .int 0), (3, .int 0)] [] hi hk) ∧ (p0 = 1 → (g.2.1 o = 11) ∧ (g.2.2.2 o 13 ≠ 0) ∧ (g.2.1 (g.2.2.2 o 13) = 100) ∧ (vp_in 2 (g.2.2.1 (g.2.2.2 o 13))) ∧ Q (hi (g.2.2.2 o 13) (2 : Int32).toNatClampNeg) hi hk) ∧ (p0 = 2 → (g.2.1 o = 11) ∧ (g.2.2.2 o 13 ≠ 0) ∧ (g.2.1 (g.2.2.2 o 13) = 100) ∧ (vp_in 3 (g.2.2.1 (g.2.2.2 o 13))) ∧ Q (hi (g.2.2.2 o 13) (3 : Int32).toNatClampNeg) hi hk) ∧ (p0 = 3 → (g.2.1 o = 11) ∧ (g.2.2.2 o 13 ≠ 0) ∧ (g.2.1 (g.2.2.2 o 13) = 100) ∧ (vp_in 0 (g.2.2.1 (g.2.2.2 o 13))) ∧ Q (hi (g.2.2.2 o 13) (0 : Int32).toNatClampNeg) hi hk) ∧ (p0 = 4 → (g.2.1 o = 11) ∧ (g.2.2.2 o 13 ≠ 0) ∧ (g.2.1 (g.2.2.2 o 13) = 100) ∧ (vp_in 1 (g.2.2.1 (g.2.2.2 o 13))) ∧ Q (hi (g.2.2.2 o 13) (1 : Int32).toNatClampNeg) hi hk) ∧ (p0 = 5 → (g.2.1 o = 11) ∧ (g.2.2.2 o 13 ≠ 0) ∧ ts_E0 d mX12_sumOf [.ref (g.2.2.2 o 13), .int 1] g hi hk (ts_qi (fun v27 hi25 hk26 => Q v27 hi25 hk26))) ∧ (p0 = 6 → (g.2.1 o = 11) ∧ ts_E0 d mX12_married [.ref o] g hi hk (ts_qi (fun v31 hi29 hk30 => Q v31 hi29 hk30))) ∧ (p0 = 7 → (g.2.1 o = 11) ∧ Q (hi o 17) hi hk) ∧ (p0 = 8 → (g.2.1 o = 11) ∧ Q (hi o 6) hi hk) ∧ (¬ p0 = 0 → ¬ p0 = 1 → ¬ p0 = 2 → ¬ p0 = 3 → ¬ p0 = 4 → ¬ p0 = 5 → ¬ p0 = 6 → ¬ p0 = 7 → ¬ p0 = 8 → Q (-1000001) hi hk)) : ts_J0 (d + 1) mX12_count (ts_qi Q) g 0 [(0, .ref o), (1, .int p0)] [] hi hk := by
  refine ts_iconst (v := 0) (pc' := 1) rfl dX12_count_0 (by decide) ?_
  refine ts_istore_n (pc' := 2) (ls' := [(2, .int 0), (0, .ref o), (1, .int p0)]) rfl dX12_count_1 rfl (Nat.le_of_ble_eq_true rfl) rfl ?_
  refine ts_iload_n 2 (pc' := 3) rfl dX12_count_2 rfl rfl ?_
  by_cases q1 : p0 = 0
  · replace W := W.1 q1
    refine ts_tableI (i := 0) (off := 49) (tgt := 52) dX12_count_3 (by rw [q1]; rfl) (by decide) (by decide) rfl (by decide) ?_
    refine ts_iconst (v := 0) (pc' := 53) rfl dX12_count_52 (by decide) ?_
    refine ts_istore_n (pc' := 54) (ls' := [(3, .int 0), (2, .int 0), (0, .ref o), (1, .int p0)]) rfl dX12_count_53 rfl (Nat.le_of_ble_eq_true rfl) rfl ?_
    exact ts_sub [2, 1, 0] rfl W
  replace W := W.2
  by_cases q2 : p0 = 1
  · replace W := W.1 q2
    refine ts_tableI (i := 1) (off := 81) (tgt := 84) dX12_count_3 (by rw [q2]; rfl) (by decide) (by decide) rfl (by decide) ?_
    refine ts_aload_n 1 (pc' := 85) rfl dX12_count_84 rfl rfl ?_
    obtain ⟨c3, W⟩ := W
    obtain ⟨c4, W⟩ := W
    refine ts_getR (pc' := 88) (ci := 11) 13 cfX12.1 cfX12.2.1 cfX12.2.2 rfl (by decide) hnX12_count_X12 flX12_count_25 rfl dX12_count_85 c3 c4 ?_
    refine ts_iconst (v := 2) (pc' := 89) rfl dX12_count_88 (by decide) ?_
    obtain ⟨c5, W⟩ := W
    obtain ⟨c6, W⟩ := W
    refine ts_iaload (pc' := 90) rfl dX12_count_89 c5 c6 ?_
    exact ts_iret dX12_count_90 rfl (Nat.le_refl _) (Nat.le_refl _) ⟨rfl, _, rfl, W⟩
  replace W := W.2
  by_cases q7 : p0 = 2
  · replace W := W.1 q7
    refine ts_tableI (i := 2) (off := 88) (tgt := 91) dX12_count_3 (by rw [q7]; rfl) (by decide) (by decide) rfl (by decide) ?_
    refine ts_aload_n 1 (pc' := 92) rfl dX12_count_91 rfl rfl ?_
    obtain ⟨c8, W⟩ := W
    obtain ⟨c9, W⟩ := W
    refine ts_getR (pc' := 95) (ci := 11) 13 cfX12.1 cfX12.2.1 cfX12.2.2 rfl (by decide) hnX12_count_X12 flX12_count_25 rfl dX12_count_92 c8 c9 ?_
    refine ts_iconst (v := 3) (pc' := 96) rfl dX12_count_95 (by decide) ?_
    obtain ⟨c10, W⟩ := W
    obtain ⟨c11, W⟩ := W
    refine ts_iaload (pc' := 97) rfl dX12_count_96 c10 c11 ?_
    exact ts_iret dX12_count_97 rfl (Nat.le_refl _) (Nat.le_refl _) ⟨rfl, _, rfl, W⟩
  replace W := W.2
  by_cases q12 : p0 = 3
  · replace W := W.1 q12
    refine ts_tableI (i := 3) (off := 95) (tgt := 98) dX12_count_3 (by rw [q12]; rfl) (by decide) (by decide) rfl (by decide) ?_
    refine ts_aload_n 1 (pc' := 99) rfl dX12_count_98 rfl rfl ?_
    obtain ⟨c13, W⟩ := W
    obtain ⟨c14, W⟩ := W
    refine ts_getR (pc' := 102) (ci := 11) 13 cfX12.1 cfX12.2.1 cfX12.2.2 rfl (by decide) hnX12_count_X12 flX12_count_25 rfl dX12_count_99 c13 c14 ?_
    refine ts_iconst (v := 0) (pc' := 103) rfl dX12_count_102 (by decide) ?_
    obtain ⟨c15, W⟩ := W
    obtain ⟨c16, W⟩ := W
    refine ts_iaload (pc' := 104) rfl dX12_count_103 c15 c16 ?_
    exact ts_iret dX12_count_104 rfl (Nat.le_refl _) (Nat.le_refl _) ⟨rfl, _, rfl, W⟩
  replace W := W.2
  by_cases q17 : p0 = 4
  · replace W := W.1 q17
    refine ts_tableI (i := 4) (off := 102) (tgt := 105) dX12_count_3 (by rw [q17]; rfl) (by decide) (by decide) rfl (by decide) ?_
    refine ts_aload_n 1 (pc' := 106) rfl dX12_count_105 rfl rfl ?_
    obtain ⟨c18, W⟩ := W
    obtain ⟨c19, W⟩ := W
    refine ts_getR (pc' := 109) (ci := 11) 13 cfX12.1 cfX12.2.1 cfX12.2.2 rfl (by decide) hnX12_count_X12 flX12_count_25 rfl dX12_count_106 c18 c19 ?_
    refine ts_iconst (v := 1) (pc' := 110) rfl dX12_count_109 (by decide) ?_
    obtain ⟨c20, W⟩ := W
    obtain ⟨c21, W⟩ := W
    refine ts_iaload (pc' := 111) rfl dX12_count_110 c20 c21 ?_
    exact ts_iret dX12_count_111 rfl (Nat.le_refl _) (Nat.le_refl _) ⟨rfl, _, rfl, W⟩
  replace W := W.2
  by_cases q22 : p0 = 5
  · replace W := W.1 q22
    refine ts_tableI (i := 5) (off := 109) (tgt := 112) dX12_count_3 (by rw [q22]; rfl) (by decide) (by decide) rfl (by decide) ?_
    refine ts_aload_n 1 (pc' := 113) rfl dX12_count_112 rfl rfl ?_
    obtain ⟨c23, W⟩ := W
    obtain ⟨c24, W⟩ := W
    refine ts_getR (pc' := 116) (ci := 11) 13 cfX12.1 cfX12.2.1 cfX12.2.2 rfl (by decide) hnX12_count_X12 flX12_count_25 rfl dX12_count_113 c23 c24 ?_
    refine ts_iconst (v := 1) (pc' := 117) rfl dX12_count_116 (by decide) ?_
    refine ts_callS (M' := mX12_sumOf) (pc' := 120) (av := [.ref (g.2.2.2 o 13), .int 1]) rfl dX12_count_117 rfl gX12_count_X12_sumOf rfl dsX12_sumOf rfl (Nat.le_refl _) (Nat.le_of_ble_eq_true rfl) (Nat.le_of_ble_eq_true rfl) (Nat.le_refl _) (Nat.le_refl _) ts_kv0 W (ts_kki fun v27 hi25 hk26 W => ?_)
    exact ts_iret dX12_count_120 rfl (Nat.le_refl _) (Nat.le_refl _) ⟨rfl, _, rfl, W⟩
  replace W := W.2
  by_cases q28 : p0 = 6
  · replace W := W.1 q28
    refine ts_tableI (i := 6) (off := 118) (tgt := 121) dX12_count_3 (by rw [q28]; rfl) (by decide) (by decide) rfl (by decide) ?_
    refine ts_aload_n 1 (pc' := 122) rfl dX12_count_121 rfl rfl ?_
    obtain ⟨c32, W⟩ := W
    refine ts_callV (M' := mX12_married) (C := RX12) (pc' := 125) (av := []) (b := o) rfl dX12_count_122 rfl gX12_count_X12_married rfl dvX12_married rfl (ci := 11) cfX12.1 (by decide) c32 (Nat.le_refl _) (Nat.le_of_ble_eq_true rfl) (Nat.le_of_ble_eq_true rfl) (Nat.le_refl _) (Nat.le_refl _) ts_kv0 W (ts_kki fun v31 hi29 hk30 W => ?_)
    exact ts_iret dX12_count_125 rfl (Nat.le_refl _) (Nat.le_refl _) ⟨rfl, _, rfl, W⟩
  replace W := W.2
  by_cases q33 : p0 = 7
  · replace W := W.1 q33
    refine ts_tableI (i := 7) (off := 123) (tgt := 126) dX12_count_3 (by rw [q33]; rfl) (by decide) (by decide) rfl (by decide) ?_
    refine ts_aload_n 1 (pc' := 127) rfl dX12_count_126 rfl rfl ?_
    obtain ⟨c34, W⟩ := W
    refine ts_getI (pc' := 130) (ci := 11) 17 cfX12.1 cfX12.2.1 cfX12.2.2 rfl (by decide) hnX12_count_X12 flX12_count_145 rfl dX12_count_127 c34 ?_
    exact ts_iret dX12_count_130 rfl (Nat.le_refl _) (Nat.le_refl _) ⟨rfl, _, rfl, W⟩
  replace W := W.2
  by_cases q35 : p0 = 8
  · replace W := W.1 q35
    refine ts_tableI (i := 8) (off := 128) (tgt := 131) dX12_count_3 (by rw [q35]; rfl) (by decide) (by decide) rfl (by decide) ?_
    refine ts_aload_n 1 (pc' := 132) rfl dX12_count_131 rfl rfl ?_
    obtain ⟨c36, W⟩ := W
    refine ts_getI (pc' := 135) (ci := 11) 6 cfX12.1 cfX12.2.1 cfX12.2.2 rfl (by decide) hnX12_count_X12 flX12_count_88 rfl dX12_count_132 c36 ?_
    exact ts_iret dX12_count_135 rfl (Nat.le_refl _) (Nat.le_refl _) ⟨rfl, _, rfl, W⟩
  replace W := W.2
  replace W := W q1 q2 q7 q12 q17 q22 q28 q33 q35
  have hs37 : ∀ i, i < 9 → ¬ p0 = Int32.ofNat (0 + i) := by
    intro i hi0
    have h0 : i = 0 ∨ i = 1 ∨ i = 2 ∨ i = 3 ∨ i = 4 ∨ i = 5 ∨ i = 6 ∨ i = 7 ∨ i = 8 := by omega
    rcases h0 with rfl | rfl | rfl | rfl | rfl | rfl | rfl | rfl | rfl
    · exact q1
    · exact q2
    · exact q7
    · exact q12
    · exact q17
    · exact q22
    · exact q28
    · exact q33
    · exact q35
  refine ts_tableO (tgt := 136) dX12_count_3 (ts_swout (l := 0) (n := 9) rfl (by decide) (by decide) hs37) (by decide) ?_
  refine ts_ldc (v := (-1000001)) (pc' := 138) rfl dX12_count_136 (by decide +kernel) ?_
  exact ts_iret dX12_count_138 rfl (Nat.le_refl _) (Nat.le_refl _) ⟨rfl, _, rfl, W⟩
set_option maxHeartbeats 4000000 in
theorem wX12_count_54 {d : Nat} {g : ts_G} {Q : Int32 → ts_I → ts_K → Prop} {l0 : Nat} {l2 : Int32} {l3 : Int32} {hi : ts_I} {hk : ts_K} (W : ((8 ≤ l3) → Q l2 hi hk) ∧ (¬ (8 ≤ l3) → (g.2.1 l0 = 11) ∧ ts_E0 d mX12_isMissing [.ref l0, .int l3] g hi hk (ts_qi (fun v4 hi2 hk3 => ((v4 = 0) → ts_J0 (d + 1) mX12_count (ts_qi Q) g 54 [(0, .ref l0), (2, .int (l2 + 1)), (3, .int (l3 + 1))] [] hi2 hk3) ∧ (¬ (v4 = 0) → ts_J0 (d + 1) mX12_count (ts_qi Q) g 54 [(0, .ref l0), (2, .int (l2 + 0)), (3, .int (l3 + 1))] [] hi2 hk3))))) : ts_J0 (d + 1) mX12_count (ts_qi Q) g 54 [(0, .ref l0), (2, .int l2), (3, .int l3)] [] hi hk := by
  refine ts_iload_n 2 (pc' := 55) rfl dX12_count_54 rfl rfl ?_
  refine ts_bipush (v := 8) (pc' := 57) rfl dX12_count_55 (by decide) ?_
  refine ts_icmp_ge (pc' := 60) (tgt := 82) rfl dX12_count_57 (by decide) (fun q1 => ?_) (fun q1 => ?_)
  · replace W := W.1 q1
    refine ts_iload_n 1 (pc' := 83) rfl dX12_count_82 rfl rfl ?_
    exact ts_iret dX12_count_83 rfl (Nat.le_refl _) (Nat.le_refl _) ⟨rfl, _, rfl, W⟩
  · replace W := W.2 q1
    refine ts_iload_n 1 (pc' := 61) rfl dX12_count_60 rfl rfl ?_
    refine ts_aload_n 0 (pc' := 62) rfl dX12_count_61 rfl rfl ?_
    refine ts_iload_n 2 (pc' := 63) rfl dX12_count_62 rfl rfl ?_
    obtain ⟨c5, W⟩ := W
    refine ts_callV (M' := mX12_isMissing) (C := RX12) (pc' := 66) (av := [.int l3]) (b := l0) rfl dX12_count_63 rfl gX12_count_X12_isMissing rfl dvX12_isMissing rfl (ci := 11) cfX12.1 (by decide) c5 (Nat.le_refl _) (Nat.le_of_ble_eq_true rfl) (Nat.le_of_ble_eq_true rfl) (Nat.le_refl _) (Nat.le_refl _) ts_kv0 W (ts_kki fun v4 hi2 hk3 W => ?_)
    refine ts_if_eq (pc' := 69) (tgt := 73) rfl dX12_count_66 (by decide) (fun q6 => ?_) (fun q6 => ?_)
    · replace W := W.1 q6
      refine ts_iconst (v := 1) (pc' := 74) rfl dX12_count_73 (by decide) ?_
      refine ts_iadd (pc' := 75) rfl dX12_count_74 ?_
      refine ts_istore_n (pc' := 76) (ls' := [(2, .int (l2 + 1)), (0, .ref l0), (3, .int l3)]) rfl dX12_count_75 rfl (Nat.le_of_ble_eq_true rfl) rfl ?_
      refine ts_iinc 2 (pc' := 79) (ls' := [(3, .int (l3 + 1)), (2, .int (l2 + 1)), (0, .ref l0)]) rfl dX12_count_76 rfl rfl (Nat.le_of_ble_eq_true rfl) rfl ?_
      refine ts_goto (tgt := 54) dX12_count_79 (by decide) ?_
      exact ts_sub [2, 1, 0] rfl W
    · replace W := W.2 q6
      refine ts_iconst (v := 0) (pc' := 70) rfl dX12_count_69 (by decide) ?_
      refine ts_goto (tgt := 74) dX12_count_70 (by decide) ?_
      refine ts_iadd (pc' := 75) rfl dX12_count_74 ?_
      refine ts_istore_n (pc' := 76) (ls' := [(2, .int (l2 + 0)), (0, .ref l0), (3, .int l3)]) rfl dX12_count_75 rfl (Nat.le_of_ble_eq_true rfl) rfl ?_
      refine ts_iinc 2 (pc' := 79) (ls' := [(3, .int (l3 + 1)), (2, .int (l2 + 0)), (0, .ref l0)]) rfl dX12_count_76 rfl rfl (Nat.le_of_ble_eq_true rfl) rfl ?_
      refine ts_goto (tgt := 54) dX12_count_79 (by decide) ?_
      exact ts_sub [2, 1, 0] rfl W
theorem hnX12_status_X12 : ∀ w ∈ u_ws RX12 TX12 25, w ∈ wsX12_status := by decide +kernel
theorem flX12_status_57 : Cond.fieldLink RX12 57 "TurnipSquiresModel" "status" "I" ∈ wsX12_status := by decide +kernel
set_option maxHeartbeats 4000000 in
theorem wX12_status_0 {d : Nat} {g : ts_G} {Q : Int32 → ts_I → ts_K → Prop} {o : Nat} {hi : ts_I} {hk : ts_K} (W : (g.2.1 o = 11) ∧ Q (hi o 4) hi hk) : ts_J0 d mX12_status (ts_qi Q) g 0 [(0, .ref o)] [] hi hk := by
  refine ts_aload_n 0 (pc' := 1) rfl dX12_status_0 rfl rfl ?_
  obtain ⟨c1, W⟩ := W
  refine ts_getI (pc' := 4) (ci := 11) 4 cfX12.1 cfX12.2.1 cfX12.2.2 rfl (by decide) hnX12_status_X12 flX12_status_57 rfl dX12_status_1 c1 ?_
  exact ts_iret dX12_status_4 rfl (Nat.le_refl _) (Nat.le_refl _) ⟨rfl, _, rfl, W⟩
