theorem hnX11_row_X11 : ∀ w ∈ u_ws RX11 TX11 13, w ∈ wsX11_row := by decide +kernel
theorem flX11_row_11 : Cond.fieldLink RX11 11 "TurnipSquires" "rows" "[LTurnipSquires$Row;" ∈ wsX11_row := by decide +kernel
set_option maxHeartbeats 4000000 in
theorem wX11_row_0 {d : Nat} {g : ts_G} {Q : Int32 → ts_I → ts_K → Prop} {o : Nat} {p0 : Int32} {p1 : Int32} {p2 : Int32} {hi : ts_I} {hk : ts_K} (W : ts_E0 d mX11_isRow [.int p0] g hi hk (ts_qi (fun v3 hi1 hk2 => ((v3 = 0) → Q (-1000001) hi1 hk2) ∧ (¬ (v3 = 0) → ts_E0 d mX11_outside [.int p1, .int 0, .int 2] g hi1 hk2 (ts_qi (fun v7 hi5 hk6 => ((v7 ≠ 0) → Q (-1000001) hi5 hk6) ∧ (¬ (v7 ≠ 0) → ((p2 ≤ 40) → ((0 ≤ p2) → (g.2.1 o = 10) ∧ (g.2.2.2 o 0 ≠ 0) ∧ (g.2.1 (g.2.2.2 o 0) = 102) ∧ (vp_in p0 (g.2.2.1 (g.2.2.2 o 0))) ∧ (g.2.2.2 (g.2.2.2 o 0) p0.toNatClampNeg ≠ 0) ∧ (g.2.1 (g.2.2.2 (g.2.2.2 o 0) p0.toNatClampNeg) = 5) ∧ ts_E0 d mX6_begin [.ref (g.2.2.2 (g.2.2.2 o 0) p0.toNatClampNeg), .int p1, .int p2] g hi5 hk6 (ts_qv (fun hi16 hk17 => ts_E0 d mX11_fine [.ref o, .int p2] g hi16 hk17 (ts_qi (fun v21 hi19 hk20 => Q v21 hi19 hk20))))) ∧ (¬ (0 ≤ p2) → (g.2.1 o = 10) ∧ ts_E0 d mX11_found [.ref o, .int 4] g hi5 hk6 (ts_qi (fun v24 hi22 hk23 => Q v24 hi22 hk23)))) ∧ (¬ (p2 ≤ 40) → Q (-1000001) hi5 hk6)))))))) : ts_J0 (d + 1) mX11_row (ts_qi Q) g 0 [(0, .ref o), (1, .int p0), (2, .int p1), (3, .int p2)] [] hi hk := by
  refine ts_iload_n 1 (pc' := 1) rfl dX11_row_0 rfl rfl ?_
  refine ts_callS (M' := mX11_isRow) (pc' := 4) (av := [.int p0]) rfl dX11_row_1 rfl gX11_row_X11_isRow rfl dsX11_isRow rfl (Nat.le_refl _) (Nat.le_of_ble_eq_true rfl) (Nat.le_of_ble_eq_true rfl) (Nat.le_refl _) (Nat.le_refl _) ts_kv0 W (ts_kki fun v3 hi1 hk2 W => ?_)
  refine ts_if_eq (pc' := 7) (tgt := 22) rfl dX11_row_4 (by decide) (fun q4 => ?_) (fun q4 => ?_)
  · replace W := W.1 q4
    refine ts_ldc (v := (-1000001)) (pc' := 24) rfl dX11_row_22 (by decide +kernel) ?_
    exact ts_iret dX11_row_24 rfl (Nat.le_refl _) (Nat.le_refl _) ⟨rfl, _, rfl, W⟩
  · replace W := W.2 q4
    refine ts_iload_n 2 (pc' := 8) rfl dX11_row_7 rfl rfl ?_
    refine ts_iconst (v := 0) (pc' := 9) rfl dX11_row_8 (by decide) ?_
    refine ts_iconst (v := 2) (pc' := 10) rfl dX11_row_9 (by decide) ?_
    refine ts_callS (M' := mX11_outside) (pc' := 13) (av := [.int p1, .int 0, .int 2]) rfl dX11_row_10 rfl gX11_row_X11_outside rfl dsX11_outside rfl (Nat.le_refl _) (Nat.le_of_ble_eq_true rfl) (Nat.le_of_ble_eq_true rfl) (Nat.le_refl _) (Nat.le_refl _) ts_kv0 W (ts_kki fun v7 hi5 hk6 W => ?_)
    refine ts_if_ne (pc' := 16) (tgt := 22) rfl dX11_row_13 (by decide) (fun q8 => ?_) (fun q8 => ?_)
    · replace W := W.1 q8
      refine ts_ldc (v := (-1000001)) (pc' := 24) rfl dX11_row_22 (by decide +kernel) ?_
      exact ts_iret dX11_row_24 rfl (Nat.le_refl _) (Nat.le_refl _) ⟨rfl, _, rfl, W⟩
    · replace W := W.2 q8
      refine ts_iload_n 3 (pc' := 17) rfl dX11_row_16 rfl rfl ?_
      refine ts_bipush (v := 40) (pc' := 19) rfl dX11_row_17 (by decide) ?_
      refine ts_icmp_le (pc' := 22) (tgt := 25) rfl dX11_row_19 (by decide) (fun q9 => ?_) (fun q9 => ?_)
      · replace W := W.1 q9
        refine ts_iload_n 3 (pc' := 26) rfl dX11_row_25 rfl rfl ?_
        refine ts_if_ge (pc' := 29) (tgt := 35) rfl dX11_row_26 (by decide) (fun q10 => ?_) (fun q10 => ?_)
        · replace W := W.1 q10
          refine ts_aload_n 0 (pc' := 36) rfl dX11_row_35 rfl rfl ?_
          obtain ⟨c11, W⟩ := W
          obtain ⟨c12, W⟩ := W
          refine ts_getR (pc' := 39) (ci := 10) 0 cfX11.1 cfX11.2.1 cfX11.2.2 rfl (by decide) hnX11_row_X11 flX11_row_11 rfl dX11_row_36 c11 c12 ?_
          refine ts_iload_n 1 (pc' := 40) rfl dX11_row_39 rfl rfl ?_
          obtain ⟨c13, W⟩ := W
          obtain ⟨c14, W⟩ := W
          obtain ⟨c15, W⟩ := W
          refine ts_aaloadR (pc' := 41) rfl dX11_row_40 c13 c14 c15 ?_
          refine ts_iload_n 2 (pc' := 42) rfl dX11_row_41 rfl rfl ?_
          refine ts_iload_n 3 (pc' := 43) rfl dX11_row_42 rfl rfl ?_
          obtain ⟨c18, W⟩ := W
          refine ts_callV (M' := mX6_begin) (C := RX6) (pc' := 46) (av := [.int p1, .int p2]) (b := (g.2.2.2 (g.2.2.2 o 0) p0.toNatClampNeg)) rfl dX11_row_43 rfl gX11_row_X6_begin rfl dvX6_begin rfl (ci := 5) cfX6.1 (by decide) c18 (Nat.le_refl _) (Nat.le_of_ble_eq_true rfl) (Nat.le_of_ble_eq_true rfl) (Nat.le_refl _) (Nat.le_refl _) ts_kv0 W (ts_kkv fun hi16 hk17 W => ?_)
          refine ts_aload_n 0 (pc' := 47) rfl dX11_row_46 rfl rfl ?_
          refine ts_iload_n 3 (pc' := 48) rfl dX11_row_47 rfl rfl ?_
          refine ts_callV (M' := mX11_fine) (C := RX11) (pc' := 51) (av := [.int p2]) (b := o) rfl dX11_row_48 rfl gX11_row_X11_fine rfl dvX11_fine rfl (ci := 10) cfX11.1 (by decide) c11 (Nat.le_refl _) (Nat.le_of_ble_eq_true rfl) (Nat.le_of_ble_eq_true rfl) (Nat.le_refl _) (Nat.le_refl _) ts_kv0 W (ts_kki fun v21 hi19 hk20 W => ?_)
          exact ts_iret dX11_row_51 rfl (Nat.le_refl _) (Nat.le_refl _) ⟨rfl, _, rfl, W⟩
        · replace W := W.2 q10
          refine ts_aload_n 0 (pc' := 30) rfl dX11_row_29 rfl rfl ?_
          refine ts_iconst (v := 4) (pc' := 31) rfl dX11_row_30 (by decide) ?_
          obtain ⟨c25, W⟩ := W
          refine ts_callV (M' := mX11_found) (C := RX11) (pc' := 34) (av := [.int 4]) (b := o) rfl dX11_row_31 rfl gX11_row_X11_found rfl dvX11_found rfl (ci := 10) cfX11.1 (by decide) c25 (Nat.le_refl _) (Nat.le_of_ble_eq_true rfl) (Nat.le_of_ble_eq_true rfl) (Nat.le_refl _) (Nat.le_refl _) ts_kv0 W (ts_kki fun v24 hi22 hk23 W => ?_)
          exact ts_iret dX11_row_34 rfl (Nat.le_refl _) (Nat.le_refl _) ⟨rfl, _, rfl, W⟩
      · replace W := W.2 q9
        refine ts_ldc (v := (-1000001)) (pc' := 24) rfl dX11_row_22 (by decide +kernel) ?_
        exact ts_iret dX11_row_24 rfl (Nat.le_refl _) (Nat.le_refl _) ⟨rfl, _, rfl, W⟩
theorem hnX11_set_X11 : ∀ w ∈ u_ws RX11 TX11 13, w ∈ wsX11_set := by decide +kernel
theorem hnX11_set_X6 : ∀ w ∈ u_ws RX6 TX6 4, w ∈ wsX11_set := by decide +kernel
theorem flX11_set_11 : Cond.fieldLink RX11 11 "TurnipSquires" "rows" "[LTurnipSquires$Row;" ∈ wsX11_set := by decide +kernel
theorem flX11_set_101 : Cond.fieldLink RX11 101 "TurnipSquires$Row" "there" "Z" ∈ wsX11_set := by decide +kernel
theorem flX11_set_109 : Cond.fieldLink RX11 109 "TurnipSquires$Row" "items" "[I" ∈ wsX11_set := by decide +kernel
set_option maxHeartbeats 4000000 in
theorem wX11_set_0 {d : Nat} {g : ts_G} {Q : Int32 → ts_I → ts_K → Prop} {o : Nat} {p0 : Int32} {p1 : Int32} {p2 : Int32} {hi : ts_I} {hk : ts_K} (W : ts_E0 d mX11_isRow [.int p0] g hi hk (ts_qi (fun v3 hi1 hk2 => ((v3 ≠ 0) → (g.2.1 o = 10) ∧ (g.2.2.2 o 0 ≠ 0) ∧ (g.2.1 (g.2.2.2 o 0) = 102) ∧ (vp_in p0 (g.2.2.1 (g.2.2.2 o 0))) ∧ (g.2.2.2 (g.2.2.2 o 0) p0.toNatClampNeg ≠ 0) ∧ (g.2.1 (g.2.2.2 (g.2.2.2 o 0) p0.toNatClampNeg) = 5) ∧ (((hi1 (g.2.2.2 (g.2.2.2 o 0) p0.toNatClampNeg) 1) ≠ 0) → ts_E0 d mX6_has [.ref (g.2.2.2 (g.2.2.2 o 0) p0.toNatClampNeg), .int p1, .int 1] g hi1 hk2 (ts_qi (fun v14 hi12 hk13 => ((v14 ≠ 0) → (g.2.2.2 (g.2.2.2 (g.2.2.2 o 0) p0.toNatClampNeg) 0 ≠ 0) ∧ ts_E0 d mX6_narrowed [.ref (g.2.2.2 (g.2.2.2 o 0) p0.toNatClampNeg), .int p2] g hi12 hk13 (ts_qi (fun v19 hi17 hk18 => (g.2.1 (g.2.2.2 (g.2.2.2 (g.2.2.2 o 0) p0.toNatClampNeg) 0) = 100) ∧ (vp_in p1 (g.2.2.1 (g.2.2.2 (g.2.2.2 (g.2.2.2 o 0) p0.toNatClampNeg) 0))) ∧ ∀ hi22 : ts_I, hi22 = ts_up hi17 (g.2.2.2 (g.2.2.2 (g.2.2.2 o 0) p0.toNatClampNeg) 0) p1.toNatClampNeg v19 → ts_E0 d mX11_fine [.ref o, .int (hi22 (g.2.2.2 (g.2.2.2 (g.2.2.2 o 0) p0.toNatClampNeg) 0) p1.toNatClampNeg)] g hi22 hk18 (ts_qi (fun v25 hi23 hk24 => Q v25 hi23 hk24))))) ∧ (¬ (v14 ≠ 0) → ts_E0 d mX11_found [.ref o, .int 2] g hi12 hk13 (ts_qi (fun v28 hi26 hk27 => Q v28 hi26 hk27)))))) ∧ (¬ ((hi1 (g.2.2.2 (g.2.2.2 o 0) p0.toNatClampNeg) 1) ≠ 0) → ts_E0 d mX11_found [.ref o, .int 1] g hi1 hk2 (ts_qi (fun v31 hi29 hk30 => Q v31 hi29 hk30)))) ∧ (¬ (v3 ≠ 0) → Q (-1000001) hi1 hk2)))) : ts_J0 (d + 1) mX11_set (ts_qi Q) g 0 [(0, .ref o), (1, .int p0), (2, .int p1), (3, .int p2)] [] hi hk := by
  refine ts_iload_n 1 (pc' := 1) rfl dX11_set_0 rfl rfl ?_
  refine ts_callS (M' := mX11_isRow) (pc' := 4) (av := [.int p0]) rfl dX11_set_1 rfl gX11_set_X11_isRow rfl dsX11_isRow rfl (Nat.le_refl _) (Nat.le_of_ble_eq_true rfl) (Nat.le_of_ble_eq_true rfl) (Nat.le_refl _) (Nat.le_refl _) ts_kv0 W (ts_kki fun v3 hi1 hk2 W => ?_)
  refine ts_if_ne (pc' := 7) (tgt := 10) rfl dX11_set_4 (by decide) (fun q4 => ?_) (fun q4 => ?_)
  · replace W := W.1 q4
    refine ts_aload_n 0 (pc' := 11) rfl dX11_set_10 rfl rfl ?_
    obtain ⟨c5, W⟩ := W
    obtain ⟨c6, W⟩ := W
    refine ts_getR (pc' := 14) (ci := 10) 0 cfX11.1 cfX11.2.1 cfX11.2.2 rfl (by decide) hnX11_set_X11 flX11_set_11 rfl dX11_set_11 c5 c6 ?_
    refine ts_iload_n 1 (pc' := 15) rfl dX11_set_14 rfl rfl ?_
    obtain ⟨c7, W⟩ := W
    obtain ⟨c8, W⟩ := W
    obtain ⟨c9, W⟩ := W
    refine ts_aaloadR (pc' := 16) rfl dX11_set_15 c7 c8 c9 ?_
    refine ts_astore (pc' := 18) (ls' := [(4, .ref (g.2.2.2 (g.2.2.2 o 0) p0.toNatClampNeg)), (0, .ref o), (1, .int p0), (2, .int p1), (3, .int p2)]) rfl dX11_set_16 (Nat.le_of_ble_eq_true rfl) rfl ?_
    refine ts_aload 0 (pc' := 20) rfl dX11_set_18 rfl ?_
    obtain ⟨c10, W⟩ := W
    refine ts_getI (pc' := 23) (ci := 5) 1 cfX6.1 cfX6.2.1 cfX6.2.2 rfl (by decide) hnX11_set_X6 flX11_set_101 rfl dX11_set_20 c10 ?_
    refine ts_if_ne (pc' := 26) (tgt := 32) rfl dX11_set_23 (by decide) (fun q11 => ?_) (fun q11 => ?_)
    · replace W := W.1 q11
      refine ts_aload 0 (pc' := 34) rfl dX11_set_32 rfl ?_
      refine ts_iload_n 3 (pc' := 35) rfl dX11_set_34 rfl rfl ?_
      refine ts_iconst (v := 1) (pc' := 36) rfl dX11_set_35 (by decide) ?_
      refine ts_callV (M' := mX6_has) (C := RX6) (pc' := 39) (av := [.int p1, .int 1]) (b := (g.2.2.2 (g.2.2.2 o 0) p0.toNatClampNeg)) rfl dX11_set_36 rfl gX11_set_X6_has rfl dvX6_has rfl (ci := 5) cfX6.1 (by decide) c10 (Nat.le_refl _) (Nat.le_of_ble_eq_true rfl) (Nat.le_of_ble_eq_true rfl) (Nat.le_refl _) (Nat.le_refl _) ts_kv0 W (ts_kki fun v14 hi12 hk13 W => ?_)
      refine ts_if_ne (pc' := 42) (tgt := 48) rfl dX11_set_39 (by decide) (fun q15 => ?_) (fun q15 => ?_)
      · replace W := W.1 q15
        refine ts_aload 0 (pc' := 50) rfl dX11_set_48 rfl ?_
        obtain ⟨c16, W⟩ := W
        refine ts_getR (pc' := 53) (ci := 5) 0 cfX6.1 cfX6.2.1 cfX6.2.2 rfl (by decide) hnX11_set_X6 flX11_set_109 rfl dX11_set_50 c10 c16 ?_
        refine ts_iload_n 3 (pc' := 54) rfl dX11_set_53 rfl rfl ?_
        refine ts_aload 0 (pc' := 56) rfl dX11_set_54 rfl ?_
        refine ts_iload_n 4 (pc' := 57) rfl dX11_set_56 rfl rfl ?_
        refine ts_callV (M' := mX6_narrowed) (C := RX6) (pc' := 60) (av := [.int p2]) (b := (g.2.2.2 (g.2.2.2 o 0) p0.toNatClampNeg)) rfl dX11_set_57 rfl gX11_set_X6_narrowed rfl dvX6_narrowed rfl (ci := 5) cfX6.1 (by decide) c10 (Nat.le_refl _) (Nat.le_of_ble_eq_true rfl) (Nat.le_of_ble_eq_true rfl) (Nat.le_refl _) (Nat.le_refl _) ts_kv0 W (ts_kki fun v19 hi17 hk18 W => ?_)
        obtain ⟨c20, W⟩ := W
        obtain ⟨c21, W⟩ := W
        refine ts_iastore (pc' := 61) rfl dX11_set_60 c20 c21 ?_
        obtain ⟨hi22, ehi22⟩ : ∃ z, z = ts_up hi17 (g.2.2.2 (g.2.2.2 (g.2.2.2 o 0) p0.toNatClampNeg) 0) p1.toNatClampNeg v19 := ⟨_, rfl⟩
        rw [← ehi22]; replace W := W hi22 ehi22
        refine ts_aload_n 1 (pc' := 62) rfl dX11_set_61 rfl rfl ?_
        refine ts_aload 0 (pc' := 64) rfl dX11_set_62 rfl ?_
        refine ts_getR (pc' := 67) (ci := 5) 0 cfX6.1 cfX6.2.1 cfX6.2.2 rfl (by decide) hnX11_set_X6 flX11_set_109 rfl dX11_set_64 c10 c16 ?_
        refine ts_iload_n 3 (pc' := 68) rfl dX11_set_67 rfl rfl ?_
        refine ts_iaload (pc' := 69) rfl dX11_set_68 c20 c21 ?_
        refine ts_callV (M' := mX11_fine) (C := RX11) (pc' := 72) (av := [.int (hi22 (g.2.2.2 (g.2.2.2 (g.2.2.2 o 0) p0.toNatClampNeg) 0) p1.toNatClampNeg)]) (b := o) rfl dX11_set_69 rfl gX11_set_X11_fine rfl dvX11_fine rfl (ci := 10) cfX11.1 (by decide) c5 (Nat.le_refl _) (Nat.le_of_ble_eq_true rfl) (Nat.le_of_ble_eq_true rfl) (Nat.le_refl _) (Nat.le_refl _) ts_kv0 W (ts_kki fun v25 hi23 hk24 W => ?_)
        exact ts_iret dX11_set_72 rfl (Nat.le_refl _) (Nat.le_refl _) ⟨rfl, _, rfl, W⟩
      · replace W := W.2 q15
        refine ts_aload_n 1 (pc' := 43) rfl dX11_set_42 rfl rfl ?_
        refine ts_iconst (v := 2) (pc' := 44) rfl dX11_set_43 (by decide) ?_
        refine ts_callV (M' := mX11_found) (C := RX11) (pc' := 47) (av := [.int 2]) (b := o) rfl dX11_set_44 rfl gX11_set_X11_found rfl dvX11_found rfl (ci := 10) cfX11.1 (by decide) c5 (Nat.le_refl _) (Nat.le_of_ble_eq_true rfl) (Nat.le_of_ble_eq_true rfl) (Nat.le_refl _) (Nat.le_refl _) ts_kv0 W (ts_kki fun v28 hi26 hk27 W => ?_)
        exact ts_iret dX11_set_47 rfl (Nat.le_refl _) (Nat.le_refl _) ⟨rfl, _, rfl, W⟩
    · replace W := W.2 q11
      refine ts_aload_n 1 (pc' := 27) rfl dX11_set_26 rfl rfl ?_
      refine ts_iconst (v := 1) (pc' := 28) rfl dX11_set_27 (by decide) ?_
      refine ts_callV (M' := mX11_found) (C := RX11) (pc' := 31) (av := [.int 1]) (b := o) rfl dX11_set_28 rfl gX11_set_X11_found rfl dvX11_found rfl (ci := 10) cfX11.1 (by decide) c5 (Nat.le_refl _) (Nat.le_of_ble_eq_true rfl) (Nat.le_of_ble_eq_true rfl) (Nat.le_refl _) (Nat.le_refl _) ts_kv0 W (ts_kki fun v31 hi29 hk30 W => ?_)
      exact ts_iret dX11_set_31 rfl (Nat.le_refl _) (Nat.le_refl _) ⟨rfl, _, rfl, W⟩
  · replace W := W.2 q4
    refine ts_ldc (v := (-1000001)) (pc' := 9) rfl dX11_set_7 (by decide +kernel) ?_
    exact ts_iret dX11_set_9 rfl (Nat.le_refl _) (Nat.le_refl _) ⟨rfl, _, rfl, W⟩
theorem hnX11_copy_X11 : ∀ w ∈ u_ws RX11 TX11 13, w ∈ wsX11_copy := by decide +kernel
theorem hnX11_copy_X6 : ∀ w ∈ u_ws RX6 TX6 4, w ∈ wsX11_copy := by decide +kernel
theorem flX11_copy_11 : Cond.fieldLink RX11 11 "TurnipSquires" "rows" "[LTurnipSquires$Row;" ∈ wsX11_copy := by decide +kernel
theorem flX11_copy_101 : Cond.fieldLink RX11 101 "TurnipSquires$Row" "there" "Z" ∈ wsX11_copy := by decide +kernel
theorem flX11_copy_109 : Cond.fieldLink RX11 109 "TurnipSquires$Row" "items" "[I" ∈ wsX11_copy := by decide +kernel
theorem flX11_copy_116 : Cond.fieldLink RX11 116 "TurnipSquires$Row" "lane" "I" ∈ wsX11_copy := by decide +kernel
set_option maxHeartbeats 4000000 in
theorem wX11_copy_0 {d : Nat} {g : ts_G} {Q : Int32 → ts_I → ts_K → Prop} {o : Nat} {p0 : Int32} {p1 : Int32} {p2 : Int32} {p3 : Int32} {p4 : Int32} {hi : ts_I} {hk : ts_K} (W : ts_E0 d mX11_isRow [.int p0] g hi hk (ts_qi (fun v3 hi1 hk2 => ((v3 = 0) → Q (-1000001) hi1 hk2) ∧ (¬ (v3 = 0) → ts_E0 d mX11_isRow [.int p2] g hi1 hk2 (ts_qi (fun v7 hi5 hk6 => ((v7 ≠ 0) → (g.2.1 o = 10) ∧ (g.2.2.2 o 0 ≠ 0) ∧ (g.2.1 (g.2.2.2 o 0) = 102) ∧ (vp_in p0 (g.2.2.1 (g.2.2.2 o 0))) ∧ (g.2.2.2 (g.2.2.2 o 0) p0.toNatClampNeg ≠ 0) ∧ (vp_in p2 (g.2.2.1 (g.2.2.2 o 0))) ∧ (g.2.2.2 (g.2.2.2 o 0) p2.toNatClampNeg ≠ 0) ∧ (g.2.1 (g.2.2.2 (g.2.2.2 o 0) p0.toNatClampNeg) = 5) ∧ (((hi5 (g.2.2.2 (g.2.2.2 o 0) p0.toNatClampNeg) 1) = 0) → ts_E0 d mX11_found [.ref o, .int 1] g hi5 hk6 (ts_qi (fun v20 hi18 hk19 => Q v20 hi18 hk19))) ∧ (¬ ((hi5 (g.2.2.2 (g.2.2.2 o 0) p0.toNatClampNeg) 1) = 0) → (g.2.1 (g.2.2.2 (g.2.2.2 o 0) p2.toNatClampNeg) = 5) ∧ (((hi5 (g.2.2.2 (g.2.2.2 o 0) p2.toNatClampNeg) 1) ≠ 0) → (((hi5 (g.2.2.2 (g.2.2.2 o 0) p0.toNatClampNeg) 2) = (hi5 (g.2.2.2 (g.2.2.2 o 0) p2.toNatClampNeg) 2)) → ts_E0 d mX6_has [.ref (g.2.2.2 (g.2.2.2 o 0) p0.toNatClampNeg), .int p1, .int p4] g hi5 hk6 (ts_qi (fun v26 hi24 hk25 => ((v26 = 0) → ts_E0 d mX11_found [.ref o, .int 2] g hi24 hk25 (ts_qi (fun v30 hi28 hk29 => Q v30 hi28 hk29))) ∧ (¬ (v26 = 0) → ts_E0 d mX6_has [.ref (g.2.2.2 (g.2.2.2 o 0) p2.toNatClampNeg), .int p3, .int p4] g hi24 hk25 (ts_qi (fun v33 hi31 hk32 => ((v33 ≠ 0) → (g.2.2.2 (g.2.2.2 (g.2.2.2 o 0) p0.toNatClampNeg) 0 ≠ 0) ∧ (g.2.2.2 (g.2.2.2 (g.2.2.2 o 0) p2.toNatClampNeg) 0 ≠ 0) ∧ (g.2.1 (g.2.2.2 (g.2.2.2 (g.2.2.2 o 0) p0.toNatClampNeg) 0) = 100) ∧ (g.2.1 (g.2.2.2 (g.2.2.2 (g.2.2.2 o 0) p2.toNatClampNeg) 0) = 100) ∧ (¬ p1 < 0) ∧ (¬ p3 < 0) ∧ (¬ p4 < 0) ∧ (p1.toNatClampNeg + p4.toNatClampNeg ≤ g.2.2.1 (g.2.2.2 (g.2.2.2 (g.2.2.2 o 0) p0.toNatClampNeg) 0)) ∧ (p3.toNatClampNeg + p4.toNatClampNeg ≤ g.2.2.1 (g.2.2.2 (g.2.2.2 (g.2.2.2 o 0) p2.toNatClampNeg) 0)) ∧ ∀ hi44 : ts_I, hi44 = ts_cp hi31 (g.2.2.2 (g.2.2.2 (g.2.2.2 o 0) p0.toNatClampNeg) 0) p1.toNatClampNeg (g.2.2.2 (g.2.2.2 (g.2.2.2 o 0) p2.toNatClampNeg) 0) p3.toNatClampNeg p4.toNatClampNeg → ts_E0 d mX11_fine [.ref o, .int p4] g hi44 hk32 (ts_qi (fun v47 hi45 hk46 => Q v47 hi45 hk46))) ∧ (¬ (v33 ≠ 0) → ts_E0 d mX11_found [.ref o, .int 2] g hi31 hk32 (ts_qi (fun v50 hi48 hk49 => Q v50 hi48 hk49))))))))) ∧ (¬ ((hi5 (g.2.2.2 (g.2.2.2 o 0) p0.toNatClampNeg) 2) = (hi5 (g.2.2.2 (g.2.2.2 o 0) p2.toNatClampNeg) 2)) → ts_E0 d mX11_found [.ref o, .int 5] g hi5 hk6 (ts_qi (fun v53 hi51 hk52 => Q v53 hi51 hk52)))) ∧ (¬ ((hi5 (g.2.2.2 (g.2.2.2 o 0) p2.toNatClampNeg) 1) ≠ 0) → ts_E0 d mX11_found [.ref o, .int 1] g hi5 hk6 (ts_qi (fun v56 hi54 hk55 => Q v56 hi54 hk55))))) ∧ (¬ (v7 ≠ 0) → Q (-1000001) hi5 hk6))))))) : ts_J0 (d + 1) mX11_copy (ts_qi Q) g 0 [(0, .ref o), (1, .int p0), (2, .int p1), (3, .int p2), (4, .int p3), (5, .int p4)] [] hi hk := by
  refine ts_iload_n 1 (pc' := 1) rfl dX11_copy_0 rfl rfl ?_
  refine ts_callS (M' := mX11_isRow) (pc' := 4) (av := [.int p0]) rfl dX11_copy_1 rfl gX11_copy_X11_isRow rfl dsX11_isRow rfl (Nat.le_refl _) (Nat.le_of_ble_eq_true rfl) (Nat.le_of_ble_eq_true rfl) (Nat.le_refl _) (Nat.le_refl _) ts_kv0 W (ts_kki fun v3 hi1 hk2 W => ?_)
  refine ts_if_eq (pc' := 7) (tgt := 14) rfl dX11_copy_4 (by decide) (fun q4 => ?_) (fun q4 => ?_)
  · replace W := W.1 q4
    refine ts_ldc (v := (-1000001)) (pc' := 16) rfl dX11_copy_14 (by decide +kernel) ?_
    exact ts_iret dX11_copy_16 rfl (Nat.le_refl _) (Nat.le_refl _) ⟨rfl, _, rfl, W⟩
  · replace W := W.2 q4
    refine ts_iload_n 3 (pc' := 8) rfl dX11_copy_7 rfl rfl ?_
    refine ts_callS (M' := mX11_isRow) (pc' := 11) (av := [.int p2]) rfl dX11_copy_8 rfl gX11_copy_X11_isRow rfl dsX11_isRow rfl (Nat.le_refl _) (Nat.le_of_ble_eq_true rfl) (Nat.le_of_ble_eq_true rfl) (Nat.le_refl _) (Nat.le_refl _) ts_kv0 W (ts_kki fun v7 hi5 hk6 W => ?_)
    refine ts_if_ne (pc' := 14) (tgt := 17) rfl dX11_copy_11 (by decide) (fun q8 => ?_) (fun q8 => ?_)
    · replace W := W.1 q8
      refine ts_aload_n 0 (pc' := 18) rfl dX11_copy_17 rfl rfl ?_
      obtain ⟨c9, W⟩ := W
      obtain ⟨c10, W⟩ := W
      refine ts_getR (pc' := 21) (ci := 10) 0 cfX11.1 cfX11.2.1 cfX11.2.2 rfl (by decide) hnX11_copy_X11 flX11_copy_11 rfl dX11_copy_18 c9 c10 ?_
      refine ts_iload_n 1 (pc' := 22) rfl dX11_copy_21 rfl rfl ?_
      obtain ⟨c11, W⟩ := W
      obtain ⟨c12, W⟩ := W
      obtain ⟨c13, W⟩ := W
      refine ts_aaloadR (pc' := 23) rfl dX11_copy_22 c11 c12 c13 ?_
      refine ts_astore (pc' := 25) (ls' := [(6, .ref (g.2.2.2 (g.2.2.2 o 0) p0.toNatClampNeg)), (0, .ref o), (1, .int p0), (2, .int p1), (3, .int p2), (4, .int p3), (5, .int p4)]) rfl dX11_copy_23 (Nat.le_of_ble_eq_true rfl) rfl ?_
      refine ts_aload_n 1 (pc' := 26) rfl dX11_copy_25 rfl rfl ?_
      refine ts_getR (pc' := 29) (ci := 10) 0 cfX11.1 cfX11.2.1 cfX11.2.2 rfl (by decide) hnX11_copy_X11 flX11_copy_11 rfl dX11_copy_26 c9 c10 ?_
      refine ts_iload_n 4 (pc' := 30) rfl dX11_copy_29 rfl rfl ?_
      obtain ⟨c14, W⟩ := W
      obtain ⟨c15, W⟩ := W
      refine ts_aaloadR (pc' := 31) rfl dX11_copy_30 c11 c14 c15 ?_
      refine ts_astore (pc' := 33) (ls' := [(7, .ref (g.2.2.2 (g.2.2.2 o 0) p2.toNatClampNeg)), (6, .ref (g.2.2.2 (g.2.2.2 o 0) p0.toNatClampNeg)), (0, .ref o), (1, .int p0), (2, .int p1), (3, .int p2), (4, .int p3), (5, .int p4)]) rfl dX11_copy_31 (Nat.le_of_ble_eq_true rfl) rfl ?_
      refine ts_aload 1 (pc' := 35) rfl dX11_copy_33 rfl ?_
      obtain ⟨c16, W⟩ := W
      refine ts_getI (pc' := 38) (ci := 5) 1 cfX6.1 cfX6.2.1 cfX6.2.2 rfl (by decide) hnX11_copy_X6 flX11_copy_101 rfl dX11_copy_35 c16 ?_
      refine ts_if_eq (pc' := 41) (tgt := 49) rfl dX11_copy_38 (by decide) (fun q17 => ?_) (fun q17 => ?_)
      · replace W := W.1 q17
        refine ts_aload_n 2 (pc' := 50) rfl dX11_copy_49 rfl rfl ?_
        refine ts_iconst (v := 1) (pc' := 51) rfl dX11_copy_50 (by decide) ?_
        refine ts_callV (M' := mX11_found) (C := RX11) (pc' := 54) (av := [.int 1]) (b := o) rfl dX11_copy_51 rfl gX11_copy_X11_found rfl dvX11_found rfl (ci := 10) cfX11.1 (by decide) c9 (Nat.le_refl _) (Nat.le_of_ble_eq_true rfl) (Nat.le_of_ble_eq_true rfl) (Nat.le_refl _) (Nat.le_refl _) ts_kv0 W (ts_kki fun v20 hi18 hk19 W => ?_)
        exact ts_iret dX11_copy_54 rfl (Nat.le_refl _) (Nat.le_refl _) ⟨rfl, _, rfl, W⟩
      · replace W := W.2 q17
        refine ts_aload 0 (pc' := 43) rfl dX11_copy_41 rfl ?_
        obtain ⟨c21, W⟩ := W
        refine ts_getI (pc' := 46) (ci := 5) 1 cfX6.1 cfX6.2.1 cfX6.2.2 rfl (by decide) hnX11_copy_X6 flX11_copy_101 rfl dX11_copy_43 c21 ?_
        refine ts_if_ne (pc' := 49) (tgt := 55) rfl dX11_copy_46 (by decide) (fun q22 => ?_) (fun q22 => ?_)
        · replace W := W.1 q22
          refine ts_aload 1 (pc' := 57) rfl dX11_copy_55 rfl ?_
          refine ts_getI (pc' := 60) (ci := 5) 2 cfX6.1 cfX6.2.1 cfX6.2.2 rfl (by decide) hnX11_copy_X6 flX11_copy_116 rfl dX11_copy_57 c16 ?_
          refine ts_aload 0 (pc' := 62) rfl dX11_copy_60 rfl ?_
          refine ts_getI (pc' := 65) (ci := 5) 2 cfX6.1 cfX6.2.1 cfX6.2.2 rfl (by decide) hnX11_copy_X6 flX11_copy_116 rfl dX11_copy_62 c21 ?_
          refine ts_icmp_eq (pc' := 68) (tgt := 74) rfl dX11_copy_65 (by decide) (fun q23 => ?_) (fun q23 => ?_)
          · replace W := W.1 q23
            refine ts_aload 1 (pc' := 76) rfl dX11_copy_74 rfl ?_
            refine ts_iload_n 4 (pc' := 77) rfl dX11_copy_76 rfl rfl ?_
            refine ts_iload 7 (pc' := 79) rfl dX11_copy_77 rfl ?_
            refine ts_callV (M' := mX6_has) (C := RX6) (pc' := 82) (av := [.int p1, .int p4]) (b := (g.2.2.2 (g.2.2.2 o 0) p0.toNatClampNeg)) rfl dX11_copy_79 rfl gX11_copy_X6_has rfl dvX6_has rfl (ci := 5) cfX6.1 (by decide) c16 (Nat.le_refl _) (Nat.le_of_ble_eq_true rfl) (Nat.le_of_ble_eq_true rfl) (Nat.le_refl _) (Nat.le_refl _) ts_kv0 W (ts_kki fun v26 hi24 hk25 W => ?_)
            refine ts_if_eq (pc' := 85) (tgt := 97) rfl dX11_copy_82 (by decide) (fun q27 => ?_) (fun q27 => ?_)
            · replace W := W.1 q27
              refine ts_aload_n 2 (pc' := 98) rfl dX11_copy_97 rfl rfl ?_
              refine ts_iconst (v := 2) (pc' := 99) rfl dX11_copy_98 (by decide) ?_
              refine ts_callV (M' := mX11_found) (C := RX11) (pc' := 102) (av := [.int 2]) (b := o) rfl dX11_copy_99 rfl gX11_copy_X11_found rfl dvX11_found rfl (ci := 10) cfX11.1 (by decide) c9 (Nat.le_refl _) (Nat.le_of_ble_eq_true rfl) (Nat.le_of_ble_eq_true rfl) (Nat.le_refl _) (Nat.le_refl _) ts_kv0 W (ts_kki fun v30 hi28 hk29 W => ?_)
              exact ts_iret dX11_copy_102 rfl (Nat.le_refl _) (Nat.le_refl _) ⟨rfl, _, rfl, W⟩
            · replace W := W.2 q27
              refine ts_aload 0 (pc' := 87) rfl dX11_copy_85 rfl ?_
              refine ts_iload 6 (pc' := 89) rfl dX11_copy_87 rfl ?_
              refine ts_iload 7 (pc' := 91) rfl dX11_copy_89 rfl ?_
              refine ts_callV (M' := mX6_has) (C := RX6) (pc' := 94) (av := [.int p3, .int p4]) (b := (g.2.2.2 (g.2.2.2 o 0) p2.toNatClampNeg)) rfl dX11_copy_91 rfl gX11_copy_X6_has rfl dvX6_has rfl (ci := 5) cfX6.1 (by decide) c21 (Nat.le_refl _) (Nat.le_of_ble_eq_true rfl) (Nat.le_of_ble_eq_true rfl) (Nat.le_refl _) (Nat.le_refl _) ts_kv0 W (ts_kki fun v33 hi31 hk32 W => ?_)
              refine ts_if_ne (pc' := 97) (tgt := 103) rfl dX11_copy_94 (by decide) (fun q34 => ?_) (fun q34 => ?_)
              · replace W := W.1 q34
                refine ts_aload 1 (pc' := 105) rfl dX11_copy_103 rfl ?_
                obtain ⟨c35, W⟩ := W
                refine ts_getR (pc' := 108) (ci := 5) 0 cfX6.1 cfX6.2.1 cfX6.2.2 rfl (by decide) hnX11_copy_X6 flX11_copy_109 rfl dX11_copy_105 c16 c35 ?_
                refine ts_iload_n 4 (pc' := 109) rfl dX11_copy_108 rfl rfl ?_
                refine ts_aload 0 (pc' := 111) rfl dX11_copy_109 rfl ?_
                obtain ⟨c36, W⟩ := W
                refine ts_getR (pc' := 114) (ci := 5) 0 cfX6.1 cfX6.2.1 cfX6.2.2 rfl (by decide) hnX11_copy_X6 flX11_copy_109 rfl dX11_copy_111 c21 c36 ?_
                refine ts_iload 6 (pc' := 116) rfl dX11_copy_114 rfl ?_
                refine ts_iload 7 (pc' := 118) rfl dX11_copy_116 rfl ?_
                obtain ⟨c37, W⟩ := W
                obtain ⟨c38, W⟩ := W
                obtain ⟨c39, W⟩ := W
                obtain ⟨c40, W⟩ := W
                obtain ⟨c41, W⟩ := W
                obtain ⟨c42, W⟩ := W
                obtain ⟨c43, W⟩ := W
                refine ts_acopy (pc' := 121) rfl dX11_copy_118 (by decide +kernel) (by decide +kernel) (by decide +kernel) (by decide +kernel) (Nat.le_add_left 1 _) (Nat.le_of_ble_eq_true rfl) c37 c38 c39 c40 c41 c42 c43 ?_
                obtain ⟨hi44, ehi44⟩ : ∃ z, z = ts_cp hi31 (g.2.2.2 (g.2.2.2 (g.2.2.2 o 0) p0.toNatClampNeg) 0) p1.toNatClampNeg (g.2.2.2 (g.2.2.2 (g.2.2.2 o 0) p2.toNatClampNeg) 0) p3.toNatClampNeg p4.toNatClampNeg := ⟨_, rfl⟩
                rw [← ehi44]; replace W := W hi44 ehi44
                refine ts_aload_n 2 (pc' := 122) rfl dX11_copy_121 rfl rfl ?_
                refine ts_iload 7 (pc' := 124) rfl dX11_copy_122 rfl ?_
                refine ts_callV (M' := mX11_fine) (C := RX11) (pc' := 127) (av := [.int p4]) (b := o) rfl dX11_copy_124 rfl gX11_copy_X11_fine rfl dvX11_fine rfl (ci := 10) cfX11.1 (by decide) c9 (Nat.le_refl _) (Nat.le_of_ble_eq_true rfl) (Nat.le_of_ble_eq_true rfl) (Nat.le_refl _) (Nat.le_refl _) ts_kv0 W (ts_kki fun v47 hi45 hk46 W => ?_)
                exact ts_iret dX11_copy_127 rfl (Nat.le_refl _) (Nat.le_refl _) ⟨rfl, _, rfl, W⟩
              · replace W := W.2 q34
                refine ts_aload_n 2 (pc' := 98) rfl dX11_copy_97 rfl rfl ?_
                refine ts_iconst (v := 2) (pc' := 99) rfl dX11_copy_98 (by decide) ?_
                refine ts_callV (M' := mX11_found) (C := RX11) (pc' := 102) (av := [.int 2]) (b := o) rfl dX11_copy_99 rfl gX11_copy_X11_found rfl dvX11_found rfl (ci := 10) cfX11.1 (by decide) c9 (Nat.le_refl _) (Nat.le_of_ble_eq_true rfl) (Nat.le_of_ble_eq_true rfl) (Nat.le_refl _) (Nat.le_refl _) ts_kv0 W (ts_kki fun v50 hi48 hk49 W => ?_)
                exact ts_iret dX11_copy_102 rfl (Nat.le_refl _) (Nat.le_refl _) ⟨rfl, _, rfl, W⟩
          · replace W := W.2 q23
            refine ts_aload_n 2 (pc' := 69) rfl dX11_copy_68 rfl rfl ?_
            refine ts_iconst (v := 5) (pc' := 70) rfl dX11_copy_69 (by decide) ?_
            refine ts_callV (M' := mX11_found) (C := RX11) (pc' := 73) (av := [.int 5]) (b := o) rfl dX11_copy_70 rfl gX11_copy_X11_found rfl dvX11_found rfl (ci := 10) cfX11.1 (by decide) c9 (Nat.le_refl _) (Nat.le_of_ble_eq_true rfl) (Nat.le_of_ble_eq_true rfl) (Nat.le_refl _) (Nat.le_refl _) ts_kv0 W (ts_kki fun v53 hi51 hk52 W => ?_)
            exact ts_iret dX11_copy_73 rfl (Nat.le_refl _) (Nat.le_refl _) ⟨rfl, _, rfl, W⟩
        · replace W := W.2 q22
          refine ts_aload_n 2 (pc' := 50) rfl dX11_copy_49 rfl rfl ?_
          refine ts_iconst (v := 1) (pc' := 51) rfl dX11_copy_50 (by decide) ?_
          refine ts_callV (M' := mX11_found) (C := RX11) (pc' := 54) (av := [.int 1]) (b := o) rfl dX11_copy_51 rfl gX11_copy_X11_found rfl dvX11_found rfl (ci := 10) cfX11.1 (by decide) c9 (Nat.le_refl _) (Nat.le_of_ble_eq_true rfl) (Nat.le_of_ble_eq_true rfl) (Nat.le_refl _) (Nat.le_refl _) ts_kv0 W (ts_kki fun v56 hi54 hk55 W => ?_)
          exact ts_iret dX11_copy_54 rfl (Nat.le_refl _) (Nat.le_refl _) ⟨rfl, _, rfl, W⟩
    · replace W := W.2 q8
      refine ts_ldc (v := (-1000001)) (pc' := 16) rfl dX11_copy_14 (by decide +kernel) ?_
      exact ts_iret dX11_copy_16 rfl (Nat.le_refl _) (Nat.le_refl _) ⟨rfl, _, rfl, W⟩
theorem hnX11_drop_X11 : ∀ w ∈ u_ws RX11 TX11 13, w ∈ wsX11_drop := by decide +kernel
theorem hnX11_drop_X6 : ∀ w ∈ u_ws RX6 TX6 4, w ∈ wsX11_drop := by decide +kernel
theorem flX11_drop_11 : Cond.fieldLink RX11 11 "TurnipSquires" "rows" "[LTurnipSquires$Row;" ∈ wsX11_drop := by decide +kernel
theorem flX11_drop_101 : Cond.fieldLink RX11 101 "TurnipSquires$Row" "there" "Z" ∈ wsX11_drop := by decide +kernel
theorem flX11_drop_126 : Cond.fieldLink RX11 126 "TurnipSquires$Row" "size" "I" ∈ wsX11_drop := by decide +kernel
set_option maxHeartbeats 4000000 in
theorem wX11_drop_0 {d : Nat} {g : ts_G} {Q : Int32 → ts_I → ts_K → Prop} {o : Nat} {p0 : Int32} {hi : ts_I} {hk : ts_K} (W : ts_E0 d mX11_isRow [.int p0] g hi hk (ts_qi (fun v3 hi1 hk2 => ((v3 ≠ 0) → (g.2.1 o = 10) ∧ (g.2.2.2 o 0 ≠ 0) ∧ (g.2.1 (g.2.2.2 o 0) = 102) ∧ (vp_in p0 (g.2.2.1 (g.2.2.2 o 0))) ∧ (g.2.2.2 (g.2.2.2 o 0) p0.toNatClampNeg ≠ 0) ∧ (g.2.1 (g.2.2.2 (g.2.2.2 o 0) p0.toNatClampNeg) = 5) ∧ (((hi1 (g.2.2.2 (g.2.2.2 o 0) p0.toNatClampNeg) 1) ≠ 0) → ∀ hi12 : ts_I, hi12 = ts_up hi1 (g.2.2.2 (g.2.2.2 o 0) p0.toNatClampNeg) 1 0 → ts_E0 d mX11_fine [.ref o, .int (hi12 (g.2.2.2 (g.2.2.2 o 0) p0.toNatClampNeg) 3)] g hi12 hk2 (ts_qi (fun v15 hi13 hk14 => Q v15 hi13 hk14))) ∧ (¬ ((hi1 (g.2.2.2 (g.2.2.2 o 0) p0.toNatClampNeg) 1) ≠ 0) → ts_E0 d mX11_found [.ref o, .int 1] g hi1 hk2 (ts_qi (fun v18 hi16 hk17 => Q v18 hi16 hk17)))) ∧ (¬ (v3 ≠ 0) → Q (-1000001) hi1 hk2)))) : ts_J0 (d + 1) mX11_drop (ts_qi Q) g 0 [(0, .ref o), (1, .int p0)] [] hi hk := by
  refine ts_iload_n 1 (pc' := 1) rfl dX11_drop_0 rfl rfl ?_
  refine ts_callS (M' := mX11_isRow) (pc' := 4) (av := [.int p0]) rfl dX11_drop_1 rfl gX11_drop_X11_isRow rfl dsX11_isRow rfl (Nat.le_refl _) (Nat.le_of_ble_eq_true rfl) (Nat.le_of_ble_eq_true rfl) (Nat.le_refl _) (Nat.le_refl _) ts_kv0 W (ts_kki fun v3 hi1 hk2 W => ?_)
  refine ts_if_ne (pc' := 7) (tgt := 10) rfl dX11_drop_4 (by decide) (fun q4 => ?_) (fun q4 => ?_)
  · replace W := W.1 q4
    refine ts_aload_n 0 (pc' := 11) rfl dX11_drop_10 rfl rfl ?_
    obtain ⟨c5, W⟩ := W
    obtain ⟨c6, W⟩ := W
    refine ts_getR (pc' := 14) (ci := 10) 0 cfX11.1 cfX11.2.1 cfX11.2.2 rfl (by decide) hnX11_drop_X11 flX11_drop_11 rfl dX11_drop_11 c5 c6 ?_
    refine ts_iload_n 1 (pc' := 15) rfl dX11_drop_14 rfl rfl ?_
    obtain ⟨c7, W⟩ := W
    obtain ⟨c8, W⟩ := W
    obtain ⟨c9, W⟩ := W
    refine ts_aaloadR (pc' := 16) rfl dX11_drop_15 c7 c8 c9 ?_
    refine ts_astore_n (pc' := 17) (ls' := [(2, .ref (g.2.2.2 (g.2.2.2 o 0) p0.toNatClampNeg)), (0, .ref o), (1, .int p0)]) rfl dX11_drop_16 rfl (Nat.le_of_ble_eq_true rfl) rfl ?_
    refine ts_aload_n 0 (pc' := 18) rfl dX11_drop_17 rfl rfl ?_
    obtain ⟨c10, W⟩ := W
    refine ts_getI (pc' := 21) (ci := 5) 1 cfX6.1 cfX6.2.1 cfX6.2.2 rfl (by decide) hnX11_drop_X6 flX11_drop_101 rfl dX11_drop_18 c10 ?_
    refine ts_if_ne (pc' := 24) (tgt := 30) rfl dX11_drop_21 (by decide) (fun q11 => ?_) (fun q11 => ?_)
    · replace W := W.1 q11
      refine ts_aload_n 0 (pc' := 31) rfl dX11_drop_30 rfl rfl ?_
      refine ts_iconst (v := 0) (pc' := 32) rfl dX11_drop_31 (by decide) ?_
      refine ts_putZ (pc' := 35) (ci := 5) 1 cfX6.1 cfX6.2.1 cfX6.2.2 rfl (by decide) hnX11_drop_X6 flX11_drop_101 tyX6_ok nmX6 rfl rfl rfl dX11_drop_32 c10 (by decide) ?_
      obtain ⟨hi12, ehi12⟩ : ∃ z, z = ts_up hi1 (g.2.2.2 (g.2.2.2 o 0) p0.toNatClampNeg) 1 0 := ⟨_, rfl⟩
      rw [← ehi12]; replace W := W hi12 ehi12
      refine ts_aload_n 1 (pc' := 36) rfl dX11_drop_35 rfl rfl ?_
      refine ts_aload_n 0 (pc' := 37) rfl dX11_drop_36 rfl rfl ?_
      refine ts_getI (pc' := 40) (ci := 5) 3 cfX6.1 cfX6.2.1 cfX6.2.2 rfl (by decide) hnX11_drop_X6 flX11_drop_126 rfl dX11_drop_37 c10 ?_
      refine ts_callV (M' := mX11_fine) (C := RX11) (pc' := 43) (av := [.int (hi12 (g.2.2.2 (g.2.2.2 o 0) p0.toNatClampNeg) 3)]) (b := o) rfl dX11_drop_40 rfl gX11_drop_X11_fine rfl dvX11_fine rfl (ci := 10) cfX11.1 (by decide) c5 (Nat.le_refl _) (Nat.le_of_ble_eq_true rfl) (Nat.le_of_ble_eq_true rfl) (Nat.le_refl _) (Nat.le_refl _) ts_kv0 W (ts_kki fun v15 hi13 hk14 W => ?_)
      exact ts_iret dX11_drop_43 rfl (Nat.le_refl _) (Nat.le_refl _) ⟨rfl, _, rfl, W⟩
    · replace W := W.2 q11
      refine ts_aload_n 1 (pc' := 25) rfl dX11_drop_24 rfl rfl ?_
      refine ts_iconst (v := 1) (pc' := 26) rfl dX11_drop_25 (by decide) ?_
      refine ts_callV (M' := mX11_found) (C := RX11) (pc' := 29) (av := [.int 1]) (b := o) rfl dX11_drop_26 rfl gX11_drop_X11_found rfl dvX11_found rfl (ci := 10) cfX11.1 (by decide) c5 (Nat.le_refl _) (Nat.le_of_ble_eq_true rfl) (Nat.le_of_ble_eq_true rfl) (Nat.le_refl _) (Nat.le_refl _) ts_kv0 W (ts_kki fun v18 hi16 hk17 W => ?_)
      exact ts_iret dX11_drop_29 rfl (Nat.le_refl _) (Nat.le_refl _) ⟨rfl, _, rfl, W⟩
  · replace W := W.2 q4
    refine ts_ldc (v := (-1000001)) (pc' := 9) rfl dX11_drop_7 (by decide +kernel) ?_
    exact ts_iret dX11_drop_9 rfl (Nat.le_refl _) (Nat.le_refl _) ⟨rfl, _, rfl, W⟩
theorem hnX11_feed_X11 : ∀ w ∈ u_ws RX11 TX11 13, w ∈ wsX11_feed := by decide +kernel
theorem hnX11_feed_X9 : ∀ w ∈ u_ws RX9 TX9 5, w ∈ wsX11_feed := by decide +kernel
theorem flX11_feed_18 : Cond.fieldLink RX11 18 "TurnipSquires" "tape" "LTurnipSquires$Tape;" ∈ wsX11_feed := by decide +kernel
theorem flX11_feed_132 : Cond.fieldLink RX11 132 "TurnipSquires$Tape" "size" "I" ∈ wsX11_feed := by decide +kernel
set_option maxHeartbeats 4000000 in
theorem wX11_feed_0 {d : Nat} {g : ts_G} {Q : Int32 → ts_I → ts_K → Prop} {o : Nat} {p0 : Int32} {hi : ts_I} {hk : ts_K} (W : ts_E0 d mX11_outside [.int p0, .int 0, .int 255] g hi hk (ts_qi (fun v3 hi1 hk2 => ((v3 = 0) → (g.2.1 o = 10) ∧ (g.2.2.2 o 1 ≠ 0) ∧ (g.2.1 (g.2.2.2 o 1) = 8) ∧ ts_E0 d mX9_add [.ref (g.2.2.2 o 1), .int p0] g hi1 hk2 (ts_qi (fun v9 hi7 hk8 => ((v9 = 0) → Q (-1000003) hi7 hk8) ∧ (¬ (v9 = 0) → Q (hi7 (g.2.2.2 o 1) 1) hi7 hk8)))) ∧ (¬ (v3 = 0) → Q (-1000001) hi1 hk2)))) : ts_J0 (d + 1) mX11_feed (ts_qi Q) g 0 [(0, .ref o), (1, .int p0)] [] hi hk := by
  refine ts_iload_n 1 (pc' := 1) rfl dX11_feed_0 rfl rfl ?_
  refine ts_iconst (v := 0) (pc' := 2) rfl dX11_feed_1 (by decide) ?_
  refine ts_sipush (v := 255) (pc' := 5) rfl dX11_feed_2 (by decide) ?_
  refine ts_callS (M' := mX11_outside) (pc' := 8) (av := [.int p0, .int 0, .int 255]) rfl dX11_feed_5 rfl gX11_feed_X11_outside rfl dsX11_outside rfl (Nat.le_refl _) (Nat.le_of_ble_eq_true rfl) (Nat.le_of_ble_eq_true rfl) (Nat.le_refl _) (Nat.le_refl _) ts_kv0 W (ts_kki fun v3 hi1 hk2 W => ?_)
  refine ts_if_eq (pc' := 11) (tgt := 14) rfl dX11_feed_8 (by decide) (fun q4 => ?_) (fun q4 => ?_)
  · replace W := W.1 q4
    refine ts_aload_n 0 (pc' := 15) rfl dX11_feed_14 rfl rfl ?_
    obtain ⟨c5, W⟩ := W
    obtain ⟨c6, W⟩ := W
    refine ts_getR (pc' := 18) (ci := 10) 1 cfX11.1 cfX11.2.1 cfX11.2.2 rfl (by decide) hnX11_feed_X11 flX11_feed_18 rfl dX11_feed_15 c5 c6 ?_
    refine ts_iload_n 1 (pc' := 19) rfl dX11_feed_18 rfl rfl ?_
    obtain ⟨c10, W⟩ := W
    refine ts_callV (M' := mX9_add) (C := RX9) (pc' := 22) (av := [.int p0]) (b := (g.2.2.2 o 1)) rfl dX11_feed_19 rfl gX11_feed_X9_add rfl dvX9_add rfl (ci := 8) cfX9.1 (by decide) c10 (Nat.le_refl _) (Nat.le_of_ble_eq_true rfl) (Nat.le_of_ble_eq_true rfl) (Nat.le_refl _) (Nat.le_refl _) ts_kv0 W (ts_kki fun v9 hi7 hk8 W => ?_)
    refine ts_if_eq (pc' := 25) (tgt := 35) rfl dX11_feed_22 (by decide) (fun q11 => ?_) (fun q11 => ?_)
    · replace W := W.1 q11
      refine ts_ldc (v := (-1000003)) (pc' := 37) rfl dX11_feed_35 (by decide +kernel) ?_
      exact ts_iret dX11_feed_37 rfl (Nat.le_refl _) (Nat.le_refl _) ⟨rfl, _, rfl, W⟩
    · replace W := W.2 q11
      refine ts_aload_n 0 (pc' := 26) rfl dX11_feed_25 rfl rfl ?_
      refine ts_getR (pc' := 29) (ci := 10) 1 cfX11.1 cfX11.2.1 cfX11.2.2 rfl (by decide) hnX11_feed_X11 flX11_feed_18 rfl dX11_feed_26 c5 c6 ?_
      refine ts_getI (pc' := 32) (ci := 8) 1 cfX9.1 cfX9.2.1 cfX9.2.2 rfl (by decide) hnX11_feed_X9 flX11_feed_132 rfl dX11_feed_29 c10 ?_
      refine ts_goto (tgt := 37) dX11_feed_32 (by decide) ?_
      exact ts_iret dX11_feed_37 rfl (Nat.le_refl _) (Nat.le_refl _) ⟨rfl, _, rfl, W⟩
  · replace W := W.2 q4
    refine ts_ldc (v := (-1000001)) (pc' := 13) rfl dX11_feed_11 (by decide +kernel) ?_
    exact ts_iret dX11_feed_13 rfl (Nat.le_refl _) (Nat.le_refl _) ⟨rfl, _, rfl, W⟩
theorem hnX11_field_X1 : ∀ w ∈ u_ws RX1 TX1 13, w ∈ wsX11_field := by decide +kernel
theorem hnX11_field_X11 : ∀ w ∈ u_ws RX11 TX11 13, w ∈ wsX11_field := by decide +kernel
theorem hnX11_field_X9 : ∀ w ∈ u_ws RX9 TX9 5, w ∈ wsX11_field := by decide +kernel
theorem flX11_field_18 : Cond.fieldLink RX11 18 "TurnipSquires" "tape" "LTurnipSquires$Tape;" ∈ wsX11_field := by decide +kernel
theorem flX11_field_31 : Cond.fieldLink RX11 31 "TurnipSquires" "kinds" "[LTurnipSquires$Kind;" ∈ wsX11_field := by decide +kernel
theorem flX11_field_65 : Cond.fieldLink RX11 65 "TurnipSquires" "now" "LTurnipSquires$Field;" ∈ wsX11_field := by decide +kernel
theorem flX11_field_69 : Cond.fieldLink RX11 69 "TurnipSquires" "draft" "LTurnipSquires$Field;" ∈ wsX11_field := by decide +kernel
theorem flX11_field_132 : Cond.fieldLink RX11 132 "TurnipSquires$Tape" "size" "I" ∈ wsX11_field := by decide +kernel
theorem flX11_field_138 : Cond.fieldLink RX11 138 "TurnipSquires$Tape" "fault" "I" ∈ wsX11_field := by decide +kernel
theorem flX11_field_141 : Cond.fieldLink RX11 141 "TurnipSquires" "latestFault" "I" ∈ wsX11_field := by decide +kernel
theorem flX11_field_145 : Cond.fieldLink RX11 145 "TurnipSquires$Tape" "at" "I" ∈ wsX11_field := by decide +kernel
theorem flX11_field_152 : Cond.fieldLink RX11 152 "TurnipSquires" "actsKept" "I" ∈ wsX11_field := by decide +kernel
theorem flX11_field_155 : Cond.fieldLink RX11 155 "TurnipSquires$Field" "count" "I" ∈ wsX11_field := by decide +kernel
set_option maxHeartbeats 4000000 in
theorem wX11_field_0 {d : Nat} {g : ts_G} {Q : Int32 → ts_I → ts_K → Prop} {o : Nat} {hi : ts_I} {hk : ts_K} (W : (g.2.1 o = 10) ∧ (g.2.2.2 o 1 ≠ 0) ∧ (g.2.2.2 o 7 ≠ 0) ∧ (g.2.2.2 o 3 ≠ 0) ∧ (g.2.1 (g.2.2.2 o 1) = 8) ∧ ts_E0 d mX9_readInto [.ref (g.2.2.2 o 1), .ref (g.2.2.2 o 7), .ref (g.2.2.2 o 3)] g hi hk (ts_qi (fun v7 hi5 hk6 => ∀ hi9 : ts_I, hi9 = ts_up hi5 (g.2.2.2 o 1) 1 0 → ((v7 ≠ 0) → (g.2.2.2 o 6 ≠ 0) ∧ (g.2.1 (g.2.2.2 o 6) = 1) ∧ ts_E0 d mX1_become [.ref (g.2.2.2 o 6), .ref (g.2.2.2 o 7)] g hi9 hk6 (ts_qv (fun hi12 hk13 => ∀ hi15 : ts_I, hi15 = ts_up hi12 o 12 0 → Q (hi15 (g.2.2.2 o 6) 9) hi15 hk13))) ∧ (¬ (v7 ≠ 0) → ∀ hi16 : ts_I, hi16 = ts_up hi9 o 10 (hi9 (g.2.2.2 o 1) 3) → Q ((-1000100) - (hi16 (g.2.2.2 o 1) 2)) hi16 hk6)))) : ts_J0 (d + 1) mX11_field (ts_qi Q) g 0 [(0, .ref o)] [] hi hk := by
  refine ts_aload_n 0 (pc' := 1) rfl dX11_field_0 rfl rfl ?_
  obtain ⟨c1, W⟩ := W
  obtain ⟨c2, W⟩ := W
  refine ts_getR (pc' := 4) (ci := 10) 1 cfX11.1 cfX11.2.1 cfX11.2.2 rfl (by decide) hnX11_field_X11 flX11_field_18 rfl dX11_field_1 c1 c2 ?_
  refine ts_aload_n 0 (pc' := 5) rfl dX11_field_4 rfl rfl ?_
  obtain ⟨c3, W⟩ := W
  refine ts_getR (pc' := 8) (ci := 10) 7 cfX11.1 cfX11.2.1 cfX11.2.2 rfl (by decide) hnX11_field_X11 flX11_field_69 rfl dX11_field_5 c1 c3 ?_
  refine ts_aload_n 0 (pc' := 9) rfl dX11_field_8 rfl rfl ?_
  obtain ⟨c4, W⟩ := W
  refine ts_getR (pc' := 12) (ci := 10) 3 cfX11.1 cfX11.2.1 cfX11.2.2 rfl (by decide) hnX11_field_X11 flX11_field_31 rfl dX11_field_9 c1 c4 ?_
  obtain ⟨c8, W⟩ := W
  refine ts_callV (M' := mX9_readInto) (C := RX9) (pc' := 15) (av := [.ref (g.2.2.2 o 7), .ref (g.2.2.2 o 3)]) (b := (g.2.2.2 o 1)) rfl dX11_field_12 rfl gX11_field_X9_readInto rfl dvX9_readInto rfl (ci := 8) cfX9.1 (by decide) c8 (Nat.le_refl _) (Nat.le_of_ble_eq_true rfl) (Nat.le_of_ble_eq_true rfl) (Nat.le_refl _) (Nat.le_refl _) ts_kv0 W (ts_kki fun v7 hi5 hk6 W => ?_)
  refine ts_istore_n (pc' := 16) (ls' := [(1, .int v7), (0, .ref o)]) rfl dX11_field_15 rfl (Nat.le_of_ble_eq_true rfl) rfl ?_
  refine ts_aload_n 1 (pc' := 17) rfl dX11_field_16 rfl rfl ?_
  refine ts_getR (pc' := 20) (ci := 10) 1 cfX11.1 cfX11.2.1 cfX11.2.2 rfl (by decide) hnX11_field_X11 flX11_field_18 rfl dX11_field_17 c1 c2 ?_
  refine ts_iconst (v := 0) (pc' := 21) rfl dX11_field_20 (by decide) ?_
  refine ts_putI (pc' := 24) (ci := 8) 1 cfX9.1 cfX9.2.1 cfX9.2.2 rfl (by decide) hnX11_field_X9 flX11_field_132 tyX9_ok nmX9 rfl rfl rfl dX11_field_21 c8 ?_
  obtain ⟨hi9, ehi9⟩ : ∃ z, z = ts_up hi5 (g.2.2.2 o 1) 1 0 := ⟨_, rfl⟩
  rw [← ehi9]; replace W := W hi9 ehi9
  refine ts_iload_n 0 (pc' := 25) rfl dX11_field_24 rfl rfl ?_
  refine ts_if_ne (pc' := 28) (tgt := 50) rfl dX11_field_25 (by decide) (fun q10 => ?_) (fun q10 => ?_)
  · replace W := W.1 q10
    refine ts_aload_n 1 (pc' := 51) rfl dX11_field_50 rfl rfl ?_
    obtain ⟨c11, W⟩ := W
    refine ts_getR (pc' := 54) (ci := 10) 6 cfX11.1 cfX11.2.1 cfX11.2.2 rfl (by decide) hnX11_field_X11 flX11_field_65 rfl dX11_field_51 c1 c11 ?_
    refine ts_aload_n 1 (pc' := 55) rfl dX11_field_54 rfl rfl ?_
    refine ts_getR (pc' := 58) (ci := 10) 7 cfX11.1 cfX11.2.1 cfX11.2.2 rfl (by decide) hnX11_field_X11 flX11_field_69 rfl dX11_field_55 c1 c3 ?_
    obtain ⟨c14, W⟩ := W
    refine ts_callV (M' := mX1_become) (C := RX1) (pc' := 61) (av := [.ref (g.2.2.2 o 7)]) (b := (g.2.2.2 o 6)) rfl dX11_field_58 rfl gX11_field_X1_become rfl dvX1_become rfl (ci := 1) cfX1.1 (by decide) c14 (Nat.le_refl _) (Nat.le_of_ble_eq_true rfl) (Nat.le_of_ble_eq_true rfl) (Nat.le_refl _) (Nat.le_refl _) ts_kv0 W (ts_kkv fun hi12 hk13 W => ?_)
    refine ts_aload_n 1 (pc' := 62) rfl dX11_field_61 rfl rfl ?_
    refine ts_iconst (v := 0) (pc' := 63) rfl dX11_field_62 (by decide) ?_
    refine ts_putI (pc' := 66) (ci := 10) 12 cfX11.1 cfX11.2.1 cfX11.2.2 rfl (by decide) hnX11_field_X11 flX11_field_152 tyX11_ok nmX11 rfl rfl rfl dX11_field_63 c1 ?_
    obtain ⟨hi15, ehi15⟩ : ∃ z, z = ts_up hi12 o 12 0 := ⟨_, rfl⟩
    rw [← ehi15]; replace W := W hi15 ehi15
    refine ts_aload_n 1 (pc' := 67) rfl dX11_field_66 rfl rfl ?_
    refine ts_getR (pc' := 70) (ci := 10) 6 cfX11.1 cfX11.2.1 cfX11.2.2 rfl (by decide) hnX11_field_X11 flX11_field_65 rfl dX11_field_67 c1 c11 ?_
    refine ts_getI (pc' := 73) (ci := 1) 9 cfX1.1 cfX1.2.1 cfX1.2.2 rfl (by decide) hnX11_field_X1 flX11_field_155 rfl dX11_field_70 c14 ?_
    exact ts_iret dX11_field_73 rfl (Nat.le_refl _) (Nat.le_refl _) ⟨rfl, _, rfl, W⟩
  · replace W := W.2 q10
    refine ts_aload_n 1 (pc' := 29) rfl dX11_field_28 rfl rfl ?_
    refine ts_aload_n 1 (pc' := 30) rfl dX11_field_29 rfl rfl ?_
    refine ts_getR (pc' := 33) (ci := 10) 1 cfX11.1 cfX11.2.1 cfX11.2.2 rfl (by decide) hnX11_field_X11 flX11_field_18 rfl dX11_field_30 c1 c2 ?_
    refine ts_getI (pc' := 36) (ci := 8) 3 cfX9.1 cfX9.2.1 cfX9.2.2 rfl (by decide) hnX11_field_X9 flX11_field_138 rfl dX11_field_33 c8 ?_
    refine ts_putI (pc' := 39) (ci := 10) 10 cfX11.1 cfX11.2.1 cfX11.2.2 rfl (by decide) hnX11_field_X11 flX11_field_141 tyX11_ok nmX11 rfl rfl rfl dX11_field_36 c1 ?_
    obtain ⟨hi16, ehi16⟩ : ∃ z, z = ts_up hi9 o 10 (hi9 (g.2.2.2 o 1) 3) := ⟨_, rfl⟩
    rw [← ehi16]; replace W := W hi16 ehi16
    refine ts_ldc (v := (-1000100)) (pc' := 41) rfl dX11_field_39 (by decide +kernel) ?_
    refine ts_aload_n 1 (pc' := 42) rfl dX11_field_41 rfl rfl ?_
    refine ts_getR (pc' := 45) (ci := 10) 1 cfX11.1 cfX11.2.1 cfX11.2.2 rfl (by decide) hnX11_field_X11 flX11_field_18 rfl dX11_field_42 c1 c2 ?_
    refine ts_getI (pc' := 48) (ci := 8) 2 cfX9.1 cfX9.2.1 cfX9.2.2 rfl (by decide) hnX11_field_X9 flX11_field_145 rfl dX11_field_45 c8 ?_
    refine ts_isub (pc' := 49) rfl dX11_field_48 ?_
    exact ts_iret dX11_field_49 rfl (Nat.le_refl _) (Nat.le_refl _) ⟨rfl, _, rfl, W⟩
theorem hnX11_fault_X11 : ∀ w ∈ u_ws RX11 TX11 13, w ∈ wsX11_fault := by decide +kernel
theorem flX11_fault_141 : Cond.fieldLink RX11 141 "TurnipSquires" "latestFault" "I" ∈ wsX11_fault := by decide +kernel
set_option maxHeartbeats 4000000 in
theorem wX11_fault_0 {d : Nat} {g : ts_G} {Q : Int32 → ts_I → ts_K → Prop} {o : Nat} {hi : ts_I} {hk : ts_K} (W : (g.2.1 o = 10) ∧ Q (hi o 10) hi hk) : ts_J0 d mX11_fault (ts_qi Q) g 0 [(0, .ref o)] [] hi hk := by
  refine ts_aload_n 0 (pc' := 1) rfl dX11_fault_0 rfl rfl ?_
  obtain ⟨c1, W⟩ := W
  refine ts_getI (pc' := 4) (ci := 10) 10 cfX11.1 cfX11.2.1 cfX11.2.2 rfl (by decide) hnX11_fault_X11 flX11_fault_141 rfl dX11_fault_1 c1 ?_
  exact ts_iret dX11_fault_4 rfl (Nat.le_refl _) (Nat.le_refl _) ⟨rfl, _, rfl, W⟩
theorem hnX11_years_X1 : ∀ w ∈ u_ws RX1 TX1 13, w ∈ wsX11_years := by decide +kernel
theorem hnX11_years_X11 : ∀ w ∈ u_ws RX11 TX11 13, w ∈ wsX11_years := by decide +kernel
theorem flX11_years_65 : Cond.fieldLink RX11 65 "TurnipSquires" "now" "LTurnipSquires$Field;" ∈ wsX11_years := by decide +kernel
theorem flX11_years_155 : Cond.fieldLink RX11 155 "TurnipSquires$Field" "count" "I" ∈ wsX11_years := by decide +kernel
theorem flX11_years_159 : Cond.fieldLink RX11 159 "TurnipSquires$Field" "year" "I" ∈ wsX11_years := by decide +kernel
set_option maxHeartbeats 4000000 in
theorem wX11_years_0 {d : Nat} {g : ts_G} {Q : Int32 → ts_I → ts_K → Prop} {o : Nat} {p0 : Int32} {hi : ts_I} {hk : ts_K} (W : (g.2.1 o = 10) ∧ (g.2.2.2 o 6 ≠ 0) ∧ (g.2.1 (g.2.2.2 o 6) = 1) ∧ (((hi (g.2.2.2 o 6) 9) ≠ 0) → ts_E0 d mX11_outside [.int p0, .int 1, .int 24] g hi hk (ts_qi (fun v7 hi5 hk6 => ((v7 = 0) → ((((hi5 (g.2.2.2 o 6) 10) + p0) ≤ 9999) → ts_J0 (d + 1) mX11_years (ts_qi Q) g 46 [(0, .ref o), (1, .int p0), (2, .int 0)] [] hi5 hk6) ∧ (¬ (((hi5 (g.2.2.2 o 6) 10) + p0) ≤ 9999) → Q (-1000003) hi5 hk6)) ∧ (¬ (v7 = 0) → Q (-1000001) hi5 hk6)))) ∧ (¬ ((hi (g.2.2.2 o 6) 9) ≠ 0) → Q (-1000002) hi hk)) : ts_J0 (d + 1) mX11_years (ts_qi Q) g 0 [(0, .ref o), (1, .int p0)] [] hi hk := by
  refine ts_aload_n 0 (pc' := 1) rfl dX11_years_0 rfl rfl ?_
  obtain ⟨c1, W⟩ := W
  obtain ⟨c2, W⟩ := W
  refine ts_getR (pc' := 4) (ci := 10) 6 cfX11.1 cfX11.2.1 cfX11.2.2 rfl (by decide) hnX11_years_X11 flX11_years_65 rfl dX11_years_1 c1 c2 ?_
  obtain ⟨c3, W⟩ := W
  refine ts_getI (pc' := 7) (ci := 1) 9 cfX1.1 cfX1.2.1 cfX1.2.2 rfl (by decide) hnX11_years_X1 flX11_years_155 rfl dX11_years_4 c3 ?_
  refine ts_if_ne (pc' := 10) (tgt := 13) rfl dX11_years_7 (by decide) (fun q4 => ?_) (fun q4 => ?_)
  · replace W := W.1 q4
    refine ts_iload_n 1 (pc' := 14) rfl dX11_years_13 rfl rfl ?_
    refine ts_iconst (v := 1) (pc' := 15) rfl dX11_years_14 (by decide) ?_
    refine ts_bipush (v := 24) (pc' := 17) rfl dX11_years_15 (by decide) ?_
    refine ts_callS (M' := mX11_outside) (pc' := 20) (av := [.int p0, .int 1, .int 24]) rfl dX11_years_17 rfl gX11_years_X11_outside rfl dsX11_outside rfl (Nat.le_refl _) (Nat.le_of_ble_eq_true rfl) (Nat.le_of_ble_eq_true rfl) (Nat.le_refl _) (Nat.le_refl _) ts_kv0 W (ts_kki fun v7 hi5 hk6 W => ?_)
    refine ts_if_eq (pc' := 23) (tgt := 26) rfl dX11_years_20 (by decide) (fun q8 => ?_) (fun q8 => ?_)
    · replace W := W.1 q8
      refine ts_aload_n 0 (pc' := 27) rfl dX11_years_26 rfl rfl ?_
      refine ts_getR (pc' := 30) (ci := 10) 6 cfX11.1 cfX11.2.1 cfX11.2.2 rfl (by decide) hnX11_years_X11 flX11_years_65 rfl dX11_years_27 c1 c2 ?_
      refine ts_getI (pc' := 33) (ci := 1) 10 cfX1.1 cfX1.2.1 cfX1.2.2 rfl (by decide) hnX11_years_X1 flX11_years_159 rfl dX11_years_30 c3 ?_
      refine ts_iload_n 1 (pc' := 34) rfl dX11_years_33 rfl rfl ?_
      refine ts_iadd (pc' := 35) rfl dX11_years_34 ?_
      refine ts_sipush (v := 9999) (pc' := 38) rfl dX11_years_35 (by decide) ?_
      refine ts_icmp_le (pc' := 41) (tgt := 44) rfl dX11_years_38 (by decide) (fun q9 => ?_) (fun q9 => ?_)
      · replace W := W.1 q9
        refine ts_iconst (v := 0) (pc' := 45) rfl dX11_years_44 (by decide) ?_
        refine ts_istore_n (pc' := 46) (ls' := [(2, .int 0), (0, .ref o), (1, .int p0)]) rfl dX11_years_45 rfl (Nat.le_of_ble_eq_true rfl) rfl ?_
        exact ts_sub [1, 2, 0] rfl W
      · replace W := W.2 q9
        refine ts_ldc (v := (-1000003)) (pc' := 43) rfl dX11_years_41 (by decide +kernel) ?_
        exact ts_iret dX11_years_43 rfl (Nat.le_refl _) (Nat.le_refl _) ⟨rfl, _, rfl, W⟩
    · replace W := W.2 q8
      refine ts_ldc (v := (-1000001)) (pc' := 25) rfl dX11_years_23 (by decide +kernel) ?_
      exact ts_iret dX11_years_25 rfl (Nat.le_refl _) (Nat.le_refl _) ⟨rfl, _, rfl, W⟩
  · replace W := W.2 q4
    refine ts_ldc (v := (-1000002)) (pc' := 12) rfl dX11_years_10 (by decide +kernel) ?_
    exact ts_iret dX11_years_12 rfl (Nat.le_refl _) (Nat.le_refl _) ⟨rfl, _, rfl, W⟩
set_option maxHeartbeats 4000000 in
theorem wX11_years_46 {d : Nat} {g : ts_G} {Q : Int32 → ts_I → ts_K → Prop} {l0 : Nat} {l1 : Int32} {l2 : Int32} {hi : ts_I} {hk : ts_K} (W : ((l1 ≤ l2) → (g.2.1 l0 = 10) ∧ (g.2.2.2 l0 6 ≠ 0) ∧ (g.2.1 (g.2.2.2 l0 6) = 1) ∧ ts_E0 d mX1_allRanks [.ref (g.2.2.2 l0 6)] g hi hk (ts_qi (fun v6 hi4 hk5 => Q v6 hi4 hk5))) ∧ (¬ (l1 ≤ l2) → (g.2.1 l0 = 10) ∧ ts_E0 d mX11_keepAct [.ref l0] g hi hk (ts_qv (fun hi8 hk9 => (g.2.2.2 l0 6 ≠ 0) ∧ (g.2.1 (g.2.2.2 l0 6) = 1) ∧ ts_E0 d mX1_hasFrost [.ref (g.2.2.2 l0 6)] g hi8 hk9 (ts_qi (fun v14 hi12 hk13 => ts_E0 d mX1_pass [.ref (g.2.2.2 l0 6), .int v14] g hi12 hk13 (ts_qv (fun hi16 hk17 => ts_J0 (d + 1) mX11_years (ts_qi Q) g 46 [(0, .ref l0), (1, .int l1), (2, .int (l2 + 1))] [] hi16 hk17)))))))) : ts_J0 (d + 1) mX11_years (ts_qi Q) g 46 [(0, .ref l0), (1, .int l1), (2, .int l2)] [] hi hk := by
  refine ts_iload_n 2 (pc' := 47) rfl dX11_years_46 rfl rfl ?_
  refine ts_iload_n 1 (pc' := 48) rfl dX11_years_47 rfl rfl ?_
  refine ts_icmp_ge (pc' := 51) (tgt := 75) rfl dX11_years_48 (by decide) (fun q1 => ?_) (fun q1 => ?_)
  · replace W := W.1 q1
    refine ts_aload_n 0 (pc' := 76) rfl dX11_years_75 rfl rfl ?_
    obtain ⟨c2, W⟩ := W
    obtain ⟨c3, W⟩ := W
    refine ts_getR (pc' := 79) (ci := 10) 6 cfX11.1 cfX11.2.1 cfX11.2.2 rfl (by decide) hnX11_years_X11 flX11_years_65 rfl dX11_years_76 c2 c3 ?_
    obtain ⟨c7, W⟩ := W
    refine ts_callV (M' := mX1_allRanks) (C := RX1) (pc' := 82) (av := []) (b := (g.2.2.2 l0 6)) rfl dX11_years_79 rfl gX11_years_X1_allRanks rfl dvX1_allRanks rfl (ci := 1) cfX1.1 (by decide) c7 (Nat.le_refl _) (Nat.le_of_ble_eq_true rfl) (Nat.le_of_ble_eq_true rfl) (Nat.le_refl _) (Nat.le_refl _) ts_kv0 W (ts_kki fun v6 hi4 hk5 W => ?_)
    exact ts_iret dX11_years_82 rfl (Nat.le_refl _) (Nat.le_refl _) ⟨rfl, _, rfl, W⟩
  · replace W := W.2 q1
    refine ts_aload_n 0 (pc' := 52) rfl dX11_years_51 rfl rfl ?_
    obtain ⟨c10, W⟩ := W
    refine ts_callV (M' := mX11_keepAct) (C := RX11) (pc' := 55) (av := []) (b := l0) rfl dX11_years_52 rfl gX11_years_X11_keepAct rfl dvX11_keepAct rfl (ci := 10) cfX11.1 (by decide) c10 (Nat.le_refl _) (Nat.le_of_ble_eq_true rfl) (Nat.le_of_ble_eq_true rfl) (Nat.le_refl _) (Nat.le_refl _) ts_kv0 W (ts_kkv fun hi8 hk9 W => ?_)
    refine ts_aload_n 0 (pc' := 56) rfl dX11_years_55 rfl rfl ?_
    obtain ⟨c11, W⟩ := W
    refine ts_getR (pc' := 59) (ci := 10) 6 cfX11.1 cfX11.2.1 cfX11.2.2 rfl (by decide) hnX11_years_X11 flX11_years_65 rfl dX11_years_56 c10 c11 ?_
    refine ts_aload_n 0 (pc' := 60) rfl dX11_years_59 rfl rfl ?_
    refine ts_getR (pc' := 63) (ci := 10) 6 cfX11.1 cfX11.2.1 cfX11.2.2 rfl (by decide) hnX11_years_X11 flX11_years_65 rfl dX11_years_60 c10 c11 ?_
    obtain ⟨c15, W⟩ := W
    refine ts_callV (M' := mX1_hasFrost) (C := RX1) (pc' := 66) (av := []) (b := (g.2.2.2 l0 6)) rfl dX11_years_63 rfl gX11_years_X1_hasFrost rfl dvX1_hasFrost rfl (ci := 1) cfX1.1 (by decide) c15 (Nat.le_refl _) (Nat.le_of_ble_eq_true rfl) (Nat.le_of_ble_eq_true rfl) (Nat.le_refl _) (Nat.le_refl _) ts_kv0 W (ts_kki fun v14 hi12 hk13 W => ?_)
    refine ts_callV (M' := mX1_pass) (C := RX1) (pc' := 69) (av := [.int v14]) (b := (g.2.2.2 l0 6)) rfl dX11_years_66 rfl gX11_years_X1_pass rfl dvX1_pass rfl (ci := 1) cfX1.1 (by decide) c15 (Nat.le_refl _) (Nat.le_of_ble_eq_true rfl) (Nat.le_of_ble_eq_true rfl) (Nat.le_refl _) (Nat.le_refl _) ts_kv0 W (ts_kkv fun hi16 hk17 W => ?_)
    refine ts_iinc 2 (pc' := 72) (ls' := [(2, .int (l2 + 1)), (0, .ref l0), (1, .int l1)]) rfl dX11_years_69 rfl rfl (Nat.le_of_ble_eq_true rfl) rfl ?_
    refine ts_goto (tgt := 46) dX11_years_72 (by decide) ?_
    exact ts_sub [1, 2, 0] rfl W
theorem hnX11_marry_X1 : ∀ w ∈ u_ws RX1 TX1 13, w ∈ wsX11_marry := by decide +kernel
theorem hnX11_marry_X11 : ∀ w ∈ u_ws RX11 TX11 13, w ∈ wsX11_marry := by decide +kernel
theorem flX11_marry_65 : Cond.fieldLink RX11 65 "TurnipSquires" "now" "LTurnipSquires$Field;" ∈ wsX11_marry := by decide +kernel
theorem flX11_marry_180 : Cond.fieldLink RX11 180 "TurnipSquires$Field" "mate" "[I" ∈ wsX11_marry := by decide +kernel
set_option maxHeartbeats 4000000 in
theorem wX11_marry_0 {d : Nat} {g : ts_G} {Q : Int32 → ts_I → ts_K → Prop} {o : Nat} {p0 : Int32} {p1 : Int32} {hi : ts_I} {hk : ts_K} (W : (g.2.1 o = 10) ∧ ts_E0 d mX11_isTurnip [.ref o, .int p0] g hi hk (ts_qi (fun v3 hi1 hk2 => ((v3 = 0) → Q (-1000001) hi1 hk2) ∧ (¬ (v3 = 0) → ts_E0 d mX11_isTurnip [.ref o, .int p1] g hi1 hk2 (ts_qi (fun v8 hi6 hk7 => ((v8 = 0) → Q (-1000001) hi6 hk7) ∧ (¬ (v8 = 0) → ((p0 ≠ p1) → (g.2.2.2 o 6 ≠ 0) ∧ (g.2.1 (g.2.2.2 o 6) = 1) ∧ (g.2.2.2 (g.2.2.2 o 6) 4 ≠ 0) ∧ (g.2.1 (g.2.2.2 (g.2.2.2 o 6) 4) = 100) ∧ (vp_in p0 (g.2.2.1 (g.2.2.2 (g.2.2.2 o 6) 4))) ∧ (((hi6 (g.2.2.2 (g.2.2.2 o 6) 4) p0.toNatClampNeg) ≠ (-1)) → Q (-1000002) hi6 hk7) ∧ (¬ ((hi6 (g.2.2.2 (g.2.2.2 o 6) 4) p0.toNatClampNeg) ≠ (-1)) → (vp_in p1 (g.2.2.1 (g.2.2.2 (g.2.2.2 o 6) 4))) ∧ (((hi6 (g.2.2.2 (g.2.2.2 o 6) 4) p1.toNatClampNeg) = (-1)) → ts_E0 d mX11_keepAct [.ref o] g hi6 hk7 (ts_qv (fun hi19 hk20 => ∀ hi21 : ts_I, hi21 = ts_up hi19 (g.2.2.2 (g.2.2.2 o 6) 4) p0.toNatClampNeg p1 → ∀ hi22 : ts_I, hi22 = ts_up hi21 (g.2.2.2 (g.2.2.2 o 6) 4) p1.toNatClampNeg p0 → ts_E0 d mX1_allMarried [.ref (g.2.2.2 o 6)] g hi22 hk20 (ts_qi (fun v25 hi23 hk24 => Q v25 hi23 hk24))))) ∧ (¬ ((hi6 (g.2.2.2 (g.2.2.2 o 6) 4) p1.toNatClampNeg) = (-1)) → Q (-1000002) hi6 hk7))) ∧ (¬ (p0 ≠ p1) → Q (-1000001) hi6 hk7)))))))) : ts_J0 (d + 1) mX11_marry (ts_qi Q) g 0 [(0, .ref o), (1, .int p0), (2, .int p1)] [] hi hk := by
  refine ts_aload_n 0 (pc' := 1) rfl dX11_marry_0 rfl rfl ?_
  refine ts_iload_n 1 (pc' := 2) rfl dX11_marry_1 rfl rfl ?_
  obtain ⟨c4, W⟩ := W
  refine ts_callV (M' := mX11_isTurnip) (C := RX11) (pc' := 5) (av := [.int p0]) (b := o) rfl dX11_marry_2 rfl gX11_marry_X11_isTurnip rfl dvX11_isTurnip rfl (ci := 10) cfX11.1 (by decide) c4 (Nat.le_refl _) (Nat.le_of_ble_eq_true rfl) (Nat.le_of_ble_eq_true rfl) (Nat.le_refl _) (Nat.le_refl _) ts_kv0 W (ts_kki fun v3 hi1 hk2 W => ?_)
  refine ts_if_eq (pc' := 8) (tgt := 21) rfl dX11_marry_5 (by decide) (fun q5 => ?_) (fun q5 => ?_)
  · replace W := W.1 q5
    refine ts_ldc (v := (-1000001)) (pc' := 23) rfl dX11_marry_21 (by decide +kernel) ?_
    exact ts_iret dX11_marry_23 rfl (Nat.le_refl _) (Nat.le_refl _) ⟨rfl, _, rfl, W⟩
  · replace W := W.2 q5
    refine ts_aload_n 0 (pc' := 9) rfl dX11_marry_8 rfl rfl ?_
    refine ts_iload_n 2 (pc' := 10) rfl dX11_marry_9 rfl rfl ?_
    refine ts_callV (M' := mX11_isTurnip) (C := RX11) (pc' := 13) (av := [.int p1]) (b := o) rfl dX11_marry_10 rfl gX11_marry_X11_isTurnip rfl dvX11_isTurnip rfl (ci := 10) cfX11.1 (by decide) c4 (Nat.le_refl _) (Nat.le_of_ble_eq_true rfl) (Nat.le_of_ble_eq_true rfl) (Nat.le_refl _) (Nat.le_refl _) ts_kv0 W (ts_kki fun v8 hi6 hk7 W => ?_)
    refine ts_if_eq (pc' := 16) (tgt := 21) rfl dX11_marry_13 (by decide) (fun q9 => ?_) (fun q9 => ?_)
    · replace W := W.1 q9
      refine ts_ldc (v := (-1000001)) (pc' := 23) rfl dX11_marry_21 (by decide +kernel) ?_
      exact ts_iret dX11_marry_23 rfl (Nat.le_refl _) (Nat.le_refl _) ⟨rfl, _, rfl, W⟩
    · replace W := W.2 q9
      refine ts_iload_n 1 (pc' := 17) rfl dX11_marry_16 rfl rfl ?_
      refine ts_iload_n 2 (pc' := 18) rfl dX11_marry_17 rfl rfl ?_
      refine ts_icmp_ne (pc' := 21) (tgt := 24) rfl dX11_marry_18 (by decide) (fun q10 => ?_) (fun q10 => ?_)
      · replace W := W.1 q10
        refine ts_aload_n 0 (pc' := 25) rfl dX11_marry_24 rfl rfl ?_
        obtain ⟨c11, W⟩ := W
        refine ts_getR (pc' := 28) (ci := 10) 6 cfX11.1 cfX11.2.1 cfX11.2.2 rfl (by decide) hnX11_marry_X11 flX11_marry_65 rfl dX11_marry_25 c4 c11 ?_
        obtain ⟨c12, W⟩ := W
        obtain ⟨c13, W⟩ := W
        refine ts_getR (pc' := 31) (ci := 1) 4 cfX1.1 cfX1.2.1 cfX1.2.2 rfl (by decide) hnX11_marry_X1 flX11_marry_180 rfl dX11_marry_28 c12 c13 ?_
        refine ts_iload_n 1 (pc' := 32) rfl dX11_marry_31 rfl rfl ?_
        obtain ⟨c14, W⟩ := W
        obtain ⟨c15, W⟩ := W
        refine ts_iaload (pc' := 33) rfl dX11_marry_32 c14 c15 ?_
        refine ts_iconst (v := (-1)) (pc' := 34) rfl dX11_marry_33 (by decide) ?_
        refine ts_icmp_ne (pc' := 37) (tgt := 50) rfl dX11_marry_34 (by decide) (fun q16 => ?_) (fun q16 => ?_)
        · replace W := W.1 q16
          refine ts_ldc (v := (-1000002)) (pc' := 52) rfl dX11_marry_50 (by decide +kernel) ?_
          exact ts_iret dX11_marry_52 rfl (Nat.le_refl _) (Nat.le_refl _) ⟨rfl, _, rfl, W⟩
        · replace W := W.2 q16
          refine ts_aload_n 0 (pc' := 38) rfl dX11_marry_37 rfl rfl ?_
          refine ts_getR (pc' := 41) (ci := 10) 6 cfX11.1 cfX11.2.1 cfX11.2.2 rfl (by decide) hnX11_marry_X11 flX11_marry_65 rfl dX11_marry_38 c4 c11 ?_
          refine ts_getR (pc' := 44) (ci := 1) 4 cfX1.1 cfX1.2.1 cfX1.2.2 rfl (by decide) hnX11_marry_X1 flX11_marry_180 rfl dX11_marry_41 c12 c13 ?_
          refine ts_iload_n 2 (pc' := 45) rfl dX11_marry_44 rfl rfl ?_
          obtain ⟨c17, W⟩ := W
          refine ts_iaload (pc' := 46) rfl dX11_marry_45 c14 c17 ?_
          refine ts_iconst (v := (-1)) (pc' := 47) rfl dX11_marry_46 (by decide) ?_
          refine ts_icmp_eq (pc' := 50) (tgt := 53) rfl dX11_marry_47 (by decide) (fun q18 => ?_) (fun q18 => ?_)
          · replace W := W.1 q18
            refine ts_aload_n 0 (pc' := 54) rfl dX11_marry_53 rfl rfl ?_
            refine ts_callV (M' := mX11_keepAct) (C := RX11) (pc' := 57) (av := []) (b := o) rfl dX11_marry_54 rfl gX11_marry_X11_keepAct rfl dvX11_keepAct rfl (ci := 10) cfX11.1 (by decide) c4 (Nat.le_refl _) (Nat.le_of_ble_eq_true rfl) (Nat.le_of_ble_eq_true rfl) (Nat.le_refl _) (Nat.le_refl _) ts_kv0 W (ts_kkv fun hi19 hk20 W => ?_)
            refine ts_aload_n 0 (pc' := 58) rfl dX11_marry_57 rfl rfl ?_
            refine ts_getR (pc' := 61) (ci := 10) 6 cfX11.1 cfX11.2.1 cfX11.2.2 rfl (by decide) hnX11_marry_X11 flX11_marry_65 rfl dX11_marry_58 c4 c11 ?_
            refine ts_getR (pc' := 64) (ci := 1) 4 cfX1.1 cfX1.2.1 cfX1.2.2 rfl (by decide) hnX11_marry_X1 flX11_marry_180 rfl dX11_marry_61 c12 c13 ?_
            refine ts_iload_n 1 (pc' := 65) rfl dX11_marry_64 rfl rfl ?_
            refine ts_iload_n 2 (pc' := 66) rfl dX11_marry_65 rfl rfl ?_
            refine ts_iastore (pc' := 67) rfl dX11_marry_66 c14 c15 ?_
            obtain ⟨hi21, ehi21⟩ : ∃ z, z = ts_up hi19 (g.2.2.2 (g.2.2.2 o 6) 4) p0.toNatClampNeg p1 := ⟨_, rfl⟩
            rw [← ehi21]; replace W := W hi21 ehi21
            refine ts_aload_n 0 (pc' := 68) rfl dX11_marry_67 rfl rfl ?_
            refine ts_getR (pc' := 71) (ci := 10) 6 cfX11.1 cfX11.2.1 cfX11.2.2 rfl (by decide) hnX11_marry_X11 flX11_marry_65 rfl dX11_marry_68 c4 c11 ?_
            refine ts_getR (pc' := 74) (ci := 1) 4 cfX1.1 cfX1.2.1 cfX1.2.2 rfl (by decide) hnX11_marry_X1 flX11_marry_180 rfl dX11_marry_71 c12 c13 ?_
            refine ts_iload_n 2 (pc' := 75) rfl dX11_marry_74 rfl rfl ?_
            refine ts_iload_n 1 (pc' := 76) rfl dX11_marry_75 rfl rfl ?_
            refine ts_iastore (pc' := 77) rfl dX11_marry_76 c14 c17 ?_
            obtain ⟨hi22, ehi22⟩ : ∃ z, z = ts_up hi21 (g.2.2.2 (g.2.2.2 o 6) 4) p1.toNatClampNeg p0 := ⟨_, rfl⟩
            rw [← ehi22]; replace W := W hi22 ehi22
            refine ts_aload_n 0 (pc' := 78) rfl dX11_marry_77 rfl rfl ?_
            refine ts_getR (pc' := 81) (ci := 10) 6 cfX11.1 cfX11.2.1 cfX11.2.2 rfl (by decide) hnX11_marry_X11 flX11_marry_65 rfl dX11_marry_78 c4 c11 ?_
            refine ts_callV (M' := mX1_allMarried) (C := RX1) (pc' := 84) (av := []) (b := (g.2.2.2 o 6)) rfl dX11_marry_81 rfl gX11_marry_X1_allMarried rfl dvX1_allMarried rfl (ci := 1) cfX1.1 (by decide) c12 (Nat.le_refl _) (Nat.le_of_ble_eq_true rfl) (Nat.le_of_ble_eq_true rfl) (Nat.le_refl _) (Nat.le_refl _) ts_kv0 W (ts_kki fun v25 hi23 hk24 W => ?_)
            exact ts_iret dX11_marry_84 rfl (Nat.le_refl _) (Nat.le_refl _) ⟨rfl, _, rfl, W⟩
          · replace W := W.2 q18
            refine ts_ldc (v := (-1000002)) (pc' := 52) rfl dX11_marry_50 (by decide +kernel) ?_
            exact ts_iret dX11_marry_52 rfl (Nat.le_refl _) (Nat.le_refl _) ⟨rfl, _, rfl, W⟩
      · replace W := W.2 q10
        refine ts_ldc (v := (-1000001)) (pc' := 23) rfl dX11_marry_21 (by decide +kernel) ?_
        exact ts_iret dX11_marry_23 rfl (Nat.le_refl _) (Nat.le_refl _) ⟨rfl, _, rfl, W⟩
theorem hnX11_part_X1 : ∀ w ∈ u_ws RX1 TX1 13, w ∈ wsX11_part := by decide +kernel
theorem hnX11_part_X11 : ∀ w ∈ u_ws RX11 TX11 13, w ∈ wsX11_part := by decide +kernel
theorem flX11_part_65 : Cond.fieldLink RX11 65 "TurnipSquires" "now" "LTurnipSquires$Field;" ∈ wsX11_part := by decide +kernel
theorem flX11_part_180 : Cond.fieldLink RX11 180 "TurnipSquires$Field" "mate" "[I" ∈ wsX11_part := by decide +kernel
set_option maxHeartbeats 4000000 in
theorem wX11_part_0 {d : Nat} {g : ts_G} {Q : Int32 → ts_I → ts_K → Prop} {o : Nat} {p0 : Int32} {hi : ts_I} {hk : ts_K} (W : (g.2.1 o = 10) ∧ ts_E0 d mX11_isTurnip [.ref o, .int p0] g hi hk (ts_qi (fun v3 hi1 hk2 => ((v3 ≠ 0) → (g.2.2.2 o 6 ≠ 0) ∧ (g.2.1 (g.2.2.2 o 6) = 1) ∧ (g.2.2.2 (g.2.2.2 o 6) 4 ≠ 0) ∧ (g.2.1 (g.2.2.2 (g.2.2.2 o 6) 4) = 100) ∧ (vp_in p0 (g.2.2.1 (g.2.2.2 (g.2.2.2 o 6) 4))) ∧ ts_E0 d mX11_isTurnip [.ref o, .int (hi1 (g.2.2.2 (g.2.2.2 o 6) 4) p0.toNatClampNeg)] g hi1 hk2 (ts_qi (fun v13 hi11 hk12 => ((v13 ≠ 0) → ts_E0 d mX11_keepAct [.ref o] g hi11 hk12 (ts_qv (fun hi15 hk16 => ∀ hi17 : ts_I, hi17 = ts_up hi15 (g.2.2.2 (g.2.2.2 o 6) 4) p0.toNatClampNeg (-1) → (vp_in (hi1 (g.2.2.2 (g.2.2.2 o 6) 4) p0.toNatClampNeg) (g.2.2.1 (g.2.2.2 (g.2.2.2 o 6) 4))) ∧ ∀ hi19 : ts_I, hi19 = ts_up hi17 (g.2.2.2 (g.2.2.2 o 6) 4) (hi1 (g.2.2.2 (g.2.2.2 o 6) 4) p0.toNatClampNeg).toNatClampNeg (-1) → Q (hi1 (g.2.2.2 (g.2.2.2 o 6) 4) p0.toNatClampNeg) hi19 hk16))) ∧ (¬ (v13 ≠ 0) → Q (-1000002) hi11 hk12)))) ∧ (¬ (v3 ≠ 0) → Q (-1000001) hi1 hk2)))) : ts_J0 (d + 1) mX11_part (ts_qi Q) g 0 [(0, .ref o), (1, .int p0)] [] hi hk := by
  refine ts_aload_n 0 (pc' := 1) rfl dX11_part_0 rfl rfl ?_
  refine ts_iload_n 1 (pc' := 2) rfl dX11_part_1 rfl rfl ?_
  obtain ⟨c4, W⟩ := W
  refine ts_callV (M' := mX11_isTurnip) (C := RX11) (pc' := 5) (av := [.int p0]) (b := o) rfl dX11_part_2 rfl gX11_part_X11_isTurnip rfl dvX11_isTurnip rfl (ci := 10) cfX11.1 (by decide) c4 (Nat.le_refl _) (Nat.le_of_ble_eq_true rfl) (Nat.le_of_ble_eq_true rfl) (Nat.le_refl _) (Nat.le_refl _) ts_kv0 W (ts_kki fun v3 hi1 hk2 W => ?_)
  refine ts_if_ne (pc' := 8) (tgt := 11) rfl dX11_part_5 (by decide) (fun q5 => ?_) (fun q5 => ?_)
  · replace W := W.1 q5
    refine ts_aload_n 0 (pc' := 12) rfl dX11_part_11 rfl rfl ?_
    obtain ⟨c6, W⟩ := W
    refine ts_getR (pc' := 15) (ci := 10) 6 cfX11.1 cfX11.2.1 cfX11.2.2 rfl (by decide) hnX11_part_X11 flX11_part_65 rfl dX11_part_12 c4 c6 ?_
    obtain ⟨c7, W⟩ := W
    obtain ⟨c8, W⟩ := W
    refine ts_getR (pc' := 18) (ci := 1) 4 cfX1.1 cfX1.2.1 cfX1.2.2 rfl (by decide) hnX11_part_X1 flX11_part_180 rfl dX11_part_15 c7 c8 ?_
    refine ts_iload_n 1 (pc' := 19) rfl dX11_part_18 rfl rfl ?_
    obtain ⟨c9, W⟩ := W
    obtain ⟨c10, W⟩ := W
    refine ts_iaload (pc' := 20) rfl dX11_part_19 c9 c10 ?_
    refine ts_istore_n (pc' := 21) (ls' := [(2, .int (hi1 (g.2.2.2 (g.2.2.2 o 6) 4) p0.toNatClampNeg)), (0, .ref o), (1, .int p0)]) rfl dX11_part_20 rfl (Nat.le_of_ble_eq_true rfl) rfl ?_
    refine ts_aload_n 1 (pc' := 22) rfl dX11_part_21 rfl rfl ?_
    refine ts_iload_n 0 (pc' := 23) rfl dX11_part_22 rfl rfl ?_
    refine ts_callV (M' := mX11_isTurnip) (C := RX11) (pc' := 26) (av := [.int (hi1 (g.2.2.2 (g.2.2.2 o 6) 4) p0.toNatClampNeg)]) (b := o) rfl dX11_part_23 rfl gX11_part_X11_isTurnip rfl dvX11_isTurnip rfl (ci := 10) cfX11.1 (by decide) c4 (Nat.le_refl _) (Nat.le_of_ble_eq_true rfl) (Nat.le_of_ble_eq_true rfl) (Nat.le_refl _) (Nat.le_refl _) ts_kv0 W (ts_kki fun v13 hi11 hk12 W => ?_)
    refine ts_if_ne (pc' := 29) (tgt := 32) rfl dX11_part_26 (by decide) (fun q14 => ?_) (fun q14 => ?_)
    · replace W := W.1 q14
      refine ts_aload_n 1 (pc' := 33) rfl dX11_part_32 rfl rfl ?_
      refine ts_callV (M' := mX11_keepAct) (C := RX11) (pc' := 36) (av := []) (b := o) rfl dX11_part_33 rfl gX11_part_X11_keepAct rfl dvX11_keepAct rfl (ci := 10) cfX11.1 (by decide) c4 (Nat.le_refl _) (Nat.le_of_ble_eq_true rfl) (Nat.le_of_ble_eq_true rfl) (Nat.le_refl _) (Nat.le_refl _) ts_kv0 W (ts_kkv fun hi15 hk16 W => ?_)
      refine ts_aload_n 1 (pc' := 37) rfl dX11_part_36 rfl rfl ?_
      refine ts_getR (pc' := 40) (ci := 10) 6 cfX11.1 cfX11.2.1 cfX11.2.2 rfl (by decide) hnX11_part_X11 flX11_part_65 rfl dX11_part_37 c4 c6 ?_
      refine ts_getR (pc' := 43) (ci := 1) 4 cfX1.1 cfX1.2.1 cfX1.2.2 rfl (by decide) hnX11_part_X1 flX11_part_180 rfl dX11_part_40 c7 c8 ?_
      refine ts_iload_n 2 (pc' := 44) rfl dX11_part_43 rfl rfl ?_
      refine ts_iconst (v := (-1)) (pc' := 45) rfl dX11_part_44 (by decide) ?_
      refine ts_iastore (pc' := 46) rfl dX11_part_45 c9 c10 ?_
      obtain ⟨hi17, ehi17⟩ : ∃ z, z = ts_up hi15 (g.2.2.2 (g.2.2.2 o 6) 4) p0.toNatClampNeg (-1) := ⟨_, rfl⟩
      rw [← ehi17]; replace W := W hi17 ehi17
      refine ts_aload_n 1 (pc' := 47) rfl dX11_part_46 rfl rfl ?_
      refine ts_getR (pc' := 50) (ci := 10) 6 cfX11.1 cfX11.2.1 cfX11.2.2 rfl (by decide) hnX11_part_X11 flX11_part_65 rfl dX11_part_47 c4 c6 ?_
      refine ts_getR (pc' := 53) (ci := 1) 4 cfX1.1 cfX1.2.1 cfX1.2.2 rfl (by decide) hnX11_part_X1 flX11_part_180 rfl dX11_part_50 c7 c8 ?_
      refine ts_iload_n 0 (pc' := 54) rfl dX11_part_53 rfl rfl ?_
      refine ts_iconst (v := (-1)) (pc' := 55) rfl dX11_part_54 (by decide) ?_
      obtain ⟨c18, W⟩ := W
      refine ts_iastore (pc' := 56) rfl dX11_part_55 c9 c18 ?_
      obtain ⟨hi19, ehi19⟩ : ∃ z, z = ts_up hi17 (g.2.2.2 (g.2.2.2 o 6) 4) (hi1 (g.2.2.2 (g.2.2.2 o 6) 4) p0.toNatClampNeg).toNatClampNeg (-1) := ⟨_, rfl⟩
      rw [← ehi19]; replace W := W hi19 ehi19
      refine ts_iload_n 0 (pc' := 57) rfl dX11_part_56 rfl rfl ?_
      exact ts_iret dX11_part_57 rfl (Nat.le_refl _) (Nat.le_refl _) ⟨rfl, _, rfl, W⟩
    · replace W := W.2 q14
      refine ts_ldc (v := (-1000002)) (pc' := 31) rfl dX11_part_29 (by decide +kernel) ?_
      exact ts_iret dX11_part_31 rfl (Nat.le_refl _) (Nat.le_refl _) ⟨rfl, _, rfl, W⟩
  · replace W := W.2 q5
    refine ts_ldc (v := (-1000001)) (pc' := 10) rfl dX11_part_8 (by decide +kernel) ?_
    exact ts_iret dX11_part_10 rfl (Nat.le_refl _) (Nat.le_refl _) ⟨rfl, _, rfl, W⟩
theorem hnX11_swap_X1 : ∀ w ∈ u_ws RX1 TX1 13, w ∈ wsX11_swap := by decide +kernel
theorem hnX11_swap_X11 : ∀ w ∈ u_ws RX11 TX11 13, w ∈ wsX11_swap := by decide +kernel
theorem flX11_swap_65 : Cond.fieldLink RX11 65 "TurnipSquires" "now" "LTurnipSquires$Field;" ∈ wsX11_swap := by decide +kernel
theorem flX11_swap_189 : Cond.fieldLink RX11 189 "TurnipSquires$Field" "place" "[I" ∈ wsX11_swap := by decide +kernel
set_option maxHeartbeats 4000000 in
theorem wX11_swap_0 {d : Nat} {g : ts_G} {Q : Int32 → ts_I → ts_K → Prop} {o : Nat} {p0 : Int32} {p1 : Int32} {hi : ts_I} {hk : ts_K} (W : (g.2.1 o = 10) ∧ ts_E0 d mX11_isTurnip [.ref o, .int p0] g hi hk (ts_qi (fun v3 hi1 hk2 => ((v3 = 0) → Q (-1000001) hi1 hk2) ∧ (¬ (v3 = 0) → ts_E0 d mX11_isTurnip [.ref o, .int p1] g hi1 hk2 (ts_qi (fun v8 hi6 hk7 => ((v8 = 0) → Q (-1000001) hi6 hk7) ∧ (¬ (v8 = 0) → ((p0 ≠ p1) → ts_E0 d mX11_keepAct [.ref o] g hi6 hk7 (ts_qv (fun hi11 hk12 => (g.2.2.2 o 6 ≠ 0) ∧ (g.2.1 (g.2.2.2 o 6) = 1) ∧ ts_E0 d mX1_exchange [.ref (g.2.2.2 o 6), .int p0, .int p1] g hi11 hk12 (ts_qv (fun hi14 hk15 => (g.2.2.2 (g.2.2.2 o 6) 5 ≠ 0) ∧ (g.2.1 (g.2.2.2 (g.2.2.2 o 6) 5) = 100) ∧ (vp_in p0 (g.2.2.1 (g.2.2.2 (g.2.2.2 o 6) 5))) ∧ Q (hi14 (g.2.2.2 (g.2.2.2 o 6) 5) p0.toNatClampNeg) hi14 hk15))))) ∧ (¬ (p0 ≠ p1) → Q (-1000001) hi6 hk7)))))))) : ts_J0 (d + 1) mX11_swap (ts_qi Q) g 0 [(0, .ref o), (1, .int p0), (2, .int p1)] [] hi hk := by
  refine ts_aload_n 0 (pc' := 1) rfl dX11_swap_0 rfl rfl ?_
  refine ts_iload_n 1 (pc' := 2) rfl dX11_swap_1 rfl rfl ?_
  obtain ⟨c4, W⟩ := W
  refine ts_callV (M' := mX11_isTurnip) (C := RX11) (pc' := 5) (av := [.int p0]) (b := o) rfl dX11_swap_2 rfl gX11_swap_X11_isTurnip rfl dvX11_isTurnip rfl (ci := 10) cfX11.1 (by decide) c4 (Nat.le_refl _) (Nat.le_of_ble_eq_true rfl) (Nat.le_of_ble_eq_true rfl) (Nat.le_refl _) (Nat.le_refl _) ts_kv0 W (ts_kki fun v3 hi1 hk2 W => ?_)
  refine ts_if_eq (pc' := 8) (tgt := 21) rfl dX11_swap_5 (by decide) (fun q5 => ?_) (fun q5 => ?_)
  · replace W := W.1 q5
    refine ts_ldc (v := (-1000001)) (pc' := 23) rfl dX11_swap_21 (by decide +kernel) ?_
    exact ts_iret dX11_swap_23 rfl (Nat.le_refl _) (Nat.le_refl _) ⟨rfl, _, rfl, W⟩
  · replace W := W.2 q5
    refine ts_aload_n 0 (pc' := 9) rfl dX11_swap_8 rfl rfl ?_
    refine ts_iload_n 2 (pc' := 10) rfl dX11_swap_9 rfl rfl ?_
    refine ts_callV (M' := mX11_isTurnip) (C := RX11) (pc' := 13) (av := [.int p1]) (b := o) rfl dX11_swap_10 rfl gX11_swap_X11_isTurnip rfl dvX11_isTurnip rfl (ci := 10) cfX11.1 (by decide) c4 (Nat.le_refl _) (Nat.le_of_ble_eq_true rfl) (Nat.le_of_ble_eq_true rfl) (Nat.le_refl _) (Nat.le_refl _) ts_kv0 W (ts_kki fun v8 hi6 hk7 W => ?_)
    refine ts_if_eq (pc' := 16) (tgt := 21) rfl dX11_swap_13 (by decide) (fun q9 => ?_) (fun q9 => ?_)
    · replace W := W.1 q9
      refine ts_ldc (v := (-1000001)) (pc' := 23) rfl dX11_swap_21 (by decide +kernel) ?_
      exact ts_iret dX11_swap_23 rfl (Nat.le_refl _) (Nat.le_refl _) ⟨rfl, _, rfl, W⟩
    · replace W := W.2 q9
      refine ts_iload_n 1 (pc' := 17) rfl dX11_swap_16 rfl rfl ?_
      refine ts_iload_n 2 (pc' := 18) rfl dX11_swap_17 rfl rfl ?_
      refine ts_icmp_ne (pc' := 21) (tgt := 24) rfl dX11_swap_18 (by decide) (fun q10 => ?_) (fun q10 => ?_)
      · replace W := W.1 q10
        refine ts_aload_n 0 (pc' := 25) rfl dX11_swap_24 rfl rfl ?_
        refine ts_callV (M' := mX11_keepAct) (C := RX11) (pc' := 28) (av := []) (b := o) rfl dX11_swap_25 rfl gX11_swap_X11_keepAct rfl dvX11_keepAct rfl (ci := 10) cfX11.1 (by decide) c4 (Nat.le_refl _) (Nat.le_of_ble_eq_true rfl) (Nat.le_of_ble_eq_true rfl) (Nat.le_refl _) (Nat.le_refl _) ts_kv0 W (ts_kkv fun hi11 hk12 W => ?_)
        refine ts_aload_n 0 (pc' := 29) rfl dX11_swap_28 rfl rfl ?_
        obtain ⟨c13, W⟩ := W
        refine ts_getR (pc' := 32) (ci := 10) 6 cfX11.1 cfX11.2.1 cfX11.2.2 rfl (by decide) hnX11_swap_X11 flX11_swap_65 rfl dX11_swap_29 c4 c13 ?_
        refine ts_iload_n 1 (pc' := 33) rfl dX11_swap_32 rfl rfl ?_
        refine ts_iload_n 2 (pc' := 34) rfl dX11_swap_33 rfl rfl ?_
        obtain ⟨c16, W⟩ := W
        refine ts_callV (M' := mX1_exchange) (C := RX1) (pc' := 37) (av := [.int p0, .int p1]) (b := (g.2.2.2 o 6)) rfl dX11_swap_34 rfl gX11_swap_X1_exchange rfl dvX1_exchange rfl (ci := 1) cfX1.1 (by decide) c16 (Nat.le_refl _) (Nat.le_of_ble_eq_true rfl) (Nat.le_of_ble_eq_true rfl) (Nat.le_refl _) (Nat.le_refl _) ts_kv0 W (ts_kkv fun hi14 hk15 W => ?_)
        refine ts_aload_n 0 (pc' := 38) rfl dX11_swap_37 rfl rfl ?_
        refine ts_getR (pc' := 41) (ci := 10) 6 cfX11.1 cfX11.2.1 cfX11.2.2 rfl (by decide) hnX11_swap_X11 flX11_swap_65 rfl dX11_swap_38 c4 c13 ?_
        obtain ⟨c17, W⟩ := W
        refine ts_getR (pc' := 44) (ci := 1) 5 cfX1.1 cfX1.2.1 cfX1.2.2 rfl (by decide) hnX11_swap_X1 flX11_swap_189 rfl dX11_swap_41 c16 c17 ?_
        refine ts_iload_n 1 (pc' := 45) rfl dX11_swap_44 rfl rfl ?_
        obtain ⟨c18, W⟩ := W
        obtain ⟨c19, W⟩ := W
        refine ts_iaload (pc' := 46) rfl dX11_swap_45 c18 c19 ?_
        exact ts_iret dX11_swap_46 rfl (Nat.le_refl _) (Nat.le_refl _) ⟨rfl, _, rfl, W⟩
      · replace W := W.2 q10
        refine ts_ldc (v := (-1000001)) (pc' := 23) rfl dX11_swap_21 (by decide +kernel) ?_
        exact ts_iret dX11_swap_23 rfl (Nat.le_refl _) (Nat.le_refl _) ⟨rfl, _, rfl, W⟩
theorem hnX11_lean_X1 : ∀ w ∈ u_ws RX1 TX1 13, w ∈ wsX11_lean := by decide +kernel
theorem hnX11_lean_X11 : ∀ w ∈ u_ws RX11 TX11 13, w ∈ wsX11_lean := by decide +kernel
theorem flX11_lean_65 : Cond.fieldLink RX11 65 "TurnipSquires" "now" "LTurnipSquires$Field;" ∈ wsX11_lean := by decide +kernel
theorem flX11_lean_192 : Cond.fieldLink RX11 192 "TurnipSquires$Field" "lean" "[I" ∈ wsX11_lean := by decide +kernel
set_option maxHeartbeats 4000000 in
theorem wX11_lean_0 {d : Nat} {g : ts_G} {Q : Int32 → ts_I → ts_K → Prop} {o : Nat} {p0 : Int32} {hi : ts_I} {hk : ts_K} (W : (g.2.1 o = 10) ∧ ts_E0 d mX11_isTurnip [.ref o, .int p0] g hi hk (ts_qi (fun v3 hi1 hk2 => ((v3 ≠ 0) → ts_E0 d mX11_keepAct [.ref o] g hi1 hk2 (ts_qv (fun hi6 hk7 => (g.2.2.2 o 6 ≠ 0) ∧ (g.2.1 (g.2.2.2 o 6) = 1) ∧ (g.2.2.2 (g.2.2.2 o 6) 3 ≠ 0) ∧ (g.2.1 (g.2.2.2 (g.2.2.2 o 6) 3) = 100) ∧ (vp_in p0 (g.2.2.1 (g.2.2.2 (g.2.2.2 o 6) 3))) ∧ ∀ hi13 : ts_I, hi13 = ts_up hi6 (g.2.2.2 (g.2.2.2 o 6) 3) p0.toNatClampNeg (1 - (hi6 (g.2.2.2 (g.2.2.2 o 6) 3) p0.toNatClampNeg)) → Q (hi13 (g.2.2.2 (g.2.2.2 o 6) 3) p0.toNatClampNeg) hi13 hk7))) ∧ (¬ (v3 ≠ 0) → Q (-1000001) hi1 hk2)))) : ts_J0 (d + 1) mX11_lean (ts_qi Q) g 0 [(0, .ref o), (1, .int p0)] [] hi hk := by
  refine ts_aload_n 0 (pc' := 1) rfl dX11_lean_0 rfl rfl ?_
  refine ts_iload_n 1 (pc' := 2) rfl dX11_lean_1 rfl rfl ?_
  obtain ⟨c4, W⟩ := W
  refine ts_callV (M' := mX11_isTurnip) (C := RX11) (pc' := 5) (av := [.int p0]) (b := o) rfl dX11_lean_2 rfl gX11_lean_X11_isTurnip rfl dvX11_isTurnip rfl (ci := 10) cfX11.1 (by decide) c4 (Nat.le_refl _) (Nat.le_of_ble_eq_true rfl) (Nat.le_of_ble_eq_true rfl) (Nat.le_refl _) (Nat.le_refl _) ts_kv0 W (ts_kki fun v3 hi1 hk2 W => ?_)
  refine ts_if_ne (pc' := 8) (tgt := 11) rfl dX11_lean_5 (by decide) (fun q5 => ?_) (fun q5 => ?_)
  · replace W := W.1 q5
    refine ts_aload_n 0 (pc' := 12) rfl dX11_lean_11 rfl rfl ?_
    refine ts_callV (M' := mX11_keepAct) (C := RX11) (pc' := 15) (av := []) (b := o) rfl dX11_lean_12 rfl gX11_lean_X11_keepAct rfl dvX11_keepAct rfl (ci := 10) cfX11.1 (by decide) c4 (Nat.le_refl _) (Nat.le_of_ble_eq_true rfl) (Nat.le_of_ble_eq_true rfl) (Nat.le_refl _) (Nat.le_refl _) ts_kv0 W (ts_kkv fun hi6 hk7 W => ?_)
    refine ts_aload_n 0 (pc' := 16) rfl dX11_lean_15 rfl rfl ?_
    obtain ⟨c8, W⟩ := W
    refine ts_getR (pc' := 19) (ci := 10) 6 cfX11.1 cfX11.2.1 cfX11.2.2 rfl (by decide) hnX11_lean_X11 flX11_lean_65 rfl dX11_lean_16 c4 c8 ?_
    obtain ⟨c9, W⟩ := W
    obtain ⟨c10, W⟩ := W
    refine ts_getR (pc' := 22) (ci := 1) 3 cfX1.1 cfX1.2.1 cfX1.2.2 rfl (by decide) hnX11_lean_X1 flX11_lean_192 rfl dX11_lean_19 c9 c10 ?_
    refine ts_iload_n 1 (pc' := 23) rfl dX11_lean_22 rfl rfl ?_
    refine ts_iconst (v := 1) (pc' := 24) rfl dX11_lean_23 (by decide) ?_
    refine ts_aload_n 0 (pc' := 25) rfl dX11_lean_24 rfl rfl ?_
    refine ts_getR (pc' := 28) (ci := 10) 6 cfX11.1 cfX11.2.1 cfX11.2.2 rfl (by decide) hnX11_lean_X11 flX11_lean_65 rfl dX11_lean_25 c4 c8 ?_
    refine ts_getR (pc' := 31) (ci := 1) 3 cfX1.1 cfX1.2.1 cfX1.2.2 rfl (by decide) hnX11_lean_X1 flX11_lean_192 rfl dX11_lean_28 c9 c10 ?_
    refine ts_iload_n 1 (pc' := 32) rfl dX11_lean_31 rfl rfl ?_
    obtain ⟨c11, W⟩ := W
    obtain ⟨c12, W⟩ := W
    refine ts_iaload (pc' := 33) rfl dX11_lean_32 c11 c12 ?_
    refine ts_isub (pc' := 34) rfl dX11_lean_33 ?_
    refine ts_iastore (pc' := 35) rfl dX11_lean_34 c11 c12 ?_
    obtain ⟨hi13, ehi13⟩ : ∃ z, z = ts_up hi6 (g.2.2.2 (g.2.2.2 o 6) 3) p0.toNatClampNeg (1 - (hi6 (g.2.2.2 (g.2.2.2 o 6) 3) p0.toNatClampNeg)) := ⟨_, rfl⟩
    rw [← ehi13]; replace W := W hi13 ehi13
    refine ts_aload_n 0 (pc' := 36) rfl dX11_lean_35 rfl rfl ?_
    refine ts_getR (pc' := 39) (ci := 10) 6 cfX11.1 cfX11.2.1 cfX11.2.2 rfl (by decide) hnX11_lean_X11 flX11_lean_65 rfl dX11_lean_36 c4 c8 ?_
    refine ts_getR (pc' := 42) (ci := 1) 3 cfX1.1 cfX1.2.1 cfX1.2.2 rfl (by decide) hnX11_lean_X1 flX11_lean_192 rfl dX11_lean_39 c9 c10 ?_
    refine ts_iload_n 1 (pc' := 43) rfl dX11_lean_42 rfl rfl ?_
    refine ts_iaload (pc' := 44) rfl dX11_lean_43 c11 c12 ?_
    exact ts_iret dX11_lean_44 rfl (Nat.le_refl _) (Nat.le_refl _) ⟨rfl, _, rfl, W⟩
  · replace W := W.2 q5
    refine ts_ldc (v := (-1000001)) (pc' := 10) rfl dX11_lean_8 (by decide +kernel) ?_
    exact ts_iret dX11_lean_10 rfl (Nat.le_refl _) (Nat.le_refl _) ⟨rfl, _, rfl, W⟩
theorem hnX11_ground_X1 : ∀ w ∈ u_ws RX1 TX1 13, w ∈ wsX11_ground := by decide +kernel
theorem hnX11_ground_X11 : ∀ w ∈ u_ws RX11 TX11 13, w ∈ wsX11_ground := by decide +kernel
theorem flX11_ground_65 : Cond.fieldLink RX11 65 "TurnipSquires" "now" "LTurnipSquires$Field;" ∈ wsX11_ground := by decide +kernel
theorem flX11_ground_155 : Cond.fieldLink RX11 155 "TurnipSquires$Field" "count" "I" ∈ wsX11_ground := by decide +kernel
theorem flX11_ground_195 : Cond.fieldLink RX11 195 "TurnipSquires$Field" "ground" "I" ∈ wsX11_ground := by decide +kernel
set_option maxHeartbeats 4000000 in
theorem wX11_ground_0 {d : Nat} {g : ts_G} {Q : Int32 → ts_I → ts_K → Prop} {o : Nat} {p0 : Int32} {hi : ts_I} {hk : ts_K} (W : (g.2.1 o = 10) ∧ (g.2.2.2 o 6 ≠ 0) ∧ (g.2.1 (g.2.2.2 o 6) = 1) ∧ (((hi (g.2.2.2 o 6) 9) ≠ 0) → ts_E0 d mX11_outside [.int p0, .int 1, .int 9] g hi hk (ts_qi (fun v7 hi5 hk6 => ((v7 = 0) → ts_E0 d mX11_keepAct [.ref o] g hi5 hk6 (ts_qv (fun hi9 hk10 => ∀ hi11 : ts_I, hi11 = ts_up hi9 (g.2.2.2 o 6) 11 p0 → Q (hi9 (g.2.2.2 o 6) 11) hi11 hk10))) ∧ (¬ (v7 = 0) → Q (-1000001) hi5 hk6)))) ∧ (¬ ((hi (g.2.2.2 o 6) 9) ≠ 0) → Q (-1000002) hi hk)) : ts_J0 (d + 1) mX11_ground (ts_qi Q) g 0 [(0, .ref o), (1, .int p0)] [] hi hk := by
  refine ts_aload_n 0 (pc' := 1) rfl dX11_ground_0 rfl rfl ?_
  obtain ⟨c1, W⟩ := W
  obtain ⟨c2, W⟩ := W
  refine ts_getR (pc' := 4) (ci := 10) 6 cfX11.1 cfX11.2.1 cfX11.2.2 rfl (by decide) hnX11_ground_X11 flX11_ground_65 rfl dX11_ground_1 c1 c2 ?_
  obtain ⟨c3, W⟩ := W
  refine ts_getI (pc' := 7) (ci := 1) 9 cfX1.1 cfX1.2.1 cfX1.2.2 rfl (by decide) hnX11_ground_X1 flX11_ground_155 rfl dX11_ground_4 c3 ?_
  refine ts_if_ne (pc' := 10) (tgt := 13) rfl dX11_ground_7 (by decide) (fun q4 => ?_) (fun q4 => ?_)
  · replace W := W.1 q4
    refine ts_iload_n 1 (pc' := 14) rfl dX11_ground_13 rfl rfl ?_
    refine ts_iconst (v := 1) (pc' := 15) rfl dX11_ground_14 (by decide) ?_
    refine ts_bipush (v := 9) (pc' := 17) rfl dX11_ground_15 (by decide) ?_
    refine ts_callS (M' := mX11_outside) (pc' := 20) (av := [.int p0, .int 1, .int 9]) rfl dX11_ground_17 rfl gX11_ground_X11_outside rfl dsX11_outside rfl (Nat.le_refl _) (Nat.le_of_ble_eq_true rfl) (Nat.le_of_ble_eq_true rfl) (Nat.le_refl _) (Nat.le_refl _) ts_kv0 W (ts_kki fun v7 hi5 hk6 W => ?_)
    refine ts_if_eq (pc' := 23) (tgt := 26) rfl dX11_ground_20 (by decide) (fun q8 => ?_) (fun q8 => ?_)
    · replace W := W.1 q8
      refine ts_aload_n 0 (pc' := 27) rfl dX11_ground_26 rfl rfl ?_
      refine ts_callV (M' := mX11_keepAct) (C := RX11) (pc' := 30) (av := []) (b := o) rfl dX11_ground_27 rfl gX11_ground_X11_keepAct rfl dvX11_keepAct rfl (ci := 10) cfX11.1 (by decide) c1 (Nat.le_refl _) (Nat.le_of_ble_eq_true rfl) (Nat.le_of_ble_eq_true rfl) (Nat.le_refl _) (Nat.le_refl _) ts_kv0 W (ts_kkv fun hi9 hk10 W => ?_)
      refine ts_aload_n 0 (pc' := 31) rfl dX11_ground_30 rfl rfl ?_
      refine ts_getR (pc' := 34) (ci := 10) 6 cfX11.1 cfX11.2.1 cfX11.2.2 rfl (by decide) hnX11_ground_X11 flX11_ground_65 rfl dX11_ground_31 c1 c2 ?_
      refine ts_getI (pc' := 37) (ci := 1) 11 cfX1.1 cfX1.2.1 cfX1.2.2 rfl (by decide) hnX11_ground_X1 flX11_ground_195 rfl dX11_ground_34 c3 ?_
      refine ts_istore_n (pc' := 38) (ls' := [(2, .int (hi9 (g.2.2.2 o 6) 11)), (0, .ref o), (1, .int p0)]) rfl dX11_ground_37 rfl (Nat.le_of_ble_eq_true rfl) rfl ?_
      refine ts_aload_n 1 (pc' := 39) rfl dX11_ground_38 rfl rfl ?_
      refine ts_getR (pc' := 42) (ci := 10) 6 cfX11.1 cfX11.2.1 cfX11.2.2 rfl (by decide) hnX11_ground_X11 flX11_ground_65 rfl dX11_ground_39 c1 c2 ?_
      refine ts_iload_n 2 (pc' := 43) rfl dX11_ground_42 rfl rfl ?_
      refine ts_putI (pc' := 46) (ci := 1) 11 cfX1.1 cfX1.2.1 cfX1.2.2 rfl (by decide) hnX11_ground_X1 flX11_ground_195 tyX1_ok nmX1 rfl rfl rfl dX11_ground_43 c3 ?_
      obtain ⟨hi11, ehi11⟩ : ∃ z, z = ts_up hi9 (g.2.2.2 o 6) 11 p0 := ⟨_, rfl⟩
      rw [← ehi11]; replace W := W hi11 ehi11
      refine ts_iload_n 0 (pc' := 47) rfl dX11_ground_46 rfl rfl ?_
      exact ts_iret dX11_ground_47 rfl (Nat.le_refl _) (Nat.le_refl _) ⟨rfl, _, rfl, W⟩
    · replace W := W.2 q8
      refine ts_ldc (v := (-1000001)) (pc' := 25) rfl dX11_ground_23 (by decide +kernel) ?_
      exact ts_iret dX11_ground_25 rfl (Nat.le_refl _) (Nat.le_refl _) ⟨rfl, _, rfl, W⟩
  · replace W := W.2 q4
    refine ts_ldc (v := (-1000002)) (pc' := 12) rfl dX11_ground_10 (by decide +kernel) ?_
    exact ts_iret dX11_ground_12 rfl (Nat.le_refl _) (Nat.le_refl _) ⟨rfl, _, rfl, W⟩
theorem hnX11_undo_X11 : ∀ w ∈ u_ws RX11 TX11 13, w ∈ wsX11_undo := by decide +kernel
theorem flX11_undo_37 : Cond.fieldLink RX11 37 "TurnipSquires" "acts" "[LTurnipSquires$Field;" ∈ wsX11_undo := by decide +kernel
theorem flX11_undo_65 : Cond.fieldLink RX11 65 "TurnipSquires" "now" "LTurnipSquires$Field;" ∈ wsX11_undo := by decide +kernel
theorem flX11_undo_152 : Cond.fieldLink RX11 152 "TurnipSquires" "actsKept" "I" ∈ wsX11_undo := by decide +kernel
theorem flX11_undo_198 : Cond.fieldLink RX11 198 "TurnipSquires" "nextAct" "I" ∈ wsX11_undo := by decide +kernel
set_option maxHeartbeats 4000000 in
theorem wX11_undo_0 {d : Nat} {g : ts_G} {Q : Int32 → ts_I → ts_K → Prop} {o : Nat} {hi : ts_I} {hk : ts_K} (W : (g.2.1 o = 10) ∧ (((hi o 12) ≠ 0) → ∀ hi3 : ts_I, hi3 = ts_up hi o 12 ((hi o 12) - 1) → ∀ hi4 : ts_I, hi4 = ts_up hi3 o 11 ((((hi3 o 11) + 24) - 1) - (((hi3 o 11) + 24) - 1) / 24 * 24) → (g.2.2.2 o 6 ≠ 0) ∧ (g.2.2.2 o 4 ≠ 0) ∧ (g.2.1 (g.2.2.2 o 4) = 104) ∧ (vp_in (hi4 o 11) (g.2.2.1 (g.2.2.2 o 4))) ∧ (g.2.2.2 (g.2.2.2 o 4) (hi4 o 11).toNatClampNeg ≠ 0) ∧ (g.2.1 (g.2.2.2 o 6) = 1) ∧ ts_E0 d mX1_become [.ref (g.2.2.2 o 6), .ref (g.2.2.2 (g.2.2.2 o 4) (hi4 o 11).toNatClampNeg)] g hi4 hk (ts_qv (fun hi10 hk11 => Q (hi10 o 12) hi10 hk11))) ∧ (¬ ((hi o 12) ≠ 0) → Q (-1000002) hi hk)) : ts_J0 (d + 1) mX11_undo (ts_qi Q) g 0 [(0, .ref o)] [] hi hk := by
  refine ts_aload_n 0 (pc' := 1) rfl dX11_undo_0 rfl rfl ?_
  obtain ⟨c1, W⟩ := W
  refine ts_getI (pc' := 4) (ci := 10) 12 cfX11.1 cfX11.2.1 cfX11.2.2 rfl (by decide) hnX11_undo_X11 flX11_undo_152 rfl dX11_undo_1 c1 ?_
  refine ts_if_ne (pc' := 7) (tgt := 10) rfl dX11_undo_4 (by decide) (fun q2 => ?_) (fun q2 => ?_)
  · replace W := W.1 q2
    refine ts_aload_n 0 (pc' := 11) rfl dX11_undo_10 rfl rfl ?_
    refine ts_dup (pc' := 12) rfl dX11_undo_11 rfl ?_
    refine ts_getI (pc' := 15) (ci := 10) 12 cfX11.1 cfX11.2.1 cfX11.2.2 rfl (by decide) hnX11_undo_X11 flX11_undo_152 rfl dX11_undo_12 c1 ?_
    refine ts_iconst (v := 1) (pc' := 16) rfl dX11_undo_15 (by decide) ?_
    refine ts_isub (pc' := 17) rfl dX11_undo_16 ?_
    refine ts_putI (pc' := 20) (ci := 10) 12 cfX11.1 cfX11.2.1 cfX11.2.2 rfl (by decide) hnX11_undo_X11 flX11_undo_152 tyX11_ok nmX11 rfl rfl rfl dX11_undo_17 c1 ?_
    obtain ⟨hi3, ehi3⟩ : ∃ z, z = ts_up hi o 12 ((hi o 12) - 1) := ⟨_, rfl⟩
    rw [← ehi3]; replace W := W hi3 ehi3
    refine ts_aload_n 0 (pc' := 21) rfl dX11_undo_20 rfl rfl ?_
    refine ts_aload_n 0 (pc' := 22) rfl dX11_undo_21 rfl rfl ?_
    refine ts_getI (pc' := 25) (ci := 10) 11 cfX11.1 cfX11.2.1 cfX11.2.2 rfl (by decide) hnX11_undo_X11 flX11_undo_198 rfl dX11_undo_22 c1 ?_
    refine ts_bipush (v := 24) (pc' := 27) rfl dX11_undo_25 (by decide) ?_
    refine ts_iadd (pc' := 28) rfl dX11_undo_27 ?_
    refine ts_iconst (v := 1) (pc' := 29) rfl dX11_undo_28 (by decide) ?_
    refine ts_isub (pc' := 30) rfl dX11_undo_29 ?_
    refine ts_bipush (v := 24) (pc' := 32) rfl dX11_undo_30 (by decide) ?_
    refine ts_irem (pc' := 33) rfl dX11_undo_32 (by decide) ?_
    refine ts_putI (pc' := 36) (ci := 10) 11 cfX11.1 cfX11.2.1 cfX11.2.2 rfl (by decide) hnX11_undo_X11 flX11_undo_198 tyX11_ok nmX11 rfl rfl rfl dX11_undo_33 c1 ?_
    obtain ⟨hi4, ehi4⟩ : ∃ z, z = ts_up hi3 o 11 ((((hi3 o 11) + 24) - 1) - (((hi3 o 11) + 24) - 1) / 24 * 24) := ⟨_, rfl⟩
    rw [← ehi4]; replace W := W hi4 ehi4
    refine ts_aload_n 0 (pc' := 37) rfl dX11_undo_36 rfl rfl ?_
    obtain ⟨c5, W⟩ := W
    refine ts_getR (pc' := 40) (ci := 10) 6 cfX11.1 cfX11.2.1 cfX11.2.2 rfl (by decide) hnX11_undo_X11 flX11_undo_65 rfl dX11_undo_37 c1 c5 ?_
    refine ts_aload_n 0 (pc' := 41) rfl dX11_undo_40 rfl rfl ?_
    obtain ⟨c6, W⟩ := W
    refine ts_getR (pc' := 44) (ci := 10) 4 cfX11.1 cfX11.2.1 cfX11.2.2 rfl (by decide) hnX11_undo_X11 flX11_undo_37 rfl dX11_undo_41 c1 c6 ?_
    refine ts_aload_n 0 (pc' := 45) rfl dX11_undo_44 rfl rfl ?_
    refine ts_getI (pc' := 48) (ci := 10) 11 cfX11.1 cfX11.2.1 cfX11.2.2 rfl (by decide) hnX11_undo_X11 flX11_undo_198 rfl dX11_undo_45 c1 ?_
    obtain ⟨c7, W⟩ := W
    obtain ⟨c8, W⟩ := W
    obtain ⟨c9, W⟩ := W
    refine ts_aaloadF (pc' := 49) rfl dX11_undo_48 c7 c8 c9 ?_
    obtain ⟨c12, W⟩ := W
    refine ts_callV (M' := mX1_become) (C := RX1) (pc' := 52) (av := [.ref (g.2.2.2 (g.2.2.2 o 4) (hi4 o 11).toNatClampNeg)]) (b := (g.2.2.2 o 6)) rfl dX11_undo_49 rfl gX11_undo_X1_become rfl dvX1_become rfl (ci := 1) cfX1.1 (by decide) c12 (Nat.le_refl _) (Nat.le_of_ble_eq_true rfl) (Nat.le_of_ble_eq_true rfl) (Nat.le_refl _) (Nat.le_refl _) ts_kv0 W (ts_kkv fun hi10 hk11 W => ?_)
    refine ts_aload_n 0 (pc' := 53) rfl dX11_undo_52 rfl rfl ?_
    refine ts_getI (pc' := 56) (ci := 10) 12 cfX11.1 cfX11.2.1 cfX11.2.2 rfl (by decide) hnX11_undo_X11 flX11_undo_152 rfl dX11_undo_53 c1 ?_
    exact ts_iret dX11_undo_56 rfl (Nat.le_refl _) (Nat.le_refl _) ⟨rfl, _, rfl, W⟩
  · replace W := W.2 q2
    refine ts_ldc (v := (-1000002)) (pc' := 9) rfl dX11_undo_7 (by decide +kernel) ?_
    exact ts_iret dX11_undo_9 rfl (Nat.le_refl _) (Nat.le_refl _) ⟨rfl, _, rfl, W⟩
theorem hnX11_turnip_X1 : ∀ w ∈ u_ws RX1 TX1 13, w ∈ wsX11_turnip := by decide +kernel
theorem hnX11_turnip_X11 : ∀ w ∈ u_ws RX11 TX11 13, w ∈ wsX11_turnip := by decide +kernel
theorem flX11_turnip_65 : Cond.fieldLink RX11 65 "TurnipSquires" "now" "LTurnipSquires$Field;" ∈ wsX11_turnip := by decide +kernel
theorem flX11_turnip_180 : Cond.fieldLink RX11 180 "TurnipSquires$Field" "mate" "[I" ∈ wsX11_turnip := by decide +kernel
theorem flX11_turnip_189 : Cond.fieldLink RX11 189 "TurnipSquires$Field" "place" "[I" ∈ wsX11_turnip := by decide +kernel
theorem flX11_turnip_192 : Cond.fieldLink RX11 192 "TurnipSquires$Field" "lean" "[I" ∈ wsX11_turnip := by decide +kernel
theorem flX11_turnip_201 : Cond.fieldLink RX11 201 "TurnipSquires$Field" "rank" "[I" ∈ wsX11_turnip := by decide +kernel
theorem flX11_turnip_204 : Cond.fieldLink RX11 204 "TurnipSquires$Field" "grown" "[I" ∈ wsX11_turnip := by decide +kernel
theorem flX11_turnip_213 : Cond.fieldLink RX11 213 "TurnipSquires$Field" "gain" "[I" ∈ wsX11_turnip := by decide +kernel
set_option maxHeartbeats 4000000 in
theorem wX11_turnip_0 {d : Nat} {g : ts_G} {Q : Int32 → ts_I → ts_K → Prop} {o : Nat} {p0 : Int32} {p1 : Int32} {hi : ts_I} {hk : ts_K} (W : (g.2.1 o = 10) ∧ ts_E0 d mX11_isTurnip [.ref o, .int p0] g hi hk (ts_qi (fun v3 hi1 hk2 => ((v3 ≠ 0) → (p1 = 0 → (g.2.2.2 o 6 ≠ 0) ∧ (g.2.1 (g.2.2.2 o 6) = 1) ∧ (g.2.2.2 (g.2.2.2 o 6) 1 ≠ 0) ∧ (g.2.1 (g.2.2.2 (g.2.2.2 o 6) 1) = 100) ∧ (vp_in p0 (g.2.2.1 (g.2.2.2 (g.2.2.2 o 6) 1))) ∧ Q (hi1 (g.2.2.2 (g.2.2.2 o 6) 1) p0.toNatClampNeg) hi1 hk2) ∧ (p1 = 1 → (g.2.2.2 o 6 ≠ 0) ∧ (g.2.1 (g.2.2.2 o 6) = 1) ∧ (g.2.2.2 (g.2.2.2 o 6) 2 ≠ 0) ∧ (g.2.1 (g.2.2.2 (g.2.2.2 o 6) 2) = 100) ∧ (vp_in p0 (g.2.2.1 (g.2.2.2 (g.2.2.2 o 6) 2))) ∧ Q (hi1 (g.2.2.2 (g.2.2.2 o 6) 2) p0.toNatClampNeg) hi1 hk2) ∧ (p1 = 2 → (g.2.2.2 o 6 ≠ 0) ∧ (g.2.1 (g.2.2.2 o 6) = 1) ∧ (g.2.2.2 (g.2.2.2 o 6) 5 ≠ 0) ∧ (g.2.1 (g.2.2.2 (g.2.2.2 o 6) 5) = 100) ∧ (vp_in p0 (g.2.2.1 (g.2.2.2 (g.2.2.2 o 6) 5))) ∧ Q (hi1 (g.2.2.2 (g.2.2.2 o 6) 5) p0.toNatClampNeg) hi1 hk2) ∧ (p1 = 3 → (g.2.2.2 o 6 ≠ 0) ∧ (g.2.1 (g.2.2.2 o 6) = 1) ∧ (g.2.2.2 (g.2.2.2 o 6) 3 ≠ 0) ∧ (g.2.1 (g.2.2.2 (g.2.2.2 o 6) 3) = 100) ∧ (vp_in p0 (g.2.2.1 (g.2.2.2 (g.2.2.2 o 6) 3))) ∧ Q (hi1 (g.2.2.2 (g.2.2.2 o 6) 3) p0.toNatClampNeg) hi1 hk2) ∧ (p1 = 4 → (g.2.2.2 o 6 ≠ 0) ∧ (g.2.1 (g.2.2.2 o 6) = 1) ∧ (g.2.2.2 (g.2.2.2 o 6) 4 ≠ 0) ∧ (g.2.1 (g.2.2.2 (g.2.2.2 o 6) 4) = 100) ∧ (vp_in p0 (g.2.2.1 (g.2.2.2 (g.2.2.2 o 6) 4))) ∧ ts_E0 d mX11_mateToTell [.int (hi1 (g.2.2.2 (g.2.2.2 o 6) 4) p0.toNatClampNeg)] g hi1 hk2 (ts_qi (fun v38 hi36 hk37 => Q v38 hi36 hk37))) ∧ (p1 = 5 → (g.2.2.2 o 6 ≠ 0) ∧ (g.2.1 (g.2.2.2 o 6) = 1) ∧ ts_E0 d mX1_hasFrost [.ref (g.2.2.2 o 6)] g hi1 hk2 (ts_qi (fun v43 hi41 hk42 => ts_E0 d mX1_findGains [.ref (g.2.2.2 o 6), .int v43] g hi41 hk42 (ts_qv (fun hi45 hk46 => (g.2.2.2 (g.2.2.2 o 6) 7 ≠ 0) ∧ (g.2.1 (g.2.2.2 (g.2.2.2 o 6) 7) = 100) ∧ (vp_in p0 (g.2.2.1 (g.2.2.2 (g.2.2.2 o 6) 7))) ∧ Q (hi45 (g.2.2.2 (g.2.2.2 o 6) 7) p0.toNatClampNeg) hi45 hk46))))) ∧ (¬ p1 = 0 → ¬ p1 = 1 → ¬ p1 = 2 → ¬ p1 = 3 → ¬ p1 = 4 → ¬ p1 = 5 → Q (-1000001) hi1 hk2)) ∧ (¬ (v3 ≠ 0) → Q (-1000001) hi1 hk2)))) : ts_J0 (d + 1) mX11_turnip (ts_qi Q) g 0 [(0, .ref o), (1, .int p0), (2, .int p1)] [] hi hk := by
  refine ts_aload_n 0 (pc' := 1) rfl dX11_turnip_0 rfl rfl ?_
  refine ts_iload_n 1 (pc' := 2) rfl dX11_turnip_1 rfl rfl ?_
  obtain ⟨c4, W⟩ := W
  refine ts_callV (M' := mX11_isTurnip) (C := RX11) (pc' := 5) (av := [.int p0]) (b := o) rfl dX11_turnip_2 rfl gX11_turnip_X11_isTurnip rfl dvX11_isTurnip rfl (ci := 10) cfX11.1 (by decide) c4 (Nat.le_refl _) (Nat.le_of_ble_eq_true rfl) (Nat.le_of_ble_eq_true rfl) (Nat.le_refl _) (Nat.le_refl _) ts_kv0 W (ts_kki fun v3 hi1 hk2 W => ?_)
  refine ts_if_ne (pc' := 8) (tgt := 11) rfl dX11_turnip_5 (by decide) (fun q5 => ?_) (fun q5 => ?_)
  · replace W := W.1 q5
    refine ts_iload_n 2 (pc' := 12) rfl dX11_turnip_11 rfl rfl ?_
    by_cases q6 : p1 = 0
    · replace W := W.1 q6
      refine ts_tableI (i := 0) (off := 40) (tgt := 52) dX11_turnip_12 (by rw [q6]; rfl) (by decide) (by decide) rfl (by decide) ?_
      refine ts_aload_n 0 (pc' := 53) rfl dX11_turnip_52 rfl rfl ?_
      obtain ⟨c7, W⟩ := W
      refine ts_getR (pc' := 56) (ci := 10) 6 cfX11.1 cfX11.2.1 cfX11.2.2 rfl (by decide) hnX11_turnip_X11 flX11_turnip_65 rfl dX11_turnip_53 c4 c7 ?_
      obtain ⟨c8, W⟩ := W
      obtain ⟨c9, W⟩ := W
      refine ts_getR (pc' := 59) (ci := 1) 1 cfX1.1 cfX1.2.1 cfX1.2.2 rfl (by decide) hnX11_turnip_X1 flX11_turnip_201 rfl dX11_turnip_56 c8 c9 ?_
      refine ts_iload_n 1 (pc' := 60) rfl dX11_turnip_59 rfl rfl ?_
      obtain ⟨c10, W⟩ := W
      obtain ⟨c11, W⟩ := W
      refine ts_iaload (pc' := 61) rfl dX11_turnip_60 c10 c11 ?_
      exact ts_iret dX11_turnip_61 rfl (Nat.le_refl _) (Nat.le_refl _) ⟨rfl, _, rfl, W⟩
    replace W := W.2
    by_cases q12 : p1 = 1
    · replace W := W.1 q12
      refine ts_tableI (i := 1) (off := 50) (tgt := 62) dX11_turnip_12 (by rw [q12]; rfl) (by decide) (by decide) rfl (by decide) ?_
      refine ts_aload_n 0 (pc' := 63) rfl dX11_turnip_62 rfl rfl ?_
      obtain ⟨c13, W⟩ := W
      refine ts_getR (pc' := 66) (ci := 10) 6 cfX11.1 cfX11.2.1 cfX11.2.2 rfl (by decide) hnX11_turnip_X11 flX11_turnip_65 rfl dX11_turnip_63 c4 c13 ?_
      obtain ⟨c14, W⟩ := W
      obtain ⟨c15, W⟩ := W
      refine ts_getR (pc' := 69) (ci := 1) 2 cfX1.1 cfX1.2.1 cfX1.2.2 rfl (by decide) hnX11_turnip_X1 flX11_turnip_204 rfl dX11_turnip_66 c14 c15 ?_
      refine ts_iload_n 1 (pc' := 70) rfl dX11_turnip_69 rfl rfl ?_
      obtain ⟨c16, W⟩ := W
      obtain ⟨c17, W⟩ := W
      refine ts_iaload (pc' := 71) rfl dX11_turnip_70 c16 c17 ?_
      exact ts_iret dX11_turnip_71 rfl (Nat.le_refl _) (Nat.le_refl _) ⟨rfl, _, rfl, W⟩
    replace W := W.2
    by_cases q18 : p1 = 2
    · replace W := W.1 q18
      refine ts_tableI (i := 2) (off := 60) (tgt := 72) dX11_turnip_12 (by rw [q18]; rfl) (by decide) (by decide) rfl (by decide) ?_
      refine ts_aload_n 0 (pc' := 73) rfl dX11_turnip_72 rfl rfl ?_
      obtain ⟨c19, W⟩ := W
      refine ts_getR (pc' := 76) (ci := 10) 6 cfX11.1 cfX11.2.1 cfX11.2.2 rfl (by decide) hnX11_turnip_X11 flX11_turnip_65 rfl dX11_turnip_73 c4 c19 ?_
      obtain ⟨c20, W⟩ := W
      obtain ⟨c21, W⟩ := W
      refine ts_getR (pc' := 79) (ci := 1) 5 cfX1.1 cfX1.2.1 cfX1.2.2 rfl (by decide) hnX11_turnip_X1 flX11_turnip_189 rfl dX11_turnip_76 c20 c21 ?_
      refine ts_iload_n 1 (pc' := 80) rfl dX11_turnip_79 rfl rfl ?_
      obtain ⟨c22, W⟩ := W
      obtain ⟨c23, W⟩ := W
      refine ts_iaload (pc' := 81) rfl dX11_turnip_80 c22 c23 ?_
      exact ts_iret dX11_turnip_81 rfl (Nat.le_refl _) (Nat.le_refl _) ⟨rfl, _, rfl, W⟩
    replace W := W.2
    by_cases q24 : p1 = 3
    · replace W := W.1 q24
      refine ts_tableI (i := 3) (off := 70) (tgt := 82) dX11_turnip_12 (by rw [q24]; rfl) (by decide) (by decide) rfl (by decide) ?_
      refine ts_aload_n 0 (pc' := 83) rfl dX11_turnip_82 rfl rfl ?_
      obtain ⟨c25, W⟩ := W
      refine ts_getR (pc' := 86) (ci := 10) 6 cfX11.1 cfX11.2.1 cfX11.2.2 rfl (by decide) hnX11_turnip_X11 flX11_turnip_65 rfl dX11_turnip_83 c4 c25 ?_
      obtain ⟨c26, W⟩ := W
      obtain ⟨c27, W⟩ := W
      refine ts_getR (pc' := 89) (ci := 1) 3 cfX1.1 cfX1.2.1 cfX1.2.2 rfl (by decide) hnX11_turnip_X1 flX11_turnip_192 rfl dX11_turnip_86 c26 c27 ?_
      refine ts_iload_n 1 (pc' := 90) rfl dX11_turnip_89 rfl rfl ?_
      obtain ⟨c28, W⟩ := W
      obtain ⟨c29, W⟩ := W
      refine ts_iaload (pc' := 91) rfl dX11_turnip_90 c28 c29 ?_
      exact ts_iret dX11_turnip_91 rfl (Nat.le_refl _) (Nat.le_refl _) ⟨rfl, _, rfl, W⟩
    replace W := W.2
    by_cases q30 : p1 = 4
    · replace W := W.1 q30
      refine ts_tableI (i := 4) (off := 80) (tgt := 92) dX11_turnip_12 (by rw [q30]; rfl) (by decide) (by decide) rfl (by decide) ?_
      refine ts_aload_n 0 (pc' := 93) rfl dX11_turnip_92 rfl rfl ?_
      obtain ⟨c31, W⟩ := W
      refine ts_getR (pc' := 96) (ci := 10) 6 cfX11.1 cfX11.2.1 cfX11.2.2 rfl (by decide) hnX11_turnip_X11 flX11_turnip_65 rfl dX11_turnip_93 c4 c31 ?_
      obtain ⟨c32, W⟩ := W
      obtain ⟨c33, W⟩ := W
      refine ts_getR (pc' := 99) (ci := 1) 4 cfX1.1 cfX1.2.1 cfX1.2.2 rfl (by decide) hnX11_turnip_X1 flX11_turnip_180 rfl dX11_turnip_96 c32 c33 ?_
      refine ts_iload_n 1 (pc' := 100) rfl dX11_turnip_99 rfl rfl ?_
      obtain ⟨c34, W⟩ := W
      obtain ⟨c35, W⟩ := W
      refine ts_iaload (pc' := 101) rfl dX11_turnip_100 c34 c35 ?_
      refine ts_callS (M' := mX11_mateToTell) (pc' := 104) (av := [.int (hi1 (g.2.2.2 (g.2.2.2 o 6) 4) p0.toNatClampNeg)]) rfl dX11_turnip_101 rfl gX11_turnip_X11_mateToTell rfl dsX11_mateToTell rfl (Nat.le_refl _) (Nat.le_of_ble_eq_true rfl) (Nat.le_of_ble_eq_true rfl) (Nat.le_refl _) (Nat.le_refl _) ts_kv0 W (ts_kki fun v38 hi36 hk37 W => ?_)
      exact ts_iret dX11_turnip_104 rfl (Nat.le_refl _) (Nat.le_refl _) ⟨rfl, _, rfl, W⟩
    replace W := W.2
    by_cases q39 : p1 = 5
    · replace W := W.1 q39
      refine ts_tableI (i := 5) (off := 93) (tgt := 105) dX11_turnip_12 (by rw [q39]; rfl) (by decide) (by decide) rfl (by decide) ?_
      refine ts_aload_n 0 (pc' := 106) rfl dX11_turnip_105 rfl rfl ?_
      obtain ⟨c40, W⟩ := W
      refine ts_getR (pc' := 109) (ci := 10) 6 cfX11.1 cfX11.2.1 cfX11.2.2 rfl (by decide) hnX11_turnip_X11 flX11_turnip_65 rfl dX11_turnip_106 c4 c40 ?_
      refine ts_aload_n 0 (pc' := 110) rfl dX11_turnip_109 rfl rfl ?_
      refine ts_getR (pc' := 113) (ci := 10) 6 cfX11.1 cfX11.2.1 cfX11.2.2 rfl (by decide) hnX11_turnip_X11 flX11_turnip_65 rfl dX11_turnip_110 c4 c40 ?_
      obtain ⟨c44, W⟩ := W
      refine ts_callV (M' := mX1_hasFrost) (C := RX1) (pc' := 116) (av := []) (b := (g.2.2.2 o 6)) rfl dX11_turnip_113 rfl gX11_turnip_X1_hasFrost rfl dvX1_hasFrost rfl (ci := 1) cfX1.1 (by decide) c44 (Nat.le_refl _) (Nat.le_of_ble_eq_true rfl) (Nat.le_of_ble_eq_true rfl) (Nat.le_refl _) (Nat.le_refl _) ts_kv0 W (ts_kki fun v43 hi41 hk42 W => ?_)
      refine ts_callV (M' := mX1_findGains) (C := RX1) (pc' := 119) (av := [.int v43]) (b := (g.2.2.2 o 6)) rfl dX11_turnip_116 rfl gX11_turnip_X1_findGains rfl dvX1_findGains rfl (ci := 1) cfX1.1 (by decide) c44 (Nat.le_refl _) (Nat.le_of_ble_eq_true rfl) (Nat.le_of_ble_eq_true rfl) (Nat.le_refl _) (Nat.le_refl _) ts_kv0 W (ts_kkv fun hi45 hk46 W => ?_)
      refine ts_aload_n 0 (pc' := 120) rfl dX11_turnip_119 rfl rfl ?_
      refine ts_getR (pc' := 123) (ci := 10) 6 cfX11.1 cfX11.2.1 cfX11.2.2 rfl (by decide) hnX11_turnip_X11 flX11_turnip_65 rfl dX11_turnip_120 c4 c40 ?_
      obtain ⟨c47, W⟩ := W
      refine ts_getR (pc' := 126) (ci := 1) 7 cfX1.1 cfX1.2.1 cfX1.2.2 rfl (by decide) hnX11_turnip_X1 flX11_turnip_213 rfl dX11_turnip_123 c44 c47 ?_
      refine ts_iload_n 1 (pc' := 127) rfl dX11_turnip_126 rfl rfl ?_
      obtain ⟨c48, W⟩ := W
      obtain ⟨c49, W⟩ := W
      refine ts_iaload (pc' := 128) rfl dX11_turnip_127 c48 c49 ?_
      exact ts_iret dX11_turnip_128 rfl (Nat.le_refl _) (Nat.le_refl _) ⟨rfl, _, rfl, W⟩
    replace W := W.2
    replace W := W q6 q12 q18 q24 q30 q39
    have hs50 : ∀ i, i < 6 → ¬ p1 = Int32.ofNat (0 + i) := by
      intro i hi0
      have h0 : i = 0 ∨ i = 1 ∨ i = 2 ∨ i = 3 ∨ i = 4 ∨ i = 5 := by omega
      rcases h0 with rfl | rfl | rfl | rfl | rfl | rfl
      · exact q6
      · exact q12
      · exact q18
      · exact q24
      · exact q30
      · exact q39
    refine ts_tableO (tgt := 129) dX11_turnip_12 (ts_swout (l := 0) (n := 6) rfl (by decide) (by decide) hs50) (by decide) ?_
    refine ts_ldc (v := (-1000001)) (pc' := 131) rfl dX11_turnip_129 (by decide +kernel) ?_
    exact ts_iret dX11_turnip_131 rfl (Nat.le_refl _) (Nat.le_refl _) ⟨rfl, _, rfl, W⟩
  · replace W := W.2 q5
    refine ts_ldc (v := (-1000001)) (pc' := 10) rfl dX11_turnip_8 (by decide +kernel) ?_
    exact ts_iret dX11_turnip_10 rfl (Nat.le_refl _) (Nat.le_refl _) ⟨rfl, _, rfl, W⟩
theorem hnX11_place_X1 : ∀ w ∈ u_ws RX1 TX1 13, w ∈ wsX11_place := by decide +kernel
theorem hnX11_place_X11 : ∀ w ∈ u_ws RX11 TX11 13, w ∈ wsX11_place := by decide +kernel
theorem flX11_place_65 : Cond.fieldLink RX11 65 "TurnipSquires" "now" "LTurnipSquires$Field;" ∈ wsX11_place := by decide +kernel
theorem flX11_place_216 : Cond.fieldLink RX11 216 "TurnipSquires$Field" "at" "[I" ∈ wsX11_place := by decide +kernel
set_option maxHeartbeats 4000000 in
theorem wX11_place_0 {d : Nat} {g : ts_G} {Q : Int32 → ts_I → ts_K → Prop} {o : Nat} {p0 : Int32} {hi : ts_I} {hk : ts_K} (W : (g.2.1 o = 10) ∧ ts_E0 d mX11_isTurnip [.ref o, .int p0] g hi hk (ts_qi (fun v3 hi1 hk2 => ((v3 = 0) → Q (-1000001) hi1 hk2) ∧ (¬ (v3 = 0) → (g.2.2.2 o 6 ≠ 0) ∧ (g.2.1 (g.2.2.2 o 6) = 1) ∧ (g.2.2.2 (g.2.2.2 o 6) 6 ≠ 0) ∧ (g.2.1 (g.2.2.2 (g.2.2.2 o 6) 6) = 100) ∧ (vp_in p0 (g.2.2.1 (g.2.2.2 (g.2.2.2 o 6) 6))) ∧ Q (hi1 (g.2.2.2 (g.2.2.2 o 6) 6) p0.toNatClampNeg) hi1 hk2)))) : ts_J0 (d + 1) mX11_place (ts_qi Q) g 0 [(0, .ref o), (1, .int p0)] [] hi hk := by
  refine ts_aload_n 0 (pc' := 1) rfl dX11_place_0 rfl rfl ?_
  refine ts_iload_n 1 (pc' := 2) rfl dX11_place_1 rfl rfl ?_
  obtain ⟨c4, W⟩ := W
  refine ts_callV (M' := mX11_isTurnip) (C := RX11) (pc' := 5) (av := [.int p0]) (b := o) rfl dX11_place_2 rfl gX11_place_X11_isTurnip rfl dvX11_isTurnip rfl (ci := 10) cfX11.1 (by decide) c4 (Nat.le_refl _) (Nat.le_of_ble_eq_true rfl) (Nat.le_of_ble_eq_true rfl) (Nat.le_refl _) (Nat.le_refl _) ts_kv0 W (ts_kki fun v3 hi1 hk2 W => ?_)
  refine ts_if_eq (pc' := 8) (tgt := 20) rfl dX11_place_5 (by decide) (fun q5 => ?_) (fun q5 => ?_)
  · replace W := W.1 q5
    refine ts_ldc (v := (-1000001)) (pc' := 22) rfl dX11_place_20 (by decide +kernel) ?_
    exact ts_iret dX11_place_22 rfl (Nat.le_refl _) (Nat.le_refl _) ⟨rfl, _, rfl, W⟩
  · replace W := W.2 q5
    refine ts_aload_n 0 (pc' := 9) rfl dX11_place_8 rfl rfl ?_
    obtain ⟨c6, W⟩ := W
    refine ts_getR (pc' := 12) (ci := 10) 6 cfX11.1 cfX11.2.1 cfX11.2.2 rfl (by decide) hnX11_place_X11 flX11_place_65 rfl dX11_place_9 c4 c6 ?_
    obtain ⟨c7, W⟩ := W
    obtain ⟨c8, W⟩ := W
    refine ts_getR (pc' := 15) (ci := 1) 6 cfX1.1 cfX1.2.1 cfX1.2.2 rfl (by decide) hnX11_place_X1 flX11_place_216 rfl dX11_place_12 c7 c8 ?_
    refine ts_iload_n 1 (pc' := 16) rfl dX11_place_15 rfl rfl ?_
    obtain ⟨c9, W⟩ := W
    obtain ⟨c10, W⟩ := W
    refine ts_iaload (pc' := 17) rfl dX11_place_16 c9 c10 ?_
    refine ts_goto (tgt := 22) dX11_place_17 (by decide) ?_
    exact ts_iret dX11_place_22 rfl (Nat.le_refl _) (Nat.le_refl _) ⟨rfl, _, rfl, W⟩
theorem hnX11_ahead_X1 : ∀ w ∈ u_ws RX1 TX1 13, w ∈ wsX11_ahead := by decide +kernel
theorem hnX11_ahead_X11 : ∀ w ∈ u_ws RX11 TX11 13, w ∈ wsX11_ahead := by decide +kernel
theorem flX11_ahead_77 : Cond.fieldLink RX11 77 "TurnipSquires" "seer" "LTurnipSquires$Seer;" ∈ wsX11_ahead := by decide +kernel
theorem flX11_ahead_201 : Cond.fieldLink RX11 201 "TurnipSquires$Field" "rank" "[I" ∈ wsX11_ahead := by decide +kernel
theorem flX11_ahead_204 : Cond.fieldLink RX11 204 "TurnipSquires$Field" "grown" "[I" ∈ wsX11_ahead := by decide +kernel
set_option maxHeartbeats 4000000 in
theorem wX11_ahead_0 {d : Nat} {g : ts_G} {Q : Int32 → ts_I → ts_K → Prop} {o : Nat} {p0 : Int32} {p1 : Int32} {p2 : Int32} {hi : ts_I} {hk : ts_K} (W : (g.2.1 o = 10) ∧ ts_E0 d mX11_isTurnip [.ref o, .int p0] g hi hk (ts_qi (fun v3 hi1 hk2 => ((v3 = 0) → Q (-1000001) hi1 hk2) ∧ (¬ (v3 = 0) → ts_E0 d mX11_outside [.int p1, .int 0, .int 60] g hi1 hk2 (ts_qi (fun v8 hi6 hk7 => ((v8 ≠ 0) → Q (-1000001) hi6 hk7) ∧ (¬ (v8 ≠ 0) → ts_E0 d mX11_outside [.int p2, .int 0, .int 1] g hi6 hk7 (ts_qi (fun v12 hi10 hk11 => ((v12 = 0) → (g.2.2.2 o 8 ≠ 0) ∧ (g.2.1 (g.2.2.2 o 8) = 6) ∧ ts_E0 d mX7_afterYears [.ref (g.2.2.2 o 8), .int p1] g hi10 hk11 (ts_qr (fun a17 hi15 hk16 => ((p2 ≠ 0) → (g.2.1 a17 = 1) ∧ (g.2.2.2 a17 2 ≠ 0) ∧ (g.2.1 (g.2.2.2 a17 2) = 100) ∧ (vp_in p0 (g.2.2.1 (g.2.2.2 a17 2))) ∧ Q (hi15 (g.2.2.2 a17 2) p0.toNatClampNeg) hi15 hk16) ∧ (¬ (p2 ≠ 0) → (g.2.1 a17 = 1) ∧ (g.2.2.2 a17 1 ≠ 0) ∧ (g.2.1 (g.2.2.2 a17 1) = 100) ∧ (vp_in p0 (g.2.2.1 (g.2.2.2 a17 1))) ∧ Q (hi15 (g.2.2.2 a17 1) p0.toNatClampNeg) hi15 hk16)))) ∧ (¬ (v12 = 0) → Q (-1000001) hi10 hk11)))))))))) : ts_J0 (d + 1) mX11_ahead (ts_qi Q) g 0 [(0, .ref o), (1, .int p0), (2, .int p1), (3, .int p2)] [] hi hk := by
  refine ts_aload_n 0 (pc' := 1) rfl dX11_ahead_0 rfl rfl ?_
  refine ts_iload_n 1 (pc' := 2) rfl dX11_ahead_1 rfl rfl ?_
  obtain ⟨c4, W⟩ := W
  refine ts_callV (M' := mX11_isTurnip) (C := RX11) (pc' := 5) (av := [.int p0]) (b := o) rfl dX11_ahead_2 rfl gX11_ahead_X11_isTurnip rfl dvX11_isTurnip rfl (ci := 10) cfX11.1 (by decide) c4 (Nat.le_refl _) (Nat.le_of_ble_eq_true rfl) (Nat.le_of_ble_eq_true rfl) (Nat.le_refl _) (Nat.le_refl _) ts_kv0 W (ts_kki fun v3 hi1 hk2 W => ?_)
  refine ts_if_eq (pc' := 8) (tgt := 27) rfl dX11_ahead_5 (by decide) (fun q5 => ?_) (fun q5 => ?_)
  · replace W := W.1 q5
    refine ts_ldc (v := (-1000001)) (pc' := 29) rfl dX11_ahead_27 (by decide +kernel) ?_
    exact ts_iret dX11_ahead_29 rfl (Nat.le_refl _) (Nat.le_refl _) ⟨rfl, _, rfl, W⟩
  · replace W := W.2 q5
    refine ts_iload_n 2 (pc' := 9) rfl dX11_ahead_8 rfl rfl ?_
    refine ts_iconst (v := 0) (pc' := 10) rfl dX11_ahead_9 (by decide) ?_
    refine ts_bipush (v := 60) (pc' := 12) rfl dX11_ahead_10 (by decide) ?_
    refine ts_callS (M' := mX11_outside) (pc' := 15) (av := [.int p1, .int 0, .int 60]) rfl dX11_ahead_12 rfl gX11_ahead_X11_outside rfl dsX11_outside rfl (Nat.le_refl _) (Nat.le_of_ble_eq_true rfl) (Nat.le_of_ble_eq_true rfl) (Nat.le_refl _) (Nat.le_refl _) ts_kv0 W (ts_kki fun v8 hi6 hk7 W => ?_)
    refine ts_if_ne (pc' := 18) (tgt := 27) rfl dX11_ahead_15 (by decide) (fun q9 => ?_) (fun q9 => ?_)
    · replace W := W.1 q9
      refine ts_ldc (v := (-1000001)) (pc' := 29) rfl dX11_ahead_27 (by decide +kernel) ?_
      exact ts_iret dX11_ahead_29 rfl (Nat.le_refl _) (Nat.le_refl _) ⟨rfl, _, rfl, W⟩
    · replace W := W.2 q9
      refine ts_iload_n 3 (pc' := 19) rfl dX11_ahead_18 rfl rfl ?_
      refine ts_iconst (v := 0) (pc' := 20) rfl dX11_ahead_19 (by decide) ?_
      refine ts_iconst (v := 1) (pc' := 21) rfl dX11_ahead_20 (by decide) ?_
      refine ts_callS (M' := mX11_outside) (pc' := 24) (av := [.int p2, .int 0, .int 1]) rfl dX11_ahead_21 rfl gX11_ahead_X11_outside rfl dsX11_outside rfl (Nat.le_refl _) (Nat.le_of_ble_eq_true rfl) (Nat.le_of_ble_eq_true rfl) (Nat.le_refl _) (Nat.le_refl _) ts_kv0 W (ts_kki fun v12 hi10 hk11 W => ?_)
      refine ts_if_eq (pc' := 27) (tgt := 30) rfl dX11_ahead_24 (by decide) (fun q13 => ?_) (fun q13 => ?_)
      · replace W := W.1 q13
        refine ts_aload_n 0 (pc' := 31) rfl dX11_ahead_30 rfl rfl ?_
        obtain ⟨c14, W⟩ := W
        refine ts_getR (pc' := 34) (ci := 10) 8 cfX11.1 cfX11.2.1 cfX11.2.2 rfl (by decide) hnX11_ahead_X11 flX11_ahead_77 rfl dX11_ahead_31 c4 c14 ?_
        refine ts_iload_n 2 (pc' := 35) rfl dX11_ahead_34 rfl rfl ?_
        obtain ⟨c18, W⟩ := W
        refine ts_callV (M' := mX7_afterYears) (C := RX7) (pc' := 38) (av := [.int p1]) (b := (g.2.2.2 o 8)) rfl dX11_ahead_35 rfl gX11_ahead_X7_afterYears rfl dvX7_afterYears rfl (ci := 6) cfX7.1 (by decide) c18 (Nat.le_refl _) (Nat.le_of_ble_eq_true rfl) (Nat.le_of_ble_eq_true rfl) (Nat.le_refl _) (Nat.le_refl _) ts_kv0 W (ts_kkr fun a17 hi15 hk16 W => ?_)
        refine ts_astore (pc' := 40) (ls' := [(4, .ref a17), (0, .ref o), (1, .int p0), (2, .int p1), (3, .int p2)]) rfl dX11_ahead_38 (Nat.le_of_ble_eq_true rfl) rfl ?_
        refine ts_iload_n 4 (pc' := 41) rfl dX11_ahead_40 rfl rfl ?_
        refine ts_if_ne (pc' := 44) (tgt := 54) rfl dX11_ahead_41 (by decide) (fun q19 => ?_) (fun q19 => ?_)
        · replace W := W.1 q19
          refine ts_aload 0 (pc' := 56) rfl dX11_ahead_54 rfl ?_
          obtain ⟨c20, W⟩ := W
          obtain ⟨c21, W⟩ := W
          refine ts_getR (pc' := 59) (ci := 1) 2 cfX1.1 cfX1.2.1 cfX1.2.2 rfl (by decide) hnX11_ahead_X1 flX11_ahead_204 rfl dX11_ahead_56 c20 c21 ?_
          refine ts_iload_n 2 (pc' := 60) rfl dX11_ahead_59 rfl rfl ?_
          obtain ⟨c22, W⟩ := W
          obtain ⟨c23, W⟩ := W
          refine ts_iaload (pc' := 61) rfl dX11_ahead_60 c22 c23 ?_
          exact ts_iret dX11_ahead_61 rfl (Nat.le_refl _) (Nat.le_refl _) ⟨rfl, _, rfl, W⟩
        · replace W := W.2 q19
          refine ts_aload 0 (pc' := 46) rfl dX11_ahead_44 rfl ?_
          obtain ⟨c24, W⟩ := W
          obtain ⟨c25, W⟩ := W
          refine ts_getR (pc' := 49) (ci := 1) 1 cfX1.1 cfX1.2.1 cfX1.2.2 rfl (by decide) hnX11_ahead_X1 flX11_ahead_201 rfl dX11_ahead_46 c24 c25 ?_
          refine ts_iload_n 2 (pc' := 50) rfl dX11_ahead_49 rfl rfl ?_
          obtain ⟨c26, W⟩ := W
          obtain ⟨c27, W⟩ := W
          refine ts_iaload (pc' := 51) rfl dX11_ahead_50 c26 c27 ?_
          refine ts_goto (tgt := 61) dX11_ahead_51 (by decide) ?_
          exact ts_iret dX11_ahead_61 rfl (Nat.le_refl _) (Nat.le_refl _) ⟨rfl, _, rfl, W⟩
      · replace W := W.2 q13
        refine ts_ldc (v := (-1000001)) (pc' := 29) rfl dX11_ahead_27 (by decide +kernel) ?_
        exact ts_iret dX11_ahead_29 rfl (Nat.le_refl _) (Nat.le_refl _) ⟨rfl, _, rfl, W⟩
theorem hnX11_risen_X11 : ∀ w ∈ u_ws RX11 TX11 13, w ∈ wsX11_risen := by decide +kernel
theorem flX11_risen_77 : Cond.fieldLink RX11 77 "TurnipSquires" "seer" "LTurnipSquires$Seer;" ∈ wsX11_risen := by decide +kernel
set_option maxHeartbeats 4000000 in
theorem wX11_risen_0 {d : Nat} {g : ts_G} {Q : Int32 → ts_I → ts_K → Prop} {o : Nat} {p0 : Int32} {p1 : Int32} {hi : ts_I} {hk : ts_K} (W : (g.2.1 o = 10) ∧ ts_E0 d mX11_isTurnip [.ref o, .int p0] g hi hk (ts_qi (fun v3 hi1 hk2 => ((v3 = 0) → Q (-1000001) hi1 hk2) ∧ (¬ (v3 = 0) → ts_E0 d mX11_outside [.int p1, .int 0, .int 9] g hi1 hk2 (ts_qi (fun v8 hi6 hk7 => ((v8 = 0) → (g.2.2.2 o 8 ≠ 0) ∧ (g.2.1 (g.2.2.2 o 8) = 6) ∧ ts_E0 d mX7_yearsUntil [.ref (g.2.2.2 o 8), .int p0, .int p1] g hi6 hk7 (ts_qi (fun v13 hi11 hk12 => Q v13 hi11 hk12))) ∧ (¬ (v8 = 0) → Q (-1000001) hi6 hk7))))))) : ts_J0 (d + 1) mX11_risen (ts_qi Q) g 0 [(0, .ref o), (1, .int p0), (2, .int p1)] [] hi hk := by
  refine ts_aload_n 0 (pc' := 1) rfl dX11_risen_0 rfl rfl ?_
  refine ts_iload_n 1 (pc' := 2) rfl dX11_risen_1 rfl rfl ?_
  obtain ⟨c4, W⟩ := W
  refine ts_callV (M' := mX11_isTurnip) (C := RX11) (pc' := 5) (av := [.int p0]) (b := o) rfl dX11_risen_2 rfl gX11_risen_X11_isTurnip rfl dvX11_isTurnip rfl (ci := 10) cfX11.1 (by decide) c4 (Nat.le_refl _) (Nat.le_of_ble_eq_true rfl) (Nat.le_of_ble_eq_true rfl) (Nat.le_refl _) (Nat.le_refl _) ts_kv0 W (ts_kki fun v3 hi1 hk2 W => ?_)
  refine ts_if_eq (pc' := 8) (tgt := 18) rfl dX11_risen_5 (by decide) (fun q5 => ?_) (fun q5 => ?_)
  · replace W := W.1 q5
    refine ts_ldc (v := (-1000001)) (pc' := 20) rfl dX11_risen_18 (by decide +kernel) ?_
    exact ts_iret dX11_risen_20 rfl (Nat.le_refl _) (Nat.le_refl _) ⟨rfl, _, rfl, W⟩
  · replace W := W.2 q5
    refine ts_iload_n 2 (pc' := 9) rfl dX11_risen_8 rfl rfl ?_
    refine ts_iconst (v := 0) (pc' := 10) rfl dX11_risen_9 (by decide) ?_
    refine ts_bipush (v := 9) (pc' := 12) rfl dX11_risen_10 (by decide) ?_
    refine ts_callS (M' := mX11_outside) (pc' := 15) (av := [.int p1, .int 0, .int 9]) rfl dX11_risen_12 rfl gX11_risen_X11_outside rfl dsX11_outside rfl (Nat.le_refl _) (Nat.le_of_ble_eq_true rfl) (Nat.le_of_ble_eq_true rfl) (Nat.le_refl _) (Nat.le_refl _) ts_kv0 W (ts_kki fun v8 hi6 hk7 W => ?_)
    refine ts_if_eq (pc' := 18) (tgt := 21) rfl dX11_risen_15 (by decide) (fun q9 => ?_) (fun q9 => ?_)
    · replace W := W.1 q9
      refine ts_aload_n 0 (pc' := 22) rfl dX11_risen_21 rfl rfl ?_
      obtain ⟨c10, W⟩ := W
      refine ts_getR (pc' := 25) (ci := 10) 8 cfX11.1 cfX11.2.1 cfX11.2.2 rfl (by decide) hnX11_risen_X11 flX11_risen_77 rfl dX11_risen_22 c4 c10 ?_
      refine ts_iload_n 1 (pc' := 26) rfl dX11_risen_25 rfl rfl ?_
      refine ts_iload_n 2 (pc' := 27) rfl dX11_risen_26 rfl rfl ?_
      obtain ⟨c14, W⟩ := W
      refine ts_callV (M' := mX7_yearsUntil) (C := RX7) (pc' := 30) (av := [.int p0, .int p1]) (b := (g.2.2.2 o 8)) rfl dX11_risen_27 rfl gX11_risen_X7_yearsUntil rfl dvX7_yearsUntil rfl (ci := 6) cfX7.1 (by decide) c14 (Nat.le_refl _) (Nat.le_of_ble_eq_true rfl) (Nat.le_of_ble_eq_true rfl) (Nat.le_refl _) (Nat.le_refl _) ts_kv0 W (ts_kki fun v13 hi11 hk12 W => ?_)
      exact ts_iret dX11_risen_30 rfl (Nat.le_refl _) (Nat.le_refl _) ⟨rfl, _, rfl, W⟩
    · replace W := W.2 q9
      refine ts_ldc (v := (-1000001)) (pc' := 20) rfl dX11_risen_18 (by decide +kernel) ?_
      exact ts_iret dX11_risen_20 rfl (Nat.le_refl _) (Nat.le_refl _) ⟨rfl, _, rfl, W⟩
theorem hnX11_squire_X1 : ∀ w ∈ u_ws RX1 TX1 13, w ∈ wsX11_squire := by decide +kernel
theorem hnX11_squire_X11 : ∀ w ∈ u_ws RX11 TX11 13, w ∈ wsX11_squire := by decide +kernel
theorem hnX11_squire_X7 : ∀ w ∈ u_ws RX7 TX7 8, w ∈ wsX11_squire := by decide +kernel
theorem flX11_squire_65 : Cond.fieldLink RX11 65 "TurnipSquires" "now" "LTurnipSquires$Field;" ∈ wsX11_squire := by decide +kernel
theorem flX11_squire_77 : Cond.fieldLink RX11 77 "TurnipSquires" "seer" "LTurnipSquires$Seer;" ∈ wsX11_squire := by decide +kernel
theorem flX11_squire_155 : Cond.fieldLink RX11 155 "TurnipSquires$Field" "count" "I" ∈ wsX11_squire := by decide +kernel
theorem flX11_squire_230 : Cond.fieldLink RX11 230 "TurnipSquires$Seer" "squireYears" "I" ∈ wsX11_squire := by decide +kernel
set_option maxHeartbeats 4000000 in
theorem wX11_squire_0 {d : Nat} {g : ts_G} {Q : Int32 → ts_I → ts_K → Prop} {o : Nat} {p0 : Int32} {hi : ts_I} {hk : ts_K} (W : (g.2.1 o = 10) ∧ (g.2.2.2 o 6 ≠ 0) ∧ (g.2.1 (g.2.2.2 o 6) = 1) ∧ (((hi (g.2.2.2 o 6) 9) ≠ 0) → ts_E0 d mX11_outside [.int p0, .int 0, .int 1] g hi hk (ts_qi (fun v7 hi5 hk6 => ((v7 = 0) → (g.2.2.2 o 8 ≠ 0) ∧ (g.2.1 (g.2.2.2 o 8) = 6) ∧ ts_E0 d mX7_firstSquire [.ref (g.2.2.2 o 8)] g hi5 hk6 (ts_qi (fun v12 hi10 hk11 => ((v12 ≠ (-1)) → ((p0 ≠ 0) → Q (hi10 (g.2.2.2 o 8) 7) hi10 hk11) ∧ (¬ (p0 ≠ 0) → Q v12 hi10 hk11)) ∧ (¬ (v12 ≠ (-1)) → Q (-1000000) hi10 hk11)))) ∧ (¬ (v7 = 0) → Q (-1000001) hi5 hk6)))) ∧ (¬ ((hi (g.2.2.2 o 6) 9) ≠ 0) → Q (-1000002) hi hk)) : ts_J0 (d + 1) mX11_squire (ts_qi Q) g 0 [(0, .ref o), (1, .int p0)] [] hi hk := by
  refine ts_aload_n 0 (pc' := 1) rfl dX11_squire_0 rfl rfl ?_
  obtain ⟨c1, W⟩ := W
  obtain ⟨c2, W⟩ := W
  refine ts_getR (pc' := 4) (ci := 10) 6 cfX11.1 cfX11.2.1 cfX11.2.2 rfl (by decide) hnX11_squire_X11 flX11_squire_65 rfl dX11_squire_1 c1 c2 ?_
  obtain ⟨c3, W⟩ := W
  refine ts_getI (pc' := 7) (ci := 1) 9 cfX1.1 cfX1.2.1 cfX1.2.2 rfl (by decide) hnX11_squire_X1 flX11_squire_155 rfl dX11_squire_4 c3 ?_
  refine ts_if_ne (pc' := 10) (tgt := 13) rfl dX11_squire_7 (by decide) (fun q4 => ?_) (fun q4 => ?_)
  · replace W := W.1 q4
    refine ts_iload_n 1 (pc' := 14) rfl dX11_squire_13 rfl rfl ?_
    refine ts_iconst (v := 0) (pc' := 15) rfl dX11_squire_14 (by decide) ?_
    refine ts_iconst (v := 1) (pc' := 16) rfl dX11_squire_15 (by decide) ?_
    refine ts_callS (M' := mX11_outside) (pc' := 19) (av := [.int p0, .int 0, .int 1]) rfl dX11_squire_16 rfl gX11_squire_X11_outside rfl dsX11_outside rfl (Nat.le_refl _) (Nat.le_of_ble_eq_true rfl) (Nat.le_of_ble_eq_true rfl) (Nat.le_refl _) (Nat.le_refl _) ts_kv0 W (ts_kki fun v7 hi5 hk6 W => ?_)
    refine ts_if_eq (pc' := 22) (tgt := 25) rfl dX11_squire_19 (by decide) (fun q8 => ?_) (fun q8 => ?_)
    · replace W := W.1 q8
      refine ts_aload_n 0 (pc' := 26) rfl dX11_squire_25 rfl rfl ?_
      obtain ⟨c9, W⟩ := W
      refine ts_getR (pc' := 29) (ci := 10) 8 cfX11.1 cfX11.2.1 cfX11.2.2 rfl (by decide) hnX11_squire_X11 flX11_squire_77 rfl dX11_squire_26 c1 c9 ?_
      obtain ⟨c13, W⟩ := W
      refine ts_callV (M' := mX7_firstSquire) (C := RX7) (pc' := 32) (av := []) (b := (g.2.2.2 o 8)) rfl dX11_squire_29 rfl gX11_squire_X7_firstSquire rfl dvX7_firstSquire rfl (ci := 6) cfX7.1 (by decide) c13 (Nat.le_refl _) (Nat.le_of_ble_eq_true rfl) (Nat.le_of_ble_eq_true rfl) (Nat.le_refl _) (Nat.le_refl _) ts_kv0 W (ts_kki fun v12 hi10 hk11 W => ?_)
      refine ts_istore_n (pc' := 33) (ls' := [(2, .int v12), (0, .ref o), (1, .int p0)]) rfl dX11_squire_32 rfl (Nat.le_of_ble_eq_true rfl) rfl ?_
      refine ts_iload_n 0 (pc' := 34) rfl dX11_squire_33 rfl rfl ?_
      refine ts_iconst (v := (-1)) (pc' := 35) rfl dX11_squire_34 (by decide) ?_
      refine ts_icmp_ne (pc' := 38) (tgt := 41) rfl dX11_squire_35 (by decide) (fun q14 => ?_) (fun q14 => ?_)
      · replace W := W.1 q14
        refine ts_iload_n 2 (pc' := 42) rfl dX11_squire_41 rfl rfl ?_
        refine ts_if_ne (pc' := 45) (tgt := 49) rfl dX11_squire_42 (by decide) (fun q15 => ?_) (fun q15 => ?_)
        · replace W := W.1 q15
          refine ts_aload_n 1 (pc' := 50) rfl dX11_squire_49 rfl rfl ?_
          refine ts_getR (pc' := 53) (ci := 10) 8 cfX11.1 cfX11.2.1 cfX11.2.2 rfl (by decide) hnX11_squire_X11 flX11_squire_77 rfl dX11_squire_50 c1 c9 ?_
          refine ts_getI (pc' := 56) (ci := 6) 7 cfX7.1 cfX7.2.1 cfX7.2.2 rfl (by decide) hnX11_squire_X7 flX11_squire_230 rfl dX11_squire_53 c13 ?_
          exact ts_iret dX11_squire_56 rfl (Nat.le_refl _) (Nat.le_refl _) ⟨rfl, _, rfl, W⟩
        · replace W := W.2 q15
          refine ts_iload_n 0 (pc' := 46) rfl dX11_squire_45 rfl rfl ?_
          refine ts_goto (tgt := 56) dX11_squire_46 (by decide) ?_
          exact ts_iret dX11_squire_56 rfl (Nat.le_refl _) (Nat.le_refl _) ⟨rfl, _, rfl, W⟩
      · replace W := W.2 q14
        refine ts_ldc (v := (-1000000)) (pc' := 40) rfl dX11_squire_38 (by decide +kernel) ?_
        exact ts_iret dX11_squire_40 rfl (Nat.le_refl _) (Nat.le_refl _) ⟨rfl, _, rfl, W⟩
    · replace W := W.2 q8
      refine ts_ldc (v := (-1000001)) (pc' := 24) rfl dX11_squire_22 (by decide +kernel) ?_
      exact ts_iret dX11_squire_24 rfl (Nat.le_refl _) (Nat.le_refl _) ⟨rfl, _, rfl, W⟩
  · replace W := W.2 q4
    refine ts_ldc (v := (-1000002)) (pc' := 12) rfl dX11_squire_10 (by decide +kernel) ?_
    exact ts_iret dX11_squire_12 rfl (Nat.le_refl _) (Nat.le_refl _) ⟨rfl, _, rfl, W⟩
theorem hnX11_pairs_X1 : ∀ w ∈ u_ws RX1 TX1 13, w ∈ wsX11_pairs := by decide +kernel
theorem hnX11_pairs_X11 : ∀ w ∈ u_ws RX11 TX11 13, w ∈ wsX11_pairs := by decide +kernel
theorem hnX11_pairs_X7 : ∀ w ∈ u_ws RX7 TX7 8, w ∈ wsX11_pairs := by decide +kernel
theorem flX11_pairs_65 : Cond.fieldLink RX11 65 "TurnipSquires" "now" "LTurnipSquires$Field;" ∈ wsX11_pairs := by decide +kernel
theorem flX11_pairs_77 : Cond.fieldLink RX11 77 "TurnipSquires" "seer" "LTurnipSquires$Seer;" ∈ wsX11_pairs := by decide +kernel
theorem flX11_pairs_155 : Cond.fieldLink RX11 155 "TurnipSquires$Field" "count" "I" ∈ wsX11_pairs := by decide +kernel
theorem flX11_pairs_236 : Cond.fieldLink RX11 236 "TurnipSquires$Seer" "mostRanks" "I" ∈ wsX11_pairs := by decide +kernel
theorem flX11_pairs_239 : Cond.fieldLink RX11 239 "TurnipSquires$Seer" "bestMates" "[I" ∈ wsX11_pairs := by decide +kernel
set_option maxHeartbeats 4000000 in
theorem wX11_pairs_0 {d : Nat} {g : ts_G} {Q : Int32 → ts_I → ts_K → Prop} {o : Nat} {p0 : Int32} {p1 : Int32} {hi : ts_I} {hk : ts_K} (W : (g.2.1 o = 10) ∧ (g.2.2.2 o 6 ≠ 0) ∧ (g.2.1 (g.2.2.2 o 6) = 1) ∧ (((hi (g.2.2.2 o 6) 9) ≠ 0) → ts_E0 d mX11_outside [.int p0, .int 1, .int 20] g hi hk (ts_qi (fun v7 hi5 hk6 => ((v7 ≠ 0) → Q (-1000001) hi5 hk6) ∧ (¬ (v7 ≠ 0) → ((p1 = (-1)) → (g.2.2.2 o 8 ≠ 0) ∧ (g.2.1 (g.2.2.2 o 8) = 6) ∧ ts_E0 d mX7_findBestPairs [.ref (g.2.2.2 o 8), .int p0] g hi5 hk6 (ts_qv (fun hi11 hk12 => ((p1 ≠ (-1)) → (g.2.2.2 (g.2.2.2 o 8) 5 ≠ 0) ∧ (g.2.1 (g.2.2.2 (g.2.2.2 o 8) 5) = 100) ∧ (vp_in p1 (g.2.2.1 (g.2.2.2 (g.2.2.2 o 8) 5))) ∧ ts_E0 d mX11_mateToTell [.int (hi11 (g.2.2.2 (g.2.2.2 o 8) 5) p1.toNatClampNeg)] g hi11 hk12 (ts_qi (fun v20 hi18 hk19 => Q v20 hi18 hk19))) ∧ (¬ (p1 ≠ (-1)) → Q (hi11 (g.2.2.2 o 8) 6) hi11 hk12)))) ∧ (¬ (p1 = (-1)) → ts_E0 d mX11_isTurnip [.ref o, .int p1] g hi5 hk6 (ts_qi (fun v23 hi21 hk22 => ((v23 ≠ 0) → (g.2.2.2 o 8 ≠ 0) ∧ (g.2.1 (g.2.2.2 o 8) = 6) ∧ ts_E0 d mX7_findBestPairs [.ref (g.2.2.2 o 8), .int p0] g hi21 hk22 (ts_qv (fun hi26 hk27 => ((p1 ≠ (-1)) → (g.2.2.2 (g.2.2.2 o 8) 5 ≠ 0) ∧ (g.2.1 (g.2.2.2 (g.2.2.2 o 8) 5) = 100) ∧ (vp_in p1 (g.2.2.1 (g.2.2.2 (g.2.2.2 o 8) 5))) ∧ ts_E0 d mX11_mateToTell [.int (hi26 (g.2.2.2 (g.2.2.2 o 8) 5) p1.toNatClampNeg)] g hi26 hk27 (ts_qi (fun v35 hi33 hk34 => Q v35 hi33 hk34))) ∧ (¬ (p1 ≠ (-1)) → Q (hi26 (g.2.2.2 o 8) 6) hi26 hk27)))) ∧ (¬ (v23 ≠ 0) → Q (-1000001) hi21 hk22)))))))) ∧ (¬ ((hi (g.2.2.2 o 6) 9) ≠ 0) → Q (-1000002) hi hk)) : ts_J0 (d + 1) mX11_pairs (ts_qi Q) g 0 [(0, .ref o), (1, .int p0), (2, .int p1)] [] hi hk := by
  refine ts_aload_n 0 (pc' := 1) rfl dX11_pairs_0 rfl rfl ?_
  obtain ⟨c1, W⟩ := W
  obtain ⟨c2, W⟩ := W
  refine ts_getR (pc' := 4) (ci := 10) 6 cfX11.1 cfX11.2.1 cfX11.2.2 rfl (by decide) hnX11_pairs_X11 flX11_pairs_65 rfl dX11_pairs_1 c1 c2 ?_
  obtain ⟨c3, W⟩ := W
  refine ts_getI (pc' := 7) (ci := 1) 9 cfX1.1 cfX1.2.1 cfX1.2.2 rfl (by decide) hnX11_pairs_X1 flX11_pairs_155 rfl dX11_pairs_4 c3 ?_
  refine ts_if_ne (pc' := 10) (tgt := 13) rfl dX11_pairs_7 (by decide) (fun q4 => ?_) (fun q4 => ?_)
  · replace W := W.1 q4
    refine ts_iload_n 1 (pc' := 14) rfl dX11_pairs_13 rfl rfl ?_
    refine ts_iconst (v := 1) (pc' := 15) rfl dX11_pairs_14 (by decide) ?_
    refine ts_bipush (v := 20) (pc' := 17) rfl dX11_pairs_15 (by decide) ?_
    refine ts_callS (M' := mX11_outside) (pc' := 20) (av := [.int p0, .int 1, .int 20]) rfl dX11_pairs_17 rfl gX11_pairs_X11_outside rfl dsX11_outside rfl (Nat.le_refl _) (Nat.le_of_ble_eq_true rfl) (Nat.le_of_ble_eq_true rfl) (Nat.le_refl _) (Nat.le_refl _) ts_kv0 W (ts_kki fun v7 hi5 hk6 W => ?_)
    refine ts_if_ne (pc' := 23) (tgt := 36) rfl dX11_pairs_20 (by decide) (fun q8 => ?_) (fun q8 => ?_)
    · replace W := W.1 q8
      refine ts_ldc (v := (-1000001)) (pc' := 38) rfl dX11_pairs_36 (by decide +kernel) ?_
      exact ts_iret dX11_pairs_38 rfl (Nat.le_refl _) (Nat.le_refl _) ⟨rfl, _, rfl, W⟩
    · replace W := W.2 q8
      refine ts_iload_n 2 (pc' := 24) rfl dX11_pairs_23 rfl rfl ?_
      refine ts_iconst (v := (-1)) (pc' := 25) rfl dX11_pairs_24 (by decide) ?_
      refine ts_icmp_eq (pc' := 28) (tgt := 39) rfl dX11_pairs_25 (by decide) (fun q9 => ?_) (fun q9 => ?_)
      · replace W := W.1 q9
        refine ts_aload_n 0 (pc' := 40) rfl dX11_pairs_39 rfl rfl ?_
        obtain ⟨c10, W⟩ := W
        refine ts_getR (pc' := 43) (ci := 10) 8 cfX11.1 cfX11.2.1 cfX11.2.2 rfl (by decide) hnX11_pairs_X11 flX11_pairs_77 rfl dX11_pairs_40 c1 c10 ?_
        refine ts_iload_n 1 (pc' := 44) rfl dX11_pairs_43 rfl rfl ?_
        obtain ⟨c13, W⟩ := W
        refine ts_callV (M' := mX7_findBestPairs) (C := RX7) (pc' := 47) (av := [.int p0]) (b := (g.2.2.2 o 8)) rfl dX11_pairs_44 rfl gX11_pairs_X7_findBestPairs rfl dvX7_findBestPairs rfl (ci := 6) cfX7.1 (by decide) c13 (Nat.le_refl _) (Nat.le_of_ble_eq_true rfl) (Nat.le_of_ble_eq_true rfl) (Nat.le_refl _) (Nat.le_refl _) ts_kv0 W (ts_kkv fun hi11 hk12 W => ?_)
        refine ts_iload_n 2 (pc' := 48) rfl dX11_pairs_47 rfl rfl ?_
        refine ts_iconst (v := (-1)) (pc' := 49) rfl dX11_pairs_48 (by decide) ?_
        refine ts_icmp_ne (pc' := 52) (tgt := 62) rfl dX11_pairs_49 (by decide) (fun q14 => ?_) (fun q14 => ?_)
        · replace W := W.1 q14
          refine ts_aload_n 0 (pc' := 63) rfl dX11_pairs_62 rfl rfl ?_
          refine ts_getR (pc' := 66) (ci := 10) 8 cfX11.1 cfX11.2.1 cfX11.2.2 rfl (by decide) hnX11_pairs_X11 flX11_pairs_77 rfl dX11_pairs_63 c1 c10 ?_
          obtain ⟨c15, W⟩ := W
          refine ts_getR (pc' := 69) (ci := 6) 5 cfX7.1 cfX7.2.1 cfX7.2.2 rfl (by decide) hnX11_pairs_X7 flX11_pairs_239 rfl dX11_pairs_66 c13 c15 ?_
          refine ts_iload_n 2 (pc' := 70) rfl dX11_pairs_69 rfl rfl ?_
          obtain ⟨c16, W⟩ := W
          obtain ⟨c17, W⟩ := W
          refine ts_iaload (pc' := 71) rfl dX11_pairs_70 c16 c17 ?_
          refine ts_callS (M' := mX11_mateToTell) (pc' := 74) (av := [.int (hi11 (g.2.2.2 (g.2.2.2 o 8) 5) p1.toNatClampNeg)]) rfl dX11_pairs_71 rfl gX11_pairs_X11_mateToTell rfl dsX11_mateToTell rfl (Nat.le_refl _) (Nat.le_of_ble_eq_true rfl) (Nat.le_of_ble_eq_true rfl) (Nat.le_refl _) (Nat.le_refl _) ts_kv0 W (ts_kki fun v20 hi18 hk19 W => ?_)
          exact ts_iret dX11_pairs_74 rfl (Nat.le_refl _) (Nat.le_refl _) ⟨rfl, _, rfl, W⟩
        · replace W := W.2 q14
          refine ts_aload_n 0 (pc' := 53) rfl dX11_pairs_52 rfl rfl ?_
          refine ts_getR (pc' := 56) (ci := 10) 8 cfX11.1 cfX11.2.1 cfX11.2.2 rfl (by decide) hnX11_pairs_X11 flX11_pairs_77 rfl dX11_pairs_53 c1 c10 ?_
          refine ts_getI (pc' := 59) (ci := 6) 6 cfX7.1 cfX7.2.1 cfX7.2.2 rfl (by decide) hnX11_pairs_X7 flX11_pairs_236 rfl dX11_pairs_56 c13 ?_
          refine ts_goto (tgt := 74) dX11_pairs_59 (by decide) ?_
          exact ts_iret dX11_pairs_74 rfl (Nat.le_refl _) (Nat.le_refl _) ⟨rfl, _, rfl, W⟩
      · replace W := W.2 q9
        refine ts_aload_n 0 (pc' := 29) rfl dX11_pairs_28 rfl rfl ?_
        refine ts_iload_n 2 (pc' := 30) rfl dX11_pairs_29 rfl rfl ?_
        refine ts_callV (M' := mX11_isTurnip) (C := RX11) (pc' := 33) (av := [.int p1]) (b := o) rfl dX11_pairs_30 rfl gX11_pairs_X11_isTurnip rfl dvX11_isTurnip rfl (ci := 10) cfX11.1 (by decide) c1 (Nat.le_refl _) (Nat.le_of_ble_eq_true rfl) (Nat.le_of_ble_eq_true rfl) (Nat.le_refl _) (Nat.le_refl _) ts_kv0 W (ts_kki fun v23 hi21 hk22 W => ?_)
        refine ts_if_ne (pc' := 36) (tgt := 39) rfl dX11_pairs_33 (by decide) (fun q24 => ?_) (fun q24 => ?_)
        · replace W := W.1 q24
          refine ts_aload_n 0 (pc' := 40) rfl dX11_pairs_39 rfl rfl ?_
          obtain ⟨c25, W⟩ := W
          refine ts_getR (pc' := 43) (ci := 10) 8 cfX11.1 cfX11.2.1 cfX11.2.2 rfl (by decide) hnX11_pairs_X11 flX11_pairs_77 rfl dX11_pairs_40 c1 c25 ?_
          refine ts_iload_n 1 (pc' := 44) rfl dX11_pairs_43 rfl rfl ?_
          obtain ⟨c28, W⟩ := W
          refine ts_callV (M' := mX7_findBestPairs) (C := RX7) (pc' := 47) (av := [.int p0]) (b := (g.2.2.2 o 8)) rfl dX11_pairs_44 rfl gX11_pairs_X7_findBestPairs rfl dvX7_findBestPairs rfl (ci := 6) cfX7.1 (by decide) c28 (Nat.le_refl _) (Nat.le_of_ble_eq_true rfl) (Nat.le_of_ble_eq_true rfl) (Nat.le_refl _) (Nat.le_refl _) ts_kv0 W (ts_kkv fun hi26 hk27 W => ?_)
          refine ts_iload_n 2 (pc' := 48) rfl dX11_pairs_47 rfl rfl ?_
          refine ts_iconst (v := (-1)) (pc' := 49) rfl dX11_pairs_48 (by decide) ?_
          refine ts_icmp_ne (pc' := 52) (tgt := 62) rfl dX11_pairs_49 (by decide) (fun q29 => ?_) (fun q29 => ?_)
          · replace W := W.1 q29
            refine ts_aload_n 0 (pc' := 63) rfl dX11_pairs_62 rfl rfl ?_
            refine ts_getR (pc' := 66) (ci := 10) 8 cfX11.1 cfX11.2.1 cfX11.2.2 rfl (by decide) hnX11_pairs_X11 flX11_pairs_77 rfl dX11_pairs_63 c1 c25 ?_
            obtain ⟨c30, W⟩ := W
            refine ts_getR (pc' := 69) (ci := 6) 5 cfX7.1 cfX7.2.1 cfX7.2.2 rfl (by decide) hnX11_pairs_X7 flX11_pairs_239 rfl dX11_pairs_66 c28 c30 ?_
            refine ts_iload_n 2 (pc' := 70) rfl dX11_pairs_69 rfl rfl ?_
            obtain ⟨c31, W⟩ := W
            obtain ⟨c32, W⟩ := W
            refine ts_iaload (pc' := 71) rfl dX11_pairs_70 c31 c32 ?_
            refine ts_callS (M' := mX11_mateToTell) (pc' := 74) (av := [.int (hi26 (g.2.2.2 (g.2.2.2 o 8) 5) p1.toNatClampNeg)]) rfl dX11_pairs_71 rfl gX11_pairs_X11_mateToTell rfl dsX11_mateToTell rfl (Nat.le_refl _) (Nat.le_of_ble_eq_true rfl) (Nat.le_of_ble_eq_true rfl) (Nat.le_refl _) (Nat.le_refl _) ts_kv0 W (ts_kki fun v35 hi33 hk34 W => ?_)
            exact ts_iret dX11_pairs_74 rfl (Nat.le_refl _) (Nat.le_refl _) ⟨rfl, _, rfl, W⟩
          · replace W := W.2 q29
            refine ts_aload_n 0 (pc' := 53) rfl dX11_pairs_52 rfl rfl ?_
            refine ts_getR (pc' := 56) (ci := 10) 8 cfX11.1 cfX11.2.1 cfX11.2.2 rfl (by decide) hnX11_pairs_X11 flX11_pairs_77 rfl dX11_pairs_53 c1 c25 ?_
            refine ts_getI (pc' := 59) (ci := 6) 6 cfX7.1 cfX7.2.1 cfX7.2.2 rfl (by decide) hnX11_pairs_X7 flX11_pairs_236 rfl dX11_pairs_56 c28 ?_
            refine ts_goto (tgt := 74) dX11_pairs_59 (by decide) ?_
            exact ts_iret dX11_pairs_74 rfl (Nat.le_refl _) (Nat.le_refl _) ⟨rfl, _, rfl, W⟩
        · replace W := W.2 q24
          refine ts_ldc (v := (-1000001)) (pc' := 38) rfl dX11_pairs_36 (by decide +kernel) ?_
          exact ts_iret dX11_pairs_38 rfl (Nat.le_refl _) (Nat.le_refl _) ⟨rfl, _, rfl, W⟩
  · replace W := W.2 q4
    refine ts_ldc (v := (-1000002)) (pc' := 12) rfl dX11_pairs_10 (by decide +kernel) ?_
    exact ts_iret dX11_pairs_12 rfl (Nat.le_refl _) (Nat.le_refl _) ⟨rfl, _, rfl, W⟩
theorem hnX11_change_X1 : ∀ w ∈ u_ws RX1 TX1 13, w ∈ wsX11_change := by decide +kernel
theorem hnX11_change_X11 : ∀ w ∈ u_ws RX11 TX11 13, w ∈ wsX11_change := by decide +kernel
theorem hnX11_change_X7 : ∀ w ∈ u_ws RX7 TX7 8, w ∈ wsX11_change := by decide +kernel
theorem flX11_change_65 : Cond.fieldLink RX11 65 "TurnipSquires" "now" "LTurnipSquires$Field;" ∈ wsX11_change := by decide +kernel
theorem flX11_change_77 : Cond.fieldLink RX11 77 "TurnipSquires" "seer" "LTurnipSquires$Seer;" ∈ wsX11_change := by decide +kernel
theorem flX11_change_155 : Cond.fieldLink RX11 155 "TurnipSquires$Field" "count" "I" ∈ wsX11_change := by decide +kernel
theorem flX11_change_236 : Cond.fieldLink RX11 236 "TurnipSquires$Seer" "mostRanks" "I" ∈ wsX11_change := by decide +kernel
set_option maxHeartbeats 4000000 in
theorem wX11_change_0 {d : Nat} {g : ts_G} {Q : Int32 → ts_I → ts_K → Prop} {o : Nat} {p0 : Int32} {p1 : Int32} {hi : ts_I} {hk : ts_K} (W : (g.2.1 o = 10) ∧ (g.2.2.2 o 6 ≠ 0) ∧ (g.2.1 (g.2.2.2 o 6) = 1) ∧ (((hi (g.2.2.2 o 6) 9) ≠ 0) → ts_E0 d mX11_outside [.int p0, .int 1, .int 30] g hi hk (ts_qi (fun v7 hi5 hk6 => ((v7 ≠ 0) → Q (-1000001) hi5 hk6) ∧ (¬ (v7 ≠ 0) → ts_E0 d mX11_outside [.int p1, .int 0, .int 1] g hi5 hk6 (ts_qi (fun v11 hi9 hk10 => ((v11 = 0) → ((2 ≤ (hi9 (g.2.2.2 o 6) 9)) → (g.2.2.2 o 8 ≠ 0) ∧ (g.2.1 (g.2.2.2 o 8) = 6) ∧ ts_E0 d mX7_bestChange [.ref (g.2.2.2 o 8), .int p0] g hi9 hk10 (ts_qi (fun v17 hi15 hk16 => ((p1 ≠ 0) → Q (hi15 (g.2.2.2 o 8) 6) hi15 hk16) ∧ (¬ (p1 ≠ 0) → Q v17 hi15 hk16)))) ∧ (¬ (2 ≤ (hi9 (g.2.2.2 o 6) 9)) → Q (-1000000) hi9 hk10)) ∧ (¬ (v11 = 0) → Q (-1000001) hi9 hk10))))))) ∧ (¬ ((hi (g.2.2.2 o 6) 9) ≠ 0) → Q (-1000002) hi hk)) : ts_J0 (d + 1) mX11_change (ts_qi Q) g 0 [(0, .ref o), (1, .int p0), (2, .int p1)] [] hi hk := by
  refine ts_aload_n 0 (pc' := 1) rfl dX11_change_0 rfl rfl ?_
  obtain ⟨c1, W⟩ := W
  obtain ⟨c2, W⟩ := W
  refine ts_getR (pc' := 4) (ci := 10) 6 cfX11.1 cfX11.2.1 cfX11.2.2 rfl (by decide) hnX11_change_X11 flX11_change_65 rfl dX11_change_1 c1 c2 ?_
  obtain ⟨c3, W⟩ := W
  refine ts_getI (pc' := 7) (ci := 1) 9 cfX1.1 cfX1.2.1 cfX1.2.2 rfl (by decide) hnX11_change_X1 flX11_change_155 rfl dX11_change_4 c3 ?_
  refine ts_if_ne (pc' := 10) (tgt := 13) rfl dX11_change_7 (by decide) (fun q4 => ?_) (fun q4 => ?_)
  · replace W := W.1 q4
    refine ts_iload_n 1 (pc' := 14) rfl dX11_change_13 rfl rfl ?_
    refine ts_iconst (v := 1) (pc' := 15) rfl dX11_change_14 (by decide) ?_
    refine ts_bipush (v := 30) (pc' := 17) rfl dX11_change_15 (by decide) ?_
    refine ts_callS (M' := mX11_outside) (pc' := 20) (av := [.int p0, .int 1, .int 30]) rfl dX11_change_17 rfl gX11_change_X11_outside rfl dsX11_outside rfl (Nat.le_refl _) (Nat.le_of_ble_eq_true rfl) (Nat.le_of_ble_eq_true rfl) (Nat.le_refl _) (Nat.le_refl _) ts_kv0 W (ts_kki fun v7 hi5 hk6 W => ?_)
    refine ts_if_ne (pc' := 23) (tgt := 32) rfl dX11_change_20 (by decide) (fun q8 => ?_) (fun q8 => ?_)
    · replace W := W.1 q8
      refine ts_ldc (v := (-1000001)) (pc' := 34) rfl dX11_change_32 (by decide +kernel) ?_
      exact ts_iret dX11_change_34 rfl (Nat.le_refl _) (Nat.le_refl _) ⟨rfl, _, rfl, W⟩
    · replace W := W.2 q8
      refine ts_iload_n 2 (pc' := 24) rfl dX11_change_23 rfl rfl ?_
      refine ts_iconst (v := 0) (pc' := 25) rfl dX11_change_24 (by decide) ?_
      refine ts_iconst (v := 1) (pc' := 26) rfl dX11_change_25 (by decide) ?_
      refine ts_callS (M' := mX11_outside) (pc' := 29) (av := [.int p1, .int 0, .int 1]) rfl dX11_change_26 rfl gX11_change_X11_outside rfl dsX11_outside rfl (Nat.le_refl _) (Nat.le_of_ble_eq_true rfl) (Nat.le_of_ble_eq_true rfl) (Nat.le_refl _) (Nat.le_refl _) ts_kv0 W (ts_kki fun v11 hi9 hk10 W => ?_)
      refine ts_if_eq (pc' := 32) (tgt := 35) rfl dX11_change_29 (by decide) (fun q12 => ?_) (fun q12 => ?_)
      · replace W := W.1 q12
        refine ts_aload_n 0 (pc' := 36) rfl dX11_change_35 rfl rfl ?_
        refine ts_getR (pc' := 39) (ci := 10) 6 cfX11.1 cfX11.2.1 cfX11.2.2 rfl (by decide) hnX11_change_X11 flX11_change_65 rfl dX11_change_36 c1 c2 ?_
        refine ts_getI (pc' := 42) (ci := 1) 9 cfX1.1 cfX1.2.1 cfX1.2.2 rfl (by decide) hnX11_change_X1 flX11_change_155 rfl dX11_change_39 c3 ?_
        refine ts_iconst (v := 2) (pc' := 43) rfl dX11_change_42 (by decide) ?_
        refine ts_icmp_ge (pc' := 46) (tgt := 49) rfl dX11_change_43 (by decide) (fun q13 => ?_) (fun q13 => ?_)
        · replace W := W.1 q13
          refine ts_aload_n 0 (pc' := 50) rfl dX11_change_49 rfl rfl ?_
          obtain ⟨c14, W⟩ := W
          refine ts_getR (pc' := 53) (ci := 10) 8 cfX11.1 cfX11.2.1 cfX11.2.2 rfl (by decide) hnX11_change_X11 flX11_change_77 rfl dX11_change_50 c1 c14 ?_
          refine ts_iload_n 1 (pc' := 54) rfl dX11_change_53 rfl rfl ?_
          obtain ⟨c18, W⟩ := W
          refine ts_callV (M' := mX7_bestChange) (C := RX7) (pc' := 57) (av := [.int p0]) (b := (g.2.2.2 o 8)) rfl dX11_change_54 rfl gX11_change_X7_bestChange rfl dvX7_bestChange rfl (ci := 6) cfX7.1 (by decide) c18 (Nat.le_refl _) (Nat.le_of_ble_eq_true rfl) (Nat.le_of_ble_eq_true rfl) (Nat.le_refl _) (Nat.le_refl _) ts_kv0 W (ts_kki fun v17 hi15 hk16 W => ?_)
          refine ts_istore_n (pc' := 58) (ls' := [(3, .int v17), (0, .ref o), (1, .int p0), (2, .int p1)]) rfl dX11_change_57 rfl (Nat.le_of_ble_eq_true rfl) rfl ?_
          refine ts_iload_n 3 (pc' := 59) rfl dX11_change_58 rfl rfl ?_
          refine ts_if_ne (pc' := 62) (tgt := 66) rfl dX11_change_59 (by decide) (fun q19 => ?_) (fun q19 => ?_)
          · replace W := W.1 q19
            refine ts_aload_n 1 (pc' := 67) rfl dX11_change_66 rfl rfl ?_
            refine ts_getR (pc' := 70) (ci := 10) 8 cfX11.1 cfX11.2.1 cfX11.2.2 rfl (by decide) hnX11_change_X11 flX11_change_77 rfl dX11_change_67 c1 c14 ?_
            refine ts_getI (pc' := 73) (ci := 6) 6 cfX7.1 cfX7.2.1 cfX7.2.2 rfl (by decide) hnX11_change_X7 flX11_change_236 rfl dX11_change_70 c18 ?_
            exact ts_iret dX11_change_73 rfl (Nat.le_refl _) (Nat.le_refl _) ⟨rfl, _, rfl, W⟩
          · replace W := W.2 q19
            refine ts_iload_n 0 (pc' := 63) rfl dX11_change_62 rfl rfl ?_
            refine ts_goto (tgt := 73) dX11_change_63 (by decide) ?_
            exact ts_iret dX11_change_73 rfl (Nat.le_refl _) (Nat.le_refl _) ⟨rfl, _, rfl, W⟩
        · replace W := W.2 q13
          refine ts_ldc (v := (-1000000)) (pc' := 48) rfl dX11_change_46 (by decide +kernel) ?_
          exact ts_iret dX11_change_48 rfl (Nat.le_refl _) (Nat.le_refl _) ⟨rfl, _, rfl, W⟩
      · replace W := W.2 q12
        refine ts_ldc (v := (-1000001)) (pc' := 34) rfl dX11_change_32 (by decide +kernel) ?_
        exact ts_iret dX11_change_34 rfl (Nat.le_refl _) (Nat.le_refl _) ⟨rfl, _, rfl, W⟩
  · replace W := W.2 q4
    refine ts_ldc (v := (-1000002)) (pc' := 12) rfl dX11_change_10 (by decide +kernel) ?_
    exact ts_iret dX11_change_12 rfl (Nat.le_refl _) (Nat.le_refl _) ⟨rfl, _, rfl, W⟩
theorem hnX11_power_X11 : ∀ w ∈ u_ws RX11 TX11 13, w ∈ wsX11_power := by decide +kernel
theorem flX11_power_65 : Cond.fieldLink RX11 65 "TurnipSquires" "now" "LTurnipSquires$Field;" ∈ wsX11_power := by decide +kernel
set_option maxHeartbeats 4000000 in
theorem wX11_power_0 {d : Nat} {g : ts_G} {Q : Int32 → ts_I → ts_K → Prop} {o : Nat} {p0 : Int32} {hi : ts_I} {hk : ts_K} (W : (g.2.1 o = 10) ∧ ts_E0 d mX11_isTurnip [.ref o, .int p0] g hi hk (ts_qi (fun v3 hi1 hk2 => ((v3 = 0) → Q (-1000001) hi1 hk2) ∧ (¬ (v3 = 0) → (g.2.2.2 o 6 ≠ 0) ∧ (g.2.1 (g.2.2.2 o 6) = 1) ∧ ts_E0 d mX1_turnedBy [.ref (g.2.2.2 o 6), .int p0] g hi1 hk2 (ts_qi (fun v9 hi7 hk8 => Q v9 hi7 hk8)))))) : ts_J0 (d + 1) mX11_power (ts_qi Q) g 0 [(0, .ref o), (1, .int p0)] [] hi hk := by
  refine ts_aload_n 0 (pc' := 1) rfl dX11_power_0 rfl rfl ?_
  refine ts_iload_n 1 (pc' := 2) rfl dX11_power_1 rfl rfl ?_
  obtain ⟨c4, W⟩ := W
  refine ts_callV (M' := mX11_isTurnip) (C := RX11) (pc' := 5) (av := [.int p0]) (b := o) rfl dX11_power_2 rfl gX11_power_X11_isTurnip rfl dvX11_isTurnip rfl (ci := 10) cfX11.1 (by decide) c4 (Nat.le_refl _) (Nat.le_of_ble_eq_true rfl) (Nat.le_of_ble_eq_true rfl) (Nat.le_refl _) (Nat.le_refl _) ts_kv0 W (ts_kki fun v3 hi1 hk2 W => ?_)
  refine ts_if_eq (pc' := 8) (tgt := 19) rfl dX11_power_5 (by decide) (fun q5 => ?_) (fun q5 => ?_)
  · replace W := W.1 q5
    refine ts_ldc (v := (-1000001)) (pc' := 21) rfl dX11_power_19 (by decide +kernel) ?_
    exact ts_iret dX11_power_21 rfl (Nat.le_refl _) (Nat.le_refl _) ⟨rfl, _, rfl, W⟩
  · replace W := W.2 q5
    refine ts_aload_n 0 (pc' := 9) rfl dX11_power_8 rfl rfl ?_
    obtain ⟨c6, W⟩ := W
    refine ts_getR (pc' := 12) (ci := 10) 6 cfX11.1 cfX11.2.1 cfX11.2.2 rfl (by decide) hnX11_power_X11 flX11_power_65 rfl dX11_power_9 c4 c6 ?_
    refine ts_iload_n 1 (pc' := 13) rfl dX11_power_12 rfl rfl ?_
    obtain ⟨c10, W⟩ := W
    refine ts_callV (M' := mX1_turnedBy) (C := RX1) (pc' := 16) (av := [.int p0]) (b := (g.2.2.2 o 6)) rfl dX11_power_13 rfl gX11_power_X1_turnedBy rfl dvX1_turnedBy rfl (ci := 1) cfX1.1 (by decide) c10 (Nat.le_refl _) (Nat.le_of_ble_eq_true rfl) (Nat.le_of_ble_eq_true rfl) (Nat.le_refl _) (Nat.le_refl _) ts_kv0 W (ts_kki fun v9 hi7 hk8 W => ?_)
    refine ts_goto (tgt := 21) dX11_power_16 (by decide) ?_
    exact ts_iret dX11_power_21 rfl (Nat.le_refl _) (Nat.le_refl _) ⟨rfl, _, rfl, W⟩
theorem hnX11_blocs_X1 : ∀ w ∈ u_ws RX1 TX1 13, w ∈ wsX11_blocs := by decide +kernel
theorem hnX11_blocs_X11 : ∀ w ∈ u_ws RX11 TX11 13, w ∈ wsX11_blocs := by decide +kernel
theorem flX11_blocs_65 : Cond.fieldLink RX11 65 "TurnipSquires" "now" "LTurnipSquires$Field;" ∈ wsX11_blocs := by decide +kernel
theorem flX11_blocs_155 : Cond.fieldLink RX11 155 "TurnipSquires$Field" "count" "I" ∈ wsX11_blocs := by decide +kernel
set_option maxHeartbeats 4000000 in
theorem wX11_blocs_0 {d : Nat} {g : ts_G} {Q : Int32 → ts_I → ts_K → Prop} {o : Nat} {p0 : Int32} {hi : ts_I} {hk : ts_K} (W : (g.2.1 o = 10) ∧ (g.2.2.2 o 6 ≠ 0) ∧ (g.2.1 (g.2.2.2 o 6) = 1) ∧ (((hi (g.2.2.2 o 6) 9) ≠ 0) → ts_E0 d mX11_outside [.int p0, .int 0, .int 1] g hi hk (ts_qi (fun v7 hi5 hk6 => ((v7 = 0) → ts_E0 d mX1_leastBloc [.ref (g.2.2.2 o 6)] g hi5 hk6 (ts_qi (fun v11 hi9 hk10 => ((v11 ≠ 0) → ((p0 ≠ 0) → Q v11 hi9 hk10) ∧ (¬ (p0 ≠ 0) → ts_E0 d mJ6_bitCount_0f7a4 [.int v11] g hi9 hk10 (ts_qi (fun v16 hi14 hk15 => Q v16 hi14 hk15)))) ∧ (¬ (v11 ≠ 0) → Q (-1000000) hi9 hk10)))) ∧ (¬ (v7 = 0) → Q (-1000001) hi5 hk6)))) ∧ (¬ ((hi (g.2.2.2 o 6) 9) ≠ 0) → Q (-1000002) hi hk)) : ts_J0 (d + 1) mX11_blocs (ts_qi Q) g 0 [(0, .ref o), (1, .int p0)] [] hi hk := by
  refine ts_aload_n 0 (pc' := 1) rfl dX11_blocs_0 rfl rfl ?_
  obtain ⟨c1, W⟩ := W
  obtain ⟨c2, W⟩ := W
  refine ts_getR (pc' := 4) (ci := 10) 6 cfX11.1 cfX11.2.1 cfX11.2.2 rfl (by decide) hnX11_blocs_X11 flX11_blocs_65 rfl dX11_blocs_1 c1 c2 ?_
  obtain ⟨c3, W⟩ := W
  refine ts_getI (pc' := 7) (ci := 1) 9 cfX1.1 cfX1.2.1 cfX1.2.2 rfl (by decide) hnX11_blocs_X1 flX11_blocs_155 rfl dX11_blocs_4 c3 ?_
  refine ts_if_ne (pc' := 10) (tgt := 13) rfl dX11_blocs_7 (by decide) (fun q4 => ?_) (fun q4 => ?_)
  · replace W := W.1 q4
    refine ts_iload_n 1 (pc' := 14) rfl dX11_blocs_13 rfl rfl ?_
    refine ts_iconst (v := 0) (pc' := 15) rfl dX11_blocs_14 (by decide) ?_
    refine ts_iconst (v := 1) (pc' := 16) rfl dX11_blocs_15 (by decide) ?_
    refine ts_callS (M' := mX11_outside) (pc' := 19) (av := [.int p0, .int 0, .int 1]) rfl dX11_blocs_16 rfl gX11_blocs_X11_outside rfl dsX11_outside rfl (Nat.le_refl _) (Nat.le_of_ble_eq_true rfl) (Nat.le_of_ble_eq_true rfl) (Nat.le_refl _) (Nat.le_refl _) ts_kv0 W (ts_kki fun v7 hi5 hk6 W => ?_)
    refine ts_if_eq (pc' := 22) (tgt := 25) rfl dX11_blocs_19 (by decide) (fun q8 => ?_) (fun q8 => ?_)
    · replace W := W.1 q8
      refine ts_aload_n 0 (pc' := 26) rfl dX11_blocs_25 rfl rfl ?_
      refine ts_getR (pc' := 29) (ci := 10) 6 cfX11.1 cfX11.2.1 cfX11.2.2 rfl (by decide) hnX11_blocs_X11 flX11_blocs_65 rfl dX11_blocs_26 c1 c2 ?_
      refine ts_callV (M' := mX1_leastBloc) (C := RX1) (pc' := 32) (av := []) (b := (g.2.2.2 o 6)) rfl dX11_blocs_29 rfl gX11_blocs_X1_leastBloc rfl dvX1_leastBloc rfl (ci := 1) cfX1.1 (by decide) c3 (Nat.le_refl _) (Nat.le_of_ble_eq_true rfl) (Nat.le_of_ble_eq_true rfl) (Nat.le_refl _) (Nat.le_refl _) ts_kv0 W (ts_kki fun v11 hi9 hk10 W => ?_)
      refine ts_istore_n (pc' := 33) (ls' := [(2, .int v11), (0, .ref o), (1, .int p0)]) rfl dX11_blocs_32 rfl (Nat.le_of_ble_eq_true rfl) rfl ?_
      refine ts_iload_n 0 (pc' := 34) rfl dX11_blocs_33 rfl rfl ?_
      refine ts_if_ne (pc' := 37) (tgt := 40) rfl dX11_blocs_34 (by decide) (fun q12 => ?_) (fun q12 => ?_)
      · replace W := W.1 q12
        refine ts_iload_n 2 (pc' := 41) rfl dX11_blocs_40 rfl rfl ?_
        refine ts_if_ne (pc' := 44) (tgt := 51) rfl dX11_blocs_41 (by decide) (fun q13 => ?_) (fun q13 => ?_)
        · replace W := W.1 q13
          refine ts_iload_n 0 (pc' := 52) rfl dX11_blocs_51 rfl rfl ?_
          exact ts_iret dX11_blocs_52 rfl (Nat.le_refl _) (Nat.le_refl _) ⟨rfl, _, rfl, W⟩
        · replace W := W.2 q13
          refine ts_iload_n 0 (pc' := 45) rfl dX11_blocs_44 rfl rfl ?_
          refine ts_callS (M' := mJ6_bitCount_0f7a4) (pc' := 48) (av := [.int v11]) rfl dX11_blocs_45 rfl gX11_blocs_J6_bitCount_0f7a4 rfl dsJ6_bitCount_0f7a4 rfl (Nat.le_refl _) (Nat.le_of_ble_eq_true rfl) (Nat.le_of_ble_eq_true rfl) (Nat.le_refl _) (Nat.le_refl _) ts_kv0 W (ts_kki fun v16 hi14 hk15 W => ?_)
          refine ts_goto (tgt := 52) dX11_blocs_48 (by decide) ?_
          exact ts_iret dX11_blocs_52 rfl (Nat.le_refl _) (Nat.le_refl _) ⟨rfl, _, rfl, W⟩
      · replace W := W.2 q12
        refine ts_ldc (v := (-1000000)) (pc' := 39) rfl dX11_blocs_37 (by decide +kernel) ?_
        exact ts_iret dX11_blocs_39 rfl (Nat.le_refl _) (Nat.le_refl _) ⟨rfl, _, rfl, W⟩
    · replace W := W.2 q8
      refine ts_ldc (v := (-1000001)) (pc' := 24) rfl dX11_blocs_22 (by decide +kernel) ?_
      exact ts_iret dX11_blocs_24 rfl (Nat.le_refl _) (Nat.le_refl _) ⟨rfl, _, rfl, W⟩
  · replace W := W.2 q4
    refine ts_ldc (v := (-1000002)) (pc' := 12) rfl dX11_blocs_10 (by decide +kernel) ?_
    exact ts_iret dX11_blocs_12 rfl (Nat.le_refl _) (Nat.le_refl _) ⟨rfl, _, rfl, W⟩
theorem hnX11_fits_X11 : ∀ w ∈ u_ws RX11 TX11 13, w ∈ wsX11_fits := by decide +kernel
theorem hnX11_fits_X6 : ∀ w ∈ u_ws RX6 TX6 4, w ∈ wsX11_fits := by decide +kernel
theorem flX11_fits_11 : Cond.fieldLink RX11 11 "TurnipSquires" "rows" "[LTurnipSquires$Row;" ∈ wsX11_fits := by decide +kernel
theorem flX11_fits_77 : Cond.fieldLink RX11 77 "TurnipSquires" "seer" "LTurnipSquires$Seer;" ∈ wsX11_fits := by decide +kernel
theorem flX11_fits_101 : Cond.fieldLink RX11 101 "TurnipSquires$Row" "there" "Z" ∈ wsX11_fits := by decide +kernel
set_option maxHeartbeats 4000000 in
theorem wX11_fits_0 {d : Nat} {g : ts_G} {Q : Int32 → ts_I → ts_K → Prop} {o : Nat} {p0 : Int32} {p1 : Int32} {p2 : Int32} {p3 : Int32} {p4 : Int32} {hi : ts_I} {hk : ts_K} (W : (g.2.1 o = 10) ∧ ts_E0 d mX11_isTurnip [.ref o, .int p0] g hi hk (ts_qi (fun v3 hi1 hk2 => ((v3 = 0) → Q (-1000001) hi1 hk2) ∧ (¬ (v3 = 0) → ts_E0 d mX11_isRow [.int p1] g hi1 hk2 (ts_qi (fun v8 hi6 hk7 => ((v8 = 0) → Q (-1000001) hi6 hk7) ∧ (¬ (v8 = 0) → ts_E0 d mX11_outside [.int p3, .int 1, .int 12] g hi6 hk7 (ts_qi (fun v12 hi10 hk11 => ((v12 ≠ 0) → Q (-1000001) hi10 hk11) ∧ (¬ (v12 ≠ 0) → ts_E0 d mX11_outside [.int p4, .int 0, .int 3] g hi10 hk11 (ts_qi (fun v16 hi14 hk15 => ((v16 = 0) → (g.2.2.2 o 0 ≠ 0) ∧ (g.2.1 (g.2.2.2 o 0) = 102) ∧ (vp_in p1 (g.2.2.1 (g.2.2.2 o 0))) ∧ (g.2.2.2 (g.2.2.2 o 0) p1.toNatClampNeg ≠ 0) ∧ (g.2.1 (g.2.2.2 (g.2.2.2 o 0) p1.toNatClampNeg) = 5) ∧ (((hi14 (g.2.2.2 (g.2.2.2 o 0) p1.toNatClampNeg) 1) ≠ 0) → ts_E0 d mX6_has [.ref (g.2.2.2 (g.2.2.2 o 0) p1.toNatClampNeg), .int p2, .int p3] g hi14 hk15 (ts_qi (fun v26 hi24 hk25 => ((v26 ≠ 0) → (g.2.2.2 o 8 ≠ 0) ∧ (g.2.1 (g.2.2.2 o 8) = 6) ∧ ts_E0 d mX7_allFitting [.ref (g.2.2.2 o 8), .int p0, .ref (g.2.2.2 (g.2.2.2 o 0) p1.toNatClampNeg), .int p2, .int p3, .int p4] g hi24 hk25 (ts_qi (fun v31 hi29 hk30 => ts_E0 d mX11_fine [.ref o, .int v31] g hi29 hk30 (ts_qi (fun v35 hi33 hk34 => Q v35 hi33 hk34))))) ∧ (¬ (v26 ≠ 0) → ts_E0 d mX11_found [.ref o, .int 2] g hi24 hk25 (ts_qi (fun v38 hi36 hk37 => Q v38 hi36 hk37)))))) ∧ (¬ ((hi14 (g.2.2.2 (g.2.2.2 o 0) p1.toNatClampNeg) 1) ≠ 0) → ts_E0 d mX11_found [.ref o, .int 1] g hi14 hk15 (ts_qi (fun v41 hi39 hk40 => Q v41 hi39 hk40)))) ∧ (¬ (v16 = 0) → Q (-1000001) hi14 hk15))))))))))))) : ts_J0 (d + 1) mX11_fits (ts_qi Q) g 0 [(0, .ref o), (1, .int p0), (2, .int p1), (3, .int p2), (4, .int p3), (5, .int p4)] [] hi hk := by
  refine ts_aload_n 0 (pc' := 1) rfl dX11_fits_0 rfl rfl ?_
  refine ts_iload_n 1 (pc' := 2) rfl dX11_fits_1 rfl rfl ?_
  obtain ⟨c4, W⟩ := W
  refine ts_callV (M' := mX11_isTurnip) (C := RX11) (pc' := 5) (av := [.int p0]) (b := o) rfl dX11_fits_2 rfl gX11_fits_X11_isTurnip rfl dvX11_isTurnip rfl (ci := 10) cfX11.1 (by decide) c4 (Nat.le_refl _) (Nat.le_of_ble_eq_true rfl) (Nat.le_of_ble_eq_true rfl) (Nat.le_refl _) (Nat.le_refl _) ts_kv0 W (ts_kki fun v3 hi1 hk2 W => ?_)
  refine ts_if_eq (pc' := 8) (tgt := 36) rfl dX11_fits_5 (by decide) (fun q5 => ?_) (fun q5 => ?_)
  · replace W := W.1 q5
    refine ts_ldc (v := (-1000001)) (pc' := 38) rfl dX11_fits_36 (by decide +kernel) ?_
    exact ts_iret dX11_fits_38 rfl (Nat.le_refl _) (Nat.le_refl _) ⟨rfl, _, rfl, W⟩
  · replace W := W.2 q5
    refine ts_iload_n 2 (pc' := 9) rfl dX11_fits_8 rfl rfl ?_
    refine ts_callS (M' := mX11_isRow) (pc' := 12) (av := [.int p1]) rfl dX11_fits_9 rfl gX11_fits_X11_isRow rfl dsX11_isRow rfl (Nat.le_refl _) (Nat.le_of_ble_eq_true rfl) (Nat.le_of_ble_eq_true rfl) (Nat.le_refl _) (Nat.le_refl _) ts_kv0 W (ts_kki fun v8 hi6 hk7 W => ?_)
    refine ts_if_eq (pc' := 15) (tgt := 36) rfl dX11_fits_12 (by decide) (fun q9 => ?_) (fun q9 => ?_)
    · replace W := W.1 q9
      refine ts_ldc (v := (-1000001)) (pc' := 38) rfl dX11_fits_36 (by decide +kernel) ?_
      exact ts_iret dX11_fits_38 rfl (Nat.le_refl _) (Nat.le_refl _) ⟨rfl, _, rfl, W⟩
    · replace W := W.2 q9
      refine ts_iload 4 (pc' := 17) rfl dX11_fits_15 rfl ?_
      refine ts_iconst (v := 1) (pc' := 18) rfl dX11_fits_17 (by decide) ?_
      refine ts_bipush (v := 12) (pc' := 20) rfl dX11_fits_18 (by decide) ?_
      refine ts_callS (M' := mX11_outside) (pc' := 23) (av := [.int p3, .int 1, .int 12]) rfl dX11_fits_20 rfl gX11_fits_X11_outside rfl dsX11_outside rfl (Nat.le_refl _) (Nat.le_of_ble_eq_true rfl) (Nat.le_of_ble_eq_true rfl) (Nat.le_refl _) (Nat.le_refl _) ts_kv0 W (ts_kki fun v12 hi10 hk11 W => ?_)
      refine ts_if_ne (pc' := 26) (tgt := 36) rfl dX11_fits_23 (by decide) (fun q13 => ?_) (fun q13 => ?_)
      · replace W := W.1 q13
        refine ts_ldc (v := (-1000001)) (pc' := 38) rfl dX11_fits_36 (by decide +kernel) ?_
        exact ts_iret dX11_fits_38 rfl (Nat.le_refl _) (Nat.le_refl _) ⟨rfl, _, rfl, W⟩
      · replace W := W.2 q13
        refine ts_iload 5 (pc' := 28) rfl dX11_fits_26 rfl ?_
        refine ts_iconst (v := 0) (pc' := 29) rfl dX11_fits_28 (by decide) ?_
        refine ts_iconst (v := 3) (pc' := 30) rfl dX11_fits_29 (by decide) ?_
        refine ts_callS (M' := mX11_outside) (pc' := 33) (av := [.int p4, .int 0, .int 3]) rfl dX11_fits_30 rfl gX11_fits_X11_outside rfl dsX11_outside rfl (Nat.le_refl _) (Nat.le_of_ble_eq_true rfl) (Nat.le_of_ble_eq_true rfl) (Nat.le_refl _) (Nat.le_refl _) ts_kv0 W (ts_kki fun v16 hi14 hk15 W => ?_)
        refine ts_if_eq (pc' := 36) (tgt := 39) rfl dX11_fits_33 (by decide) (fun q17 => ?_) (fun q17 => ?_)
        · replace W := W.1 q17
          refine ts_aload_n 0 (pc' := 40) rfl dX11_fits_39 rfl rfl ?_
          obtain ⟨c18, W⟩ := W
          refine ts_getR (pc' := 43) (ci := 10) 0 cfX11.1 cfX11.2.1 cfX11.2.2 rfl (by decide) hnX11_fits_X11 flX11_fits_11 rfl dX11_fits_40 c4 c18 ?_
          refine ts_iload_n 2 (pc' := 44) rfl dX11_fits_43 rfl rfl ?_
          obtain ⟨c19, W⟩ := W
          obtain ⟨c20, W⟩ := W
          obtain ⟨c21, W⟩ := W
          refine ts_aaloadR (pc' := 45) rfl dX11_fits_44 c19 c20 c21 ?_
          refine ts_astore (pc' := 47) (ls' := [(6, .ref (g.2.2.2 (g.2.2.2 o 0) p1.toNatClampNeg)), (0, .ref o), (1, .int p0), (2, .int p1), (3, .int p2), (4, .int p3), (5, .int p4)]) rfl dX11_fits_45 (Nat.le_of_ble_eq_true rfl) rfl ?_
          refine ts_aload 0 (pc' := 49) rfl dX11_fits_47 rfl ?_
          obtain ⟨c22, W⟩ := W
          refine ts_getI (pc' := 52) (ci := 5) 1 cfX6.1 cfX6.2.1 cfX6.2.2 rfl (by decide) hnX11_fits_X6 flX11_fits_101 rfl dX11_fits_49 c22 ?_
          refine ts_if_ne (pc' := 55) (tgt := 61) rfl dX11_fits_52 (by decide) (fun q23 => ?_) (fun q23 => ?_)
          · replace W := W.1 q23
            refine ts_aload 0 (pc' := 63) rfl dX11_fits_61 rfl ?_
            refine ts_iload_n 4 (pc' := 64) rfl dX11_fits_63 rfl rfl ?_
            refine ts_iload 5 (pc' := 66) rfl dX11_fits_64 rfl ?_
            refine ts_callV (M' := mX6_has) (C := RX6) (pc' := 69) (av := [.int p2, .int p3]) (b := (g.2.2.2 (g.2.2.2 o 0) p1.toNatClampNeg)) rfl dX11_fits_66 rfl gX11_fits_X6_has rfl dvX6_has rfl (ci := 5) cfX6.1 (by decide) c22 (Nat.le_refl _) (Nat.le_of_ble_eq_true rfl) (Nat.le_of_ble_eq_true rfl) (Nat.le_refl _) (Nat.le_refl _) ts_kv0 W (ts_kki fun v26 hi24 hk25 W => ?_)
            refine ts_if_ne (pc' := 72) (tgt := 78) rfl dX11_fits_69 (by decide) (fun q27 => ?_) (fun q27 => ?_)
            · replace W := W.1 q27
              refine ts_aload_n 1 (pc' := 79) rfl dX11_fits_78 rfl rfl ?_
              refine ts_aload_n 1 (pc' := 80) rfl dX11_fits_79 rfl rfl ?_
              obtain ⟨c28, W⟩ := W
              refine ts_getR (pc' := 83) (ci := 10) 8 cfX11.1 cfX11.2.1 cfX11.2.2 rfl (by decide) hnX11_fits_X11 flX11_fits_77 rfl dX11_fits_80 c4 c28 ?_
              refine ts_iload_n 2 (pc' := 84) rfl dX11_fits_83 rfl rfl ?_
              refine ts_aload 0 (pc' := 86) rfl dX11_fits_84 rfl ?_
              refine ts_iload_n 4 (pc' := 87) rfl dX11_fits_86 rfl rfl ?_
              refine ts_iload 5 (pc' := 89) rfl dX11_fits_87 rfl ?_
              refine ts_iload 6 (pc' := 91) rfl dX11_fits_89 rfl ?_
              obtain ⟨c32, W⟩ := W
              refine ts_callV (M' := mX7_allFitting) (C := RX7) (pc' := 94) (av := [.int p0, .ref (g.2.2.2 (g.2.2.2 o 0) p1.toNatClampNeg), .int p2, .int p3, .int p4]) (b := (g.2.2.2 o 8)) rfl dX11_fits_91 rfl gX11_fits_X7_allFitting rfl dvX7_allFitting rfl (ci := 6) cfX7.1 (by decide) c32 (Nat.le_refl _) (Nat.le_of_ble_eq_true rfl) (Nat.le_of_ble_eq_true rfl) (Nat.le_refl _) (Nat.le_refl _) ts_kv0 W (ts_kki fun v31 hi29 hk30 W => ?_)
              refine ts_callV (M' := mX11_fine) (C := RX11) (pc' := 97) (av := [.int v31]) (b := o) rfl dX11_fits_94 rfl gX11_fits_X11_fine rfl dvX11_fine rfl (ci := 10) cfX11.1 (by decide) c4 (Nat.le_refl _) (Nat.le_of_ble_eq_true rfl) (Nat.le_of_ble_eq_true rfl) (Nat.le_refl _) (Nat.le_refl _) ts_kv0 W (ts_kki fun v35 hi33 hk34 W => ?_)
              exact ts_iret dX11_fits_97 rfl (Nat.le_refl _) (Nat.le_refl _) ⟨rfl, _, rfl, W⟩
            · replace W := W.2 q27
              refine ts_aload_n 1 (pc' := 73) rfl dX11_fits_72 rfl rfl ?_
              refine ts_iconst (v := 2) (pc' := 74) rfl dX11_fits_73 (by decide) ?_
              refine ts_callV (M' := mX11_found) (C := RX11) (pc' := 77) (av := [.int 2]) (b := o) rfl dX11_fits_74 rfl gX11_fits_X11_found rfl dvX11_found rfl (ci := 10) cfX11.1 (by decide) c4 (Nat.le_refl _) (Nat.le_of_ble_eq_true rfl) (Nat.le_of_ble_eq_true rfl) (Nat.le_refl _) (Nat.le_refl _) ts_kv0 W (ts_kki fun v38 hi36 hk37 W => ?_)
              exact ts_iret dX11_fits_77 rfl (Nat.le_refl _) (Nat.le_refl _) ⟨rfl, _, rfl, W⟩
          · replace W := W.2 q23
            refine ts_aload_n 1 (pc' := 56) rfl dX11_fits_55 rfl rfl ?_
            refine ts_iconst (v := 1) (pc' := 57) rfl dX11_fits_56 (by decide) ?_
            refine ts_callV (M' := mX11_found) (C := RX11) (pc' := 60) (av := [.int 1]) (b := o) rfl dX11_fits_57 rfl gX11_fits_X11_found rfl dvX11_found rfl (ci := 10) cfX11.1 (by decide) c4 (Nat.le_refl _) (Nat.le_of_ble_eq_true rfl) (Nat.le_of_ble_eq_true rfl) (Nat.le_refl _) (Nat.le_refl _) ts_kv0 W (ts_kki fun v41 hi39 hk40 W => ?_)
            exact ts_iret dX11_fits_60 rfl (Nat.le_refl _) (Nat.le_refl _) ⟨rfl, _, rfl, W⟩
        · replace W := W.2 q17
          refine ts_ldc (v := (-1000001)) (pc' := 38) rfl dX11_fits_36 (by decide +kernel) ?_
          exact ts_iret dX11_fits_38 rfl (Nat.le_refl _) (Nat.le_refl _) ⟨rfl, _, rfl, W⟩
theorem hnX11_chance_X11 : ∀ w ∈ u_ws RX11 TX11 13, w ∈ wsX11_chance := by decide +kernel
theorem flX11_chance_77 : Cond.fieldLink RX11 77 "TurnipSquires" "seer" "LTurnipSquires$Seer;" ∈ wsX11_chance := by decide +kernel
set_option maxHeartbeats 4000000 in
theorem wX11_chance_0 {d : Nat} {g : ts_G} {Q : Int32 → ts_I → ts_K → Prop} {o : Nat} {p0 : Int32} {p1 : Int32} {p2 : Int32} {p3 : Int32} {p4 : Int32} {hi : ts_I} {hk : ts_K} (W : (g.2.1 o = 10) ∧ ts_E0 d mX11_isTurnip [.ref o, .int p0] g hi hk (ts_qi (fun v3 hi1 hk2 => ((v3 = 0) → Q (-1000001) hi1 hk2) ∧ (¬ (v3 = 0) → ts_E0 d mX11_outside [.int p1, .int 0, .int 9] g hi1 hk2 (ts_qi (fun v8 hi6 hk7 => ((v8 ≠ 0) → Q (-1000001) hi6 hk7) ∧ (¬ (v8 ≠ 0) → ts_E0 d mX11_outside [.int p2, .int 0, .int 8] g hi6 hk7 (ts_qi (fun v12 hi10 hk11 => ((v12 ≠ 0) → Q (-1000001) hi10 hk11) ∧ (¬ (v12 ≠ 0) → ts_E0 d mX11_outside [.int p3, .int 0, .int 10] g hi10 hk11 (ts_qi (fun v16 hi14 hk15 => ((v16 ≠ 0) → Q (-1000001) hi14 hk15) ∧ (¬ (v16 ≠ 0) → ts_E0 d mX11_outside [.int p4, .int 0, .int 1] g hi14 hk15 (ts_qi (fun v20 hi18 hk19 => ((v20 = 0) → (g.2.2.2 o 8 ≠ 0) ∧ (g.2.1 (g.2.2.2 o 8) = 6) ∧ ts_E0 d mX7_waysToRise [.ref (g.2.2.2 o 8), .int p0, .int p1, .int p2, .int p3] g hi18 hk19 (ts_qi (fun v25 hi23 hk24 => ts_J0 (d + 1) mX11_chance (ts_qi Q) g 72 [(3, .int p2), (5, .int p4), (6, .int v25), (7, .int 1), (8, .int 0)] [] hi23 hk24))) ∧ (¬ (v20 = 0) → Q (-1000001) hi18 hk19)))))))))))))))) : ts_J0 (d + 1) mX11_chance (ts_qi Q) g 0 [(0, .ref o), (1, .int p0), (2, .int p1), (3, .int p2), (4, .int p3), (5, .int p4)] [] hi hk := by
  refine ts_aload_n 0 (pc' := 1) rfl dX11_chance_0 rfl rfl ?_
  refine ts_iload_n 1 (pc' := 2) rfl dX11_chance_1 rfl rfl ?_
  obtain ⟨c4, W⟩ := W
  refine ts_callV (M' := mX11_isTurnip) (C := RX11) (pc' := 5) (av := [.int p0]) (b := o) rfl dX11_chance_2 rfl gX11_chance_X11_isTurnip rfl dvX11_isTurnip rfl (ci := 10) cfX11.1 (by decide) c4 (Nat.le_refl _) (Nat.le_of_ble_eq_true rfl) (Nat.le_of_ble_eq_true rfl) (Nat.le_refl _) (Nat.le_refl _) ts_kv0 W (ts_kki fun v3 hi1 hk2 W => ?_)
  refine ts_if_eq (pc' := 8) (tgt := 49) rfl dX11_chance_5 (by decide) (fun q5 => ?_) (fun q5 => ?_)
  · replace W := W.1 q5
    refine ts_ldc (v := (-1000001)) (pc' := 51) rfl dX11_chance_49 (by decide +kernel) ?_
    exact ts_iret dX11_chance_51 rfl (Nat.le_refl _) (Nat.le_refl _) ⟨rfl, _, rfl, W⟩
  · replace W := W.2 q5
    refine ts_iload_n 2 (pc' := 9) rfl dX11_chance_8 rfl rfl ?_
    refine ts_iconst (v := 0) (pc' := 10) rfl dX11_chance_9 (by decide) ?_
    refine ts_bipush (v := 9) (pc' := 12) rfl dX11_chance_10 (by decide) ?_
    refine ts_callS (M' := mX11_outside) (pc' := 15) (av := [.int p1, .int 0, .int 9]) rfl dX11_chance_12 rfl gX11_chance_X11_outside rfl dsX11_outside rfl (Nat.le_refl _) (Nat.le_of_ble_eq_true rfl) (Nat.le_of_ble_eq_true rfl) (Nat.le_refl _) (Nat.le_refl _) ts_kv0 W (ts_kki fun v8 hi6 hk7 W => ?_)
    refine ts_if_ne (pc' := 18) (tgt := 49) rfl dX11_chance_15 (by decide) (fun q9 => ?_) (fun q9 => ?_)
    · replace W := W.1 q9
      refine ts_ldc (v := (-1000001)) (pc' := 51) rfl dX11_chance_49 (by decide +kernel) ?_
      exact ts_iret dX11_chance_51 rfl (Nat.le_refl _) (Nat.le_refl _) ⟨rfl, _, rfl, W⟩
    · replace W := W.2 q9
      refine ts_iload_n 3 (pc' := 19) rfl dX11_chance_18 rfl rfl ?_
      refine ts_iconst (v := 0) (pc' := 20) rfl dX11_chance_19 (by decide) ?_
      refine ts_bipush (v := 8) (pc' := 22) rfl dX11_chance_20 (by decide) ?_
      refine ts_callS (M' := mX11_outside) (pc' := 25) (av := [.int p2, .int 0, .int 8]) rfl dX11_chance_22 rfl gX11_chance_X11_outside rfl dsX11_outside rfl (Nat.le_refl _) (Nat.le_of_ble_eq_true rfl) (Nat.le_of_ble_eq_true rfl) (Nat.le_refl _) (Nat.le_refl _) ts_kv0 W (ts_kki fun v12 hi10 hk11 W => ?_)
      refine ts_if_ne (pc' := 28) (tgt := 49) rfl dX11_chance_25 (by decide) (fun q13 => ?_) (fun q13 => ?_)
      · replace W := W.1 q13
        refine ts_ldc (v := (-1000001)) (pc' := 51) rfl dX11_chance_49 (by decide +kernel) ?_
        exact ts_iret dX11_chance_51 rfl (Nat.le_refl _) (Nat.le_refl _) ⟨rfl, _, rfl, W⟩
      · replace W := W.2 q13
        refine ts_iload 4 (pc' := 30) rfl dX11_chance_28 rfl ?_
        refine ts_iconst (v := 0) (pc' := 31) rfl dX11_chance_30 (by decide) ?_
        refine ts_bipush (v := 10) (pc' := 33) rfl dX11_chance_31 (by decide) ?_
        refine ts_callS (M' := mX11_outside) (pc' := 36) (av := [.int p3, .int 0, .int 10]) rfl dX11_chance_33 rfl gX11_chance_X11_outside rfl dsX11_outside rfl (Nat.le_refl _) (Nat.le_of_ble_eq_true rfl) (Nat.le_of_ble_eq_true rfl) (Nat.le_refl _) (Nat.le_refl _) ts_kv0 W (ts_kki fun v16 hi14 hk15 W => ?_)
        refine ts_if_ne (pc' := 39) (tgt := 49) rfl dX11_chance_36 (by decide) (fun q17 => ?_) (fun q17 => ?_)
        · replace W := W.1 q17
          refine ts_ldc (v := (-1000001)) (pc' := 51) rfl dX11_chance_49 (by decide +kernel) ?_
          exact ts_iret dX11_chance_51 rfl (Nat.le_refl _) (Nat.le_refl _) ⟨rfl, _, rfl, W⟩
        · replace W := W.2 q17
          refine ts_iload 5 (pc' := 41) rfl dX11_chance_39 rfl ?_
          refine ts_iconst (v := 0) (pc' := 42) rfl dX11_chance_41 (by decide) ?_
          refine ts_iconst (v := 1) (pc' := 43) rfl dX11_chance_42 (by decide) ?_
          refine ts_callS (M' := mX11_outside) (pc' := 46) (av := [.int p4, .int 0, .int 1]) rfl dX11_chance_43 rfl gX11_chance_X11_outside rfl dsX11_outside rfl (Nat.le_refl _) (Nat.le_of_ble_eq_true rfl) (Nat.le_of_ble_eq_true rfl) (Nat.le_refl _) (Nat.le_refl _) ts_kv0 W (ts_kki fun v20 hi18 hk19 W => ?_)
          refine ts_if_eq (pc' := 49) (tgt := 52) rfl dX11_chance_46 (by decide) (fun q21 => ?_) (fun q21 => ?_)
          · replace W := W.1 q21
            refine ts_aload_n 0 (pc' := 53) rfl dX11_chance_52 rfl rfl ?_
            obtain ⟨c22, W⟩ := W
            refine ts_getR (pc' := 56) (ci := 10) 8 cfX11.1 cfX11.2.1 cfX11.2.2 rfl (by decide) hnX11_chance_X11 flX11_chance_77 rfl dX11_chance_53 c4 c22 ?_
            refine ts_iload_n 1 (pc' := 57) rfl dX11_chance_56 rfl rfl ?_
            refine ts_iload_n 2 (pc' := 58) rfl dX11_chance_57 rfl rfl ?_
            refine ts_iload_n 3 (pc' := 59) rfl dX11_chance_58 rfl rfl ?_
            refine ts_iload 4 (pc' := 61) rfl dX11_chance_59 rfl ?_
            obtain ⟨c26, W⟩ := W
            refine ts_callV (M' := mX7_waysToRise) (C := RX7) (pc' := 64) (av := [.int p0, .int p1, .int p2, .int p3]) (b := (g.2.2.2 o 8)) rfl dX11_chance_61 rfl gX11_chance_X7_waysToRise rfl dvX7_waysToRise rfl (ci := 6) cfX7.1 (by decide) c26 (Nat.le_refl _) (Nat.le_of_ble_eq_true rfl) (Nat.le_of_ble_eq_true rfl) (Nat.le_refl _) (Nat.le_refl _) ts_kv0 W (ts_kki fun v25 hi23 hk24 W => ?_)
            refine ts_istore (pc' := 66) (ls' := [(6, .int v25), (0, .ref o), (1, .int p0), (2, .int p1), (3, .int p2), (4, .int p3), (5, .int p4)]) rfl dX11_chance_64 (Nat.le_of_ble_eq_true rfl) rfl ?_
            refine ts_iconst (v := 1) (pc' := 67) rfl dX11_chance_66 (by decide) ?_
            refine ts_istore (pc' := 69) (ls' := [(7, .int 1), (6, .int v25), (0, .ref o), (1, .int p0), (2, .int p1), (3, .int p2), (4, .int p3), (5, .int p4)]) rfl dX11_chance_67 (Nat.le_of_ble_eq_true rfl) rfl ?_
            refine ts_iconst (v := 0) (pc' := 70) rfl dX11_chance_69 (by decide) ?_
            refine ts_istore (pc' := 72) (ls' := [(8, .int 0), (7, .int 1), (6, .int v25), (0, .ref o), (1, .int p0), (2, .int p1), (3, .int p2), (4, .int p3), (5, .int p4)]) rfl dX11_chance_70 (Nat.le_of_ble_eq_true rfl) rfl ?_
            exact ts_sub [6, 8, 2, 1, 0] rfl W
          · replace W := W.2 q21
            refine ts_ldc (v := (-1000001)) (pc' := 51) rfl dX11_chance_49 (by decide +kernel) ?_
            exact ts_iret dX11_chance_51 rfl (Nat.le_refl _) (Nat.le_refl _) ⟨rfl, _, rfl, W⟩
set_option maxHeartbeats 4000000 in
theorem wX11_chance_72 {d : Nat} {g : ts_G} {Q : Int32 → ts_I → ts_K → Prop} {l3 : Int32} {l5 : Int32} {l6 : Int32} {l7 : Int32} {l8 : Int32} {hi : ts_I} {hk : ts_K} (W : ((l3 ≤ l8) → ts_J0 (d + 1) mX11_chance (ts_qi Q) g 94 [(3, .int l3), (5, .int l5), (6, .int l6), (7, .int l7), (8, .int 0)] [] hi hk) ∧ (¬ (l3 ≤ l8) → ts_J0 (d + 1) mX11_chance (ts_qi Q) g 72 [(3, .int l3), (5, .int l5), (6, .int l6), (7, .int (l7 * 10)), (8, .int (l8 + 1))] [] hi hk)) : ts_J0 (d + 1) mX11_chance (ts_qi Q) g 72 [(3, .int l3), (5, .int l5), (6, .int l6), (7, .int l7), (8, .int l8)] [] hi hk := by
  refine ts_iload 4 (pc' := 74) rfl dX11_chance_72 rfl ?_
  refine ts_iload_n 0 (pc' := 75) rfl dX11_chance_74 rfl rfl ?_
  refine ts_icmp_ge (pc' := 78) (tgt := 91) rfl dX11_chance_75 (by decide) (fun q1 => ?_) (fun q1 => ?_)
  · replace W := W.1 q1
    refine ts_iconst (v := 0) (pc' := 92) rfl dX11_chance_91 (by decide) ?_
    refine ts_istore (pc' := 94) (ls' := [(8, .int 0), (3, .int l3), (5, .int l5), (6, .int l6), (7, .int l7)]) rfl dX11_chance_92 (Nat.le_of_ble_eq_true rfl) rfl ?_
    exact ts_sub [1, 2, 3, 4, 0] rfl W
  · replace W := W.2 q1
    refine ts_iload 3 (pc' := 80) rfl dX11_chance_78 rfl ?_
    refine ts_bipush (v := 10) (pc' := 82) rfl dX11_chance_80 (by decide) ?_
    refine ts_imul (pc' := 83) rfl dX11_chance_82 ?_
    refine ts_istore (pc' := 85) (ls' := [(7, .int (l7 * 10)), (3, .int l3), (5, .int l5), (6, .int l6), (8, .int l8)]) rfl dX11_chance_83 (Nat.le_of_ble_eq_true rfl) rfl ?_
    refine ts_iinc 4 (pc' := 88) (ls' := [(8, .int (l8 + 1)), (7, .int (l7 * 10)), (3, .int l3), (5, .int l5), (6, .int l6)]) rfl dX11_chance_85 rfl rfl (Nat.le_of_ble_eq_true rfl) rfl ?_
    refine ts_goto (tgt := 72) dX11_chance_88 (by decide) ?_
    exact ts_sub [2, 3, 4, 1, 0] rfl W
set_option maxHeartbeats 4000000 in
theorem wX11_chance_94 {d : Nat} {g : ts_G} {Q : Int32 → ts_I → ts_K → Prop} {l3 : Int32} {l5 : Int32} {l6 : Int32} {l7 : Int32} {l8 : Int32} {hi : ts_I} {hk : ts_K} (W : ((l3 ≤ l8) → ((l5 ≠ 0) → Q l7 hi hk) ∧ (¬ (l5 ≠ 0) → Q l6 hi hk)) ∧ (¬ (l3 ≤ l8) → (((l6 - l6 / 2 * 2) ≠ 0) → (((l6 - l6 / 5 * 5) ≠ 0) → ts_J0 (d + 1) mX11_chance (ts_qi Q) g 94 [(3, .int l3), (5, .int l5), (6, .int l6), (7, .int l7), (8, .int (l8 + 1))] [] hi hk) ∧ (¬ ((l6 - l6 / 5 * 5) ≠ 0) → ts_J0 (d + 1) mX11_chance (ts_qi Q) g 94 [(3, .int l3), (5, .int l5), (6, .int (l6 / 5)), (7, .int (l7 / 5)), (8, .int (l8 + 1))] [] hi hk)) ∧ (¬ ((l6 - l6 / 2 * 2) ≠ 0) → ((((l6 / 2) - (l6 / 2) / 5 * 5) ≠ 0) → ts_J0 (d + 1) mX11_chance (ts_qi Q) g 94 [(3, .int l3), (5, .int l5), (6, .int (l6 / 2)), (7, .int (l7 / 2)), (8, .int (l8 + 1))] [] hi hk) ∧ (¬ (((l6 / 2) - (l6 / 2) / 5 * 5) ≠ 0) → ts_J0 (d + 1) mX11_chance (ts_qi Q) g 94 [(3, .int l3), (5, .int l5), (6, .int ((l6 / 2) / 5)), (7, .int ((l7 / 2) / 5)), (8, .int (l8 + 1))] [] hi hk)))) : ts_J0 (d + 1) mX11_chance (ts_qi Q) g 94 [(3, .int l3), (5, .int l5), (6, .int l6), (7, .int l7), (8, .int l8)] [] hi hk := by
  refine ts_iload 4 (pc' := 96) rfl dX11_chance_94 rfl ?_
  refine ts_iload_n 0 (pc' := 97) rfl dX11_chance_96 rfl rfl ?_
  refine ts_icmp_ge (pc' := 100) (tgt := 144) rfl dX11_chance_97 (by decide) (fun q1 => ?_) (fun q1 => ?_)
  · replace W := W.1 q1
    refine ts_iload 1 (pc' := 146) rfl dX11_chance_144 rfl ?_
    refine ts_if_ne (pc' := 149) (tgt := 154) rfl dX11_chance_146 (by decide) (fun q2 => ?_) (fun q2 => ?_)
    · replace W := W.1 q2
      refine ts_iload 3 (pc' := 156) rfl dX11_chance_154 rfl ?_
      exact ts_iret dX11_chance_156 rfl (Nat.le_refl _) (Nat.le_refl _) ⟨rfl, _, rfl, W⟩
    · replace W := W.2 q2
      refine ts_iload 2 (pc' := 151) rfl dX11_chance_149 rfl ?_
      refine ts_goto (tgt := 156) dX11_chance_151 (by decide) ?_
      exact ts_iret dX11_chance_156 rfl (Nat.le_refl _) (Nat.le_refl _) ⟨rfl, _, rfl, W⟩
  · replace W := W.2 q1
    refine ts_iload 2 (pc' := 102) rfl dX11_chance_100 rfl ?_
    refine ts_iconst (v := 2) (pc' := 103) rfl dX11_chance_102 (by decide) ?_
    refine ts_irem (pc' := 104) rfl dX11_chance_103 (by decide) ?_
    refine ts_if_ne (pc' := 107) (tgt := 119) rfl dX11_chance_104 (by decide) (fun q3 => ?_) (fun q3 => ?_)
    · replace W := W.1 q3
      refine ts_iload 2 (pc' := 121) rfl dX11_chance_119 rfl ?_
      refine ts_iconst (v := 5) (pc' := 122) rfl dX11_chance_121 (by decide) ?_
      refine ts_irem (pc' := 123) rfl dX11_chance_122 (by decide) ?_
      refine ts_if_ne (pc' := 126) (tgt := 138) rfl dX11_chance_123 (by decide) (fun q4 => ?_) (fun q4 => ?_)
      · replace W := W.1 q4
        refine ts_iinc 4 (pc' := 141) (ls' := [(8, .int (l8 + 1)), (3, .int l3), (5, .int l5), (6, .int l6), (7, .int l7)]) rfl dX11_chance_138 rfl rfl (Nat.le_of_ble_eq_true rfl) rfl ?_
        refine ts_goto (tgt := 94) dX11_chance_141 (by decide) ?_
        exact ts_sub [1, 2, 3, 4, 0] rfl W
      · replace W := W.2 q4
        refine ts_iload 2 (pc' := 128) rfl dX11_chance_126 rfl ?_
        refine ts_iconst (v := 5) (pc' := 129) rfl dX11_chance_128 (by decide) ?_
        refine ts_idiv (pc' := 130) rfl dX11_chance_129 (by decide) ?_
        refine ts_istore (pc' := 132) (ls' := [(6, .int (l6 / 5)), (3, .int l3), (5, .int l5), (7, .int l7), (8, .int l8)]) rfl dX11_chance_130 (Nat.le_of_ble_eq_true rfl) rfl ?_
        refine ts_iload 3 (pc' := 134) rfl dX11_chance_132 rfl ?_
        refine ts_iconst (v := 5) (pc' := 135) rfl dX11_chance_134 (by decide) ?_
        refine ts_idiv (pc' := 136) rfl dX11_chance_135 (by decide) ?_
        refine ts_istore (pc' := 138) (ls' := [(7, .int (l7 / 5)), (6, .int (l6 / 5)), (3, .int l3), (5, .int l5), (8, .int l8)]) rfl dX11_chance_136 (Nat.le_of_ble_eq_true rfl) rfl ?_
        refine ts_iinc 4 (pc' := 141) (ls' := [(8, .int (l8 + 1)), (7, .int (l7 / 5)), (6, .int (l6 / 5)), (3, .int l3), (5, .int l5)]) rfl dX11_chance_138 rfl rfl (Nat.le_of_ble_eq_true rfl) rfl ?_
        refine ts_goto (tgt := 94) dX11_chance_141 (by decide) ?_
        exact ts_sub [3, 4, 2, 1, 0] rfl W
    · replace W := W.2 q3
      refine ts_iload 2 (pc' := 109) rfl dX11_chance_107 rfl ?_
      refine ts_iconst (v := 2) (pc' := 110) rfl dX11_chance_109 (by decide) ?_
      refine ts_idiv (pc' := 111) rfl dX11_chance_110 (by decide) ?_
      refine ts_istore (pc' := 113) (ls' := [(6, .int (l6 / 2)), (3, .int l3), (5, .int l5), (7, .int l7), (8, .int l8)]) rfl dX11_chance_111 (Nat.le_of_ble_eq_true rfl) rfl ?_
      refine ts_iload 3 (pc' := 115) rfl dX11_chance_113 rfl ?_
      refine ts_iconst (v := 2) (pc' := 116) rfl dX11_chance_115 (by decide) ?_
      refine ts_idiv (pc' := 117) rfl dX11_chance_116 (by decide) ?_
      refine ts_istore (pc' := 119) (ls' := [(7, .int (l7 / 2)), (6, .int (l6 / 2)), (3, .int l3), (5, .int l5), (8, .int l8)]) rfl dX11_chance_117 (Nat.le_of_ble_eq_true rfl) rfl ?_
      refine ts_iload 1 (pc' := 121) rfl dX11_chance_119 rfl ?_
      refine ts_iconst (v := 5) (pc' := 122) rfl dX11_chance_121 (by decide) ?_
      refine ts_irem (pc' := 123) rfl dX11_chance_122 (by decide) ?_
      refine ts_if_ne (pc' := 126) (tgt := 138) rfl dX11_chance_123 (by decide) (fun q5 => ?_) (fun q5 => ?_)
      · replace W := W.1 q5
        refine ts_iinc 4 (pc' := 141) (ls' := [(8, .int (l8 + 1)), (7, .int (l7 / 2)), (6, .int (l6 / 2)), (3, .int l3), (5, .int l5)]) rfl dX11_chance_138 rfl rfl (Nat.le_of_ble_eq_true rfl) rfl ?_
        refine ts_goto (tgt := 94) dX11_chance_141 (by decide) ?_
        exact ts_sub [3, 4, 2, 1, 0] rfl W
      · replace W := W.2 q5
        refine ts_iload 1 (pc' := 128) rfl dX11_chance_126 rfl ?_
        refine ts_iconst (v := 5) (pc' := 129) rfl dX11_chance_128 (by decide) ?_
        refine ts_idiv (pc' := 130) rfl dX11_chance_129 (by decide) ?_
        refine ts_istore (pc' := 132) (ls' := [(6, .int ((l6 / 2) / 5)), (7, .int (l7 / 2)), (3, .int l3), (5, .int l5), (8, .int l8)]) rfl dX11_chance_130 (Nat.le_of_ble_eq_true rfl) rfl ?_
        refine ts_iload 1 (pc' := 134) rfl dX11_chance_132 rfl ?_
        refine ts_iconst (v := 5) (pc' := 135) rfl dX11_chance_134 (by decide) ?_
        refine ts_idiv (pc' := 136) rfl dX11_chance_135 (by decide) ?_
        refine ts_istore (pc' := 138) (ls' := [(7, .int ((l7 / 2) / 5)), (6, .int ((l6 / 2) / 5)), (3, .int l3), (5, .int l5), (8, .int l8)]) rfl dX11_chance_136 (Nat.le_of_ble_eq_true rfl) rfl ?_
        refine ts_iinc 4 (pc' := 141) (ls' := [(8, .int (l8 + 1)), (7, .int ((l7 / 2) / 5)), (6, .int ((l6 / 2) / 5)), (3, .int l3), (5, .int l5)]) rfl dX11_chance_138 rfl rfl (Nat.le_of_ble_eq_true rfl) rfl ?_
        refine ts_goto (tgt := 94) dX11_chance_141 (by decide) ?_
        exact ts_sub [3, 4, 2, 1, 0] rfl W
theorem hnX11_drawn_X1 : ∀ w ∈ u_ws RX1 TX1 13, w ∈ wsX11_drawn := by decide +kernel
theorem hnX11_drawn_X11 : ∀ w ∈ u_ws RX11 TX11 13, w ∈ wsX11_drawn := by decide +kernel
theorem flX11_drawn_65 : Cond.fieldLink RX11 65 "TurnipSquires" "now" "LTurnipSquires$Field;" ∈ wsX11_drawn := by decide +kernel
theorem flX11_drawn_77 : Cond.fieldLink RX11 77 "TurnipSquires" "seer" "LTurnipSquires$Seer;" ∈ wsX11_drawn := by decide +kernel
theorem flX11_drawn_155 : Cond.fieldLink RX11 155 "TurnipSquires$Field" "count" "I" ∈ wsX11_drawn := by decide +kernel
set_option maxHeartbeats 4000000 in
theorem wX11_drawn_0 {d : Nat} {g : ts_G} {Q : Int32 → ts_I → ts_K → Prop} {o : Nat} {p0 : Int32} {p1 : Int32} {p2 : Int32} {hi : ts_I} {hk : ts_K} (W : (g.2.1 o = 10) ∧ (g.2.2.2 o 6 ≠ 0) ∧ (g.2.1 (g.2.2.2 o 6) = 1) ∧ (((hi (g.2.2.2 o 6) 9) ≠ 0) → ts_E0 d mX11_outside [.int p0, .int 0, .int 60] g hi hk (ts_qi (fun v7 hi5 hk6 => ((v7 ≠ 0) → Q (-1000001) hi5 hk6) ∧ (¬ (v7 ≠ 0) → ts_E0 d mX11_outside [.int p1, .int 1, .int 999999] g hi5 hk6 (ts_qi (fun v11 hi9 hk10 => ((v11 ≠ 0) → Q (-1000001) hi9 hk10) ∧ (¬ (v11 ≠ 0) → ts_E0 d mX11_outside [.int p2, .int 0, .int 1] g hi9 hk10 (ts_qi (fun v15 hi13 hk14 => ((v15 = 0) → (g.2.2.2 o 8 ≠ 0) ∧ (g.2.1 (g.2.2.2 o 8) = 6) ∧ ts_E0 d mX7_century [.ref (g.2.2.2 o 8), .int p0, .int p1] g hi13 hk14 (ts_qr (fun a20 hi18 hk19 => ((p2 ≠ 0) → (g.2.1 a20 = 1) ∧ ts_E0 d mX1_allGrown [.ref a20] g hi18 hk19 (ts_qi (fun v25 hi23 hk24 => Q v25 hi23 hk24))) ∧ (¬ (p2 ≠ 0) → (g.2.1 a20 = 1) ∧ ts_E0 d mX1_allRanks [.ref a20] g hi18 hk19 (ts_qi (fun v29 hi27 hk28 => Q v29 hi27 hk28)))))) ∧ (¬ (v15 = 0) → Q (-1000001) hi13 hk14)))))))))) ∧ (¬ ((hi (g.2.2.2 o 6) 9) ≠ 0) → Q (-1000002) hi hk)) : ts_J0 (d + 1) mX11_drawn (ts_qi Q) g 0 [(0, .ref o), (1, .int p0), (2, .int p1), (3, .int p2)] [] hi hk := by
  refine ts_aload_n 0 (pc' := 1) rfl dX11_drawn_0 rfl rfl ?_
  obtain ⟨c1, W⟩ := W
  obtain ⟨c2, W⟩ := W
  refine ts_getR (pc' := 4) (ci := 10) 6 cfX11.1 cfX11.2.1 cfX11.2.2 rfl (by decide) hnX11_drawn_X11 flX11_drawn_65 rfl dX11_drawn_1 c1 c2 ?_
  obtain ⟨c3, W⟩ := W
  refine ts_getI (pc' := 7) (ci := 1) 9 cfX1.1 cfX1.2.1 cfX1.2.2 rfl (by decide) hnX11_drawn_X1 flX11_drawn_155 rfl dX11_drawn_4 c3 ?_
  refine ts_if_ne (pc' := 10) (tgt := 13) rfl dX11_drawn_7 (by decide) (fun q4 => ?_) (fun q4 => ?_)
  · replace W := W.1 q4
    refine ts_iload_n 1 (pc' := 14) rfl dX11_drawn_13 rfl rfl ?_
    refine ts_iconst (v := 0) (pc' := 15) rfl dX11_drawn_14 (by decide) ?_
    refine ts_bipush (v := 60) (pc' := 17) rfl dX11_drawn_15 (by decide) ?_
    refine ts_callS (M' := mX11_outside) (pc' := 20) (av := [.int p0, .int 0, .int 60]) rfl dX11_drawn_17 rfl gX11_drawn_X11_outside rfl dsX11_outside rfl (Nat.le_refl _) (Nat.le_of_ble_eq_true rfl) (Nat.le_of_ble_eq_true rfl) (Nat.le_refl _) (Nat.le_refl _) ts_kv0 W (ts_kki fun v7 hi5 hk6 W => ?_)
    refine ts_if_ne (pc' := 23) (tgt := 43) rfl dX11_drawn_20 (by decide) (fun q8 => ?_) (fun q8 => ?_)
    · replace W := W.1 q8
      refine ts_ldc (v := (-1000001)) (pc' := 45) rfl dX11_drawn_43 (by decide +kernel) ?_
      exact ts_iret dX11_drawn_45 rfl (Nat.le_refl _) (Nat.le_refl _) ⟨rfl, _, rfl, W⟩
    · replace W := W.2 q8
      refine ts_iload_n 2 (pc' := 24) rfl dX11_drawn_23 rfl rfl ?_
      refine ts_iconst (v := 1) (pc' := 25) rfl dX11_drawn_24 (by decide) ?_
      refine ts_ldcw (v := 999999) (pc' := 28) rfl dX11_drawn_25 (by decide +kernel) ?_
      refine ts_callS (M' := mX11_outside) (pc' := 31) (av := [.int p1, .int 1, .int 999999]) rfl dX11_drawn_28 rfl gX11_drawn_X11_outside rfl dsX11_outside rfl (Nat.le_refl _) (Nat.le_of_ble_eq_true rfl) (Nat.le_of_ble_eq_true rfl) (Nat.le_refl _) (Nat.le_refl _) ts_kv0 W (ts_kki fun v11 hi9 hk10 W => ?_)
      refine ts_if_ne (pc' := 34) (tgt := 43) rfl dX11_drawn_31 (by decide) (fun q12 => ?_) (fun q12 => ?_)
      · replace W := W.1 q12
        refine ts_ldc (v := (-1000001)) (pc' := 45) rfl dX11_drawn_43 (by decide +kernel) ?_
        exact ts_iret dX11_drawn_45 rfl (Nat.le_refl _) (Nat.le_refl _) ⟨rfl, _, rfl, W⟩
      · replace W := W.2 q12
        refine ts_iload_n 3 (pc' := 35) rfl dX11_drawn_34 rfl rfl ?_
        refine ts_iconst (v := 0) (pc' := 36) rfl dX11_drawn_35 (by decide) ?_
        refine ts_iconst (v := 1) (pc' := 37) rfl dX11_drawn_36 (by decide) ?_
        refine ts_callS (M' := mX11_outside) (pc' := 40) (av := [.int p2, .int 0, .int 1]) rfl dX11_drawn_37 rfl gX11_drawn_X11_outside rfl dsX11_outside rfl (Nat.le_refl _) (Nat.le_of_ble_eq_true rfl) (Nat.le_of_ble_eq_true rfl) (Nat.le_refl _) (Nat.le_refl _) ts_kv0 W (ts_kki fun v15 hi13 hk14 W => ?_)
        refine ts_if_eq (pc' := 43) (tgt := 46) rfl dX11_drawn_40 (by decide) (fun q16 => ?_) (fun q16 => ?_)
        · replace W := W.1 q16
          refine ts_aload_n 0 (pc' := 47) rfl dX11_drawn_46 rfl rfl ?_
          obtain ⟨c17, W⟩ := W
          refine ts_getR (pc' := 50) (ci := 10) 8 cfX11.1 cfX11.2.1 cfX11.2.2 rfl (by decide) hnX11_drawn_X11 flX11_drawn_77 rfl dX11_drawn_47 c1 c17 ?_
          refine ts_iload_n 1 (pc' := 51) rfl dX11_drawn_50 rfl rfl ?_
          refine ts_iload_n 2 (pc' := 52) rfl dX11_drawn_51 rfl rfl ?_
          obtain ⟨c21, W⟩ := W
          refine ts_callV (M' := mX7_century) (C := RX7) (pc' := 55) (av := [.int p0, .int p1]) (b := (g.2.2.2 o 8)) rfl dX11_drawn_52 rfl gX11_drawn_X7_century rfl dvX7_century rfl (ci := 6) cfX7.1 (by decide) c21 (Nat.le_refl _) (Nat.le_of_ble_eq_true rfl) (Nat.le_of_ble_eq_true rfl) (Nat.le_refl _) (Nat.le_refl _) ts_kv0 W (ts_kkr fun a20 hi18 hk19 W => ?_)
          refine ts_astore (pc' := 57) (ls' := [(4, .ref a20), (0, .ref o), (1, .int p0), (2, .int p1), (3, .int p2)]) rfl dX11_drawn_55 (Nat.le_of_ble_eq_true rfl) rfl ?_
          refine ts_iload_n 4 (pc' := 58) rfl dX11_drawn_57 rfl rfl ?_
          refine ts_if_ne (pc' := 61) (tgt := 69) rfl dX11_drawn_58 (by decide) (fun q22 => ?_) (fun q22 => ?_)
          · replace W := W.1 q22
            refine ts_aload 0 (pc' := 71) rfl dX11_drawn_69 rfl ?_
            obtain ⟨c26, W⟩ := W
            refine ts_callV (M' := mX1_allGrown) (C := RX1) (pc' := 74) (av := []) (b := a20) rfl dX11_drawn_71 rfl gX11_drawn_X1_allGrown rfl dvX1_allGrown rfl (ci := 1) cfX1.1 (by decide) c26 (Nat.le_refl _) (Nat.le_of_ble_eq_true rfl) (Nat.le_of_ble_eq_true rfl) (Nat.le_refl _) (Nat.le_refl _) ts_kv0 W (ts_kki fun v25 hi23 hk24 W => ?_)
            exact ts_iret dX11_drawn_74 rfl (Nat.le_refl _) (Nat.le_refl _) ⟨rfl, _, rfl, W⟩
          · replace W := W.2 q22
            refine ts_aload 0 (pc' := 63) rfl dX11_drawn_61 rfl ?_
            obtain ⟨c30, W⟩ := W
            refine ts_callV (M' := mX1_allRanks) (C := RX1) (pc' := 66) (av := []) (b := a20) rfl dX11_drawn_63 rfl gX11_drawn_X1_allRanks rfl dvX1_allRanks rfl (ci := 1) cfX1.1 (by decide) c30 (Nat.le_refl _) (Nat.le_of_ble_eq_true rfl) (Nat.le_of_ble_eq_true rfl) (Nat.le_refl _) (Nat.le_refl _) ts_kv0 W (ts_kki fun v29 hi27 hk28 W => ?_)
            refine ts_goto (tgt := 74) dX11_drawn_66 (by decide) ?_
            exact ts_iret dX11_drawn_74 rfl (Nat.le_refl _) (Nat.le_refl _) ⟨rfl, _, rfl, W⟩
        · replace W := W.2 q16
          refine ts_ldc (v := (-1000001)) (pc' := 45) rfl dX11_drawn_43 (by decide +kernel) ?_
          exact ts_iret dX11_drawn_45 rfl (Nat.le_refl _) (Nat.le_refl _) ⟨rfl, _, rfl, W⟩
  · replace W := W.2 q4
    refine ts_ldc (v := (-1000002)) (pc' := 12) rfl dX11_drawn_10 (by decide +kernel) ?_
    exact ts_iret dX11_drawn_12 rfl (Nat.le_refl _) (Nat.le_refl _) ⟨rfl, _, rfl, W⟩
theorem hnX11_image_X1 : ∀ w ∈ u_ws RX1 TX1 13, w ∈ wsX11_image := by decide +kernel
theorem hnX11_image_X11 : ∀ w ∈ u_ws RX11 TX11 13, w ∈ wsX11_image := by decide +kernel
theorem flX11_image_41 : Cond.fieldLink RX11 41 "TurnipSquires" "images" "[LTurnipSquires$Field;" ∈ wsX11_image := by decide +kernel
theorem flX11_image_65 : Cond.fieldLink RX11 65 "TurnipSquires" "now" "LTurnipSquires$Field;" ∈ wsX11_image := by decide +kernel
theorem flX11_image_155 : Cond.fieldLink RX11 155 "TurnipSquires$Field" "count" "I" ∈ wsX11_image := by decide +kernel
set_option maxHeartbeats 4000000 in
theorem wX11_image_0 {d : Nat} {g : ts_G} {Q : Int32 → ts_I → ts_K → Prop} {o : Nat} {p0 : Int32} {hi : ts_I} {hk : ts_K} (W : ts_E0 d mX11_outside [.int p0, .int 0, .int 1] g hi hk (ts_qi (fun v3 hi1 hk2 => ((v3 = 0) → (g.2.1 o = 10) ∧ (g.2.2.2 o 6 ≠ 0) ∧ (g.2.1 (g.2.2.2 o 6) = 1) ∧ (((hi1 (g.2.2.2 o 6) 9) ≠ 0) → (g.2.2.2 o 5 ≠ 0) ∧ (g.2.1 (g.2.2.2 o 5) = 104) ∧ (vp_in p0 (g.2.2.1 (g.2.2.2 o 5))) ∧ (g.2.2.2 (g.2.2.2 o 5) p0.toNatClampNeg ≠ 0) ∧ (g.2.1 (g.2.2.2 (g.2.2.2 o 5) p0.toNatClampNeg) = 1) ∧ ts_E0 d mX1_become [.ref (g.2.2.2 (g.2.2.2 o 5) p0.toNatClampNeg), .ref (g.2.2.2 o 6)] g hi1 hk2 (ts_qv (fun hi13 hk14 => Q 1 hi13 hk14))) ∧ (¬ ((hi1 (g.2.2.2 o 6) 9) ≠ 0) → Q (-1000002) hi1 hk2)) ∧ (¬ (v3 = 0) → Q (-1000001) hi1 hk2)))) : ts_J0 (d + 1) mX11_image (ts_qi Q) g 0 [(0, .ref o), (1, .int p0)] [] hi hk := by
  refine ts_iload_n 1 (pc' := 1) rfl dX11_image_0 rfl rfl ?_
  refine ts_iconst (v := 0) (pc' := 2) rfl dX11_image_1 (by decide) ?_
  refine ts_iconst (v := 1) (pc' := 3) rfl dX11_image_2 (by decide) ?_
  refine ts_callS (M' := mX11_outside) (pc' := 6) (av := [.int p0, .int 0, .int 1]) rfl dX11_image_3 rfl gX11_image_X11_outside rfl dsX11_outside rfl (Nat.le_refl _) (Nat.le_of_ble_eq_true rfl) (Nat.le_of_ble_eq_true rfl) (Nat.le_refl _) (Nat.le_refl _) ts_kv0 W (ts_kki fun v3 hi1 hk2 W => ?_)
  refine ts_if_eq (pc' := 9) (tgt := 12) rfl dX11_image_6 (by decide) (fun q4 => ?_) (fun q4 => ?_)
  · replace W := W.1 q4
    refine ts_aload_n 0 (pc' := 13) rfl dX11_image_12 rfl rfl ?_
    obtain ⟨c5, W⟩ := W
    obtain ⟨c6, W⟩ := W
    refine ts_getR (pc' := 16) (ci := 10) 6 cfX11.1 cfX11.2.1 cfX11.2.2 rfl (by decide) hnX11_image_X11 flX11_image_65 rfl dX11_image_13 c5 c6 ?_
    obtain ⟨c7, W⟩ := W
    refine ts_getI (pc' := 19) (ci := 1) 9 cfX1.1 cfX1.2.1 cfX1.2.2 rfl (by decide) hnX11_image_X1 flX11_image_155 rfl dX11_image_16 c7 ?_
    refine ts_if_ne (pc' := 22) (tgt := 25) rfl dX11_image_19 (by decide) (fun q8 => ?_) (fun q8 => ?_)
    · replace W := W.1 q8
      refine ts_aload_n 0 (pc' := 26) rfl dX11_image_25 rfl rfl ?_
      obtain ⟨c9, W⟩ := W
      refine ts_getR (pc' := 29) (ci := 10) 5 cfX11.1 cfX11.2.1 cfX11.2.2 rfl (by decide) hnX11_image_X11 flX11_image_41 rfl dX11_image_26 c5 c9 ?_
      refine ts_iload_n 1 (pc' := 30) rfl dX11_image_29 rfl rfl ?_
      obtain ⟨c10, W⟩ := W
      obtain ⟨c11, W⟩ := W
      obtain ⟨c12, W⟩ := W
      refine ts_aaloadF (pc' := 31) rfl dX11_image_30 c10 c11 c12 ?_
      refine ts_aload_n 0 (pc' := 32) rfl dX11_image_31 rfl rfl ?_
      refine ts_getR (pc' := 35) (ci := 10) 6 cfX11.1 cfX11.2.1 cfX11.2.2 rfl (by decide) hnX11_image_X11 flX11_image_65 rfl dX11_image_32 c5 c6 ?_
      obtain ⟨c15, W⟩ := W
      refine ts_callV (M' := mX1_become) (C := RX1) (pc' := 38) (av := [.ref (g.2.2.2 o 6)]) (b := (g.2.2.2 (g.2.2.2 o 5) p0.toNatClampNeg)) rfl dX11_image_35 rfl gX11_image_X1_become rfl dvX1_become rfl (ci := 1) cfX1.1 (by decide) c15 (Nat.le_refl _) (Nat.le_of_ble_eq_true rfl) (Nat.le_of_ble_eq_true rfl) (Nat.le_refl _) (Nat.le_refl _) ts_kv0 W (ts_kkv fun hi13 hk14 W => ?_)
      refine ts_iconst (v := 1) (pc' := 39) rfl dX11_image_38 (by decide) ?_
      exact ts_iret dX11_image_39 rfl (Nat.le_refl _) (Nat.le_refl _) ⟨rfl, _, rfl, W⟩
    · replace W := W.2 q8
      refine ts_ldc (v := (-1000002)) (pc' := 24) rfl dX11_image_22 (by decide +kernel) ?_
      exact ts_iret dX11_image_24 rfl (Nat.le_refl _) (Nat.le_refl _) ⟨rfl, _, rfl, W⟩
  · replace W := W.2 q4
    refine ts_ldc (v := (-1000001)) (pc' := 11) rfl dX11_image_9 (by decide +kernel) ?_
    exact ts_iret dX11_image_11 rfl (Nat.le_refl _) (Nat.le_refl _) ⟨rfl, _, rfl, W⟩
theorem hnX11_restore_X1 : ∀ w ∈ u_ws RX1 TX1 13, w ∈ wsX11_restore := by decide +kernel
theorem hnX11_restore_X11 : ∀ w ∈ u_ws RX11 TX11 13, w ∈ wsX11_restore := by decide +kernel
theorem flX11_restore_41 : Cond.fieldLink RX11 41 "TurnipSquires" "images" "[LTurnipSquires$Field;" ∈ wsX11_restore := by decide +kernel
theorem flX11_restore_65 : Cond.fieldLink RX11 65 "TurnipSquires" "now" "LTurnipSquires$Field;" ∈ wsX11_restore := by decide +kernel
theorem flX11_restore_152 : Cond.fieldLink RX11 152 "TurnipSquires" "actsKept" "I" ∈ wsX11_restore := by decide +kernel
theorem flX11_restore_155 : Cond.fieldLink RX11 155 "TurnipSquires$Field" "count" "I" ∈ wsX11_restore := by decide +kernel
set_option maxHeartbeats 4000000 in
theorem wX11_restore_0 {d : Nat} {g : ts_G} {Q : Int32 → ts_I → ts_K → Prop} {o : Nat} {p0 : Int32} {hi : ts_I} {hk : ts_K} (W : ts_E0 d mX11_outside [.int p0, .int 0, .int 1] g hi hk (ts_qi (fun v3 hi1 hk2 => ((v3 = 0) → (g.2.1 o = 10) ∧ (g.2.2.2 o 5 ≠ 0) ∧ (g.2.1 (g.2.2.2 o 5) = 104) ∧ (vp_in p0 (g.2.2.1 (g.2.2.2 o 5))) ∧ (g.2.2.2 (g.2.2.2 o 5) p0.toNatClampNeg ≠ 0) ∧ (g.2.1 (g.2.2.2 (g.2.2.2 o 5) p0.toNatClampNeg) = 1) ∧ (((hi1 (g.2.2.2 (g.2.2.2 o 5) p0.toNatClampNeg) 9) ≠ 0) → (g.2.2.2 o 6 ≠ 0) ∧ (g.2.1 (g.2.2.2 o 6) = 1) ∧ ts_E0 d mX1_become [.ref (g.2.2.2 o 6), .ref (g.2.2.2 (g.2.2.2 o 5) p0.toNatClampNeg)] g hi1 hk2 (ts_qv (fun hi13 hk14 => ∀ hi16 : ts_I, hi16 = ts_up hi13 o 12 0 → Q 1 hi16 hk14))) ∧ (¬ ((hi1 (g.2.2.2 (g.2.2.2 o 5) p0.toNatClampNeg) 9) ≠ 0) → Q (-1000002) hi1 hk2)) ∧ (¬ (v3 = 0) → Q (-1000001) hi1 hk2)))) : ts_J0 (d + 1) mX11_restore (ts_qi Q) g 0 [(0, .ref o), (1, .int p0)] [] hi hk := by
  refine ts_iload_n 1 (pc' := 1) rfl dX11_restore_0 rfl rfl ?_
  refine ts_iconst (v := 0) (pc' := 2) rfl dX11_restore_1 (by decide) ?_
  refine ts_iconst (v := 1) (pc' := 3) rfl dX11_restore_2 (by decide) ?_
  refine ts_callS (M' := mX11_outside) (pc' := 6) (av := [.int p0, .int 0, .int 1]) rfl dX11_restore_3 rfl gX11_restore_X11_outside rfl dsX11_outside rfl (Nat.le_refl _) (Nat.le_of_ble_eq_true rfl) (Nat.le_of_ble_eq_true rfl) (Nat.le_refl _) (Nat.le_refl _) ts_kv0 W (ts_kki fun v3 hi1 hk2 W => ?_)
  refine ts_if_eq (pc' := 9) (tgt := 12) rfl dX11_restore_6 (by decide) (fun q4 => ?_) (fun q4 => ?_)
  · replace W := W.1 q4
    refine ts_aload_n 0 (pc' := 13) rfl dX11_restore_12 rfl rfl ?_
    obtain ⟨c5, W⟩ := W
    obtain ⟨c6, W⟩ := W
    refine ts_getR (pc' := 16) (ci := 10) 5 cfX11.1 cfX11.2.1 cfX11.2.2 rfl (by decide) hnX11_restore_X11 flX11_restore_41 rfl dX11_restore_13 c5 c6 ?_
    refine ts_iload_n 1 (pc' := 17) rfl dX11_restore_16 rfl rfl ?_
    obtain ⟨c7, W⟩ := W
    obtain ⟨c8, W⟩ := W
    obtain ⟨c9, W⟩ := W
    refine ts_aaloadF (pc' := 18) rfl dX11_restore_17 c7 c8 c9 ?_
    obtain ⟨c10, W⟩ := W
    refine ts_getI (pc' := 21) (ci := 1) 9 cfX1.1 cfX1.2.1 cfX1.2.2 rfl (by decide) hnX11_restore_X1 flX11_restore_155 rfl dX11_restore_18 c10 ?_
    refine ts_if_ne (pc' := 24) (tgt := 27) rfl dX11_restore_21 (by decide) (fun q11 => ?_) (fun q11 => ?_)
    · replace W := W.1 q11
      refine ts_aload_n 0 (pc' := 28) rfl dX11_restore_27 rfl rfl ?_
      obtain ⟨c12, W⟩ := W
      refine ts_getR (pc' := 31) (ci := 10) 6 cfX11.1 cfX11.2.1 cfX11.2.2 rfl (by decide) hnX11_restore_X11 flX11_restore_65 rfl dX11_restore_28 c5 c12 ?_
      refine ts_aload_n 0 (pc' := 32) rfl dX11_restore_31 rfl rfl ?_
      refine ts_getR (pc' := 35) (ci := 10) 5 cfX11.1 cfX11.2.1 cfX11.2.2 rfl (by decide) hnX11_restore_X11 flX11_restore_41 rfl dX11_restore_32 c5 c6 ?_
      refine ts_iload_n 1 (pc' := 36) rfl dX11_restore_35 rfl rfl ?_
      refine ts_aaloadF (pc' := 37) rfl dX11_restore_36 c7 c8 c9 ?_
      obtain ⟨c15, W⟩ := W
      refine ts_callV (M' := mX1_become) (C := RX1) (pc' := 40) (av := [.ref (g.2.2.2 (g.2.2.2 o 5) p0.toNatClampNeg)]) (b := (g.2.2.2 o 6)) rfl dX11_restore_37 rfl gX11_restore_X1_become rfl dvX1_become rfl (ci := 1) cfX1.1 (by decide) c15 (Nat.le_refl _) (Nat.le_of_ble_eq_true rfl) (Nat.le_of_ble_eq_true rfl) (Nat.le_refl _) (Nat.le_refl _) ts_kv0 W (ts_kkv fun hi13 hk14 W => ?_)
      refine ts_aload_n 0 (pc' := 41) rfl dX11_restore_40 rfl rfl ?_
      refine ts_iconst (v := 0) (pc' := 42) rfl dX11_restore_41 (by decide) ?_
      refine ts_putI (pc' := 45) (ci := 10) 12 cfX11.1 cfX11.2.1 cfX11.2.2 rfl (by decide) hnX11_restore_X11 flX11_restore_152 tyX11_ok nmX11 rfl rfl rfl dX11_restore_42 c5 ?_
      obtain ⟨hi16, ehi16⟩ : ∃ z, z = ts_up hi13 o 12 0 := ⟨_, rfl⟩
      rw [← ehi16]; replace W := W hi16 ehi16
      refine ts_iconst (v := 1) (pc' := 46) rfl dX11_restore_45 (by decide) ?_
      exact ts_iret dX11_restore_46 rfl (Nat.le_refl _) (Nat.le_refl _) ⟨rfl, _, rfl, W⟩
    · replace W := W.2 q11
      refine ts_ldc (v := (-1000002)) (pc' := 26) rfl dX11_restore_24 (by decide +kernel) ?_
      exact ts_iret dX11_restore_26 rfl (Nat.le_refl _) (Nat.le_refl _) ⟨rfl, _, rfl, W⟩
  · replace W := W.2 q4
    refine ts_ldc (v := (-1000001)) (pc' := 11) rfl dX11_restore_9 (by decide +kernel) ?_
    exact ts_iret dX11_restore_11 rfl (Nat.le_refl _) (Nat.le_refl _) ⟨rfl, _, rfl, W⟩
theorem hnX11_kind_K : (∀ w ∈ wsX00, w ∈ wsX11_kind) ∧ (∀ w ∈ wsX30, w ∈ wsX11_kind) ∧ (∀ w ∈ wsX40, w ∈ wsX11_kind) ∧ (∀ w ∈ wsX50, w ∈ wsX11_kind) ∧ (∀ w ∈ wsX80, w ∈ wsX11_kind) := by decide +kernel
theorem hnX11_kind_X1 : ∀ w ∈ u_ws RX1 TX1 13, w ∈ wsX11_kind := by decide +kernel
theorem hnX11_kind_X11 : ∀ w ∈ u_ws RX11 TX11 13, w ∈ wsX11_kind := by decide +kernel
theorem flX11_kind_65 : Cond.fieldLink RX11 65 "TurnipSquires" "now" "LTurnipSquires$Field;" ∈ wsX11_kind := by decide +kernel
theorem flX11_kind_272 : Cond.fieldLink RX11 272 "TurnipSquires$Field" "kind" "[LTurnipSquires$Kind;" ∈ wsX11_kind := by decide +kernel
set_option maxHeartbeats 4000000 in
theorem wX11_kind_0 {d : Nat} {g : ts_G} {Q : Int32 → ts_I → ts_K → Prop} {o : Nat} {p0 : Int32} {hi : ts_I} {hk : ts_K} (W : (g.2.1 o = 10) ∧ ts_E0 d mX11_isTurnip [.ref o, .int p0] g hi hk (ts_qi (fun v3 hi1 hk2 => ((v3 = 0) → Q (-1000001) hi1 hk2) ∧ (¬ (v3 = 0) → (g.2.2.2 o 6 ≠ 0) ∧ (g.2.1 (g.2.2.2 o 6) = 1) ∧ (g.2.2.2 (g.2.2.2 o 6) 0 ≠ 0) ∧ (g.2.1 (g.2.2.2 (g.2.2.2 o 6) 0) = 103) ∧ (vp_in p0 (g.2.2.1 (g.2.2.2 (g.2.2.2 o 6) 0))) ∧ (hk2 (g.2.2.2 (g.2.2.2 o 6) 0) p0.toNatClampNeg ≠ 0) ∧ (g.2.1 (hk2 (g.2.2.2 (g.2.2.2 o 6) 0) p0.toNatClampNeg) = 0 ∨ g.2.1 (hk2 (g.2.2.2 (g.2.2.2 o 6) 0) p0.toNatClampNeg) = 2 ∨ g.2.1 (hk2 (g.2.2.2 (g.2.2.2 o 6) 0) p0.toNatClampNeg) = 3 ∨ g.2.1 (hk2 (g.2.2.2 (g.2.2.2 o 6) 0) p0.toNatClampNeg) = 4 ∨ g.2.1 (hk2 (g.2.2.2 (g.2.2.2 o 6) 0) p0.toNatClampNeg) = 7) ∧ Q (hi1 (hk2 (g.2.2.2 (g.2.2.2 o 6) 0) p0.toNatClampNeg) 0) hi1 hk2)))) : ts_J0 (d + 1) mX11_kind (ts_qi Q) g 0 [(0, .ref o), (1, .int p0)] [] hi hk := by
  refine ts_aload_n 0 (pc' := 1) rfl dX11_kind_0 rfl rfl ?_
  refine ts_iload_n 1 (pc' := 2) rfl dX11_kind_1 rfl rfl ?_
  obtain ⟨c4, W⟩ := W
  refine ts_callV (M' := mX11_isTurnip) (C := RX11) (pc' := 5) (av := [.int p0]) (b := o) rfl dX11_kind_2 rfl gX11_kind_X11_isTurnip rfl dvX11_isTurnip rfl (ci := 10) cfX11.1 (by decide) c4 (Nat.le_refl _) (Nat.le_of_ble_eq_true rfl) (Nat.le_of_ble_eq_true rfl) (Nat.le_refl _) (Nat.le_refl _) ts_kv0 W (ts_kki fun v3 hi1 hk2 W => ?_)
  refine ts_if_eq (pc' := 8) (tgt := 23) rfl dX11_kind_5 (by decide) (fun q5 => ?_) (fun q5 => ?_)
  · replace W := W.1 q5
    refine ts_ldc (v := (-1000001)) (pc' := 25) rfl dX11_kind_23 (by decide +kernel) ?_
    exact ts_iret dX11_kind_25 rfl (Nat.le_refl _) (Nat.le_refl _) ⟨rfl, _, rfl, W⟩
  · replace W := W.2 q5
    refine ts_aload_n 0 (pc' := 9) rfl dX11_kind_8 rfl rfl ?_
    obtain ⟨c6, W⟩ := W
    refine ts_getR (pc' := 12) (ci := 10) 6 cfX11.1 cfX11.2.1 cfX11.2.2 rfl (by decide) hnX11_kind_X11 flX11_kind_65 rfl dX11_kind_9 c4 c6 ?_
    obtain ⟨c7, W⟩ := W
    obtain ⟨c8, W⟩ := W
    refine ts_getR (pc' := 15) (ci := 1) 0 cfX1.1 cfX1.2.1 cfX1.2.2 rfl (by decide) hnX11_kind_X1 flX11_kind_272 rfl dX11_kind_12 c7 c8 ?_
    refine ts_iload_n 1 (pc' := 16) rfl dX11_kind_15 rfl rfl ?_
    obtain ⟨c9, W⟩ := W
    obtain ⟨c10, W⟩ := W
    obtain ⟨c11, W⟩ := W
    refine ts_aaloadK (pc' := 17) rfl dX11_kind_16 c9 c10 c11 ?_
    obtain ⟨c12, W⟩ := W
    refine ts_getKind c12 rfl (by decide +kernel) dX11_kind_17 ?_ (pc' := 20) (index := 275) (hin := hnX11_kind_K)
    refine ts_goto (tgt := 25) dX11_kind_20 (by decide) ?_
    exact ts_iret dX11_kind_25 rfl (Nat.le_refl _) (Nat.le_refl _) ⟨rfl, _, rfl, W⟩
theorem hnX11_as_X1 : ∀ w ∈ u_ws RX1 TX1 13, w ∈ wsX11_as := by decide +kernel
theorem hnX11_as_X11 : ∀ w ∈ u_ws RX11 TX11 13, w ∈ wsX11_as := by decide +kernel
theorem flX11_as_65 : Cond.fieldLink RX11 65 "TurnipSquires" "now" "LTurnipSquires$Field;" ∈ wsX11_as := by decide +kernel
theorem flX11_as_272 : Cond.fieldLink RX11 272 "TurnipSquires$Field" "kind" "[LTurnipSquires$Kind;" ∈ wsX11_as := by decide +kernel
set_option maxHeartbeats 4000000 in
theorem wX11_as_0 {d : Nat} {g : ts_G} {Q : Int32 → ts_I → ts_K → Prop} {o : Nat} {p0 : Int32} {p1 : Int32} {hi : ts_I} {hk : ts_K} (W : (g.2.1 o = 10) ∧ ts_E0 d mX11_isTurnip [.ref o, .int p0] g hi hk (ts_qi (fun v3 hi1 hk2 => ((v3 = 0) → Q (-1000001) hi1 hk2) ∧ (¬ (v3 = 0) → ts_E0 d mX11_outside [.int p1, .int 0, .int 5] g hi1 hk2 (ts_qi (fun v8 hi6 hk7 => ((v8 = 0) → (g.2.2.2 o 6 ≠ 0) ∧ (g.2.1 (g.2.2.2 o 6) = 1) ∧ (g.2.2.2 (g.2.2.2 o 6) 0 ≠ 0) ∧ (g.2.1 (g.2.2.2 (g.2.2.2 o 6) 0) = 103) ∧ (vp_in p0 (g.2.2.1 (g.2.2.2 (g.2.2.2 o 6) 0))) ∧ (hk7 (g.2.2.2 (g.2.2.2 o 6) 0) p0.toNatClampNeg ≠ 0) ∧ ts_EV [(0, mX2_isA), (2, mX2_isA), (3, mX2_isA), (4, mX2_isA), (7, mX2_isA)] d (hk7 (g.2.2.2 (g.2.2.2 o 6) 0) p0.toNatClampNeg) [.ref (hk7 (g.2.2.2 (g.2.2.2 o 6) 0) p0.toNatClampNeg), .int p1] g hi6 hk7 (ts_qi (fun v18 hi16 hk17 => ((v18 = 0) → ts_E0 d mX11_found [.ref o, .int 3] g hi16 hk17 (ts_qi (fun v22 hi20 hk21 => Q v22 hi20 hk21))) ∧ (¬ (v18 = 0) → ts_E0 d mX11_fine [.ref o, .int p0] g hi16 hk17 (ts_qi (fun v25 hi23 hk24 => Q v25 hi23 hk24)))))) ∧ (¬ (v8 = 0) → Q (-1000001) hi6 hk7))))))) : ts_J0 (d + 1) mX11_as (ts_qi Q) g 0 [(0, .ref o), (1, .int p0), (2, .int p1)] [] hi hk := by
  refine ts_aload_n 0 (pc' := 1) rfl dX11_as_0 rfl rfl ?_
  refine ts_iload_n 1 (pc' := 2) rfl dX11_as_1 rfl rfl ?_
  obtain ⟨c4, W⟩ := W
  refine ts_callV (M' := mX11_isTurnip) (C := RX11) (pc' := 5) (av := [.int p0]) (b := o) rfl dX11_as_2 rfl gX11_as_X11_isTurnip rfl dvX11_isTurnip rfl (ci := 10) cfX11.1 (by decide) c4 (Nat.le_refl _) (Nat.le_of_ble_eq_true rfl) (Nat.le_of_ble_eq_true rfl) (Nat.le_refl _) (Nat.le_refl _) ts_kv0 W (ts_kki fun v3 hi1 hk2 W => ?_)
  refine ts_if_eq (pc' := 8) (tgt := 17) rfl dX11_as_5 (by decide) (fun q5 => ?_) (fun q5 => ?_)
  · replace W := W.1 q5
    refine ts_ldc (v := (-1000001)) (pc' := 19) rfl dX11_as_17 (by decide +kernel) ?_
    exact ts_iret dX11_as_19 rfl (Nat.le_refl _) (Nat.le_refl _) ⟨rfl, _, rfl, W⟩
  · replace W := W.2 q5
    refine ts_iload_n 2 (pc' := 9) rfl dX11_as_8 rfl rfl ?_
    refine ts_iconst (v := 0) (pc' := 10) rfl dX11_as_9 (by decide) ?_
    refine ts_iconst (v := 5) (pc' := 11) rfl dX11_as_10 (by decide) ?_
    refine ts_callS (M' := mX11_outside) (pc' := 14) (av := [.int p1, .int 0, .int 5]) rfl dX11_as_11 rfl gX11_as_X11_outside rfl dsX11_outside rfl (Nat.le_refl _) (Nat.le_of_ble_eq_true rfl) (Nat.le_of_ble_eq_true rfl) (Nat.le_refl _) (Nat.le_refl _) ts_kv0 W (ts_kki fun v8 hi6 hk7 W => ?_)
    refine ts_if_eq (pc' := 17) (tgt := 20) rfl dX11_as_14 (by decide) (fun q9 => ?_) (fun q9 => ?_)
    · replace W := W.1 q9
      refine ts_aload_n 0 (pc' := 21) rfl dX11_as_20 rfl rfl ?_
      obtain ⟨c10, W⟩ := W
      refine ts_getR (pc' := 24) (ci := 10) 6 cfX11.1 cfX11.2.1 cfX11.2.2 rfl (by decide) hnX11_as_X11 flX11_as_65 rfl dX11_as_21 c4 c10 ?_
      obtain ⟨c11, W⟩ := W
      obtain ⟨c12, W⟩ := W
      refine ts_getR (pc' := 27) (ci := 1) 0 cfX1.1 cfX1.2.1 cfX1.2.2 rfl (by decide) hnX11_as_X1 flX11_as_272 rfl dX11_as_24 c11 c12 ?_
      refine ts_iload_n 1 (pc' := 28) rfl dX11_as_27 rfl rfl ?_
      obtain ⟨c13, W⟩ := W
      obtain ⟨c14, W⟩ := W
      obtain ⟨c15, W⟩ := W
      refine ts_aaloadK (pc' := 29) rfl dX11_as_28 c13 c14 c15 ?_
      refine ts_iload_n 2 (pc' := 30) rfl dX11_as_29 rfl rfl ?_
      have kk9 : ∀ (v18 : Int32) (hi16 : ts_I) (hk17 : ts_K), (((v18 = 0) → ts_E0 d mX11_found [.ref o, .int 3] g hi16 hk17 (ts_qi (fun v22 hi20 hk21 => Q v22 hi20 hk21))) ∧ (¬ (v18 = 0) → ts_E0 d mX11_fine [.ref o, .int p0] g hi16 hk17 (ts_qi (fun v25 hi23 hk24 => Q v25 hi23 hk24)))) → ts_JJ (d + 1) 0 0 mX11_as none g.1 (ts_q0 g (ts_qi Q)) 0 0 33 [(0, .ref o), (1, .int p0), (2, .int p1)] [.int v18] g hi16 hk17 := by
        intro v18 hi16 hk17 W
        refine ts_if_eq (pc' := 36) (tgt := 44) rfl dX11_as_33 (by decide) (fun q19 => ?_) (fun q19 => ?_)
        · replace W := W.1 q19
          refine ts_aload_n 0 (pc' := 45) rfl dX11_as_44 rfl rfl ?_
          refine ts_iconst (v := 3) (pc' := 46) rfl dX11_as_45 (by decide) ?_
          refine ts_callV (M' := mX11_found) (C := RX11) (pc' := 49) (av := [.int 3]) (b := o) rfl dX11_as_46 rfl gX11_as_X11_found rfl dvX11_found rfl (ci := 10) cfX11.1 (by decide) c4 (Nat.le_refl _) (Nat.le_of_ble_eq_true rfl) (Nat.le_of_ble_eq_true rfl) (Nat.le_refl _) (Nat.le_refl _) ts_kv0 W (ts_kki fun v22 hi20 hk21 W => ?_)
          exact ts_iret dX11_as_49 rfl (Nat.le_refl _) (Nat.le_refl _) ⟨rfl, _, rfl, W⟩
        · replace W := W.2 q19
          refine ts_aload_n 0 (pc' := 37) rfl dX11_as_36 rfl rfl ?_
          refine ts_iload_n 1 (pc' := 38) rfl dX11_as_37 rfl rfl ?_
          refine ts_callV (M' := mX11_fine) (C := RX11) (pc' := 41) (av := [.int p0]) (b := o) rfl dX11_as_38 rfl gX11_as_X11_fine rfl dvX11_fine rfl (ci := 10) cfX11.1 (by decide) c4 (Nat.le_refl _) (Nat.le_of_ble_eq_true rfl) (Nat.le_of_ble_eq_true rfl) (Nat.le_refl _) (Nat.le_refl _) ts_kv0 W (ts_kki fun v25 hi23 hk24 W => ?_)
          refine ts_goto (tgt := 49) dX11_as_41 (by decide) ?_
          exact ts_iret dX11_as_49 rfl (Nat.le_refl _) (Nat.le_refl _) ⟨rfl, _, rfl, W⟩
      obtain ⟨M9, h9, W⟩ := W
      simp only [List.mem_cons, List.not_mem_nil, or_false, Prod.mk.injEq] at h9
      rcases h9 with ⟨c9, rfl⟩ | ⟨c9, rfl⟩ | ⟨c9, rfl⟩ | ⟨c9, rfl⟩ | ⟨c9, rfl⟩
      · exact ts_callH (M' := mX2_isA) (C := RX0) (owner := "TurnipSquires$Kind") (pc' := 33) (av := [.int p1]) (st := _) (b := (hk7 (g.2.2.2 (g.2.2.2 o 6) 0) p0.toNatClampNeg)) rfl dX11_as_30 rfl gX11_as_X2_isA_u278X0 rfl rfl dxoX2_isA rfl (ci := 0) cfX0.1 (by decide) c9 (Nat.le_refl _) (Nat.le_of_ble_eq_true rfl) (Nat.le_of_ble_eq_true rfl) (Nat.le_refl _) (Nat.le_refl _) ts_kv0 W (ts_kki kk9)
      · exact ts_callH (M' := mX2_isA) (C := RX3) (owner := "TurnipSquires$Kind") (pc' := 33) (av := [.int p1]) (st := _) (b := (hk7 (g.2.2.2 (g.2.2.2 o 6) 0) p0.toNatClampNeg)) rfl dX11_as_30 rfl gX11_as_X2_isA_u278X3 rfl rfl dxoX2_isA rfl (ci := 2) cfX3.1 (by decide) c9 (Nat.le_refl _) (Nat.le_of_ble_eq_true rfl) (Nat.le_of_ble_eq_true rfl) (Nat.le_refl _) (Nat.le_refl _) ts_kv0 W (ts_kki kk9)
      · exact ts_callH (M' := mX2_isA) (C := RX4) (owner := "TurnipSquires$Kind") (pc' := 33) (av := [.int p1]) (st := _) (b := (hk7 (g.2.2.2 (g.2.2.2 o 6) 0) p0.toNatClampNeg)) rfl dX11_as_30 rfl gX11_as_X2_isA_u278X4 rfl rfl dxoX2_isA rfl (ci := 3) cfX4.1 (by decide) c9 (Nat.le_refl _) (Nat.le_of_ble_eq_true rfl) (Nat.le_of_ble_eq_true rfl) (Nat.le_refl _) (Nat.le_refl _) ts_kv0 W (ts_kki kk9)
      · exact ts_callH (M' := mX2_isA) (C := RX5) (owner := "TurnipSquires$Kind") (pc' := 33) (av := [.int p1]) (st := _) (b := (hk7 (g.2.2.2 (g.2.2.2 o 6) 0) p0.toNatClampNeg)) rfl dX11_as_30 rfl gX11_as_X2_isA_u278X5 rfl rfl dxoX2_isA rfl (ci := 4) cfX5.1 (by decide) c9 (Nat.le_refl _) (Nat.le_of_ble_eq_true rfl) (Nat.le_of_ble_eq_true rfl) (Nat.le_refl _) (Nat.le_refl _) ts_kv0 W (ts_kki kk9)
      · exact ts_callH (M' := mX2_isA) (C := RX8) (owner := "TurnipSquires$Kind") (pc' := 33) (av := [.int p1]) (st := _) (b := (hk7 (g.2.2.2 (g.2.2.2 o 6) 0) p0.toNatClampNeg)) rfl dX11_as_30 rfl gX11_as_X2_isA_u278X8 rfl rfl dxoX2_isA rfl (ci := 7) cfX8.1 (by decide) c9 (Nat.le_refl _) (Nat.le_of_ble_eq_true rfl) (Nat.le_of_ble_eq_true rfl) (Nat.le_refl _) (Nat.le_refl _) ts_kv0 W (ts_kki kk9)
    · replace W := W.2 q9
      refine ts_ldc (v := (-1000001)) (pc' := 19) rfl dX11_as_17 (by decide +kernel) ?_
      exact ts_iret dX11_as_19 rfl (Nat.le_refl _) (Nat.le_refl _) ⟨rfl, _, rfl, W⟩
theorem hnX11_ask_X1 : ∀ w ∈ u_ws RX1 TX1 13, w ∈ wsX11_ask := by decide +kernel
theorem hnX11_ask_X10 : ∀ w ∈ u_ws RX10 TX10 2, w ∈ wsX11_ask := by decide +kernel
theorem hnX11_ask_X11 : ∀ w ∈ u_ws RX11 TX11 13, w ∈ wsX11_ask := by decide +kernel
theorem flX11_ask_25 : Cond.fieldLink RX11 25 "TurnipSquires" "left" "LTurnipSquires$Trace;" ∈ wsX11_ask := by decide +kernel
theorem flX11_ask_65 : Cond.fieldLink RX11 65 "TurnipSquires" "now" "LTurnipSquires$Field;" ∈ wsX11_ask := by decide +kernel
theorem flX11_ask_272 : Cond.fieldLink RX11 272 "TurnipSquires$Field" "kind" "[LTurnipSquires$Kind;" ∈ wsX11_ask := by decide +kernel
theorem flX11_ask_281 : Cond.fieldLink RX11 281 "TurnipSquires$Trace" "size" "I" ∈ wsX11_ask := by decide +kernel
set_option maxHeartbeats 4000000 in
theorem wX11_ask_0 {d : Nat} {g : ts_G} {Q : Int32 → ts_I → ts_K → Prop} {o : Nat} {p0 : Int32} {p1 : Int32} {hi : ts_I} {hk : ts_K} (W : (g.2.1 o = 10) ∧ ts_E0 d mX11_isTurnip [.ref o, .int p0] g hi hk (ts_qi (fun v3 hi1 hk2 => ((v3 = 0) → Q (-1000001) hi1 hk2) ∧ (¬ (v3 = 0) → ts_E0 d mX11_outside [.int p1, .int 0, .int 1] g hi1 hk2 (ts_qi (fun v8 hi6 hk7 => ((v8 = 0) → (g.2.2.2 o 2 ≠ 0) ∧ (g.2.1 (g.2.2.2 o 2) = 9) ∧ ∀ hi12 : ts_I, hi12 = ts_up hi6 (g.2.2.2 o 2) 1 0 → (g.2.2.2 o 6 ≠ 0) ∧ (g.2.1 (g.2.2.2 o 6) = 1) ∧ (g.2.2.2 (g.2.2.2 o 6) 0 ≠ 0) ∧ (g.2.1 (g.2.2.2 (g.2.2.2 o 6) 0) = 103) ∧ (vp_in p0 (g.2.2.1 (g.2.2.2 (g.2.2.2 o 6) 0))) ∧ (hk7 (g.2.2.2 (g.2.2.2 o 6) 0) p0.toNatClampNeg ≠ 0) ∧ ((p1 ≠ 0) → ts_EV [(0, mX0_mark), (2, mX3_mark), (3, mX4_mark), (4, mX5_mark), (7, mX0_mark)] d (hk7 (g.2.2.2 (g.2.2.2 o 6) 0) p0.toNatClampNeg) [.ref (hk7 (g.2.2.2 (g.2.2.2 o 6) 0) p0.toNatClampNeg), .ref (g.2.2.2 o 6), .int p0, .ref (g.2.2.2 o 2)] g hi12 hk7 (ts_qi (fun v22 hi20 hk21 => Q v22 hi20 hk21))) ∧ (¬ (p1 ≠ 0) → ts_EV [(0, mX0_size), (2, mX3_size), (3, mX4_size), (4, mX4_size), (7, mX8_size)] d (hk7 (g.2.2.2 (g.2.2.2 o 6) 0) p0.toNatClampNeg) [.ref (hk7 (g.2.2.2 (g.2.2.2 o 6) 0) p0.toNatClampNeg), .ref (g.2.2.2 o 6), .int p0, .ref (g.2.2.2 o 2)] g hi12 hk7 (ts_qi (fun v25 hi23 hk24 => Q v25 hi23 hk24)))) ∧ (¬ (v8 = 0) → Q (-1000001) hi6 hk7))))))) : ts_J0 (d + 1) mX11_ask (ts_qi Q) g 0 [(0, .ref o), (1, .int p0), (2, .int p1)] [] hi hk := by
  refine ts_aload_n 0 (pc' := 1) rfl dX11_ask_0 rfl rfl ?_
  refine ts_iload_n 1 (pc' := 2) rfl dX11_ask_1 rfl rfl ?_
  obtain ⟨c4, W⟩ := W
  refine ts_callV (M' := mX11_isTurnip) (C := RX11) (pc' := 5) (av := [.int p0]) (b := o) rfl dX11_ask_2 rfl gX11_ask_X11_isTurnip rfl dvX11_isTurnip rfl (ci := 10) cfX11.1 (by decide) c4 (Nat.le_refl _) (Nat.le_of_ble_eq_true rfl) (Nat.le_of_ble_eq_true rfl) (Nat.le_refl _) (Nat.le_refl _) ts_kv0 W (ts_kki fun v3 hi1 hk2 W => ?_)
  refine ts_if_eq (pc' := 8) (tgt := 17) rfl dX11_ask_5 (by decide) (fun q5 => ?_) (fun q5 => ?_)
  · replace W := W.1 q5
    refine ts_ldc (v := (-1000001)) (pc' := 19) rfl dX11_ask_17 (by decide +kernel) ?_
    exact ts_iret dX11_ask_19 rfl (Nat.le_refl _) (Nat.le_refl _) ⟨rfl, _, rfl, W⟩
  · replace W := W.2 q5
    refine ts_iload_n 2 (pc' := 9) rfl dX11_ask_8 rfl rfl ?_
    refine ts_iconst (v := 0) (pc' := 10) rfl dX11_ask_9 (by decide) ?_
    refine ts_iconst (v := 1) (pc' := 11) rfl dX11_ask_10 (by decide) ?_
    refine ts_callS (M' := mX11_outside) (pc' := 14) (av := [.int p1, .int 0, .int 1]) rfl dX11_ask_11 rfl gX11_ask_X11_outside rfl dsX11_outside rfl (Nat.le_refl _) (Nat.le_of_ble_eq_true rfl) (Nat.le_of_ble_eq_true rfl) (Nat.le_refl _) (Nat.le_refl _) ts_kv0 W (ts_kki fun v8 hi6 hk7 W => ?_)
    refine ts_if_eq (pc' := 17) (tgt := 20) rfl dX11_ask_14 (by decide) (fun q9 => ?_) (fun q9 => ?_)
    · replace W := W.1 q9
      refine ts_aload_n 0 (pc' := 21) rfl dX11_ask_20 rfl rfl ?_
      obtain ⟨c10, W⟩ := W
      refine ts_getR (pc' := 24) (ci := 10) 2 cfX11.1 cfX11.2.1 cfX11.2.2 rfl (by decide) hnX11_ask_X11 flX11_ask_25 rfl dX11_ask_21 c4 c10 ?_
      refine ts_iconst (v := 0) (pc' := 25) rfl dX11_ask_24 (by decide) ?_
      obtain ⟨c11, W⟩ := W
      refine ts_putI (pc' := 28) (ci := 9) 1 cfX10.1 cfX10.2.1 cfX10.2.2 rfl (by decide) hnX11_ask_X10 flX11_ask_281 tyX10_ok nmX10 rfl rfl rfl dX11_ask_25 c11 ?_
      obtain ⟨hi12, ehi12⟩ : ∃ z, z = ts_up hi6 (g.2.2.2 o 2) 1 0 := ⟨_, rfl⟩
      rw [← ehi12]; replace W := W hi12 ehi12
      refine ts_aload_n 0 (pc' := 29) rfl dX11_ask_28 rfl rfl ?_
      obtain ⟨c13, W⟩ := W
      refine ts_getR (pc' := 32) (ci := 10) 6 cfX11.1 cfX11.2.1 cfX11.2.2 rfl (by decide) hnX11_ask_X11 flX11_ask_65 rfl dX11_ask_29 c4 c13 ?_
      obtain ⟨c14, W⟩ := W
      obtain ⟨c15, W⟩ := W
      refine ts_getR (pc' := 35) (ci := 1) 0 cfX1.1 cfX1.2.1 cfX1.2.2 rfl (by decide) hnX11_ask_X1 flX11_ask_272 rfl dX11_ask_32 c14 c15 ?_
      refine ts_iload_n 1 (pc' := 36) rfl dX11_ask_35 rfl rfl ?_
      obtain ⟨c16, W⟩ := W
      obtain ⟨c17, W⟩ := W
      obtain ⟨c18, W⟩ := W
      refine ts_aaloadK (pc' := 37) rfl dX11_ask_36 c16 c17 c18 ?_
      refine ts_astore_n (pc' := 38) (ls' := [(3, .ref (hk7 (g.2.2.2 (g.2.2.2 o 6) 0) p0.toNatClampNeg)), (0, .ref o), (1, .int p0), (2, .int p1)]) rfl dX11_ask_37 rfl (Nat.le_of_ble_eq_true rfl) rfl ?_
      refine ts_iload_n 3 (pc' := 39) rfl dX11_ask_38 rfl rfl ?_
      refine ts_if_ne (pc' := 42) (tgt := 58) rfl dX11_ask_39 (by decide) (fun q19 => ?_) (fun q19 => ?_)
      · replace W := W.1 q19
        refine ts_aload_n 0 (pc' := 59) rfl dX11_ask_58 rfl rfl ?_
        refine ts_aload_n 1 (pc' := 60) rfl dX11_ask_59 rfl rfl ?_
        refine ts_getR (pc' := 63) (ci := 10) 6 cfX11.1 cfX11.2.1 cfX11.2.2 rfl (by decide) hnX11_ask_X11 flX11_ask_65 rfl dX11_ask_60 c4 c13 ?_
        refine ts_iload_n 2 (pc' := 64) rfl dX11_ask_63 rfl rfl ?_
        refine ts_aload_n 1 (pc' := 65) rfl dX11_ask_64 rfl rfl ?_
        refine ts_getR (pc' := 68) (ci := 10) 2 cfX11.1 cfX11.2.1 cfX11.2.2 rfl (by decide) hnX11_ask_X11 flX11_ask_25 rfl dX11_ask_65 c4 c10 ?_
        have kk9 : ∀ (v22 : Int32) (hi20 : ts_I) (hk21 : ts_K), (Q v22 hi20 hk21) → ts_JJ (d + 1) 0 0 mX11_ask none g.1 (ts_q0 g (ts_qi Q)) 0 0 71 [(3, .ref (hk7 (g.2.2.2 (g.2.2.2 o 6) 0) p0.toNatClampNeg)), (0, .ref o), (1, .int p0), (2, .int p1)] [.int v22] g hi20 hk21 := by
          intro v22 hi20 hk21 W
          exact ts_iret dX11_ask_71 rfl (Nat.le_refl _) (Nat.le_refl _) ⟨rfl, _, rfl, W⟩
        obtain ⟨M9, h9, W⟩ := W
        simp only [List.mem_cons, List.not_mem_nil, or_false, Prod.mk.injEq] at h9
        rcases h9 with ⟨c9, rfl⟩ | ⟨c9, rfl⟩ | ⟨c9, rfl⟩ | ⟨c9, rfl⟩ | ⟨c9, rfl⟩
        · exact ts_callO (M' := mX0_mark) (C := RX0) (owner := "TurnipSquires$Kind") (pc' := 71) (av := [.ref (g.2.2.2 o 6), .int p0, .ref (g.2.2.2 o 2)]) (st := _) (b := (hk7 (g.2.2.2 (g.2.2.2 o 6) 0) p0.toNatClampNeg)) rfl dX11_ask_68 rfl gX11_ask_X0_mark_u285X0 rfl (b0 := cX2_mark) (m0 := 4) (r0 := (some .int)) (by decide +kernel) dxoX2_mark rfl (ci := 0) cfX0.1 (by decide) c9 (Nat.le_refl _) (Nat.le_of_ble_eq_true rfl) (Nat.le_of_ble_eq_true rfl) (Nat.le_refl _) (Nat.le_refl _) ts_kv0 W (ts_kki kk9)
        · exact ts_callO (M' := mX3_mark) (C := RX3) (owner := "TurnipSquires$Kind") (pc' := 71) (av := [.ref (g.2.2.2 o 6), .int p0, .ref (g.2.2.2 o 2)]) (st := _) (b := (hk7 (g.2.2.2 (g.2.2.2 o 6) 0) p0.toNatClampNeg)) rfl dX11_ask_68 rfl gX11_ask_X3_mark_u285X3 rfl (b0 := cX2_mark) (m0 := 4) (r0 := (some .int)) (by decide +kernel) dxoX2_mark rfl (ci := 2) cfX3.1 (by decide) c9 (Nat.le_refl _) (Nat.le_of_ble_eq_true rfl) (Nat.le_of_ble_eq_true rfl) (Nat.le_refl _) (Nat.le_refl _) ts_kv0 W (ts_kki kk9)
        · exact ts_callO (M' := mX4_mark) (C := RX4) (owner := "TurnipSquires$Kind") (pc' := 71) (av := [.ref (g.2.2.2 o 6), .int p0, .ref (g.2.2.2 o 2)]) (st := _) (b := (hk7 (g.2.2.2 (g.2.2.2 o 6) 0) p0.toNatClampNeg)) rfl dX11_ask_68 rfl gX11_ask_X4_mark_u285X4 rfl (b0 := cX2_mark) (m0 := 4) (r0 := (some .int)) (by decide +kernel) dxoX2_mark rfl (ci := 3) cfX4.1 (by decide) c9 (Nat.le_refl _) (Nat.le_of_ble_eq_true rfl) (Nat.le_of_ble_eq_true rfl) (Nat.le_refl _) (Nat.le_refl _) ts_kv0 W (ts_kki kk9)
        · exact ts_callO (M' := mX5_mark) (C := RX5) (owner := "TurnipSquires$Kind") (pc' := 71) (av := [.ref (g.2.2.2 o 6), .int p0, .ref (g.2.2.2 o 2)]) (st := _) (b := (hk7 (g.2.2.2 (g.2.2.2 o 6) 0) p0.toNatClampNeg)) rfl dX11_ask_68 rfl gX11_ask_X5_mark_u285X5 rfl (b0 := cX2_mark) (m0 := 4) (r0 := (some .int)) (by decide +kernel) dxoX2_mark rfl (ci := 4) cfX5.1 (by decide) c9 (Nat.le_refl _) (Nat.le_of_ble_eq_true rfl) (Nat.le_of_ble_eq_true rfl) (Nat.le_refl _) (Nat.le_refl _) ts_kv0 W (ts_kki kk9)
        · exact ts_callO (M' := mX0_mark) (C := RX8) (owner := "TurnipSquires$Kind") (pc' := 71) (av := [.ref (g.2.2.2 o 6), .int p0, .ref (g.2.2.2 o 2)]) (st := _) (b := (hk7 (g.2.2.2 (g.2.2.2 o 6) 0) p0.toNatClampNeg)) rfl dX11_ask_68 rfl gX11_ask_X0_mark_u285X8 rfl (b0 := cX2_mark) (m0 := 4) (r0 := (some .int)) (by decide +kernel) dxoX2_mark rfl (ci := 7) cfX8.1 (by decide) c9 (Nat.le_refl _) (Nat.le_of_ble_eq_true rfl) (Nat.le_of_ble_eq_true rfl) (Nat.le_refl _) (Nat.le_refl _) ts_kv0 W (ts_kki kk9)
      · replace W := W.2 q19
        refine ts_aload_n 0 (pc' := 43) rfl dX11_ask_42 rfl rfl ?_
        refine ts_aload_n 1 (pc' := 44) rfl dX11_ask_43 rfl rfl ?_
        refine ts_getR (pc' := 47) (ci := 10) 6 cfX11.1 cfX11.2.1 cfX11.2.2 rfl (by decide) hnX11_ask_X11 flX11_ask_65 rfl dX11_ask_44 c4 c13 ?_
        refine ts_iload_n 2 (pc' := 48) rfl dX11_ask_47 rfl rfl ?_
        refine ts_aload_n 1 (pc' := 49) rfl dX11_ask_48 rfl rfl ?_
        refine ts_getR (pc' := 52) (ci := 10) 2 cfX11.1 cfX11.2.1 cfX11.2.2 rfl (by decide) hnX11_ask_X11 flX11_ask_25 rfl dX11_ask_49 c4 c10 ?_
        have kk9 : ∀ (v25 : Int32) (hi23 : ts_I) (hk24 : ts_K), (Q v25 hi23 hk24) → ts_JJ (d + 1) 0 0 mX11_ask none g.1 (ts_q0 g (ts_qi Q)) 0 0 55 [(3, .ref (hk7 (g.2.2.2 (g.2.2.2 o 6) 0) p0.toNatClampNeg)), (0, .ref o), (1, .int p0), (2, .int p1)] [.int v25] g hi23 hk24 := by
          intro v25 hi23 hk24 W
          refine ts_goto (tgt := 71) dX11_ask_55 (by decide) ?_
          exact ts_iret dX11_ask_71 rfl (Nat.le_refl _) (Nat.le_refl _) ⟨rfl, _, rfl, W⟩
        obtain ⟨M9, h9, W⟩ := W
        simp only [List.mem_cons, List.not_mem_nil, or_false, Prod.mk.injEq] at h9
        rcases h9 with ⟨c9, rfl⟩ | ⟨c9, rfl⟩ | ⟨c9, rfl⟩ | ⟨c9, rfl⟩ | ⟨c9, rfl⟩
        · exact ts_callO (M' := mX0_size) (C := RX0) (owner := "TurnipSquires$Kind") (pc' := 55) (av := [.ref (g.2.2.2 o 6), .int p0, .ref (g.2.2.2 o 2)]) (st := _) (b := (hk7 (g.2.2.2 (g.2.2.2 o 6) 0) p0.toNatClampNeg)) rfl dX11_ask_52 rfl gX11_ask_X0_size_u282X0 rfl (b0 := cX2_size) (m0 := 4) (r0 := (some .int)) (by decide +kernel) dxoX2_size rfl (ci := 0) cfX0.1 (by decide) c9 (Nat.le_refl _) (Nat.le_of_ble_eq_true rfl) (Nat.le_of_ble_eq_true rfl) (Nat.le_refl _) (Nat.le_refl _) ts_kv0 W (ts_kki kk9)
        · exact ts_callO (M' := mX3_size) (C := RX3) (owner := "TurnipSquires$Kind") (pc' := 55) (av := [.ref (g.2.2.2 o 6), .int p0, .ref (g.2.2.2 o 2)]) (st := _) (b := (hk7 (g.2.2.2 (g.2.2.2 o 6) 0) p0.toNatClampNeg)) rfl dX11_ask_52 rfl gX11_ask_X3_size_u282X3 rfl (b0 := cX2_size) (m0 := 4) (r0 := (some .int)) (by decide +kernel) dxoX2_size rfl (ci := 2) cfX3.1 (by decide) c9 (Nat.le_refl _) (Nat.le_of_ble_eq_true rfl) (Nat.le_of_ble_eq_true rfl) (Nat.le_refl _) (Nat.le_refl _) ts_kv0 W (ts_kki kk9)
        · exact ts_callO (M' := mX4_size) (C := RX4) (owner := "TurnipSquires$Kind") (pc' := 55) (av := [.ref (g.2.2.2 o 6), .int p0, .ref (g.2.2.2 o 2)]) (st := _) (b := (hk7 (g.2.2.2 (g.2.2.2 o 6) 0) p0.toNatClampNeg)) rfl dX11_ask_52 rfl gX11_ask_X4_size_u282X4 rfl (b0 := cX2_size) (m0 := 4) (r0 := (some .int)) (by decide +kernel) dxoX2_size rfl (ci := 3) cfX4.1 (by decide) c9 (Nat.le_refl _) (Nat.le_of_ble_eq_true rfl) (Nat.le_of_ble_eq_true rfl) (Nat.le_refl _) (Nat.le_refl _) ts_kv0 W (ts_kki kk9)
        · exact ts_callO (M' := mX4_size) (C := RX5) (owner := "TurnipSquires$Kind") (pc' := 55) (av := [.ref (g.2.2.2 o 6), .int p0, .ref (g.2.2.2 o 2)]) (st := _) (b := (hk7 (g.2.2.2 (g.2.2.2 o 6) 0) p0.toNatClampNeg)) rfl dX11_ask_52 rfl gX11_ask_X4_size_u282X5 rfl (b0 := cX2_size) (m0 := 4) (r0 := (some .int)) (by decide +kernel) dxoX2_size rfl (ci := 4) cfX5.1 (by decide) c9 (Nat.le_refl _) (Nat.le_of_ble_eq_true rfl) (Nat.le_of_ble_eq_true rfl) (Nat.le_refl _) (Nat.le_refl _) ts_kv0 W (ts_kki kk9)
        · exact ts_callO (M' := mX8_size) (C := RX8) (owner := "TurnipSquires$Kind") (pc' := 55) (av := [.ref (g.2.2.2 o 6), .int p0, .ref (g.2.2.2 o 2)]) (st := _) (b := (hk7 (g.2.2.2 (g.2.2.2 o 6) 0) p0.toNatClampNeg)) rfl dX11_ask_52 rfl gX11_ask_X8_size_u282X8 rfl (b0 := cX2_size) (m0 := 4) (r0 := (some .int)) (by decide +kernel) dxoX2_size rfl (ci := 7) cfX8.1 (by decide) c9 (Nat.le_refl _) (Nat.le_of_ble_eq_true rfl) (Nat.le_of_ble_eq_true rfl) (Nat.le_refl _) (Nat.le_refl _) ts_kv0 W (ts_kki kk9)
    · replace W := W.2 q9
      refine ts_ldc (v := (-1000001)) (pc' := 19) rfl dX11_ask_17 (by decide +kernel) ?_
      exact ts_iret dX11_ask_19 rfl (Nat.le_refl _) (Nat.le_refl _) ⟨rfl, _, rfl, W⟩
theorem hnX11_trace_X10 : ∀ w ∈ u_ws RX10 TX10 2, w ∈ wsX11_trace := by decide +kernel
theorem hnX11_trace_X11 : ∀ w ∈ u_ws RX11 TX11 13, w ∈ wsX11_trace := by decide +kernel
theorem flX11_trace_25 : Cond.fieldLink RX11 25 "TurnipSquires" "left" "LTurnipSquires$Trace;" ∈ wsX11_trace := by decide +kernel
theorem flX11_trace_281 : Cond.fieldLink RX11 281 "TurnipSquires$Trace" "size" "I" ∈ wsX11_trace := by decide +kernel
theorem flX11_trace_288 : Cond.fieldLink RX11 288 "TurnipSquires$Trace" "numbers" "[I" ∈ wsX11_trace := by decide +kernel
set_option maxHeartbeats 4000000 in
theorem wX11_trace_0 {d : Nat} {g : ts_G} {Q : Int32 → ts_I → ts_K → Prop} {o : Nat} {p0 : Int32} {hi : ts_I} {hk : ts_K} (W : ((p0 < 0) → Q (-1000000) hi hk) ∧ (¬ (p0 < 0) → (g.2.1 o = 10) ∧ (g.2.2.2 o 2 ≠ 0) ∧ (g.2.1 (g.2.2.2 o 2) = 9) ∧ (((hi (g.2.2.2 o 2) 1) ≤ p0) → Q (-1000000) hi hk) ∧ (¬ ((hi (g.2.2.2 o 2) 1) ≤ p0) → (g.2.2.2 (g.2.2.2 o 2) 0 ≠ 0) ∧ (g.2.1 (g.2.2.2 (g.2.2.2 o 2) 0) = 100) ∧ (vp_in p0 (g.2.2.1 (g.2.2.2 (g.2.2.2 o 2) 0))) ∧ Q (hi (g.2.2.2 (g.2.2.2 o 2) 0) p0.toNatClampNeg) hi hk))) : ts_J0 d mX11_trace (ts_qi Q) g 0 [(0, .ref o), (1, .int p0)] [] hi hk := by
  refine ts_iload_n 1 (pc' := 1) rfl dX11_trace_0 rfl rfl ?_
  refine ts_if_lt (pc' := 4) (tgt := 27) rfl dX11_trace_1 (by decide) (fun q1 => ?_) (fun q1 => ?_)
  · replace W := W.1 q1
    refine ts_ldc (v := (-1000000)) (pc' := 29) rfl dX11_trace_27 (by decide +kernel) ?_
    exact ts_iret dX11_trace_29 rfl (Nat.le_refl _) (Nat.le_refl _) ⟨rfl, _, rfl, W⟩
  · replace W := W.2 q1
    refine ts_iload_n 1 (pc' := 5) rfl dX11_trace_4 rfl rfl ?_
    refine ts_aload_n 0 (pc' := 6) rfl dX11_trace_5 rfl rfl ?_
    obtain ⟨c2, W⟩ := W
    obtain ⟨c3, W⟩ := W
    refine ts_getR (pc' := 9) (ci := 10) 2 cfX11.1 cfX11.2.1 cfX11.2.2 rfl (by decide) hnX11_trace_X11 flX11_trace_25 rfl dX11_trace_6 c2 c3 ?_
    obtain ⟨c4, W⟩ := W
    refine ts_getI (pc' := 12) (ci := 9) 1 cfX10.1 cfX10.2.1 cfX10.2.2 rfl (by decide) hnX11_trace_X10 flX11_trace_281 rfl dX11_trace_9 c4 ?_
    refine ts_icmp_ge (pc' := 15) (tgt := 27) rfl dX11_trace_12 (by decide) (fun q5 => ?_) (fun q5 => ?_)
    · replace W := W.1 q5
      refine ts_ldc (v := (-1000000)) (pc' := 29) rfl dX11_trace_27 (by decide +kernel) ?_
      exact ts_iret dX11_trace_29 rfl (Nat.le_refl _) (Nat.le_refl _) ⟨rfl, _, rfl, W⟩
    · replace W := W.2 q5
      refine ts_aload_n 0 (pc' := 16) rfl dX11_trace_15 rfl rfl ?_
      refine ts_getR (pc' := 19) (ci := 10) 2 cfX11.1 cfX11.2.1 cfX11.2.2 rfl (by decide) hnX11_trace_X11 flX11_trace_25 rfl dX11_trace_16 c2 c3 ?_
      obtain ⟨c6, W⟩ := W
      refine ts_getR (pc' := 22) (ci := 9) 0 cfX10.1 cfX10.2.1 cfX10.2.2 rfl (by decide) hnX11_trace_X10 flX11_trace_288 rfl dX11_trace_19 c4 c6 ?_
      refine ts_iload_n 1 (pc' := 23) rfl dX11_trace_22 rfl rfl ?_
      obtain ⟨c7, W⟩ := W
      obtain ⟨c8, W⟩ := W
      refine ts_iaload (pc' := 24) rfl dX11_trace_23 c7 c8 ?_
      refine ts_goto (tgt := 29) dX11_trace_24 (by decide) ?_
      exact ts_iret dX11_trace_29 rfl (Nat.le_refl _) (Nat.le_refl _) ⟨rfl, _, rfl, W⟩
theorem hnX11_count_X1 : ∀ w ∈ u_ws RX1 TX1 13, w ∈ wsX11_count := by decide +kernel
theorem hnX11_count_X11 : ∀ w ∈ u_ws RX11 TX11 13, w ∈ wsX11_count := by decide +kernel
theorem hnX11_count_X9 : ∀ w ∈ u_ws RX9 TX9 5, w ∈ wsX11_count := by decide +kernel
theorem flX11_count_18 : Cond.fieldLink RX11 18 "TurnipSquires" "tape" "LTurnipSquires$Tape;" ∈ wsX11_count := by decide +kernel
theorem flX11_count_65 : Cond.fieldLink RX11 65 "TurnipSquires" "now" "LTurnipSquires$Field;" ∈ wsX11_count := by decide +kernel
theorem flX11_count_132 : Cond.fieldLink RX11 132 "TurnipSquires$Tape" "size" "I" ∈ wsX11_count := by decide +kernel
theorem flX11_count_152 : Cond.fieldLink RX11 152 "TurnipSquires" "actsKept" "I" ∈ wsX11_count := by decide +kernel
theorem flX11_count_155 : Cond.fieldLink RX11 155 "TurnipSquires$Field" "count" "I" ∈ wsX11_count := by decide +kernel
theorem flX11_count_159 : Cond.fieldLink RX11 159 "TurnipSquires$Field" "year" "I" ∈ wsX11_count := by decide +kernel
theorem flX11_count_195 : Cond.fieldLink RX11 195 "TurnipSquires$Field" "ground" "I" ∈ wsX11_count := by decide +kernel
theorem flX11_count_294 : Cond.fieldLink RX11 294 "TurnipSquires$Field" "frost" "I" ∈ wsX11_count := by decide +kernel
set_option maxHeartbeats 4000000 in
theorem wX11_count_0 {d : Nat} {g : ts_G} {Q : Int32 → ts_I → ts_K → Prop} {o : Nat} {p0 : Int32} {hi : ts_I} {hk : ts_K} (W : (p0 = 0 → (g.2.1 o = 10) ∧ ts_E0 d mX11_rowsThere [.ref o] g hi hk (ts_qi (fun v4 hi2 hk3 => Q v4 hi2 hk3))) ∧ (p0 = 1 → (g.2.1 o = 10) ∧ (g.2.2.2 o 6 ≠ 0) ∧ (g.2.1 (g.2.2.2 o 6) = 1) ∧ Q (hi (g.2.2.2 o 6) 9) hi hk) ∧ (p0 = 2 → (g.2.1 o = 10) ∧ (g.2.2.2 o 6 ≠ 0) ∧ (g.2.1 (g.2.2.2 o 6) = 1) ∧ Q (hi (g.2.2.2 o 6) 10) hi hk) ∧ (p0 = 3 → (g.2.1 o = 10) ∧ (g.2.2.2 o 6 ≠ 0) ∧ (g.2.1 (g.2.2.2 o 6) = 1) ∧ Q (hi (g.2.2.2 o 6) 11) hi hk) ∧ (p0 = 4 → (g.2.1 o = 10) ∧ (g.2.2.2 o 6 ≠ 0) ∧ (g.2.1 (g.2.2.2 o 6) = 1) ∧ Q (hi (g.2.2.2 o 6) 12) hi hk) ∧ (p0 = 5 → (g.2.1 o = 10) ∧ (g.2.2.2 o 6 ≠ 0) ∧ (g.2.1 (g.2.2.2 o 6) = 1) ∧ ts_E0 d mX1_allRanks [.ref (g.2.2.2 o 6)] g hi hk (ts_qi (fun v27 hi25 hk26 => Q v27 hi25 hk26))) ∧ (p0 = 6 → (g.2.1 o = 10) ∧ (g.2.2.2 o 6 ≠ 0) ∧ (g.2.1 (g.2.2.2 o 6) = 1) ∧ ts_E0 d mX1_allMarried [.ref (g.2.2.2 o 6)] g hi hk (ts_qi (fun v34 hi32 hk33 => Q v34 hi32 hk33))) ∧ (p0 = 7 → (g.2.1 o = 10) ∧ Q (hi o 12) hi hk) ∧ (p0 = 8 → (g.2.1 o = 10) ∧ (g.2.2.2 o 1 ≠ 0) ∧ (g.2.1 (g.2.2.2 o 1) = 8) ∧ Q (hi (g.2.2.2 o 1) 1) hi hk) ∧ (¬ p0 = 0 → ¬ p0 = 1 → ¬ p0 = 2 → ¬ p0 = 3 → ¬ p0 = 4 → ¬ p0 = 5 → ¬ p0 = 6 → ¬ p0 = 7 → ¬ p0 = 8 → Q (-1000001) hi hk)) : ts_J0 (d + 1) mX11_count (ts_qi Q) g 0 [(0, .ref o), (1, .int p0)] [] hi hk := by
  refine ts_iload_n 1 (pc' := 1) rfl dX11_count_0 rfl rfl ?_
  by_cases q1 : p0 = 0
  · replace W := W.1 q1
    refine ts_tableI (i := 0) (off := 51) (tgt := 52) dX11_count_1 (by rw [q1]; rfl) (by decide) (by decide) rfl (by decide) ?_
    refine ts_aload_n 0 (pc' := 53) rfl dX11_count_52 rfl rfl ?_
    obtain ⟨c5, W⟩ := W
    refine ts_callV (M' := mX11_rowsThere) (C := RX11) (pc' := 56) (av := []) (b := o) rfl dX11_count_53 rfl gX11_count_X11_rowsThere rfl dvX11_rowsThere rfl (ci := 10) cfX11.1 (by decide) c5 (Nat.le_refl _) (Nat.le_of_ble_eq_true rfl) (Nat.le_of_ble_eq_true rfl) (Nat.le_refl _) (Nat.le_refl _) ts_kv0 W (ts_kki fun v4 hi2 hk3 W => ?_)
    exact ts_iret dX11_count_56 rfl (Nat.le_refl _) (Nat.le_refl _) ⟨rfl, _, rfl, W⟩
  replace W := W.2
  by_cases q6 : p0 = 1
  · replace W := W.1 q6
    refine ts_tableI (i := 1) (off := 56) (tgt := 57) dX11_count_1 (by rw [q6]; rfl) (by decide) (by decide) rfl (by decide) ?_
    refine ts_aload_n 0 (pc' := 58) rfl dX11_count_57 rfl rfl ?_
    obtain ⟨c7, W⟩ := W
    obtain ⟨c8, W⟩ := W
    refine ts_getR (pc' := 61) (ci := 10) 6 cfX11.1 cfX11.2.1 cfX11.2.2 rfl (by decide) hnX11_count_X11 flX11_count_65 rfl dX11_count_58 c7 c8 ?_
    obtain ⟨c9, W⟩ := W
    refine ts_getI (pc' := 64) (ci := 1) 9 cfX1.1 cfX1.2.1 cfX1.2.2 rfl (by decide) hnX11_count_X1 flX11_count_155 rfl dX11_count_61 c9 ?_
    exact ts_iret dX11_count_64 rfl (Nat.le_refl _) (Nat.le_refl _) ⟨rfl, _, rfl, W⟩
  replace W := W.2
  by_cases q10 : p0 = 2
  · replace W := W.1 q10
    refine ts_tableI (i := 2) (off := 64) (tgt := 65) dX11_count_1 (by rw [q10]; rfl) (by decide) (by decide) rfl (by decide) ?_
    refine ts_aload_n 0 (pc' := 66) rfl dX11_count_65 rfl rfl ?_
    obtain ⟨c11, W⟩ := W
    obtain ⟨c12, W⟩ := W
    refine ts_getR (pc' := 69) (ci := 10) 6 cfX11.1 cfX11.2.1 cfX11.2.2 rfl (by decide) hnX11_count_X11 flX11_count_65 rfl dX11_count_66 c11 c12 ?_
    obtain ⟨c13, W⟩ := W
    refine ts_getI (pc' := 72) (ci := 1) 10 cfX1.1 cfX1.2.1 cfX1.2.2 rfl (by decide) hnX11_count_X1 flX11_count_159 rfl dX11_count_69 c13 ?_
    exact ts_iret dX11_count_72 rfl (Nat.le_refl _) (Nat.le_refl _) ⟨rfl, _, rfl, W⟩
  replace W := W.2
  by_cases q14 : p0 = 3
  · replace W := W.1 q14
    refine ts_tableI (i := 3) (off := 72) (tgt := 73) dX11_count_1 (by rw [q14]; rfl) (by decide) (by decide) rfl (by decide) ?_
    refine ts_aload_n 0 (pc' := 74) rfl dX11_count_73 rfl rfl ?_
    obtain ⟨c15, W⟩ := W
    obtain ⟨c16, W⟩ := W
    refine ts_getR (pc' := 77) (ci := 10) 6 cfX11.1 cfX11.2.1 cfX11.2.2 rfl (by decide) hnX11_count_X11 flX11_count_65 rfl dX11_count_74 c15 c16 ?_
    obtain ⟨c17, W⟩ := W
    refine ts_getI (pc' := 80) (ci := 1) 11 cfX1.1 cfX1.2.1 cfX1.2.2 rfl (by decide) hnX11_count_X1 flX11_count_195 rfl dX11_count_77 c17 ?_
    exact ts_iret dX11_count_80 rfl (Nat.le_refl _) (Nat.le_refl _) ⟨rfl, _, rfl, W⟩
  replace W := W.2
  by_cases q18 : p0 = 4
  · replace W := W.1 q18
    refine ts_tableI (i := 4) (off := 80) (tgt := 81) dX11_count_1 (by rw [q18]; rfl) (by decide) (by decide) rfl (by decide) ?_
    refine ts_aload_n 0 (pc' := 82) rfl dX11_count_81 rfl rfl ?_
    obtain ⟨c19, W⟩ := W
    obtain ⟨c20, W⟩ := W
    refine ts_getR (pc' := 85) (ci := 10) 6 cfX11.1 cfX11.2.1 cfX11.2.2 rfl (by decide) hnX11_count_X11 flX11_count_65 rfl dX11_count_82 c19 c20 ?_
    obtain ⟨c21, W⟩ := W
    refine ts_getI (pc' := 88) (ci := 1) 12 cfX1.1 cfX1.2.1 cfX1.2.2 rfl (by decide) hnX11_count_X1 flX11_count_294 rfl dX11_count_85 c21 ?_
    exact ts_iret dX11_count_88 rfl (Nat.le_refl _) (Nat.le_refl _) ⟨rfl, _, rfl, W⟩
  replace W := W.2
  by_cases q22 : p0 = 5
  · replace W := W.1 q22
    refine ts_tableI (i := 5) (off := 88) (tgt := 89) dX11_count_1 (by rw [q22]; rfl) (by decide) (by decide) rfl (by decide) ?_
    refine ts_aload_n 0 (pc' := 90) rfl dX11_count_89 rfl rfl ?_
    obtain ⟨c23, W⟩ := W
    obtain ⟨c24, W⟩ := W
    refine ts_getR (pc' := 93) (ci := 10) 6 cfX11.1 cfX11.2.1 cfX11.2.2 rfl (by decide) hnX11_count_X11 flX11_count_65 rfl dX11_count_90 c23 c24 ?_
    obtain ⟨c28, W⟩ := W
    refine ts_callV (M' := mX1_allRanks) (C := RX1) (pc' := 96) (av := []) (b := (g.2.2.2 o 6)) rfl dX11_count_93 rfl gX11_count_X1_allRanks rfl dvX1_allRanks rfl (ci := 1) cfX1.1 (by decide) c28 (Nat.le_refl _) (Nat.le_of_ble_eq_true rfl) (Nat.le_of_ble_eq_true rfl) (Nat.le_refl _) (Nat.le_refl _) ts_kv0 W (ts_kki fun v27 hi25 hk26 W => ?_)
    exact ts_iret dX11_count_96 rfl (Nat.le_refl _) (Nat.le_refl _) ⟨rfl, _, rfl, W⟩
  replace W := W.2
  by_cases q29 : p0 = 6
  · replace W := W.1 q29
    refine ts_tableI (i := 6) (off := 96) (tgt := 97) dX11_count_1 (by rw [q29]; rfl) (by decide) (by decide) rfl (by decide) ?_
    refine ts_aload_n 0 (pc' := 98) rfl dX11_count_97 rfl rfl ?_
    obtain ⟨c30, W⟩ := W
    obtain ⟨c31, W⟩ := W
    refine ts_getR (pc' := 101) (ci := 10) 6 cfX11.1 cfX11.2.1 cfX11.2.2 rfl (by decide) hnX11_count_X11 flX11_count_65 rfl dX11_count_98 c30 c31 ?_
    obtain ⟨c35, W⟩ := W
    refine ts_callV (M' := mX1_allMarried) (C := RX1) (pc' := 104) (av := []) (b := (g.2.2.2 o 6)) rfl dX11_count_101 rfl gX11_count_X1_allMarried rfl dvX1_allMarried rfl (ci := 1) cfX1.1 (by decide) c35 (Nat.le_refl _) (Nat.le_of_ble_eq_true rfl) (Nat.le_of_ble_eq_true rfl) (Nat.le_refl _) (Nat.le_refl _) ts_kv0 W (ts_kki fun v34 hi32 hk33 W => ?_)
    exact ts_iret dX11_count_104 rfl (Nat.le_refl _) (Nat.le_refl _) ⟨rfl, _, rfl, W⟩
  replace W := W.2
  by_cases q36 : p0 = 7
  · replace W := W.1 q36
    refine ts_tableI (i := 7) (off := 104) (tgt := 105) dX11_count_1 (by rw [q36]; rfl) (by decide) (by decide) rfl (by decide) ?_
    refine ts_aload_n 0 (pc' := 106) rfl dX11_count_105 rfl rfl ?_
    obtain ⟨c37, W⟩ := W
    refine ts_getI (pc' := 109) (ci := 10) 12 cfX11.1 cfX11.2.1 cfX11.2.2 rfl (by decide) hnX11_count_X11 flX11_count_152 rfl dX11_count_106 c37 ?_
    exact ts_iret dX11_count_109 rfl (Nat.le_refl _) (Nat.le_refl _) ⟨rfl, _, rfl, W⟩
  replace W := W.2
  by_cases q38 : p0 = 8
  · replace W := W.1 q38
    refine ts_tableI (i := 8) (off := 109) (tgt := 110) dX11_count_1 (by rw [q38]; rfl) (by decide) (by decide) rfl (by decide) ?_
    refine ts_aload_n 0 (pc' := 111) rfl dX11_count_110 rfl rfl ?_
    obtain ⟨c39, W⟩ := W
    obtain ⟨c40, W⟩ := W
    refine ts_getR (pc' := 114) (ci := 10) 1 cfX11.1 cfX11.2.1 cfX11.2.2 rfl (by decide) hnX11_count_X11 flX11_count_18 rfl dX11_count_111 c39 c40 ?_
    obtain ⟨c41, W⟩ := W
    refine ts_getI (pc' := 117) (ci := 8) 1 cfX9.1 cfX9.2.1 cfX9.2.2 rfl (by decide) hnX11_count_X9 flX11_count_132 rfl dX11_count_114 c41 ?_
    exact ts_iret dX11_count_117 rfl (Nat.le_refl _) (Nat.le_refl _) ⟨rfl, _, rfl, W⟩
  replace W := W.2
  replace W := W q1 q6 q10 q14 q18 q22 q29 q36 q38
  have hs42 : ∀ i, i < 9 → ¬ p0 = Int32.ofNat (0 + i) := by
    intro i hi0
    have h0 : i = 0 ∨ i = 1 ∨ i = 2 ∨ i = 3 ∨ i = 4 ∨ i = 5 ∨ i = 6 ∨ i = 7 ∨ i = 8 := by omega
    rcases h0 with rfl | rfl | rfl | rfl | rfl | rfl | rfl | rfl | rfl
    · exact q1
    · exact q6
    · exact q10
    · exact q14
    · exact q18
    · exact q22
    · exact q29
    · exact q36
    · exact q38
  refine ts_tableO (tgt := 118) dX11_count_1 (ts_swout (l := 0) (n := 9) rfl (by decide) (by decide) hs42) (by decide) ?_
  refine ts_ldc (v := (-1000001)) (pc' := 120) rfl dX11_count_118 (by decide +kernel) ?_
  exact ts_iret dX11_count_120 rfl (Nat.le_refl _) (Nat.le_refl _) ⟨rfl, _, rfl, W⟩
theorem hnX11_status_X11 : ∀ w ∈ u_ws RX11 TX11 13, w ∈ wsX11_status := by decide +kernel
theorem flX11_status_297 : Cond.fieldLink RX11 297 "TurnipSquires" "finding" "I" ∈ wsX11_status := by decide +kernel
set_option maxHeartbeats 4000000 in
theorem wX11_status_0 {d : Nat} {g : ts_G} {Q : Int32 → ts_I → ts_K → Prop} {o : Nat} {hi : ts_I} {hk : ts_K} (W : (g.2.1 o = 10) ∧ Q (hi o 9) hi hk) : ts_J0 d mX11_status (ts_qi Q) g 0 [(0, .ref o)] [] hi hk := by
  refine ts_aload_n 0 (pc' := 1) rfl dX11_status_0 rfl rfl ?_
  obtain ⟨c1, W⟩ := W
  refine ts_getI (pc' := 4) (ci := 10) 9 cfX11.1 cfX11.2.1 cfX11.2.2 rfl (by decide) hnX11_status_X11 flX11_status_297 rfl dX11_status_1 c1 ?_
  exact ts_iret dX11_status_4 rfl (Nat.le_refl _) (Nat.le_refl _) ⟨rfl, _, rfl, W⟩
set_option maxHeartbeats 4000000 in
theorem wX11_outside_0 {d : Nat} {g : ts_G} {Q : Int32 → ts_I → ts_K → Prop} {p0 : Int32} {p1 : Int32} {p2 : Int32} {hi : ts_I} {hk : ts_K} (W : ((p0 < p1) → Q 1 hi hk) ∧ (¬ (p0 < p1) → ((p0 ≤ p2) → Q 0 hi hk) ∧ (¬ (p0 ≤ p2) → Q 1 hi hk))) : ts_J0 d mX11_outside (ts_qi Q) g 0 [(0, .int p0), (1, .int p1), (2, .int p2)] [] hi hk := by
  refine ts_iload_n 0 (pc' := 1) rfl dX11_outside_0 rfl rfl ?_
  refine ts_iload_n 1 (pc' := 2) rfl dX11_outside_1 rfl rfl ?_
  refine ts_icmp_lt (pc' := 5) (tgt := 10) rfl dX11_outside_2 (by decide) (fun q1 => ?_) (fun q1 => ?_)
  · replace W := W.1 q1
    refine ts_iconst (v := 1) (pc' := 11) rfl dX11_outside_10 (by decide) ?_
    refine ts_goto (tgt := 15) dX11_outside_11 (by decide) ?_
    exact ts_zret dX11_outside_15 rfl (by decide) (Nat.le_refl _) (Nat.le_refl _) ⟨rfl, _, rfl, W⟩
  · replace W := W.2 q1
    refine ts_iload_n 0 (pc' := 6) rfl dX11_outside_5 rfl rfl ?_
    refine ts_iload_n 2 (pc' := 7) rfl dX11_outside_6 rfl rfl ?_
    refine ts_icmp_le (pc' := 10) (tgt := 14) rfl dX11_outside_7 (by decide) (fun q2 => ?_) (fun q2 => ?_)
    · replace W := W.1 q2
      refine ts_iconst (v := 0) (pc' := 15) rfl dX11_outside_14 (by decide) ?_
      exact ts_zret dX11_outside_15 rfl (by decide) (Nat.le_refl _) (Nat.le_refl _) ⟨rfl, _, rfl, W⟩
    · replace W := W.2 q2
      refine ts_iconst (v := 1) (pc' := 11) rfl dX11_outside_10 (by decide) ?_
      refine ts_goto (tgt := 15) dX11_outside_11 (by decide) ?_
      exact ts_zret dX11_outside_15 rfl (by decide) (Nat.le_refl _) (Nat.le_refl _) ⟨rfl, _, rfl, W⟩
set_option maxHeartbeats 4000000 in
theorem wX11_mateToTell_0 {d : Nat} {g : ts_G} {Q : Int32 → ts_I → ts_K → Prop} {p0 : Int32} {hi : ts_I} {hk : ts_K} (W : ((p0 ≠ (-1)) → Q p0 hi hk) ∧ (¬ (p0 ≠ (-1)) → Q (-1000000) hi hk)) : ts_J0 d mX11_mateToTell (ts_qi Q) g 0 [(0, .int p0)] [] hi hk := by
  refine ts_iload_n 0 (pc' := 1) rfl dX11_mateToTell_0 rfl rfl ?_
  refine ts_iconst (v := (-1)) (pc' := 2) rfl dX11_mateToTell_1 (by decide) ?_
  refine ts_icmp_ne (pc' := 5) (tgt := 10) rfl dX11_mateToTell_2 (by decide) (fun q1 => ?_) (fun q1 => ?_)
  · replace W := W.1 q1
    refine ts_iload_n 0 (pc' := 11) rfl dX11_mateToTell_10 rfl rfl ?_
    exact ts_iret dX11_mateToTell_11 rfl (Nat.le_refl _) (Nat.le_refl _) ⟨rfl, _, rfl, W⟩
  · replace W := W.2 q1
    refine ts_ldc (v := (-1000000)) (pc' := 7) rfl dX11_mateToTell_5 (by decide +kernel) ?_
    refine ts_goto (tgt := 11) dX11_mateToTell_7 (by decide) ?_
    exact ts_iret dX11_mateToTell_11 rfl (Nat.le_refl _) (Nat.le_refl _) ⟨rfl, _, rfl, W⟩
set_option maxHeartbeats 4000000 in
theorem wX11_isRow_0 {d : Nat} {g : ts_G} {Q : Int32 → ts_I → ts_K → Prop} {p0 : Int32} {hi : ts_I} {hk : ts_K} (W : ((p0 < 0) → Q 0 hi hk) ∧ (¬ (p0 < 0) → ((8 ≤ p0) → Q 0 hi hk) ∧ (¬ (8 ≤ p0) → Q 1 hi hk))) : ts_J0 d mX11_isRow (ts_qi Q) g 0 [(0, .int p0)] [] hi hk := by
  refine ts_iload_n 0 (pc' := 1) rfl dX11_isRow_0 rfl rfl ?_
  refine ts_if_lt (pc' := 4) (tgt := 14) rfl dX11_isRow_1 (by decide) (fun q1 => ?_) (fun q1 => ?_)
  · replace W := W.1 q1
    refine ts_iconst (v := 0) (pc' := 15) rfl dX11_isRow_14 (by decide) ?_
    exact ts_zret dX11_isRow_15 rfl (by decide) (Nat.le_refl _) (Nat.le_refl _) ⟨rfl, _, rfl, W⟩
  · replace W := W.2 q1
    refine ts_iload_n 0 (pc' := 5) rfl dX11_isRow_4 rfl rfl ?_
    refine ts_bipush (v := 8) (pc' := 7) rfl dX11_isRow_5 (by decide) ?_
    refine ts_icmp_ge (pc' := 10) (tgt := 14) rfl dX11_isRow_7 (by decide) (fun q2 => ?_) (fun q2 => ?_)
    · replace W := W.1 q2
      refine ts_iconst (v := 0) (pc' := 15) rfl dX11_isRow_14 (by decide) ?_
      exact ts_zret dX11_isRow_15 rfl (by decide) (Nat.le_refl _) (Nat.le_refl _) ⟨rfl, _, rfl, W⟩
    · replace W := W.2 q2
      refine ts_iconst (v := 1) (pc' := 11) rfl dX11_isRow_10 (by decide) ?_
      refine ts_goto (tgt := 15) dX11_isRow_11 (by decide) ?_
      exact ts_zret dX11_isRow_15 rfl (by decide) (Nat.le_refl _) (Nat.le_refl _) ⟨rfl, _, rfl, W⟩
theorem hnX11_isTurnip_X1 : ∀ w ∈ u_ws RX1 TX1 13, w ∈ wsX11_isTurnip := by decide +kernel
theorem hnX11_isTurnip_X11 : ∀ w ∈ u_ws RX11 TX11 13, w ∈ wsX11_isTurnip := by decide +kernel
theorem flX11_isTurnip_65 : Cond.fieldLink RX11 65 "TurnipSquires" "now" "LTurnipSquires$Field;" ∈ wsX11_isTurnip := by decide +kernel
theorem flX11_isTurnip_155 : Cond.fieldLink RX11 155 "TurnipSquires$Field" "count" "I" ∈ wsX11_isTurnip := by decide +kernel
set_option maxHeartbeats 4000000 in
theorem wX11_isTurnip_0 {d : Nat} {g : ts_G} {Q : Int32 → ts_I → ts_K → Prop} {o : Nat} {p0 : Int32} {hi : ts_I} {hk : ts_K} (W : ((p0 < 0) → Q 0 hi hk) ∧ (¬ (p0 < 0) → (g.2.1 o = 10) ∧ (g.2.2.2 o 6 ≠ 0) ∧ (g.2.1 (g.2.2.2 o 6) = 1) ∧ (((hi (g.2.2.2 o 6) 9) ≤ p0) → Q 0 hi hk) ∧ (¬ ((hi (g.2.2.2 o 6) 9) ≤ p0) → Q 1 hi hk))) : ts_J0 d mX11_isTurnip (ts_qi Q) g 0 [(0, .ref o), (1, .int p0)] [] hi hk := by
  refine ts_iload_n 1 (pc' := 1) rfl dX11_isTurnip_0 rfl rfl ?_
  refine ts_if_lt (pc' := 4) (tgt := 19) rfl dX11_isTurnip_1 (by decide) (fun q1 => ?_) (fun q1 => ?_)
  · replace W := W.1 q1
    refine ts_iconst (v := 0) (pc' := 20) rfl dX11_isTurnip_19 (by decide) ?_
    exact ts_zret dX11_isTurnip_20 rfl (by decide) (Nat.le_refl _) (Nat.le_refl _) ⟨rfl, _, rfl, W⟩
  · replace W := W.2 q1
    refine ts_iload_n 1 (pc' := 5) rfl dX11_isTurnip_4 rfl rfl ?_
    refine ts_aload_n 0 (pc' := 6) rfl dX11_isTurnip_5 rfl rfl ?_
    obtain ⟨c2, W⟩ := W
    obtain ⟨c3, W⟩ := W
    refine ts_getR (pc' := 9) (ci := 10) 6 cfX11.1 cfX11.2.1 cfX11.2.2 rfl (by decide) hnX11_isTurnip_X11 flX11_isTurnip_65 rfl dX11_isTurnip_6 c2 c3 ?_
    obtain ⟨c4, W⟩ := W
    refine ts_getI (pc' := 12) (ci := 1) 9 cfX1.1 cfX1.2.1 cfX1.2.2 rfl (by decide) hnX11_isTurnip_X1 flX11_isTurnip_155 rfl dX11_isTurnip_9 c4 ?_
    refine ts_icmp_ge (pc' := 15) (tgt := 19) rfl dX11_isTurnip_12 (by decide) (fun q5 => ?_) (fun q5 => ?_)
    · replace W := W.1 q5
      refine ts_iconst (v := 0) (pc' := 20) rfl dX11_isTurnip_19 (by decide) ?_
      exact ts_zret dX11_isTurnip_20 rfl (by decide) (Nat.le_refl _) (Nat.le_refl _) ⟨rfl, _, rfl, W⟩
    · replace W := W.2 q5
      refine ts_iconst (v := 1) (pc' := 16) rfl dX11_isTurnip_15 (by decide) ?_
      refine ts_goto (tgt := 20) dX11_isTurnip_16 (by decide) ?_
      exact ts_zret dX11_isTurnip_20 rfl (by decide) (Nat.le_refl _) (Nat.le_refl _) ⟨rfl, _, rfl, W⟩
theorem hnX11_found_X11 : ∀ w ∈ u_ws RX11 TX11 13, w ∈ wsX11_found := by decide +kernel
theorem flX11_found_297 : Cond.fieldLink RX11 297 "TurnipSquires" "finding" "I" ∈ wsX11_found := by decide +kernel
set_option maxHeartbeats 4000000 in
theorem wX11_found_0 {d : Nat} {g : ts_G} {Q : Int32 → ts_I → ts_K → Prop} {o : Nat} {p0 : Int32} {hi : ts_I} {hk : ts_K} (W : (g.2.1 o = 10) ∧ ∀ hi2 : ts_I, hi2 = ts_up hi o 9 p0 → Q ((-1000010) - p0) hi2 hk) : ts_J0 d mX11_found (ts_qi Q) g 0 [(0, .ref o), (1, .int p0)] [] hi hk := by
  refine ts_aload_n 0 (pc' := 1) rfl dX11_found_0 rfl rfl ?_
  refine ts_iload_n 1 (pc' := 2) rfl dX11_found_1 rfl rfl ?_
  obtain ⟨c1, W⟩ := W
  refine ts_putI (pc' := 5) (ci := 10) 9 cfX11.1 cfX11.2.1 cfX11.2.2 rfl (by decide) hnX11_found_X11 flX11_found_297 tyX11_ok nmX11 rfl rfl rfl dX11_found_2 c1 ?_
  obtain ⟨hi2, ehi2⟩ : ∃ z, z = ts_up hi o 9 p0 := ⟨_, rfl⟩
  rw [← ehi2]; replace W := W hi2 ehi2
  refine ts_ldcw (v := (-1000010)) (pc' := 8) rfl dX11_found_5 (by decide +kernel) ?_
  refine ts_iload_n 1 (pc' := 9) rfl dX11_found_8 rfl rfl ?_
  refine ts_isub (pc' := 10) rfl dX11_found_9 ?_
  exact ts_iret dX11_found_10 rfl (Nat.le_refl _) (Nat.le_refl _) ⟨rfl, _, rfl, W⟩
theorem hnX11_fine_X11 : ∀ w ∈ u_ws RX11 TX11 13, w ∈ wsX11_fine := by decide +kernel
theorem flX11_fine_297 : Cond.fieldLink RX11 297 "TurnipSquires" "finding" "I" ∈ wsX11_fine := by decide +kernel
set_option maxHeartbeats 4000000 in
theorem wX11_fine_0 {d : Nat} {g : ts_G} {Q : Int32 → ts_I → ts_K → Prop} {o : Nat} {p0 : Int32} {hi : ts_I} {hk : ts_K} (W : (g.2.1 o = 10) ∧ ∀ hi2 : ts_I, hi2 = ts_up hi o 9 0 → Q p0 hi2 hk) : ts_J0 d mX11_fine (ts_qi Q) g 0 [(0, .ref o), (1, .int p0)] [] hi hk := by
  refine ts_aload_n 0 (pc' := 1) rfl dX11_fine_0 rfl rfl ?_
  refine ts_iconst (v := 0) (pc' := 2) rfl dX11_fine_1 (by decide) ?_
  obtain ⟨c1, W⟩ := W
  refine ts_putI (pc' := 5) (ci := 10) 9 cfX11.1 cfX11.2.1 cfX11.2.2 rfl (by decide) hnX11_fine_X11 flX11_fine_297 tyX11_ok nmX11 rfl rfl rfl dX11_fine_2 c1 ?_
  obtain ⟨hi2, ehi2⟩ : ∃ z, z = ts_up hi o 9 0 := ⟨_, rfl⟩
  rw [← ehi2]; replace W := W hi2 ehi2
  refine ts_iload_n 1 (pc' := 6) rfl dX11_fine_5 rfl rfl ?_
  exact ts_iret dX11_fine_6 rfl (Nat.le_refl _) (Nat.le_refl _) ⟨rfl, _, rfl, W⟩
theorem hnX11_rowsThere_X11 : ∀ w ∈ u_ws RX11 TX11 13, w ∈ wsX11_rowsThere := by decide +kernel
theorem hnX11_rowsThere_X6 : ∀ w ∈ u_ws RX6 TX6 4, w ∈ wsX11_rowsThere := by decide +kernel
theorem flX11_rowsThere_11 : Cond.fieldLink RX11 11 "TurnipSquires" "rows" "[LTurnipSquires$Row;" ∈ wsX11_rowsThere := by decide +kernel
theorem flX11_rowsThere_101 : Cond.fieldLink RX11 101 "TurnipSquires$Row" "there" "Z" ∈ wsX11_rowsThere := by decide +kernel
set_option maxHeartbeats 4000000 in
theorem wX11_rowsThere_0 {d : Nat} {g : ts_G} {Q : Int32 → ts_I → ts_K → Prop} {o : Nat} {hi : ts_I} {hk : ts_K} (W : ts_J0 d mX11_rowsThere (ts_qi Q) g 4 [(0, .ref o), (1, .int 0), (2, .int 0)] [] hi hk) : ts_J0 d mX11_rowsThere (ts_qi Q) g 0 [(0, .ref o)] [] hi hk := by
  refine ts_iconst (v := 0) (pc' := 1) rfl dX11_rowsThere_0 (by decide) ?_
  refine ts_istore_n (pc' := 2) (ls' := [(1, .int 0), (0, .ref o)]) rfl dX11_rowsThere_1 rfl (Nat.le_of_ble_eq_true rfl) rfl ?_
  refine ts_iconst (v := 0) (pc' := 3) rfl dX11_rowsThere_2 (by decide) ?_
  refine ts_istore_n (pc' := 4) (ls' := [(2, .int 0), (1, .int 0), (0, .ref o)]) rfl dX11_rowsThere_3 rfl (Nat.le_of_ble_eq_true rfl) rfl ?_
  exact ts_sub [2, 1, 0] rfl W
set_option maxHeartbeats 4000000 in
theorem wX11_rowsThere_4 {d : Nat} {g : ts_G} {Q : Int32 → ts_I → ts_K → Prop} {l0 : Nat} {l1 : Int32} {l2 : Int32} {hi : ts_I} {hk : ts_K} (W : ((8 ≤ l2) → Q l1 hi hk) ∧ (¬ (8 ≤ l2) → (g.2.1 l0 = 10) ∧ (g.2.2.2 l0 0 ≠ 0) ∧ (g.2.1 (g.2.2.2 l0 0) = 102) ∧ (vp_in l2 (g.2.2.1 (g.2.2.2 l0 0))) ∧ (g.2.2.2 (g.2.2.2 l0 0) l2.toNatClampNeg ≠ 0) ∧ (g.2.1 (g.2.2.2 (g.2.2.2 l0 0) l2.toNatClampNeg) = 5) ∧ (((hi (g.2.2.2 (g.2.2.2 l0 0) l2.toNatClampNeg) 1) = 0) → ts_J0 d mX11_rowsThere (ts_qi Q) g 4 [(0, .ref l0), (1, .int l1), (2, .int (l2 + 1))] [] hi hk) ∧ (¬ ((hi (g.2.2.2 (g.2.2.2 l0 0) l2.toNatClampNeg) 1) = 0) → ts_J0 d mX11_rowsThere (ts_qi Q) g 4 [(0, .ref l0), (1, .int (l1 + 1)), (2, .int (l2 + 1))] [] hi hk))) : ts_J0 d mX11_rowsThere (ts_qi Q) g 4 [(0, .ref l0), (1, .int l1), (2, .int l2)] [] hi hk := by
  refine ts_iload_n 2 (pc' := 5) rfl dX11_rowsThere_4 rfl rfl ?_
  refine ts_bipush (v := 8) (pc' := 7) rfl dX11_rowsThere_5 (by decide) ?_
  refine ts_icmp_ge (pc' := 10) (tgt := 31) rfl dX11_rowsThere_7 (by decide) (fun q1 => ?_) (fun q1 => ?_)
  · replace W := W.1 q1
    refine ts_iload_n 1 (pc' := 32) rfl dX11_rowsThere_31 rfl rfl ?_
    exact ts_iret dX11_rowsThere_32 rfl (Nat.le_refl _) (Nat.le_refl _) ⟨rfl, _, rfl, W⟩
  · replace W := W.2 q1
    refine ts_aload_n 0 (pc' := 11) rfl dX11_rowsThere_10 rfl rfl ?_
    obtain ⟨c2, W⟩ := W
    obtain ⟨c3, W⟩ := W
    refine ts_getR (pc' := 14) (ci := 10) 0 cfX11.1 cfX11.2.1 cfX11.2.2 rfl (by decide) hnX11_rowsThere_X11 flX11_rowsThere_11 rfl dX11_rowsThere_11 c2 c3 ?_
    refine ts_iload_n 2 (pc' := 15) rfl dX11_rowsThere_14 rfl rfl ?_
    obtain ⟨c4, W⟩ := W
    obtain ⟨c5, W⟩ := W
    obtain ⟨c6, W⟩ := W
    refine ts_aaloadR (pc' := 16) rfl dX11_rowsThere_15 c4 c5 c6 ?_
    obtain ⟨c7, W⟩ := W
    refine ts_getI (pc' := 19) (ci := 5) 1 cfX6.1 cfX6.2.1 cfX6.2.2 rfl (by decide) hnX11_rowsThere_X6 flX11_rowsThere_101 rfl dX11_rowsThere_16 c7 ?_
    refine ts_if_eq (pc' := 22) (tgt := 25) rfl dX11_rowsThere_19 (by decide) (fun q8 => ?_) (fun q8 => ?_)
    · replace W := W.1 q8
      refine ts_iinc 2 (pc' := 28) (ls' := [(2, .int (l2 + 1)), (0, .ref l0), (1, .int l1)]) rfl dX11_rowsThere_25 rfl rfl (Nat.le_of_ble_eq_true rfl) rfl ?_
      refine ts_goto (tgt := 4) dX11_rowsThere_28 (by decide) ?_
      exact ts_sub [1, 2, 0] rfl W
    · replace W := W.2 q8
      refine ts_iinc 1 (pc' := 25) (ls' := [(1, .int (l1 + 1)), (0, .ref l0), (2, .int l2)]) rfl dX11_rowsThere_22 rfl rfl (Nat.le_of_ble_eq_true rfl) rfl ?_
      refine ts_iinc 2 (pc' := 28) (ls' := [(2, .int (l2 + 1)), (1, .int (l1 + 1)), (0, .ref l0)]) rfl dX11_rowsThere_25 rfl rfl (Nat.le_of_ble_eq_true rfl) rfl ?_
      refine ts_goto (tgt := 4) dX11_rowsThere_28 (by decide) ?_
      exact ts_sub [2, 1, 0] rfl W
theorem hnX11_keepAct_X11 : ∀ w ∈ u_ws RX11 TX11 13, w ∈ wsX11_keepAct := by decide +kernel
theorem flX11_keepAct_37 : Cond.fieldLink RX11 37 "TurnipSquires" "acts" "[LTurnipSquires$Field;" ∈ wsX11_keepAct := by decide +kernel
theorem flX11_keepAct_65 : Cond.fieldLink RX11 65 "TurnipSquires" "now" "LTurnipSquires$Field;" ∈ wsX11_keepAct := by decide +kernel
theorem flX11_keepAct_152 : Cond.fieldLink RX11 152 "TurnipSquires" "actsKept" "I" ∈ wsX11_keepAct := by decide +kernel
theorem flX11_keepAct_198 : Cond.fieldLink RX11 198 "TurnipSquires" "nextAct" "I" ∈ wsX11_keepAct := by decide +kernel
set_option maxHeartbeats 4000000 in
theorem wX11_keepAct_0 {d : Nat} {g : ts_G} {Q : ts_I → ts_K → Prop} {o : Nat} {hi : ts_I} {hk : ts_K} (W : (g.2.1 o = 10) ∧ (g.2.2.2 o 4 ≠ 0) ∧ (g.2.1 (g.2.2.2 o 4) = 104) ∧ (vp_in (hi o 11) (g.2.2.1 (g.2.2.2 o 4))) ∧ (g.2.2.2 (g.2.2.2 o 4) (hi o 11).toNatClampNeg ≠ 0) ∧ (g.2.2.2 o 6 ≠ 0) ∧ (g.2.1 (g.2.2.2 (g.2.2.2 o 4) (hi o 11).toNatClampNeg) = 1) ∧ ts_E0 d mX1_become [.ref (g.2.2.2 (g.2.2.2 o 4) (hi o 11).toNatClampNeg), .ref (g.2.2.2 o 6)] g hi hk (ts_qv (fun hi7 hk8 => ∀ hi10 : ts_I, hi10 = ts_up hi7 o 11 (((hi7 o 11) + 1) - ((hi7 o 11) + 1) / 24 * 24) → ∀ hi11 : ts_I, hi11 = ts_up hi10 o 12 (if 24 < ((hi10 o 12) + 1) then 24 else ((hi10 o 12) + 1)) → Q hi11 hk8))) : ts_J0 (d + 1) mX11_keepAct (ts_qv Q) g 0 [(0, .ref o)] [] hi hk := by
  refine ts_aload_n 0 (pc' := 1) rfl dX11_keepAct_0 rfl rfl ?_
  obtain ⟨c1, W⟩ := W
  obtain ⟨c2, W⟩ := W
  refine ts_getR (pc' := 4) (ci := 10) 4 cfX11.1 cfX11.2.1 cfX11.2.2 rfl (by decide) hnX11_keepAct_X11 flX11_keepAct_37 rfl dX11_keepAct_1 c1 c2 ?_
  refine ts_aload_n 0 (pc' := 5) rfl dX11_keepAct_4 rfl rfl ?_
  refine ts_getI (pc' := 8) (ci := 10) 11 cfX11.1 cfX11.2.1 cfX11.2.2 rfl (by decide) hnX11_keepAct_X11 flX11_keepAct_198 rfl dX11_keepAct_5 c1 ?_
  obtain ⟨c3, W⟩ := W
  obtain ⟨c4, W⟩ := W
  obtain ⟨c5, W⟩ := W
  refine ts_aaloadF (pc' := 9) rfl dX11_keepAct_8 c3 c4 c5 ?_
  refine ts_aload_n 0 (pc' := 10) rfl dX11_keepAct_9 rfl rfl ?_
  obtain ⟨c6, W⟩ := W
  refine ts_getR (pc' := 13) (ci := 10) 6 cfX11.1 cfX11.2.1 cfX11.2.2 rfl (by decide) hnX11_keepAct_X11 flX11_keepAct_65 rfl dX11_keepAct_10 c1 c6 ?_
  obtain ⟨c9, W⟩ := W
  refine ts_callV (M' := mX1_become) (C := RX1) (pc' := 16) (av := [.ref (g.2.2.2 o 6)]) (b := (g.2.2.2 (g.2.2.2 o 4) (hi o 11).toNatClampNeg)) rfl dX11_keepAct_13 rfl gX11_keepAct_X1_become rfl dvX1_become rfl (ci := 1) cfX1.1 (by decide) c9 (Nat.le_refl _) (Nat.le_of_ble_eq_true rfl) (Nat.le_of_ble_eq_true rfl) (Nat.le_refl _) (Nat.le_refl _) ts_kv0 W (ts_kkv fun hi7 hk8 W => ?_)
  refine ts_aload_n 0 (pc' := 17) rfl dX11_keepAct_16 rfl rfl ?_
  refine ts_aload_n 0 (pc' := 18) rfl dX11_keepAct_17 rfl rfl ?_
  refine ts_getI (pc' := 21) (ci := 10) 11 cfX11.1 cfX11.2.1 cfX11.2.2 rfl (by decide) hnX11_keepAct_X11 flX11_keepAct_198 rfl dX11_keepAct_18 c1 ?_
  refine ts_iconst (v := 1) (pc' := 22) rfl dX11_keepAct_21 (by decide) ?_
  refine ts_iadd (pc' := 23) rfl dX11_keepAct_22 ?_
  refine ts_bipush (v := 24) (pc' := 25) rfl dX11_keepAct_23 (by decide) ?_
  refine ts_irem (pc' := 26) rfl dX11_keepAct_25 (by decide) ?_
  refine ts_putI (pc' := 29) (ci := 10) 11 cfX11.1 cfX11.2.1 cfX11.2.2 rfl (by decide) hnX11_keepAct_X11 flX11_keepAct_198 tyX11_ok nmX11 rfl rfl rfl dX11_keepAct_26 c1 ?_
  obtain ⟨hi10, ehi10⟩ : ∃ z, z = ts_up hi7 o 11 (((hi7 o 11) + 1) - ((hi7 o 11) + 1) / 24 * 24) := ⟨_, rfl⟩
  rw [← ehi10]; replace W := W hi10 ehi10
  refine ts_aload_n 0 (pc' := 30) rfl dX11_keepAct_29 rfl rfl ?_
  refine ts_aload_n 0 (pc' := 31) rfl dX11_keepAct_30 rfl rfl ?_
  refine ts_getI (pc' := 34) (ci := 10) 12 cfX11.1 cfX11.2.1 cfX11.2.2 rfl (by decide) hnX11_keepAct_X11 flX11_keepAct_152 rfl dX11_keepAct_31 c1 ?_
  refine ts_iconst (v := 1) (pc' := 35) rfl dX11_keepAct_34 (by decide) ?_
  refine ts_iadd (pc' := 36) rfl dX11_keepAct_35 ?_
  refine ts_bipush (v := 24) (pc' := 38) rfl dX11_keepAct_36 (by decide) ?_
  refine ts_mmin (pc' := 41) rfl dX11_keepAct_38 (by decide +kernel) (by decide +kernel) (by decide +kernel) (by decide +kernel) (Nat.le_add_left 1 _) (Nat.le_of_ble_eq_true rfl) (Nat.le_refl _) (Nat.le_refl _) ?_
  refine ts_putI (pc' := 44) (ci := 10) 12 cfX11.1 cfX11.2.1 cfX11.2.2 rfl (by decide) hnX11_keepAct_X11 flX11_keepAct_152 tyX11_ok nmX11 rfl rfl rfl dX11_keepAct_41 c1 ?_
  obtain ⟨hi11, ehi11⟩ : ∃ z, z = ts_up hi10 o 12 (if 24 < ((hi10 o 12) + 1) then 24 else ((hi10 o 12) + 1)) := ⟨_, rfl⟩
  rw [← ehi11]; replace W := W hi11 ehi11
  exact ts_vret dX11_keepAct_44 rfl (Nat.le_refl _) (Nat.le_refl _) ⟨rfl, rfl, W⟩
