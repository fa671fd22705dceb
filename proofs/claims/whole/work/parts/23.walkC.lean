theorem hnX7_afterYears_X7 : ∀ w ∈ u_ws RX7 TX7 8, w ∈ wsX7_afterYears := by decide +kernel
theorem flX7_afterYears_24 : Cond.fieldLink RX7 24 "TurnipSquires$Seer" "now" "LTurnipSquires$Field;" ∈ wsX7_afterYears := by decide +kernel
theorem flX7_afterYears_35 : Cond.fieldLink RX7 35 "TurnipSquires$Seer" "trial" "LTurnipSquires$Field;" ∈ wsX7_afterYears := by decide +kernel
set_option maxHeartbeats 4000000 in
theorem wX7_afterYears_0 {d : Nat} {g : ts_G} {Q : Nat → ts_I → ts_K → Prop} {o : Nat} {p0 : Int32} {hi : ts_I} {hk : ts_K} (W : (g.2.1 o = 6) ∧ (g.2.2.2 o 3 ≠ 0) ∧ (g.2.2.2 o 0 ≠ 0) ∧ (g.2.1 (g.2.2.2 o 3) = 1) ∧ ts_E0 d mX1_become [.ref (g.2.2.2 o 3), .ref (g.2.2.2 o 0)] g hi hk (ts_qv (fun hi4 hk5 => ts_J0 (d + 1) mX7_afterYears (ts_qr Q) g 13 [(0, .ref o), (1, .int p0), (2, .int 0)] [] hi4 hk5))) : ts_J0 (d + 1) mX7_afterYears (ts_qr Q) g 0 [(0, .ref o), (1, .int p0)] [] hi hk := by
  refine ts_aload_n 0 (pc' := 1) rfl dX7_afterYears_0 rfl rfl ?_
  obtain ⟨c1, W⟩ := W
  obtain ⟨c2, W⟩ := W
  refine ts_getR (pc' := 4) (ci := 6) 3 cfX7.1 cfX7.2.1 cfX7.2.2 rfl (by decide) hnX7_afterYears_X7 flX7_afterYears_35 rfl dX7_afterYears_1 c1 c2 ?_
  refine ts_aload_n 0 (pc' := 5) rfl dX7_afterYears_4 rfl rfl ?_
  obtain ⟨c3, W⟩ := W
  refine ts_getR (pc' := 8) (ci := 6) 0 cfX7.1 cfX7.2.1 cfX7.2.2 rfl (by decide) hnX7_afterYears_X7 flX7_afterYears_24 rfl dX7_afterYears_5 c1 c3 ?_
  obtain ⟨c6, W⟩ := W
  refine ts_callV (M' := mX1_become) (C := RX1) (pc' := 11) (av := [.ref (g.2.2.2 o 0)]) (b := (g.2.2.2 o 3)) rfl dX7_afterYears_8 rfl gX7_afterYears_X1_become rfl dvX1_become rfl (ci := 1) cfX1.1 (by decide) c6 (Nat.le_refl _) (Nat.le_of_ble_eq_true rfl) (Nat.le_of_ble_eq_true rfl) (Nat.le_refl _) (Nat.le_refl _) ts_kv0 W (ts_kkv fun hi4 hk5 W => ?_)
  refine ts_iconst (v := 0) (pc' := 12) rfl dX7_afterYears_11 (by decide) ?_
  refine ts_istore_n (pc' := 13) (ls' := [(2, .int 0), (0, .ref o), (1, .int p0)]) rfl dX7_afterYears_12 rfl (Nat.le_of_ble_eq_true rfl) rfl ?_
  exact ts_sub [1, 2, 0] rfl W
set_option maxHeartbeats 4000000 in
theorem wX7_afterYears_13 {d : Nat} {g : ts_G} {Q : Nat → ts_I → ts_K → Prop} {l0 : Nat} {l1 : Int32} {l2 : Int32} {hi : ts_I} {hk : ts_K} (W : ((l1 ≤ l2) → (g.2.1 l0 = 6) ∧ (g.2.2.2 l0 3 ≠ 0) ∧ Q (g.2.2.2 l0 3) hi hk) ∧ (¬ (l1 ≤ l2) → (g.2.1 l0 = 6) ∧ (g.2.2.2 l0 3 ≠ 0) ∧ (g.2.1 (g.2.2.2 l0 3) = 1) ∧ ts_E0 d mX1_hasFrost [.ref (g.2.2.2 l0 3)] g hi hk (ts_qi (fun v8 hi6 hk7 => ts_E0 d mX1_pass [.ref (g.2.2.2 l0 3), .int v8] g hi6 hk7 (ts_qv (fun hi10 hk11 => ts_J0 (d + 1) mX7_afterYears (ts_qr Q) g 13 [(0, .ref l0), (1, .int l1), (2, .int (l2 + 1))] [] hi10 hk11)))))) : ts_J0 (d + 1) mX7_afterYears (ts_qr Q) g 13 [(0, .ref l0), (1, .int l1), (2, .int l2)] [] hi hk := by
  refine ts_iload_n 2 (pc' := 14) rfl dX7_afterYears_13 rfl rfl ?_
  refine ts_iload_n 1 (pc' := 15) rfl dX7_afterYears_14 rfl rfl ?_
  refine ts_icmp_ge (pc' := 18) (tgt := 38) rfl dX7_afterYears_15 (by decide) (fun q1 => ?_) (fun q1 => ?_)
  · replace W := W.1 q1
    refine ts_aload_n 0 (pc' := 39) rfl dX7_afterYears_38 rfl rfl ?_
    obtain ⟨c2, W⟩ := W
    obtain ⟨c3, W⟩ := W
    refine ts_getR (pc' := 42) (ci := 6) 3 cfX7.1 cfX7.2.1 cfX7.2.2 rfl (by decide) hnX7_afterYears_X7 flX7_afterYears_35 rfl dX7_afterYears_39 c2 c3 ?_
    exact ts_aret dX7_afterYears_42 rfl (Nat.le_refl _) (Nat.le_refl _) ⟨rfl, _, rfl, W⟩
  · replace W := W.2 q1
    refine ts_aload_n 0 (pc' := 19) rfl dX7_afterYears_18 rfl rfl ?_
    obtain ⟨c4, W⟩ := W
    obtain ⟨c5, W⟩ := W
    refine ts_getR (pc' := 22) (ci := 6) 3 cfX7.1 cfX7.2.1 cfX7.2.2 rfl (by decide) hnX7_afterYears_X7 flX7_afterYears_35 rfl dX7_afterYears_19 c4 c5 ?_
    refine ts_aload_n 0 (pc' := 23) rfl dX7_afterYears_22 rfl rfl ?_
    refine ts_getR (pc' := 26) (ci := 6) 3 cfX7.1 cfX7.2.1 cfX7.2.2 rfl (by decide) hnX7_afterYears_X7 flX7_afterYears_35 rfl dX7_afterYears_23 c4 c5 ?_
    obtain ⟨c9, W⟩ := W
    refine ts_callV (M' := mX1_hasFrost) (C := RX1) (pc' := 29) (av := []) (b := (g.2.2.2 l0 3)) rfl dX7_afterYears_26 rfl gX7_afterYears_X1_hasFrost rfl dvX1_hasFrost rfl (ci := 1) cfX1.1 (by decide) c9 (Nat.le_refl _) (Nat.le_of_ble_eq_true rfl) (Nat.le_of_ble_eq_true rfl) (Nat.le_refl _) (Nat.le_refl _) ts_kv0 W (ts_kki fun v8 hi6 hk7 W => ?_)
    refine ts_callV (M' := mX1_pass) (C := RX1) (pc' := 32) (av := [.int v8]) (b := (g.2.2.2 l0 3)) rfl dX7_afterYears_29 rfl gX7_afterYears_X1_pass rfl dvX1_pass rfl (ci := 1) cfX1.1 (by decide) c9 (Nat.le_refl _) (Nat.le_of_ble_eq_true rfl) (Nat.le_of_ble_eq_true rfl) (Nat.le_refl _) (Nat.le_refl _) ts_kv0 W (ts_kkv fun hi10 hk11 W => ?_)
    refine ts_iinc 2 (pc' := 35) (ls' := [(2, .int (l2 + 1)), (0, .ref l0), (1, .int l1)]) rfl dX7_afterYears_32 rfl rfl (Nat.le_of_ble_eq_true rfl) rfl ?_
    refine ts_goto (tgt := 13) dX7_afterYears_35 (by decide) ?_
    exact ts_sub [1, 2, 0] rfl W
theorem hnX7_yearsUntil_X1 : ∀ w ∈ u_ws RX1 TX1 13, w ∈ wsX7_yearsUntil := by decide +kernel
theorem hnX7_yearsUntil_X7 : ∀ w ∈ u_ws RX7 TX7 8, w ∈ wsX7_yearsUntil := by decide +kernel
theorem flX7_yearsUntil_24 : Cond.fieldLink RX7 24 "TurnipSquires$Seer" "now" "LTurnipSquires$Field;" ∈ wsX7_yearsUntil := by decide +kernel
theorem flX7_yearsUntil_35 : Cond.fieldLink RX7 35 "TurnipSquires$Seer" "trial" "LTurnipSquires$Field;" ∈ wsX7_yearsUntil := by decide +kernel
theorem flX7_yearsUntil_50 : Cond.fieldLink RX7 50 "TurnipSquires$Field" "rank" "[I" ∈ wsX7_yearsUntil := by decide +kernel
set_option maxHeartbeats 4000000 in
theorem wX7_yearsUntil_0 {d : Nat} {g : ts_G} {Q : Int32 → ts_I → ts_K → Prop} {o : Nat} {p0 : Int32} {p1 : Int32} {hi : ts_I} {hk : ts_K} (W : (g.2.1 o = 6) ∧ (g.2.2.2 o 3 ≠ 0) ∧ (g.2.2.2 o 0 ≠ 0) ∧ (g.2.1 (g.2.2.2 o 3) = 1) ∧ ts_E0 d mX1_become [.ref (g.2.2.2 o 3), .ref (g.2.2.2 o 0)] g hi hk (ts_qv (fun hi4 hk5 => ts_J0 (d + 1) mX7_yearsUntil (ts_qi Q) g 13 [(0, .ref o), (1, .int p0), (2, .int p1), (3, .int 0)] [] hi4 hk5))) : ts_J0 (d + 1) mX7_yearsUntil (ts_qi Q) g 0 [(0, .ref o), (1, .int p0), (2, .int p1)] [] hi hk := by
  refine ts_aload_n 0 (pc' := 1) rfl dX7_yearsUntil_0 rfl rfl ?_
  obtain ⟨c1, W⟩ := W
  obtain ⟨c2, W⟩ := W
  refine ts_getR (pc' := 4) (ci := 6) 3 cfX7.1 cfX7.2.1 cfX7.2.2 rfl (by decide) hnX7_yearsUntil_X7 flX7_yearsUntil_35 rfl dX7_yearsUntil_1 c1 c2 ?_
  refine ts_aload_n 0 (pc' := 5) rfl dX7_yearsUntil_4 rfl rfl ?_
  obtain ⟨c3, W⟩ := W
  refine ts_getR (pc' := 8) (ci := 6) 0 cfX7.1 cfX7.2.1 cfX7.2.2 rfl (by decide) hnX7_yearsUntil_X7 flX7_yearsUntil_24 rfl dX7_yearsUntil_5 c1 c3 ?_
  obtain ⟨c6, W⟩ := W
  refine ts_callV (M' := mX1_become) (C := RX1) (pc' := 11) (av := [.ref (g.2.2.2 o 0)]) (b := (g.2.2.2 o 3)) rfl dX7_yearsUntil_8 rfl gX7_yearsUntil_X1_become rfl dvX1_become rfl (ci := 1) cfX1.1 (by decide) c6 (Nat.le_refl _) (Nat.le_of_ble_eq_true rfl) (Nat.le_of_ble_eq_true rfl) (Nat.le_refl _) (Nat.le_refl _) ts_kv0 W (ts_kkv fun hi4 hk5 W => ?_)
  refine ts_iconst (v := 0) (pc' := 12) rfl dX7_yearsUntil_11 (by decide) ?_
  refine ts_istore_n (pc' := 13) (ls' := [(3, .int 0), (0, .ref o), (1, .int p0), (2, .int p1)]) rfl dX7_yearsUntil_12 rfl (Nat.le_of_ble_eq_true rfl) rfl ?_
  exact ts_sub [1, 2, 3, 0] rfl W
set_option maxHeartbeats 4000000 in
theorem wX7_yearsUntil_13 {d : Nat} {g : ts_G} {Q : Int32 → ts_I → ts_K → Prop} {l0 : Nat} {l1 : Int32} {l2 : Int32} {l3 : Int32} {hi : ts_I} {hk : ts_K} (W : ((60 < l3) → Q (-1000000) hi hk) ∧ (¬ (60 < l3) → (g.2.1 l0 = 6) ∧ (g.2.2.2 l0 3 ≠ 0) ∧ (g.2.1 (g.2.2.2 l0 3) = 1) ∧ (g.2.2.2 (g.2.2.2 l0 3) 1 ≠ 0) ∧ (g.2.1 (g.2.2.2 (g.2.2.2 l0 3) 1) = 100) ∧ (vp_in l1 (g.2.2.1 (g.2.2.2 (g.2.2.2 l0 3) 1))) ∧ (((hi (g.2.2.2 (g.2.2.2 l0 3) 1) l1.toNatClampNeg) < l2) → ts_E0 d mX1_hasFrost [.ref (g.2.2.2 l0 3)] g hi hk (ts_qi (fun v11 hi9 hk10 => ts_E0 d mX1_pass [.ref (g.2.2.2 l0 3), .int v11] g hi9 hk10 (ts_qv (fun hi12 hk13 => ts_J0 (d + 1) mX7_yearsUntil (ts_qi Q) g 13 [(0, .ref l0), (1, .int l1), (2, .int l2), (3, .int (l3 + 1))] [] hi12 hk13))))) ∧ (¬ ((hi (g.2.2.2 (g.2.2.2 l0 3) 1) l1.toNatClampNeg) < l2) → Q l3 hi hk))) : ts_J0 (d + 1) mX7_yearsUntil (ts_qi Q) g 13 [(0, .ref l0), (1, .int l1), (2, .int l2), (3, .int l3)] [] hi hk := by
  refine ts_iload_n 3 (pc' := 14) rfl dX7_yearsUntil_13 rfl rfl ?_
  refine ts_bipush (v := 60) (pc' := 16) rfl dX7_yearsUntil_14 (by decide) ?_
  refine ts_icmp_gt (pc' := 19) (tgt := 54) rfl dX7_yearsUntil_16 (by decide) (fun q1 => ?_) (fun q1 => ?_)
  · replace W := W.1 q1
    refine ts_ldc (v := (-1000000)) (pc' := 56) rfl dX7_yearsUntil_54 (by decide +kernel) ?_
    exact ts_iret dX7_yearsUntil_56 rfl (Nat.le_refl _) (Nat.le_refl _) ⟨rfl, _, rfl, W⟩
  · replace W := W.2 q1
    refine ts_aload_n 0 (pc' := 20) rfl dX7_yearsUntil_19 rfl rfl ?_
    obtain ⟨c2, W⟩ := W
    obtain ⟨c3, W⟩ := W
    refine ts_getR (pc' := 23) (ci := 6) 3 cfX7.1 cfX7.2.1 cfX7.2.2 rfl (by decide) hnX7_yearsUntil_X7 flX7_yearsUntil_35 rfl dX7_yearsUntil_20 c2 c3 ?_
    obtain ⟨c4, W⟩ := W
    obtain ⟨c5, W⟩ := W
    refine ts_getR (pc' := 26) (ci := 1) 1 cfX1.1 cfX1.2.1 cfX1.2.2 rfl (by decide) hnX7_yearsUntil_X1 flX7_yearsUntil_50 rfl dX7_yearsUntil_23 c4 c5 ?_
    refine ts_iload_n 1 (pc' := 27) rfl dX7_yearsUntil_26 rfl rfl ?_
    obtain ⟨c6, W⟩ := W
    obtain ⟨c7, W⟩ := W
    refine ts_iaload (pc' := 28) rfl dX7_yearsUntil_27 c6 c7 ?_
    refine ts_iload_n 2 (pc' := 29) rfl dX7_yearsUntil_28 rfl rfl ?_
    refine ts_icmp_lt (pc' := 32) (tgt := 34) rfl dX7_yearsUntil_29 (by decide) (fun q8 => ?_) (fun q8 => ?_)
    · replace W := W.1 q8
      refine ts_aload_n 0 (pc' := 35) rfl dX7_yearsUntil_34 rfl rfl ?_
      refine ts_getR (pc' := 38) (ci := 6) 3 cfX7.1 cfX7.2.1 cfX7.2.2 rfl (by decide) hnX7_yearsUntil_X7 flX7_yearsUntil_35 rfl dX7_yearsUntil_35 c2 c3 ?_
      refine ts_aload_n 0 (pc' := 39) rfl dX7_yearsUntil_38 rfl rfl ?_
      refine ts_getR (pc' := 42) (ci := 6) 3 cfX7.1 cfX7.2.1 cfX7.2.2 rfl (by decide) hnX7_yearsUntil_X7 flX7_yearsUntil_35 rfl dX7_yearsUntil_39 c2 c3 ?_
      refine ts_callV (M' := mX1_hasFrost) (C := RX1) (pc' := 45) (av := []) (b := (g.2.2.2 l0 3)) rfl dX7_yearsUntil_42 rfl gX7_yearsUntil_X1_hasFrost rfl dvX1_hasFrost rfl (ci := 1) cfX1.1 (by decide) c4 (Nat.le_refl _) (Nat.le_of_ble_eq_true rfl) (Nat.le_of_ble_eq_true rfl) (Nat.le_refl _) (Nat.le_refl _) ts_kv0 W (ts_kki fun v11 hi9 hk10 W => ?_)
      refine ts_callV (M' := mX1_pass) (C := RX1) (pc' := 48) (av := [.int v11]) (b := (g.2.2.2 l0 3)) rfl dX7_yearsUntil_45 rfl gX7_yearsUntil_X1_pass rfl dvX1_pass rfl (ci := 1) cfX1.1 (by decide) c4 (Nat.le_refl _) (Nat.le_of_ble_eq_true rfl) (Nat.le_of_ble_eq_true rfl) (Nat.le_refl _) (Nat.le_refl _) ts_kv0 W (ts_kkv fun hi12 hk13 W => ?_)
      refine ts_iinc 3 (pc' := 51) (ls' := [(3, .int (l3 + 1)), (0, .ref l0), (1, .int l1), (2, .int l2)]) rfl dX7_yearsUntil_48 rfl rfl (Nat.le_of_ble_eq_true rfl) rfl ?_
      refine ts_goto (tgt := 13) dX7_yearsUntil_51 (by decide) ?_
      exact ts_sub [1, 2, 3, 0] rfl W
    · replace W := W.2 q8
      refine ts_iload_n 3 (pc' := 33) rfl dX7_yearsUntil_32 rfl rfl ?_
      exact ts_iret dX7_yearsUntil_33 rfl (Nat.le_refl _) (Nat.le_refl _) ⟨rfl, _, rfl, W⟩
theorem hnX7_firstSquire_X1 : ∀ w ∈ u_ws RX1 TX1 13, w ∈ wsX7_firstSquire := by decide +kernel
theorem hnX7_firstSquire_X7 : ∀ w ∈ u_ws RX7 TX7 8, w ∈ wsX7_firstSquire := by decide +kernel
theorem flX7_firstSquire_24 : Cond.fieldLink RX7 24 "TurnipSquires$Seer" "now" "LTurnipSquires$Field;" ∈ wsX7_firstSquire := by decide +kernel
theorem flX7_firstSquire_35 : Cond.fieldLink RX7 35 "TurnipSquires$Seer" "trial" "LTurnipSquires$Field;" ∈ wsX7_firstSquire := by decide +kernel
theorem flX7_firstSquire_50 : Cond.fieldLink RX7 50 "TurnipSquires$Field" "rank" "[I" ∈ wsX7_firstSquire := by decide +kernel
theorem flX7_firstSquire_54 : Cond.fieldLink RX7 54 "TurnipSquires$Field" "count" "I" ∈ wsX7_firstSquire := by decide +kernel
theorem flX7_firstSquire_58 : Cond.fieldLink RX7 58 "TurnipSquires$Seer" "squireYears" "I" ∈ wsX7_firstSquire := by decide +kernel
set_option maxHeartbeats 4000000 in
theorem wX7_firstSquire_0 {d : Nat} {g : ts_G} {Q : Int32 → ts_I → ts_K → Prop} {o : Nat} {hi : ts_I} {hk : ts_K} (W : (g.2.1 o = 6) ∧ (g.2.2.2 o 3 ≠ 0) ∧ (g.2.2.2 o 0 ≠ 0) ∧ (g.2.1 (g.2.2.2 o 3) = 1) ∧ ts_E0 d mX1_become [.ref (g.2.2.2 o 3), .ref (g.2.2.2 o 0)] g hi hk (ts_qv (fun hi4 hk5 => ts_J0 (d + 1) mX7_firstSquire (ts_qi Q) g 13 [(0, .ref o), (1, .int 0)] [] hi4 hk5))) : ts_J0 (d + 1) mX7_firstSquire (ts_qi Q) g 0 [(0, .ref o)] [] hi hk := by
  refine ts_aload_n 0 (pc' := 1) rfl dX7_firstSquire_0 rfl rfl ?_
  obtain ⟨c1, W⟩ := W
  obtain ⟨c2, W⟩ := W
  refine ts_getR (pc' := 4) (ci := 6) 3 cfX7.1 cfX7.2.1 cfX7.2.2 rfl (by decide) hnX7_firstSquire_X7 flX7_firstSquire_35 rfl dX7_firstSquire_1 c1 c2 ?_
  refine ts_aload_n 0 (pc' := 5) rfl dX7_firstSquire_4 rfl rfl ?_
  obtain ⟨c3, W⟩ := W
  refine ts_getR (pc' := 8) (ci := 6) 0 cfX7.1 cfX7.2.1 cfX7.2.2 rfl (by decide) hnX7_firstSquire_X7 flX7_firstSquire_24 rfl dX7_firstSquire_5 c1 c3 ?_
  obtain ⟨c6, W⟩ := W
  refine ts_callV (M' := mX1_become) (C := RX1) (pc' := 11) (av := [.ref (g.2.2.2 o 0)]) (b := (g.2.2.2 o 3)) rfl dX7_firstSquire_8 rfl gX7_firstSquire_X1_become rfl dvX1_become rfl (ci := 1) cfX1.1 (by decide) c6 (Nat.le_refl _) (Nat.le_of_ble_eq_true rfl) (Nat.le_of_ble_eq_true rfl) (Nat.le_refl _) (Nat.le_refl _) ts_kv0 W (ts_kkv fun hi4 hk5 W => ?_)
  refine ts_iconst (v := 0) (pc' := 12) rfl dX7_firstSquire_11 (by decide) ?_
  refine ts_istore_n (pc' := 13) (ls' := [(1, .int 0), (0, .ref o)]) rfl dX7_firstSquire_12 rfl (Nat.le_of_ble_eq_true rfl) rfl ?_
  exact ts_sub [1, 0] rfl W
set_option maxHeartbeats 4000000 in
theorem wX7_firstSquire_13 {d : Nat} {g : ts_G} {Q : Int32 → ts_I → ts_K → Prop} {l0 : Nat} {l1 : Int32} {hi : ts_I} {hk : ts_K} (W : ((60 < l1) → Q (-1) hi hk) ∧ (¬ (60 < l1) → ts_J0 (d + 1) mX7_firstSquire (ts_qi Q) g 21 [(0, .ref l0), (1, .int l1), (2, .int 0)] [] hi hk)) : ts_J0 (d + 1) mX7_firstSquire (ts_qi Q) g 13 [(0, .ref l0), (1, .int l1)] [] hi hk := by
  refine ts_iload_n 1 (pc' := 14) rfl dX7_firstSquire_13 rfl rfl ?_
  refine ts_bipush (v := 60) (pc' := 16) rfl dX7_firstSquire_14 (by decide) ?_
  refine ts_icmp_gt (pc' := 19) (tgt := 79) rfl dX7_firstSquire_16 (by decide) (fun q1 => ?_) (fun q1 => ?_)
  · replace W := W.1 q1
    refine ts_iconst (v := (-1)) (pc' := 80) rfl dX7_firstSquire_79 (by decide) ?_
    exact ts_iret dX7_firstSquire_80 rfl (Nat.le_refl _) (Nat.le_refl _) ⟨rfl, _, rfl, W⟩
  · replace W := W.2 q1
    refine ts_iconst (v := 0) (pc' := 20) rfl dX7_firstSquire_19 (by decide) ?_
    refine ts_istore_n (pc' := 21) (ls' := [(2, .int 0), (0, .ref l0), (1, .int l1)]) rfl dX7_firstSquire_20 rfl (Nat.le_of_ble_eq_true rfl) rfl ?_
    exact ts_sub [1, 2, 0] rfl W
set_option maxHeartbeats 4000000 in
theorem wX7_firstSquire_21 {d : Nat} {g : ts_G} {Q : Int32 → ts_I → ts_K → Prop} {l0 : Nat} {l1 : Int32} {l2 : Int32} {hi : ts_I} {hk : ts_K} (W : (g.2.1 l0 = 6) ∧ (g.2.2.2 l0 3 ≠ 0) ∧ (g.2.1 (g.2.2.2 l0 3) = 1) ∧ (((hi (g.2.2.2 l0 3) 9) ≤ l2) → ts_E0 d mX1_hasFrost [.ref (g.2.2.2 l0 3)] g hi hk (ts_qi (fun v7 hi5 hk6 => ts_E0 d mX1_pass [.ref (g.2.2.2 l0 3), .int v7] g hi5 hk6 (ts_qv (fun hi8 hk9 => ts_J0 (d + 1) mX7_firstSquire (ts_qi Q) g 13 [(0, .ref l0), (1, .int (l1 + 1))] [] hi8 hk9))))) ∧ (¬ ((hi (g.2.2.2 l0 3) 9) ≤ l2) → (g.2.2.2 (g.2.2.2 l0 3) 1 ≠ 0) ∧ (g.2.1 (g.2.2.2 (g.2.2.2 l0 3) 1) = 100) ∧ (vp_in l2 (g.2.2.1 (g.2.2.2 (g.2.2.2 l0 3) 1))) ∧ (((hi (g.2.2.2 (g.2.2.2 l0 3) 1) l2.toNatClampNeg) ≠ 9) → ts_J0 (d + 1) mX7_firstSquire (ts_qi Q) g 21 [(0, .ref l0), (1, .int l1), (2, .int (l2 + 1))] [] hi hk) ∧ (¬ ((hi (g.2.2.2 (g.2.2.2 l0 3) 1) l2.toNatClampNeg) ≠ 9) → ∀ hi14 : ts_I, hi14 = ts_up hi l0 7 l1 → Q l2 hi14 hk))) : ts_J0 (d + 1) mX7_firstSquire (ts_qi Q) g 21 [(0, .ref l0), (1, .int l1), (2, .int l2)] [] hi hk := by
  refine ts_iload_n 2 (pc' := 22) rfl dX7_firstSquire_21 rfl rfl ?_
  refine ts_aload_n 0 (pc' := 23) rfl dX7_firstSquire_22 rfl rfl ?_
  obtain ⟨c1, W⟩ := W
  obtain ⟨c2, W⟩ := W
  refine ts_getR (pc' := 26) (ci := 6) 3 cfX7.1 cfX7.2.1 cfX7.2.2 rfl (by decide) hnX7_firstSquire_X7 flX7_firstSquire_35 rfl dX7_firstSquire_23 c1 c2 ?_
  obtain ⟨c3, W⟩ := W
  refine ts_getI (pc' := 29) (ci := 1) 9 cfX1.1 cfX1.2.1 cfX1.2.2 rfl (by decide) hnX7_firstSquire_X1 flX7_firstSquire_54 rfl dX7_firstSquire_26 c3 ?_
  refine ts_icmp_ge (pc' := 32) (tgt := 59) rfl dX7_firstSquire_29 (by decide) (fun q4 => ?_) (fun q4 => ?_)
  · replace W := W.1 q4
    refine ts_aload_n 0 (pc' := 60) rfl dX7_firstSquire_59 rfl rfl ?_
    refine ts_getR (pc' := 63) (ci := 6) 3 cfX7.1 cfX7.2.1 cfX7.2.2 rfl (by decide) hnX7_firstSquire_X7 flX7_firstSquire_35 rfl dX7_firstSquire_60 c1 c2 ?_
    refine ts_aload_n 0 (pc' := 64) rfl dX7_firstSquire_63 rfl rfl ?_
    refine ts_getR (pc' := 67) (ci := 6) 3 cfX7.1 cfX7.2.1 cfX7.2.2 rfl (by decide) hnX7_firstSquire_X7 flX7_firstSquire_35 rfl dX7_firstSquire_64 c1 c2 ?_
    refine ts_callV (M' := mX1_hasFrost) (C := RX1) (pc' := 70) (av := []) (b := (g.2.2.2 l0 3)) rfl dX7_firstSquire_67 rfl gX7_firstSquire_X1_hasFrost rfl dvX1_hasFrost rfl (ci := 1) cfX1.1 (by decide) c3 (Nat.le_refl _) (Nat.le_of_ble_eq_true rfl) (Nat.le_of_ble_eq_true rfl) (Nat.le_refl _) (Nat.le_refl _) ts_kv0 W (ts_kki fun v7 hi5 hk6 W => ?_)
    refine ts_callV (M' := mX1_pass) (C := RX1) (pc' := 73) (av := [.int v7]) (b := (g.2.2.2 l0 3)) rfl dX7_firstSquire_70 rfl gX7_firstSquire_X1_pass rfl dvX1_pass rfl (ci := 1) cfX1.1 (by decide) c3 (Nat.le_refl _) (Nat.le_of_ble_eq_true rfl) (Nat.le_of_ble_eq_true rfl) (Nat.le_refl _) (Nat.le_refl _) ts_kv0 W (ts_kkv fun hi8 hk9 W => ?_)
    refine ts_iinc 1 (pc' := 76) (ls' := [(1, .int (l1 + 1)), (0, .ref l0), (2, .int l2)]) rfl dX7_firstSquire_73 rfl rfl (Nat.le_of_ble_eq_true rfl) rfl ?_
    refine ts_goto (tgt := 13) dX7_firstSquire_76 (by decide) ?_
    exact ts_sub [1, 0] rfl W
  · replace W := W.2 q4
    refine ts_aload_n 0 (pc' := 33) rfl dX7_firstSquire_32 rfl rfl ?_
    refine ts_getR (pc' := 36) (ci := 6) 3 cfX7.1 cfX7.2.1 cfX7.2.2 rfl (by decide) hnX7_firstSquire_X7 flX7_firstSquire_35 rfl dX7_firstSquire_33 c1 c2 ?_
    obtain ⟨c10, W⟩ := W
    refine ts_getR (pc' := 39) (ci := 1) 1 cfX1.1 cfX1.2.1 cfX1.2.2 rfl (by decide) hnX7_firstSquire_X1 flX7_firstSquire_50 rfl dX7_firstSquire_36 c3 c10 ?_
    refine ts_iload_n 2 (pc' := 40) rfl dX7_firstSquire_39 rfl rfl ?_
    obtain ⟨c11, W⟩ := W
    obtain ⟨c12, W⟩ := W
    refine ts_iaload (pc' := 41) rfl dX7_firstSquire_40 c11 c12 ?_
    refine ts_bipush (v := 9) (pc' := 43) rfl dX7_firstSquire_41 (by decide) ?_
    refine ts_icmp_ne (pc' := 46) (tgt := 53) rfl dX7_firstSquire_43 (by decide) (fun q13 => ?_) (fun q13 => ?_)
    · replace W := W.1 q13
      refine ts_iinc 2 (pc' := 56) (ls' := [(2, .int (l2 + 1)), (0, .ref l0), (1, .int l1)]) rfl dX7_firstSquire_53 rfl rfl (Nat.le_of_ble_eq_true rfl) rfl ?_
      refine ts_goto (tgt := 21) dX7_firstSquire_56 (by decide) ?_
      exact ts_sub [1, 2, 0] rfl W
    · replace W := W.2 q13
      refine ts_aload_n 0 (pc' := 47) rfl dX7_firstSquire_46 rfl rfl ?_
      refine ts_iload_n 1 (pc' := 48) rfl dX7_firstSquire_47 rfl rfl ?_
      refine ts_putI (pc' := 51) (ci := 6) 7 cfX7.1 cfX7.2.1 cfX7.2.2 rfl (by decide) hnX7_firstSquire_X7 flX7_firstSquire_58 tyX7_ok nmX7 rfl rfl rfl dX7_firstSquire_48 c1 ?_
      obtain ⟨hi14, ehi14⟩ : ∃ z, z = ts_up hi l0 7 l1 := ⟨_, rfl⟩
      rw [← ehi14]; replace W := W hi14 ehi14
      refine ts_iload_n 2 (pc' := 52) rfl dX7_firstSquire_51 rfl rfl ?_
      exact ts_iret dX7_firstSquire_52 rfl (Nat.le_refl _) (Nat.le_refl _) ⟨rfl, _, rfl, W⟩
theorem hnX7_findBestPairs_X7 : ∀ w ∈ u_ws RX7 TX7 8, w ∈ wsX7_findBestPairs := by decide +kernel
theorem flX7_findBestPairs_17 : Cond.fieldLink RX7 17 "TurnipSquires$Seer" "mates" "[I" ∈ wsX7_findBestPairs := by decide +kernel
theorem flX7_findBestPairs_67 : Cond.fieldLink RX7 67 "TurnipSquires$Seer" "mostRanks" "I" ∈ wsX7_findBestPairs := by decide +kernel
set_option maxHeartbeats 4000000 in
theorem wX7_findBestPairs_0 {d : Nat} {g : ts_G} {Q : ts_I → ts_K → Prop} {o : Nat} {p0 : Int32} {hi : ts_I} {hk : ts_K} (W : (g.2.1 o = 6) ∧ (g.2.2.2 o 4 ≠ 0) ∧ ts_E0 d mJ7_fill_53178 [.ref (g.2.2.2 o 4), .int (-1)] g hi hk (ts_qv (fun hi3 hk4 => ∀ hi5 : ts_I, hi5 = ts_up hi3 o 6 (-1) → ts_E0 d mX7_tryPairs [.ref o, .int 0, .int p0] g hi5 hk4 (ts_qv (fun hi6 hk7 => Q hi6 hk7))))) : ts_J0 (d + 1) mX7_findBestPairs (ts_qv Q) g 0 [(0, .ref o), (1, .int p0)] [] hi hk := by
  refine ts_aload_n 0 (pc' := 1) rfl dX7_findBestPairs_0 rfl rfl ?_
  obtain ⟨c1, W⟩ := W
  obtain ⟨c2, W⟩ := W
  refine ts_getR (pc' := 4) (ci := 6) 4 cfX7.1 cfX7.2.1 cfX7.2.2 rfl (by decide) hnX7_findBestPairs_X7 flX7_findBestPairs_17 rfl dX7_findBestPairs_1 c1 c2 ?_
  refine ts_iconst (v := (-1)) (pc' := 5) rfl dX7_findBestPairs_4 (by decide) ?_
  refine ts_callS (M' := mJ7_fill_53178) (pc' := 8) (av := [.ref (g.2.2.2 o 4), .int (-1)]) rfl dX7_findBestPairs_5 rfl gX7_findBestPairs_J7_fill_53178 rfl dsJ7_fill_53178 rfl (Nat.le_refl _) (Nat.le_of_ble_eq_true rfl) (Nat.le_of_ble_eq_true rfl) (Nat.le_refl _) (Nat.le_refl _) ts_kv0 W (ts_kkv fun hi3 hk4 W => ?_)
  refine ts_aload_n 0 (pc' := 9) rfl dX7_findBestPairs_8 rfl rfl ?_
  refine ts_iconst (v := (-1)) (pc' := 10) rfl dX7_findBestPairs_9 (by decide) ?_
  refine ts_putI (pc' := 13) (ci := 6) 6 cfX7.1 cfX7.2.1 cfX7.2.2 rfl (by decide) hnX7_findBestPairs_X7 flX7_findBestPairs_67 tyX7_ok nmX7 rfl rfl rfl dX7_findBestPairs_10 c1 ?_
  obtain ⟨hi5, ehi5⟩ : ∃ z, z = ts_up hi3 o 6 (-1) := ⟨_, rfl⟩
  rw [← ehi5]; replace W := W hi5 ehi5
  refine ts_aload_n 0 (pc' := 14) rfl dX7_findBestPairs_13 rfl rfl ?_
  refine ts_iconst (v := 0) (pc' := 15) rfl dX7_findBestPairs_14 (by decide) ?_
  refine ts_iload_n 1 (pc' := 16) rfl dX7_findBestPairs_15 rfl rfl ?_
  refine ts_callV (M' := mX7_tryPairs) (C := RX7) (pc' := 19) (av := [.int 0, .int p0]) (b := o) rfl dX7_findBestPairs_16 rfl gX7_findBestPairs_X7_tryPairs rfl dvX7_tryPairs rfl (ci := 6) cfX7.1 (by decide) c1 (Nat.le_refl _) (Nat.le_of_ble_eq_true rfl) (Nat.le_of_ble_eq_true rfl) (Nat.le_refl _) (Nat.le_refl _) ts_kv0 W (ts_kkv fun hi6 hk7 W => ?_)
  exact ts_vret dX7_findBestPairs_19 rfl (Nat.le_refl _) (Nat.le_refl _) ⟨rfl, rfl, W⟩
theorem hnX7_tryPairs_X1 : ∀ w ∈ u_ws RX1 TX1 13, w ∈ wsX7_tryPairs := by decide +kernel
theorem hnX7_tryPairs_X7 : ∀ w ∈ u_ws RX7 TX7 8, w ∈ wsX7_tryPairs := by decide +kernel
theorem flX7_tryPairs_17 : Cond.fieldLink RX7 17 "TurnipSquires$Seer" "mates" "[I" ∈ wsX7_tryPairs := by decide +kernel
theorem flX7_tryPairs_24 : Cond.fieldLink RX7 24 "TurnipSquires$Seer" "now" "LTurnipSquires$Field;" ∈ wsX7_tryPairs := by decide +kernel
theorem flX7_tryPairs_54 : Cond.fieldLink RX7 54 "TurnipSquires$Field" "count" "I" ∈ wsX7_tryPairs := by decide +kernel
set_option maxHeartbeats 4000000 in
theorem wX7_tryPairs_0 {d : Nat} {g : ts_G} {Q : ts_I → ts_K → Prop} {o : Nat} {p0 : Int32} {p1 : Int32} {hi : ts_I} {hk : ts_K} (W : (g.2.1 o = 6) ∧ (g.2.2.2 o 0 ≠ 0) ∧ (g.2.1 (g.2.2.2 o 0) = 1) ∧ (((hi (g.2.2.2 o 0) 9) ≤ p0) → ts_E0 d mX7_weighPairs [.ref o, .int p1] g hi hk (ts_qv (fun hi5 hk6 => Q hi5 hk6))) ∧ (¬ ((hi (g.2.2.2 o 0) 9) ≤ p0) → ((p0 < 7) → ts_E0 d mX7_tryPairs [.ref o, .int (p0 + 1), .int p1] g hi hk (ts_qv (fun hi8 hk9 => (g.2.2.2 o 4 ≠ 0) ∧ (g.2.1 (g.2.2.2 o 4) = 100) ∧ (vp_in p0 (g.2.2.1 (g.2.2.2 o 4))) ∧ (((hi8 (g.2.2.2 o 4) p0.toNatClampNeg) = (-1)) → ts_J0 (d + 1) mX7_tryPairs (ts_qv Q) g 46 [(0, .ref o), (1, .int p0), (2, .int p1), (3, .int (p0 + 1))] [] hi8 hk9) ∧ (¬ ((hi8 (g.2.2.2 o 4) p0.toNatClampNeg) = (-1)) → Q hi8 hk9)))) ∧ (¬ (p0 < 7) → ts_E0 d mX7_weighPairs [.ref o, .int p1] g hi hk (ts_qv (fun hi14 hk15 => Q hi14 hk15))))) : ts_J0 (d + 1) mX7_tryPairs (ts_qv Q) g 0 [(0, .ref o), (1, .int p0), (2, .int p1)] [] hi hk := by
  refine ts_iload_n 1 (pc' := 1) rfl dX7_tryPairs_0 rfl rfl ?_
  refine ts_aload_n 0 (pc' := 2) rfl dX7_tryPairs_1 rfl rfl ?_
  obtain ⟨c1, W⟩ := W
  obtain ⟨c2, W⟩ := W
  refine ts_getR (pc' := 5) (ci := 6) 0 cfX7.1 cfX7.2.1 cfX7.2.2 rfl (by decide) hnX7_tryPairs_X7 flX7_tryPairs_24 rfl dX7_tryPairs_2 c1 c2 ?_
  obtain ⟨c3, W⟩ := W
  refine ts_getI (pc' := 8) (ci := 1) 9 cfX1.1 cfX1.2.1 cfX1.2.2 rfl (by decide) hnX7_tryPairs_X1 flX7_tryPairs_54 rfl dX7_tryPairs_5 c3 ?_
  refine ts_icmp_ge (pc' := 11) (tgt := 17) rfl dX7_tryPairs_8 (by decide) (fun q4 => ?_) (fun q4 => ?_)
  · replace W := W.1 q4
    refine ts_aload_n 0 (pc' := 18) rfl dX7_tryPairs_17 rfl rfl ?_
    refine ts_iload_n 2 (pc' := 19) rfl dX7_tryPairs_18 rfl rfl ?_
    refine ts_callV (M' := mX7_weighPairs) (C := RX7) (pc' := 22) (av := [.int p1]) (b := o) rfl dX7_tryPairs_19 rfl gX7_tryPairs_X7_weighPairs rfl dvX7_weighPairs rfl (ci := 6) cfX7.1 (by decide) c1 (Nat.le_refl _) (Nat.le_of_ble_eq_true rfl) (Nat.le_of_ble_eq_true rfl) (Nat.le_refl _) (Nat.le_refl _) ts_kv0 W (ts_kkv fun hi5 hk6 W => ?_)
    exact ts_vret dX7_tryPairs_22 rfl (Nat.le_refl _) (Nat.le_refl _) ⟨rfl, rfl, W⟩
  · replace W := W.2 q4
    refine ts_iload_n 1 (pc' := 12) rfl dX7_tryPairs_11 rfl rfl ?_
    refine ts_bipush (v := 7) (pc' := 14) rfl dX7_tryPairs_12 (by decide) ?_
    refine ts_icmp_lt (pc' := 17) (tgt := 23) rfl dX7_tryPairs_14 (by decide) (fun q7 => ?_) (fun q7 => ?_)
    · replace W := W.1 q7
      refine ts_aload_n 0 (pc' := 24) rfl dX7_tryPairs_23 rfl rfl ?_
      refine ts_iload_n 1 (pc' := 25) rfl dX7_tryPairs_24 rfl rfl ?_
      refine ts_iconst (v := 1) (pc' := 26) rfl dX7_tryPairs_25 (by decide) ?_
      refine ts_iadd (pc' := 27) rfl dX7_tryPairs_26 ?_
      refine ts_iload_n 2 (pc' := 28) rfl dX7_tryPairs_27 rfl rfl ?_
      refine ts_callV (M' := mX7_tryPairs) (C := RX7) (pc' := 31) (av := [.int (p0 + 1), .int p1]) (b := o) rfl dX7_tryPairs_28 rfl gX7_tryPairs_X7_tryPairs rfl dvX7_tryPairs rfl (ci := 6) cfX7.1 (by decide) c1 (Nat.le_refl _) (Nat.le_of_ble_eq_true rfl) (Nat.le_of_ble_eq_true rfl) (Nat.le_refl _) (Nat.le_refl _) ts_kv0 W (ts_kkv fun hi8 hk9 W => ?_)
      refine ts_aload_n 0 (pc' := 32) rfl dX7_tryPairs_31 rfl rfl ?_
      obtain ⟨c10, W⟩ := W
      refine ts_getR (pc' := 35) (ci := 6) 4 cfX7.1 cfX7.2.1 cfX7.2.2 rfl (by decide) hnX7_tryPairs_X7 flX7_tryPairs_17 rfl dX7_tryPairs_32 c1 c10 ?_
      refine ts_iload_n 1 (pc' := 36) rfl dX7_tryPairs_35 rfl rfl ?_
      obtain ⟨c11, W⟩ := W
      obtain ⟨c12, W⟩ := W
      refine ts_iaload (pc' := 37) rfl dX7_tryPairs_36 c11 c12 ?_
      refine ts_iconst (v := (-1)) (pc' := 38) rfl dX7_tryPairs_37 (by decide) ?_
      refine ts_icmp_eq (pc' := 41) (tgt := 42) rfl dX7_tryPairs_38 (by decide) (fun q13 => ?_) (fun q13 => ?_)
      · replace W := W.1 q13
        refine ts_iload_n 1 (pc' := 43) rfl dX7_tryPairs_42 rfl rfl ?_
        refine ts_iconst (v := 1) (pc' := 44) rfl dX7_tryPairs_43 (by decide) ?_
        refine ts_iadd (pc' := 45) rfl dX7_tryPairs_44 ?_
        refine ts_istore_n (pc' := 46) (ls' := [(3, .int (p0 + 1)), (0, .ref o), (1, .int p0), (2, .int p1)]) rfl dX7_tryPairs_45 rfl (Nat.le_of_ble_eq_true rfl) rfl ?_
        exact ts_sub [1, 2, 3, 0] rfl W
      · replace W := W.2 q13
        exact ts_vret dX7_tryPairs_41 rfl (Nat.le_refl _) (Nat.le_refl _) ⟨rfl, rfl, W⟩
    · replace W := W.2 q7
      refine ts_aload_n 0 (pc' := 18) rfl dX7_tryPairs_17 rfl rfl ?_
      refine ts_iload_n 2 (pc' := 19) rfl dX7_tryPairs_18 rfl rfl ?_
      refine ts_callV (M' := mX7_weighPairs) (C := RX7) (pc' := 22) (av := [.int p1]) (b := o) rfl dX7_tryPairs_19 rfl gX7_tryPairs_X7_weighPairs rfl dvX7_weighPairs rfl (ci := 6) cfX7.1 (by decide) c1 (Nat.le_refl _) (Nat.le_of_ble_eq_true rfl) (Nat.le_of_ble_eq_true rfl) (Nat.le_refl _) (Nat.le_refl _) ts_kv0 W (ts_kkv fun hi14 hk15 W => ?_)
      exact ts_vret dX7_tryPairs_22 rfl (Nat.le_refl _) (Nat.le_refl _) ⟨rfl, rfl, W⟩
set_option maxHeartbeats 4000000 in
theorem wX7_tryPairs_46 {d : Nat} {g : ts_G} {Q : ts_I → ts_K → Prop} {l0 : Nat} {l1 : Int32} {l2 : Int32} {l3 : Int32} {hi : ts_I} {hk : ts_K} (W : (g.2.1 l0 = 6) ∧ (g.2.2.2 l0 0 ≠ 0) ∧ (g.2.1 (g.2.2.2 l0 0) = 1) ∧ (((hi (g.2.2.2 l0 0) 9) ≤ l3) → Q hi hk) ∧ (¬ ((hi (g.2.2.2 l0 0) 9) ≤ l3) → (g.2.2.2 l0 4 ≠ 0) ∧ (g.2.1 (g.2.2.2 l0 4) = 100) ∧ (vp_in l3 (g.2.2.1 (g.2.2.2 l0 4))) ∧ (((hi (g.2.2.2 l0 4) l3.toNatClampNeg) ≠ (-1)) → ts_J0 (d + 1) mX7_tryPairs (ts_qv Q) g 46 [(0, .ref l0), (1, .int l1), (2, .int l2), (3, .int (l3 + 1))] [] hi hk) ∧ (¬ ((hi (g.2.2.2 l0 4) l3.toNatClampNeg) ≠ (-1)) → (vp_in l1 (g.2.2.1 (g.2.2.2 l0 4))) ∧ ∀ hi10 : ts_I, hi10 = ts_up hi (g.2.2.2 l0 4) l1.toNatClampNeg l3 → ∀ hi11 : ts_I, hi11 = ts_up hi10 (g.2.2.2 l0 4) l3.toNatClampNeg l1 → ts_E0 d mX7_tryPairs [.ref l0, .int (l1 + 1), .int l2] g hi11 hk (ts_qv (fun hi12 hk13 => ∀ hi14 : ts_I, hi14 = ts_up hi12 (g.2.2.2 l0 4) l1.toNatClampNeg (-1) → ∀ hi15 : ts_I, hi15 = ts_up hi14 (g.2.2.2 l0 4) l3.toNatClampNeg (-1) → ts_J0 (d + 1) mX7_tryPairs (ts_qv Q) g 46 [(0, .ref l0), (1, .int l1), (2, .int l2), (3, .int (l3 + 1))] [] hi15 hk13))))) : ts_J0 (d + 1) mX7_tryPairs (ts_qv Q) g 46 [(0, .ref l0), (1, .int l1), (2, .int l2), (3, .int l3)] [] hi hk := by
  refine ts_iload_n 3 (pc' := 47) rfl dX7_tryPairs_46 rfl rfl ?_
  refine ts_aload_n 0 (pc' := 48) rfl dX7_tryPairs_47 rfl rfl ?_
  obtain ⟨c1, W⟩ := W
  obtain ⟨c2, W⟩ := W
  refine ts_getR (pc' := 51) (ci := 6) 0 cfX7.1 cfX7.2.1 cfX7.2.2 rfl (by decide) hnX7_tryPairs_X7 flX7_tryPairs_24 rfl dX7_tryPairs_48 c1 c2 ?_
  obtain ⟨c3, W⟩ := W
  refine ts_getI (pc' := 54) (ci := 1) 9 cfX1.1 cfX1.2.1 cfX1.2.2 rfl (by decide) hnX7_tryPairs_X1 flX7_tryPairs_54 rfl dX7_tryPairs_51 c3 ?_
  refine ts_icmp_ge (pc' := 57) (tgt := 109) rfl dX7_tryPairs_54 (by decide) (fun q4 => ?_) (fun q4 => ?_)
  · replace W := W.1 q4
    exact ts_vret dX7_tryPairs_109 rfl (Nat.le_refl _) (Nat.le_refl _) ⟨rfl, rfl, W⟩
  · replace W := W.2 q4
    refine ts_aload_n 0 (pc' := 58) rfl dX7_tryPairs_57 rfl rfl ?_
    obtain ⟨c5, W⟩ := W
    refine ts_getR (pc' := 61) (ci := 6) 4 cfX7.1 cfX7.2.1 cfX7.2.2 rfl (by decide) hnX7_tryPairs_X7 flX7_tryPairs_17 rfl dX7_tryPairs_58 c1 c5 ?_
    refine ts_iload_n 3 (pc' := 62) rfl dX7_tryPairs_61 rfl rfl ?_
    obtain ⟨c6, W⟩ := W
    obtain ⟨c7, W⟩ := W
    refine ts_iaload (pc' := 63) rfl dX7_tryPairs_62 c6 c7 ?_
    refine ts_iconst (v := (-1)) (pc' := 64) rfl dX7_tryPairs_63 (by decide) ?_
    refine ts_icmp_ne (pc' := 67) (tgt := 103) rfl dX7_tryPairs_64 (by decide) (fun q8 => ?_) (fun q8 => ?_)
    · replace W := W.1 q8
      refine ts_iinc 3 (pc' := 106) (ls' := [(3, .int (l3 + 1)), (0, .ref l0), (1, .int l1), (2, .int l2)]) rfl dX7_tryPairs_103 rfl rfl (Nat.le_of_ble_eq_true rfl) rfl ?_
      refine ts_goto (tgt := 46) dX7_tryPairs_106 (by decide) ?_
      exact ts_sub [1, 2, 3, 0] rfl W
    · replace W := W.2 q8
      refine ts_aload_n 0 (pc' := 68) rfl dX7_tryPairs_67 rfl rfl ?_
      refine ts_getR (pc' := 71) (ci := 6) 4 cfX7.1 cfX7.2.1 cfX7.2.2 rfl (by decide) hnX7_tryPairs_X7 flX7_tryPairs_17 rfl dX7_tryPairs_68 c1 c5 ?_
      refine ts_iload_n 1 (pc' := 72) rfl dX7_tryPairs_71 rfl rfl ?_
      refine ts_iload_n 3 (pc' := 73) rfl dX7_tryPairs_72 rfl rfl ?_
      obtain ⟨c9, W⟩ := W
      refine ts_iastore (pc' := 74) rfl dX7_tryPairs_73 c6 c9 ?_
      obtain ⟨hi10, ehi10⟩ : ∃ z, z = ts_up hi (g.2.2.2 l0 4) l1.toNatClampNeg l3 := ⟨_, rfl⟩
      rw [← ehi10]; replace W := W hi10 ehi10
      refine ts_aload_n 0 (pc' := 75) rfl dX7_tryPairs_74 rfl rfl ?_
      refine ts_getR (pc' := 78) (ci := 6) 4 cfX7.1 cfX7.2.1 cfX7.2.2 rfl (by decide) hnX7_tryPairs_X7 flX7_tryPairs_17 rfl dX7_tryPairs_75 c1 c5 ?_
      refine ts_iload_n 3 (pc' := 79) rfl dX7_tryPairs_78 rfl rfl ?_
      refine ts_iload_n 1 (pc' := 80) rfl dX7_tryPairs_79 rfl rfl ?_
      refine ts_iastore (pc' := 81) rfl dX7_tryPairs_80 c6 c7 ?_
      obtain ⟨hi11, ehi11⟩ : ∃ z, z = ts_up hi10 (g.2.2.2 l0 4) l3.toNatClampNeg l1 := ⟨_, rfl⟩
      rw [← ehi11]; replace W := W hi11 ehi11
      refine ts_aload_n 0 (pc' := 82) rfl dX7_tryPairs_81 rfl rfl ?_
      refine ts_iload_n 1 (pc' := 83) rfl dX7_tryPairs_82 rfl rfl ?_
      refine ts_iconst (v := 1) (pc' := 84) rfl dX7_tryPairs_83 (by decide) ?_
      refine ts_iadd (pc' := 85) rfl dX7_tryPairs_84 ?_
      refine ts_iload_n 2 (pc' := 86) rfl dX7_tryPairs_85 rfl rfl ?_
      refine ts_callV (M' := mX7_tryPairs) (C := RX7) (pc' := 89) (av := [.int (l1 + 1), .int l2]) (b := l0) rfl dX7_tryPairs_86 rfl gX7_tryPairs_X7_tryPairs rfl dvX7_tryPairs rfl (ci := 6) cfX7.1 (by decide) c1 (Nat.le_refl _) (Nat.le_of_ble_eq_true rfl) (Nat.le_of_ble_eq_true rfl) (Nat.le_refl _) (Nat.le_refl _) ts_kv0 W (ts_kkv fun hi12 hk13 W => ?_)
      refine ts_aload_n 0 (pc' := 90) rfl dX7_tryPairs_89 rfl rfl ?_
      refine ts_getR (pc' := 93) (ci := 6) 4 cfX7.1 cfX7.2.1 cfX7.2.2 rfl (by decide) hnX7_tryPairs_X7 flX7_tryPairs_17 rfl dX7_tryPairs_90 c1 c5 ?_
      refine ts_iload_n 1 (pc' := 94) rfl dX7_tryPairs_93 rfl rfl ?_
      refine ts_iconst (v := (-1)) (pc' := 95) rfl dX7_tryPairs_94 (by decide) ?_
      refine ts_iastore (pc' := 96) rfl dX7_tryPairs_95 c6 c9 ?_
      obtain ⟨hi14, ehi14⟩ : ∃ z, z = ts_up hi12 (g.2.2.2 l0 4) l1.toNatClampNeg (-1) := ⟨_, rfl⟩
      rw [← ehi14]; replace W := W hi14 ehi14
      refine ts_aload_n 0 (pc' := 97) rfl dX7_tryPairs_96 rfl rfl ?_
      refine ts_getR (pc' := 100) (ci := 6) 4 cfX7.1 cfX7.2.1 cfX7.2.2 rfl (by decide) hnX7_tryPairs_X7 flX7_tryPairs_17 rfl dX7_tryPairs_97 c1 c5 ?_
      refine ts_iload_n 3 (pc' := 101) rfl dX7_tryPairs_100 rfl rfl ?_
      refine ts_iconst (v := (-1)) (pc' := 102) rfl dX7_tryPairs_101 (by decide) ?_
      refine ts_iastore (pc' := 103) rfl dX7_tryPairs_102 c6 c7 ?_
      obtain ⟨hi15, ehi15⟩ : ∃ z, z = ts_up hi14 (g.2.2.2 l0 4) l3.toNatClampNeg (-1) := ⟨_, rfl⟩
      rw [← ehi15]; replace W := W hi15 ehi15
      refine ts_iinc 3 (pc' := 106) (ls' := [(3, .int (l3 + 1)), (0, .ref l0), (1, .int l1), (2, .int l2)]) rfl dX7_tryPairs_103 rfl rfl (Nat.le_of_ble_eq_true rfl) rfl ?_
      refine ts_goto (tgt := 46) dX7_tryPairs_106 (by decide) ?_
      exact ts_sub [1, 2, 3, 0] rfl W
theorem hnX7_weighPairs_X1 : ∀ w ∈ u_ws RX1 TX1 13, w ∈ wsX7_weighPairs := by decide +kernel
theorem hnX7_weighPairs_X7 : ∀ w ∈ u_ws RX7 TX7 8, w ∈ wsX7_weighPairs := by decide +kernel
theorem flX7_weighPairs_17 : Cond.fieldLink RX7 17 "TurnipSquires$Seer" "mates" "[I" ∈ wsX7_weighPairs := by decide +kernel
theorem flX7_weighPairs_21 : Cond.fieldLink RX7 21 "TurnipSquires$Seer" "bestMates" "[I" ∈ wsX7_weighPairs := by decide +kernel
theorem flX7_weighPairs_24 : Cond.fieldLink RX7 24 "TurnipSquires$Seer" "now" "LTurnipSquires$Field;" ∈ wsX7_weighPairs := by decide +kernel
theorem flX7_weighPairs_35 : Cond.fieldLink RX7 35 "TurnipSquires$Seer" "trial" "LTurnipSquires$Field;" ∈ wsX7_weighPairs := by decide +kernel
theorem flX7_weighPairs_67 : Cond.fieldLink RX7 67 "TurnipSquires$Seer" "mostRanks" "I" ∈ wsX7_weighPairs := by decide +kernel
theorem flX7_weighPairs_78 : Cond.fieldLink RX7 78 "TurnipSquires$Field" "mate" "[I" ∈ wsX7_weighPairs := by decide +kernel
set_option maxHeartbeats 4000000 in
theorem wX7_weighPairs_0 {d : Nat} {g : ts_G} {Q : ts_I → ts_K → Prop} {o : Nat} {p0 : Int32} {hi : ts_I} {hk : ts_K} (W : (g.2.1 o = 6) ∧ (g.2.2.2 o 3 ≠ 0) ∧ (g.2.2.2 o 0 ≠ 0) ∧ (g.2.1 (g.2.2.2 o 3) = 1) ∧ ts_E0 d mX1_become [.ref (g.2.2.2 o 3), .ref (g.2.2.2 o 0)] g hi hk (ts_qv (fun hi4 hk5 => (g.2.2.2 o 4 ≠ 0) ∧ (g.2.2.2 (g.2.2.2 o 3) 4 ≠ 0) ∧ (g.2.1 (g.2.2.2 o 4) = 100) ∧ (g.2.1 (g.2.2.2 (g.2.2.2 o 3) 4) = 100) ∧ ((0 : Int32).toNatClampNeg + (7 : Int32).toNatClampNeg ≤ g.2.2.1 (g.2.2.2 o 4)) ∧ ((0 : Int32).toNatClampNeg + (7 : Int32).toNatClampNeg ≤ g.2.2.1 (g.2.2.2 (g.2.2.2 o 3) 4)) ∧ ∀ hi13 : ts_I, hi13 = ts_cp hi4 (g.2.2.2 o 4) (0 : Int32).toNatClampNeg (g.2.2.2 (g.2.2.2 o 3) 4) (0 : Int32).toNatClampNeg (7 : Int32).toNatClampNeg → ts_J0 (d + 1) mX7_weighPairs (ts_qv Q) g 31 [(0, .ref o), (1, .int p0), (2, .int 0)] [] hi13 hk5))) : ts_J0 (d + 1) mX7_weighPairs (ts_qv Q) g 0 [(0, .ref o), (1, .int p0)] [] hi hk := by
  refine ts_aload_n 0 (pc' := 1) rfl dX7_weighPairs_0 rfl rfl ?_
  obtain ⟨c1, W⟩ := W
  obtain ⟨c2, W⟩ := W
  refine ts_getR (pc' := 4) (ci := 6) 3 cfX7.1 cfX7.2.1 cfX7.2.2 rfl (by decide) hnX7_weighPairs_X7 flX7_weighPairs_35 rfl dX7_weighPairs_1 c1 c2 ?_
  refine ts_aload_n 0 (pc' := 5) rfl dX7_weighPairs_4 rfl rfl ?_
  obtain ⟨c3, W⟩ := W
  refine ts_getR (pc' := 8) (ci := 6) 0 cfX7.1 cfX7.2.1 cfX7.2.2 rfl (by decide) hnX7_weighPairs_X7 flX7_weighPairs_24 rfl dX7_weighPairs_5 c1 c3 ?_
  obtain ⟨c6, W⟩ := W
  refine ts_callV (M' := mX1_become) (C := RX1) (pc' := 11) (av := [.ref (g.2.2.2 o 0)]) (b := (g.2.2.2 o 3)) rfl dX7_weighPairs_8 rfl gX7_weighPairs_X1_become rfl dvX1_become rfl (ci := 1) cfX1.1 (by decide) c6 (Nat.le_refl _) (Nat.le_of_ble_eq_true rfl) (Nat.le_of_ble_eq_true rfl) (Nat.le_refl _) (Nat.le_refl _) ts_kv0 W (ts_kkv fun hi4 hk5 W => ?_)
  refine ts_aload_n 0 (pc' := 12) rfl dX7_weighPairs_11 rfl rfl ?_
  obtain ⟨c7, W⟩ := W
  refine ts_getR (pc' := 15) (ci := 6) 4 cfX7.1 cfX7.2.1 cfX7.2.2 rfl (by decide) hnX7_weighPairs_X7 flX7_weighPairs_17 rfl dX7_weighPairs_12 c1 c7 ?_
  refine ts_iconst (v := 0) (pc' := 16) rfl dX7_weighPairs_15 (by decide) ?_
  refine ts_aload_n 0 (pc' := 17) rfl dX7_weighPairs_16 rfl rfl ?_
  refine ts_getR (pc' := 20) (ci := 6) 3 cfX7.1 cfX7.2.1 cfX7.2.2 rfl (by decide) hnX7_weighPairs_X7 flX7_weighPairs_35 rfl dX7_weighPairs_17 c1 c2 ?_
  obtain ⟨c8, W⟩ := W
  refine ts_getR (pc' := 23) (ci := 1) 4 cfX1.1 cfX1.2.1 cfX1.2.2 rfl (by decide) hnX7_weighPairs_X1 flX7_weighPairs_78 rfl dX7_weighPairs_20 c6 c8 ?_
  refine ts_iconst (v := 0) (pc' := 24) rfl dX7_weighPairs_23 (by decide) ?_
  refine ts_bipush (v := 7) (pc' := 26) rfl dX7_weighPairs_24 (by decide) ?_
  obtain ⟨c9, W⟩ := W
  obtain ⟨c10, W⟩ := W
  obtain ⟨c11, W⟩ := W
  obtain ⟨c12, W⟩ := W
  refine ts_acopy (pc' := 29) rfl dX7_weighPairs_26 (by decide +kernel) (by decide +kernel) (by decide +kernel) (by decide +kernel) (Nat.le_add_left 1 _) (Nat.le_of_ble_eq_true rfl) c9 c10 (by decide) (by decide) (by decide) c11 c12 ?_
  obtain ⟨hi13, ehi13⟩ : ∃ z, z = ts_cp hi4 (g.2.2.2 o 4) (0 : Int32).toNatClampNeg (g.2.2.2 (g.2.2.2 o 3) 4) (0 : Int32).toNatClampNeg (7 : Int32).toNatClampNeg := ⟨_, rfl⟩
  rw [← ehi13]; replace W := W hi13 ehi13
  refine ts_iconst (v := 0) (pc' := 30) rfl dX7_weighPairs_29 (by decide) ?_
  refine ts_istore_n (pc' := 31) (ls' := [(2, .int 0), (0, .ref o), (1, .int p0)]) rfl dX7_weighPairs_30 rfl (Nat.le_of_ble_eq_true rfl) rfl ?_
  exact ts_sub [1, 2, 0] rfl W
set_option maxHeartbeats 4000000 in
theorem wX7_weighPairs_31 {d : Nat} {g : ts_G} {Q : ts_I → ts_K → Prop} {l0 : Nat} {l1 : Int32} {l2 : Int32} {hi : ts_I} {hk : ts_K} (W : ((l1 ≤ l2) → (g.2.1 l0 = 6) ∧ (g.2.2.2 l0 3 ≠ 0) ∧ (g.2.1 (g.2.2.2 l0 3) = 1) ∧ ts_E0 d mX1_allRanks [.ref (g.2.2.2 l0 3)] g hi hk (ts_qi (fun v6 hi4 hk5 => ((v6 ≤ (hi4 l0 6)) → Q hi4 hk5) ∧ (¬ (v6 ≤ (hi4 l0 6)) → ∀ hi9 : ts_I, hi9 = ts_up hi4 l0 6 v6 → (g.2.2.2 l0 4 ≠ 0) ∧ (g.2.2.2 l0 5 ≠ 0) ∧ (g.2.1 (g.2.2.2 l0 4) = 100) ∧ (g.2.1 (g.2.2.2 l0 5) = 100) ∧ ((0 : Int32).toNatClampNeg + (7 : Int32).toNatClampNeg ≤ g.2.2.1 (g.2.2.2 l0 4)) ∧ ((0 : Int32).toNatClampNeg + (7 : Int32).toNatClampNeg ≤ g.2.2.1 (g.2.2.2 l0 5)) ∧ ∀ hi16 : ts_I, hi16 = ts_cp hi9 (g.2.2.2 l0 4) (0 : Int32).toNatClampNeg (g.2.2.2 l0 5) (0 : Int32).toNatClampNeg (7 : Int32).toNatClampNeg → Q hi16 hk5)))) ∧ (¬ (l1 ≤ l2) → (g.2.1 l0 = 6) ∧ (g.2.2.2 l0 3 ≠ 0) ∧ (g.2.1 (g.2.2.2 l0 3) = 1) ∧ ts_E0 d mX1_hasFrost [.ref (g.2.2.2 l0 3)] g hi hk (ts_qi (fun v21 hi19 hk20 => ts_E0 d mX1_pass [.ref (g.2.2.2 l0 3), .int v21] g hi19 hk20 (ts_qv (fun hi23 hk24 => ts_J0 (d + 1) mX7_weighPairs (ts_qv Q) g 31 [(0, .ref l0), (1, .int l1), (2, .int (l2 + 1))] [] hi23 hk24)))))) : ts_J0 (d + 1) mX7_weighPairs (ts_qv Q) g 31 [(0, .ref l0), (1, .int l1), (2, .int l2)] [] hi hk := by
  refine ts_iload_n 2 (pc' := 32) rfl dX7_weighPairs_31 rfl rfl ?_
  refine ts_iload_n 1 (pc' := 33) rfl dX7_weighPairs_32 rfl rfl ?_
  refine ts_icmp_ge (pc' := 36) (tgt := 56) rfl dX7_weighPairs_33 (by decide) (fun q1 => ?_) (fun q1 => ?_)
  · replace W := W.1 q1
    refine ts_aload_n 0 (pc' := 57) rfl dX7_weighPairs_56 rfl rfl ?_
    obtain ⟨c2, W⟩ := W
    obtain ⟨c3, W⟩ := W
    refine ts_getR (pc' := 60) (ci := 6) 3 cfX7.1 cfX7.2.1 cfX7.2.2 rfl (by decide) hnX7_weighPairs_X7 flX7_weighPairs_35 rfl dX7_weighPairs_57 c2 c3 ?_
    obtain ⟨c7, W⟩ := W
    refine ts_callV (M' := mX1_allRanks) (C := RX1) (pc' := 63) (av := []) (b := (g.2.2.2 l0 3)) rfl dX7_weighPairs_60 rfl gX7_weighPairs_X1_allRanks rfl dvX1_allRanks rfl (ci := 1) cfX1.1 (by decide) c7 (Nat.le_refl _) (Nat.le_of_ble_eq_true rfl) (Nat.le_of_ble_eq_true rfl) (Nat.le_refl _) (Nat.le_refl _) ts_kv0 W (ts_kki fun v6 hi4 hk5 W => ?_)
    refine ts_istore_n (pc' := 64) (ls' := [(2, .int v6), (0, .ref l0), (1, .int l1)]) rfl dX7_weighPairs_63 rfl (Nat.le_of_ble_eq_true rfl) rfl ?_
    refine ts_iload_n 0 (pc' := 65) rfl dX7_weighPairs_64 rfl rfl ?_
    refine ts_aload_n 1 (pc' := 66) rfl dX7_weighPairs_65 rfl rfl ?_
    refine ts_getI (pc' := 69) (ci := 6) 6 cfX7.1 cfX7.2.1 cfX7.2.2 rfl (by decide) hnX7_weighPairs_X7 flX7_weighPairs_67 rfl dX7_weighPairs_66 c2 ?_
    refine ts_icmp_le (pc' := 72) (tgt := 92) rfl dX7_weighPairs_69 (by decide) (fun q8 => ?_) (fun q8 => ?_)
    · replace W := W.1 q8
      exact ts_vret dX7_weighPairs_92 rfl (Nat.le_refl _) (Nat.le_refl _) ⟨rfl, rfl, W⟩
    · replace W := W.2 q8
      refine ts_aload_n 1 (pc' := 73) rfl dX7_weighPairs_72 rfl rfl ?_
      refine ts_iload_n 0 (pc' := 74) rfl dX7_weighPairs_73 rfl rfl ?_
      refine ts_putI (pc' := 77) (ci := 6) 6 cfX7.1 cfX7.2.1 cfX7.2.2 rfl (by decide) hnX7_weighPairs_X7 flX7_weighPairs_67 tyX7_ok nmX7 rfl rfl rfl dX7_weighPairs_74 c2 ?_
      obtain ⟨hi9, ehi9⟩ : ∃ z, z = ts_up hi4 l0 6 v6 := ⟨_, rfl⟩
      rw [← ehi9]; replace W := W hi9 ehi9
      refine ts_aload_n 1 (pc' := 78) rfl dX7_weighPairs_77 rfl rfl ?_
      obtain ⟨c10, W⟩ := W
      refine ts_getR (pc' := 81) (ci := 6) 4 cfX7.1 cfX7.2.1 cfX7.2.2 rfl (by decide) hnX7_weighPairs_X7 flX7_weighPairs_17 rfl dX7_weighPairs_78 c2 c10 ?_
      refine ts_iconst (v := 0) (pc' := 82) rfl dX7_weighPairs_81 (by decide) ?_
      refine ts_aload_n 1 (pc' := 83) rfl dX7_weighPairs_82 rfl rfl ?_
      obtain ⟨c11, W⟩ := W
      refine ts_getR (pc' := 86) (ci := 6) 5 cfX7.1 cfX7.2.1 cfX7.2.2 rfl (by decide) hnX7_weighPairs_X7 flX7_weighPairs_21 rfl dX7_weighPairs_83 c2 c11 ?_
      refine ts_iconst (v := 0) (pc' := 87) rfl dX7_weighPairs_86 (by decide) ?_
      refine ts_bipush (v := 7) (pc' := 89) rfl dX7_weighPairs_87 (by decide) ?_
      obtain ⟨c12, W⟩ := W
      obtain ⟨c13, W⟩ := W
      obtain ⟨c14, W⟩ := W
      obtain ⟨c15, W⟩ := W
      refine ts_acopy (pc' := 92) rfl dX7_weighPairs_89 (by decide +kernel) (by decide +kernel) (by decide +kernel) (by decide +kernel) (Nat.le_add_left 1 _) (Nat.le_of_ble_eq_true rfl) c12 c13 (by decide) (by decide) (by decide) c14 c15 ?_
      obtain ⟨hi16, ehi16⟩ : ∃ z, z = ts_cp hi9 (g.2.2.2 l0 4) (0 : Int32).toNatClampNeg (g.2.2.2 l0 5) (0 : Int32).toNatClampNeg (7 : Int32).toNatClampNeg := ⟨_, rfl⟩
      rw [← ehi16]; replace W := W hi16 ehi16
      exact ts_vret dX7_weighPairs_92 rfl (Nat.le_refl _) (Nat.le_refl _) ⟨rfl, rfl, W⟩
  · replace W := W.2 q1
    refine ts_aload_n 0 (pc' := 37) rfl dX7_weighPairs_36 rfl rfl ?_
    obtain ⟨c17, W⟩ := W
    obtain ⟨c18, W⟩ := W
    refine ts_getR (pc' := 40) (ci := 6) 3 cfX7.1 cfX7.2.1 cfX7.2.2 rfl (by decide) hnX7_weighPairs_X7 flX7_weighPairs_35 rfl dX7_weighPairs_37 c17 c18 ?_
    refine ts_aload_n 0 (pc' := 41) rfl dX7_weighPairs_40 rfl rfl ?_
    refine ts_getR (pc' := 44) (ci := 6) 3 cfX7.1 cfX7.2.1 cfX7.2.2 rfl (by decide) hnX7_weighPairs_X7 flX7_weighPairs_35 rfl dX7_weighPairs_41 c17 c18 ?_
    obtain ⟨c22, W⟩ := W
    refine ts_callV (M' := mX1_hasFrost) (C := RX1) (pc' := 47) (av := []) (b := (g.2.2.2 l0 3)) rfl dX7_weighPairs_44 rfl gX7_weighPairs_X1_hasFrost rfl dvX1_hasFrost rfl (ci := 1) cfX1.1 (by decide) c22 (Nat.le_refl _) (Nat.le_of_ble_eq_true rfl) (Nat.le_of_ble_eq_true rfl) (Nat.le_refl _) (Nat.le_refl _) ts_kv0 W (ts_kki fun v21 hi19 hk20 W => ?_)
    refine ts_callV (M' := mX1_pass) (C := RX1) (pc' := 50) (av := [.int v21]) (b := (g.2.2.2 l0 3)) rfl dX7_weighPairs_47 rfl gX7_weighPairs_X1_pass rfl dvX1_pass rfl (ci := 1) cfX1.1 (by decide) c22 (Nat.le_refl _) (Nat.le_of_ble_eq_true rfl) (Nat.le_of_ble_eq_true rfl) (Nat.le_refl _) (Nat.le_refl _) ts_kv0 W (ts_kkv fun hi23 hk24 W => ?_)
    refine ts_iinc 2 (pc' := 53) (ls' := [(2, .int (l2 + 1)), (0, .ref l0), (1, .int l1)]) rfl dX7_weighPairs_50 rfl rfl (Nat.le_of_ble_eq_true rfl) rfl ?_
    refine ts_goto (tgt := 31) dX7_weighPairs_53 (by decide) ?_
    exact ts_sub [1, 2, 0] rfl W
theorem hnX7_bestChange_X1 : ∀ w ∈ u_ws RX1 TX1 13, w ∈ wsX7_bestChange := by decide +kernel
theorem hnX7_bestChange_X7 : ∀ w ∈ u_ws RX7 TX7 8, w ∈ wsX7_bestChange := by decide +kernel
theorem flX7_bestChange_24 : Cond.fieldLink RX7 24 "TurnipSquires$Seer" "now" "LTurnipSquires$Field;" ∈ wsX7_bestChange := by decide +kernel
theorem flX7_bestChange_35 : Cond.fieldLink RX7 35 "TurnipSquires$Seer" "trial" "LTurnipSquires$Field;" ∈ wsX7_bestChange := by decide +kernel
theorem flX7_bestChange_54 : Cond.fieldLink RX7 54 "TurnipSquires$Field" "count" "I" ∈ wsX7_bestChange := by decide +kernel
theorem flX7_bestChange_67 : Cond.fieldLink RX7 67 "TurnipSquires$Seer" "mostRanks" "I" ∈ wsX7_bestChange := by decide +kernel
set_option maxHeartbeats 4000000 in
theorem wX7_bestChange_0 {d : Nat} {g : ts_G} {Q : Int32 → ts_I → ts_K → Prop} {o : Nat} {p0 : Int32} {hi : ts_I} {hk : ts_K} (W : (g.2.1 o = 6) ∧ ∀ hi2 : ts_I, hi2 = ts_up hi o 6 (-1) → ts_J0 (d + 1) mX7_bestChange (ts_qi Q) g 9 [(0, .ref o), (1, .int p0), (2, .int 0), (3, .int 0)] [] hi2 hk) : ts_J0 (d + 1) mX7_bestChange (ts_qi Q) g 0 [(0, .ref o), (1, .int p0)] [] hi hk := by
  refine ts_iconst (v := 0) (pc' := 1) rfl dX7_bestChange_0 (by decide) ?_
  refine ts_istore_n (pc' := 2) (ls' := [(2, .int 0), (0, .ref o), (1, .int p0)]) rfl dX7_bestChange_1 rfl (Nat.le_of_ble_eq_true rfl) rfl ?_
  refine ts_aload_n 1 (pc' := 3) rfl dX7_bestChange_2 rfl rfl ?_
  refine ts_iconst (v := (-1)) (pc' := 4) rfl dX7_bestChange_3 (by decide) ?_
  obtain ⟨c1, W⟩ := W
  refine ts_putI (pc' := 7) (ci := 6) 6 cfX7.1 cfX7.2.1 cfX7.2.2 rfl (by decide) hnX7_bestChange_X7 flX7_bestChange_67 tyX7_ok nmX7 rfl rfl rfl dX7_bestChange_4 c1 ?_
  obtain ⟨hi2, ehi2⟩ : ∃ z, z = ts_up hi o 6 (-1) := ⟨_, rfl⟩
  rw [← ehi2]; replace W := W hi2 ehi2
  refine ts_iconst (v := 0) (pc' := 8) rfl dX7_bestChange_7 (by decide) ?_
  refine ts_istore_n (pc' := 9) (ls' := [(3, .int 0), (2, .int 0), (0, .ref o), (1, .int p0)]) rfl dX7_bestChange_8 rfl (Nat.le_of_ble_eq_true rfl) rfl ?_
  exact ts_sub [2, 3, 1, 0] rfl W
set_option maxHeartbeats 4000000 in
theorem wX7_bestChange_9 {d : Nat} {g : ts_G} {Q : Int32 → ts_I → ts_K → Prop} {l0 : Nat} {l1 : Int32} {l2 : Int32} {l3 : Int32} {hi : ts_I} {hk : ts_K} (W : (g.2.1 l0 = 6) ∧ (g.2.2.2 l0 0 ≠ 0) ∧ (g.2.1 (g.2.2.2 l0 0) = 1) ∧ (((hi (g.2.2.2 l0 0) 9) ≤ l3) → Q l2 hi hk) ∧ (¬ ((hi (g.2.2.2 l0 0) 9) ≤ l3) → ts_J0 (d + 1) mX7_bestChange (ts_qi Q) g 25 [(0, .ref l0), (1, .int l1), (2, .int l2), (3, .int l3), (4, .int (l3 + 1))] [] hi hk)) : ts_J0 (d + 1) mX7_bestChange (ts_qi Q) g 9 [(0, .ref l0), (1, .int l1), (2, .int l2), (3, .int l3)] [] hi hk := by
  refine ts_iload_n 3 (pc' := 10) rfl dX7_bestChange_9 rfl rfl ?_
  refine ts_aload_n 0 (pc' := 11) rfl dX7_bestChange_10 rfl rfl ?_
  obtain ⟨c1, W⟩ := W
  obtain ⟨c2, W⟩ := W
  refine ts_getR (pc' := 14) (ci := 6) 0 cfX7.1 cfX7.2.1 cfX7.2.2 rfl (by decide) hnX7_bestChange_X7 flX7_bestChange_24 rfl dX7_bestChange_11 c1 c2 ?_
  obtain ⟨c3, W⟩ := W
  refine ts_getI (pc' := 17) (ci := 1) 9 cfX1.1 cfX1.2.1 cfX1.2.2 rfl (by decide) hnX7_bestChange_X1 flX7_bestChange_54 rfl dX7_bestChange_14 c3 ?_
  refine ts_icmp_ge (pc' := 20) (tgt := 131) rfl dX7_bestChange_17 (by decide) (fun q4 => ?_) (fun q4 => ?_)
  · replace W := W.1 q4
    refine ts_iload_n 2 (pc' := 132) rfl dX7_bestChange_131 rfl rfl ?_
    exact ts_iret dX7_bestChange_132 rfl (Nat.le_refl _) (Nat.le_refl _) ⟨rfl, _, rfl, W⟩
  · replace W := W.2 q4
    refine ts_iload_n 3 (pc' := 21) rfl dX7_bestChange_20 rfl rfl ?_
    refine ts_iconst (v := 1) (pc' := 22) rfl dX7_bestChange_21 (by decide) ?_
    refine ts_iadd (pc' := 23) rfl dX7_bestChange_22 ?_
    refine ts_istore (pc' := 25) (ls' := [(4, .int (l3 + 1)), (0, .ref l0), (1, .int l1), (2, .int l2), (3, .int l3)]) rfl dX7_bestChange_23 (Nat.le_of_ble_eq_true rfl) rfl ?_
    exact ts_sub [1, 2, 3, 4, 0] rfl W
set_option maxHeartbeats 4000000 in
theorem wX7_bestChange_25 {d : Nat} {g : ts_G} {Q : Int32 → ts_I → ts_K → Prop} {l0 : Nat} {l1 : Int32} {l2 : Int32} {l3 : Int32} {l4 : Int32} {hi : ts_I} {hk : ts_K} (W : (g.2.1 l0 = 6) ∧ (g.2.2.2 l0 0 ≠ 0) ∧ (g.2.1 (g.2.2.2 l0 0) = 1) ∧ (((hi (g.2.2.2 l0 0) 9) ≤ l4) → ts_J0 (d + 1) mX7_bestChange (ts_qi Q) g 9 [(0, .ref l0), (1, .int l1), (2, .int l2), (3, .int (l3 + 1))] [] hi hk) ∧ (¬ ((hi (g.2.2.2 l0 0) 9) ≤ l4) → (g.2.2.2 l0 3 ≠ 0) ∧ (g.2.1 (g.2.2.2 l0 3) = 1) ∧ ts_E0 d mX1_become [.ref (g.2.2.2 l0 3), .ref (g.2.2.2 l0 0)] g hi hk (ts_qv (fun hi6 hk7 => ts_E0 d mX1_exchange [.ref (g.2.2.2 l0 3), .int l3, .int l4] g hi6 hk7 (ts_qv (fun hi9 hk10 => ts_J0 (d + 1) mX7_bestChange (ts_qi Q) g 61 [(0, .ref l0), (1, .int l1), (2, .int l2), (3, .int l3), (4, .int l4), (5, .int 0)] [] hi9 hk10)))))) : ts_J0 (d + 1) mX7_bestChange (ts_qi Q) g 25 [(0, .ref l0), (1, .int l1), (2, .int l2), (3, .int l3), (4, .int l4)] [] hi hk := by
  refine ts_iload 4 (pc' := 27) rfl dX7_bestChange_25 rfl ?_
  refine ts_aload_n 0 (pc' := 28) rfl dX7_bestChange_27 rfl rfl ?_
  obtain ⟨c1, W⟩ := W
  obtain ⟨c2, W⟩ := W
  refine ts_getR (pc' := 31) (ci := 6) 0 cfX7.1 cfX7.2.1 cfX7.2.2 rfl (by decide) hnX7_bestChange_X7 flX7_bestChange_24 rfl dX7_bestChange_28 c1 c2 ?_
  obtain ⟨c3, W⟩ := W
  refine ts_getI (pc' := 34) (ci := 1) 9 cfX1.1 cfX1.2.1 cfX1.2.2 rfl (by decide) hnX7_bestChange_X1 flX7_bestChange_54 rfl dX7_bestChange_31 c3 ?_
  refine ts_icmp_ge (pc' := 37) (tgt := 125) rfl dX7_bestChange_34 (by decide) (fun q4 => ?_) (fun q4 => ?_)
  · replace W := W.1 q4
    refine ts_iinc 3 (pc' := 128) (ls' := [(3, .int (l3 + 1)), (0, .ref l0), (1, .int l1), (2, .int l2), (4, .int l4)]) rfl dX7_bestChange_125 rfl rfl (Nat.le_of_ble_eq_true rfl) rfl ?_
    refine ts_goto (tgt := 9) dX7_bestChange_128 (by decide) ?_
    exact ts_sub [1, 2, 3, 0] rfl W
  · replace W := W.2 q4
    refine ts_aload_n 0 (pc' := 38) rfl dX7_bestChange_37 rfl rfl ?_
    obtain ⟨c5, W⟩ := W
    refine ts_getR (pc' := 41) (ci := 6) 3 cfX7.1 cfX7.2.1 cfX7.2.2 rfl (by decide) hnX7_bestChange_X7 flX7_bestChange_35 rfl dX7_bestChange_38 c1 c5 ?_
    refine ts_aload_n 0 (pc' := 42) rfl dX7_bestChange_41 rfl rfl ?_
    refine ts_getR (pc' := 45) (ci := 6) 0 cfX7.1 cfX7.2.1 cfX7.2.2 rfl (by decide) hnX7_bestChange_X7 flX7_bestChange_24 rfl dX7_bestChange_42 c1 c2 ?_
    obtain ⟨c8, W⟩ := W
    refine ts_callV (M' := mX1_become) (C := RX1) (pc' := 48) (av := [.ref (g.2.2.2 l0 0)]) (b := (g.2.2.2 l0 3)) rfl dX7_bestChange_45 rfl gX7_bestChange_X1_become rfl dvX1_become rfl (ci := 1) cfX1.1 (by decide) c8 (Nat.le_refl _) (Nat.le_of_ble_eq_true rfl) (Nat.le_of_ble_eq_true rfl) (Nat.le_refl _) (Nat.le_refl _) ts_kv0 W (ts_kkv fun hi6 hk7 W => ?_)
    refine ts_aload_n 0 (pc' := 49) rfl dX7_bestChange_48 rfl rfl ?_
    refine ts_getR (pc' := 52) (ci := 6) 3 cfX7.1 cfX7.2.1 cfX7.2.2 rfl (by decide) hnX7_bestChange_X7 flX7_bestChange_35 rfl dX7_bestChange_49 c1 c5 ?_
    refine ts_iload_n 3 (pc' := 53) rfl dX7_bestChange_52 rfl rfl ?_
    refine ts_iload 4 (pc' := 55) rfl dX7_bestChange_53 rfl ?_
    refine ts_callV (M' := mX1_exchange) (C := RX1) (pc' := 58) (av := [.int l3, .int l4]) (b := (g.2.2.2 l0 3)) rfl dX7_bestChange_55 rfl gX7_bestChange_X1_exchange rfl dvX1_exchange rfl (ci := 1) cfX1.1 (by decide) c8 (Nat.le_refl _) (Nat.le_of_ble_eq_true rfl) (Nat.le_of_ble_eq_true rfl) (Nat.le_refl _) (Nat.le_refl _) ts_kv0 W (ts_kkv fun hi9 hk10 W => ?_)
    refine ts_iconst (v := 0) (pc' := 59) rfl dX7_bestChange_58 (by decide) ?_
    refine ts_istore (pc' := 61) (ls' := [(5, .int 0), (0, .ref l0), (1, .int l1), (2, .int l2), (3, .int l3), (4, .int l4)]) rfl dX7_bestChange_59 (Nat.le_of_ble_eq_true rfl) rfl ?_
    exact ts_sub [1, 2, 3, 4, 5, 0] rfl W
set_option maxHeartbeats 4000000 in
theorem wX7_bestChange_61 {d : Nat} {g : ts_G} {Q : Int32 → ts_I → ts_K → Prop} {l0 : Nat} {l1 : Int32} {l2 : Int32} {l3 : Int32} {l4 : Int32} {l5 : Int32} {hi : ts_I} {hk : ts_K} (W : ((l1 ≤ l5) → (g.2.1 l0 = 6) ∧ (g.2.2.2 l0 3 ≠ 0) ∧ (g.2.1 (g.2.2.2 l0 3) = 1) ∧ ts_E0 d mX1_allRanks [.ref (g.2.2.2 l0 3)] g hi hk (ts_qi (fun v6 hi4 hk5 => ((v6 ≤ (hi4 l0 6)) → ts_J0 (d + 1) mX7_bestChange (ts_qi Q) g 25 [(0, .ref l0), (1, .int l1), (2, .int l2), (3, .int l3), (4, .int (l4 + 1))] [] hi4 hk5) ∧ (¬ (v6 ≤ (hi4 l0 6)) → ∀ hi9 : ts_I, hi9 = ts_up hi4 l0 6 v6 → ts_J0 (d + 1) mX7_bestChange (ts_qi Q) g 25 [(0, .ref l0), (1, .int l1), (2, .int ((10 * l3) + l4)), (3, .int l3), (4, .int (l4 + 1))] [] hi9 hk5)))) ∧ (¬ (l1 ≤ l5) → (g.2.1 l0 = 6) ∧ (g.2.2.2 l0 3 ≠ 0) ∧ (g.2.1 (g.2.2.2 l0 3) = 1) ∧ ts_E0 d mX1_hasFrost [.ref (g.2.2.2 l0 3)] g hi hk (ts_qi (fun v14 hi12 hk13 => ts_E0 d mX1_pass [.ref (g.2.2.2 l0 3), .int v14] g hi12 hk13 (ts_qv (fun hi16 hk17 => ts_J0 (d + 1) mX7_bestChange (ts_qi Q) g 61 [(0, .ref l0), (1, .int l1), (2, .int l2), (3, .int l3), (4, .int l4), (5, .int (l5 + 1))] [] hi16 hk17)))))) : ts_J0 (d + 1) mX7_bestChange (ts_qi Q) g 61 [(0, .ref l0), (1, .int l1), (2, .int l2), (3, .int l3), (4, .int l4), (5, .int l5)] [] hi hk := by
  refine ts_iload 5 (pc' := 63) rfl dX7_bestChange_61 rfl ?_
  refine ts_iload_n 1 (pc' := 64) rfl dX7_bestChange_63 rfl rfl ?_
  refine ts_icmp_ge (pc' := 67) (tgt := 87) rfl dX7_bestChange_64 (by decide) (fun q1 => ?_) (fun q1 => ?_)
  · replace W := W.1 q1
    refine ts_aload_n 0 (pc' := 88) rfl dX7_bestChange_87 rfl rfl ?_
    obtain ⟨c2, W⟩ := W
    obtain ⟨c3, W⟩ := W
    refine ts_getR (pc' := 91) (ci := 6) 3 cfX7.1 cfX7.2.1 cfX7.2.2 rfl (by decide) hnX7_bestChange_X7 flX7_bestChange_35 rfl dX7_bestChange_88 c2 c3 ?_
    obtain ⟨c7, W⟩ := W
    refine ts_callV (M' := mX1_allRanks) (C := RX1) (pc' := 94) (av := []) (b := (g.2.2.2 l0 3)) rfl dX7_bestChange_91 rfl gX7_bestChange_X1_allRanks rfl dvX1_allRanks rfl (ci := 1) cfX1.1 (by decide) c7 (Nat.le_refl _) (Nat.le_of_ble_eq_true rfl) (Nat.le_of_ble_eq_true rfl) (Nat.le_refl _) (Nat.le_refl _) ts_kv0 W (ts_kki fun v6 hi4 hk5 W => ?_)
    refine ts_istore (pc' := 96) (ls' := [(5, .int v6), (0, .ref l0), (1, .int l1), (2, .int l2), (3, .int l3), (4, .int l4)]) rfl dX7_bestChange_94 (Nat.le_of_ble_eq_true rfl) rfl ?_
    refine ts_iload 0 (pc' := 98) rfl dX7_bestChange_96 rfl ?_
    refine ts_aload_n 1 (pc' := 99) rfl dX7_bestChange_98 rfl rfl ?_
    refine ts_getI (pc' := 102) (ci := 6) 6 cfX7.1 cfX7.2.1 cfX7.2.2 rfl (by decide) hnX7_bestChange_X7 flX7_bestChange_67 rfl dX7_bestChange_99 c2 ?_
    refine ts_icmp_le (pc' := 105) (tgt := 119) rfl dX7_bestChange_102 (by decide) (fun q8 => ?_) (fun q8 => ?_)
    · replace W := W.1 q8
      refine ts_iinc 5 (pc' := 122) (ls' := [(4, .int (l4 + 1)), (5, .int v6), (0, .ref l0), (1, .int l1), (2, .int l2), (3, .int l3)]) rfl dX7_bestChange_119 rfl rfl (Nat.le_of_ble_eq_true rfl) rfl ?_
      refine ts_goto (tgt := 25) dX7_bestChange_122 (by decide) ?_
      exact ts_sub [2, 3, 4, 5, 0] rfl W
    · replace W := W.2 q8
      refine ts_aload_n 1 (pc' := 106) rfl dX7_bestChange_105 rfl rfl ?_
      refine ts_iload 0 (pc' := 108) rfl dX7_bestChange_106 rfl ?_
      refine ts_putI (pc' := 111) (ci := 6) 6 cfX7.1 cfX7.2.1 cfX7.2.2 rfl (by decide) hnX7_bestChange_X7 flX7_bestChange_67 tyX7_ok nmX7 rfl rfl rfl dX7_bestChange_108 c2 ?_
      obtain ⟨hi9, ehi9⟩ : ∃ z, z = ts_up hi4 l0 6 v6 := ⟨_, rfl⟩
      rw [← ehi9]; replace W := W hi9 ehi9
      refine ts_bipush (v := 10) (pc' := 113) rfl dX7_bestChange_111 (by decide) ?_
      refine ts_iload_n 4 (pc' := 114) rfl dX7_bestChange_113 rfl rfl ?_
      refine ts_imul (pc' := 115) rfl dX7_bestChange_114 ?_
      refine ts_iload 5 (pc' := 117) rfl dX7_bestChange_115 rfl ?_
      refine ts_iadd (pc' := 118) rfl dX7_bestChange_117 ?_
      refine ts_istore_n (pc' := 119) (ls' := [(2, .int ((10 * l3) + l4)), (5, .int v6), (0, .ref l0), (1, .int l1), (3, .int l3), (4, .int l4)]) rfl dX7_bestChange_118 rfl (Nat.le_of_ble_eq_true rfl) rfl ?_
      refine ts_iinc 5 (pc' := 122) (ls' := [(4, .int (l4 + 1)), (2, .int ((10 * l3) + l4)), (5, .int v6), (0, .ref l0), (1, .int l1), (3, .int l3)]) rfl dX7_bestChange_119 rfl rfl (Nat.le_of_ble_eq_true rfl) rfl ?_
      refine ts_goto (tgt := 25) dX7_bestChange_122 (by decide) ?_
      exact ts_sub [3, 4, 1, 5, 0] rfl W
  · replace W := W.2 q1
    refine ts_aload_n 0 (pc' := 68) rfl dX7_bestChange_67 rfl rfl ?_
    obtain ⟨c10, W⟩ := W
    obtain ⟨c11, W⟩ := W
    refine ts_getR (pc' := 71) (ci := 6) 3 cfX7.1 cfX7.2.1 cfX7.2.2 rfl (by decide) hnX7_bestChange_X7 flX7_bestChange_35 rfl dX7_bestChange_68 c10 c11 ?_
    refine ts_aload_n 0 (pc' := 72) rfl dX7_bestChange_71 rfl rfl ?_
    refine ts_getR (pc' := 75) (ci := 6) 3 cfX7.1 cfX7.2.1 cfX7.2.2 rfl (by decide) hnX7_bestChange_X7 flX7_bestChange_35 rfl dX7_bestChange_72 c10 c11 ?_
    obtain ⟨c15, W⟩ := W
    refine ts_callV (M' := mX1_hasFrost) (C := RX1) (pc' := 78) (av := []) (b := (g.2.2.2 l0 3)) rfl dX7_bestChange_75 rfl gX7_bestChange_X1_hasFrost rfl dvX1_hasFrost rfl (ci := 1) cfX1.1 (by decide) c15 (Nat.le_refl _) (Nat.le_of_ble_eq_true rfl) (Nat.le_of_ble_eq_true rfl) (Nat.le_refl _) (Nat.le_refl _) ts_kv0 W (ts_kki fun v14 hi12 hk13 W => ?_)
    refine ts_callV (M' := mX1_pass) (C := RX1) (pc' := 81) (av := [.int v14]) (b := (g.2.2.2 l0 3)) rfl dX7_bestChange_78 rfl gX7_bestChange_X1_pass rfl dvX1_pass rfl (ci := 1) cfX1.1 (by decide) c15 (Nat.le_refl _) (Nat.le_of_ble_eq_true rfl) (Nat.le_of_ble_eq_true rfl) (Nat.le_refl _) (Nat.le_refl _) ts_kv0 W (ts_kkv fun hi16 hk17 W => ?_)
    refine ts_iinc 5 (pc' := 84) (ls' := [(5, .int (l5 + 1)), (0, .ref l0), (1, .int l1), (2, .int l2), (3, .int l3), (4, .int l4)]) rfl dX7_bestChange_81 rfl rfl (Nat.le_of_ble_eq_true rfl) rfl ?_
    refine ts_goto (tgt := 61) dX7_bestChange_84 (by decide) ?_
    exact ts_sub [1, 2, 3, 4, 5, 0] rfl W
theorem hnX7_allFitting_X7 : ∀ w ∈ u_ws RX7 TX7 8, w ∈ wsX7_allFitting := by decide +kernel
theorem flX7_allFitting_24 : Cond.fieldLink RX7 24 "TurnipSquires$Seer" "now" "LTurnipSquires$Field;" ∈ wsX7_allFitting := by decide +kernel
theorem flX7_allFitting_35 : Cond.fieldLink RX7 35 "TurnipSquires$Seer" "trial" "LTurnipSquires$Field;" ∈ wsX7_allFitting := by decide +kernel
set_option maxHeartbeats 4000000 in
theorem wX7_allFitting_0 {d : Nat} {g : ts_G} {Q : Int32 → ts_I → ts_K → Prop} {o : Nat} {p0 : Int32} {p1 : Nat} {p2 : Int32} {p3 : Int32} {p4 : Int32} {hi : ts_I} {hk : ts_K} (W : ((p4 = 0) → ((p4 ≠ 0) → ((p4 ≠ 3) → ts_J0 (d + 1) mX7_allFitting (ts_qi Q) g 49 [(0, .ref o), (1, .int p0), (2, .ref p1), (3, .int p2), (4, .int p3), (5, .int p4), (7, .int 9), (8, .int 0), (9, .int 1)] [] hi hk) ∧ (¬ (p4 ≠ 3) → ts_J0 (d + 1) mX7_allFitting (ts_qi Q) g 49 [(0, .ref o), (1, .int p0), (2, .ref p1), (3, .int p2), (4, .int p3), (5, .int p4), (7, .int 15), (8, .int 0), (9, .int 1)] [] hi hk)) ∧ (¬ (p4 ≠ 0) → ts_J0 (d + 1) mX7_allFitting (ts_qi Q) g 49 [(0, .ref o), (1, .int p0), (2, .ref p1), (3, .int p2), (4, .int p3), (5, .int p4), (7, .int 5), (8, .int 0), (9, .int 1)] [] hi hk)) ∧ (¬ (p4 = 0) → ((p4 ≠ 2) → ((p4 ≠ 0) → ((p4 ≠ 3) → ts_J0 (d + 1) mX7_allFitting (ts_qi Q) g 49 [(0, .ref o), (1, .int p0), (2, .ref p1), (3, .int p2), (4, .int p3), (5, .int p4), (7, .int 9), (8, .int 0), (9, .int 0)] [] hi hk) ∧ (¬ (p4 ≠ 3) → ts_J0 (d + 1) mX7_allFitting (ts_qi Q) g 49 [(0, .ref o), (1, .int p0), (2, .ref p1), (3, .int p2), (4, .int p3), (5, .int p4), (7, .int 15), (8, .int 0), (9, .int 0)] [] hi hk)) ∧ (¬ (p4 ≠ 0) → ts_J0 (d + 1) mX7_allFitting (ts_qi Q) g 49 [(0, .ref o), (1, .int p0), (2, .ref p1), (3, .int p2), (4, .int p3), (5, .int p4), (7, .int 5), (8, .int 0), (9, .int 0)] [] hi hk)) ∧ (¬ (p4 ≠ 2) → ((p4 ≠ 0) → ((p4 ≠ 3) → ts_J0 (d + 1) mX7_allFitting (ts_qi Q) g 49 [(0, .ref o), (1, .int p0), (2, .ref p1), (3, .int p2), (4, .int p3), (5, .int p4), (7, .int 9), (8, .int 0), (9, .int 1)] [] hi hk) ∧ (¬ (p4 ≠ 3) → ts_J0 (d + 1) mX7_allFitting (ts_qi Q) g 49 [(0, .ref o), (1, .int p0), (2, .ref p1), (3, .int p2), (4, .int p3), (5, .int p4), (7, .int 15), (8, .int 0), (9, .int 1)] [] hi hk)) ∧ (¬ (p4 ≠ 0) → ts_J0 (d + 1) mX7_allFitting (ts_qi Q) g 49 [(0, .ref o), (1, .int p0), (2, .ref p1), (3, .int p2), (4, .int p3), (5, .int p4), (7, .int 5), (8, .int 0), (9, .int 1)] [] hi hk)))) : ts_J0 (d + 1) mX7_allFitting (ts_qi Q) g 0 [(0, .ref o), (1, .int p0), (2, .ref p1), (3, .int p2), (4, .int p3), (5, .int p4)] [] hi hk := by
  refine ts_iload 5 (pc' := 2) rfl dX7_allFitting_0 rfl ?_
  refine ts_if_eq (pc' := 5) (tgt := 11) rfl dX7_allFitting_2 (by decide) (fun q1 => ?_) (fun q1 => ?_)
  · replace W := W.1 q1
    refine ts_iconst (v := 1) (pc' := 12) rfl dX7_allFitting_11 (by decide) ?_
    refine ts_goto (tgt := 16) dX7_allFitting_12 (by decide) ?_
    refine ts_istore (pc' := 18) (ls' := [(6, .int 1), (0, .ref o), (1, .int p0), (2, .ref p1), (3, .int p2), (4, .int p3), (5, .int p4)]) rfl dX7_allFitting_16 (Nat.le_of_ble_eq_true rfl) rfl ?_
    refine ts_iload 6 (pc' := 20) rfl dX7_allFitting_18 rfl ?_
    refine ts_if_ne (pc' := 23) (tgt := 27) rfl dX7_allFitting_20 (by decide) (fun q2 => ?_) (fun q2 => ?_)
    · replace W := W.1 q2
      refine ts_iload 6 (pc' := 29) rfl dX7_allFitting_27 rfl ?_
      refine ts_iconst (v := 3) (pc' := 30) rfl dX7_allFitting_29 (by decide) ?_
      refine ts_icmp_ne (pc' := 33) (tgt := 38) rfl dX7_allFitting_30 (by decide) (fun q3 => ?_) (fun q3 => ?_)
      · replace W := W.1 q3
        refine ts_bipush (v := 9) (pc' := 40) rfl dX7_allFitting_38 (by decide) ?_
        refine ts_istore (pc' := 42) (ls' := [(7, .int 9), (6, .int 1), (0, .ref o), (1, .int p0), (2, .ref p1), (3, .int p2), (4, .int p3), (5, .int p4)]) rfl dX7_allFitting_40 (Nat.le_of_ble_eq_true rfl) rfl ?_
        refine ts_iconst (v := 0) (pc' := 43) rfl dX7_allFitting_42 (by decide) ?_
        refine ts_istore (pc' := 45) (ls' := [(8, .int 0), (7, .int 9), (6, .int 1), (0, .ref o), (1, .int p0), (2, .ref p1), (3, .int p2), (4, .int p3), (5, .int p4)]) rfl dX7_allFitting_43 (Nat.le_of_ble_eq_true rfl) rfl ?_
        refine ts_iload 2 (pc' := 47) rfl dX7_allFitting_45 rfl ?_
        refine ts_istore (pc' := 49) (ls' := [(9, .int 1), (8, .int 0), (7, .int 9), (6, .int 1), (0, .ref o), (1, .int p0), (2, .ref p1), (3, .int p2), (4, .int p3), (5, .int p4)]) rfl dX7_allFitting_47 (Nat.le_of_ble_eq_true rfl) rfl ?_
        exact ts_sub [4, 5, 6, 7, 8, 9, 2, 1, 0] rfl W
      · replace W := W.2 q3
        refine ts_bipush (v := 15) (pc' := 35) rfl dX7_allFitting_33 (by decide) ?_
        refine ts_goto (tgt := 40) dX7_allFitting_35 (by decide) ?_
        refine ts_istore (pc' := 42) (ls' := [(7, .int 15), (6, .int 1), (0, .ref o), (1, .int p0), (2, .ref p1), (3, .int p2), (4, .int p3), (5, .int p4)]) rfl dX7_allFitting_40 (Nat.le_of_ble_eq_true rfl) rfl ?_
        refine ts_iconst (v := 0) (pc' := 43) rfl dX7_allFitting_42 (by decide) ?_
        refine ts_istore (pc' := 45) (ls' := [(8, .int 0), (7, .int 15), (6, .int 1), (0, .ref o), (1, .int p0), (2, .ref p1), (3, .int p2), (4, .int p3), (5, .int p4)]) rfl dX7_allFitting_43 (Nat.le_of_ble_eq_true rfl) rfl ?_
        refine ts_iload 2 (pc' := 47) rfl dX7_allFitting_45 rfl ?_
        refine ts_istore (pc' := 49) (ls' := [(9, .int 1), (8, .int 0), (7, .int 15), (6, .int 1), (0, .ref o), (1, .int p0), (2, .ref p1), (3, .int p2), (4, .int p3), (5, .int p4)]) rfl dX7_allFitting_47 (Nat.le_of_ble_eq_true rfl) rfl ?_
        exact ts_sub [4, 5, 6, 7, 8, 9, 2, 1, 0] rfl W
    · replace W := W.2 q2
      refine ts_iconst (v := 5) (pc' := 24) rfl dX7_allFitting_23 (by decide) ?_
      refine ts_goto (tgt := 40) dX7_allFitting_24 (by decide) ?_
      refine ts_istore (pc' := 42) (ls' := [(7, .int 5), (6, .int 1), (0, .ref o), (1, .int p0), (2, .ref p1), (3, .int p2), (4, .int p3), (5, .int p4)]) rfl dX7_allFitting_40 (Nat.le_of_ble_eq_true rfl) rfl ?_
      refine ts_iconst (v := 0) (pc' := 43) rfl dX7_allFitting_42 (by decide) ?_
      refine ts_istore (pc' := 45) (ls' := [(8, .int 0), (7, .int 5), (6, .int 1), (0, .ref o), (1, .int p0), (2, .ref p1), (3, .int p2), (4, .int p3), (5, .int p4)]) rfl dX7_allFitting_43 (Nat.le_of_ble_eq_true rfl) rfl ?_
      refine ts_iload 2 (pc' := 47) rfl dX7_allFitting_45 rfl ?_
      refine ts_istore (pc' := 49) (ls' := [(9, .int 1), (8, .int 0), (7, .int 5), (6, .int 1), (0, .ref o), (1, .int p0), (2, .ref p1), (3, .int p2), (4, .int p3), (5, .int p4)]) rfl dX7_allFitting_47 (Nat.le_of_ble_eq_true rfl) rfl ?_
      exact ts_sub [4, 5, 6, 7, 8, 9, 2, 1, 0] rfl W
  · replace W := W.2 q1
    refine ts_iload 5 (pc' := 7) rfl dX7_allFitting_5 rfl ?_
    refine ts_iconst (v := 2) (pc' := 8) rfl dX7_allFitting_7 (by decide) ?_
    refine ts_icmp_ne (pc' := 11) (tgt := 15) rfl dX7_allFitting_8 (by decide) (fun q4 => ?_) (fun q4 => ?_)
    · replace W := W.1 q4
      refine ts_iconst (v := 0) (pc' := 16) rfl dX7_allFitting_15 (by decide) ?_
      refine ts_istore (pc' := 18) (ls' := [(6, .int 0), (0, .ref o), (1, .int p0), (2, .ref p1), (3, .int p2), (4, .int p3), (5, .int p4)]) rfl dX7_allFitting_16 (Nat.le_of_ble_eq_true rfl) rfl ?_
      refine ts_iload 6 (pc' := 20) rfl dX7_allFitting_18 rfl ?_
      refine ts_if_ne (pc' := 23) (tgt := 27) rfl dX7_allFitting_20 (by decide) (fun q5 => ?_) (fun q5 => ?_)
      · replace W := W.1 q5
        refine ts_iload 6 (pc' := 29) rfl dX7_allFitting_27 rfl ?_
        refine ts_iconst (v := 3) (pc' := 30) rfl dX7_allFitting_29 (by decide) ?_
        refine ts_icmp_ne (pc' := 33) (tgt := 38) rfl dX7_allFitting_30 (by decide) (fun q6 => ?_) (fun q6 => ?_)
        · replace W := W.1 q6
          refine ts_bipush (v := 9) (pc' := 40) rfl dX7_allFitting_38 (by decide) ?_
          refine ts_istore (pc' := 42) (ls' := [(7, .int 9), (6, .int 0), (0, .ref o), (1, .int p0), (2, .ref p1), (3, .int p2), (4, .int p3), (5, .int p4)]) rfl dX7_allFitting_40 (Nat.le_of_ble_eq_true rfl) rfl ?_
          refine ts_iconst (v := 0) (pc' := 43) rfl dX7_allFitting_42 (by decide) ?_
          refine ts_istore (pc' := 45) (ls' := [(8, .int 0), (7, .int 9), (6, .int 0), (0, .ref o), (1, .int p0), (2, .ref p1), (3, .int p2), (4, .int p3), (5, .int p4)]) rfl dX7_allFitting_43 (Nat.le_of_ble_eq_true rfl) rfl ?_
          refine ts_iload 2 (pc' := 47) rfl dX7_allFitting_45 rfl ?_
          refine ts_istore (pc' := 49) (ls' := [(9, .int 0), (8, .int 0), (7, .int 9), (6, .int 0), (0, .ref o), (1, .int p0), (2, .ref p1), (3, .int p2), (4, .int p3), (5, .int p4)]) rfl dX7_allFitting_47 (Nat.le_of_ble_eq_true rfl) rfl ?_
          exact ts_sub [4, 5, 6, 7, 8, 9, 2, 1, 0] rfl W
        · replace W := W.2 q6
          refine ts_bipush (v := 15) (pc' := 35) rfl dX7_allFitting_33 (by decide) ?_
          refine ts_goto (tgt := 40) dX7_allFitting_35 (by decide) ?_
          refine ts_istore (pc' := 42) (ls' := [(7, .int 15), (6, .int 0), (0, .ref o), (1, .int p0), (2, .ref p1), (3, .int p2), (4, .int p3), (5, .int p4)]) rfl dX7_allFitting_40 (Nat.le_of_ble_eq_true rfl) rfl ?_
          refine ts_iconst (v := 0) (pc' := 43) rfl dX7_allFitting_42 (by decide) ?_
          refine ts_istore (pc' := 45) (ls' := [(8, .int 0), (7, .int 15), (6, .int 0), (0, .ref o), (1, .int p0), (2, .ref p1), (3, .int p2), (4, .int p3), (5, .int p4)]) rfl dX7_allFitting_43 (Nat.le_of_ble_eq_true rfl) rfl ?_
          refine ts_iload 2 (pc' := 47) rfl dX7_allFitting_45 rfl ?_
          refine ts_istore (pc' := 49) (ls' := [(9, .int 0), (8, .int 0), (7, .int 15), (6, .int 0), (0, .ref o), (1, .int p0), (2, .ref p1), (3, .int p2), (4, .int p3), (5, .int p4)]) rfl dX7_allFitting_47 (Nat.le_of_ble_eq_true rfl) rfl ?_
          exact ts_sub [4, 5, 6, 7, 8, 9, 2, 1, 0] rfl W
      · replace W := W.2 q5
        refine ts_iconst (v := 5) (pc' := 24) rfl dX7_allFitting_23 (by decide) ?_
        refine ts_goto (tgt := 40) dX7_allFitting_24 (by decide) ?_
        refine ts_istore (pc' := 42) (ls' := [(7, .int 5), (6, .int 0), (0, .ref o), (1, .int p0), (2, .ref p1), (3, .int p2), (4, .int p3), (5, .int p4)]) rfl dX7_allFitting_40 (Nat.le_of_ble_eq_true rfl) rfl ?_
        refine ts_iconst (v := 0) (pc' := 43) rfl dX7_allFitting_42 (by decide) ?_
        refine ts_istore (pc' := 45) (ls' := [(8, .int 0), (7, .int 5), (6, .int 0), (0, .ref o), (1, .int p0), (2, .ref p1), (3, .int p2), (4, .int p3), (5, .int p4)]) rfl dX7_allFitting_43 (Nat.le_of_ble_eq_true rfl) rfl ?_
        refine ts_iload 2 (pc' := 47) rfl dX7_allFitting_45 rfl ?_
        refine ts_istore (pc' := 49) (ls' := [(9, .int 0), (8, .int 0), (7, .int 5), (6, .int 0), (0, .ref o), (1, .int p0), (2, .ref p1), (3, .int p2), (4, .int p3), (5, .int p4)]) rfl dX7_allFitting_47 (Nat.le_of_ble_eq_true rfl) rfl ?_
        exact ts_sub [4, 5, 6, 7, 8, 9, 2, 1, 0] rfl W
    · replace W := W.2 q4
      refine ts_iconst (v := 1) (pc' := 12) rfl dX7_allFitting_11 (by decide) ?_
      refine ts_goto (tgt := 16) dX7_allFitting_12 (by decide) ?_
      refine ts_istore (pc' := 18) (ls' := [(6, .int 1), (0, .ref o), (1, .int p0), (2, .ref p1), (3, .int p2), (4, .int p3), (5, .int p4)]) rfl dX7_allFitting_16 (Nat.le_of_ble_eq_true rfl) rfl ?_
      refine ts_iload 6 (pc' := 20) rfl dX7_allFitting_18 rfl ?_
      refine ts_if_ne (pc' := 23) (tgt := 27) rfl dX7_allFitting_20 (by decide) (fun q7 => ?_) (fun q7 => ?_)
      · replace W := W.1 q7
        refine ts_iload 6 (pc' := 29) rfl dX7_allFitting_27 rfl ?_
        refine ts_iconst (v := 3) (pc' := 30) rfl dX7_allFitting_29 (by decide) ?_
        refine ts_icmp_ne (pc' := 33) (tgt := 38) rfl dX7_allFitting_30 (by decide) (fun q8 => ?_) (fun q8 => ?_)
        · replace W := W.1 q8
          refine ts_bipush (v := 9) (pc' := 40) rfl dX7_allFitting_38 (by decide) ?_
          refine ts_istore (pc' := 42) (ls' := [(7, .int 9), (6, .int 1), (0, .ref o), (1, .int p0), (2, .ref p1), (3, .int p2), (4, .int p3), (5, .int p4)]) rfl dX7_allFitting_40 (Nat.le_of_ble_eq_true rfl) rfl ?_
          refine ts_iconst (v := 0) (pc' := 43) rfl dX7_allFitting_42 (by decide) ?_
          refine ts_istore (pc' := 45) (ls' := [(8, .int 0), (7, .int 9), (6, .int 1), (0, .ref o), (1, .int p0), (2, .ref p1), (3, .int p2), (4, .int p3), (5, .int p4)]) rfl dX7_allFitting_43 (Nat.le_of_ble_eq_true rfl) rfl ?_
          refine ts_iload 2 (pc' := 47) rfl dX7_allFitting_45 rfl ?_
          refine ts_istore (pc' := 49) (ls' := [(9, .int 1), (8, .int 0), (7, .int 9), (6, .int 1), (0, .ref o), (1, .int p0), (2, .ref p1), (3, .int p2), (4, .int p3), (5, .int p4)]) rfl dX7_allFitting_47 (Nat.le_of_ble_eq_true rfl) rfl ?_
          exact ts_sub [4, 5, 6, 7, 8, 9, 2, 1, 0] rfl W
        · replace W := W.2 q8
          refine ts_bipush (v := 15) (pc' := 35) rfl dX7_allFitting_33 (by decide) ?_
          refine ts_goto (tgt := 40) dX7_allFitting_35 (by decide) ?_
          refine ts_istore (pc' := 42) (ls' := [(7, .int 15), (6, .int 1), (0, .ref o), (1, .int p0), (2, .ref p1), (3, .int p2), (4, .int p3), (5, .int p4)]) rfl dX7_allFitting_40 (Nat.le_of_ble_eq_true rfl) rfl ?_
          refine ts_iconst (v := 0) (pc' := 43) rfl dX7_allFitting_42 (by decide) ?_
          refine ts_istore (pc' := 45) (ls' := [(8, .int 0), (7, .int 15), (6, .int 1), (0, .ref o), (1, .int p0), (2, .ref p1), (3, .int p2), (4, .int p3), (5, .int p4)]) rfl dX7_allFitting_43 (Nat.le_of_ble_eq_true rfl) rfl ?_
          refine ts_iload 2 (pc' := 47) rfl dX7_allFitting_45 rfl ?_
          refine ts_istore (pc' := 49) (ls' := [(9, .int 1), (8, .int 0), (7, .int 15), (6, .int 1), (0, .ref o), (1, .int p0), (2, .ref p1), (3, .int p2), (4, .int p3), (5, .int p4)]) rfl dX7_allFitting_47 (Nat.le_of_ble_eq_true rfl) rfl ?_
          exact ts_sub [4, 5, 6, 7, 8, 9, 2, 1, 0] rfl W
      · replace W := W.2 q7
        refine ts_iconst (v := 5) (pc' := 24) rfl dX7_allFitting_23 (by decide) ?_
        refine ts_goto (tgt := 40) dX7_allFitting_24 (by decide) ?_
        refine ts_istore (pc' := 42) (ls' := [(7, .int 5), (6, .int 1), (0, .ref o), (1, .int p0), (2, .ref p1), (3, .int p2), (4, .int p3), (5, .int p4)]) rfl dX7_allFitting_40 (Nat.le_of_ble_eq_true rfl) rfl ?_
        refine ts_iconst (v := 0) (pc' := 43) rfl dX7_allFitting_42 (by decide) ?_
        refine ts_istore (pc' := 45) (ls' := [(8, .int 0), (7, .int 5), (6, .int 1), (0, .ref o), (1, .int p0), (2, .ref p1), (3, .int p2), (4, .int p3), (5, .int p4)]) rfl dX7_allFitting_43 (Nat.le_of_ble_eq_true rfl) rfl ?_
        refine ts_iload 2 (pc' := 47) rfl dX7_allFitting_45 rfl ?_
        refine ts_istore (pc' := 49) (ls' := [(9, .int 1), (8, .int 0), (7, .int 5), (6, .int 1), (0, .ref o), (1, .int p0), (2, .ref p1), (3, .int p2), (4, .int p3), (5, .int p4)]) rfl dX7_allFitting_47 (Nat.le_of_ble_eq_true rfl) rfl ?_
        exact ts_sub [4, 5, 6, 7, 8, 9, 2, 1, 0] rfl W
set_option maxHeartbeats 4000000 in
theorem wX7_allFitting_49 {d : Nat} {g : ts_G} {Q : Int32 → ts_I → ts_K → Prop} {l0 : Nat} {l1 : Int32} {l2 : Nat} {l3 : Int32} {l4 : Int32} {l5 : Int32} {l7 : Int32} {l8 : Int32} {l9 : Int32} {hi : ts_I} {hk : ts_K} (W : ((l7 < l9) → Q l8 hi hk) ∧ (¬ (l7 < l9) → (g.2.1 l0 = 6) ∧ (g.2.2.2 l0 3 ≠ 0) ∧ (g.2.2.2 l0 0 ≠ 0) ∧ (g.2.1 (g.2.2.2 l0 3) = 1) ∧ ts_E0 d mX1_become [.ref (g.2.2.2 l0 3), .ref (g.2.2.2 l0 0)] g hi hk (ts_qv (fun hi5 hk6 => ts_E0 d mX7_suppose [.ref l0, .int l1, .int l5, .int l9] g hi5 hk6 (ts_qv (fun hi8 hk9 => ts_E0 d mX7_isTold [.ref l0, .int l1, .ref l2, .int l3, .int l4] g hi8 hk9 (ts_qi (fun v12 hi10 hk11 => ((v12 = 0) → ts_J0 (d + 1) mX7_allFitting (ts_qi Q) g 49 [(0, .ref l0), (1, .int l1), (2, .ref l2), (3, .int l3), (4, .int l4), (5, .int l5), (7, .int l7), (8, .int l8), (9, .int (l9 + 1))] [] hi10 hk11) ∧ (¬ (v12 = 0) → ts_J0 (d + 1) mX7_allFitting (ts_qi Q) g 49 [(0, .ref l0), (1, .int l1), (2, .ref l2), (3, .int l3), (4, .int l4), (5, .int l5), (7, .int l7), (8, .int (l8 ||| (1 <<< (l9 &&& 31)))), (9, .int (l9 + 1))] [] hi10 hk11))))))))) : ts_J0 (d + 1) mX7_allFitting (ts_qi Q) g 49 [(0, .ref l0), (1, .int l1), (2, .ref l2), (3, .int l3), (4, .int l4), (5, .int l5), (7, .int l7), (8, .int l8), (9, .int l9)] [] hi hk := by
  refine ts_iload 8 (pc' := 51) rfl dX7_allFitting_49 rfl ?_
  refine ts_iload 6 (pc' := 53) rfl dX7_allFitting_51 rfl ?_
  refine ts_icmp_gt (pc' := 56) (tgt := 103) rfl dX7_allFitting_53 (by decide) (fun q1 => ?_) (fun q1 => ?_)
  · replace W := W.1 q1
    refine ts_iload 7 (pc' := 105) rfl dX7_allFitting_103 rfl ?_
    exact ts_iret dX7_allFitting_105 rfl (Nat.le_refl _) (Nat.le_refl _) ⟨rfl, _, rfl, W⟩
  · replace W := W.2 q1
    refine ts_aload_n 0 (pc' := 57) rfl dX7_allFitting_56 rfl rfl ?_
    obtain ⟨c2, W⟩ := W
    obtain ⟨c3, W⟩ := W
    refine ts_getR (pc' := 60) (ci := 6) 3 cfX7.1 cfX7.2.1 cfX7.2.2 rfl (by decide) hnX7_allFitting_X7 flX7_allFitting_35 rfl dX7_allFitting_57 c2 c3 ?_
    refine ts_aload_n 0 (pc' := 61) rfl dX7_allFitting_60 rfl rfl ?_
    obtain ⟨c4, W⟩ := W
    refine ts_getR (pc' := 64) (ci := 6) 0 cfX7.1 cfX7.2.1 cfX7.2.2 rfl (by decide) hnX7_allFitting_X7 flX7_allFitting_24 rfl dX7_allFitting_61 c2 c4 ?_
    obtain ⟨c7, W⟩ := W
    refine ts_callV (M' := mX1_become) (C := RX1) (pc' := 67) (av := [.ref (g.2.2.2 l0 0)]) (b := (g.2.2.2 l0 3)) rfl dX7_allFitting_64 rfl gX7_allFitting_X1_become rfl dvX1_become rfl (ci := 1) cfX1.1 (by decide) c7 (Nat.le_refl _) (Nat.le_of_ble_eq_true rfl) (Nat.le_of_ble_eq_true rfl) (Nat.le_refl _) (Nat.le_refl _) ts_kv0 W (ts_kkv fun hi5 hk6 W => ?_)
    refine ts_aload_n 0 (pc' := 68) rfl dX7_allFitting_67 rfl rfl ?_
    refine ts_iload_n 1 (pc' := 69) rfl dX7_allFitting_68 rfl rfl ?_
    refine ts_iload 5 (pc' := 71) rfl dX7_allFitting_69 rfl ?_
    refine ts_iload 8 (pc' := 73) rfl dX7_allFitting_71 rfl ?_
    refine ts_callV (M' := mX7_suppose) (C := RX7) (pc' := 76) (av := [.int l1, .int l5, .int l9]) (b := l0) rfl dX7_allFitting_73 rfl gX7_allFitting_X7_suppose rfl dvX7_suppose rfl (ci := 6) cfX7.1 (by decide) c2 (Nat.le_refl _) (Nat.le_of_ble_eq_true rfl) (Nat.le_of_ble_eq_true rfl) (Nat.le_refl _) (Nat.le_refl _) ts_kv0 W (ts_kkv fun hi8 hk9 W => ?_)
    refine ts_aload_n 0 (pc' := 77) rfl dX7_allFitting_76 rfl rfl ?_
    refine ts_iload_n 1 (pc' := 78) rfl dX7_allFitting_77 rfl rfl ?_
    refine ts_aload_n 2 (pc' := 79) rfl dX7_allFitting_78 rfl rfl ?_
    refine ts_iload_n 3 (pc' := 80) rfl dX7_allFitting_79 rfl rfl ?_
    refine ts_iload 4 (pc' := 82) rfl dX7_allFitting_80 rfl ?_
    refine ts_callV (M' := mX7_isTold) (C := RX7) (pc' := 85) (av := [.int l1, .ref l2, .int l3, .int l4]) (b := l0) rfl dX7_allFitting_82 rfl gX7_allFitting_X7_isTold rfl dvX7_isTold rfl (ci := 6) cfX7.1 (by decide) c2 (Nat.le_refl _) (Nat.le_of_ble_eq_true rfl) (Nat.le_of_ble_eq_true rfl) (Nat.le_refl _) (Nat.le_refl _) ts_kv0 W (ts_kki fun v12 hi10 hk11 W => ?_)
    refine ts_if_eq (pc' := 88) (tgt := 97) rfl dX7_allFitting_85 (by decide) (fun q13 => ?_) (fun q13 => ?_)
    · replace W := W.1 q13
      refine ts_iinc 8 (pc' := 100) (ls' := [(9, .int (l9 + 1)), (0, .ref l0), (1, .int l1), (2, .ref l2), (3, .int l3), (4, .int l4), (5, .int l5), (7, .int l7), (8, .int l8)]) rfl dX7_allFitting_97 rfl rfl (Nat.le_of_ble_eq_true rfl) rfl ?_
      refine ts_goto (tgt := 49) dX7_allFitting_100 (by decide) ?_
      exact ts_sub [1, 2, 3, 4, 5, 6, 7, 8, 0] rfl W
    · replace W := W.2 q13
      refine ts_iload 7 (pc' := 90) rfl dX7_allFitting_88 rfl ?_
      refine ts_iconst (v := 1) (pc' := 91) rfl dX7_allFitting_90 (by decide) ?_
      refine ts_iload 8 (pc' := 93) rfl dX7_allFitting_91 rfl ?_
      refine ts_ishl (pc' := 94) rfl dX7_allFitting_93 ?_
      refine ts_ior (pc' := 95) rfl dX7_allFitting_94 ?_
      refine ts_istore (pc' := 97) (ls' := [(8, .int (l8 ||| (1 <<< (l9 &&& 31)))), (0, .ref l0), (1, .int l1), (2, .ref l2), (3, .int l3), (4, .int l4), (5, .int l5), (7, .int l7), (9, .int l9)]) rfl dX7_allFitting_95 (Nat.le_of_ble_eq_true rfl) rfl ?_
      refine ts_iinc 8 (pc' := 100) (ls' := [(9, .int (l9 + 1)), (8, .int (l8 ||| (1 <<< (l9 &&& 31)))), (0, .ref l0), (1, .int l1), (2, .ref l2), (3, .int l3), (4, .int l4), (5, .int l5), (7, .int l7)]) rfl dX7_allFitting_97 rfl rfl (Nat.le_of_ble_eq_true rfl) rfl ?_
      refine ts_goto (tgt := 49) dX7_allFitting_100 (by decide) ?_
      exact ts_sub [2, 3, 4, 5, 6, 7, 8, 1, 0] rfl W
theorem hnX7_suppose_X1 : ∀ w ∈ u_ws RX1 TX1 13, w ∈ wsX7_suppose := by decide +kernel
theorem hnX7_suppose_X7 : ∀ w ∈ u_ws RX7 TX7 8, w ∈ wsX7_suppose := by decide +kernel
theorem flX7_suppose_28 : Cond.fieldLink RX7 28 "TurnipSquires$Seer" "kinds" "[LTurnipSquires$Kind;" ∈ wsX7_suppose := by decide +kernel
theorem flX7_suppose_35 : Cond.fieldLink RX7 35 "TurnipSquires$Seer" "trial" "LTurnipSquires$Field;" ∈ wsX7_suppose := by decide +kernel
theorem flX7_suppose_102 : Cond.fieldLink RX7 102 "TurnipSquires$Field" "kind" "[LTurnipSquires$Kind;" ∈ wsX7_suppose := by decide +kernel
theorem flX7_suppose_105 : Cond.fieldLink RX7 105 "TurnipSquires$Field" "grown" "[I" ∈ wsX7_suppose := by decide +kernel
theorem flX7_suppose_108 : Cond.fieldLink RX7 108 "TurnipSquires$Field" "ground" "I" ∈ wsX7_suppose := by decide +kernel
theorem flX7_suppose_111 : Cond.fieldLink RX7 111 "TurnipSquires$Field" "frost" "I" ∈ wsX7_suppose := by decide +kernel
set_option maxHeartbeats 4000000 in
theorem wX7_suppose_0 {d : Nat} {g : ts_G} {Q : ts_I → ts_K → Prop} {o : Nat} {p0 : Int32} {p1 : Int32} {p2 : Int32} {hi : ts_I} {hk : ts_K} (W : (p1 = 0 → ((p2 < 0) → Q hi hk) ∧ (¬ (p2 < 0) → (g.2.1 o = 6) ∧ (g.2.2.2 o 1 ≠ 0) ∧ (g.2.1 (g.2.2.2 o 1) = 103) ∧ (((Int32.ofNat (g.2.2.1 (g.2.2.2 o 1))) ≤ p2) → Q hi hk) ∧ (¬ ((Int32.ofNat (g.2.2.1 (g.2.2.2 o 1))) ≤ p2) → (g.2.2.2 o 3 ≠ 0) ∧ (g.2.1 (g.2.2.2 o 3) = 1) ∧ (g.2.2.2 (g.2.2.2 o 3) 0 ≠ 0) ∧ (vp_in p2 (g.2.2.1 (g.2.2.2 o 1))) ∧ (hk (g.2.2.2 o 1) p2.toNatClampNeg ≠ 0) ∧ (g.2.1 (g.2.2.2 (g.2.2.2 o 3) 0) = 103) ∧ (vp_in p0 (g.2.2.1 (g.2.2.2 (g.2.2.2 o 3) 0))) ∧ (g.2.1 (hk (g.2.2.2 o 1) p2.toNatClampNeg) = 0 ∨ g.2.1 (hk (g.2.2.2 o 1) p2.toNatClampNeg) = 2 ∨ g.2.1 (hk (g.2.2.2 o 1) p2.toNatClampNeg) = 3 ∨ g.2.1 (hk (g.2.2.2 o 1) p2.toNatClampNeg) = 4 ∨ g.2.1 (hk (g.2.2.2 o 1) p2.toNatClampNeg) = 7) ∧ ∀ hk15 : ts_K, hk15 = ts_uk hk (g.2.2.2 (g.2.2.2 o 3) 0) p0.toNatClampNeg (hk (g.2.2.2 o 1) p2.toNatClampNeg) → Q hi hk15))) ∧ (p1 = 1 → (g.2.1 o = 6) ∧ (g.2.2.2 o 3 ≠ 0) ∧ (g.2.1 (g.2.2.2 o 3) = 1) ∧ (g.2.2.2 (g.2.2.2 o 3) 2 ≠ 0) ∧ (g.2.1 (g.2.2.2 (g.2.2.2 o 3) 2) = 100) ∧ (vp_in p0 (g.2.2.1 (g.2.2.2 (g.2.2.2 o 3) 2))) ∧ ∀ hi23 : ts_I, hi23 = ts_up hi (g.2.2.2 (g.2.2.2 o 3) 2) p0.toNatClampNeg p2 → Q hi23 hk) ∧ (p1 = 2 → (g.2.1 o = 6) ∧ (g.2.2.2 o 3 ≠ 0) ∧ (g.2.1 (g.2.2.2 o 3) = 1) ∧ ∀ hi28 : ts_I, hi28 = ts_up hi (g.2.2.2 o 3) 11 p2 → Q hi28 hk) ∧ (¬ p1 = 0 → ¬ p1 = 1 → ¬ p1 = 2 → (g.2.1 o = 6) ∧ (g.2.2.2 o 3 ≠ 0) ∧ (g.2.1 (g.2.2.2 o 3) = 1) ∧ ∀ hi33 : ts_I, hi33 = ts_up hi (g.2.2.2 o 3) 12 p2 → Q hi33 hk)) : ts_J0 d mX7_suppose (ts_qv Q) g 0 [(0, .ref o), (1, .int p0), (2, .int p1), (3, .int p2)] [] hi hk := by
  refine ts_iload_n 2 (pc' := 1) rfl dX7_suppose_0 rfl rfl ?_
  by_cases q1 : p1 = 0
  · replace W := W.1 q1
    refine ts_tableI (i := 0) (off := 27) (tgt := 28) dX7_suppose_1 (by rw [q1]; rfl) (by decide) (by decide) rfl (by decide) ?_
    refine ts_iload_n 3 (pc' := 29) rfl dX7_suppose_28 rfl rfl ?_
    refine ts_if_lt (pc' := 32) (tgt := 91) rfl dX7_suppose_29 (by decide) (fun q2 => ?_) (fun q2 => ?_)
    · replace W := W.1 q2
      exact ts_vret dX7_suppose_91 rfl (Nat.le_refl _) (Nat.le_refl _) ⟨rfl, rfl, W⟩
    · replace W := W.2 q2
      refine ts_iload_n 3 (pc' := 33) rfl dX7_suppose_32 rfl rfl ?_
      refine ts_aload_n 0 (pc' := 34) rfl dX7_suppose_33 rfl rfl ?_
      obtain ⟨c3, W⟩ := W
      obtain ⟨c4, W⟩ := W
      refine ts_getR (pc' := 37) (ci := 6) 1 cfX7.1 cfX7.2.1 cfX7.2.2 rfl (by decide) hnX7_suppose_X7 flX7_suppose_28 rfl dX7_suppose_34 c3 c4 ?_
      obtain ⟨c5, W⟩ := W
      refine ts_alen (pc' := 38) rfl dX7_suppose_37 (Or.inr c5) rfl ?_
      refine ts_icmp_ge (pc' := 41) (tgt := 91) rfl dX7_suppose_38 (by decide) (fun q6 => ?_) (fun q6 => ?_)
      · replace W := W.1 q6
        exact ts_vret dX7_suppose_91 rfl (Nat.le_refl _) (Nat.le_refl _) ⟨rfl, rfl, W⟩
      · replace W := W.2 q6
        refine ts_aload_n 0 (pc' := 42) rfl dX7_suppose_41 rfl rfl ?_
        obtain ⟨c7, W⟩ := W
        refine ts_getR (pc' := 45) (ci := 6) 3 cfX7.1 cfX7.2.1 cfX7.2.2 rfl (by decide) hnX7_suppose_X7 flX7_suppose_35 rfl dX7_suppose_42 c3 c7 ?_
        obtain ⟨c8, W⟩ := W
        obtain ⟨c9, W⟩ := W
        refine ts_getR (pc' := 48) (ci := 1) 0 cfX1.1 cfX1.2.1 cfX1.2.2 rfl (by decide) hnX7_suppose_X1 flX7_suppose_102 rfl dX7_suppose_45 c8 c9 ?_
        refine ts_iload_n 1 (pc' := 49) rfl dX7_suppose_48 rfl rfl ?_
        refine ts_aload_n 0 (pc' := 50) rfl dX7_suppose_49 rfl rfl ?_
        refine ts_getR (pc' := 53) (ci := 6) 1 cfX7.1 cfX7.2.1 cfX7.2.2 rfl (by decide) hnX7_suppose_X7 flX7_suppose_28 rfl dX7_suppose_50 c3 c4 ?_
        refine ts_iload_n 3 (pc' := 54) rfl dX7_suppose_53 rfl rfl ?_
        obtain ⟨c10, W⟩ := W
        obtain ⟨c11, W⟩ := W
        refine ts_aaloadK (pc' := 55) rfl dX7_suppose_54 c5 c10 c11 ?_
        obtain ⟨c12, W⟩ := W
        obtain ⟨c13, W⟩ := W
        obtain ⟨c14, W⟩ := W
        refine ts_astoreKind (pc' := 56) rfl dX7_suppose_55 c12 c13 c14 ?_
        obtain ⟨hk15, ehk15⟩ : ∃ z, z = ts_uk hk (g.2.2.2 (g.2.2.2 o 3) 0) p0.toNatClampNeg (hk (g.2.2.2 o 1) p2.toNatClampNeg) := ⟨_, rfl⟩
        rw [← ehk15]; replace W := W hk15 ehk15
        refine ts_goto (tgt := 91) dX7_suppose_56 (by decide) ?_
        exact ts_vret dX7_suppose_91 rfl (Nat.le_refl _) (Nat.le_refl _) ⟨rfl, rfl, W⟩
  replace W := W.2
  by_cases q16 : p1 = 1
  · replace W := W.1 q16
    refine ts_tableI (i := 1) (off := 58) (tgt := 59) dX7_suppose_1 (by rw [q16]; rfl) (by decide) (by decide) rfl (by decide) ?_
    refine ts_aload_n 0 (pc' := 60) rfl dX7_suppose_59 rfl rfl ?_
    obtain ⟨c17, W⟩ := W
    obtain ⟨c18, W⟩ := W
    refine ts_getR (pc' := 63) (ci := 6) 3 cfX7.1 cfX7.2.1 cfX7.2.2 rfl (by decide) hnX7_suppose_X7 flX7_suppose_35 rfl dX7_suppose_60 c17 c18 ?_
    obtain ⟨c19, W⟩ := W
    obtain ⟨c20, W⟩ := W
    refine ts_getR (pc' := 66) (ci := 1) 2 cfX1.1 cfX1.2.1 cfX1.2.2 rfl (by decide) hnX7_suppose_X1 flX7_suppose_105 rfl dX7_suppose_63 c19 c20 ?_
    refine ts_iload_n 1 (pc' := 67) rfl dX7_suppose_66 rfl rfl ?_
    refine ts_iload_n 3 (pc' := 68) rfl dX7_suppose_67 rfl rfl ?_
    obtain ⟨c21, W⟩ := W
    obtain ⟨c22, W⟩ := W
    refine ts_iastore (pc' := 69) rfl dX7_suppose_68 c21 c22 ?_
    obtain ⟨hi23, ehi23⟩ : ∃ z, z = ts_up hi (g.2.2.2 (g.2.2.2 o 3) 2) p0.toNatClampNeg p2 := ⟨_, rfl⟩
    rw [← ehi23]; replace W := W hi23 ehi23
    refine ts_goto (tgt := 91) dX7_suppose_69 (by decide) ?_
    exact ts_vret dX7_suppose_91 rfl (Nat.le_refl _) (Nat.le_refl _) ⟨rfl, rfl, W⟩
  replace W := W.2
  by_cases q24 : p1 = 2
  · replace W := W.1 q24
    refine ts_tableI (i := 2) (off := 71) (tgt := 72) dX7_suppose_1 (by rw [q24]; rfl) (by decide) (by decide) rfl (by decide) ?_
    refine ts_aload_n 0 (pc' := 73) rfl dX7_suppose_72 rfl rfl ?_
    obtain ⟨c25, W⟩ := W
    obtain ⟨c26, W⟩ := W
    refine ts_getR (pc' := 76) (ci := 6) 3 cfX7.1 cfX7.2.1 cfX7.2.2 rfl (by decide) hnX7_suppose_X7 flX7_suppose_35 rfl dX7_suppose_73 c25 c26 ?_
    refine ts_iload_n 3 (pc' := 77) rfl dX7_suppose_76 rfl rfl ?_
    obtain ⟨c27, W⟩ := W
    refine ts_putI (pc' := 80) (ci := 1) 11 cfX1.1 cfX1.2.1 cfX1.2.2 rfl (by decide) hnX7_suppose_X1 flX7_suppose_108 tyX1_ok nmX1 rfl rfl rfl dX7_suppose_77 c27 ?_
    obtain ⟨hi28, ehi28⟩ : ∃ z, z = ts_up hi (g.2.2.2 o 3) 11 p2 := ⟨_, rfl⟩
    rw [← ehi28]; replace W := W hi28 ehi28
    refine ts_goto (tgt := 91) dX7_suppose_80 (by decide) ?_
    exact ts_vret dX7_suppose_91 rfl (Nat.le_refl _) (Nat.le_refl _) ⟨rfl, rfl, W⟩
  replace W := W.2
  replace W := W q1 q16 q24
  have hs29 : ∀ i, i < 3 → ¬ p1 = Int32.ofNat (0 + i) := by
    intro i hi0
    have h0 : i = 0 ∨ i = 1 ∨ i = 2 := by omega
    rcases h0 with rfl | rfl | rfl
    · exact q1
    · exact q16
    · exact q24
  refine ts_tableO (tgt := 83) dX7_suppose_1 (ts_swout (l := 0) (n := 3) rfl (by decide) (by decide) hs29) (by decide) ?_
  refine ts_aload_n 0 (pc' := 84) rfl dX7_suppose_83 rfl rfl ?_
  obtain ⟨c30, W⟩ := W
  obtain ⟨c31, W⟩ := W
  refine ts_getR (pc' := 87) (ci := 6) 3 cfX7.1 cfX7.2.1 cfX7.2.2 rfl (by decide) hnX7_suppose_X7 flX7_suppose_35 rfl dX7_suppose_84 c30 c31 ?_
  refine ts_iload_n 3 (pc' := 88) rfl dX7_suppose_87 rfl rfl ?_
  obtain ⟨c32, W⟩ := W
  refine ts_putI (pc' := 91) (ci := 1) 12 cfX1.1 cfX1.2.1 cfX1.2.2 rfl (by decide) hnX7_suppose_X1 flX7_suppose_111 tyX1_ok nmX1 rfl rfl rfl dX7_suppose_88 c32 ?_
  obtain ⟨hi33, ehi33⟩ : ∃ z, z = ts_up hi (g.2.2.2 o 3) 12 p2 := ⟨_, rfl⟩
  rw [← ehi33]; replace W := W hi33 ehi33
  exact ts_vret dX7_suppose_91 rfl (Nat.le_refl _) (Nat.le_refl _) ⟨rfl, rfl, W⟩
theorem hnX7_isTold_X1 : ∀ w ∈ u_ws RX1 TX1 13, w ∈ wsX7_isTold := by decide +kernel
theorem hnX7_isTold_X6 : ∀ w ∈ u_ws RX6 TX6 4, w ∈ wsX7_isTold := by decide +kernel
theorem hnX7_isTold_X7 : ∀ w ∈ u_ws RX7 TX7 8, w ∈ wsX7_isTold := by decide +kernel
theorem flX7_isTold_35 : Cond.fieldLink RX7 35 "TurnipSquires$Seer" "trial" "LTurnipSquires$Field;" ∈ wsX7_isTold := by decide +kernel
theorem flX7_isTold_50 : Cond.fieldLink RX7 50 "TurnipSquires$Field" "rank" "[I" ∈ wsX7_isTold := by decide +kernel
theorem flX7_isTold_114 : Cond.fieldLink RX7 114 "TurnipSquires$Row" "items" "[I" ∈ wsX7_isTold := by decide +kernel
set_option maxHeartbeats 4000000 in
theorem wX7_isTold_0 {d : Nat} {g : ts_G} {Q : Int32 → ts_I → ts_K → Prop} {o : Nat} {p0 : Int32} {p1 : Nat} {p2 : Int32} {p3 : Int32} {hi : ts_I} {hk : ts_K} (W : ts_J0 (d + 1) mX7_isTold (ts_qi Q) g 3 [(0, .ref o), (1, .int p0), (2, .ref p1), (3, .int p2), (4, .int p3), (5, .int p2)] [] hi hk) : ts_J0 (d + 1) mX7_isTold (ts_qi Q) g 0 [(0, .ref o), (1, .int p0), (2, .ref p1), (3, .int p2), (4, .int p3)] [] hi hk := by
  refine ts_iload_n 3 (pc' := 1) rfl dX7_isTold_0 rfl rfl ?_
  refine ts_istore (pc' := 3) (ls' := [(5, .int p2), (0, .ref o), (1, .int p0), (2, .ref p1), (3, .int p2), (4, .int p3)]) rfl dX7_isTold_1 (Nat.le_of_ble_eq_true rfl) rfl ?_
  exact ts_sub [1, 2, 3, 4, 5, 0] rfl W
set_option maxHeartbeats 4000000 in
theorem wX7_isTold_3 {d : Nat} {g : ts_G} {Q : Int32 → ts_I → ts_K → Prop} {l0 : Nat} {l1 : Int32} {l2 : Nat} {l3 : Int32} {l4 : Int32} {l5 : Int32} {hi : ts_I} {hk : ts_K} (W : (((l3 + l4) ≤ l5) → Q 1 hi hk) ∧ (¬ ((l3 + l4) ≤ l5) → ((40 ≤ l5) → Q 1 hi hk) ∧ (¬ (40 ≤ l5) → (g.2.1 l0 = 6) ∧ (g.2.2.2 l0 3 ≠ 0) ∧ (g.2.1 (g.2.2.2 l0 3) = 1) ∧ ts_E0 d mX1_hasFrost [.ref (g.2.2.2 l0 3)] g hi hk (ts_qi (fun v7 hi5 hk6 => ts_E0 d mX1_pass [.ref (g.2.2.2 l0 3), .int v7] g hi5 hk6 (ts_qv (fun hi9 hk10 => (g.2.2.2 (g.2.2.2 l0 3) 1 ≠ 0) ∧ (g.2.1 (g.2.2.2 (g.2.2.2 l0 3) 1) = 100) ∧ (vp_in l1 (g.2.2.1 (g.2.2.2 (g.2.2.2 l0 3) 1))) ∧ (g.2.1 l2 = 5) ∧ (g.2.2.2 l2 0 ≠ 0) ∧ (g.2.1 (g.2.2.2 l2 0) = 100) ∧ (vp_in l5 (g.2.2.1 (g.2.2.2 l2 0))) ∧ (((hi9 (g.2.2.2 (g.2.2.2 l0 3) 1) l1.toNatClampNeg) = (hi9 (g.2.2.2 l2 0) l5.toNatClampNeg)) → ts_J0 (d + 1) mX7_isTold (ts_qi Q) g 3 [(0, .ref l0), (1, .int l1), (2, .ref l2), (3, .int l3), (4, .int l4), (5, .int (l5 + 1))] [] hi9 hk10) ∧ (¬ ((hi9 (g.2.2.2 (g.2.2.2 l0 3) 1) l1.toNatClampNeg) = (hi9 (g.2.2.2 l2 0) l5.toNatClampNeg)) → Q 0 hi9 hk10)))))))) : ts_J0 (d + 1) mX7_isTold (ts_qi Q) g 3 [(0, .ref l0), (1, .int l1), (2, .ref l2), (3, .int l3), (4, .int l4), (5, .int l5)] [] hi hk := by
  refine ts_iload 5 (pc' := 5) rfl dX7_isTold_3 rfl ?_
  refine ts_iload_n 3 (pc' := 6) rfl dX7_isTold_5 rfl rfl ?_
  refine ts_iload 4 (pc' := 8) rfl dX7_isTold_6 rfl ?_
  refine ts_iadd (pc' := 9) rfl dX7_isTold_8 ?_
  refine ts_icmp_ge (pc' := 12) (tgt := 60) rfl dX7_isTold_9 (by decide) (fun q1 => ?_) (fun q1 => ?_)
  · replace W := W.1 q1
    refine ts_iconst (v := 1) (pc' := 61) rfl dX7_isTold_60 (by decide) ?_
    exact ts_zret dX7_isTold_61 rfl (by decide) (Nat.le_refl _) (Nat.le_refl _) ⟨rfl, _, rfl, W⟩
  · replace W := W.2 q1
    refine ts_iload 5 (pc' := 14) rfl dX7_isTold_12 rfl ?_
    refine ts_bipush (v := 40) (pc' := 16) rfl dX7_isTold_14 (by decide) ?_
    refine ts_icmp_ge (pc' := 19) (tgt := 60) rfl dX7_isTold_16 (by decide) (fun q2 => ?_) (fun q2 => ?_)
    · replace W := W.1 q2
      refine ts_iconst (v := 1) (pc' := 61) rfl dX7_isTold_60 (by decide) ?_
      exact ts_zret dX7_isTold_61 rfl (by decide) (Nat.le_refl _) (Nat.le_refl _) ⟨rfl, _, rfl, W⟩
    · replace W := W.2 q2
      refine ts_aload_n 0 (pc' := 20) rfl dX7_isTold_19 rfl rfl ?_
      obtain ⟨c3, W⟩ := W
      obtain ⟨c4, W⟩ := W
      refine ts_getR (pc' := 23) (ci := 6) 3 cfX7.1 cfX7.2.1 cfX7.2.2 rfl (by decide) hnX7_isTold_X7 flX7_isTold_35 rfl dX7_isTold_20 c3 c4 ?_
      refine ts_aload_n 0 (pc' := 24) rfl dX7_isTold_23 rfl rfl ?_
      refine ts_getR (pc' := 27) (ci := 6) 3 cfX7.1 cfX7.2.1 cfX7.2.2 rfl (by decide) hnX7_isTold_X7 flX7_isTold_35 rfl dX7_isTold_24 c3 c4 ?_
      obtain ⟨c8, W⟩ := W
      refine ts_callV (M' := mX1_hasFrost) (C := RX1) (pc' := 30) (av := []) (b := (g.2.2.2 l0 3)) rfl dX7_isTold_27 rfl gX7_isTold_X1_hasFrost rfl dvX1_hasFrost rfl (ci := 1) cfX1.1 (by decide) c8 (Nat.le_refl _) (Nat.le_of_ble_eq_true rfl) (Nat.le_of_ble_eq_true rfl) (Nat.le_refl _) (Nat.le_refl _) ts_kv0 W (ts_kki fun v7 hi5 hk6 W => ?_)
      refine ts_callV (M' := mX1_pass) (C := RX1) (pc' := 33) (av := [.int v7]) (b := (g.2.2.2 l0 3)) rfl dX7_isTold_30 rfl gX7_isTold_X1_pass rfl dvX1_pass rfl (ci := 1) cfX1.1 (by decide) c8 (Nat.le_refl _) (Nat.le_of_ble_eq_true rfl) (Nat.le_of_ble_eq_true rfl) (Nat.le_refl _) (Nat.le_refl _) ts_kv0 W (ts_kkv fun hi9 hk10 W => ?_)
      refine ts_aload_n 0 (pc' := 34) rfl dX7_isTold_33 rfl rfl ?_
      refine ts_getR (pc' := 37) (ci := 6) 3 cfX7.1 cfX7.2.1 cfX7.2.2 rfl (by decide) hnX7_isTold_X7 flX7_isTold_35 rfl dX7_isTold_34 c3 c4 ?_
      obtain ⟨c11, W⟩ := W
      refine ts_getR (pc' := 40) (ci := 1) 1 cfX1.1 cfX1.2.1 cfX1.2.2 rfl (by decide) hnX7_isTold_X1 flX7_isTold_50 rfl dX7_isTold_37 c8 c11 ?_
      refine ts_iload_n 1 (pc' := 41) rfl dX7_isTold_40 rfl rfl ?_
      obtain ⟨c12, W⟩ := W
      obtain ⟨c13, W⟩ := W
      refine ts_iaload (pc' := 42) rfl dX7_isTold_41 c12 c13 ?_
      refine ts_aload_n 2 (pc' := 43) rfl dX7_isTold_42 rfl rfl ?_
      obtain ⟨c14, W⟩ := W
      obtain ⟨c15, W⟩ := W
      refine ts_getR (pc' := 46) (ci := 5) 0 cfX6.1 cfX6.2.1 cfX6.2.2 rfl (by decide) hnX7_isTold_X6 flX7_isTold_114 rfl dX7_isTold_43 c14 c15 ?_
      refine ts_iload 5 (pc' := 48) rfl dX7_isTold_46 rfl ?_
      obtain ⟨c16, W⟩ := W
      obtain ⟨c17, W⟩ := W
      refine ts_iaload (pc' := 49) rfl dX7_isTold_48 c16 c17 ?_
      refine ts_icmp_eq (pc' := 52) (tgt := 54) rfl dX7_isTold_49 (by decide) (fun q18 => ?_) (fun q18 => ?_)
      · replace W := W.1 q18
        refine ts_iinc 5 (pc' := 57) (ls' := [(5, .int (l5 + 1)), (0, .ref l0), (1, .int l1), (2, .ref l2), (3, .int l3), (4, .int l4)]) rfl dX7_isTold_54 rfl rfl (Nat.le_of_ble_eq_true rfl) rfl ?_
        refine ts_goto (tgt := 3) dX7_isTold_57 (by decide) ?_
        exact ts_sub [1, 2, 3, 4, 5, 0] rfl W
      · replace W := W.2 q18
        refine ts_iconst (v := 0) (pc' := 53) rfl dX7_isTold_52 (by decide) ?_
        exact ts_zret dX7_isTold_53 rfl (by decide) (Nat.le_refl _) (Nat.le_refl _) ⟨rfl, _, rfl, W⟩
theorem hnX7_waysToRise_X7 : ∀ w ∈ u_ws RX7 TX7 8, w ∈ wsX7_waysToRise := by decide +kernel
theorem flX7_waysToRise_11 : Cond.fieldLink RX7 11 "TurnipSquires$Seer" "trials" "[LTurnipSquires$Field;" ∈ wsX7_waysToRise := by decide +kernel
theorem flX7_waysToRise_24 : Cond.fieldLink RX7 24 "TurnipSquires$Seer" "now" "LTurnipSquires$Field;" ∈ wsX7_waysToRise := by decide +kernel
set_option maxHeartbeats 4000000 in
theorem wX7_waysToRise_0 {d : Nat} {g : ts_G} {Q : Int32 → ts_I → ts_K → Prop} {o : Nat} {p0 : Int32} {p1 : Int32} {p2 : Int32} {p3 : Int32} {hi : ts_I} {hk : ts_K} (W : ((p2 < 0) → Q 0 hi hk) ∧ (¬ (p2 < 0) → ((p2 ≤ 8) → (g.2.1 o = 6) ∧ (g.2.2.2 o 2 ≠ 0) ∧ (g.2.1 (g.2.2.2 o 2) = 104) ∧ (vp_in p2 (g.2.2.1 (g.2.2.2 o 2))) ∧ (g.2.2.2 (g.2.2.2 o 2) p2.toNatClampNeg ≠ 0) ∧ (g.2.2.2 o 0 ≠ 0) ∧ (g.2.1 (g.2.2.2 (g.2.2.2 o 2) p2.toNatClampNeg) = 1) ∧ ts_E0 d mX1_become [.ref (g.2.2.2 (g.2.2.2 o 2) p2.toNatClampNeg), .ref (g.2.2.2 o 0)] g hi hk (ts_qv (fun hi9 hk10 => ts_E0 d mX7_waysFrom [.ref o, .int p0, .int p1, .int p2, .int p3] g hi9 hk10 (ts_qi (fun v14 hi12 hk13 => Q v14 hi12 hk13))))) ∧ (¬ (p2 ≤ 8) → Q 0 hi hk))) : ts_J0 (d + 1) mX7_waysToRise (ts_qi Q) g 0 [(0, .ref o), (1, .int p0), (2, .int p1), (3, .int p2), (4, .int p3)] [] hi hk := by
  refine ts_iload_n 3 (pc' := 1) rfl dX7_waysToRise_0 rfl rfl ?_
  refine ts_if_lt (pc' := 4) (tgt := 10) rfl dX7_waysToRise_1 (by decide) (fun q1 => ?_) (fun q1 => ?_)
  · replace W := W.1 q1
    refine ts_iconst (v := 0) (pc' := 11) rfl dX7_waysToRise_10 (by decide) ?_
    exact ts_iret dX7_waysToRise_11 rfl (Nat.le_refl _) (Nat.le_refl _) ⟨rfl, _, rfl, W⟩
  · replace W := W.2 q1
    refine ts_iload_n 3 (pc' := 5) rfl dX7_waysToRise_4 rfl rfl ?_
    refine ts_bipush (v := 8) (pc' := 7) rfl dX7_waysToRise_5 (by decide) ?_
    refine ts_icmp_le (pc' := 10) (tgt := 12) rfl dX7_waysToRise_7 (by decide) (fun q2 => ?_) (fun q2 => ?_)
    · replace W := W.1 q2
      refine ts_aload_n 0 (pc' := 13) rfl dX7_waysToRise_12 rfl rfl ?_
      obtain ⟨c3, W⟩ := W
      obtain ⟨c4, W⟩ := W
      refine ts_getR (pc' := 16) (ci := 6) 2 cfX7.1 cfX7.2.1 cfX7.2.2 rfl (by decide) hnX7_waysToRise_X7 flX7_waysToRise_11 rfl dX7_waysToRise_13 c3 c4 ?_
      refine ts_iload_n 3 (pc' := 17) rfl dX7_waysToRise_16 rfl rfl ?_
      obtain ⟨c5, W⟩ := W
      obtain ⟨c6, W⟩ := W
      obtain ⟨c7, W⟩ := W
      refine ts_aaloadF (pc' := 18) rfl dX7_waysToRise_17 c5 c6 c7 ?_
      refine ts_aload_n 0 (pc' := 19) rfl dX7_waysToRise_18 rfl rfl ?_
      obtain ⟨c8, W⟩ := W
      refine ts_getR (pc' := 22) (ci := 6) 0 cfX7.1 cfX7.2.1 cfX7.2.2 rfl (by decide) hnX7_waysToRise_X7 flX7_waysToRise_24 rfl dX7_waysToRise_19 c3 c8 ?_
      obtain ⟨c11, W⟩ := W
      refine ts_callV (M' := mX1_become) (C := RX1) (pc' := 25) (av := [.ref (g.2.2.2 o 0)]) (b := (g.2.2.2 (g.2.2.2 o 2) p2.toNatClampNeg)) rfl dX7_waysToRise_22 rfl gX7_waysToRise_X1_become rfl dvX1_become rfl (ci := 1) cfX1.1 (by decide) c11 (Nat.le_refl _) (Nat.le_of_ble_eq_true rfl) (Nat.le_of_ble_eq_true rfl) (Nat.le_refl _) (Nat.le_refl _) ts_kv0 W (ts_kkv fun hi9 hk10 W => ?_)
      refine ts_aload_n 0 (pc' := 26) rfl dX7_waysToRise_25 rfl rfl ?_
      refine ts_iload_n 1 (pc' := 27) rfl dX7_waysToRise_26 rfl rfl ?_
      refine ts_iload_n 2 (pc' := 28) rfl dX7_waysToRise_27 rfl rfl ?_
      refine ts_iload_n 3 (pc' := 29) rfl dX7_waysToRise_28 rfl rfl ?_
      refine ts_iload 4 (pc' := 31) rfl dX7_waysToRise_29 rfl ?_
      refine ts_callV (M' := mX7_waysFrom) (C := RX7) (pc' := 34) (av := [.int p0, .int p1, .int p2, .int p3]) (b := o) rfl dX7_waysToRise_31 rfl gX7_waysToRise_X7_waysFrom rfl dvX7_waysFrom rfl (ci := 6) cfX7.1 (by decide) c3 (Nat.le_refl _) (Nat.le_of_ble_eq_true rfl) (Nat.le_of_ble_eq_true rfl) (Nat.le_refl _) (Nat.le_refl _) ts_kv0 W (ts_kki fun v14 hi12 hk13 W => ?_)
      exact ts_iret dX7_waysToRise_34 rfl (Nat.le_refl _) (Nat.le_refl _) ⟨rfl, _, rfl, W⟩
    · replace W := W.2 q2
      refine ts_iconst (v := 0) (pc' := 11) rfl dX7_waysToRise_10 (by decide) ?_
      exact ts_iret dX7_waysToRise_11 rfl (Nat.le_refl _) (Nat.le_refl _) ⟨rfl, _, rfl, W⟩
theorem hnX7_waysFrom_X1 : ∀ w ∈ u_ws RX1 TX1 13, w ∈ wsX7_waysFrom := by decide +kernel
theorem hnX7_waysFrom_X7 : ∀ w ∈ u_ws RX7 TX7 8, w ∈ wsX7_waysFrom := by decide +kernel
theorem flX7_waysFrom_11 : Cond.fieldLink RX7 11 "TurnipSquires$Seer" "trials" "[LTurnipSquires$Field;" ∈ wsX7_waysFrom := by decide +kernel
theorem flX7_waysFrom_50 : Cond.fieldLink RX7 50 "TurnipSquires$Field" "rank" "[I" ∈ wsX7_waysFrom := by decide +kernel
set_option maxHeartbeats 4000000 in
theorem wX7_waysFrom_0 {d : Nat} {g : ts_G} {Q : Int32 → ts_I → ts_K → Prop} {o : Nat} {p0 : Int32} {p1 : Int32} {p2 : Int32} {p3 : Int32} {hi : ts_I} {hk : ts_K} (W : ((p2 ≤ 0) → (g.2.1 o = 6) ∧ (g.2.2.2 o 2 ≠ 0) ∧ (g.2.1 (g.2.2.2 o 2) = 104) ∧ (vp_in 0 (g.2.2.1 (g.2.2.2 o 2))) ∧ (g.2.2.2 (g.2.2.2 o 2) (0 : Int32).toNatClampNeg ≠ 0) ∧ (g.2.1 (g.2.2.2 (g.2.2.2 o 2) (0 : Int32).toNatClampNeg) = 1) ∧ (g.2.2.2 (g.2.2.2 (g.2.2.2 o 2) (0 : Int32).toNatClampNeg) 1 ≠ 0) ∧ (g.2.1 (g.2.2.2 (g.2.2.2 (g.2.2.2 o 2) (0 : Int32).toNatClampNeg) 1) = 100) ∧ (vp_in p0 (g.2.2.1 (g.2.2.2 (g.2.2.2 (g.2.2.2 o 2) (0 : Int32).toNatClampNeg) 1))) ∧ (((hi (g.2.2.2 (g.2.2.2 (g.2.2.2 o 2) (0 : Int32).toNatClampNeg) 1) p0.toNatClampNeg) < p1) → Q 0 hi hk) ∧ (¬ ((hi (g.2.2.2 (g.2.2.2 (g.2.2.2 o 2) (0 : Int32).toNatClampNeg) 1) p0.toNatClampNeg) < p1) → Q 1 hi hk)) ∧ (¬ (p2 ≤ 0) → ((p2 ≤ 8) → ((p3 ≤ 0) → ((10 ≤ p3) → Q 0 hi hk) ∧ (¬ (10 ≤ p3) → (g.2.1 o = 6) ∧ (g.2.2.2 o 2 ≠ 0) ∧ (g.2.1 (g.2.2.2 o 2) = 104) ∧ (vp_in (p2 - 1) (g.2.2.1 (g.2.2.2 o 2))) ∧ (g.2.2.2 (g.2.2.2 o 2) (p2 - 1).toNatClampNeg ≠ 0) ∧ (vp_in p2 (g.2.2.1 (g.2.2.2 o 2))) ∧ (g.2.2.2 (g.2.2.2 o 2) p2.toNatClampNeg ≠ 0) ∧ (g.2.1 (g.2.2.2 (g.2.2.2 o 2) (p2 - 1).toNatClampNeg) = 1) ∧ ts_E0 d mX1_become [.ref (g.2.2.2 (g.2.2.2 o 2) (p2 - 1).toNatClampNeg), .ref (g.2.2.2 (g.2.2.2 o 2) p2.toNatClampNeg)] g hi hk (ts_qv (fun hi22 hk23 => ts_E0 d mX1_pass [.ref (g.2.2.2 (g.2.2.2 o 2) (p2 - 1).toNatClampNeg), .int 0] g hi22 hk23 (ts_qv (fun hi25 hk26 => ts_E0 d mX7_waysFrom [.ref o, .int p0, .int p1, .int (p2 - 1), .int p3] g hi25 hk26 (ts_qi (fun v29 hi27 hk28 => Q (0 + ((10 - p3) * v29)) hi27 hk28)))))))) ∧ (¬ (p3 ≤ 0) → (g.2.1 o = 6) ∧ (g.2.2.2 o 2 ≠ 0) ∧ (g.2.1 (g.2.2.2 o 2) = 104) ∧ (vp_in (p2 - 1) (g.2.2.1 (g.2.2.2 o 2))) ∧ (g.2.2.2 (g.2.2.2 o 2) (p2 - 1).toNatClampNeg ≠ 0) ∧ (vp_in p2 (g.2.2.1 (g.2.2.2 o 2))) ∧ (g.2.2.2 (g.2.2.2 o 2) p2.toNatClampNeg ≠ 0) ∧ (g.2.1 (g.2.2.2 (g.2.2.2 o 2) (p2 - 1).toNatClampNeg) = 1) ∧ ts_E0 d mX1_become [.ref (g.2.2.2 (g.2.2.2 o 2) (p2 - 1).toNatClampNeg), .ref (g.2.2.2 (g.2.2.2 o 2) p2.toNatClampNeg)] g hi hk (ts_qv (fun hi37 hk38 => ts_E0 d mX1_pass [.ref (g.2.2.2 (g.2.2.2 o 2) (p2 - 1).toNatClampNeg), .int 1] g hi37 hk38 (ts_qv (fun hi40 hk41 => ts_E0 d mX7_waysFrom [.ref o, .int p0, .int p1, .int (p2 - 1), .int p3] g hi40 hk41 (ts_qi (fun v44 hi42 hk43 => ((10 ≤ p3) → Q (0 + (p3 * v44)) hi42 hk43) ∧ (¬ (10 ≤ p3) → ts_E0 d mX1_become [.ref (g.2.2.2 (g.2.2.2 o 2) (p2 - 1).toNatClampNeg), .ref (g.2.2.2 (g.2.2.2 o 2) p2.toNatClampNeg)] g hi42 hk43 (ts_qv (fun hi46 hk47 => ts_E0 d mX1_pass [.ref (g.2.2.2 (g.2.2.2 o 2) (p2 - 1).toNatClampNeg), .int 0] g hi46 hk47 (ts_qv (fun hi48 hk49 => ts_E0 d mX7_waysFrom [.ref o, .int p0, .int p1, .int (p2 - 1), .int p3] g hi48 hk49 (ts_qi (fun v52 hi50 hk51 => Q ((0 + (p3 * v44)) + ((10 - p3) * v52)) hi50 hk51))))))))))))))) ∧ (¬ (p2 ≤ 8) → (g.2.1 o = 6) ∧ (g.2.2.2 o 2 ≠ 0) ∧ (g.2.1 (g.2.2.2 o 2) = 104) ∧ (vp_in 0 (g.2.2.1 (g.2.2.2 o 2))) ∧ (g.2.2.2 (g.2.2.2 o 2) (0 : Int32).toNatClampNeg ≠ 0) ∧ (g.2.1 (g.2.2.2 (g.2.2.2 o 2) (0 : Int32).toNatClampNeg) = 1) ∧ (g.2.2.2 (g.2.2.2 (g.2.2.2 o 2) (0 : Int32).toNatClampNeg) 1 ≠ 0) ∧ (g.2.1 (g.2.2.2 (g.2.2.2 (g.2.2.2 o 2) (0 : Int32).toNatClampNeg) 1) = 100) ∧ (vp_in p0 (g.2.2.1 (g.2.2.2 (g.2.2.2 (g.2.2.2 o 2) (0 : Int32).toNatClampNeg) 1))) ∧ (((hi (g.2.2.2 (g.2.2.2 (g.2.2.2 o 2) (0 : Int32).toNatClampNeg) 1) p0.toNatClampNeg) < p1) → Q 0 hi hk) ∧ (¬ ((hi (g.2.2.2 (g.2.2.2 (g.2.2.2 o 2) (0 : Int32).toNatClampNeg) 1) p0.toNatClampNeg) < p1) → Q 1 hi hk)))) : ts_J0 (d + 1) mX7_waysFrom (ts_qi Q) g 0 [(0, .ref o), (1, .int p0), (2, .int p1), (3, .int p2), (4, .int p3)] [] hi hk := by
  refine ts_iload_n 3 (pc' := 1) rfl dX7_waysFrom_0 rfl rfl ?_
  refine ts_if_le (pc' := 4) (tgt := 10) rfl dX7_waysFrom_1 (by decide) (fun q1 => ?_) (fun q1 => ?_)
  · replace W := W.1 q1
    refine ts_aload_n 0 (pc' := 11) rfl dX7_waysFrom_10 rfl rfl ?_
    obtain ⟨c2, W⟩ := W
    obtain ⟨c3, W⟩ := W
    refine ts_getR (pc' := 14) (ci := 6) 2 cfX7.1 cfX7.2.1 cfX7.2.2 rfl (by decide) hnX7_waysFrom_X7 flX7_waysFrom_11 rfl dX7_waysFrom_11 c2 c3 ?_
    refine ts_iconst (v := 0) (pc' := 15) rfl dX7_waysFrom_14 (by decide) ?_
    obtain ⟨c4, W⟩ := W
    obtain ⟨c5, W⟩ := W
    obtain ⟨c6, W⟩ := W
    refine ts_aaloadF (pc' := 16) rfl dX7_waysFrom_15 c4 c5 c6 ?_
    obtain ⟨c7, W⟩ := W
    obtain ⟨c8, W⟩ := W
    refine ts_getR (pc' := 19) (ci := 1) 1 cfX1.1 cfX1.2.1 cfX1.2.2 rfl (by decide) hnX7_waysFrom_X1 flX7_waysFrom_50 rfl dX7_waysFrom_16 c7 c8 ?_
    refine ts_iload_n 1 (pc' := 20) rfl dX7_waysFrom_19 rfl rfl ?_
    obtain ⟨c9, W⟩ := W
    obtain ⟨c10, W⟩ := W
    refine ts_iaload (pc' := 21) rfl dX7_waysFrom_20 c9 c10 ?_
    refine ts_iload_n 2 (pc' := 22) rfl dX7_waysFrom_21 rfl rfl ?_
    refine ts_icmp_lt (pc' := 25) (tgt := 29) rfl dX7_waysFrom_22 (by decide) (fun q11 => ?_) (fun q11 => ?_)
    · replace W := W.1 q11
      refine ts_iconst (v := 0) (pc' := 30) rfl dX7_waysFrom_29 (by decide) ?_
      exact ts_iret dX7_waysFrom_30 rfl (Nat.le_refl _) (Nat.le_refl _) ⟨rfl, _, rfl, W⟩
    · replace W := W.2 q11
      refine ts_iconst (v := 1) (pc' := 26) rfl dX7_waysFrom_25 (by decide) ?_
      refine ts_goto (tgt := 30) dX7_waysFrom_26 (by decide) ?_
      exact ts_iret dX7_waysFrom_30 rfl (Nat.le_refl _) (Nat.le_refl _) ⟨rfl, _, rfl, W⟩
  · replace W := W.2 q1
    refine ts_iload_n 3 (pc' := 5) rfl dX7_waysFrom_4 rfl rfl ?_
    refine ts_bipush (v := 8) (pc' := 7) rfl dX7_waysFrom_5 (by decide) ?_
    refine ts_icmp_le (pc' := 10) (tgt := 31) rfl dX7_waysFrom_7 (by decide) (fun q12 => ?_) (fun q12 => ?_)
    · replace W := W.1 q12
      refine ts_iconst (v := 0) (pc' := 32) rfl dX7_waysFrom_31 (by decide) ?_
      refine ts_istore (pc' := 34) (ls' := [(5, .int 0), (0, .ref o), (1, .int p0), (2, .int p1), (3, .int p2), (4, .int p3)]) rfl dX7_waysFrom_32 (Nat.le_of_ble_eq_true rfl) rfl ?_
      refine ts_iload 5 (pc' := 36) rfl dX7_waysFrom_34 rfl ?_
      refine ts_if_le (pc' := 39) (tgt := 87) rfl dX7_waysFrom_36 (by decide) (fun q13 => ?_) (fun q13 => ?_)
      · replace W := W.1 q13
        refine ts_iload 5 (pc' := 89) rfl dX7_waysFrom_87 rfl ?_
        refine ts_bipush (v := 10) (pc' := 91) rfl dX7_waysFrom_89 (by decide) ?_
        refine ts_icmp_ge (pc' := 94) (tgt := 145) rfl dX7_waysFrom_91 (by decide) (fun q14 => ?_) (fun q14 => ?_)
        · replace W := W.1 q14
          refine ts_iload 0 (pc' := 147) rfl dX7_waysFrom_145 rfl ?_
          exact ts_iret dX7_waysFrom_147 rfl (Nat.le_refl _) (Nat.le_refl _) ⟨rfl, _, rfl, W⟩
        · replace W := W.2 q14
          refine ts_aload_n 1 (pc' := 95) rfl dX7_waysFrom_94 rfl rfl ?_
          obtain ⟨c15, W⟩ := W
          obtain ⟨c16, W⟩ := W
          refine ts_getR (pc' := 98) (ci := 6) 2 cfX7.1 cfX7.2.1 cfX7.2.2 rfl (by decide) hnX7_waysFrom_X7 flX7_waysFrom_11 rfl dX7_waysFrom_95 c15 c16 ?_
          refine ts_iload_n 4 (pc' := 99) rfl dX7_waysFrom_98 rfl rfl ?_
          refine ts_iconst (v := 1) (pc' := 100) rfl dX7_waysFrom_99 (by decide) ?_
          refine ts_isub (pc' := 101) rfl dX7_waysFrom_100 ?_
          obtain ⟨c17, W⟩ := W
          obtain ⟨c18, W⟩ := W
          obtain ⟨c19, W⟩ := W
          refine ts_aaloadF (pc' := 102) rfl dX7_waysFrom_101 c17 c18 c19 ?_
          refine ts_aload_n 1 (pc' := 103) rfl dX7_waysFrom_102 rfl rfl ?_
          refine ts_getR (pc' := 106) (ci := 6) 2 cfX7.1 cfX7.2.1 cfX7.2.2 rfl (by decide) hnX7_waysFrom_X7 flX7_waysFrom_11 rfl dX7_waysFrom_103 c15 c16 ?_
          refine ts_iload_n 4 (pc' := 107) rfl dX7_waysFrom_106 rfl rfl ?_
          obtain ⟨c20, W⟩ := W
          obtain ⟨c21, W⟩ := W
          refine ts_aaloadF (pc' := 108) rfl dX7_waysFrom_107 c17 c20 c21 ?_
          obtain ⟨c24, W⟩ := W
          refine ts_callV (M' := mX1_become) (C := RX1) (pc' := 111) (av := [.ref (g.2.2.2 (g.2.2.2 o 2) p2.toNatClampNeg)]) (b := (g.2.2.2 (g.2.2.2 o 2) (p2 - 1).toNatClampNeg)) rfl dX7_waysFrom_108 rfl gX7_waysFrom_X1_become rfl dvX1_become rfl (ci := 1) cfX1.1 (by decide) c24 (Nat.le_refl _) (Nat.le_of_ble_eq_true rfl) (Nat.le_of_ble_eq_true rfl) (Nat.le_refl _) (Nat.le_refl _) ts_kv0 W (ts_kkv fun hi22 hk23 W => ?_)
          refine ts_aload_n 1 (pc' := 112) rfl dX7_waysFrom_111 rfl rfl ?_
          refine ts_getR (pc' := 115) (ci := 6) 2 cfX7.1 cfX7.2.1 cfX7.2.2 rfl (by decide) hnX7_waysFrom_X7 flX7_waysFrom_11 rfl dX7_waysFrom_112 c15 c16 ?_
          refine ts_iload_n 4 (pc' := 116) rfl dX7_waysFrom_115 rfl rfl ?_
          refine ts_iconst (v := 1) (pc' := 117) rfl dX7_waysFrom_116 (by decide) ?_
          refine ts_isub (pc' := 118) rfl dX7_waysFrom_117 ?_
          refine ts_aaloadF (pc' := 119) rfl dX7_waysFrom_118 c17 c18 c19 ?_
          refine ts_iconst (v := 0) (pc' := 120) rfl dX7_waysFrom_119 (by decide) ?_
          refine ts_callV (M' := mX1_pass) (C := RX1) (pc' := 123) (av := [.int 0]) (b := (g.2.2.2 (g.2.2.2 o 2) (p2 - 1).toNatClampNeg)) rfl dX7_waysFrom_120 rfl gX7_waysFrom_X1_pass rfl dvX1_pass rfl (ci := 1) cfX1.1 (by decide) c24 (Nat.le_refl _) (Nat.le_of_ble_eq_true rfl) (Nat.le_of_ble_eq_true rfl) (Nat.le_refl _) (Nat.le_refl _) ts_kv0 W (ts_kkv fun hi25 hk26 W => ?_)
          refine ts_iload 0 (pc' := 125) rfl dX7_waysFrom_123 rfl ?_
          refine ts_bipush (v := 10) (pc' := 127) rfl dX7_waysFrom_125 (by decide) ?_
          refine ts_iload 5 (pc' := 129) rfl dX7_waysFrom_127 rfl ?_
          refine ts_isub (pc' := 130) rfl dX7_waysFrom_129 ?_
          refine ts_aload_n 1 (pc' := 131) rfl dX7_waysFrom_130 rfl rfl ?_
          refine ts_iload_n 2 (pc' := 132) rfl dX7_waysFrom_131 rfl rfl ?_
          refine ts_iload_n 3 (pc' := 133) rfl dX7_waysFrom_132 rfl rfl ?_
          refine ts_iload_n 4 (pc' := 134) rfl dX7_waysFrom_133 rfl rfl ?_
          refine ts_iconst (v := 1) (pc' := 135) rfl dX7_waysFrom_134 (by decide) ?_
          refine ts_isub (pc' := 136) rfl dX7_waysFrom_135 ?_
          refine ts_iload 5 (pc' := 138) rfl dX7_waysFrom_136 rfl ?_
          refine ts_callV (M' := mX7_waysFrom) (C := RX7) (pc' := 141) (av := [.int p0, .int p1, .int (p2 - 1), .int p3]) (b := o) rfl dX7_waysFrom_138 rfl gX7_waysFrom_X7_waysFrom rfl dvX7_waysFrom rfl (ci := 6) cfX7.1 (by decide) c15 (Nat.le_refl _) (Nat.le_of_ble_eq_true rfl) (Nat.le_of_ble_eq_true rfl) (Nat.le_refl _) (Nat.le_refl _) ts_kv0 W (ts_kki fun v29 hi27 hk28 W => ?_)
          refine ts_imul (pc' := 142) rfl dX7_waysFrom_141 ?_
          refine ts_iadd (pc' := 143) rfl dX7_waysFrom_142 ?_
          refine ts_istore (pc' := 145) (ls' := [(5, .int (0 + ((10 - p3) * v29))), (0, .ref o), (1, .int p0), (2, .int p1), (3, .int p2), (4, .int p3)]) rfl dX7_waysFrom_143 (Nat.le_of_ble_eq_true rfl) rfl ?_
          refine ts_iload 0 (pc' := 147) rfl dX7_waysFrom_145 rfl ?_
          exact ts_iret dX7_waysFrom_147 rfl (Nat.le_refl _) (Nat.le_refl _) ⟨rfl, _, rfl, W⟩
      · replace W := W.2 q13
        refine ts_aload_n 1 (pc' := 40) rfl dX7_waysFrom_39 rfl rfl ?_
        obtain ⟨c30, W⟩ := W
        obtain ⟨c31, W⟩ := W
        refine ts_getR (pc' := 43) (ci := 6) 2 cfX7.1 cfX7.2.1 cfX7.2.2 rfl (by decide) hnX7_waysFrom_X7 flX7_waysFrom_11 rfl dX7_waysFrom_40 c30 c31 ?_
        refine ts_iload_n 4 (pc' := 44) rfl dX7_waysFrom_43 rfl rfl ?_
        refine ts_iconst (v := 1) (pc' := 45) rfl dX7_waysFrom_44 (by decide) ?_
        refine ts_isub (pc' := 46) rfl dX7_waysFrom_45 ?_
        obtain ⟨c32, W⟩ := W
        obtain ⟨c33, W⟩ := W
        obtain ⟨c34, W⟩ := W
        refine ts_aaloadF (pc' := 47) rfl dX7_waysFrom_46 c32 c33 c34 ?_
        refine ts_aload_n 1 (pc' := 48) rfl dX7_waysFrom_47 rfl rfl ?_
        refine ts_getR (pc' := 51) (ci := 6) 2 cfX7.1 cfX7.2.1 cfX7.2.2 rfl (by decide) hnX7_waysFrom_X7 flX7_waysFrom_11 rfl dX7_waysFrom_48 c30 c31 ?_
        refine ts_iload_n 4 (pc' := 52) rfl dX7_waysFrom_51 rfl rfl ?_
        obtain ⟨c35, W⟩ := W
        obtain ⟨c36, W⟩ := W
        refine ts_aaloadF (pc' := 53) rfl dX7_waysFrom_52 c32 c35 c36 ?_
        obtain ⟨c39, W⟩ := W
        refine ts_callV (M' := mX1_become) (C := RX1) (pc' := 56) (av := [.ref (g.2.2.2 (g.2.2.2 o 2) p2.toNatClampNeg)]) (b := (g.2.2.2 (g.2.2.2 o 2) (p2 - 1).toNatClampNeg)) rfl dX7_waysFrom_53 rfl gX7_waysFrom_X1_become rfl dvX1_become rfl (ci := 1) cfX1.1 (by decide) c39 (Nat.le_refl _) (Nat.le_of_ble_eq_true rfl) (Nat.le_of_ble_eq_true rfl) (Nat.le_refl _) (Nat.le_refl _) ts_kv0 W (ts_kkv fun hi37 hk38 W => ?_)
        refine ts_aload_n 1 (pc' := 57) rfl dX7_waysFrom_56 rfl rfl ?_
        refine ts_getR (pc' := 60) (ci := 6) 2 cfX7.1 cfX7.2.1 cfX7.2.2 rfl (by decide) hnX7_waysFrom_X7 flX7_waysFrom_11 rfl dX7_waysFrom_57 c30 c31 ?_
        refine ts_iload_n 4 (pc' := 61) rfl dX7_waysFrom_60 rfl rfl ?_
        refine ts_iconst (v := 1) (pc' := 62) rfl dX7_waysFrom_61 (by decide) ?_
        refine ts_isub (pc' := 63) rfl dX7_waysFrom_62 ?_
        refine ts_aaloadF (pc' := 64) rfl dX7_waysFrom_63 c32 c33 c34 ?_
        refine ts_iconst (v := 1) (pc' := 65) rfl dX7_waysFrom_64 (by decide) ?_
        refine ts_callV (M' := mX1_pass) (C := RX1) (pc' := 68) (av := [.int 1]) (b := (g.2.2.2 (g.2.2.2 o 2) (p2 - 1).toNatClampNeg)) rfl dX7_waysFrom_65 rfl gX7_waysFrom_X1_pass rfl dvX1_pass rfl (ci := 1) cfX1.1 (by decide) c39 (Nat.le_refl _) (Nat.le_of_ble_eq_true rfl) (Nat.le_of_ble_eq_true rfl) (Nat.le_refl _) (Nat.le_refl _) ts_kv0 W (ts_kkv fun hi40 hk41 W => ?_)
        refine ts_iload 0 (pc' := 70) rfl dX7_waysFrom_68 rfl ?_
        refine ts_iload 5 (pc' := 72) rfl dX7_waysFrom_70 rfl ?_
        refine ts_aload_n 1 (pc' := 73) rfl dX7_waysFrom_72 rfl rfl ?_
        refine ts_iload_n 2 (pc' := 74) rfl dX7_waysFrom_73 rfl rfl ?_
        refine ts_iload_n 3 (pc' := 75) rfl dX7_waysFrom_74 rfl rfl ?_
        refine ts_iload_n 4 (pc' := 76) rfl dX7_waysFrom_75 rfl rfl ?_
        refine ts_iconst (v := 1) (pc' := 77) rfl dX7_waysFrom_76 (by decide) ?_
        refine ts_isub (pc' := 78) rfl dX7_waysFrom_77 ?_
        refine ts_iload 5 (pc' := 80) rfl dX7_waysFrom_78 rfl ?_
        refine ts_callV (M' := mX7_waysFrom) (C := RX7) (pc' := 83) (av := [.int p0, .int p1, .int (p2 - 1), .int p3]) (b := o) rfl dX7_waysFrom_80 rfl gX7_waysFrom_X7_waysFrom rfl dvX7_waysFrom rfl (ci := 6) cfX7.1 (by decide) c30 (Nat.le_refl _) (Nat.le_of_ble_eq_true rfl) (Nat.le_of_ble_eq_true rfl) (Nat.le_refl _) (Nat.le_refl _) ts_kv0 W (ts_kki fun v44 hi42 hk43 W => ?_)
        refine ts_imul (pc' := 84) rfl dX7_waysFrom_83 ?_
        refine ts_iadd (pc' := 85) rfl dX7_waysFrom_84 ?_
        refine ts_istore (pc' := 87) (ls' := [(5, .int (0 + (p3 * v44))), (0, .ref o), (1, .int p0), (2, .int p1), (3, .int p2), (4, .int p3)]) rfl dX7_waysFrom_85 (Nat.le_of_ble_eq_true rfl) rfl ?_
        refine ts_iload 5 (pc' := 89) rfl dX7_waysFrom_87 rfl ?_
        refine ts_bipush (v := 10) (pc' := 91) rfl dX7_waysFrom_89 (by decide) ?_
        refine ts_icmp_ge (pc' := 94) (tgt := 145) rfl dX7_waysFrom_91 (by decide) (fun q45 => ?_) (fun q45 => ?_)
        · replace W := W.1 q45
          refine ts_iload 0 (pc' := 147) rfl dX7_waysFrom_145 rfl ?_
          exact ts_iret dX7_waysFrom_147 rfl (Nat.le_refl _) (Nat.le_refl _) ⟨rfl, _, rfl, W⟩
        · replace W := W.2 q45
          refine ts_aload_n 1 (pc' := 95) rfl dX7_waysFrom_94 rfl rfl ?_
          refine ts_getR (pc' := 98) (ci := 6) 2 cfX7.1 cfX7.2.1 cfX7.2.2 rfl (by decide) hnX7_waysFrom_X7 flX7_waysFrom_11 rfl dX7_waysFrom_95 c30 c31 ?_
          refine ts_iload_n 4 (pc' := 99) rfl dX7_waysFrom_98 rfl rfl ?_
          refine ts_iconst (v := 1) (pc' := 100) rfl dX7_waysFrom_99 (by decide) ?_
          refine ts_isub (pc' := 101) rfl dX7_waysFrom_100 ?_
          refine ts_aaloadF (pc' := 102) rfl dX7_waysFrom_101 c32 c33 c34 ?_
          refine ts_aload_n 1 (pc' := 103) rfl dX7_waysFrom_102 rfl rfl ?_
          refine ts_getR (pc' := 106) (ci := 6) 2 cfX7.1 cfX7.2.1 cfX7.2.2 rfl (by decide) hnX7_waysFrom_X7 flX7_waysFrom_11 rfl dX7_waysFrom_103 c30 c31 ?_
          refine ts_iload_n 4 (pc' := 107) rfl dX7_waysFrom_106 rfl rfl ?_
          refine ts_aaloadF (pc' := 108) rfl dX7_waysFrom_107 c32 c35 c36 ?_
          refine ts_callV (M' := mX1_become) (C := RX1) (pc' := 111) (av := [.ref (g.2.2.2 (g.2.2.2 o 2) p2.toNatClampNeg)]) (b := (g.2.2.2 (g.2.2.2 o 2) (p2 - 1).toNatClampNeg)) rfl dX7_waysFrom_108 rfl gX7_waysFrom_X1_become rfl dvX1_become rfl (ci := 1) cfX1.1 (by decide) c39 (Nat.le_refl _) (Nat.le_of_ble_eq_true rfl) (Nat.le_of_ble_eq_true rfl) (Nat.le_refl _) (Nat.le_refl _) ts_kv0 W (ts_kkv fun hi46 hk47 W => ?_)
          refine ts_aload_n 1 (pc' := 112) rfl dX7_waysFrom_111 rfl rfl ?_
          refine ts_getR (pc' := 115) (ci := 6) 2 cfX7.1 cfX7.2.1 cfX7.2.2 rfl (by decide) hnX7_waysFrom_X7 flX7_waysFrom_11 rfl dX7_waysFrom_112 c30 c31 ?_
          refine ts_iload_n 4 (pc' := 116) rfl dX7_waysFrom_115 rfl rfl ?_
          refine ts_iconst (v := 1) (pc' := 117) rfl dX7_waysFrom_116 (by decide) ?_
          refine ts_isub (pc' := 118) rfl dX7_waysFrom_117 ?_
          refine ts_aaloadF (pc' := 119) rfl dX7_waysFrom_118 c32 c33 c34 ?_
          refine ts_iconst (v := 0) (pc' := 120) rfl dX7_waysFrom_119 (by decide) ?_
          refine ts_callV (M' := mX1_pass) (C := RX1) (pc' := 123) (av := [.int 0]) (b := (g.2.2.2 (g.2.2.2 o 2) (p2 - 1).toNatClampNeg)) rfl dX7_waysFrom_120 rfl gX7_waysFrom_X1_pass rfl dvX1_pass rfl (ci := 1) cfX1.1 (by decide) c39 (Nat.le_refl _) (Nat.le_of_ble_eq_true rfl) (Nat.le_of_ble_eq_true rfl) (Nat.le_refl _) (Nat.le_refl _) ts_kv0 W (ts_kkv fun hi48 hk49 W => ?_)
          refine ts_iload 0 (pc' := 125) rfl dX7_waysFrom_123 rfl ?_
          refine ts_bipush (v := 10) (pc' := 127) rfl dX7_waysFrom_125 (by decide) ?_
          refine ts_iload 5 (pc' := 129) rfl dX7_waysFrom_127 rfl ?_
          refine ts_isub (pc' := 130) rfl dX7_waysFrom_129 ?_
          refine ts_aload_n 1 (pc' := 131) rfl dX7_waysFrom_130 rfl rfl ?_
          refine ts_iload_n 2 (pc' := 132) rfl dX7_waysFrom_131 rfl rfl ?_
          refine ts_iload_n 3 (pc' := 133) rfl dX7_waysFrom_132 rfl rfl ?_
          refine ts_iload_n 4 (pc' := 134) rfl dX7_waysFrom_133 rfl rfl ?_
          refine ts_iconst (v := 1) (pc' := 135) rfl dX7_waysFrom_134 (by decide) ?_
          refine ts_isub (pc' := 136) rfl dX7_waysFrom_135 ?_
          refine ts_iload 5 (pc' := 138) rfl dX7_waysFrom_136 rfl ?_
          refine ts_callV (M' := mX7_waysFrom) (C := RX7) (pc' := 141) (av := [.int p0, .int p1, .int (p2 - 1), .int p3]) (b := o) rfl dX7_waysFrom_138 rfl gX7_waysFrom_X7_waysFrom rfl dvX7_waysFrom rfl (ci := 6) cfX7.1 (by decide) c30 (Nat.le_refl _) (Nat.le_of_ble_eq_true rfl) (Nat.le_of_ble_eq_true rfl) (Nat.le_refl _) (Nat.le_refl _) ts_kv0 W (ts_kki fun v52 hi50 hk51 W => ?_)
          refine ts_imul (pc' := 142) rfl dX7_waysFrom_141 ?_
          refine ts_iadd (pc' := 143) rfl dX7_waysFrom_142 ?_
          refine ts_istore (pc' := 145) (ls' := [(5, .int ((0 + (p3 * v44)) + ((10 - p3) * v52))), (0, .ref o), (1, .int p0), (2, .int p1), (3, .int p2), (4, .int p3)]) rfl dX7_waysFrom_143 (Nat.le_of_ble_eq_true rfl) rfl ?_
          refine ts_iload 0 (pc' := 147) rfl dX7_waysFrom_145 rfl ?_
          exact ts_iret dX7_waysFrom_147 rfl (Nat.le_refl _) (Nat.le_refl _) ⟨rfl, _, rfl, W⟩
    · replace W := W.2 q12
      refine ts_aload_n 0 (pc' := 11) rfl dX7_waysFrom_10 rfl rfl ?_
      obtain ⟨c53, W⟩ := W
      obtain ⟨c54, W⟩ := W
      refine ts_getR (pc' := 14) (ci := 6) 2 cfX7.1 cfX7.2.1 cfX7.2.2 rfl (by decide) hnX7_waysFrom_X7 flX7_waysFrom_11 rfl dX7_waysFrom_11 c53 c54 ?_
      refine ts_iconst (v := 0) (pc' := 15) rfl dX7_waysFrom_14 (by decide) ?_
      obtain ⟨c55, W⟩ := W
      obtain ⟨c56, W⟩ := W
      obtain ⟨c57, W⟩ := W
      refine ts_aaloadF (pc' := 16) rfl dX7_waysFrom_15 c55 c56 c57 ?_
      obtain ⟨c58, W⟩ := W
      obtain ⟨c59, W⟩ := W
      refine ts_getR (pc' := 19) (ci := 1) 1 cfX1.1 cfX1.2.1 cfX1.2.2 rfl (by decide) hnX7_waysFrom_X1 flX7_waysFrom_50 rfl dX7_waysFrom_16 c58 c59 ?_
      refine ts_iload_n 1 (pc' := 20) rfl dX7_waysFrom_19 rfl rfl ?_
      obtain ⟨c60, W⟩ := W
      obtain ⟨c61, W⟩ := W
      refine ts_iaload (pc' := 21) rfl dX7_waysFrom_20 c60 c61 ?_
      refine ts_iload_n 2 (pc' := 22) rfl dX7_waysFrom_21 rfl rfl ?_
      refine ts_icmp_lt (pc' := 25) (tgt := 29) rfl dX7_waysFrom_22 (by decide) (fun q62 => ?_) (fun q62 => ?_)
      · replace W := W.1 q62
        refine ts_iconst (v := 0) (pc' := 30) rfl dX7_waysFrom_29 (by decide) ?_
        exact ts_iret dX7_waysFrom_30 rfl (Nat.le_refl _) (Nat.le_refl _) ⟨rfl, _, rfl, W⟩
      · replace W := W.2 q62
        refine ts_iconst (v := 1) (pc' := 26) rfl dX7_waysFrom_25 (by decide) ?_
        refine ts_goto (tgt := 30) dX7_waysFrom_26 (by decide) ?_
        exact ts_iret dX7_waysFrom_30 rfl (Nat.le_refl _) (Nat.le_refl _) ⟨rfl, _, rfl, W⟩
theorem hnX7_century_X1 : ∀ w ∈ u_ws RX1 TX1 13, w ∈ wsX7_century := by decide +kernel
theorem hnX7_century_X7 : ∀ w ∈ u_ws RX7 TX7 8, w ∈ wsX7_century := by decide +kernel
theorem flX7_century_24 : Cond.fieldLink RX7 24 "TurnipSquires$Seer" "now" "LTurnipSquires$Field;" ∈ wsX7_century := by decide +kernel
theorem flX7_century_35 : Cond.fieldLink RX7 35 "TurnipSquires$Seer" "trial" "LTurnipSquires$Field;" ∈ wsX7_century := by decide +kernel
theorem flX7_century_54 : Cond.fieldLink RX7 54 "TurnipSquires$Field" "count" "I" ∈ wsX7_century := by decide +kernel
theorem flX7_century_108 : Cond.fieldLink RX7 108 "TurnipSquires$Field" "ground" "I" ∈ wsX7_century := by decide +kernel
set_option maxHeartbeats 4000000 in
theorem wX7_century_0 {d : Nat} {g : ts_G} {Q : Nat → ts_I → ts_K → Prop} {o : Nat} {p0 : Int32} {p1 : Int32} {hi : ts_I} {hk : ts_K} (W : (g.2.1 o = 6) ∧ (g.2.2.2 o 3 ≠ 0) ∧ (g.2.2.2 o 0 ≠ 0) ∧ (g.2.1 (g.2.2.2 o 3) = 1) ∧ ts_E0 d mX1_become [.ref (g.2.2.2 o 3), .ref (g.2.2.2 o 0)] g hi hk (ts_qv (fun hi4 hk5 => ts_J0 (d + 1) mX7_century (ts_qr Q) g 26 [(0, .ref o), (1, .int p0), (3, .int (hi4 (g.2.2.2 o 3) 9)), (4, .long (p1).toInt64), (6, .int 0)] [] hi4 hk5))) : ts_J0 (d + 1) mX7_century (ts_qr Q) g 0 [(0, .ref o), (1, .int p0), (2, .int p1)] [] hi hk := by
  refine ts_aload_n 0 (pc' := 1) rfl dX7_century_0 rfl rfl ?_
  obtain ⟨c1, W⟩ := W
  obtain ⟨c2, W⟩ := W
  refine ts_getR (pc' := 4) (ci := 6) 3 cfX7.1 cfX7.2.1 cfX7.2.2 rfl (by decide) hnX7_century_X7 flX7_century_35 rfl dX7_century_1 c1 c2 ?_
  refine ts_aload_n 0 (pc' := 5) rfl dX7_century_4 rfl rfl ?_
  obtain ⟨c3, W⟩ := W
  refine ts_getR (pc' := 8) (ci := 6) 0 cfX7.1 cfX7.2.1 cfX7.2.2 rfl (by decide) hnX7_century_X7 flX7_century_24 rfl dX7_century_5 c1 c3 ?_
  obtain ⟨c6, W⟩ := W
  refine ts_callV (M' := mX1_become) (C := RX1) (pc' := 11) (av := [.ref (g.2.2.2 o 0)]) (b := (g.2.2.2 o 3)) rfl dX7_century_8 rfl gX7_century_X1_become rfl dvX1_become rfl (ci := 1) cfX1.1 (by decide) c6 (Nat.le_refl _) (Nat.le_of_ble_eq_true rfl) (Nat.le_of_ble_eq_true rfl) (Nat.le_refl _) (Nat.le_refl _) ts_kv0 W (ts_kkv fun hi4 hk5 W => ?_)
  refine ts_aload_n 0 (pc' := 12) rfl dX7_century_11 rfl rfl ?_
  refine ts_getR (pc' := 15) (ci := 6) 3 cfX7.1 cfX7.2.1 cfX7.2.2 rfl (by decide) hnX7_century_X7 flX7_century_35 rfl dX7_century_12 c1 c2 ?_
  refine ts_getI (pc' := 18) (ci := 1) 9 cfX1.1 cfX1.2.1 cfX1.2.2 rfl (by decide) hnX7_century_X1 flX7_century_54 rfl dX7_century_15 c6 ?_
  refine ts_istore_n (pc' := 19) (ls' := [(3, .int (hi4 (g.2.2.2 o 3) 9)), (0, .ref o), (1, .int p0), (2, .int p1)]) rfl dX7_century_18 rfl (Nat.le_of_ble_eq_true rfl) rfl ?_
  refine ts_iload_n 3 (pc' := 20) rfl dX7_century_19 rfl rfl ?_
  refine ts_i2l (pc' := 21) rfl dX7_century_20 rfl ?_
  refine ts_lstore (pc' := 23) (ls' := [(4, .long (p1).toInt64), (3, .int (hi4 (g.2.2.2 o 3) 9)), (0, .ref o), (1, .int p0), (2, .int p1)]) rfl dX7_century_21 (Nat.le_of_ble_eq_true rfl) rfl ?_
  refine ts_iconst (v := 0) (pc' := 24) rfl dX7_century_23 (by decide) ?_
  refine ts_istore (pc' := 26) (ls' := [(6, .int 0), (4, .long (p1).toInt64), (3, .int (hi4 (g.2.2.2 o 3) 9)), (0, .ref o), (1, .int p0), (2, .int p1)]) rfl dX7_century_24 (Nat.le_of_ble_eq_true rfl) rfl ?_
  exact ts_sub [3, 4, 2, 1, 0] rfl W
set_option maxHeartbeats 4000000 in
theorem wX7_century_26 {d : Nat} {g : ts_G} {Q : Nat → ts_I → ts_K → Prop} {l0 : Nat} {l1 : Int32} {l3 : Int32} {l4 : Int64} {l6 : Int32} {hi : ts_I} {hk : ts_K} (W : ((l1 ≤ l6) → (g.2.1 l0 = 6) ∧ (g.2.2.2 l0 3 ≠ 0) ∧ Q (g.2.2.2 l0 3) hi hk) ∧ (¬ (l1 ≤ l6) → ((l3 ≤ 0) → (g.2.1 l0 = 6) ∧ (g.2.2.2 l0 3 ≠ 0) ∧ Q (g.2.2.2 l0 3) hi hk) ∧ (¬ (l3 ≤ 0) → (g.2.1 l0 = 6) ∧ (g.2.2.2 l0 3 ≠ 0) ∧ (g.2.1 (g.2.2.2 l0 3) = 1) ∧ ∀ hi10 : ts_I, hi10 = ts_up hi (g.2.2.2 l0 3) 11 (1 + ((((l4 * 16807) - (l4 * 16807) / 2147483647 * 2147483647) - ((l4 * 16807) - (l4 * 16807) / 2147483647 * 2147483647) / 9 * 9)).toInt32) → (¬ (l3).toInt64 = 0) ∧ (((lg_cmp (((l4 * 16807) - (l4 * 16807) / 2147483647 * 2147483647) - ((l4 * 16807) - (l4 * 16807) / 2147483647 * 2147483647) / 3 * 3) 0) ≠ 0) → ts_E0 d mX1_hasFrost [.ref (g.2.2.2 l0 3)] g hi10 hk (ts_qi (fun v15 hi13 hk14 => ts_E0 d mX1_pass [.ref (g.2.2.2 l0 3), .int v15] g hi13 hk14 (ts_qv (fun hi16 hk17 => ts_J0 (d + 1) mX7_century (ts_qr Q) g 26 [(0, .ref l0), (1, .int l1), (3, .int l3), (4, .long ((l4 * 16807) - (l4 * 16807) / 2147483647 * 2147483647)), (6, .int (l6 + 1))] [] hi16 hk17))))) ∧ (¬ ((lg_cmp (((l4 * 16807) - (l4 * 16807) / 2147483647 * 2147483647) - ((l4 * 16807) - (l4 * 16807) / 2147483647 * 2147483647) / 3 * 3) 0) ≠ 0) → ts_E0 d mX1_exchange [.ref (g.2.2.2 l0 3), .int ((((l4 * 16807) - (l4 * 16807) / 2147483647 * 2147483647) - ((l4 * 16807) - (l4 * 16807) / 2147483647 * 2147483647) / (l3).toInt64 * (l3).toInt64)).toInt32, .int (((((l4 * 16807) - (l4 * 16807) / 2147483647 * 2147483647) / 2) - (((l4 * 16807) - (l4 * 16807) / 2147483647 * 2147483647) / 2) / (l3).toInt64 * (l3).toInt64)).toInt32] g hi10 hk (ts_qv (fun hi18 hk19 => ts_E0 d mX1_hasFrost [.ref (g.2.2.2 l0 3)] g hi18 hk19 (ts_qi (fun v22 hi20 hk21 => ts_E0 d mX1_pass [.ref (g.2.2.2 l0 3), .int v22] g hi20 hk21 (ts_qv (fun hi23 hk24 => ts_J0 (d + 1) mX7_century (ts_qr Q) g 26 [(0, .ref l0), (1, .int l1), (3, .int l3), (4, .long ((l4 * 16807) - (l4 * 16807) / 2147483647 * 2147483647)), (6, .int (l6 + 1))] [] hi23 hk24)))))))))) : ts_J0 (d + 1) mX7_century (ts_qr Q) g 26 [(0, .ref l0), (1, .int l1), (3, .int l3), (4, .long l4), (6, .int l6)] [] hi hk := by
  refine ts_iload 4 (pc' := 28) rfl dX7_century_26 rfl ?_
  refine ts_iload_n 1 (pc' := 29) rfl dX7_century_28 rfl rfl ?_
  refine ts_icmp_ge (pc' := 32) (tgt := 126) rfl dX7_century_29 (by decide) (fun q1 => ?_) (fun q1 => ?_)
  · replace W := W.1 q1
    refine ts_aload_n 0 (pc' := 127) rfl dX7_century_126 rfl rfl ?_
    obtain ⟨c2, W⟩ := W
    obtain ⟨c3, W⟩ := W
    refine ts_getR (pc' := 130) (ci := 6) 3 cfX7.1 cfX7.2.1 cfX7.2.2 rfl (by decide) hnX7_century_X7 flX7_century_35 rfl dX7_century_127 c2 c3 ?_
    exact ts_aret dX7_century_130 rfl (Nat.le_refl _) (Nat.le_refl _) ⟨rfl, _, rfl, W⟩
  · replace W := W.2 q1
    refine ts_iload_n 2 (pc' := 33) rfl dX7_century_32 rfl rfl ?_
    refine ts_if_le (pc' := 36) (tgt := 126) rfl dX7_century_33 (by decide) (fun q4 => ?_) (fun q4 => ?_)
    · replace W := W.1 q4
      refine ts_aload_n 0 (pc' := 127) rfl dX7_century_126 rfl rfl ?_
      obtain ⟨c5, W⟩ := W
      obtain ⟨c6, W⟩ := W
      refine ts_getR (pc' := 130) (ci := 6) 3 cfX7.1 cfX7.2.1 cfX7.2.2 rfl (by decide) hnX7_century_X7 flX7_century_35 rfl dX7_century_127 c5 c6 ?_
      exact ts_aret dX7_century_130 rfl (Nat.le_refl _) (Nat.le_refl _) ⟨rfl, _, rfl, W⟩
    · replace W := W.2 q4
      refine ts_lload 3 (pc' := 38) rfl dX7_century_36 rfl ?_
      refine ts_ldc2 (v := 16807) (pc' := 41) rfl dX7_century_38 (by decide +kernel) ?_
      refine ts_lmul (pc' := 42) rfl dX7_century_41 ?_
      refine ts_ldc2 (v := 2147483647) (pc' := 45) rfl dX7_century_42 (by decide +kernel) ?_
      refine ts_lrem (pc' := 46) rfl dX7_century_45 (by decide) ?_
      refine ts_lstore (pc' := 48) (ls' := [(4, .long ((l4 * 16807) - (l4 * 16807) / 2147483647 * 2147483647)), (0, .ref l0), (1, .int l1), (3, .int l3), (6, .int l6)]) rfl dX7_century_46 (Nat.le_of_ble_eq_true rfl) rfl ?_
      refine ts_aload_n 1 (pc' := 49) rfl dX7_century_48 rfl rfl ?_
      obtain ⟨c7, W⟩ := W
      obtain ⟨c8, W⟩ := W
      refine ts_getR (pc' := 52) (ci := 6) 3 cfX7.1 cfX7.2.1 cfX7.2.2 rfl (by decide) hnX7_century_X7 flX7_century_35 rfl dX7_century_49 c7 c8 ?_
      refine ts_iconst (v := 1) (pc' := 53) rfl dX7_century_52 (by decide) ?_
      refine ts_lload 0 (pc' := 55) rfl dX7_century_53 rfl ?_
      refine ts_ldc2 (v := 9) (pc' := 58) rfl dX7_century_55 (by decide +kernel) ?_
      refine ts_lrem (pc' := 59) rfl dX7_century_58 (by decide) ?_
      refine ts_l2i (pc' := 60) rfl dX7_century_59 rfl ?_
      refine ts_iadd (pc' := 61) rfl dX7_century_60 ?_
      obtain ⟨c9, W⟩ := W
      refine ts_putI (pc' := 64) (ci := 1) 11 cfX1.1 cfX1.2.1 cfX1.2.2 rfl (by decide) hnX7_century_X1 flX7_century_108 tyX1_ok nmX1 rfl rfl rfl dX7_century_61 c9 ?_
      obtain ⟨hi10, ehi10⟩ : ∃ z, z = ts_up hi (g.2.2.2 l0 3) 11 (1 + ((((l4 * 16807) - (l4 * 16807) / 2147483647 * 2147483647) - ((l4 * 16807) - (l4 * 16807) / 2147483647 * 2147483647) / 9 * 9)).toInt32) := ⟨_, rfl⟩
      rw [← ehi10]; replace W := W hi10 ehi10
      refine ts_lload 0 (pc' := 66) rfl dX7_century_64 rfl ?_
      refine ts_iload_n 3 (pc' := 67) rfl dX7_century_66 rfl rfl ?_
      refine ts_i2l (pc' := 68) rfl dX7_century_67 rfl ?_
      obtain ⟨c11, W⟩ := W
      refine ts_lrem (pc' := 69) rfl dX7_century_68 c11 ?_
      refine ts_l2i (pc' := 70) rfl dX7_century_69 rfl ?_
      refine ts_istore (pc' := 72) (ls' := [(7, .int ((((l4 * 16807) - (l4 * 16807) / 2147483647 * 2147483647) - ((l4 * 16807) - (l4 * 16807) / 2147483647 * 2147483647) / (l3).toInt64 * (l3).toInt64)).toInt32), (4, .long ((l4 * 16807) - (l4 * 16807) / 2147483647 * 2147483647)), (0, .ref l0), (1, .int l1), (3, .int l3), (6, .int l6)]) rfl dX7_century_70 (Nat.le_of_ble_eq_true rfl) rfl ?_
      refine ts_lload 1 (pc' := 74) rfl dX7_century_72 rfl ?_
      refine ts_ldc2 (v := 2) (pc' := 77) rfl dX7_century_74 (by decide +kernel) ?_
      refine ts_ldiv (pc' := 78) rfl dX7_century_77 (by decide) ?_
      refine ts_iload_n 4 (pc' := 79) rfl dX7_century_78 rfl rfl ?_
      refine ts_i2l (pc' := 80) rfl dX7_century_79 rfl ?_
      refine ts_lrem (pc' := 81) rfl dX7_century_80 c11 ?_
      refine ts_l2i (pc' := 82) rfl dX7_century_81 rfl ?_
      refine ts_istore (pc' := 84) (ls' := [(8, .int (((((l4 * 16807) - (l4 * 16807) / 2147483647 * 2147483647) / 2) - (((l4 * 16807) - (l4 * 16807) / 2147483647 * 2147483647) / 2) / (l3).toInt64 * (l3).toInt64)).toInt32), (7, .int ((((l4 * 16807) - (l4 * 16807) / 2147483647 * 2147483647) - ((l4 * 16807) - (l4 * 16807) / 2147483647 * 2147483647) / (l3).toInt64 * (l3).toInt64)).toInt32), (4, .long ((l4 * 16807) - (l4 * 16807) / 2147483647 * 2147483647)), (0, .ref l0), (1, .int l1), (3, .int l3), (6, .int l6)]) rfl dX7_century_82 (Nat.le_of_ble_eq_true rfl) rfl ?_
      refine ts_lload 2 (pc' := 86) rfl dX7_century_84 rfl ?_
      refine ts_ldc2 (v := 3) (pc' := 89) rfl dX7_century_86 (by decide +kernel) ?_
      refine ts_lrem (pc' := 90) rfl dX7_century_89 (by decide) ?_
      refine ts_lconst (v := 0) (pc' := 91) rfl dX7_century_90 (by decide) ?_
      refine ts_lcmp (pc' := 92) rfl dX7_century_91 ?_
      refine ts_if_ne (pc' := 95) (tgt := 106) rfl dX7_century_92 (by decide) (fun q12 => ?_) (fun q12 => ?_)
      · replace W := W.1 q12
        refine ts_aload_n 3 (pc' := 107) rfl dX7_century_106 rfl rfl ?_
        refine ts_getR (pc' := 110) (ci := 6) 3 cfX7.1 cfX7.2.1 cfX7.2.2 rfl (by decide) hnX7_century_X7 flX7_century_35 rfl dX7_century_107 c7 c8 ?_
        refine ts_aload_n 3 (pc' := 111) rfl dX7_century_110 rfl rfl ?_
        refine ts_getR (pc' := 114) (ci := 6) 3 cfX7.1 cfX7.2.1 cfX7.2.2 rfl (by decide) hnX7_century_X7 flX7_century_35 rfl dX7_century_111 c7 c8 ?_
        refine ts_callV (M' := mX1_hasFrost) (C := RX1) (pc' := 117) (av := []) (b := (g.2.2.2 l0 3)) rfl dX7_century_114 rfl gX7_century_X1_hasFrost rfl dvX1_hasFrost rfl (ci := 1) cfX1.1 (by decide) c9 (Nat.le_refl _) (Nat.le_of_ble_eq_true rfl) (Nat.le_of_ble_eq_true rfl) (Nat.le_refl _) (Nat.le_refl _) ts_kv0 W (ts_kki fun v15 hi13 hk14 W => ?_)
        refine ts_callV (M' := mX1_pass) (C := RX1) (pc' := 120) (av := [.int v15]) (b := (g.2.2.2 l0 3)) rfl dX7_century_117 rfl gX7_century_X1_pass rfl dvX1_pass rfl (ci := 1) cfX1.1 (by decide) c9 (Nat.le_refl _) (Nat.le_of_ble_eq_true rfl) (Nat.le_of_ble_eq_true rfl) (Nat.le_refl _) (Nat.le_refl _) ts_kv0 W (ts_kkv fun hi16 hk17 W => ?_)
        refine ts_iinc 6 (pc' := 123) (ls' := [(6, .int (l6 + 1)), (8, .int (((((l4 * 16807) - (l4 * 16807) / 2147483647 * 2147483647) / 2) - (((l4 * 16807) - (l4 * 16807) / 2147483647 * 2147483647) / 2) / (l3).toInt64 * (l3).toInt64)).toInt32), (7, .int ((((l4 * 16807) - (l4 * 16807) / 2147483647 * 2147483647) - ((l4 * 16807) - (l4 * 16807) / 2147483647 * 2147483647) / (l3).toInt64 * (l3).toInt64)).toInt32), (4, .long ((l4 * 16807) - (l4 * 16807) / 2147483647 * 2147483647)), (0, .ref l0), (1, .int l1), (3, .int l3)]) rfl dX7_century_120 rfl rfl (Nat.le_of_ble_eq_true rfl) rfl ?_
        refine ts_goto (tgt := 26) dX7_century_123 (by decide) ?_
        exact ts_sub [4, 5, 6, 3, 0] rfl W
      · replace W := W.2 q12
        refine ts_aload_n 3 (pc' := 96) rfl dX7_century_95 rfl rfl ?_
        refine ts_getR (pc' := 99) (ci := 6) 3 cfX7.1 cfX7.2.1 cfX7.2.2 rfl (by decide) hnX7_century_X7 flX7_century_35 rfl dX7_century_96 c7 c8 ?_
        refine ts_iload 1 (pc' := 101) rfl dX7_century_99 rfl ?_
        refine ts_iload 0 (pc' := 103) rfl dX7_century_101 rfl ?_
        refine ts_callV (M' := mX1_exchange) (C := RX1) (pc' := 106) (av := [.int ((((l4 * 16807) - (l4 * 16807) / 2147483647 * 2147483647) - ((l4 * 16807) - (l4 * 16807) / 2147483647 * 2147483647) / (l3).toInt64 * (l3).toInt64)).toInt32, .int (((((l4 * 16807) - (l4 * 16807) / 2147483647 * 2147483647) / 2) - (((l4 * 16807) - (l4 * 16807) / 2147483647 * 2147483647) / 2) / (l3).toInt64 * (l3).toInt64)).toInt32]) (b := (g.2.2.2 l0 3)) rfl dX7_century_103 rfl gX7_century_X1_exchange rfl dvX1_exchange rfl (ci := 1) cfX1.1 (by decide) c9 (Nat.le_refl _) (Nat.le_of_ble_eq_true rfl) (Nat.le_of_ble_eq_true rfl) (Nat.le_refl _) (Nat.le_refl _) ts_kv0 W (ts_kkv fun hi18 hk19 W => ?_)
        refine ts_aload_n 3 (pc' := 107) rfl dX7_century_106 rfl rfl ?_
        refine ts_getR (pc' := 110) (ci := 6) 3 cfX7.1 cfX7.2.1 cfX7.2.2 rfl (by decide) hnX7_century_X7 flX7_century_35 rfl dX7_century_107 c7 c8 ?_
        refine ts_aload_n 3 (pc' := 111) rfl dX7_century_110 rfl rfl ?_
        refine ts_getR (pc' := 114) (ci := 6) 3 cfX7.1 cfX7.2.1 cfX7.2.2 rfl (by decide) hnX7_century_X7 flX7_century_35 rfl dX7_century_111 c7 c8 ?_
        refine ts_callV (M' := mX1_hasFrost) (C := RX1) (pc' := 117) (av := []) (b := (g.2.2.2 l0 3)) rfl dX7_century_114 rfl gX7_century_X1_hasFrost rfl dvX1_hasFrost rfl (ci := 1) cfX1.1 (by decide) c9 (Nat.le_refl _) (Nat.le_of_ble_eq_true rfl) (Nat.le_of_ble_eq_true rfl) (Nat.le_refl _) (Nat.le_refl _) ts_kv0 W (ts_kki fun v22 hi20 hk21 W => ?_)
        refine ts_callV (M' := mX1_pass) (C := RX1) (pc' := 120) (av := [.int v22]) (b := (g.2.2.2 l0 3)) rfl dX7_century_117 rfl gX7_century_X1_pass rfl dvX1_pass rfl (ci := 1) cfX1.1 (by decide) c9 (Nat.le_refl _) (Nat.le_of_ble_eq_true rfl) (Nat.le_of_ble_eq_true rfl) (Nat.le_refl _) (Nat.le_refl _) ts_kv0 W (ts_kkv fun hi23 hk24 W => ?_)
        refine ts_iinc 6 (pc' := 123) (ls' := [(6, .int (l6 + 1)), (8, .int (((((l4 * 16807) - (l4 * 16807) / 2147483647 * 2147483647) / 2) - (((l4 * 16807) - (l4 * 16807) / 2147483647 * 2147483647) / 2) / (l3).toInt64 * (l3).toInt64)).toInt32), (7, .int ((((l4 * 16807) - (l4 * 16807) / 2147483647 * 2147483647) - ((l4 * 16807) - (l4 * 16807) / 2147483647 * 2147483647) / (l3).toInt64 * (l3).toInt64)).toInt32), (4, .long ((l4 * 16807) - (l4 * 16807) / 2147483647 * 2147483647)), (0, .ref l0), (1, .int l1), (3, .int l3)]) rfl dX7_century_120 rfl rfl (Nat.le_of_ble_eq_true rfl) rfl ?_
        refine ts_goto (tgt := 26) dX7_century_123 (by decide) ?_
        exact ts_sub [4, 5, 6, 3, 0] rfl W
