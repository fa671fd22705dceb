theorem hnX1_begin_X1 : ∀ w ∈ u_ws RX1 TX1 13, w ∈ wsX1_begin := by decide +kernel
theorem flX1_begin_27 : Cond.fieldLink RX1 27 "TurnipSquires$Field" "mate" "[I" ∈ wsX1_begin := by decide +kernel
theorem flX1_begin_30 : Cond.fieldLink RX1 30 "TurnipSquires$Field" "place" "[I" ∈ wsX1_begin := by decide +kernel
theorem flX1_begin_33 : Cond.fieldLink RX1 33 "TurnipSquires$Field" "at" "[I" ∈ wsX1_begin := by decide +kernel
theorem flX1_begin_42 : Cond.fieldLink RX1 42 "TurnipSquires$Field" "count" "I" ∈ wsX1_begin := by decide +kernel
theorem flX1_begin_46 : Cond.fieldLink RX1 46 "TurnipSquires$Field" "year" "I" ∈ wsX1_begin := by decide +kernel
set_option maxHeartbeats 4000000 in
theorem wX1_begin_0 {d : Nat} {g : ts_G} {Q : ts_I → ts_K → Prop} {o : Nat} {hi : ts_I} {hk : ts_K} (W : (g.2.1 o = 1) ∧ ∀ hi2 : ts_I, hi2 = ts_up hi o 9 0 → ∀ hi3 : ts_I, hi3 = ts_up hi2 o 10 0 → ts_J0 d mX1_begin (ts_qv Q) g 12 [(0, .ref o), (1, .int 0)] [] hi3 hk) : ts_J0 d mX1_begin (ts_qv Q) g 0 [(0, .ref o)] [] hi hk := by
  refine ts_aload_n 0 (pc' := 1) rfl dX1_begin_0 rfl rfl ?_
  refine ts_iconst (v := 0) (pc' := 2) rfl dX1_begin_1 (by decide) ?_
  obtain ⟨c1, W⟩ := W
  refine ts_putI (pc' := 5) (ci := 1) 9 cfX1.1 cfX1.2.1 cfX1.2.2 rfl (by decide) hnX1_begin_X1 flX1_begin_42 tyX1_ok nmX1 rfl rfl rfl dX1_begin_2 c1 ?_
  obtain ⟨hi2, ehi2⟩ : ∃ z, z = ts_up hi o 9 0 := ⟨_, rfl⟩
  rw [← ehi2]; replace W := W hi2 ehi2
  refine ts_aload_n 0 (pc' := 6) rfl dX1_begin_5 rfl rfl ?_
  refine ts_iconst (v := 0) (pc' := 7) rfl dX1_begin_6 (by decide) ?_
  refine ts_putI (pc' := 10) (ci := 1) 10 cfX1.1 cfX1.2.1 cfX1.2.2 rfl (by decide) hnX1_begin_X1 flX1_begin_46 tyX1_ok nmX1 rfl rfl rfl dX1_begin_7 c1 ?_
  obtain ⟨hi3, ehi3⟩ : ∃ z, z = ts_up hi2 o 10 0 := ⟨_, rfl⟩
  rw [← ehi3]; replace W := W hi3 ehi3
  refine ts_iconst (v := 0) (pc' := 11) rfl dX1_begin_10 (by decide) ?_
  refine ts_istore_n (pc' := 12) (ls' := [(1, .int 0), (0, .ref o)]) rfl dX1_begin_11 rfl (Nat.le_of_ble_eq_true rfl) rfl ?_
  exact ts_sub [1, 0] rfl W
set_option maxHeartbeats 4000000 in
theorem wX1_begin_12 {d : Nat} {g : ts_G} {Q : ts_I → ts_K → Prop} {l0 : Nat} {l1 : Int32} {hi : ts_I} {hk : ts_K} (W : ((7 ≤ l1) → Q hi hk) ∧ (¬ (7 ≤ l1) → (g.2.1 l0 = 1) ∧ (g.2.2.2 l0 4 ≠ 0) ∧ (g.2.1 (g.2.2.2 l0 4) = 100) ∧ (vp_in l1 (g.2.2.1 (g.2.2.2 l0 4))) ∧ ∀ hi6 : ts_I, hi6 = ts_up hi (g.2.2.2 l0 4) l1.toNatClampNeg (-1) → (g.2.2.2 l0 5 ≠ 0) ∧ (g.2.1 (g.2.2.2 l0 5) = 100) ∧ (vp_in l1 (g.2.2.1 (g.2.2.2 l0 5))) ∧ ∀ hi10 : ts_I, hi10 = ts_up hi6 (g.2.2.2 l0 5) l1.toNatClampNeg l1 → (g.2.2.2 l0 6 ≠ 0) ∧ (g.2.1 (g.2.2.2 l0 6) = 100) ∧ (vp_in l1 (g.2.2.1 (g.2.2.2 l0 6))) ∧ ∀ hi14 : ts_I, hi14 = ts_up hi10 (g.2.2.2 l0 6) l1.toNatClampNeg l1 → ts_J0 d mX1_begin (ts_qv Q) g 12 [(0, .ref l0), (1, .int (l1 + 1))] [] hi14 hk)) : ts_J0 d mX1_begin (ts_qv Q) g 12 [(0, .ref l0), (1, .int l1)] [] hi hk := by
  refine ts_iload_n 1 (pc' := 13) rfl dX1_begin_12 rfl rfl ?_
  refine ts_bipush (v := 7) (pc' := 15) rfl dX1_begin_13 (by decide) ?_
  refine ts_icmp_ge (pc' := 18) (tgt := 45) rfl dX1_begin_15 (by decide) (fun q1 => ?_) (fun q1 => ?_)
  · replace W := W.1 q1
    exact ts_vret dX1_begin_45 rfl (Nat.le_refl _) (Nat.le_refl _) ⟨rfl, rfl, W⟩
  · replace W := W.2 q1
    refine ts_aload_n 0 (pc' := 19) rfl dX1_begin_18 rfl rfl ?_
    obtain ⟨c2, W⟩ := W
    obtain ⟨c3, W⟩ := W
    refine ts_getR (pc' := 22) (ci := 1) 4 cfX1.1 cfX1.2.1 cfX1.2.2 rfl (by decide) hnX1_begin_X1 flX1_begin_27 rfl dX1_begin_19 c2 c3 ?_
    refine ts_iload_n 1 (pc' := 23) rfl dX1_begin_22 rfl rfl ?_
    refine ts_iconst (v := (-1)) (pc' := 24) rfl dX1_begin_23 (by decide) ?_
    obtain ⟨c4, W⟩ := W
    obtain ⟨c5, W⟩ := W
    refine ts_iastore (pc' := 25) rfl dX1_begin_24 c4 c5 ?_
    obtain ⟨hi6, ehi6⟩ : ∃ z, z = ts_up hi (g.2.2.2 l0 4) l1.toNatClampNeg (-1) := ⟨_, rfl⟩
    rw [← ehi6]; replace W := W hi6 ehi6
    refine ts_aload_n 0 (pc' := 26) rfl dX1_begin_25 rfl rfl ?_
    obtain ⟨c7, W⟩ := W
    refine ts_getR (pc' := 29) (ci := 1) 5 cfX1.1 cfX1.2.1 cfX1.2.2 rfl (by decide) hnX1_begin_X1 flX1_begin_30 rfl dX1_begin_26 c2 c7 ?_
    refine ts_iload_n 1 (pc' := 30) rfl dX1_begin_29 rfl rfl ?_
    refine ts_iload_n 1 (pc' := 31) rfl dX1_begin_30 rfl rfl ?_
    obtain ⟨c8, W⟩ := W
    obtain ⟨c9, W⟩ := W
    refine ts_iastore (pc' := 32) rfl dX1_begin_31 c8 c9 ?_
    obtain ⟨hi10, ehi10⟩ : ∃ z, z = ts_up hi6 (g.2.2.2 l0 5) l1.toNatClampNeg l1 := ⟨_, rfl⟩
    rw [← ehi10]; replace W := W hi10 ehi10
    refine ts_aload_n 0 (pc' := 33) rfl dX1_begin_32 rfl rfl ?_
    obtain ⟨c11, W⟩ := W
    refine ts_getR (pc' := 36) (ci := 1) 6 cfX1.1 cfX1.2.1 cfX1.2.2 rfl (by decide) hnX1_begin_X1 flX1_begin_33 rfl dX1_begin_33 c2 c11 ?_
    refine ts_iload_n 1 (pc' := 37) rfl dX1_begin_36 rfl rfl ?_
    refine ts_iload_n 1 (pc' := 38) rfl dX1_begin_37 rfl rfl ?_
    obtain ⟨c12, W⟩ := W
    obtain ⟨c13, W⟩ := W
    refine ts_iastore (pc' := 39) rfl dX1_begin_38 c12 c13 ?_
    obtain ⟨hi14, ehi14⟩ : ∃ z, z = ts_up hi10 (g.2.2.2 l0 6) l1.toNatClampNeg l1 := ⟨_, rfl⟩
    rw [← ehi14]; replace W := W hi14 ehi14
    refine ts_iinc 1 (pc' := 42) (ls' := [(1, .int (l1 + 1)), (0, .ref l0)]) rfl dX1_begin_39 rfl rfl (Nat.le_of_ble_eq_true rfl) rfl ?_
    refine ts_goto (tgt := 12) dX1_begin_42 (by decide) ?_
    exact ts_sub [1, 0] rfl W
theorem hnX1_become_X1 : ∀ w ∈ u_ws RX1 TX1 13, w ∈ wsX1_become := by decide +kernel
theorem flX1_become_11 : Cond.fieldLink RX1 11 "TurnipSquires$Field" "kind" "[LTurnipSquires$Kind;" ∈ wsX1_become := by decide +kernel
theorem flX1_become_17 : Cond.fieldLink RX1 17 "TurnipSquires$Field" "rank" "[I" ∈ wsX1_become := by decide +kernel
theorem flX1_become_21 : Cond.fieldLink RX1 21 "TurnipSquires$Field" "grown" "[I" ∈ wsX1_become := by decide +kernel
theorem flX1_become_24 : Cond.fieldLink RX1 24 "TurnipSquires$Field" "lean" "[I" ∈ wsX1_become := by decide +kernel
theorem flX1_become_27 : Cond.fieldLink RX1 27 "TurnipSquires$Field" "mate" "[I" ∈ wsX1_become := by decide +kernel
theorem flX1_become_30 : Cond.fieldLink RX1 30 "TurnipSquires$Field" "place" "[I" ∈ wsX1_become := by decide +kernel
theorem flX1_become_33 : Cond.fieldLink RX1 33 "TurnipSquires$Field" "at" "[I" ∈ wsX1_become := by decide +kernel
theorem flX1_become_42 : Cond.fieldLink RX1 42 "TurnipSquires$Field" "count" "I" ∈ wsX1_become := by decide +kernel
theorem flX1_become_46 : Cond.fieldLink RX1 46 "TurnipSquires$Field" "year" "I" ∈ wsX1_become := by decide +kernel
theorem flX1_become_49 : Cond.fieldLink RX1 49 "TurnipSquires$Field" "ground" "I" ∈ wsX1_become := by decide +kernel
theorem flX1_become_52 : Cond.fieldLink RX1 52 "TurnipSquires$Field" "frost" "I" ∈ wsX1_become := by decide +kernel
set_option maxHeartbeats 4000000 in
theorem wX1_become_0 {d : Nat} {g : ts_G} {Q : ts_I → ts_K → Prop} {o : Nat} {p0 : Nat} {hi : ts_I} {hk : ts_K} (W : (g.2.1 p0 = 1) ∧ (g.2.1 o = 1) ∧ ∀ hi3 : ts_I, hi3 = ts_up hi o 9 (hi p0 9) → ∀ hi4 : ts_I, hi4 = ts_up hi3 o 10 (hi3 p0 10) → ∀ hi5 : ts_I, hi5 = ts_up hi4 o 11 (hi4 p0 11) → ∀ hi6 : ts_I, hi6 = ts_up hi5 o 12 (hi5 p0 12) → ts_J0 (d + 1) mX1_become (ts_qv Q) g 34 [(0, .ref o), (1, .ref p0), (2, .int 0)] [] hi6 hk) : ts_J0 (d + 1) mX1_become (ts_qv Q) g 0 [(0, .ref o), (1, .ref p0)] [] hi hk := by
  refine ts_aload_n 0 (pc' := 1) rfl dX1_become_0 rfl rfl ?_
  refine ts_aload_n 1 (pc' := 2) rfl dX1_become_1 rfl rfl ?_
  obtain ⟨c1, W⟩ := W
  refine ts_getI (pc' := 5) (ci := 1) 9 cfX1.1 cfX1.2.1 cfX1.2.2 rfl (by decide) hnX1_become_X1 flX1_become_42 rfl dX1_become_2 c1 ?_
  obtain ⟨c2, W⟩ := W
  refine ts_putI (pc' := 8) (ci := 1) 9 cfX1.1 cfX1.2.1 cfX1.2.2 rfl (by decide) hnX1_become_X1 flX1_become_42 tyX1_ok nmX1 rfl rfl rfl dX1_become_5 c2 ?_
  obtain ⟨hi3, ehi3⟩ : ∃ z, z = ts_up hi o 9 (hi p0 9) := ⟨_, rfl⟩
  rw [← ehi3]; replace W := W hi3 ehi3
  refine ts_aload_n 0 (pc' := 9) rfl dX1_become_8 rfl rfl ?_
  refine ts_aload_n 1 (pc' := 10) rfl dX1_become_9 rfl rfl ?_
  refine ts_getI (pc' := 13) (ci := 1) 10 cfX1.1 cfX1.2.1 cfX1.2.2 rfl (by decide) hnX1_become_X1 flX1_become_46 rfl dX1_become_10 c1 ?_
  refine ts_putI (pc' := 16) (ci := 1) 10 cfX1.1 cfX1.2.1 cfX1.2.2 rfl (by decide) hnX1_become_X1 flX1_become_46 tyX1_ok nmX1 rfl rfl rfl dX1_become_13 c2 ?_
  obtain ⟨hi4, ehi4⟩ : ∃ z, z = ts_up hi3 o 10 (hi3 p0 10) := ⟨_, rfl⟩
  rw [← ehi4]; replace W := W hi4 ehi4
  refine ts_aload_n 0 (pc' := 17) rfl dX1_become_16 rfl rfl ?_
  refine ts_aload_n 1 (pc' := 18) rfl dX1_become_17 rfl rfl ?_
  refine ts_getI (pc' := 21) (ci := 1) 11 cfX1.1 cfX1.2.1 cfX1.2.2 rfl (by decide) hnX1_become_X1 flX1_become_49 rfl dX1_become_18 c1 ?_
  refine ts_putI (pc' := 24) (ci := 1) 11 cfX1.1 cfX1.2.1 cfX1.2.2 rfl (by decide) hnX1_become_X1 flX1_become_49 tyX1_ok nmX1 rfl rfl rfl dX1_become_21 c2 ?_
  obtain ⟨hi5, ehi5⟩ : ∃ z, z = ts_up hi4 o 11 (hi4 p0 11) := ⟨_, rfl⟩
  rw [← ehi5]; replace W := W hi5 ehi5
  refine ts_aload_n 0 (pc' := 25) rfl dX1_become_24 rfl rfl ?_
  refine ts_aload_n 1 (pc' := 26) rfl dX1_become_25 rfl rfl ?_
  refine ts_getI (pc' := 29) (ci := 1) 12 cfX1.1 cfX1.2.1 cfX1.2.2 rfl (by decide) hnX1_become_X1 flX1_become_52 rfl dX1_become_26 c1 ?_
  refine ts_putI (pc' := 32) (ci := 1) 12 cfX1.1 cfX1.2.1 cfX1.2.2 rfl (by decide) hnX1_become_X1 flX1_become_52 tyX1_ok nmX1 rfl rfl rfl dX1_become_29 c2 ?_
  obtain ⟨hi6, ehi6⟩ : ∃ z, z = ts_up hi5 o 12 (hi5 p0 12) := ⟨_, rfl⟩
  rw [← ehi6]; replace W := W hi6 ehi6
  refine ts_iconst (v := 0) (pc' := 33) rfl dX1_become_32 (by decide) ?_
  refine ts_istore_n (pc' := 34) (ls' := [(2, .int 0), (0, .ref o), (1, .ref p0)]) rfl dX1_become_33 rfl (Nat.le_of_ble_eq_true rfl) rfl ?_
  exact ts_sub [1, 2, 0] rfl W
set_option maxHeartbeats 4000000 in
theorem wX1_become_34 {d : Nat} {g : ts_G} {Q : ts_I → ts_K → Prop} {l0 : Nat} {l1 : Nat} {l2 : Int32} {hi : ts_I} {hk : ts_K} (W : ((7 ≤ l2) → (g.2.1 l1 = 1) ∧ (g.2.2.2 l1 1 ≠ 0) ∧ (g.2.1 l0 = 1) ∧ (g.2.2.2 l0 1 ≠ 0) ∧ (g.2.1 (g.2.2.2 l1 1) = 100) ∧ (g.2.1 (g.2.2.2 l0 1) = 100) ∧ ((0 : Int32).toNatClampNeg + (7 : Int32).toNatClampNeg ≤ g.2.2.1 (g.2.2.2 l1 1)) ∧ ((0 : Int32).toNatClampNeg + (7 : Int32).toNatClampNeg ≤ g.2.2.1 (g.2.2.2 l0 1)) ∧ ∀ hi10 : ts_I, hi10 = ts_cp hi (g.2.2.2 l1 1) (0 : Int32).toNatClampNeg (g.2.2.2 l0 1) (0 : Int32).toNatClampNeg (7 : Int32).toNatClampNeg → (g.2.2.2 l1 2 ≠ 0) ∧ (g.2.2.2 l0 2 ≠ 0) ∧ (g.2.1 (g.2.2.2 l1 2) = 100) ∧ (g.2.1 (g.2.2.2 l0 2) = 100) ∧ ((0 : Int32).toNatClampNeg + (7 : Int32).toNatClampNeg ≤ g.2.2.1 (g.2.2.2 l1 2)) ∧ ((0 : Int32).toNatClampNeg + (7 : Int32).toNatClampNeg ≤ g.2.2.1 (g.2.2.2 l0 2)) ∧ ∀ hi17 : ts_I, hi17 = ts_cp hi10 (g.2.2.2 l1 2) (0 : Int32).toNatClampNeg (g.2.2.2 l0 2) (0 : Int32).toNatClampNeg (7 : Int32).toNatClampNeg → (g.2.2.2 l1 3 ≠ 0) ∧ (g.2.2.2 l0 3 ≠ 0) ∧ (g.2.1 (g.2.2.2 l1 3) = 100) ∧ (g.2.1 (g.2.2.2 l0 3) = 100) ∧ ((0 : Int32).toNatClampNeg + (7 : Int32).toNatClampNeg ≤ g.2.2.1 (g.2.2.2 l1 3)) ∧ ((0 : Int32).toNatClampNeg + (7 : Int32).toNatClampNeg ≤ g.2.2.1 (g.2.2.2 l0 3)) ∧ ∀ hi24 : ts_I, hi24 = ts_cp hi17 (g.2.2.2 l1 3) (0 : Int32).toNatClampNeg (g.2.2.2 l0 3) (0 : Int32).toNatClampNeg (7 : Int32).toNatClampNeg → (g.2.2.2 l1 4 ≠ 0) ∧ (g.2.2.2 l0 4 ≠ 0) ∧ (g.2.1 (g.2.2.2 l1 4) = 100) ∧ (g.2.1 (g.2.2.2 l0 4) = 100) ∧ ((0 : Int32).toNatClampNeg + (7 : Int32).toNatClampNeg ≤ g.2.2.1 (g.2.2.2 l1 4)) ∧ ((0 : Int32).toNatClampNeg + (7 : Int32).toNatClampNeg ≤ g.2.2.1 (g.2.2.2 l0 4)) ∧ ∀ hi31 : ts_I, hi31 = ts_cp hi24 (g.2.2.2 l1 4) (0 : Int32).toNatClampNeg (g.2.2.2 l0 4) (0 : Int32).toNatClampNeg (7 : Int32).toNatClampNeg → (g.2.2.2 l1 5 ≠ 0) ∧ (g.2.2.2 l0 5 ≠ 0) ∧ (g.2.1 (g.2.2.2 l1 5) = 100) ∧ (g.2.1 (g.2.2.2 l0 5) = 100) ∧ ((0 : Int32).toNatClampNeg + (7 : Int32).toNatClampNeg ≤ g.2.2.1 (g.2.2.2 l1 5)) ∧ ((0 : Int32).toNatClampNeg + (7 : Int32).toNatClampNeg ≤ g.2.2.1 (g.2.2.2 l0 5)) ∧ ∀ hi38 : ts_I, hi38 = ts_cp hi31 (g.2.2.2 l1 5) (0 : Int32).toNatClampNeg (g.2.2.2 l0 5) (0 : Int32).toNatClampNeg (7 : Int32).toNatClampNeg → (g.2.2.2 l1 6 ≠ 0) ∧ (g.2.2.2 l0 6 ≠ 0) ∧ (g.2.1 (g.2.2.2 l1 6) = 100) ∧ (g.2.1 (g.2.2.2 l0 6) = 100) ∧ ((0 : Int32).toNatClampNeg + (7 : Int32).toNatClampNeg ≤ g.2.2.1 (g.2.2.2 l1 6)) ∧ ((0 : Int32).toNatClampNeg + (7 : Int32).toNatClampNeg ≤ g.2.2.1 (g.2.2.2 l0 6)) ∧ ∀ hi45 : ts_I, hi45 = ts_cp hi38 (g.2.2.2 l1 6) (0 : Int32).toNatClampNeg (g.2.2.2 l0 6) (0 : Int32).toNatClampNeg (7 : Int32).toNatClampNeg → Q hi45 hk) ∧ (¬ (7 ≤ l2) → (g.2.1 l0 = 1) ∧ (g.2.2.2 l0 0 ≠ 0) ∧ (g.2.1 l1 = 1) ∧ (g.2.2.2 l1 0 ≠ 0) ∧ (g.2.1 (g.2.2.2 l1 0) = 103) ∧ (vp_in l2 (g.2.2.1 (g.2.2.2 l1 0))) ∧ (hk (g.2.2.2 l1 0) l2.toNatClampNeg ≠ 0) ∧ (g.2.1 (g.2.2.2 l0 0) = 103) ∧ (vp_in l2 (g.2.2.1 (g.2.2.2 l0 0))) ∧ (g.2.1 (hk (g.2.2.2 l1 0) l2.toNatClampNeg) = 0 ∨ g.2.1 (hk (g.2.2.2 l1 0) l2.toNatClampNeg) = 2 ∨ g.2.1 (hk (g.2.2.2 l1 0) l2.toNatClampNeg) = 3 ∨ g.2.1 (hk (g.2.2.2 l1 0) l2.toNatClampNeg) = 4 ∨ g.2.1 (hk (g.2.2.2 l1 0) l2.toNatClampNeg) = 7) ∧ ∀ hk56 : ts_K, hk56 = ts_uk hk (g.2.2.2 l0 0) l2.toNatClampNeg (hk (g.2.2.2 l1 0) l2.toNatClampNeg) → ts_J0 (d + 1) mX1_become (ts_qv Q) g 34 [(0, .ref l0), (1, .ref l1), (2, .int (l2 + 1))] [] hi hk56)) : ts_J0 (d + 1) mX1_become (ts_qv Q) g 34 [(0, .ref l0), (1, .ref l1), (2, .int l2)] [] hi hk := by
  refine ts_iload_n 2 (pc' := 35) rfl dX1_become_34 rfl rfl ?_
  refine ts_bipush (v := 7) (pc' := 37) rfl dX1_become_35 (by decide) ?_
  refine ts_icmp_ge (pc' := 40) (tgt := 58) rfl dX1_become_37 (by decide) (fun q1 => ?_) (fun q1 => ?_)
  · replace W := W.1 q1
    refine ts_aload_n 1 (pc' := 59) rfl dX1_become_58 rfl rfl ?_
    obtain ⟨c2, W⟩ := W
    obtain ⟨c3, W⟩ := W
    refine ts_getR (pc' := 62) (ci := 1) 1 cfX1.1 cfX1.2.1 cfX1.2.2 rfl (by decide) hnX1_become_X1 flX1_become_17 rfl dX1_become_59 c2 c3 ?_
    refine ts_iconst (v := 0) (pc' := 63) rfl dX1_become_62 (by decide) ?_
    refine ts_aload_n 0 (pc' := 64) rfl dX1_become_63 rfl rfl ?_
    obtain ⟨c4, W⟩ := W
    obtain ⟨c5, W⟩ := W
    refine ts_getR (pc' := 67) (ci := 1) 1 cfX1.1 cfX1.2.1 cfX1.2.2 rfl (by decide) hnX1_become_X1 flX1_become_17 rfl dX1_become_64 c4 c5 ?_
    refine ts_iconst (v := 0) (pc' := 68) rfl dX1_become_67 (by decide) ?_
    refine ts_bipush (v := 7) (pc' := 70) rfl dX1_become_68 (by decide) ?_
    obtain ⟨c6, W⟩ := W
    obtain ⟨c7, W⟩ := W
    obtain ⟨c8, W⟩ := W
    obtain ⟨c9, W⟩ := W
    refine ts_acopy (pc' := 73) rfl dX1_become_70 (by decide +kernel) (by decide +kernel) (by decide +kernel) (by decide +kernel) (Nat.le_add_left 1 _) (Nat.le_of_ble_eq_true rfl) c6 c7 (by decide) (by decide) (by decide) c8 c9 ?_
    obtain ⟨hi10, ehi10⟩ : ∃ z, z = ts_cp hi (g.2.2.2 l1 1) (0 : Int32).toNatClampNeg (g.2.2.2 l0 1) (0 : Int32).toNatClampNeg (7 : Int32).toNatClampNeg := ⟨_, rfl⟩
    rw [← ehi10]; replace W := W hi10 ehi10
    refine ts_aload_n 1 (pc' := 74) rfl dX1_become_73 rfl rfl ?_
    obtain ⟨c11, W⟩ := W
    refine ts_getR (pc' := 77) (ci := 1) 2 cfX1.1 cfX1.2.1 cfX1.2.2 rfl (by decide) hnX1_become_X1 flX1_become_21 rfl dX1_become_74 c2 c11 ?_
    refine ts_iconst (v := 0) (pc' := 78) rfl dX1_become_77 (by decide) ?_
    refine ts_aload_n 0 (pc' := 79) rfl dX1_become_78 rfl rfl ?_
    obtain ⟨c12, W⟩ := W
    refine ts_getR (pc' := 82) (ci := 1) 2 cfX1.1 cfX1.2.1 cfX1.2.2 rfl (by decide) hnX1_become_X1 flX1_become_21 rfl dX1_become_79 c4 c12 ?_
    refine ts_iconst (v := 0) (pc' := 83) rfl dX1_become_82 (by decide) ?_
    refine ts_bipush (v := 7) (pc' := 85) rfl dX1_become_83 (by decide) ?_
    obtain ⟨c13, W⟩ := W
    obtain ⟨c14, W⟩ := W
    obtain ⟨c15, W⟩ := W
    obtain ⟨c16, W⟩ := W
    refine ts_acopy (pc' := 88) rfl dX1_become_85 (by decide +kernel) (by decide +kernel) (by decide +kernel) (by decide +kernel) (Nat.le_add_left 1 _) (Nat.le_of_ble_eq_true rfl) c13 c14 (by decide) (by decide) (by decide) c15 c16 ?_
    obtain ⟨hi17, ehi17⟩ : ∃ z, z = ts_cp hi10 (g.2.2.2 l1 2) (0 : Int32).toNatClampNeg (g.2.2.2 l0 2) (0 : Int32).toNatClampNeg (7 : Int32).toNatClampNeg := ⟨_, rfl⟩
    rw [← ehi17]; replace W := W hi17 ehi17
    refine ts_aload_n 1 (pc' := 89) rfl dX1_become_88 rfl rfl ?_
    obtain ⟨c18, W⟩ := W
    refine ts_getR (pc' := 92) (ci := 1) 3 cfX1.1 cfX1.2.1 cfX1.2.2 rfl (by decide) hnX1_become_X1 flX1_become_24 rfl dX1_become_89 c2 c18 ?_
    refine ts_iconst (v := 0) (pc' := 93) rfl dX1_become_92 (by decide) ?_
    refine ts_aload_n 0 (pc' := 94) rfl dX1_become_93 rfl rfl ?_
    obtain ⟨c19, W⟩ := W
    refine ts_getR (pc' := 97) (ci := 1) 3 cfX1.1 cfX1.2.1 cfX1.2.2 rfl (by decide) hnX1_become_X1 flX1_become_24 rfl dX1_become_94 c4 c19 ?_
    refine ts_iconst (v := 0) (pc' := 98) rfl dX1_become_97 (by decide) ?_
    refine ts_bipush (v := 7) (pc' := 100) rfl dX1_become_98 (by decide) ?_
    obtain ⟨c20, W⟩ := W
    obtain ⟨c21, W⟩ := W
    obtain ⟨c22, W⟩ := W
    obtain ⟨c23, W⟩ := W
    refine ts_acopy (pc' := 103) rfl dX1_become_100 (by decide +kernel) (by decide +kernel) (by decide +kernel) (by decide +kernel) (Nat.le_add_left 1 _) (Nat.le_of_ble_eq_true rfl) c20 c21 (by decide) (by decide) (by decide) c22 c23 ?_
    obtain ⟨hi24, ehi24⟩ : ∃ z, z = ts_cp hi17 (g.2.2.2 l1 3) (0 : Int32).toNatClampNeg (g.2.2.2 l0 3) (0 : Int32).toNatClampNeg (7 : Int32).toNatClampNeg := ⟨_, rfl⟩
    rw [← ehi24]; replace W := W hi24 ehi24
    refine ts_aload_n 1 (pc' := 104) rfl dX1_become_103 rfl rfl ?_
    obtain ⟨c25, W⟩ := W
    refine ts_getR (pc' := 107) (ci := 1) 4 cfX1.1 cfX1.2.1 cfX1.2.2 rfl (by decide) hnX1_become_X1 flX1_become_27 rfl dX1_become_104 c2 c25 ?_
    refine ts_iconst (v := 0) (pc' := 108) rfl dX1_become_107 (by decide) ?_
    refine ts_aload_n 0 (pc' := 109) rfl dX1_become_108 rfl rfl ?_
    obtain ⟨c26, W⟩ := W
    refine ts_getR (pc' := 112) (ci := 1) 4 cfX1.1 cfX1.2.1 cfX1.2.2 rfl (by decide) hnX1_become_X1 flX1_become_27 rfl dX1_become_109 c4 c26 ?_
    refine ts_iconst (v := 0) (pc' := 113) rfl dX1_become_112 (by decide) ?_
    refine ts_bipush (v := 7) (pc' := 115) rfl dX1_become_113 (by decide) ?_
    obtain ⟨c27, W⟩ := W
    obtain ⟨c28, W⟩ := W
    obtain ⟨c29, W⟩ := W
    obtain ⟨c30, W⟩ := W
    refine ts_acopy (pc' := 118) rfl dX1_become_115 (by decide +kernel) (by decide +kernel) (by decide +kernel) (by decide +kernel) (Nat.le_add_left 1 _) (Nat.le_of_ble_eq_true rfl) c27 c28 (by decide) (by decide) (by decide) c29 c30 ?_
    obtain ⟨hi31, ehi31⟩ : ∃ z, z = ts_cp hi24 (g.2.2.2 l1 4) (0 : Int32).toNatClampNeg (g.2.2.2 l0 4) (0 : Int32).toNatClampNeg (7 : Int32).toNatClampNeg := ⟨_, rfl⟩
    rw [← ehi31]; replace W := W hi31 ehi31
    refine ts_aload_n 1 (pc' := 119) rfl dX1_become_118 rfl rfl ?_
    obtain ⟨c32, W⟩ := W
    refine ts_getR (pc' := 122) (ci := 1) 5 cfX1.1 cfX1.2.1 cfX1.2.2 rfl (by decide) hnX1_become_X1 flX1_become_30 rfl dX1_become_119 c2 c32 ?_
    refine ts_iconst (v := 0) (pc' := 123) rfl dX1_become_122 (by decide) ?_
    refine ts_aload_n 0 (pc' := 124) rfl dX1_become_123 rfl rfl ?_
    obtain ⟨c33, W⟩ := W
    refine ts_getR (pc' := 127) (ci := 1) 5 cfX1.1 cfX1.2.1 cfX1.2.2 rfl (by decide) hnX1_become_X1 flX1_become_30 rfl dX1_become_124 c4 c33 ?_
    refine ts_iconst (v := 0) (pc' := 128) rfl dX1_become_127 (by decide) ?_
    refine ts_bipush (v := 7) (pc' := 130) rfl dX1_become_128 (by decide) ?_
    obtain ⟨c34, W⟩ := W
    obtain ⟨c35, W⟩ := W
    obtain ⟨c36, W⟩ := W
    obtain ⟨c37, W⟩ := W
    refine ts_acopy (pc' := 133) rfl dX1_become_130 (by decide +kernel) (by decide +kernel) (by decide +kernel) (by decide +kernel) (Nat.le_add_left 1 _) (Nat.le_of_ble_eq_true rfl) c34 c35 (by decide) (by decide) (by decide) c36 c37 ?_
    obtain ⟨hi38, ehi38⟩ : ∃ z, z = ts_cp hi31 (g.2.2.2 l1 5) (0 : Int32).toNatClampNeg (g.2.2.2 l0 5) (0 : Int32).toNatClampNeg (7 : Int32).toNatClampNeg := ⟨_, rfl⟩
    rw [← ehi38]; replace W := W hi38 ehi38
    refine ts_aload_n 1 (pc' := 134) rfl dX1_become_133 rfl rfl ?_
    obtain ⟨c39, W⟩ := W
    refine ts_getR (pc' := 137) (ci := 1) 6 cfX1.1 cfX1.2.1 cfX1.2.2 rfl (by decide) hnX1_become_X1 flX1_become_33 rfl dX1_become_134 c2 c39 ?_
    refine ts_iconst (v := 0) (pc' := 138) rfl dX1_become_137 (by decide) ?_
    refine ts_aload_n 0 (pc' := 139) rfl dX1_become_138 rfl rfl ?_
    obtain ⟨c40, W⟩ := W
    refine ts_getR (pc' := 142) (ci := 1) 6 cfX1.1 cfX1.2.1 cfX1.2.2 rfl (by decide) hnX1_become_X1 flX1_become_33 rfl dX1_become_139 c4 c40 ?_
    refine ts_iconst (v := 0) (pc' := 143) rfl dX1_become_142 (by decide) ?_
    refine ts_bipush (v := 7) (pc' := 145) rfl dX1_become_143 (by decide) ?_
    obtain ⟨c41, W⟩ := W
    obtain ⟨c42, W⟩ := W
    obtain ⟨c43, W⟩ := W
    obtain ⟨c44, W⟩ := W
    refine ts_acopy (pc' := 148) rfl dX1_become_145 (by decide +kernel) (by decide +kernel) (by decide +kernel) (by decide +kernel) (Nat.le_add_left 1 _) (Nat.le_of_ble_eq_true rfl) c41 c42 (by decide) (by decide) (by decide) c43 c44 ?_
    obtain ⟨hi45, ehi45⟩ : ∃ z, z = ts_cp hi38 (g.2.2.2 l1 6) (0 : Int32).toNatClampNeg (g.2.2.2 l0 6) (0 : Int32).toNatClampNeg (7 : Int32).toNatClampNeg := ⟨_, rfl⟩
    rw [← ehi45]; replace W := W hi45 ehi45
    exact ts_vret dX1_become_148 rfl (Nat.le_refl _) (Nat.le_refl _) ⟨rfl, rfl, W⟩
  · replace W := W.2 q1
    refine ts_aload_n 0 (pc' := 41) rfl dX1_become_40 rfl rfl ?_
    obtain ⟨c46, W⟩ := W
    obtain ⟨c47, W⟩ := W
    refine ts_getR (pc' := 44) (ci := 1) 0 cfX1.1 cfX1.2.1 cfX1.2.2 rfl (by decide) hnX1_become_X1 flX1_become_11 rfl dX1_become_41 c46 c47 ?_
    refine ts_iload_n 2 (pc' := 45) rfl dX1_become_44 rfl rfl ?_
    refine ts_aload_n 1 (pc' := 46) rfl dX1_become_45 rfl rfl ?_
    obtain ⟨c48, W⟩ := W
    obtain ⟨c49, W⟩ := W
    refine ts_getR (pc' := 49) (ci := 1) 0 cfX1.1 cfX1.2.1 cfX1.2.2 rfl (by decide) hnX1_become_X1 flX1_become_11 rfl dX1_become_46 c48 c49 ?_
    refine ts_iload_n 2 (pc' := 50) rfl dX1_become_49 rfl rfl ?_
    obtain ⟨c50, W⟩ := W
    obtain ⟨c51, W⟩ := W
    obtain ⟨c52, W⟩ := W
    refine ts_aaloadK (pc' := 51) rfl dX1_become_50 c50 c51 c52 ?_
    obtain ⟨c53, W⟩ := W
    obtain ⟨c54, W⟩ := W
    obtain ⟨c55, W⟩ := W
    refine ts_astoreKind (pc' := 52) rfl dX1_become_51 c53 c54 c55 ?_
    obtain ⟨hk56, ehk56⟩ : ∃ z, z = ts_uk hk (g.2.2.2 l0 0) l2.toNatClampNeg (hk (g.2.2.2 l1 0) l2.toNatClampNeg) := ⟨_, rfl⟩
    rw [← ehk56]; replace W := W hk56 ehk56
    refine ts_iinc 2 (pc' := 55) (ls' := [(2, .int (l2 + 1)), (0, .ref l0), (1, .ref l1)]) rfl dX1_become_52 rfl rfl (Nat.le_of_ble_eq_true rfl) rfl ?_
    refine ts_goto (tgt := 34) dX1_become_55 (by decide) ?_
    exact ts_sub [1, 2, 0] rfl W
theorem hnX1_hasFrost_X1 : ∀ w ∈ u_ws RX1 TX1 13, w ∈ wsX1_hasFrost := by decide +kernel
theorem flX1_hasFrost_46 : Cond.fieldLink RX1 46 "TurnipSquires$Field" "year" "I" ∈ wsX1_hasFrost := by decide +kernel
theorem flX1_hasFrost_52 : Cond.fieldLink RX1 52 "TurnipSquires$Field" "frost" "I" ∈ wsX1_hasFrost := by decide +kernel
set_option maxHeartbeats 4000000 in
theorem wX1_hasFrost_0 {d : Nat} {g : ts_G} {Q : Int32 → ts_I → ts_K → Prop} {o : Nat} {hi : ts_I} {hk : ts_K} (W : (g.2.1 o = 1) ∧ (((((hi o 12) >>> (((hi o 10) &&& 3) &&& 31)) &&& 1) ≠ 1) → Q 0 hi hk) ∧ (¬ ((((hi o 12) >>> (((hi o 10) &&& 3) &&& 31)) &&& 1) ≠ 1) → Q 1 hi hk)) : ts_J0 d mX1_hasFrost (ts_qi Q) g 0 [(0, .ref o)] [] hi hk := by
  refine ts_aload_n 0 (pc' := 1) rfl dX1_hasFrost_0 rfl rfl ?_
  obtain ⟨c1, W⟩ := W
  refine ts_getI (pc' := 4) (ci := 1) 12 cfX1.1 cfX1.2.1 cfX1.2.2 rfl (by decide) hnX1_hasFrost_X1 flX1_hasFrost_52 rfl dX1_hasFrost_1 c1 ?_
  refine ts_aload_n 0 (pc' := 5) rfl dX1_hasFrost_4 rfl rfl ?_
  refine ts_getI (pc' := 8) (ci := 1) 10 cfX1.1 cfX1.2.1 cfX1.2.2 rfl (by decide) hnX1_hasFrost_X1 flX1_hasFrost_46 rfl dX1_hasFrost_5 c1 ?_
  refine ts_iconst (v := 3) (pc' := 9) rfl dX1_hasFrost_8 (by decide) ?_
  refine ts_iand (pc' := 10) rfl dX1_hasFrost_9 ?_
  refine ts_ishr (pc' := 11) rfl dX1_hasFrost_10 ?_
  refine ts_iconst (v := 1) (pc' := 12) rfl dX1_hasFrost_11 (by decide) ?_
  refine ts_iand (pc' := 13) rfl dX1_hasFrost_12 ?_
  refine ts_iconst (v := 1) (pc' := 14) rfl dX1_hasFrost_13 (by decide) ?_
  refine ts_icmp_ne (pc' := 17) (tgt := 21) rfl dX1_hasFrost_14 (by decide) (fun q2 => ?_) (fun q2 => ?_)
  · replace W := W.1 q2
    refine ts_iconst (v := 0) (pc' := 22) rfl dX1_hasFrost_21 (by decide) ?_
    exact ts_zret dX1_hasFrost_22 rfl (by decide) (Nat.le_refl _) (Nat.le_refl _) ⟨rfl, _, rfl, W⟩
  · replace W := W.2 q2
    refine ts_iconst (v := 1) (pc' := 18) rfl dX1_hasFrost_17 (by decide) ?_
    refine ts_goto (tgt := 22) dX1_hasFrost_18 (by decide) ?_
    exact ts_zret dX1_hasFrost_22 rfl (by decide) (Nat.le_refl _) (Nat.le_refl _) ⟨rfl, _, rfl, W⟩
theorem hnX1_pass_X1 : ∀ w ∈ u_ws RX1 TX1 13, w ∈ wsX1_pass := by decide +kernel
theorem flX1_pass_17 : Cond.fieldLink RX1 17 "TurnipSquires$Field" "rank" "[I" ∈ wsX1_pass := by decide +kernel
theorem flX1_pass_21 : Cond.fieldLink RX1 21 "TurnipSquires$Field" "grown" "[I" ∈ wsX1_pass := by decide +kernel
theorem flX1_pass_36 : Cond.fieldLink RX1 36 "TurnipSquires$Field" "gain" "[I" ∈ wsX1_pass := by decide +kernel
theorem flX1_pass_42 : Cond.fieldLink RX1 42 "TurnipSquires$Field" "count" "I" ∈ wsX1_pass := by decide +kernel
theorem flX1_pass_46 : Cond.fieldLink RX1 46 "TurnipSquires$Field" "year" "I" ∈ wsX1_pass := by decide +kernel
set_option maxHeartbeats 4000000 in
theorem wX1_pass_0 {d : Nat} {g : ts_G} {Q : ts_I → ts_K → Prop} {o : Nat} {p0 : Int32} {hi : ts_I} {hk : ts_K} (W : (g.2.1 o = 1) ∧ ts_E0 d mX1_findGains [.ref o, .int p0] g hi hk (ts_qv (fun hi1 hk2 => ts_J0 (d + 1) mX1_pass (ts_qv Q) g 7 [(0, .ref o), (2, .int 0)] [] hi1 hk2))) : ts_J0 (d + 1) mX1_pass (ts_qv Q) g 0 [(0, .ref o), (1, .int p0)] [] hi hk := by
  refine ts_aload_n 0 (pc' := 1) rfl dX1_pass_0 rfl rfl ?_
  refine ts_iload_n 1 (pc' := 2) rfl dX1_pass_1 rfl rfl ?_
  obtain ⟨c3, W⟩ := W
  refine ts_callV (M' := mX1_findGains) (C := RX1) (pc' := 5) (av := [.int p0]) (b := o) rfl dX1_pass_2 rfl gX1_pass_X1_findGains rfl dvX1_findGains rfl (ci := 1) cfX1.1 (by decide) c3 (Nat.le_refl _) (Nat.le_of_ble_eq_true rfl) (Nat.le_of_ble_eq_true rfl) (Nat.le_refl _) (Nat.le_refl _) ts_kv0 W (ts_kkv fun hi1 hk2 W => ?_)
  refine ts_iconst (v := 0) (pc' := 6) rfl dX1_pass_5 (by decide) ?_
  refine ts_istore_n (pc' := 7) (ls' := [(2, .int 0), (0, .ref o), (1, .int p0)]) rfl dX1_pass_6 rfl (Nat.le_of_ble_eq_true rfl) rfl ?_
  exact ts_sub [1, 0] rfl W
set_option maxHeartbeats 4000000 in
theorem wX1_pass_7 {d : Nat} {g : ts_G} {Q : ts_I → ts_K → Prop} {l0 : Nat} {l2 : Int32} {hi : ts_I} {hk : ts_K} (W : (g.2.1 l0 = 1) ∧ (((hi l0 9) ≤ l2) → ∀ hi3 : ts_I, hi3 = ts_up hi l0 10 ((hi l0 10) + 1) → Q hi3 hk) ∧ (¬ ((hi l0 9) ≤ l2) → (g.2.2.2 l0 2 ≠ 0) ∧ (g.2.1 (g.2.2.2 l0 2) = 100) ∧ (vp_in l2 (g.2.2.1 (g.2.2.2 l0 2))) ∧ (g.2.2.2 l0 7 ≠ 0) ∧ (g.2.1 (g.2.2.2 l0 7) = 100) ∧ (vp_in l2 (g.2.2.1 (g.2.2.2 l0 7))) ∧ (g.2.2.2 l0 1 ≠ 0) ∧ (g.2.1 (g.2.2.2 l0 1) = 100) ∧ (vp_in l2 (g.2.2.1 (g.2.2.2 l0 1))) ∧ ts_J0 (d + 1) mX1_pass (ts_qv Q) g 37 [(0, .ref l0), (2, .int l2), (3, .int ((hi (g.2.2.2 l0 2) l2.toNatClampNeg) + (hi (g.2.2.2 l0 7) l2.toNatClampNeg))), (4, .int (hi (g.2.2.2 l0 1) l2.toNatClampNeg))] [] hi hk)) : ts_J0 (d + 1) mX1_pass (ts_qv Q) g 7 [(0, .ref l0), (2, .int l2)] [] hi hk := by
  refine ts_iload_n 1 (pc' := 8) rfl dX1_pass_7 rfl rfl ?_
  refine ts_aload_n 0 (pc' := 9) rfl dX1_pass_8 rfl rfl ?_
  obtain ⟨c1, W⟩ := W
  refine ts_getI (pc' := 12) (ci := 1) 9 cfX1.1 cfX1.2.1 cfX1.2.2 rfl (by decide) hnX1_pass_X1 flX1_pass_42 rfl dX1_pass_9 c1 ?_
  refine ts_icmp_ge (pc' := 15) (tgt := 96) rfl dX1_pass_12 (by decide) (fun q2 => ?_) (fun q2 => ?_)
  · replace W := W.1 q2
    refine ts_aload_n 0 (pc' := 97) rfl dX1_pass_96 rfl rfl ?_
    refine ts_dup (pc' := 98) rfl dX1_pass_97 rfl ?_
    refine ts_getI (pc' := 101) (ci := 1) 10 cfX1.1 cfX1.2.1 cfX1.2.2 rfl (by decide) hnX1_pass_X1 flX1_pass_46 rfl dX1_pass_98 c1 ?_
    refine ts_iconst (v := 1) (pc' := 102) rfl dX1_pass_101 (by decide) ?_
    refine ts_iadd (pc' := 103) rfl dX1_pass_102 ?_
    refine ts_putI (pc' := 106) (ci := 1) 10 cfX1.1 cfX1.2.1 cfX1.2.2 rfl (by decide) hnX1_pass_X1 flX1_pass_46 tyX1_ok nmX1 rfl rfl rfl dX1_pass_103 c1 ?_
    obtain ⟨hi3, ehi3⟩ : ∃ z, z = ts_up hi l0 10 ((hi l0 10) + 1) := ⟨_, rfl⟩
    rw [← ehi3]; replace W := W hi3 ehi3
    exact ts_vret dX1_pass_106 rfl (Nat.le_refl _) (Nat.le_refl _) ⟨rfl, rfl, W⟩
  · replace W := W.2 q2
    refine ts_aload_n 0 (pc' := 16) rfl dX1_pass_15 rfl rfl ?_
    obtain ⟨c4, W⟩ := W
    refine ts_getR (pc' := 19) (ci := 1) 2 cfX1.1 cfX1.2.1 cfX1.2.2 rfl (by decide) hnX1_pass_X1 flX1_pass_21 rfl dX1_pass_16 c1 c4 ?_
    refine ts_iload_n 1 (pc' := 20) rfl dX1_pass_19 rfl rfl ?_
    obtain ⟨c5, W⟩ := W
    obtain ⟨c6, W⟩ := W
    refine ts_iaload (pc' := 21) rfl dX1_pass_20 c5 c6 ?_
    refine ts_aload_n 0 (pc' := 22) rfl dX1_pass_21 rfl rfl ?_
    obtain ⟨c7, W⟩ := W
    refine ts_getR (pc' := 25) (ci := 1) 7 cfX1.1 cfX1.2.1 cfX1.2.2 rfl (by decide) hnX1_pass_X1 flX1_pass_36 rfl dX1_pass_22 c1 c7 ?_
    refine ts_iload_n 1 (pc' := 26) rfl dX1_pass_25 rfl rfl ?_
    obtain ⟨c8, W⟩ := W
    obtain ⟨c9, W⟩ := W
    refine ts_iaload (pc' := 27) rfl dX1_pass_26 c8 c9 ?_
    refine ts_iadd (pc' := 28) rfl dX1_pass_27 ?_
    refine ts_istore_n (pc' := 29) (ls' := [(3, .int ((hi (g.2.2.2 l0 2) l2.toNatClampNeg) + (hi (g.2.2.2 l0 7) l2.toNatClampNeg))), (0, .ref l0), (2, .int l2)]) rfl dX1_pass_28 rfl (Nat.le_of_ble_eq_true rfl) rfl ?_
    refine ts_aload_n 1 (pc' := 30) rfl dX1_pass_29 rfl rfl ?_
    obtain ⟨c10, W⟩ := W
    refine ts_getR (pc' := 33) (ci := 1) 1 cfX1.1 cfX1.2.1 cfX1.2.2 rfl (by decide) hnX1_pass_X1 flX1_pass_17 rfl dX1_pass_30 c1 c10 ?_
    refine ts_iload_n 2 (pc' := 34) rfl dX1_pass_33 rfl rfl ?_
    obtain ⟨c11, W⟩ := W
    obtain ⟨c12, W⟩ := W
    refine ts_iaload (pc' := 35) rfl dX1_pass_34 c11 c12 ?_
    refine ts_istore (pc' := 37) (ls' := [(4, .int (hi (g.2.2.2 l0 1) l2.toNatClampNeg)), (3, .int ((hi (g.2.2.2 l0 2) l2.toNatClampNeg) + (hi (g.2.2.2 l0 7) l2.toNatClampNeg))), (0, .ref l0), (2, .int l2)]) rfl dX1_pass_35 (Nat.le_of_ble_eq_true rfl) rfl ?_
    exact ts_sub [2, 3, 1, 0] rfl W
set_option maxHeartbeats 4000000 in
theorem wX1_pass_37 {d : Nat} {g : ts_G} {Q : ts_I → ts_K → Prop} {l0 : Nat} {l2 : Int32} {l3 : Int32} {l4 : Int32} {hi : ts_I} {hk : ts_K} (W : ((l3 < 10) → (g.2.1 l0 = 1) ∧ (g.2.2.2 l0 1 ≠ 0) ∧ (g.2.1 (g.2.2.2 l0 1) = 100) ∧ (vp_in l2 (g.2.2.1 (g.2.2.2 l0 1))) ∧ ∀ hi6 : ts_I, hi6 = ts_up hi (g.2.2.2 l0 1) l2.toNatClampNeg l4 → (g.2.2.2 l0 2 ≠ 0) ∧ ((l4 ≠ 9) → (g.2.1 (g.2.2.2 l0 2) = 100) ∧ (vp_in l2 (g.2.2.1 (g.2.2.2 l0 2))) ∧ ∀ hi11 : ts_I, hi11 = ts_up hi6 (g.2.2.2 l0 2) l2.toNatClampNeg l3 → ts_J0 (d + 1) mX1_pass (ts_qv Q) g 7 [(0, .ref l0), (2, .int (l2 + 1))] [] hi11 hk) ∧ (¬ (l4 ≠ 9) → (g.2.1 (g.2.2.2 l0 2) = 100) ∧ (vp_in l2 (g.2.2.1 (g.2.2.2 l0 2))) ∧ ∀ hi14 : ts_I, hi14 = ts_up hi6 (g.2.2.2 l0 2) l2.toNatClampNeg (if 9 < l3 then 9 else l3) → ts_J0 (d + 1) mX1_pass (ts_qv Q) g 7 [(0, .ref l0), (2, .int (l2 + 1))] [] hi14 hk)) ∧ (¬ (l3 < 10) → ((9 ≤ l4) → (g.2.1 l0 = 1) ∧ (g.2.2.2 l0 1 ≠ 0) ∧ (g.2.1 (g.2.2.2 l0 1) = 100) ∧ (vp_in l2 (g.2.2.1 (g.2.2.2 l0 1))) ∧ ∀ hi20 : ts_I, hi20 = ts_up hi (g.2.2.2 l0 1) l2.toNatClampNeg l4 → (g.2.2.2 l0 2 ≠ 0) ∧ ((l4 ≠ 9) → (g.2.1 (g.2.2.2 l0 2) = 100) ∧ (vp_in l2 (g.2.2.1 (g.2.2.2 l0 2))) ∧ ∀ hi25 : ts_I, hi25 = ts_up hi20 (g.2.2.2 l0 2) l2.toNatClampNeg l3 → ts_J0 (d + 1) mX1_pass (ts_qv Q) g 7 [(0, .ref l0), (2, .int (l2 + 1))] [] hi25 hk) ∧ (¬ (l4 ≠ 9) → (g.2.1 (g.2.2.2 l0 2) = 100) ∧ (vp_in l2 (g.2.2.1 (g.2.2.2 l0 2))) ∧ ∀ hi28 : ts_I, hi28 = ts_up hi20 (g.2.2.2 l0 2) l2.toNatClampNeg (if 9 < l3 then 9 else l3) → ts_J0 (d + 1) mX1_pass (ts_qv Q) g 7 [(0, .ref l0), (2, .int (l2 + 1))] [] hi28 hk)) ∧ (¬ (9 ≤ l4) → ts_J0 (d + 1) mX1_pass (ts_qv Q) g 37 [(0, .ref l0), (2, .int l2), (3, .int (l3 + (-10))), (4, .int (l4 + 1))] [] hi hk))) : ts_J0 (d + 1) mX1_pass (ts_qv Q) g 37 [(0, .ref l0), (2, .int l2), (3, .int l3), (4, .int l4)] [] hi hk := by
  refine ts_iload_n 2 (pc' := 38) rfl dX1_pass_37 rfl rfl ?_
  refine ts_bipush (v := 10) (pc' := 40) rfl dX1_pass_38 (by decide) ?_
  refine ts_icmp_lt (pc' := 43) (tgt := 59) rfl dX1_pass_40 (by decide) (fun q1 => ?_) (fun q1 => ?_)
  · replace W := W.1 q1
    refine ts_aload_n 0 (pc' := 60) rfl dX1_pass_59 rfl rfl ?_
    obtain ⟨c2, W⟩ := W
    obtain ⟨c3, W⟩ := W
    refine ts_getR (pc' := 63) (ci := 1) 1 cfX1.1 cfX1.2.1 cfX1.2.2 rfl (by decide) hnX1_pass_X1 flX1_pass_17 rfl dX1_pass_60 c2 c3 ?_
    refine ts_iload_n 1 (pc' := 64) rfl dX1_pass_63 rfl rfl ?_
    refine ts_iload 3 (pc' := 66) rfl dX1_pass_64 rfl ?_
    obtain ⟨c4, W⟩ := W
    obtain ⟨c5, W⟩ := W
    refine ts_iastore (pc' := 67) rfl dX1_pass_66 c4 c5 ?_
    obtain ⟨hi6, ehi6⟩ : ∃ z, z = ts_up hi (g.2.2.2 l0 1) l2.toNatClampNeg l4 := ⟨_, rfl⟩
    rw [← ehi6]; replace W := W hi6 ehi6
    refine ts_aload_n 0 (pc' := 68) rfl dX1_pass_67 rfl rfl ?_
    obtain ⟨c7, W⟩ := W
    refine ts_getR (pc' := 71) (ci := 1) 2 cfX1.1 cfX1.2.1 cfX1.2.2 rfl (by decide) hnX1_pass_X1 flX1_pass_21 rfl dX1_pass_68 c2 c7 ?_
    refine ts_iload_n 1 (pc' := 72) rfl dX1_pass_71 rfl rfl ?_
    refine ts_iload 3 (pc' := 74) rfl dX1_pass_72 rfl ?_
    refine ts_bipush (v := 9) (pc' := 76) rfl dX1_pass_74 (by decide) ?_
    refine ts_icmp_ne (pc' := 79) (tgt := 88) rfl dX1_pass_76 (by decide) (fun q8 => ?_) (fun q8 => ?_)
    · replace W := W.1 q8
      refine ts_iload_n 2 (pc' := 89) rfl dX1_pass_88 rfl rfl ?_
      obtain ⟨c9, W⟩ := W
      obtain ⟨c10, W⟩ := W
      refine ts_iastore (pc' := 90) rfl dX1_pass_89 c9 c10 ?_
      obtain ⟨hi11, ehi11⟩ : ∃ z, z = ts_up hi6 (g.2.2.2 l0 2) l2.toNatClampNeg l3 := ⟨_, rfl⟩
      rw [← ehi11]; replace W := W hi11 ehi11
      refine ts_iinc 1 (pc' := 93) (ls' := [(2, .int (l2 + 1)), (0, .ref l0), (3, .int l3), (4, .int l4)]) rfl dX1_pass_90 rfl rfl (Nat.le_of_ble_eq_true rfl) rfl ?_
      refine ts_goto (tgt := 7) dX1_pass_93 (by decide) ?_
      exact ts_sub [1, 0] rfl W
    · replace W := W.2 q8
      refine ts_iload_n 2 (pc' := 80) rfl dX1_pass_79 rfl rfl ?_
      refine ts_bipush (v := 9) (pc' := 82) rfl dX1_pass_80 (by decide) ?_
      refine ts_mmin (pc' := 85) rfl dX1_pass_82 (by decide +kernel) (by decide +kernel) (by decide +kernel) (by decide +kernel) (Nat.le_add_left 1 _) (Nat.le_of_ble_eq_true rfl) (Nat.le_refl _) (Nat.le_refl _) ?_
      refine ts_goto (tgt := 89) dX1_pass_85 (by decide) ?_
      obtain ⟨c12, W⟩ := W
      obtain ⟨c13, W⟩ := W
      refine ts_iastore (pc' := 90) rfl dX1_pass_89 c12 c13 ?_
      obtain ⟨hi14, ehi14⟩ : ∃ z, z = ts_up hi6 (g.2.2.2 l0 2) l2.toNatClampNeg (if 9 < l3 then 9 else l3) := ⟨_, rfl⟩
      rw [← ehi14]; replace W := W hi14 ehi14
      refine ts_iinc 1 (pc' := 93) (ls' := [(2, .int (l2 + 1)), (0, .ref l0), (3, .int l3), (4, .int l4)]) rfl dX1_pass_90 rfl rfl (Nat.le_of_ble_eq_true rfl) rfl ?_
      refine ts_goto (tgt := 7) dX1_pass_93 (by decide) ?_
      exact ts_sub [1, 0] rfl W
  · replace W := W.2 q1
    refine ts_iload 3 (pc' := 45) rfl dX1_pass_43 rfl ?_
    refine ts_bipush (v := 9) (pc' := 47) rfl dX1_pass_45 (by decide) ?_
    refine ts_icmp_ge (pc' := 50) (tgt := 59) rfl dX1_pass_47 (by decide) (fun q15 => ?_) (fun q15 => ?_)
    · replace W := W.1 q15
      refine ts_aload_n 0 (pc' := 60) rfl dX1_pass_59 rfl rfl ?_
      obtain ⟨c16, W⟩ := W
      obtain ⟨c17, W⟩ := W
      refine ts_getR (pc' := 63) (ci := 1) 1 cfX1.1 cfX1.2.1 cfX1.2.2 rfl (by decide) hnX1_pass_X1 flX1_pass_17 rfl dX1_pass_60 c16 c17 ?_
      refine ts_iload_n 1 (pc' := 64) rfl dX1_pass_63 rfl rfl ?_
      refine ts_iload 3 (pc' := 66) rfl dX1_pass_64 rfl ?_
      obtain ⟨c18, W⟩ := W
      obtain ⟨c19, W⟩ := W
      refine ts_iastore (pc' := 67) rfl dX1_pass_66 c18 c19 ?_
      obtain ⟨hi20, ehi20⟩ : ∃ z, z = ts_up hi (g.2.2.2 l0 1) l2.toNatClampNeg l4 := ⟨_, rfl⟩
      rw [← ehi20]; replace W := W hi20 ehi20
      refine ts_aload_n 0 (pc' := 68) rfl dX1_pass_67 rfl rfl ?_
      obtain ⟨c21, W⟩ := W
      refine ts_getR (pc' := 71) (ci := 1) 2 cfX1.1 cfX1.2.1 cfX1.2.2 rfl (by decide) hnX1_pass_X1 flX1_pass_21 rfl dX1_pass_68 c16 c21 ?_
      refine ts_iload_n 1 (pc' := 72) rfl dX1_pass_71 rfl rfl ?_
      refine ts_iload 3 (pc' := 74) rfl dX1_pass_72 rfl ?_
      refine ts_bipush (v := 9) (pc' := 76) rfl dX1_pass_74 (by decide) ?_
      refine ts_icmp_ne (pc' := 79) (tgt := 88) rfl dX1_pass_76 (by decide) (fun q22 => ?_) (fun q22 => ?_)
      · replace W := W.1 q22
        refine ts_iload_n 2 (pc' := 89) rfl dX1_pass_88 rfl rfl ?_
        obtain ⟨c23, W⟩ := W
        obtain ⟨c24, W⟩ := W
        refine ts_iastore (pc' := 90) rfl dX1_pass_89 c23 c24 ?_
        obtain ⟨hi25, ehi25⟩ : ∃ z, z = ts_up hi20 (g.2.2.2 l0 2) l2.toNatClampNeg l3 := ⟨_, rfl⟩
        rw [← ehi25]; replace W := W hi25 ehi25
        refine ts_iinc 1 (pc' := 93) (ls' := [(2, .int (l2 + 1)), (0, .ref l0), (3, .int l3), (4, .int l4)]) rfl dX1_pass_90 rfl rfl (Nat.le_of_ble_eq_true rfl) rfl ?_
        refine ts_goto (tgt := 7) dX1_pass_93 (by decide) ?_
        exact ts_sub [1, 0] rfl W
      · replace W := W.2 q22
        refine ts_iload_n 2 (pc' := 80) rfl dX1_pass_79 rfl rfl ?_
        refine ts_bipush (v := 9) (pc' := 82) rfl dX1_pass_80 (by decide) ?_
        refine ts_mmin (pc' := 85) rfl dX1_pass_82 (by decide +kernel) (by decide +kernel) (by decide +kernel) (by decide +kernel) (Nat.le_add_left 1 _) (Nat.le_of_ble_eq_true rfl) (Nat.le_refl _) (Nat.le_refl _) ?_
        refine ts_goto (tgt := 89) dX1_pass_85 (by decide) ?_
        obtain ⟨c26, W⟩ := W
        obtain ⟨c27, W⟩ := W
        refine ts_iastore (pc' := 90) rfl dX1_pass_89 c26 c27 ?_
        obtain ⟨hi28, ehi28⟩ : ∃ z, z = ts_up hi20 (g.2.2.2 l0 2) l2.toNatClampNeg (if 9 < l3 then 9 else l3) := ⟨_, rfl⟩
        rw [← ehi28]; replace W := W hi28 ehi28
        refine ts_iinc 1 (pc' := 93) (ls' := [(2, .int (l2 + 1)), (0, .ref l0), (3, .int l3), (4, .int l4)]) rfl dX1_pass_90 rfl rfl (Nat.le_of_ble_eq_true rfl) rfl ?_
        refine ts_goto (tgt := 7) dX1_pass_93 (by decide) ?_
        exact ts_sub [1, 0] rfl W
    · replace W := W.2 q15
      refine ts_iinc 2 (pc' := 53) (ls' := [(3, .int (l3 + (-10))), (0, .ref l0), (2, .int l2), (4, .int l4)]) rfl dX1_pass_50 rfl rfl (Nat.le_of_ble_eq_true rfl) rfl ?_
      refine ts_iinc 3 (pc' := 56) (ls' := [(4, .int (l4 + 1)), (3, .int (l3 + (-10))), (0, .ref l0), (2, .int l2)]) rfl dX1_pass_53 rfl rfl (Nat.le_of_ble_eq_true rfl) rfl ?_
      refine ts_goto (tgt := 37) dX1_pass_56 (by decide) ?_
      exact ts_sub [2, 3, 1, 0] rfl W
theorem hnX1_findGains_X1 : ∀ w ∈ u_ws RX1 TX1 13, w ∈ wsX1_findGains := by decide +kernel
theorem flX1_findGains_11 : Cond.fieldLink RX1 11 "TurnipSquires$Field" "kind" "[LTurnipSquires$Kind;" ∈ wsX1_findGains := by decide +kernel
theorem flX1_findGains_24 : Cond.fieldLink RX1 24 "TurnipSquires$Field" "lean" "[I" ∈ wsX1_findGains := by decide +kernel
theorem flX1_findGains_27 : Cond.fieldLink RX1 27 "TurnipSquires$Field" "mate" "[I" ∈ wsX1_findGains := by decide +kernel
theorem flX1_findGains_36 : Cond.fieldLink RX1 36 "TurnipSquires$Field" "gain" "[I" ∈ wsX1_findGains := by decide +kernel
theorem flX1_findGains_39 : Cond.fieldLink RX1 39 "TurnipSquires$Field" "higher" "[I" ∈ wsX1_findGains := by decide +kernel
theorem flX1_findGains_42 : Cond.fieldLink RX1 42 "TurnipSquires$Field" "count" "I" ∈ wsX1_findGains := by decide +kernel
set_option maxHeartbeats 4000000 in
theorem wX1_findGains_0 {d : Nat} {g : ts_G} {Q : ts_I → ts_K → Prop} {o : Nat} {p0 : Int32} {hi : ts_I} {hk : ts_K} (W : (g.2.1 o = 1) ∧ ts_E0 d mX1_findHigher [.ref o] g hi hk (ts_qv (fun hi1 hk2 => ts_J0 (d + 1) mX1_findGains (ts_qv Q) g 6 [(0, .ref o), (1, .int p0), (2, .int 0)] [] hi1 hk2))) : ts_J0 (d + 1) mX1_findGains (ts_qv Q) g 0 [(0, .ref o), (1, .int p0)] [] hi hk := by
  refine ts_aload_n 0 (pc' := 1) rfl dX1_findGains_0 rfl rfl ?_
  obtain ⟨c3, W⟩ := W
  refine ts_callV (M' := mX1_findHigher) (C := RX1) (pc' := 4) (av := []) (b := o) rfl dX1_findGains_1 rfl gX1_findGains_X1_findHigher rfl dvX1_findHigher rfl (ci := 1) cfX1.1 (by decide) c3 (Nat.le_refl _) (Nat.le_of_ble_eq_true rfl) (Nat.le_of_ble_eq_true rfl) (Nat.le_refl _) (Nat.le_refl _) ts_kv0 W (ts_kkv fun hi1 hk2 W => ?_)
  refine ts_iconst (v := 0) (pc' := 5) rfl dX1_findGains_4 (by decide) ?_
  refine ts_istore_n (pc' := 6) (ls' := [(2, .int 0), (0, .ref o), (1, .int p0)]) rfl dX1_findGains_5 rfl (Nat.le_of_ble_eq_true rfl) rfl ?_
  exact ts_sub [1, 2, 0] rfl W
set_option maxHeartbeats 4000000 in
theorem wX1_findGains_6 {d : Nat} {g : ts_G} {Q : ts_I → ts_K → Prop} {l0 : Nat} {l1 : Int32} {l2 : Int32} {hi : ts_I} {hk : ts_K} (W : (g.2.1 l0 = 1) ∧ (((hi l0 9) ≤ l2) → ts_J0 (d + 1) mX1_findGains (ts_qv Q) g 40 [(0, .ref l0), (2, .int 0)] [] hi hk) ∧ (¬ ((hi l0 9) ≤ l2) → (g.2.2.2 l0 7 ≠ 0) ∧ (g.2.2.2 l0 0 ≠ 0) ∧ (g.2.1 (g.2.2.2 l0 0) = 103) ∧ (vp_in l2 (g.2.2.1 (g.2.2.2 l0 0))) ∧ (hk (g.2.2.2 l0 0) l2.toNatClampNeg ≠ 0) ∧ ts_EV [(0, mX0_gainIn), (2, mX3_gainIn), (3, mX4_gainIn), (4, mX5_gainIn), (7, mX8_gainIn)] d (hk (g.2.2.2 l0 0) l2.toNatClampNeg) [.ref (hk (g.2.2.2 l0 0) l2.toNatClampNeg), .ref l0, .int l2, .int l1] g hi hk (ts_qi (fun v10 hi8 hk9 => (g.2.1 (g.2.2.2 l0 7) = 100) ∧ (vp_in l2 (g.2.2.1 (g.2.2.2 l0 7))) ∧ ∀ hi13 : ts_I, hi13 = ts_up hi8 (g.2.2.2 l0 7) l2.toNatClampNeg v10 → ts_J0 (d + 1) mX1_findGains (ts_qv Q) g 6 [(0, .ref l0), (1, .int l1), (2, .int (l2 + 1))] [] hi13 hk9)))) : ts_J0 (d + 1) mX1_findGains (ts_qv Q) g 6 [(0, .ref l0), (1, .int l1), (2, .int l2)] [] hi hk := by
  refine ts_iload_n 2 (pc' := 7) rfl dX1_findGains_6 rfl rfl ?_
  refine ts_aload_n 0 (pc' := 8) rfl dX1_findGains_7 rfl rfl ?_
  obtain ⟨c1, W⟩ := W
  refine ts_getI (pc' := 11) (ci := 1) 9 cfX1.1 cfX1.2.1 cfX1.2.2 rfl (by decide) hnX1_findGains_X1 flX1_findGains_42 rfl dX1_findGains_8 c1 ?_
  refine ts_icmp_ge (pc' := 14) (tgt := 38) rfl dX1_findGains_11 (by decide) (fun q2 => ?_) (fun q2 => ?_)
  · replace W := W.1 q2
    refine ts_iconst (v := 0) (pc' := 39) rfl dX1_findGains_38 (by decide) ?_
    refine ts_istore_n (pc' := 40) (ls' := [(2, .int 0), (0, .ref l0), (1, .int l1)]) rfl dX1_findGains_39 rfl (Nat.le_of_ble_eq_true rfl) rfl ?_
    exact ts_sub [1, 0] rfl W
  · replace W := W.2 q2
    refine ts_aload_n 0 (pc' := 15) rfl dX1_findGains_14 rfl rfl ?_
    obtain ⟨c3, W⟩ := W
    refine ts_getR (pc' := 18) (ci := 1) 7 cfX1.1 cfX1.2.1 cfX1.2.2 rfl (by decide) hnX1_findGains_X1 flX1_findGains_36 rfl dX1_findGains_15 c1 c3 ?_
    refine ts_iload_n 2 (pc' := 19) rfl dX1_findGains_18 rfl rfl ?_
    refine ts_aload_n 0 (pc' := 20) rfl dX1_findGains_19 rfl rfl ?_
    obtain ⟨c4, W⟩ := W
    refine ts_getR (pc' := 23) (ci := 1) 0 cfX1.1 cfX1.2.1 cfX1.2.2 rfl (by decide) hnX1_findGains_X1 flX1_findGains_11 rfl dX1_findGains_20 c1 c4 ?_
    refine ts_iload_n 2 (pc' := 24) rfl dX1_findGains_23 rfl rfl ?_
    obtain ⟨c5, W⟩ := W
    obtain ⟨c6, W⟩ := W
    obtain ⟨c7, W⟩ := W
    refine ts_aaloadK (pc' := 25) rfl dX1_findGains_24 c5 c6 c7 ?_
    refine ts_aload_n 0 (pc' := 26) rfl dX1_findGains_25 rfl rfl ?_
    refine ts_iload_n 2 (pc' := 27) rfl dX1_findGains_26 rfl rfl ?_
    refine ts_iload_n 1 (pc' := 28) rfl dX1_findGains_27 rfl rfl ?_
    have kk9 : ∀ (v10 : Int32) (hi8 : ts_I) (hk9 : ts_K), ((g.2.1 (g.2.2.2 l0 7) = 100) ∧ (vp_in l2 (g.2.2.1 (g.2.2.2 l0 7))) ∧ ∀ hi13 : ts_I, hi13 = ts_up hi8 (g.2.2.2 l0 7) l2.toNatClampNeg v10 → ts_J0 (d + 1) mX1_findGains (ts_qv Q) g 6 [(0, .ref l0), (1, .int l1), (2, .int (l2 + 1))] [] hi13 hk9) → ts_JJ (d + 1) 0 0 mX1_findGains none g.1 (ts_q0 g (ts_qv Q)) 0 0 31 [(0, .ref l0), (1, .int l1), (2, .int l2)] [.int v10, .int l2, .ref (g.2.2.2 l0 7)] g hi8 hk9 := by
      intro v10 hi8 hk9 W
      obtain ⟨c11, W⟩ := W
      obtain ⟨c12, W⟩ := W
      refine ts_iastore (pc' := 32) rfl dX1_findGains_31 c11 c12 ?_
      obtain ⟨hi13, ehi13⟩ : ∃ z, z = ts_up hi8 (g.2.2.2 l0 7) l2.toNatClampNeg v10 := ⟨_, rfl⟩
      rw [← ehi13]; replace W := W hi13 ehi13
      refine ts_iinc 2 (pc' := 35) (ls' := [(2, .int (l2 + 1)), (0, .ref l0), (1, .int l1)]) rfl dX1_findGains_32 rfl rfl (Nat.le_of_ble_eq_true rfl) rfl ?_
      refine ts_goto (tgt := 6) dX1_findGains_35 (by decide) ?_
      exact ts_sub [1, 2, 0] rfl W
    obtain ⟨M9, h9, W⟩ := W
    simp only [List.mem_cons, List.not_mem_nil, or_false, Prod.mk.injEq] at h9
    rcases h9 with ⟨c9, rfl⟩ | ⟨c9, rfl⟩ | ⟨c9, rfl⟩ | ⟨c9, rfl⟩ | ⟨c9, rfl⟩
    · exact ts_callU (M' := mX0_gainIn) (C := RX0) (owner := "TurnipSquires$Kind") (pc' := 31) (av := [.ref l0, .int l2, .int l1]) (st := _) (b := (hk (g.2.2.2 l0 0) l2.toNatClampNeg)) rfl dX1_findGains_28 rfl gX1_findGains_X0_gainIn_u74X0 rfl rfl dxoX2_gainIn rfl (ci := 0) cfX0.1 (by decide) c9 (Nat.le_refl _) (Nat.le_of_ble_eq_true rfl) (Nat.le_of_ble_eq_true rfl) (Nat.le_refl _) (Nat.le_refl _) ts_kv0 W (ts_kki kk9)
    · exact ts_callU (M' := mX3_gainIn) (C := RX3) (owner := "TurnipSquires$Kind") (pc' := 31) (av := [.ref l0, .int l2, .int l1]) (st := _) (b := (hk (g.2.2.2 l0 0) l2.toNatClampNeg)) rfl dX1_findGains_28 rfl gX1_findGains_X3_gainIn_u74X3 rfl rfl dxoX2_gainIn rfl (ci := 2) cfX3.1 (by decide) c9 (Nat.le_refl _) (Nat.le_of_ble_eq_true rfl) (Nat.le_of_ble_eq_true rfl) (Nat.le_refl _) (Nat.le_refl _) ts_kv0 W (ts_kki kk9)
    · exact ts_callU (M' := mX4_gainIn) (C := RX4) (owner := "TurnipSquires$Kind") (pc' := 31) (av := [.ref l0, .int l2, .int l1]) (st := _) (b := (hk (g.2.2.2 l0 0) l2.toNatClampNeg)) rfl dX1_findGains_28 rfl gX1_findGains_X4_gainIn_u74X4 rfl rfl dxoX2_gainIn rfl (ci := 3) cfX4.1 (by decide) c9 (Nat.le_refl _) (Nat.le_of_ble_eq_true rfl) (Nat.le_of_ble_eq_true rfl) (Nat.le_refl _) (Nat.le_refl _) ts_kv0 W (ts_kki kk9)
    · exact ts_callU (M' := mX5_gainIn) (C := RX5) (owner := "TurnipSquires$Kind") (pc' := 31) (av := [.ref l0, .int l2, .int l1]) (st := _) (b := (hk (g.2.2.2 l0 0) l2.toNatClampNeg)) rfl dX1_findGains_28 rfl gX1_findGains_X5_gainIn_u74X5 rfl rfl dxoX2_gainIn rfl (ci := 4) cfX5.1 (by decide) c9 (Nat.le_refl _) (Nat.le_of_ble_eq_true rfl) (Nat.le_of_ble_eq_true rfl) (Nat.le_refl _) (Nat.le_refl _) ts_kv0 W (ts_kki kk9)
    · exact ts_callU (M' := mX8_gainIn) (C := RX8) (owner := "TurnipSquires$Kind") (pc' := 31) (av := [.ref l0, .int l2, .int l1]) (st := _) (b := (hk (g.2.2.2 l0 0) l2.toNatClampNeg)) rfl dX1_findGains_28 rfl gX1_findGains_X8_gainIn_u74X8 rfl rfl dxoX2_gainIn rfl (ci := 7) cfX8.1 (by decide) c9 (Nat.le_refl _) (Nat.le_of_ble_eq_true rfl) (Nat.le_of_ble_eq_true rfl) (Nat.le_refl _) (Nat.le_refl _) ts_kv0 W (ts_kki kk9)
set_option maxHeartbeats 4000000 in
theorem wX1_findGains_40 {d : Nat} {g : ts_G} {Q : ts_I → ts_K → Prop} {l0 : Nat} {l2 : Int32} {hi : ts_I} {hk : ts_K} (W : (g.2.1 l0 = 1) ∧ (((hi l0 9) ≤ l2) → ts_J0 (d + 1) mX1_findGains (ts_qv Q) g 109 [(0, .ref l0), (2, .int 0)] [] hi hk) ∧ (¬ ((hi l0 9) ≤ l2) → (g.2.2.2 l0 4 ≠ 0) ∧ (g.2.1 (g.2.2.2 l0 4) = 100) ∧ (vp_in l2 (g.2.2.1 (g.2.2.2 l0 4))) ∧ (((hi (g.2.2.2 l0 4) l2.toNatClampNeg) ≤ l2) → ts_J0 (d + 1) mX1_findGains (ts_qv Q) g 40 [(0, .ref l0), (2, .int (l2 + 1))] [] hi hk) ∧ (¬ ((hi (g.2.2.2 l0 4) l2.toNatClampNeg) ≤ l2) → (((hi l0 9) ≤ (hi (g.2.2.2 l0 4) l2.toNatClampNeg)) → ts_J0 (d + 1) mX1_findGains (ts_qv Q) g 40 [(0, .ref l0), (2, .int (l2 + 1))] [] hi hk) ∧ (¬ ((hi l0 9) ≤ (hi (g.2.2.2 l0 4) l2.toNatClampNeg)) → (g.2.2.2 l0 7 ≠ 0) ∧ (g.2.1 (g.2.2.2 l0 7) = 100) ∧ (vp_in l2 (g.2.2.1 (g.2.2.2 l0 7))) ∧ (vp_in (hi (g.2.2.2 l0 4) l2.toNatClampNeg) (g.2.2.1 (g.2.2.2 l0 7))) ∧ ∀ hi12 : ts_I, hi12 = ts_up hi (g.2.2.2 l0 7) l2.toNatClampNeg (((hi (g.2.2.2 l0 7) l2.toNatClampNeg) + (hi (g.2.2.2 l0 7) (hi (g.2.2.2 l0 4) l2.toNatClampNeg).toNatClampNeg)) / 2) → ∀ hi13 : ts_I, hi13 = ts_up hi12 (g.2.2.2 l0 7) (hi (g.2.2.2 l0 4) l2.toNatClampNeg).toNatClampNeg (((hi (g.2.2.2 l0 7) l2.toNatClampNeg) + (hi (g.2.2.2 l0 7) (hi (g.2.2.2 l0 4) l2.toNatClampNeg).toNatClampNeg)) / 2) → ts_J0 (d + 1) mX1_findGains (ts_qv Q) g 40 [(0, .ref l0), (2, .int (l2 + 1))] [] hi13 hk)))) : ts_J0 (d + 1) mX1_findGains (ts_qv Q) g 40 [(0, .ref l0), (2, .int l2)] [] hi hk := by
  refine ts_iload_n 1 (pc' := 41) rfl dX1_findGains_40 rfl rfl ?_
  refine ts_aload_n 0 (pc' := 42) rfl dX1_findGains_41 rfl rfl ?_
  obtain ⟨c1, W⟩ := W
  refine ts_getI (pc' := 45) (ci := 1) 9 cfX1.1 cfX1.2.1 cfX1.2.2 rfl (by decide) hnX1_findGains_X1 flX1_findGains_42 rfl dX1_findGains_42 c1 ?_
  refine ts_icmp_ge (pc' := 48) (tgt := 107) rfl dX1_findGains_45 (by decide) (fun q2 => ?_) (fun q2 => ?_)
  · replace W := W.1 q2
    refine ts_iconst (v := 0) (pc' := 108) rfl dX1_findGains_107 (by decide) ?_
    refine ts_istore_n (pc' := 109) (ls' := [(2, .int 0), (0, .ref l0)]) rfl dX1_findGains_108 rfl (Nat.le_of_ble_eq_true rfl) rfl ?_
    exact ts_sub [1, 0] rfl W
  · replace W := W.2 q2
    refine ts_aload_n 0 (pc' := 49) rfl dX1_findGains_48 rfl rfl ?_
    obtain ⟨c3, W⟩ := W
    refine ts_getR (pc' := 52) (ci := 1) 4 cfX1.1 cfX1.2.1 cfX1.2.2 rfl (by decide) hnX1_findGains_X1 flX1_findGains_27 rfl dX1_findGains_49 c1 c3 ?_
    refine ts_iload_n 1 (pc' := 53) rfl dX1_findGains_52 rfl rfl ?_
    obtain ⟨c4, W⟩ := W
    obtain ⟨c5, W⟩ := W
    refine ts_iaload (pc' := 54) rfl dX1_findGains_53 c4 c5 ?_
    refine ts_istore_n (pc' := 55) (ls' := [(3, .int (hi (g.2.2.2 l0 4) l2.toNatClampNeg)), (0, .ref l0), (2, .int l2)]) rfl dX1_findGains_54 rfl (Nat.le_of_ble_eq_true rfl) rfl ?_
    refine ts_iload_n 0 (pc' := 56) rfl dX1_findGains_55 rfl rfl ?_
    refine ts_iload_n 2 (pc' := 57) rfl dX1_findGains_56 rfl rfl ?_
    refine ts_icmp_le (pc' := 60) (tgt := 101) rfl dX1_findGains_57 (by decide) (fun q6 => ?_) (fun q6 => ?_)
    · replace W := W.1 q6
      refine ts_iinc 2 (pc' := 104) (ls' := [(2, .int (l2 + 1)), (3, .int (hi (g.2.2.2 l0 4) l2.toNatClampNeg)), (0, .ref l0)]) rfl dX1_findGains_101 rfl rfl (Nat.le_of_ble_eq_true rfl) rfl ?_
      refine ts_goto (tgt := 40) dX1_findGains_104 (by decide) ?_
      exact ts_sub [2, 0] rfl W
    · replace W := W.2 q6
      refine ts_iload_n 0 (pc' := 61) rfl dX1_findGains_60 rfl rfl ?_
      refine ts_aload_n 1 (pc' := 62) rfl dX1_findGains_61 rfl rfl ?_
      refine ts_getI (pc' := 65) (ci := 1) 9 cfX1.1 cfX1.2.1 cfX1.2.2 rfl (by decide) hnX1_findGains_X1 flX1_findGains_42 rfl dX1_findGains_62 c1 ?_
      refine ts_icmp_ge (pc' := 68) (tgt := 101) rfl dX1_findGains_65 (by decide) (fun q7 => ?_) (fun q7 => ?_)
      · replace W := W.1 q7
        refine ts_iinc 2 (pc' := 104) (ls' := [(2, .int (l2 + 1)), (3, .int (hi (g.2.2.2 l0 4) l2.toNatClampNeg)), (0, .ref l0)]) rfl dX1_findGains_101 rfl rfl (Nat.le_of_ble_eq_true rfl) rfl ?_
        refine ts_goto (tgt := 40) dX1_findGains_104 (by decide) ?_
        exact ts_sub [2, 0] rfl W
      · replace W := W.2 q7
        refine ts_aload_n 1 (pc' := 69) rfl dX1_findGains_68 rfl rfl ?_
        obtain ⟨c8, W⟩ := W
        refine ts_getR (pc' := 72) (ci := 1) 7 cfX1.1 cfX1.2.1 cfX1.2.2 rfl (by decide) hnX1_findGains_X1 flX1_findGains_36 rfl dX1_findGains_69 c1 c8 ?_
        refine ts_iload_n 2 (pc' := 73) rfl dX1_findGains_72 rfl rfl ?_
        obtain ⟨c9, W⟩ := W
        obtain ⟨c10, W⟩ := W
        refine ts_iaload (pc' := 74) rfl dX1_findGains_73 c9 c10 ?_
        refine ts_aload_n 1 (pc' := 75) rfl dX1_findGains_74 rfl rfl ?_
        refine ts_getR (pc' := 78) (ci := 1) 7 cfX1.1 cfX1.2.1 cfX1.2.2 rfl (by decide) hnX1_findGains_X1 flX1_findGains_36 rfl dX1_findGains_75 c1 c8 ?_
        refine ts_iload_n 0 (pc' := 79) rfl dX1_findGains_78 rfl rfl ?_
        obtain ⟨c11, W⟩ := W
        refine ts_iaload (pc' := 80) rfl dX1_findGains_79 c9 c11 ?_
        refine ts_iadd (pc' := 81) rfl dX1_findGains_80 ?_
        refine ts_iconst (v := 2) (pc' := 82) rfl dX1_findGains_81 (by decide) ?_
        refine ts_idiv (pc' := 83) rfl dX1_findGains_82 (by decide) ?_
        refine ts_istore (pc' := 85) (ls' := [(4, .int (((hi (g.2.2.2 l0 7) l2.toNatClampNeg) + (hi (g.2.2.2 l0 7) (hi (g.2.2.2 l0 4) l2.toNatClampNeg).toNatClampNeg)) / 2)), (3, .int (hi (g.2.2.2 l0 4) l2.toNatClampNeg)), (0, .ref l0), (2, .int l2)]) rfl dX1_findGains_83 (Nat.le_of_ble_eq_true rfl) rfl ?_
        refine ts_aload_n 2 (pc' := 86) rfl dX1_findGains_85 rfl rfl ?_
        refine ts_getR (pc' := 89) (ci := 1) 7 cfX1.1 cfX1.2.1 cfX1.2.2 rfl (by decide) hnX1_findGains_X1 flX1_findGains_36 rfl dX1_findGains_86 c1 c8 ?_
        refine ts_iload_n 3 (pc' := 90) rfl dX1_findGains_89 rfl rfl ?_
        refine ts_iload 0 (pc' := 92) rfl dX1_findGains_90 rfl ?_
        refine ts_iastore (pc' := 93) rfl dX1_findGains_92 c9 c10 ?_
        obtain ⟨hi12, ehi12⟩ : ∃ z, z = ts_up hi (g.2.2.2 l0 7) l2.toNatClampNeg (((hi (g.2.2.2 l0 7) l2.toNatClampNeg) + (hi (g.2.2.2 l0 7) (hi (g.2.2.2 l0 4) l2.toNatClampNeg).toNatClampNeg)) / 2) := ⟨_, rfl⟩
        rw [← ehi12]; replace W := W hi12 ehi12
        refine ts_aload_n 2 (pc' := 94) rfl dX1_findGains_93 rfl rfl ?_
        refine ts_getR (pc' := 97) (ci := 1) 7 cfX1.1 cfX1.2.1 cfX1.2.2 rfl (by decide) hnX1_findGains_X1 flX1_findGains_36 rfl dX1_findGains_94 c1 c8 ?_
        refine ts_iload_n 1 (pc' := 98) rfl dX1_findGains_97 rfl rfl ?_
        refine ts_iload 0 (pc' := 100) rfl dX1_findGains_98 rfl ?_
        refine ts_iastore (pc' := 101) rfl dX1_findGains_100 c9 c11 ?_
        obtain ⟨hi13, ehi13⟩ : ∃ z, z = ts_up hi12 (g.2.2.2 l0 7) (hi (g.2.2.2 l0 4) l2.toNatClampNeg).toNatClampNeg (((hi (g.2.2.2 l0 7) l2.toNatClampNeg) + (hi (g.2.2.2 l0 7) (hi (g.2.2.2 l0 4) l2.toNatClampNeg).toNatClampNeg)) / 2) := ⟨_, rfl⟩
        rw [← ehi13]; replace W := W hi13 ehi13
        refine ts_iinc 3 (pc' := 104) (ls' := [(2, .int (l2 + 1)), (4, .int (((hi (g.2.2.2 l0 7) l2.toNatClampNeg) + (hi (g.2.2.2 l0 7) (hi (g.2.2.2 l0 4) l2.toNatClampNeg).toNatClampNeg)) / 2)), (3, .int (hi (g.2.2.2 l0 4) l2.toNatClampNeg)), (0, .ref l0)]) rfl dX1_findGains_101 rfl rfl (Nat.le_of_ble_eq_true rfl) rfl ?_
        refine ts_goto (tgt := 40) dX1_findGains_104 (by decide) ?_
        exact ts_sub [3, 0] rfl W
set_option maxHeartbeats 4000000 in
theorem wX1_findGains_109 {d : Nat} {g : ts_G} {Q : ts_I → ts_K → Prop} {l0 : Nat} {l2 : Int32} {hi : ts_I} {hk : ts_K} (W : (g.2.1 l0 = 1) ∧ (((hi l0 9) ≤ l2) → Q hi hk) ∧ (¬ ((hi l0 9) ≤ l2) → (g.2.2.2 l0 7 ≠ 0) ∧ (g.2.1 (g.2.2.2 l0 7) = 100) ∧ (vp_in l2 (g.2.2.1 (g.2.2.2 l0 7))) ∧ (g.2.2.2 l0 8 ≠ 0) ∧ (g.2.1 (g.2.2.2 l0 8) = 100) ∧ (vp_in l2 (g.2.2.1 (g.2.2.2 l0 8))) ∧ (g.2.2.2 l0 3 ≠ 0) ∧ (g.2.1 (g.2.2.2 l0 3) = 100) ∧ (vp_in l2 (g.2.2.1 (g.2.2.2 l0 3))) ∧ ∀ hi12 : ts_I, hi12 = ts_up hi (g.2.2.2 l0 7) l2.toNatClampNeg ((hi (g.2.2.2 l0 7) l2.toNatClampNeg) + (((hi (g.2.2.2 l0 8) l2.toNatClampNeg) >>> ((hi (g.2.2.2 l0 3) l2.toNatClampNeg) &&& 31)) &&& 1)) → ts_J0 (d + 1) mX1_findGains (ts_qv Q) g 109 [(0, .ref l0), (2, .int (l2 + 1))] [] hi12 hk)) : ts_J0 (d + 1) mX1_findGains (ts_qv Q) g 109 [(0, .ref l0), (2, .int l2)] [] hi hk := by
  refine ts_iload_n 1 (pc' := 110) rfl dX1_findGains_109 rfl rfl ?_
  refine ts_aload_n 0 (pc' := 111) rfl dX1_findGains_110 rfl rfl ?_
  obtain ⟨c1, W⟩ := W
  refine ts_getI (pc' := 114) (ci := 1) 9 cfX1.1 cfX1.2.1 cfX1.2.2 rfl (by decide) hnX1_findGains_X1 flX1_findGains_42 rfl dX1_findGains_111 c1 ?_
  refine ts_icmp_ge (pc' := 117) (tgt := 147) rfl dX1_findGains_114 (by decide) (fun q2 => ?_) (fun q2 => ?_)
  · replace W := W.1 q2
    exact ts_vret dX1_findGains_147 rfl (Nat.le_refl _) (Nat.le_refl _) ⟨rfl, rfl, W⟩
  · replace W := W.2 q2
    refine ts_aload_n 0 (pc' := 118) rfl dX1_findGains_117 rfl rfl ?_
    obtain ⟨c3, W⟩ := W
    refine ts_getR (pc' := 121) (ci := 1) 7 cfX1.1 cfX1.2.1 cfX1.2.2 rfl (by decide) hnX1_findGains_X1 flX1_findGains_36 rfl dX1_findGains_118 c1 c3 ?_
    refine ts_iload_n 1 (pc' := 122) rfl dX1_findGains_121 rfl rfl ?_
    refine ts_dup2 (pc' := 123) rfl dX1_findGains_122 rfl rfl ?_
    obtain ⟨c4, W⟩ := W
    obtain ⟨c5, W⟩ := W
    refine ts_iaload (pc' := 124) rfl dX1_findGains_123 c4 c5 ?_
    refine ts_aload_n 0 (pc' := 125) rfl dX1_findGains_124 rfl rfl ?_
    obtain ⟨c6, W⟩ := W
    refine ts_getR (pc' := 128) (ci := 1) 8 cfX1.1 cfX1.2.1 cfX1.2.2 rfl (by decide) hnX1_findGains_X1 flX1_findGains_39 rfl dX1_findGains_125 c1 c6 ?_
    refine ts_iload_n 1 (pc' := 129) rfl dX1_findGains_128 rfl rfl ?_
    obtain ⟨c7, W⟩ := W
    obtain ⟨c8, W⟩ := W
    refine ts_iaload (pc' := 130) rfl dX1_findGains_129 c7 c8 ?_
    refine ts_aload_n 0 (pc' := 131) rfl dX1_findGains_130 rfl rfl ?_
    obtain ⟨c9, W⟩ := W
    refine ts_getR (pc' := 134) (ci := 1) 3 cfX1.1 cfX1.2.1 cfX1.2.2 rfl (by decide) hnX1_findGains_X1 flX1_findGains_24 rfl dX1_findGains_131 c1 c9 ?_
    refine ts_iload_n 1 (pc' := 135) rfl dX1_findGains_134 rfl rfl ?_
    obtain ⟨c10, W⟩ := W
    obtain ⟨c11, W⟩ := W
    refine ts_iaload (pc' := 136) rfl dX1_findGains_135 c10 c11 ?_
    refine ts_ishr (pc' := 137) rfl dX1_findGains_136 ?_
    refine ts_iconst (v := 1) (pc' := 138) rfl dX1_findGains_137 (by decide) ?_
    refine ts_iand (pc' := 139) rfl dX1_findGains_138 ?_
    refine ts_iadd (pc' := 140) rfl dX1_findGains_139 ?_
    refine ts_iastore (pc' := 141) rfl dX1_findGains_140 c4 c5 ?_
    obtain ⟨hi12, ehi12⟩ : ∃ z, z = ts_up hi (g.2.2.2 l0 7) l2.toNatClampNeg ((hi (g.2.2.2 l0 7) l2.toNatClampNeg) + (((hi (g.2.2.2 l0 8) l2.toNatClampNeg) >>> ((hi (g.2.2.2 l0 3) l2.toNatClampNeg) &&& 31)) &&& 1)) := ⟨_, rfl⟩
    rw [← ehi12]; replace W := W hi12 ehi12
    refine ts_iinc 1 (pc' := 144) (ls' := [(2, .int (l2 + 1)), (0, .ref l0)]) rfl dX1_findGains_141 rfl rfl (Nat.le_of_ble_eq_true rfl) rfl ?_
    refine ts_goto (tgt := 109) dX1_findGains_144 (by decide) ?_
    exact ts_sub [1, 0] rfl W
theorem hnX1_findHigher_X1 : ∀ w ∈ u_ws RX1 TX1 13, w ∈ wsX1_findHigher := by decide +kernel
theorem flX1_findHigher_17 : Cond.fieldLink RX1 17 "TurnipSquires$Field" "rank" "[I" ∈ wsX1_findHigher := by decide +kernel
theorem flX1_findHigher_33 : Cond.fieldLink RX1 33 "TurnipSquires$Field" "at" "[I" ∈ wsX1_findHigher := by decide +kernel
theorem flX1_findHigher_39 : Cond.fieldLink RX1 39 "TurnipSquires$Field" "higher" "[I" ∈ wsX1_findHigher := by decide +kernel
theorem flX1_findHigher_42 : Cond.fieldLink RX1 42 "TurnipSquires$Field" "count" "I" ∈ wsX1_findHigher := by decide +kernel
set_option maxHeartbeats 4000000 in
theorem wX1_findHigher_0 {d : Nat} {g : ts_G} {Q : ts_I → ts_K → Prop} {o : Nat} {hi : ts_I} {hk : ts_K} (W : ts_J0 d mX1_findHigher (ts_qv Q) g 2 [(0, .ref o), (1, .int 0)] [] hi hk) : ts_J0 d mX1_findHigher (ts_qv Q) g 0 [(0, .ref o)] [] hi hk := by
  refine ts_iconst (v := 0) (pc' := 1) rfl dX1_findHigher_0 (by decide) ?_
  refine ts_istore_n (pc' := 2) (ls' := [(1, .int 0), (0, .ref o)]) rfl dX1_findHigher_1 rfl (Nat.le_of_ble_eq_true rfl) rfl ?_
  exact ts_sub [1, 0] rfl W
set_option maxHeartbeats 4000000 in
theorem wX1_findHigher_2 {d : Nat} {g : ts_G} {Q : ts_I → ts_K → Prop} {l0 : Nat} {l1 : Int32} {hi : ts_I} {hk : ts_K} (W : (g.2.1 l0 = 1) ∧ (((hi l0 9) ≤ l1) → ts_J0 d mX1_findHigher (ts_qv Q) g 25 [(0, .ref l0), (1, .int 0)] [] hi hk) ∧ (¬ ((hi l0 9) ≤ l1) → (g.2.2.2 l0 8 ≠ 0) ∧ (g.2.1 (g.2.2.2 l0 8) = 100) ∧ (vp_in l1 (g.2.2.1 (g.2.2.2 l0 8))) ∧ ∀ hi6 : ts_I, hi6 = ts_up hi (g.2.2.2 l0 8) l1.toNatClampNeg 0 → ts_J0 d mX1_findHigher (ts_qv Q) g 2 [(0, .ref l0), (1, .int (l1 + 1))] [] hi6 hk)) : ts_J0 d mX1_findHigher (ts_qv Q) g 2 [(0, .ref l0), (1, .int l1)] [] hi hk := by
  refine ts_iload_n 1 (pc' := 3) rfl dX1_findHigher_2 rfl rfl ?_
  refine ts_aload_n 0 (pc' := 4) rfl dX1_findHigher_3 rfl rfl ?_
  obtain ⟨c1, W⟩ := W
  refine ts_getI (pc' := 7) (ci := 1) 9 cfX1.1 cfX1.2.1 cfX1.2.2 rfl (by decide) hnX1_findHigher_X1 flX1_findHigher_42 rfl dX1_findHigher_4 c1 ?_
  refine ts_icmp_ge (pc' := 10) (tgt := 23) rfl dX1_findHigher_7 (by decide) (fun q2 => ?_) (fun q2 => ?_)
  · replace W := W.1 q2
    refine ts_iconst (v := 0) (pc' := 24) rfl dX1_findHigher_23 (by decide) ?_
    refine ts_istore_n (pc' := 25) (ls' := [(1, .int 0), (0, .ref l0)]) rfl dX1_findHigher_24 rfl (Nat.le_of_ble_eq_true rfl) rfl ?_
    exact ts_sub [1, 0] rfl W
  · replace W := W.2 q2
    refine ts_aload_n 0 (pc' := 11) rfl dX1_findHigher_10 rfl rfl ?_
    obtain ⟨c3, W⟩ := W
    refine ts_getR (pc' := 14) (ci := 1) 8 cfX1.1 cfX1.2.1 cfX1.2.2 rfl (by decide) hnX1_findHigher_X1 flX1_findHigher_39 rfl dX1_findHigher_11 c1 c3 ?_
    refine ts_iload_n 1 (pc' := 15) rfl dX1_findHigher_14 rfl rfl ?_
    refine ts_iconst (v := 0) (pc' := 16) rfl dX1_findHigher_15 (by decide) ?_
    obtain ⟨c4, W⟩ := W
    obtain ⟨c5, W⟩ := W
    refine ts_iastore (pc' := 17) rfl dX1_findHigher_16 c4 c5 ?_
    obtain ⟨hi6, ehi6⟩ : ∃ z, z = ts_up hi (g.2.2.2 l0 8) l1.toNatClampNeg 0 := ⟨_, rfl⟩
    rw [← ehi6]; replace W := W hi6 ehi6
    refine ts_iinc 1 (pc' := 20) (ls' := [(1, .int (l1 + 1)), (0, .ref l0)]) rfl dX1_findHigher_17 rfl rfl (Nat.le_of_ble_eq_true rfl) rfl ?_
    refine ts_goto (tgt := 2) dX1_findHigher_20 (by decide) ?_
    exact ts_sub [1, 0] rfl W
set_option maxHeartbeats 4000000 in
theorem wX1_findHigher_25 {d : Nat} {g : ts_G} {Q : ts_I → ts_K → Prop} {l0 : Nat} {l1 : Int32} {hi : ts_I} {hk : ts_K} (W : (g.2.1 l0 = 1) ∧ (((hi l0 9) ≤ (l1 + 1)) → Q hi hk) ∧ (¬ ((hi l0 9) ≤ (l1 + 1)) → (g.2.2.2 l0 6 ≠ 0) ∧ (g.2.1 (g.2.2.2 l0 6) = 100) ∧ (vp_in l1 (g.2.2.1 (g.2.2.2 l0 6))) ∧ (vp_in (l1 + 1) (g.2.2.1 (g.2.2.2 l0 6))) ∧ (g.2.2.2 l0 1 ≠ 0) ∧ (g.2.1 (g.2.2.2 l0 1) = 100) ∧ (vp_in (hi (g.2.2.2 l0 6) l1.toNatClampNeg) (g.2.2.1 (g.2.2.2 l0 1))) ∧ (vp_in (hi (g.2.2.2 l0 6) (l1 + 1).toNatClampNeg) (g.2.2.1 (g.2.2.2 l0 1))) ∧ (((hi (g.2.2.2 l0 1) (hi (g.2.2.2 l0 6) l1.toNatClampNeg).toNatClampNeg) ≤ (hi (g.2.2.2 l0 1) (hi (g.2.2.2 l0 6) (l1 + 1).toNatClampNeg).toNatClampNeg)) → (((hi (g.2.2.2 l0 1) (hi (g.2.2.2 l0 6) (l1 + 1).toNatClampNeg).toNatClampNeg) ≤ (hi (g.2.2.2 l0 1) (hi (g.2.2.2 l0 6) l1.toNatClampNeg).toNatClampNeg)) → ts_J0 d mX1_findHigher (ts_qv Q) g 25 [(0, .ref l0), (1, .int (l1 + 1))] [] hi hk) ∧ (¬ ((hi (g.2.2.2 l0 1) (hi (g.2.2.2 l0 6) (l1 + 1).toNatClampNeg).toNatClampNeg) ≤ (hi (g.2.2.2 l0 1) (hi (g.2.2.2 l0 6) l1.toNatClampNeg).toNatClampNeg)) → (g.2.2.2 l0 8 ≠ 0) ∧ (g.2.1 (g.2.2.2 l0 8) = 100) ∧ (vp_in (hi (g.2.2.2 l0 6) l1.toNatClampNeg) (g.2.2.1 (g.2.2.2 l0 8))) ∧ ∀ hi16 : ts_I, hi16 = ts_up hi (g.2.2.2 l0 8) (hi (g.2.2.2 l0 6) l1.toNatClampNeg).toNatClampNeg ((hi (g.2.2.2 l0 8) (hi (g.2.2.2 l0 6) l1.toNatClampNeg).toNatClampNeg) ||| 2) → ts_J0 d mX1_findHigher (ts_qv Q) g 25 [(0, .ref l0), (1, .int (l1 + 1))] [] hi16 hk)) ∧ (¬ ((hi (g.2.2.2 l0 1) (hi (g.2.2.2 l0 6) l1.toNatClampNeg).toNatClampNeg) ≤ (hi (g.2.2.2 l0 1) (hi (g.2.2.2 l0 6) (l1 + 1).toNatClampNeg).toNatClampNeg)) → (g.2.2.2 l0 8 ≠ 0) ∧ (g.2.1 (g.2.2.2 l0 8) = 100) ∧ (vp_in (hi (g.2.2.2 l0 6) (l1 + 1).toNatClampNeg) (g.2.2.1 (g.2.2.2 l0 8))) ∧ ∀ hi20 : ts_I, hi20 = ts_up hi (g.2.2.2 l0 8) (hi (g.2.2.2 l0 6) (l1 + 1).toNatClampNeg).toNatClampNeg ((hi (g.2.2.2 l0 8) (hi (g.2.2.2 l0 6) (l1 + 1).toNatClampNeg).toNatClampNeg) ||| 1) → (((hi20 (g.2.2.2 l0 1) (hi (g.2.2.2 l0 6) (l1 + 1).toNatClampNeg).toNatClampNeg) ≤ (hi20 (g.2.2.2 l0 1) (hi (g.2.2.2 l0 6) l1.toNatClampNeg).toNatClampNeg)) → ts_J0 d mX1_findHigher (ts_qv Q) g 25 [(0, .ref l0), (1, .int (l1 + 1))] [] hi20 hk) ∧ (¬ ((hi20 (g.2.2.2 l0 1) (hi (g.2.2.2 l0 6) (l1 + 1).toNatClampNeg).toNatClampNeg) ≤ (hi20 (g.2.2.2 l0 1) (hi (g.2.2.2 l0 6) l1.toNatClampNeg).toNatClampNeg)) → (vp_in (hi (g.2.2.2 l0 6) l1.toNatClampNeg) (g.2.2.1 (g.2.2.2 l0 8))) ∧ ∀ hi23 : ts_I, hi23 = ts_up hi20 (g.2.2.2 l0 8) (hi (g.2.2.2 l0 6) l1.toNatClampNeg).toNatClampNeg ((hi20 (g.2.2.2 l0 8) (hi (g.2.2.2 l0 6) l1.toNatClampNeg).toNatClampNeg) ||| 2) → ts_J0 d mX1_findHigher (ts_qv Q) g 25 [(0, .ref l0), (1, .int (l1 + 1))] [] hi23 hk)))) : ts_J0 d mX1_findHigher (ts_qv Q) g 25 [(0, .ref l0), (1, .int l1)] [] hi hk := by
  refine ts_iload_n 1 (pc' := 26) rfl dX1_findHigher_25 rfl rfl ?_
  refine ts_iconst (v := 1) (pc' := 27) rfl dX1_findHigher_26 (by decide) ?_
  refine ts_iadd (pc' := 28) rfl dX1_findHigher_27 ?_
  refine ts_aload_n 0 (pc' := 29) rfl dX1_findHigher_28 rfl rfl ?_
  obtain ⟨c1, W⟩ := W
  refine ts_getI (pc' := 32) (ci := 1) 9 cfX1.1 cfX1.2.1 cfX1.2.2 rfl (by decide) hnX1_findHigher_X1 flX1_findHigher_42 rfl dX1_findHigher_29 c1 ?_
  refine ts_icmp_ge (pc' := 35) (tgt := 107) rfl dX1_findHigher_32 (by decide) (fun q2 => ?_) (fun q2 => ?_)
  · replace W := W.1 q2
    exact ts_vret dX1_findHigher_107 rfl (Nat.le_refl _) (Nat.le_refl _) ⟨rfl, rfl, W⟩
  · replace W := W.2 q2
    refine ts_aload_n 0 (pc' := 36) rfl dX1_findHigher_35 rfl rfl ?_
    obtain ⟨c3, W⟩ := W
    refine ts_getR (pc' := 39) (ci := 1) 6 cfX1.1 cfX1.2.1 cfX1.2.2 rfl (by decide) hnX1_findHigher_X1 flX1_findHigher_33 rfl dX1_findHigher_36 c1 c3 ?_
    refine ts_iload_n 1 (pc' := 40) rfl dX1_findHigher_39 rfl rfl ?_
    obtain ⟨c4, W⟩ := W
    obtain ⟨c5, W⟩ := W
    refine ts_iaload (pc' := 41) rfl dX1_findHigher_40 c4 c5 ?_
    refine ts_istore_n (pc' := 42) (ls' := [(2, .int (hi (g.2.2.2 l0 6) l1.toNatClampNeg)), (0, .ref l0), (1, .int l1)]) rfl dX1_findHigher_41 rfl (Nat.le_of_ble_eq_true rfl) rfl ?_
    refine ts_aload_n 1 (pc' := 43) rfl dX1_findHigher_42 rfl rfl ?_
    refine ts_getR (pc' := 46) (ci := 1) 6 cfX1.1 cfX1.2.1 cfX1.2.2 rfl (by decide) hnX1_findHigher_X1 flX1_findHigher_33 rfl dX1_findHigher_43 c1 c3 ?_
    refine ts_iload_n 2 (pc' := 47) rfl dX1_findHigher_46 rfl rfl ?_
    refine ts_iconst (v := 1) (pc' := 48) rfl dX1_findHigher_47 (by decide) ?_
    refine ts_iadd (pc' := 49) rfl dX1_findHigher_48 ?_
    obtain ⟨c6, W⟩ := W
    refine ts_iaload (pc' := 50) rfl dX1_findHigher_49 c4 c6 ?_
    refine ts_istore_n (pc' := 51) (ls' := [(3, .int (hi (g.2.2.2 l0 6) (l1 + 1).toNatClampNeg)), (2, .int (hi (g.2.2.2 l0 6) l1.toNatClampNeg)), (0, .ref l0), (1, .int l1)]) rfl dX1_findHigher_50 rfl (Nat.le_of_ble_eq_true rfl) rfl ?_
    refine ts_aload_n 2 (pc' := 52) rfl dX1_findHigher_51 rfl rfl ?_
    obtain ⟨c7, W⟩ := W
    refine ts_getR (pc' := 55) (ci := 1) 1 cfX1.1 cfX1.2.1 cfX1.2.2 rfl (by decide) hnX1_findHigher_X1 flX1_findHigher_17 rfl dX1_findHigher_52 c1 c7 ?_
    refine ts_iload_n 1 (pc' := 56) rfl dX1_findHigher_55 rfl rfl ?_
    obtain ⟨c8, W⟩ := W
    obtain ⟨c9, W⟩ := W
    refine ts_iaload (pc' := 57) rfl dX1_findHigher_56 c8 c9 ?_
    refine ts_aload_n 2 (pc' := 58) rfl dX1_findHigher_57 rfl rfl ?_
    refine ts_getR (pc' := 61) (ci := 1) 1 cfX1.1 cfX1.2.1 cfX1.2.2 rfl (by decide) hnX1_findHigher_X1 flX1_findHigher_17 rfl dX1_findHigher_58 c1 c7 ?_
    refine ts_iload_n 0 (pc' := 62) rfl dX1_findHigher_61 rfl rfl ?_
    obtain ⟨c10, W⟩ := W
    refine ts_iaload (pc' := 63) rfl dX1_findHigher_62 c8 c10 ?_
    refine ts_icmp_le (pc' := 66) (tgt := 76) rfl dX1_findHigher_63 (by decide) (fun q11 => ?_) (fun q11 => ?_)
    · replace W := W.1 q11
      refine ts_aload_n 2 (pc' := 77) rfl dX1_findHigher_76 rfl rfl ?_
      refine ts_getR (pc' := 80) (ci := 1) 1 cfX1.1 cfX1.2.1 cfX1.2.2 rfl (by decide) hnX1_findHigher_X1 flX1_findHigher_17 rfl dX1_findHigher_77 c1 c7 ?_
      refine ts_iload_n 0 (pc' := 81) rfl dX1_findHigher_80 rfl rfl ?_
      refine ts_iaload (pc' := 82) rfl dX1_findHigher_81 c8 c10 ?_
      refine ts_aload_n 2 (pc' := 83) rfl dX1_findHigher_82 rfl rfl ?_
      refine ts_getR (pc' := 86) (ci := 1) 1 cfX1.1 cfX1.2.1 cfX1.2.2 rfl (by decide) hnX1_findHigher_X1 flX1_findHigher_17 rfl dX1_findHigher_83 c1 c7 ?_
      refine ts_iload_n 1 (pc' := 87) rfl dX1_findHigher_86 rfl rfl ?_
      refine ts_iaload (pc' := 88) rfl dX1_findHigher_87 c8 c9 ?_
      refine ts_icmp_le (pc' := 91) (tgt := 101) rfl dX1_findHigher_88 (by decide) (fun q12 => ?_) (fun q12 => ?_)
      · replace W := W.1 q12
        refine ts_iinc 3 (pc' := 104) (ls' := [(1, .int (l1 + 1)), (3, .int (hi (g.2.2.2 l0 6) (l1 + 1).toNatClampNeg)), (2, .int (hi (g.2.2.2 l0 6) l1.toNatClampNeg)), (0, .ref l0)]) rfl dX1_findHigher_101 rfl rfl (Nat.le_of_ble_eq_true rfl) rfl ?_
        refine ts_goto (tgt := 25) dX1_findHigher_104 (by decide) ?_
        exact ts_sub [3, 0] rfl W
      · replace W := W.2 q12
        refine ts_aload_n 2 (pc' := 92) rfl dX1_findHigher_91 rfl rfl ?_
        obtain ⟨c13, W⟩ := W
        refine ts_getR (pc' := 95) (ci := 1) 8 cfX1.1 cfX1.2.1 cfX1.2.2 rfl (by decide) hnX1_findHigher_X1 flX1_findHigher_39 rfl dX1_findHigher_92 c1 c13 ?_
        refine ts_iload_n 1 (pc' := 96) rfl dX1_findHigher_95 rfl rfl ?_
        refine ts_dup2 (pc' := 97) rfl dX1_findHigher_96 rfl rfl ?_
        obtain ⟨c14, W⟩ := W
        obtain ⟨c15, W⟩ := W
        refine ts_iaload (pc' := 98) rfl dX1_findHigher_97 c14 c15 ?_
        refine ts_iconst (v := 2) (pc' := 99) rfl dX1_findHigher_98 (by decide) ?_
        refine ts_ior (pc' := 100) rfl dX1_findHigher_99 ?_
        refine ts_iastore (pc' := 101) rfl dX1_findHigher_100 c14 c15 ?_
        obtain ⟨hi16, ehi16⟩ : ∃ z, z = ts_up hi (g.2.2.2 l0 8) (hi (g.2.2.2 l0 6) l1.toNatClampNeg).toNatClampNeg ((hi (g.2.2.2 l0 8) (hi (g.2.2.2 l0 6) l1.toNatClampNeg).toNatClampNeg) ||| 2) := ⟨_, rfl⟩
        rw [← ehi16]; replace W := W hi16 ehi16
        refine ts_iinc 3 (pc' := 104) (ls' := [(1, .int (l1 + 1)), (3, .int (hi (g.2.2.2 l0 6) (l1 + 1).toNatClampNeg)), (2, .int (hi (g.2.2.2 l0 6) l1.toNatClampNeg)), (0, .ref l0)]) rfl dX1_findHigher_101 rfl rfl (Nat.le_of_ble_eq_true rfl) rfl ?_
        refine ts_goto (tgt := 25) dX1_findHigher_104 (by decide) ?_
        exact ts_sub [3, 0] rfl W
    · replace W := W.2 q11
      refine ts_aload_n 2 (pc' := 67) rfl dX1_findHigher_66 rfl rfl ?_
      obtain ⟨c17, W⟩ := W
      refine ts_getR (pc' := 70) (ci := 1) 8 cfX1.1 cfX1.2.1 cfX1.2.2 rfl (by decide) hnX1_findHigher_X1 flX1_findHigher_39 rfl dX1_findHigher_67 c1 c17 ?_
      refine ts_iload_n 0 (pc' := 71) rfl dX1_findHigher_70 rfl rfl ?_
      refine ts_dup2 (pc' := 72) rfl dX1_findHigher_71 rfl rfl ?_
      obtain ⟨c18, W⟩ := W
      obtain ⟨c19, W⟩ := W
      refine ts_iaload (pc' := 73) rfl dX1_findHigher_72 c18 c19 ?_
      refine ts_iconst (v := 1) (pc' := 74) rfl dX1_findHigher_73 (by decide) ?_
      refine ts_ior (pc' := 75) rfl dX1_findHigher_74 ?_
      refine ts_iastore (pc' := 76) rfl dX1_findHigher_75 c18 c19 ?_
      obtain ⟨hi20, ehi20⟩ : ∃ z, z = ts_up hi (g.2.2.2 l0 8) (hi (g.2.2.2 l0 6) (l1 + 1).toNatClampNeg).toNatClampNeg ((hi (g.2.2.2 l0 8) (hi (g.2.2.2 l0 6) (l1 + 1).toNatClampNeg).toNatClampNeg) ||| 1) := ⟨_, rfl⟩
      rw [← ehi20]; replace W := W hi20 ehi20
      refine ts_aload_n 2 (pc' := 77) rfl dX1_findHigher_76 rfl rfl ?_
      refine ts_getR (pc' := 80) (ci := 1) 1 cfX1.1 cfX1.2.1 cfX1.2.2 rfl (by decide) hnX1_findHigher_X1 flX1_findHigher_17 rfl dX1_findHigher_77 c1 c7 ?_
      refine ts_iload_n 0 (pc' := 81) rfl dX1_findHigher_80 rfl rfl ?_
      refine ts_iaload (pc' := 82) rfl dX1_findHigher_81 c8 c10 ?_
      refine ts_aload_n 2 (pc' := 83) rfl dX1_findHigher_82 rfl rfl ?_
      refine ts_getR (pc' := 86) (ci := 1) 1 cfX1.1 cfX1.2.1 cfX1.2.2 rfl (by decide) hnX1_findHigher_X1 flX1_findHigher_17 rfl dX1_findHigher_83 c1 c7 ?_
      refine ts_iload_n 1 (pc' := 87) rfl dX1_findHigher_86 rfl rfl ?_
      refine ts_iaload (pc' := 88) rfl dX1_findHigher_87 c8 c9 ?_
      refine ts_icmp_le (pc' := 91) (tgt := 101) rfl dX1_findHigher_88 (by decide) (fun q21 => ?_) (fun q21 => ?_)
      · replace W := W.1 q21
        refine ts_iinc 3 (pc' := 104) (ls' := [(1, .int (l1 + 1)), (3, .int (hi (g.2.2.2 l0 6) (l1 + 1).toNatClampNeg)), (2, .int (hi (g.2.2.2 l0 6) l1.toNatClampNeg)), (0, .ref l0)]) rfl dX1_findHigher_101 rfl rfl (Nat.le_of_ble_eq_true rfl) rfl ?_
        refine ts_goto (tgt := 25) dX1_findHigher_104 (by decide) ?_
        exact ts_sub [3, 0] rfl W
      · replace W := W.2 q21
        refine ts_aload_n 2 (pc' := 92) rfl dX1_findHigher_91 rfl rfl ?_
        refine ts_getR (pc' := 95) (ci := 1) 8 cfX1.1 cfX1.2.1 cfX1.2.2 rfl (by decide) hnX1_findHigher_X1 flX1_findHigher_39 rfl dX1_findHigher_92 c1 c17 ?_
        refine ts_iload_n 1 (pc' := 96) rfl dX1_findHigher_95 rfl rfl ?_
        refine ts_dup2 (pc' := 97) rfl dX1_findHigher_96 rfl rfl ?_
        obtain ⟨c22, W⟩ := W
        refine ts_iaload (pc' := 98) rfl dX1_findHigher_97 c18 c22 ?_
        refine ts_iconst (v := 2) (pc' := 99) rfl dX1_findHigher_98 (by decide) ?_
        refine ts_ior (pc' := 100) rfl dX1_findHigher_99 ?_
        refine ts_iastore (pc' := 101) rfl dX1_findHigher_100 c18 c22 ?_
        obtain ⟨hi23, ehi23⟩ : ∃ z, z = ts_up hi20 (g.2.2.2 l0 8) (hi (g.2.2.2 l0 6) l1.toNatClampNeg).toNatClampNeg ((hi20 (g.2.2.2 l0 8) (hi (g.2.2.2 l0 6) l1.toNatClampNeg).toNatClampNeg) ||| 2) := ⟨_, rfl⟩
        rw [← ehi23]; replace W := W hi23 ehi23
        refine ts_iinc 3 (pc' := 104) (ls' := [(1, .int (l1 + 1)), (3, .int (hi (g.2.2.2 l0 6) (l1 + 1).toNatClampNeg)), (2, .int (hi (g.2.2.2 l0 6) l1.toNatClampNeg)), (0, .ref l0)]) rfl dX1_findHigher_101 rfl rfl (Nat.le_of_ble_eq_true rfl) rfl ?_
        refine ts_goto (tgt := 25) dX1_findHigher_104 (by decide) ?_
        exact ts_sub [3, 0] rfl W
theorem hnX1_exchange_X1 : ∀ w ∈ u_ws RX1 TX1 13, w ∈ wsX1_exchange := by decide +kernel
theorem flX1_exchange_30 : Cond.fieldLink RX1 30 "TurnipSquires$Field" "place" "[I" ∈ wsX1_exchange := by decide +kernel
theorem flX1_exchange_33 : Cond.fieldLink RX1 33 "TurnipSquires$Field" "at" "[I" ∈ wsX1_exchange := by decide +kernel
set_option maxHeartbeats 4000000 in
theorem wX1_exchange_0 {d : Nat} {g : ts_G} {Q : ts_I → ts_K → Prop} {o : Nat} {p0 : Int32} {p1 : Int32} {hi : ts_I} {hk : ts_K} (W : (g.2.1 o = 1) ∧ (g.2.2.2 o 5 ≠ 0) ∧ (g.2.1 (g.2.2.2 o 5) = 100) ∧ (vp_in p0 (g.2.2.1 (g.2.2.2 o 5))) ∧ (vp_in p1 (g.2.2.1 (g.2.2.2 o 5))) ∧ ∀ hi6 : ts_I, hi6 = ts_up hi (g.2.2.2 o 5) p0.toNatClampNeg (hi (g.2.2.2 o 5) p1.toNatClampNeg) → ∀ hi7 : ts_I, hi7 = ts_up hi6 (g.2.2.2 o 5) p1.toNatClampNeg (hi (g.2.2.2 o 5) p0.toNatClampNeg) → (g.2.2.2 o 6 ≠ 0) ∧ (g.2.1 (g.2.2.2 o 6) = 100) ∧ (vp_in (hi7 (g.2.2.2 o 5) p0.toNatClampNeg) (g.2.2.1 (g.2.2.2 o 6))) ∧ ∀ hi11 : ts_I, hi11 = ts_up hi7 (g.2.2.2 o 6) (hi7 (g.2.2.2 o 5) p0.toNatClampNeg).toNatClampNeg p0 → (vp_in (hi11 (g.2.2.2 o 5) p1.toNatClampNeg) (g.2.2.1 (g.2.2.2 o 6))) ∧ ∀ hi13 : ts_I, hi13 = ts_up hi11 (g.2.2.2 o 6) (hi11 (g.2.2.2 o 5) p1.toNatClampNeg).toNatClampNeg p1 → Q hi13 hk) : ts_J0 d mX1_exchange (ts_qv Q) g 0 [(0, .ref o), (1, .int p0), (2, .int p1)] [] hi hk := by
  refine ts_aload_n 0 (pc' := 1) rfl dX1_exchange_0 rfl rfl ?_
  obtain ⟨c1, W⟩ := W
  obtain ⟨c2, W⟩ := W
  refine ts_getR (pc' := 4) (ci := 1) 5 cfX1.1 cfX1.2.1 cfX1.2.2 rfl (by decide) hnX1_exchange_X1 flX1_exchange_30 rfl dX1_exchange_1 c1 c2 ?_
  refine ts_iload_n 1 (pc' := 5) rfl dX1_exchange_4 rfl rfl ?_
  obtain ⟨c3, W⟩ := W
  obtain ⟨c4, W⟩ := W
  refine ts_iaload (pc' := 6) rfl dX1_exchange_5 c3 c4 ?_
  refine ts_istore_n (pc' := 7) (ls' := [(3, .int (hi (g.2.2.2 o 5) p0.toNatClampNeg)), (0, .ref o), (1, .int p0), (2, .int p1)]) rfl dX1_exchange_6 rfl (Nat.le_of_ble_eq_true rfl) rfl ?_
  refine ts_aload_n 1 (pc' := 8) rfl dX1_exchange_7 rfl rfl ?_
  refine ts_getR (pc' := 11) (ci := 1) 5 cfX1.1 cfX1.2.1 cfX1.2.2 rfl (by decide) hnX1_exchange_X1 flX1_exchange_30 rfl dX1_exchange_8 c1 c2 ?_
  refine ts_iload_n 2 (pc' := 12) rfl dX1_exchange_11 rfl rfl ?_
  refine ts_aload_n 1 (pc' := 13) rfl dX1_exchange_12 rfl rfl ?_
  refine ts_getR (pc' := 16) (ci := 1) 5 cfX1.1 cfX1.2.1 cfX1.2.2 rfl (by decide) hnX1_exchange_X1 flX1_exchange_30 rfl dX1_exchange_13 c1 c2 ?_
  refine ts_iload_n 3 (pc' := 17) rfl dX1_exchange_16 rfl rfl ?_
  obtain ⟨c5, W⟩ := W
  refine ts_iaload (pc' := 18) rfl dX1_exchange_17 c3 c5 ?_
  refine ts_iastore (pc' := 19) rfl dX1_exchange_18 c3 c4 ?_
  obtain ⟨hi6, ehi6⟩ : ∃ z, z = ts_up hi (g.2.2.2 o 5) p0.toNatClampNeg (hi (g.2.2.2 o 5) p1.toNatClampNeg) := ⟨_, rfl⟩
  rw [← ehi6]; replace W := W hi6 ehi6
  refine ts_aload_n 1 (pc' := 20) rfl dX1_exchange_19 rfl rfl ?_
  refine ts_getR (pc' := 23) (ci := 1) 5 cfX1.1 cfX1.2.1 cfX1.2.2 rfl (by decide) hnX1_exchange_X1 flX1_exchange_30 rfl dX1_exchange_20 c1 c2 ?_
  refine ts_iload_n 3 (pc' := 24) rfl dX1_exchange_23 rfl rfl ?_
  refine ts_iload_n 0 (pc' := 25) rfl dX1_exchange_24 rfl rfl ?_
  refine ts_iastore (pc' := 26) rfl dX1_exchange_25 c3 c5 ?_
  obtain ⟨hi7, ehi7⟩ : ∃ z, z = ts_up hi6 (g.2.2.2 o 5) p1.toNatClampNeg (hi (g.2.2.2 o 5) p0.toNatClampNeg) := ⟨_, rfl⟩
  rw [← ehi7]; replace W := W hi7 ehi7
  refine ts_aload_n 1 (pc' := 27) rfl dX1_exchange_26 rfl rfl ?_
  obtain ⟨c8, W⟩ := W
  refine ts_getR (pc' := 30) (ci := 1) 6 cfX1.1 cfX1.2.1 cfX1.2.2 rfl (by decide) hnX1_exchange_X1 flX1_exchange_33 rfl dX1_exchange_27 c1 c8 ?_
  refine ts_aload_n 1 (pc' := 31) rfl dX1_exchange_30 rfl rfl ?_
  refine ts_getR (pc' := 34) (ci := 1) 5 cfX1.1 cfX1.2.1 cfX1.2.2 rfl (by decide) hnX1_exchange_X1 flX1_exchange_30 rfl dX1_exchange_31 c1 c2 ?_
  refine ts_iload_n 2 (pc' := 35) rfl dX1_exchange_34 rfl rfl ?_
  refine ts_iaload (pc' := 36) rfl dX1_exchange_35 c3 c4 ?_
  refine ts_iload_n 2 (pc' := 37) rfl dX1_exchange_36 rfl rfl ?_
  obtain ⟨c9, W⟩ := W
  obtain ⟨c10, W⟩ := W
  refine ts_iastore (pc' := 38) rfl dX1_exchange_37 c9 c10 ?_
  obtain ⟨hi11, ehi11⟩ : ∃ z, z = ts_up hi7 (g.2.2.2 o 6) (hi7 (g.2.2.2 o 5) p0.toNatClampNeg).toNatClampNeg p0 := ⟨_, rfl⟩
  rw [← ehi11]; replace W := W hi11 ehi11
  refine ts_aload_n 1 (pc' := 39) rfl dX1_exchange_38 rfl rfl ?_
  refine ts_getR (pc' := 42) (ci := 1) 6 cfX1.1 cfX1.2.1 cfX1.2.2 rfl (by decide) hnX1_exchange_X1 flX1_exchange_33 rfl dX1_exchange_39 c1 c8 ?_
  refine ts_aload_n 1 (pc' := 43) rfl dX1_exchange_42 rfl rfl ?_
  refine ts_getR (pc' := 46) (ci := 1) 5 cfX1.1 cfX1.2.1 cfX1.2.2 rfl (by decide) hnX1_exchange_X1 flX1_exchange_30 rfl dX1_exchange_43 c1 c2 ?_
  refine ts_iload_n 3 (pc' := 47) rfl dX1_exchange_46 rfl rfl ?_
  refine ts_iaload (pc' := 48) rfl dX1_exchange_47 c3 c5 ?_
  refine ts_iload_n 3 (pc' := 49) rfl dX1_exchange_48 rfl rfl ?_
  obtain ⟨c12, W⟩ := W
  refine ts_iastore (pc' := 50) rfl dX1_exchange_49 c9 c12 ?_
  obtain ⟨hi13, ehi13⟩ : ∃ z, z = ts_up hi11 (g.2.2.2 o 6) (hi11 (g.2.2.2 o 5) p1.toNatClampNeg).toNatClampNeg p1 := ⟨_, rfl⟩
  rw [← ehi13]; replace W := W hi13 ehi13
  exact ts_vret dX1_exchange_50 rfl (Nat.le_refl _) (Nat.le_refl _) ⟨rfl, rfl, W⟩
theorem hnX1_allRanks_X1 : ∀ w ∈ u_ws RX1 TX1 13, w ∈ wsX1_allRanks := by decide +kernel
theorem flX1_allRanks_42 : Cond.fieldLink RX1 42 "TurnipSquires$Field" "count" "I" ∈ wsX1_allRanks := by decide +kernel
set_option maxHeartbeats 4000000 in
theorem wX1_allRanks_0 {d : Nat} {g : ts_G} {Q : Int32 → ts_I → ts_K → Prop} {o : Nat} {hi : ts_I} {hk : ts_K} (W : (g.2.1 o = 1) ∧ ts_E0 d mX1_votesOf [.ref o, .int ((1 <<< ((hi o 9) &&& 31)) - 1)] g hi hk (ts_qi (fun v4 hi2 hk3 => Q v4 hi2 hk3))) : ts_J0 (d + 1) mX1_allRanks (ts_qi Q) g 0 [(0, .ref o)] [] hi hk := by
  refine ts_aload_n 0 (pc' := 1) rfl dX1_allRanks_0 rfl rfl ?_
  refine ts_iconst (v := 1) (pc' := 2) rfl dX1_allRanks_1 (by decide) ?_
  refine ts_aload_n 0 (pc' := 3) rfl dX1_allRanks_2 rfl rfl ?_
  obtain ⟨c1, W⟩ := W
  refine ts_getI (pc' := 6) (ci := 1) 9 cfX1.1 cfX1.2.1 cfX1.2.2 rfl (by decide) hnX1_allRanks_X1 flX1_allRanks_42 rfl dX1_allRanks_3 c1 ?_
  refine ts_ishl (pc' := 7) rfl dX1_allRanks_6 ?_
  refine ts_iconst (v := 1) (pc' := 8) rfl dX1_allRanks_7 (by decide) ?_
  refine ts_isub (pc' := 9) rfl dX1_allRanks_8 ?_
  refine ts_callV (M' := mX1_votesOf) (C := RX1) (pc' := 12) (av := [.int ((1 <<< ((hi o 9) &&& 31)) - 1)]) (b := o) rfl dX1_allRanks_9 rfl gX1_allRanks_X1_votesOf rfl dvX1_votesOf rfl (ci := 1) cfX1.1 (by decide) c1 (Nat.le_refl _) (Nat.le_of_ble_eq_true rfl) (Nat.le_of_ble_eq_true rfl) (Nat.le_refl _) (Nat.le_refl _) ts_kv0 W (ts_kki fun v4 hi2 hk3 W => ?_)
  exact ts_iret dX1_allRanks_12 rfl (Nat.le_refl _) (Nat.le_refl _) ⟨rfl, _, rfl, W⟩
theorem hnX1_allGrown_X1 : ∀ w ∈ u_ws RX1 TX1 13, w ∈ wsX1_allGrown := by decide +kernel
theorem flX1_allGrown_21 : Cond.fieldLink RX1 21 "TurnipSquires$Field" "grown" "[I" ∈ wsX1_allGrown := by decide +kernel
theorem flX1_allGrown_42 : Cond.fieldLink RX1 42 "TurnipSquires$Field" "count" "I" ∈ wsX1_allGrown := by decide +kernel
set_option maxHeartbeats 4000000 in
theorem wX1_allGrown_0 {d : Nat} {g : ts_G} {Q : Int32 → ts_I → ts_K → Prop} {o : Nat} {hi : ts_I} {hk : ts_K} (W : ts_J0 d mX1_allGrown (ts_qi Q) g 4 [(0, .ref o), (1, .int 0), (2, .int 0)] [] hi hk) : ts_J0 d mX1_allGrown (ts_qi Q) g 0 [(0, .ref o)] [] hi hk := by
  refine ts_iconst (v := 0) (pc' := 1) rfl dX1_allGrown_0 (by decide) ?_
  refine ts_istore_n (pc' := 2) (ls' := [(1, .int 0), (0, .ref o)]) rfl dX1_allGrown_1 rfl (Nat.le_of_ble_eq_true rfl) rfl ?_
  refine ts_iconst (v := 0) (pc' := 3) rfl dX1_allGrown_2 (by decide) ?_
  refine ts_istore_n (pc' := 4) (ls' := [(2, .int 0), (1, .int 0), (0, .ref o)]) rfl dX1_allGrown_3 rfl (Nat.le_of_ble_eq_true rfl) rfl ?_
  exact ts_sub [2, 1, 0] rfl W
set_option maxHeartbeats 4000000 in
theorem wX1_allGrown_4 {d : Nat} {g : ts_G} {Q : Int32 → ts_I → ts_K → Prop} {l0 : Nat} {l1 : Int32} {l2 : Int32} {hi : ts_I} {hk : ts_K} (W : (g.2.1 l0 = 1) ∧ (((hi l0 9) ≤ l2) → Q l1 hi hk) ∧ (¬ ((hi l0 9) ≤ l2) → (g.2.2.2 l0 2 ≠ 0) ∧ (g.2.1 (g.2.2.2 l0 2) = 100) ∧ (vp_in l2 (g.2.2.1 (g.2.2.2 l0 2))) ∧ ts_J0 d mX1_allGrown (ts_qi Q) g 4 [(0, .ref l0), (1, .int (l1 + (hi (g.2.2.2 l0 2) l2.toNatClampNeg))), (2, .int (l2 + 1))] [] hi hk)) : ts_J0 d mX1_allGrown (ts_qi Q) g 4 [(0, .ref l0), (1, .int l1), (2, .int l2)] [] hi hk := by
  refine ts_iload_n 2 (pc' := 5) rfl dX1_allGrown_4 rfl rfl ?_
  refine ts_aload_n 0 (pc' := 6) rfl dX1_allGrown_5 rfl rfl ?_
  obtain ⟨c1, W⟩ := W
  refine ts_getI (pc' := 9) (ci := 1) 9 cfX1.1 cfX1.2.1 cfX1.2.2 rfl (by decide) hnX1_allGrown_X1 flX1_allGrown_42 rfl dX1_allGrown_6 c1 ?_
  refine ts_icmp_ge (pc' := 12) (tgt := 27) rfl dX1_allGrown_9 (by decide) (fun q2 => ?_) (fun q2 => ?_)
  · replace W := W.1 q2
    refine ts_iload_n 1 (pc' := 28) rfl dX1_allGrown_27 rfl rfl ?_
    exact ts_iret dX1_allGrown_28 rfl (Nat.le_refl _) (Nat.le_refl _) ⟨rfl, _, rfl, W⟩
  · replace W := W.2 q2
    refine ts_iload_n 1 (pc' := 13) rfl dX1_allGrown_12 rfl rfl ?_
    refine ts_aload_n 0 (pc' := 14) rfl dX1_allGrown_13 rfl rfl ?_
    obtain ⟨c3, W⟩ := W
    refine ts_getR (pc' := 17) (ci := 1) 2 cfX1.1 cfX1.2.1 cfX1.2.2 rfl (by decide) hnX1_allGrown_X1 flX1_allGrown_21 rfl dX1_allGrown_14 c1 c3 ?_
    refine ts_iload_n 2 (pc' := 18) rfl dX1_allGrown_17 rfl rfl ?_
    obtain ⟨c4, W⟩ := W
    obtain ⟨c5, W⟩ := W
    refine ts_iaload (pc' := 19) rfl dX1_allGrown_18 c4 c5 ?_
    refine ts_iadd (pc' := 20) rfl dX1_allGrown_19 ?_
    refine ts_istore_n (pc' := 21) (ls' := [(1, .int (l1 + (hi (g.2.2.2 l0 2) l2.toNatClampNeg))), (0, .ref l0), (2, .int l2)]) rfl dX1_allGrown_20 rfl (Nat.le_of_ble_eq_true rfl) rfl ?_
    refine ts_iinc 2 (pc' := 24) (ls' := [(2, .int (l2 + 1)), (1, .int (l1 + (hi (g.2.2.2 l0 2) l2.toNatClampNeg))), (0, .ref l0)]) rfl dX1_allGrown_21 rfl rfl (Nat.le_of_ble_eq_true rfl) rfl ?_
    refine ts_goto (tgt := 4) dX1_allGrown_24 (by decide) ?_
    exact ts_sub [2, 1, 0] rfl W
theorem hnX1_allMarried_X1 : ∀ w ∈ u_ws RX1 TX1 13, w ∈ wsX1_allMarried := by decide +kernel
theorem flX1_allMarried_27 : Cond.fieldLink RX1 27 "TurnipSquires$Field" "mate" "[I" ∈ wsX1_allMarried := by decide +kernel
theorem flX1_allMarried_42 : Cond.fieldLink RX1 42 "TurnipSquires$Field" "count" "I" ∈ wsX1_allMarried := by decide +kernel
set_option maxHeartbeats 4000000 in
theorem wX1_allMarried_0 {d : Nat} {g : ts_G} {Q : Int32 → ts_I → ts_K → Prop} {o : Nat} {hi : ts_I} {hk : ts_K} (W : ts_J0 d mX1_allMarried (ts_qi Q) g 4 [(0, .ref o), (1, .int 0), (2, .int 0)] [] hi hk) : ts_J0 d mX1_allMarried (ts_qi Q) g 0 [(0, .ref o)] [] hi hk := by
  refine ts_iconst (v := 0) (pc' := 1) rfl dX1_allMarried_0 (by decide) ?_
  refine ts_istore_n (pc' := 2) (ls' := [(1, .int 0), (0, .ref o)]) rfl dX1_allMarried_1 rfl (Nat.le_of_ble_eq_true rfl) rfl ?_
  refine ts_iconst (v := 0) (pc' := 3) rfl dX1_allMarried_2 (by decide) ?_
  refine ts_istore_n (pc' := 4) (ls' := [(2, .int 0), (1, .int 0), (0, .ref o)]) rfl dX1_allMarried_3 rfl (Nat.le_of_ble_eq_true rfl) rfl ?_
  exact ts_sub [2, 1, 0] rfl W
set_option maxHeartbeats 4000000 in
theorem wX1_allMarried_4 {d : Nat} {g : ts_G} {Q : Int32 → ts_I → ts_K → Prop} {l0 : Nat} {l1 : Int32} {l2 : Int32} {hi : ts_I} {hk : ts_K} (W : (g.2.1 l0 = 1) ∧ (((hi l0 9) ≤ l2) → Q l1 hi hk) ∧ (¬ ((hi l0 9) ≤ l2) → (g.2.2.2 l0 4 ≠ 0) ∧ (g.2.1 (g.2.2.2 l0 4) = 100) ∧ (vp_in l2 (g.2.2.1 (g.2.2.2 l0 4))) ∧ (((hi (g.2.2.2 l0 4) l2.toNatClampNeg) = (-1)) → ts_J0 d mX1_allMarried (ts_qi Q) g 4 [(0, .ref l0), (1, .int l1), (2, .int (l2 + 1))] [] hi hk) ∧ (¬ ((hi (g.2.2.2 l0 4) l2.toNatClampNeg) = (-1)) → ts_J0 d mX1_allMarried (ts_qi Q) g 4 [(0, .ref l0), (1, .int (l1 + 1)), (2, .int (l2 + 1))] [] hi hk))) : ts_J0 d mX1_allMarried (ts_qi Q) g 4 [(0, .ref l0), (1, .int l1), (2, .int l2)] [] hi hk := by
  refine ts_iload_n 2 (pc' := 5) rfl dX1_allMarried_4 rfl rfl ?_
  refine ts_aload_n 0 (pc' := 6) rfl dX1_allMarried_5 rfl rfl ?_
  obtain ⟨c1, W⟩ := W
  refine ts_getI (pc' := 9) (ci := 1) 9 cfX1.1 cfX1.2.1 cfX1.2.2 rfl (by decide) hnX1_allMarried_X1 flX1_allMarried_42 rfl dX1_allMarried_6 c1 ?_
  refine ts_icmp_ge (pc' := 12) (tgt := 31) rfl dX1_allMarried_9 (by decide) (fun q2 => ?_) (fun q2 => ?_)
  · replace W := W.1 q2
    refine ts_iload_n 1 (pc' := 32) rfl dX1_allMarried_31 rfl rfl ?_
    exact ts_iret dX1_allMarried_32 rfl (Nat.le_refl _) (Nat.le_refl _) ⟨rfl, _, rfl, W⟩
  · replace W := W.2 q2
    refine ts_aload_n 0 (pc' := 13) rfl dX1_allMarried_12 rfl rfl ?_
    obtain ⟨c3, W⟩ := W
    refine ts_getR (pc' := 16) (ci := 1) 4 cfX1.1 cfX1.2.1 cfX1.2.2 rfl (by decide) hnX1_allMarried_X1 flX1_allMarried_27 rfl dX1_allMarried_13 c1 c3 ?_
    refine ts_iload_n 2 (pc' := 17) rfl dX1_allMarried_16 rfl rfl ?_
    obtain ⟨c4, W⟩ := W
    obtain ⟨c5, W⟩ := W
    refine ts_iaload (pc' := 18) rfl dX1_allMarried_17 c4 c5 ?_
    refine ts_iconst (v := (-1)) (pc' := 19) rfl dX1_allMarried_18 (by decide) ?_
    refine ts_icmp_eq (pc' := 22) (tgt := 25) rfl dX1_allMarried_19 (by decide) (fun q6 => ?_) (fun q6 => ?_)
    · replace W := W.1 q6
      refine ts_iinc 2 (pc' := 28) (ls' := [(2, .int (l2 + 1)), (0, .ref l0), (1, .int l1)]) rfl dX1_allMarried_25 rfl rfl (Nat.le_of_ble_eq_true rfl) rfl ?_
      refine ts_goto (tgt := 4) dX1_allMarried_28 (by decide) ?_
      exact ts_sub [1, 2, 0] rfl W
    · replace W := W.2 q6
      refine ts_iinc 1 (pc' := 25) (ls' := [(1, .int (l1 + 1)), (0, .ref l0), (2, .int l2)]) rfl dX1_allMarried_22 rfl rfl (Nat.le_of_ble_eq_true rfl) rfl ?_
      refine ts_iinc 2 (pc' := 28) (ls' := [(2, .int (l2 + 1)), (1, .int (l1 + 1)), (0, .ref l0)]) rfl dX1_allMarried_25 rfl rfl (Nat.le_of_ble_eq_true rfl) rfl ?_
      refine ts_goto (tgt := 4) dX1_allMarried_28 (by decide) ?_
      exact ts_sub [2, 1, 0] rfl W
theorem hnX1_votesOf_X1 : ∀ w ∈ u_ws RX1 TX1 13, w ∈ wsX1_votesOf := by decide +kernel
theorem flX1_votesOf_17 : Cond.fieldLink RX1 17 "TurnipSquires$Field" "rank" "[I" ∈ wsX1_votesOf := by decide +kernel
theorem flX1_votesOf_42 : Cond.fieldLink RX1 42 "TurnipSquires$Field" "count" "I" ∈ wsX1_votesOf := by decide +kernel
set_option maxHeartbeats 4000000 in
theorem wX1_votesOf_0 {d : Nat} {g : ts_G} {Q : Int32 → ts_I → ts_K → Prop} {o : Nat} {p0 : Int32} {hi : ts_I} {hk : ts_K} (W : ts_J0 d mX1_votesOf (ts_qi Q) g 4 [(0, .ref o), (1, .int p0), (2, .int 0), (3, .int 0)] [] hi hk) : ts_J0 d mX1_votesOf (ts_qi Q) g 0 [(0, .ref o), (1, .int p0)] [] hi hk := by
  refine ts_iconst (v := 0) (pc' := 1) rfl dX1_votesOf_0 (by decide) ?_
  refine ts_istore_n (pc' := 2) (ls' := [(2, .int 0), (0, .ref o), (1, .int p0)]) rfl dX1_votesOf_1 rfl (Nat.le_of_ble_eq_true rfl) rfl ?_
  refine ts_iconst (v := 0) (pc' := 3) rfl dX1_votesOf_2 (by decide) ?_
  refine ts_istore_n (pc' := 4) (ls' := [(3, .int 0), (2, .int 0), (0, .ref o), (1, .int p0)]) rfl dX1_votesOf_3 rfl (Nat.le_of_ble_eq_true rfl) rfl ?_
  exact ts_sub [2, 3, 1, 0] rfl W
set_option maxHeartbeats 4000000 in
theorem wX1_votesOf_4 {d : Nat} {g : ts_G} {Q : Int32 → ts_I → ts_K → Prop} {l0 : Nat} {l1 : Int32} {l2 : Int32} {l3 : Int32} {hi : ts_I} {hk : ts_K} (W : (g.2.1 l0 = 1) ∧ (((hi l0 9) ≤ l3) → Q l2 hi hk) ∧ (¬ ((hi l0 9) ≤ l3) → ((((l1 >>> (l3 &&& 31)) &&& 1) ≠ 1) → ts_J0 d mX1_votesOf (ts_qi Q) g 4 [(0, .ref l0), (1, .int l1), (2, .int l2), (3, .int (l3 + 1))] [] hi hk) ∧ (¬ (((l1 >>> (l3 &&& 31)) &&& 1) ≠ 1) → (g.2.2.2 l0 1 ≠ 0) ∧ (g.2.1 (g.2.2.2 l0 1) = 100) ∧ (vp_in l3 (g.2.2.1 (g.2.2.2 l0 1))) ∧ ts_J0 d mX1_votesOf (ts_qi Q) g 4 [(0, .ref l0), (1, .int l1), (2, .int (l2 + (hi (g.2.2.2 l0 1) l3.toNatClampNeg))), (3, .int (l3 + 1))] [] hi hk))) : ts_J0 d mX1_votesOf (ts_qi Q) g 4 [(0, .ref l0), (1, .int l1), (2, .int l2), (3, .int l3)] [] hi hk := by
  refine ts_iload_n 3 (pc' := 5) rfl dX1_votesOf_4 rfl rfl ?_
  refine ts_aload_n 0 (pc' := 6) rfl dX1_votesOf_5 rfl rfl ?_
  obtain ⟨c1, W⟩ := W
  refine ts_getI (pc' := 9) (ci := 1) 9 cfX1.1 cfX1.2.1 cfX1.2.2 rfl (by decide) hnX1_votesOf_X1 flX1_votesOf_42 rfl dX1_votesOf_6 c1 ?_
  refine ts_icmp_ge (pc' := 12) (tgt := 36) rfl dX1_votesOf_9 (by decide) (fun q2 => ?_) (fun q2 => ?_)
  · replace W := W.1 q2
    refine ts_iload_n 2 (pc' := 37) rfl dX1_votesOf_36 rfl rfl ?_
    exact ts_iret dX1_votesOf_37 rfl (Nat.le_refl _) (Nat.le_refl _) ⟨rfl, _, rfl, W⟩
  · replace W := W.2 q2
    refine ts_iload_n 1 (pc' := 13) rfl dX1_votesOf_12 rfl rfl ?_
    refine ts_iload_n 3 (pc' := 14) rfl dX1_votesOf_13 rfl rfl ?_
    refine ts_ishr (pc' := 15) rfl dX1_votesOf_14 ?_
    refine ts_iconst (v := 1) (pc' := 16) rfl dX1_votesOf_15 (by decide) ?_
    refine ts_iand (pc' := 17) rfl dX1_votesOf_16 ?_
    refine ts_iconst (v := 1) (pc' := 18) rfl dX1_votesOf_17 (by decide) ?_
    refine ts_icmp_ne (pc' := 21) (tgt := 30) rfl dX1_votesOf_18 (by decide) (fun q3 => ?_) (fun q3 => ?_)
    · replace W := W.1 q3
      refine ts_iinc 3 (pc' := 33) (ls' := [(3, .int (l3 + 1)), (0, .ref l0), (1, .int l1), (2, .int l2)]) rfl dX1_votesOf_30 rfl rfl (Nat.le_of_ble_eq_true rfl) rfl ?_
      refine ts_goto (tgt := 4) dX1_votesOf_33 (by decide) ?_
      exact ts_sub [1, 2, 3, 0] rfl W
    · replace W := W.2 q3
      refine ts_iload_n 2 (pc' := 22) rfl dX1_votesOf_21 rfl rfl ?_
      refine ts_aload_n 0 (pc' := 23) rfl dX1_votesOf_22 rfl rfl ?_
      obtain ⟨c4, W⟩ := W
      refine ts_getR (pc' := 26) (ci := 1) 1 cfX1.1 cfX1.2.1 cfX1.2.2 rfl (by decide) hnX1_votesOf_X1 flX1_votesOf_17 rfl dX1_votesOf_23 c1 c4 ?_
      refine ts_iload_n 3 (pc' := 27) rfl dX1_votesOf_26 rfl rfl ?_
      obtain ⟨c5, W⟩ := W
      obtain ⟨c6, W⟩ := W
      refine ts_iaload (pc' := 28) rfl dX1_votesOf_27 c5 c6 ?_
      refine ts_iadd (pc' := 29) rfl dX1_votesOf_28 ?_
      refine ts_istore_n (pc' := 30) (ls' := [(2, .int (l2 + (hi (g.2.2.2 l0 1) l3.toNatClampNeg))), (0, .ref l0), (1, .int l1), (3, .int l3)]) rfl dX1_votesOf_29 rfl (Nat.le_of_ble_eq_true rfl) rfl ?_
      refine ts_iinc 3 (pc' := 33) (ls' := [(3, .int (l3 + 1)), (2, .int (l2 + (hi (g.2.2.2 l0 1) l3.toNatClampNeg))), (0, .ref l0), (1, .int l1)]) rfl dX1_votesOf_30 rfl rfl (Nat.le_of_ble_eq_true rfl) rfl ?_
      refine ts_goto (tgt := 4) dX1_votesOf_33 (by decide) ?_
      exact ts_sub [2, 3, 1, 0] rfl W
theorem hnX1_turnedBy_X1 : ∀ w ∈ u_ws RX1 TX1 13, w ∈ wsX1_turnedBy := by decide +kernel
theorem flX1_turnedBy_17 : Cond.fieldLink RX1 17 "TurnipSquires$Field" "rank" "[I" ∈ wsX1_turnedBy := by decide +kernel
theorem flX1_turnedBy_42 : Cond.fieldLink RX1 42 "TurnipSquires$Field" "count" "I" ∈ wsX1_turnedBy := by decide +kernel
set_option maxHeartbeats 4000000 in
theorem wX1_turnedBy_0 {d : Nat} {g : ts_G} {Q : Int32 → ts_I → ts_K → Prop} {o : Nat} {p0 : Int32} {hi : ts_I} {hk : ts_K} (W : (g.2.1 o = 1) ∧ ts_E0 d mX1_allRanks [.ref o] g hi hk (ts_qi (fun v3 hi1 hk2 => ts_J0 (d + 1) mX1_turnedBy (ts_qi Q) g 10 [(0, .ref o), (1, .int p0), (2, .int v3), (3, .int 0), (4, .int 0)] [] hi1 hk2))) : ts_J0 (d + 1) mX1_turnedBy (ts_qi Q) g 0 [(0, .ref o), (1, .int p0)] [] hi hk := by
  refine ts_aload_n 0 (pc' := 1) rfl dX1_turnedBy_0 rfl rfl ?_
  obtain ⟨c4, W⟩ := W
  refine ts_callV (M' := mX1_allRanks) (C := RX1) (pc' := 4) (av := []) (b := o) rfl dX1_turnedBy_1 rfl gX1_turnedBy_X1_allRanks rfl dvX1_allRanks rfl (ci := 1) cfX1.1 (by decide) c4 (Nat.le_refl _) (Nat.le_of_ble_eq_true rfl) (Nat.le_of_ble_eq_true rfl) (Nat.le_refl _) (Nat.le_refl _) ts_kv0 W (ts_kki fun v3 hi1 hk2 W => ?_)
  refine ts_istore_n (pc' := 5) (ls' := [(2, .int v3), (0, .ref o), (1, .int p0)]) rfl dX1_turnedBy_4 rfl (Nat.le_of_ble_eq_true rfl) rfl ?_
  refine ts_iconst (v := 0) (pc' := 6) rfl dX1_turnedBy_5 (by decide) ?_
  refine ts_istore_n (pc' := 7) (ls' := [(3, .int 0), (2, .int v3), (0, .ref o), (1, .int p0)]) rfl dX1_turnedBy_6 rfl (Nat.le_of_ble_eq_true rfl) rfl ?_
  refine ts_iconst (v := 0) (pc' := 8) rfl dX1_turnedBy_7 (by decide) ?_
  refine ts_istore (pc' := 10) (ls' := [(4, .int 0), (3, .int 0), (2, .int v3), (0, .ref o), (1, .int p0)]) rfl dX1_turnedBy_8 (Nat.le_of_ble_eq_true rfl) rfl ?_
  exact ts_sub [3, 4, 2, 1, 0] rfl W
set_option maxHeartbeats 4000000 in
theorem wX1_turnedBy_10 {d : Nat} {g : ts_G} {Q : Int32 → ts_I → ts_K → Prop} {l0 : Nat} {l1 : Int32} {l2 : Int32} {l3 : Int32} {l4 : Int32} {hi : ts_I} {hk : ts_K} (W : (g.2.1 l0 = 1) ∧ (((1 <<< ((hi l0 9) &&& 31)) ≤ l4) → Q l3 hi hk) ∧ (¬ ((1 <<< ((hi l0 9) &&& 31)) ≤ l4) → ts_E0 d mX1_votesOf [.ref l0, .int l4] g hi hk (ts_qi (fun v5 hi3 hk4 => ((((l4 >>> (l1 &&& 31)) &&& 1) ≠ 0) → ts_J0 (d + 1) mX1_turnedBy (ts_qi Q) g 10 [(0, .ref l0), (1, .int l1), (2, .int l2), (3, .int l3), (4, .int (l4 + 1))] [] hi3 hk4) ∧ (¬ (((l4 >>> (l1 &&& 31)) &&& 1) ≠ 0) → ((l2 < (2 * v5)) → ts_J0 (d + 1) mX1_turnedBy (ts_qi Q) g 10 [(0, .ref l0), (1, .int l1), (2, .int l2), (3, .int l3), (4, .int (l4 + 1))] [] hi3 hk4) ∧ (¬ (l2 < (2 * v5)) → (g.2.2.2 l0 1 ≠ 0) ∧ (g.2.1 (g.2.2.2 l0 1) = 100) ∧ (vp_in l1 (g.2.2.1 (g.2.2.2 l0 1))) ∧ (((2 * (v5 + (hi3 (g.2.2.2 l0 1) l1.toNatClampNeg))) ≤ l2) → ts_J0 (d + 1) mX1_turnedBy (ts_qi Q) g 10 [(0, .ref l0), (1, .int l1), (2, .int l2), (3, .int l3), (4, .int (l4 + 1))] [] hi3 hk4) ∧ (¬ ((2 * (v5 + (hi3 (g.2.2.2 l0 1) l1.toNatClampNeg))) ≤ l2) → ts_J0 (d + 1) mX1_turnedBy (ts_qi Q) g 10 [(0, .ref l0), (1, .int l1), (2, .int l2), (3, .int (l3 + 1)), (4, .int (l4 + 1))] [] hi3 hk4))))))) : ts_J0 (d + 1) mX1_turnedBy (ts_qi Q) g 10 [(0, .ref l0), (1, .int l1), (2, .int l2), (3, .int l3), (4, .int l4)] [] hi hk := by
  refine ts_iload 4 (pc' := 12) rfl dX1_turnedBy_10 rfl ?_
  refine ts_iconst (v := 1) (pc' := 13) rfl dX1_turnedBy_12 (by decide) ?_
  refine ts_aload_n 0 (pc' := 14) rfl dX1_turnedBy_13 rfl rfl ?_
  obtain ⟨c1, W⟩ := W
  refine ts_getI (pc' := 17) (ci := 1) 9 cfX1.1 cfX1.2.1 cfX1.2.2 rfl (by decide) hnX1_turnedBy_X1 flX1_turnedBy_42 rfl dX1_turnedBy_14 c1 ?_
  refine ts_ishl (pc' := 18) rfl dX1_turnedBy_17 ?_
  refine ts_icmp_ge (pc' := 21) (tgt := 70) rfl dX1_turnedBy_18 (by decide) (fun q2 => ?_) (fun q2 => ?_)
  · replace W := W.1 q2
    refine ts_iload_n 3 (pc' := 71) rfl dX1_turnedBy_70 rfl rfl ?_
    exact ts_iret dX1_turnedBy_71 rfl (Nat.le_refl _) (Nat.le_refl _) ⟨rfl, _, rfl, W⟩
  · replace W := W.2 q2
    refine ts_aload_n 0 (pc' := 22) rfl dX1_turnedBy_21 rfl rfl ?_
    refine ts_iload 4 (pc' := 24) rfl dX1_turnedBy_22 rfl ?_
    refine ts_callV (M' := mX1_votesOf) (C := RX1) (pc' := 27) (av := [.int l4]) (b := l0) rfl dX1_turnedBy_24 rfl gX1_turnedBy_X1_votesOf rfl dvX1_votesOf rfl (ci := 1) cfX1.1 (by decide) c1 (Nat.le_refl _) (Nat.le_of_ble_eq_true rfl) (Nat.le_of_ble_eq_true rfl) (Nat.le_refl _) (Nat.le_refl _) ts_kv0 W (ts_kki fun v5 hi3 hk4 W => ?_)
    refine ts_istore (pc' := 29) (ls' := [(5, .int v5), (0, .ref l0), (1, .int l1), (2, .int l2), (3, .int l3), (4, .int l4)]) rfl dX1_turnedBy_27 (Nat.le_of_ble_eq_true rfl) rfl ?_
    refine ts_iload 5 (pc' := 31) rfl dX1_turnedBy_29 rfl ?_
    refine ts_iload_n 2 (pc' := 32) rfl dX1_turnedBy_31 rfl rfl ?_
    refine ts_ishr (pc' := 33) rfl dX1_turnedBy_32 ?_
    refine ts_iconst (v := 1) (pc' := 34) rfl dX1_turnedBy_33 (by decide) ?_
    refine ts_iand (pc' := 35) rfl dX1_turnedBy_34 ?_
    refine ts_if_ne (pc' := 38) (tgt := 64) rfl dX1_turnedBy_35 (by decide) (fun q6 => ?_) (fun q6 => ?_)
    · replace W := W.1 q6
      refine ts_iinc 5 (pc' := 67) (ls' := [(4, .int (l4 + 1)), (5, .int v5), (0, .ref l0), (1, .int l1), (2, .int l2), (3, .int l3)]) rfl dX1_turnedBy_64 rfl rfl (Nat.le_of_ble_eq_true rfl) rfl ?_
      refine ts_goto (tgt := 10) dX1_turnedBy_67 (by decide) ?_
      exact ts_sub [2, 3, 4, 5, 0] rfl W
    · replace W := W.2 q6
      refine ts_iconst (v := 2) (pc' := 39) rfl dX1_turnedBy_38 (by decide) ?_
      refine ts_iload 0 (pc' := 41) rfl dX1_turnedBy_39 rfl ?_
      refine ts_imul (pc' := 42) rfl dX1_turnedBy_41 ?_
      refine ts_iload_n 3 (pc' := 43) rfl dX1_turnedBy_42 rfl rfl ?_
      refine ts_icmp_gt (pc' := 46) (tgt := 64) rfl dX1_turnedBy_43 (by decide) (fun q7 => ?_) (fun q7 => ?_)
      · replace W := W.1 q7
        refine ts_iinc 5 (pc' := 67) (ls' := [(4, .int (l4 + 1)), (5, .int v5), (0, .ref l0), (1, .int l1), (2, .int l2), (3, .int l3)]) rfl dX1_turnedBy_64 rfl rfl (Nat.le_of_ble_eq_true rfl) rfl ?_
        refine ts_goto (tgt := 10) dX1_turnedBy_67 (by decide) ?_
        exact ts_sub [2, 3, 4, 5, 0] rfl W
      · replace W := W.2 q7
        refine ts_iconst (v := 2) (pc' := 47) rfl dX1_turnedBy_46 (by decide) ?_
        refine ts_iload 0 (pc' := 49) rfl dX1_turnedBy_47 rfl ?_
        refine ts_aload_n 1 (pc' := 50) rfl dX1_turnedBy_49 rfl rfl ?_
        obtain ⟨c8, W⟩ := W
        refine ts_getR (pc' := 53) (ci := 1) 1 cfX1.1 cfX1.2.1 cfX1.2.2 rfl (by decide) hnX1_turnedBy_X1 flX1_turnedBy_17 rfl dX1_turnedBy_50 c1 c8 ?_
        refine ts_iload_n 2 (pc' := 54) rfl dX1_turnedBy_53 rfl rfl ?_
        obtain ⟨c9, W⟩ := W
        obtain ⟨c10, W⟩ := W
        refine ts_iaload (pc' := 55) rfl dX1_turnedBy_54 c9 c10 ?_
        refine ts_iadd (pc' := 56) rfl dX1_turnedBy_55 ?_
        refine ts_imul (pc' := 57) rfl dX1_turnedBy_56 ?_
        refine ts_iload_n 3 (pc' := 58) rfl dX1_turnedBy_57 rfl rfl ?_
        refine ts_icmp_le (pc' := 61) (tgt := 64) rfl dX1_turnedBy_58 (by decide) (fun q11 => ?_) (fun q11 => ?_)
        · replace W := W.1 q11
          refine ts_iinc 5 (pc' := 67) (ls' := [(4, .int (l4 + 1)), (5, .int v5), (0, .ref l0), (1, .int l1), (2, .int l2), (3, .int l3)]) rfl dX1_turnedBy_64 rfl rfl (Nat.le_of_ble_eq_true rfl) rfl ?_
          refine ts_goto (tgt := 10) dX1_turnedBy_67 (by decide) ?_
          exact ts_sub [2, 3, 4, 5, 0] rfl W
        · replace W := W.2 q11
          refine ts_iinc 4 (pc' := 64) (ls' := [(3, .int (l3 + 1)), (5, .int v5), (0, .ref l0), (1, .int l1), (2, .int l2), (4, .int l4)]) rfl dX1_turnedBy_61 rfl rfl (Nat.le_of_ble_eq_true rfl) rfl ?_
          refine ts_iinc 5 (pc' := 67) (ls' := [(4, .int (l4 + 1)), (3, .int (l3 + 1)), (5, .int v5), (0, .ref l0), (1, .int l1), (2, .int l2)]) rfl dX1_turnedBy_64 rfl rfl (Nat.le_of_ble_eq_true rfl) rfl ?_
          refine ts_goto (tgt := 10) dX1_turnedBy_67 (by decide) ?_
          exact ts_sub [3, 4, 5, 1, 0] rfl W
theorem hnX1_leastBloc_X1 : ∀ w ∈ u_ws RX1 TX1 13, w ∈ wsX1_leastBloc := by decide +kernel
theorem flX1_leastBloc_42 : Cond.fieldLink RX1 42 "TurnipSquires$Field" "count" "I" ∈ wsX1_leastBloc := by decide +kernel
set_option maxHeartbeats 4000000 in
theorem wX1_leastBloc_0 {d : Nat} {g : ts_G} {Q : Int32 → ts_I → ts_K → Prop} {o : Nat} {hi : ts_I} {hk : ts_K} (W : (g.2.1 o = 1) ∧ ts_E0 d mX1_allRanks [.ref o] g hi hk (ts_qi (fun v3 hi1 hk2 => ts_J0 (d + 1) mX1_leastBloc (ts_qi Q) g 9 [(0, .ref o), (1, .int v3), (2, .int 0), (3, .int 1)] [] hi1 hk2))) : ts_J0 (d + 1) mX1_leastBloc (ts_qi Q) g 0 [(0, .ref o)] [] hi hk := by
  refine ts_aload_n 0 (pc' := 1) rfl dX1_leastBloc_0 rfl rfl ?_
  obtain ⟨c4, W⟩ := W
  refine ts_callV (M' := mX1_allRanks) (C := RX1) (pc' := 4) (av := []) (b := o) rfl dX1_leastBloc_1 rfl gX1_leastBloc_X1_allRanks rfl dvX1_allRanks rfl (ci := 1) cfX1.1 (by decide) c4 (Nat.le_refl _) (Nat.le_of_ble_eq_true rfl) (Nat.le_of_ble_eq_true rfl) (Nat.le_refl _) (Nat.le_refl _) ts_kv0 W (ts_kki fun v3 hi1 hk2 W => ?_)
  refine ts_istore_n (pc' := 5) (ls' := [(1, .int v3), (0, .ref o)]) rfl dX1_leastBloc_4 rfl (Nat.le_of_ble_eq_true rfl) rfl ?_
  refine ts_iconst (v := 0) (pc' := 6) rfl dX1_leastBloc_5 (by decide) ?_
  refine ts_istore_n (pc' := 7) (ls' := [(2, .int 0), (1, .int v3), (0, .ref o)]) rfl dX1_leastBloc_6 rfl (Nat.le_of_ble_eq_true rfl) rfl ?_
  refine ts_iconst (v := 1) (pc' := 8) rfl dX1_leastBloc_7 (by decide) ?_
  refine ts_istore_n (pc' := 9) (ls' := [(3, .int 1), (2, .int 0), (1, .int v3), (0, .ref o)]) rfl dX1_leastBloc_8 rfl (Nat.le_of_ble_eq_true rfl) rfl ?_
  exact ts_sub [3, 2, 1, 0] rfl W
set_option maxHeartbeats 4000000 in
theorem wX1_leastBloc_9 {d : Nat} {g : ts_G} {Q : Int32 → ts_I → ts_K → Prop} {l0 : Nat} {l1 : Int32} {l2 : Int32} {l3 : Int32} {hi : ts_I} {hk : ts_K} (W : (g.2.1 l0 = 1) ∧ (((1 <<< ((hi l0 9) &&& 31)) ≤ l3) → Q l2 hi hk) ∧ (¬ ((1 <<< ((hi l0 9) &&& 31)) ≤ l3) → ((l2 = 0) → ts_E0 d mX1_votesOf [.ref l0, .int l3] g hi hk (ts_qi (fun v7 hi5 hk6 => (((2 * v7) ≤ l1) → ts_J0 (d + 1) mX1_leastBloc (ts_qi Q) g 9 [(0, .ref l0), (1, .int l1), (2, .int l2), (3, .int (l3 + 1))] [] hi5 hk6) ∧ (¬ ((2 * v7) ≤ l1) → ts_J0 (d + 1) mX1_leastBloc (ts_qi Q) g 9 [(0, .ref l0), (1, .int l1), (2, .int l3), (3, .int (l3 + 1))] [] hi5 hk6)))) ∧ (¬ (l2 = 0) → ts_E0 d mJ6_bitCount_0f7a4 [.int l3] g hi hk (ts_qi (fun v11 hi9 hk10 => ts_E0 d mJ6_bitCount_0f7a4 [.int l2] g hi9 hk10 (ts_qi (fun v14 hi12 hk13 => ((v14 ≤ v11) → ts_J0 (d + 1) mX1_leastBloc (ts_qi Q) g 9 [(0, .ref l0), (1, .int l1), (2, .int l2), (3, .int (l3 + 1))] [] hi12 hk13) ∧ (¬ (v14 ≤ v11) → ts_E0 d mX1_votesOf [.ref l0, .int l3] g hi12 hk13 (ts_qi (fun v20 hi18 hk19 => (((2 * v20) ≤ l1) → ts_J0 (d + 1) mX1_leastBloc (ts_qi Q) g 9 [(0, .ref l0), (1, .int l1), (2, .int l2), (3, .int (l3 + 1))] [] hi18 hk19) ∧ (¬ ((2 * v20) ≤ l1) → ts_J0 (d + 1) mX1_leastBloc (ts_qi Q) g 9 [(0, .ref l0), (1, .int l1), (2, .int l3), (3, .int (l3 + 1))] [] hi18 hk19))))))))))) : ts_J0 (d + 1) mX1_leastBloc (ts_qi Q) g 9 [(0, .ref l0), (1, .int l1), (2, .int l2), (3, .int l3)] [] hi hk := by
  refine ts_iload_n 3 (pc' := 10) rfl dX1_leastBloc_9 rfl rfl ?_
  refine ts_iconst (v := 1) (pc' := 11) rfl dX1_leastBloc_10 (by decide) ?_
  refine ts_aload_n 0 (pc' := 12) rfl dX1_leastBloc_11 rfl rfl ?_
  obtain ⟨c1, W⟩ := W
  refine ts_getI (pc' := 15) (ci := 1) 9 cfX1.1 cfX1.2.1 cfX1.2.2 rfl (by decide) hnX1_leastBloc_X1 flX1_leastBloc_42 rfl dX1_leastBloc_12 c1 ?_
  refine ts_ishl (pc' := 16) rfl dX1_leastBloc_15 ?_
  refine ts_icmp_ge (pc' := 19) (tgt := 65) rfl dX1_leastBloc_16 (by decide) (fun q2 => ?_) (fun q2 => ?_)
  · replace W := W.1 q2
    refine ts_iload_n 2 (pc' := 66) rfl dX1_leastBloc_65 rfl rfl ?_
    exact ts_iret dX1_leastBloc_66 rfl (Nat.le_refl _) (Nat.le_refl _) ⟨rfl, _, rfl, W⟩
  · replace W := W.2 q2
    refine ts_iload_n 2 (pc' := 20) rfl dX1_leastBloc_19 rfl rfl ?_
    refine ts_if_eq (pc' := 23) (tgt := 34) rfl dX1_leastBloc_20 (by decide) (fun q3 => ?_) (fun q3 => ?_)
    · replace W := W.1 q3
      refine ts_iconst (v := 1) (pc' := 35) rfl dX1_leastBloc_34 (by decide) ?_
      refine ts_goto (tgt := 39) dX1_leastBloc_35 (by decide) ?_
      refine ts_istore (pc' := 41) (ls' := [(4, .int 1), (0, .ref l0), (1, .int l1), (2, .int l2), (3, .int l3)]) rfl dX1_leastBloc_39 (Nat.le_of_ble_eq_true rfl) rfl ?_
      refine ts_iload 0 (pc' := 43) rfl dX1_leastBloc_41 rfl ?_
      refine ts_if_eq (pc' := 46) (tgt := 59) rfl dX1_leastBloc_43 (by decide) (fun q4 => ?_) (fun q4 => ?_)
      · exact absurd q4 (by decide)
      refine ts_iconst (v := 2) (pc' := 47) rfl dX1_leastBloc_46 (by decide) ?_
      refine ts_aload_n 1 (pc' := 48) rfl dX1_leastBloc_47 rfl rfl ?_
      refine ts_iload_n 4 (pc' := 49) rfl dX1_leastBloc_48 rfl rfl ?_
      refine ts_callV (M' := mX1_votesOf) (C := RX1) (pc' := 52) (av := [.int l3]) (b := l0) rfl dX1_leastBloc_49 rfl gX1_leastBloc_X1_votesOf rfl dvX1_votesOf rfl (ci := 1) cfX1.1 (by decide) c1 (Nat.le_refl _) (Nat.le_of_ble_eq_true rfl) (Nat.le_of_ble_eq_true rfl) (Nat.le_refl _) (Nat.le_refl _) ts_kv0 W (ts_kki fun v7 hi5 hk6 W => ?_)
      refine ts_imul (pc' := 53) rfl dX1_leastBloc_52 ?_
      refine ts_iload_n 2 (pc' := 54) rfl dX1_leastBloc_53 rfl rfl ?_
      refine ts_icmp_le (pc' := 57) (tgt := 59) rfl dX1_leastBloc_54 (by decide) (fun q8 => ?_) (fun q8 => ?_)
      · replace W := W.1 q8
        refine ts_iinc 4 (pc' := 62) (ls' := [(3, .int (l3 + 1)), (4, .int 1), (0, .ref l0), (1, .int l1), (2, .int l2)]) rfl dX1_leastBloc_59 rfl rfl (Nat.le_of_ble_eq_true rfl) rfl ?_
        refine ts_goto (tgt := 9) dX1_leastBloc_62 (by decide) ?_
        exact ts_sub [2, 3, 4, 0] rfl W
      · replace W := W.2 q8
        refine ts_iload_n 4 (pc' := 58) rfl dX1_leastBloc_57 rfl rfl ?_
        refine ts_istore_n (pc' := 59) (ls' := [(2, .int l3), (4, .int 1), (0, .ref l0), (1, .int l1), (3, .int l3)]) rfl dX1_leastBloc_58 rfl (Nat.le_of_ble_eq_true rfl) rfl ?_
        refine ts_iinc 4 (pc' := 62) (ls' := [(3, .int (l3 + 1)), (2, .int l3), (4, .int 1), (0, .ref l0), (1, .int l1)]) rfl dX1_leastBloc_59 rfl rfl (Nat.le_of_ble_eq_true rfl) rfl ?_
        refine ts_goto (tgt := 9) dX1_leastBloc_62 (by decide) ?_
        exact ts_sub [3, 4, 1, 0] rfl W
    · replace W := W.2 q3
      refine ts_iload_n 3 (pc' := 24) rfl dX1_leastBloc_23 rfl rfl ?_
      refine ts_callS (M' := mJ6_bitCount_0f7a4) (pc' := 27) (av := [.int l3]) rfl dX1_leastBloc_24 rfl gX1_leastBloc_J6_bitCount_0f7a4 rfl dsJ6_bitCount_0f7a4 rfl (Nat.le_refl _) (Nat.le_of_ble_eq_true rfl) (Nat.le_of_ble_eq_true rfl) (Nat.le_refl _) (Nat.le_refl _) ts_kv0 W (ts_kki fun v11 hi9 hk10 W => ?_)
      refine ts_iload_n 2 (pc' := 28) rfl dX1_leastBloc_27 rfl rfl ?_
      refine ts_callS (M' := mJ6_bitCount_0f7a4) (pc' := 31) (av := [.int l2]) rfl dX1_leastBloc_28 rfl gX1_leastBloc_J6_bitCount_0f7a4 rfl dsJ6_bitCount_0f7a4 rfl (Nat.le_refl _) (Nat.le_of_ble_eq_true rfl) (Nat.le_of_ble_eq_true rfl) (Nat.le_refl _) (Nat.le_refl _) ts_kv0 W (ts_kki fun v14 hi12 hk13 W => ?_)
      refine ts_icmp_ge (pc' := 34) (tgt := 38) rfl dX1_leastBloc_31 (by decide) (fun q15 => ?_) (fun q15 => ?_)
      · replace W := W.1 q15
        refine ts_iconst (v := 0) (pc' := 39) rfl dX1_leastBloc_38 (by decide) ?_
        refine ts_istore (pc' := 41) (ls' := [(4, .int 0), (0, .ref l0), (1, .int l1), (2, .int l2), (3, .int l3)]) rfl dX1_leastBloc_39 (Nat.le_of_ble_eq_true rfl) rfl ?_
        refine ts_iload 0 (pc' := 43) rfl dX1_leastBloc_41 rfl ?_
        refine ts_if_eq (pc' := 46) (tgt := 59) rfl dX1_leastBloc_43 (by decide) (fun q16 => ?_) (fun q16 => ?_)
        rotate_left
        · exact absurd (by decide) q16
        refine ts_iinc 4 (pc' := 62) (ls' := [(3, .int (l3 + 1)), (4, .int 0), (0, .ref l0), (1, .int l1), (2, .int l2)]) rfl dX1_leastBloc_59 rfl rfl (Nat.le_of_ble_eq_true rfl) rfl ?_
        refine ts_goto (tgt := 9) dX1_leastBloc_62 (by decide) ?_
        exact ts_sub [2, 3, 4, 0] rfl W
      · replace W := W.2 q15
        refine ts_iconst (v := 1) (pc' := 35) rfl dX1_leastBloc_34 (by decide) ?_
        refine ts_goto (tgt := 39) dX1_leastBloc_35 (by decide) ?_
        refine ts_istore (pc' := 41) (ls' := [(4, .int 1), (0, .ref l0), (1, .int l1), (2, .int l2), (3, .int l3)]) rfl dX1_leastBloc_39 (Nat.le_of_ble_eq_true rfl) rfl ?_
        refine ts_iload 0 (pc' := 43) rfl dX1_leastBloc_41 rfl ?_
        refine ts_if_eq (pc' := 46) (tgt := 59) rfl dX1_leastBloc_43 (by decide) (fun q17 => ?_) (fun q17 => ?_)
        · exact absurd q17 (by decide)
        refine ts_iconst (v := 2) (pc' := 47) rfl dX1_leastBloc_46 (by decide) ?_
        refine ts_aload_n 1 (pc' := 48) rfl dX1_leastBloc_47 rfl rfl ?_
        refine ts_iload_n 4 (pc' := 49) rfl dX1_leastBloc_48 rfl rfl ?_
        refine ts_callV (M' := mX1_votesOf) (C := RX1) (pc' := 52) (av := [.int l3]) (b := l0) rfl dX1_leastBloc_49 rfl gX1_leastBloc_X1_votesOf rfl dvX1_votesOf rfl (ci := 1) cfX1.1 (by decide) c1 (Nat.le_refl _) (Nat.le_of_ble_eq_true rfl) (Nat.le_of_ble_eq_true rfl) (Nat.le_refl _) (Nat.le_refl _) ts_kv0 W (ts_kki fun v20 hi18 hk19 W => ?_)
        refine ts_imul (pc' := 53) rfl dX1_leastBloc_52 ?_
        refine ts_iload_n 2 (pc' := 54) rfl dX1_leastBloc_53 rfl rfl ?_
        refine ts_icmp_le (pc' := 57) (tgt := 59) rfl dX1_leastBloc_54 (by decide) (fun q21 => ?_) (fun q21 => ?_)
        · replace W := W.1 q21
          refine ts_iinc 4 (pc' := 62) (ls' := [(3, .int (l3 + 1)), (4, .int 1), (0, .ref l0), (1, .int l1), (2, .int l2)]) rfl dX1_leastBloc_59 rfl rfl (Nat.le_of_ble_eq_true rfl) rfl ?_
          refine ts_goto (tgt := 9) dX1_leastBloc_62 (by decide) ?_
          exact ts_sub [2, 3, 4, 0] rfl W
        · replace W := W.2 q21
          refine ts_iload_n 4 (pc' := 58) rfl dX1_leastBloc_57 rfl rfl ?_
          refine ts_istore_n (pc' := 59) (ls' := [(2, .int l3), (4, .int 1), (0, .ref l0), (1, .int l1), (3, .int l3)]) rfl dX1_leastBloc_58 rfl (Nat.le_of_ble_eq_true rfl) rfl ?_
          refine ts_iinc 4 (pc' := 62) (ls' := [(3, .int (l3 + 1)), (2, .int l3), (4, .int 1), (0, .ref l0), (1, .int l1)]) rfl dX1_leastBloc_59 rfl rfl (Nat.le_of_ble_eq_true rfl) rfl ?_
          refine ts_goto (tgt := 9) dX1_leastBloc_62 (by decide) ?_
          exact ts_sub [3, 4, 1, 0] rfl W
