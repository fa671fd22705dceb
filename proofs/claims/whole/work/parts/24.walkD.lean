theorem hnX9_add_X9 : ∀ w ∈ u_ws RX9 TX9 5, w ∈ wsX9_add := by decide +kernel
theorem flX9_add_9 : Cond.fieldLink RX9 9 "TurnipSquires$Tape" "bytes" "[I" ∈ wsX9_add := by decide +kernel
theorem flX9_add_15 : Cond.fieldLink RX9 15 "TurnipSquires$Tape" "size" "I" ∈ wsX9_add := by decide +kernel
set_option maxHeartbeats 4000000 in
theorem wX9_add_0 {d : Nat} {g : ts_G} {Q : Int32 → ts_I → ts_K → Prop} {o : Nat} {p0 : Int32} {hi : ts_I} {hk : ts_K} (W : (g.2.1 o = 8) ∧ (((hi o 1) < 90) → (g.2.2.2 o 0 ≠ 0) ∧ (g.2.1 (g.2.2.2 o 0) = 100) ∧ (vp_in (hi o 1) (g.2.2.1 (g.2.2.2 o 0))) ∧ ∀ hi6 : ts_I, hi6 = ts_up hi (g.2.2.2 o 0) (hi o 1).toNatClampNeg p0 → ∀ hi7 : ts_I, hi7 = ts_up hi6 o 1 ((hi6 o 1) + 1) → Q 1 hi7 hk) ∧ (¬ ((hi o 1) < 90) → Q 0 hi hk)) : ts_J0 d mX9_add (ts_qi Q) g 0 [(0, .ref o), (1, .int p0)] [] hi hk := by
  refine ts_aload_n 0 (pc' := 1) rfl dX9_add_0 rfl rfl ?_
  obtain ⟨c1, W⟩ := W
  refine ts_getI (pc' := 4) (ci := 8) 1 cfX9.1 cfX9.2.1 cfX9.2.2 rfl (by decide) hnX9_add_X9 flX9_add_15 rfl dX9_add_1 c1 ?_
  refine ts_bipush (v := 90) (pc' := 6) rfl dX9_add_4 (by decide) ?_
  refine ts_icmp_lt (pc' := 9) (tgt := 11) rfl dX9_add_6 (by decide) (fun q2 => ?_) (fun q2 => ?_)
  · replace W := W.1 q2
    refine ts_aload_n 0 (pc' := 12) rfl dX9_add_11 rfl rfl ?_
    obtain ⟨c3, W⟩ := W
    refine ts_getR (pc' := 15) (ci := 8) 0 cfX9.1 cfX9.2.1 cfX9.2.2 rfl (by decide) hnX9_add_X9 flX9_add_9 rfl dX9_add_12 c1 c3 ?_
    refine ts_aload_n 0 (pc' := 16) rfl dX9_add_15 rfl rfl ?_
    refine ts_getI (pc' := 19) (ci := 8) 1 cfX9.1 cfX9.2.1 cfX9.2.2 rfl (by decide) hnX9_add_X9 flX9_add_15 rfl dX9_add_16 c1 ?_
    refine ts_iload_n 1 (pc' := 20) rfl dX9_add_19 rfl rfl ?_
    obtain ⟨c4, W⟩ := W
    obtain ⟨c5, W⟩ := W
    refine ts_iastore (pc' := 21) rfl dX9_add_20 c4 c5 ?_
    obtain ⟨hi6, ehi6⟩ : ∃ z, z = ts_up hi (g.2.2.2 o 0) (hi o 1).toNatClampNeg p0 := ⟨_, rfl⟩
    rw [← ehi6]; replace W := W hi6 ehi6
    refine ts_aload_n 0 (pc' := 22) rfl dX9_add_21 rfl rfl ?_
    refine ts_dup (pc' := 23) rfl dX9_add_22 rfl ?_
    refine ts_getI (pc' := 26) (ci := 8) 1 cfX9.1 cfX9.2.1 cfX9.2.2 rfl (by decide) hnX9_add_X9 flX9_add_15 rfl dX9_add_23 c1 ?_
    refine ts_iconst (v := 1) (pc' := 27) rfl dX9_add_26 (by decide) ?_
    refine ts_iadd (pc' := 28) rfl dX9_add_27 ?_
    refine ts_putI (pc' := 31) (ci := 8) 1 cfX9.1 cfX9.2.1 cfX9.2.2 rfl (by decide) hnX9_add_X9 flX9_add_15 tyX9_ok nmX9 rfl rfl rfl dX9_add_28 c1 ?_
    obtain ⟨hi7, ehi7⟩ : ∃ z, z = ts_up hi6 o 1 ((hi6 o 1) + 1) := ⟨_, rfl⟩
    rw [← ehi7]; replace W := W hi7 ehi7
    refine ts_iconst (v := 1) (pc' := 32) rfl dX9_add_31 (by decide) ?_
    exact ts_zret dX9_add_32 rfl (by decide) (Nat.le_refl _) (Nat.le_refl _) ⟨rfl, _, rfl, W⟩
  · replace W := W.2 q2
    refine ts_iconst (v := 0) (pc' := 10) rfl dX9_add_9 (by decide) ?_
    exact ts_zret dX9_add_10 rfl (by decide) (Nat.le_refl _) (Nat.le_refl _) ⟨rfl, _, rfl, W⟩
theorem hnX9_readInto_X9 : ∀ w ∈ u_ws RX9 TX9 5, w ∈ wsX9_readInto := by decide +kernel
theorem flX9_readInto_15 : Cond.fieldLink RX9 15 "TurnipSquires$Tape" "size" "I" ∈ wsX9_readInto := by decide +kernel
theorem flX9_readInto_19 : Cond.fieldLink RX9 19 "TurnipSquires$Tape" "at" "I" ∈ wsX9_readInto := by decide +kernel
set_option maxHeartbeats 4000000 in
theorem wX9_readInto_0 {d : Nat} {g : ts_G} {Q : Int32 → ts_I → ts_K → Prop} {o : Nat} {p0 : Nat} {p1 : Nat} {hi : ts_I} {hk : ts_K} (W : (g.2.1 o = 8) ∧ ∀ hi2 : ts_I, hi2 = ts_up hi o 2 0 → (g.2.1 p0 = 1) ∧ ts_E0 d mX1_begin [.ref p0] g hi2 hk (ts_qv (fun hi3 hk4 => ts_E0 d mX9_readLaw [.ref o, .ref p0] g hi3 hk4 (ts_qi (fun v8 hi6 hk7 => ((v8 = 0) → ts_J0 (d + 1) mX9_readInto (ts_qi Q) g 35 [(0, .ref o), (1, .ref p0), (2, .ref p1), (3, .int 0), (4, .int 0)] [] hi6 hk7) ∧ (¬ (v8 = 0) → ts_E0 d mX9_readTurnip [.ref o, .ref p0, .ref p1] g hi6 hk7 (ts_qi (fun v12 hi10 hk11 => ((v12 = 0) → ts_J0 (d + 1) mX9_readInto (ts_qi Q) g 35 [(0, .ref o), (1, .ref p0), (2, .ref p1), (3, .int 0), (4, .int 0)] [] hi10 hk11) ∧ (¬ (v12 = 0) → ts_J0 (d + 1) mX9_readInto (ts_qi Q) g 35 [(0, .ref o), (1, .ref p0), (2, .ref p1), (3, .int 1), (4, .int 0)] [] hi10 hk11))))))))) : ts_J0 (d + 1) mX9_readInto (ts_qi Q) g 0 [(0, .ref o), (1, .ref p0), (2, .ref p1)] [] hi hk := by
  refine ts_aload_n 0 (pc' := 1) rfl dX9_readInto_0 rfl rfl ?_
  refine ts_iconst (v := 0) (pc' := 2) rfl dX9_readInto_1 (by decide) ?_
  obtain ⟨c1, W⟩ := W
  refine ts_putI (pc' := 5) (ci := 8) 2 cfX9.1 cfX9.2.1 cfX9.2.2 rfl (by decide) hnX9_readInto_X9 flX9_readInto_19 tyX9_ok nmX9 rfl rfl rfl dX9_readInto_2 c1 ?_
  obtain ⟨hi2, ehi2⟩ : ∃ z, z = ts_up hi o 2 0 := ⟨_, rfl⟩
  rw [← ehi2]; replace W := W hi2 ehi2
  refine ts_aload_n 1 (pc' := 6) rfl dX9_readInto_5 rfl rfl ?_
  obtain ⟨c5, W⟩ := W
  refine ts_callV (M' := mX1_begin) (C := RX1) (pc' := 9) (av := []) (b := p0) rfl dX9_readInto_6 rfl gX9_readInto_X1_begin rfl dvX1_begin rfl (ci := 1) cfX1.1 (by decide) c5 (Nat.le_refl _) (Nat.le_of_ble_eq_true rfl) (Nat.le_of_ble_eq_true rfl) (Nat.le_refl _) (Nat.le_refl _) ts_kv0 W (ts_kkv fun hi3 hk4 W => ?_)
  refine ts_aload_n 0 (pc' := 10) rfl dX9_readInto_9 rfl rfl ?_
  refine ts_aload_n 1 (pc' := 11) rfl dX9_readInto_10 rfl rfl ?_
  refine ts_callV (M' := mX9_readLaw) (C := RX9) (pc' := 14) (av := [.ref p0]) (b := o) rfl dX9_readInto_11 rfl gX9_readInto_X9_readLaw rfl dvX9_readLaw rfl (ci := 8) cfX9.1 (by decide) c1 (Nat.le_refl _) (Nat.le_of_ble_eq_true rfl) (Nat.le_of_ble_eq_true rfl) (Nat.le_refl _) (Nat.le_refl _) ts_kv0 W (ts_kki fun v8 hi6 hk7 W => ?_)
  refine ts_if_eq (pc' := 17) (tgt := 30) rfl dX9_readInto_14 (by decide) (fun q9 => ?_) (fun q9 => ?_)
  · replace W := W.1 q9
    refine ts_iconst (v := 0) (pc' := 31) rfl dX9_readInto_30 (by decide) ?_
    refine ts_istore_n (pc' := 32) (ls' := [(3, .int 0), (0, .ref o), (1, .ref p0), (2, .ref p1)]) rfl dX9_readInto_31 rfl (Nat.le_of_ble_eq_true rfl) rfl ?_
    refine ts_iconst (v := 0) (pc' := 33) rfl dX9_readInto_32 (by decide) ?_
    refine ts_istore (pc' := 35) (ls' := [(4, .int 0), (3, .int 0), (0, .ref o), (1, .ref p0), (2, .ref p1)]) rfl dX9_readInto_33 (Nat.le_of_ble_eq_true rfl) rfl ?_
    exact ts_sub [2, 3, 4, 1, 0] rfl W
  · replace W := W.2 q9
    refine ts_aload_n 0 (pc' := 18) rfl dX9_readInto_17 rfl rfl ?_
    refine ts_aload_n 1 (pc' := 19) rfl dX9_readInto_18 rfl rfl ?_
    refine ts_aload_n 2 (pc' := 20) rfl dX9_readInto_19 rfl rfl ?_
    refine ts_callV (M' := mX9_readTurnip) (C := RX9) (pc' := 23) (av := [.ref p0, .ref p1]) (b := o) rfl dX9_readInto_20 rfl gX9_readInto_X9_readTurnip rfl dvX9_readTurnip rfl (ci := 8) cfX9.1 (by decide) c1 (Nat.le_refl _) (Nat.le_of_ble_eq_true rfl) (Nat.le_of_ble_eq_true rfl) (Nat.le_refl _) (Nat.le_refl _) ts_kv0 W (ts_kki fun v12 hi10 hk11 W => ?_)
    refine ts_if_eq (pc' := 26) (tgt := 30) rfl dX9_readInto_23 (by decide) (fun q13 => ?_) (fun q13 => ?_)
    · replace W := W.1 q13
      refine ts_iconst (v := 0) (pc' := 31) rfl dX9_readInto_30 (by decide) ?_
      refine ts_istore_n (pc' := 32) (ls' := [(3, .int 0), (0, .ref o), (1, .ref p0), (2, .ref p1)]) rfl dX9_readInto_31 rfl (Nat.le_of_ble_eq_true rfl) rfl ?_
      refine ts_iconst (v := 0) (pc' := 33) rfl dX9_readInto_32 (by decide) ?_
      refine ts_istore (pc' := 35) (ls' := [(4, .int 0), (3, .int 0), (0, .ref o), (1, .ref p0), (2, .ref p1)]) rfl dX9_readInto_33 (Nat.le_of_ble_eq_true rfl) rfl ?_
      exact ts_sub [2, 3, 4, 1, 0] rfl W
    · replace W := W.2 q13
      refine ts_iconst (v := 1) (pc' := 27) rfl dX9_readInto_26 (by decide) ?_
      refine ts_goto (tgt := 31) dX9_readInto_27 (by decide) ?_
      refine ts_istore_n (pc' := 32) (ls' := [(3, .int 1), (0, .ref o), (1, .ref p0), (2, .ref p1)]) rfl dX9_readInto_31 rfl (Nat.le_of_ble_eq_true rfl) rfl ?_
      refine ts_iconst (v := 0) (pc' := 33) rfl dX9_readInto_32 (by decide) ?_
      refine ts_istore (pc' := 35) (ls' := [(4, .int 0), (3, .int 1), (0, .ref o), (1, .ref p0), (2, .ref p1)]) rfl dX9_readInto_33 (Nat.le_of_ble_eq_true rfl) rfl ?_
      exact ts_sub [2, 3, 4, 1, 0] rfl W
set_option maxHeartbeats 4000000 in
theorem wX9_readInto_35 {d : Nat} {g : ts_G} {Q : Int32 → ts_I → ts_K → Prop} {l0 : Nat} {l1 : Nat} {l2 : Nat} {l3 : Int32} {l4 : Int32} {hi : ts_I} {hk : ts_K} (W : ((l3 = 0) → (l3 = 0 ∨ l3 = 1) ∧ Q l3 hi hk) ∧ (¬ (l3 = 0) → (g.2.1 l0 = 8) ∧ (((hi l0 1) ≤ (hi l0 2)) → (l3 = 0 ∨ l3 = 1) ∧ Q l3 hi hk) ∧ (¬ ((hi l0 1) ≤ (hi l0 2)) → ((90 ≤ l4) → (l3 = 0 ∨ l3 = 1) ∧ Q l3 hi hk) ∧ (¬ (90 ≤ l4) → ts_E0 d mX9_readTurnip [.ref l0, .ref l1, .ref l2] g hi hk (ts_qi (fun v10 hi8 hk9 => ts_J0 (d + 1) mX9_readInto (ts_qi Q) g 35 [(0, .ref l0), (1, .ref l1), (2, .ref l2), (3, .int v10), (4, .int (l4 + 1))] [] hi8 hk9)))))) : ts_J0 (d + 1) mX9_readInto (ts_qi Q) g 35 [(0, .ref l0), (1, .ref l1), (2, .ref l2), (3, .int l3), (4, .int l4)] [] hi hk := by
  refine ts_iload_n 3 (pc' := 36) rfl dX9_readInto_35 rfl rfl ?_
  refine ts_if_eq (pc' := 39) (tgt := 70) rfl dX9_readInto_36 (by decide) (fun q1 => ?_) (fun q1 => ?_)
  · replace W := W.1 q1
    refine ts_iload_n 3 (pc' := 71) rfl dX9_readInto_70 rfl rfl ?_
    obtain ⟨c2, W⟩ := W
    exact ts_zret dX9_readInto_71 rfl c2 (Nat.le_refl _) (Nat.le_refl _) ⟨rfl, _, rfl, W⟩
  · replace W := W.2 q1
    refine ts_aload_n 0 (pc' := 40) rfl dX9_readInto_39 rfl rfl ?_
    obtain ⟨c3, W⟩ := W
    refine ts_getI (pc' := 43) (ci := 8) 2 cfX9.1 cfX9.2.1 cfX9.2.2 rfl (by decide) hnX9_readInto_X9 flX9_readInto_19 rfl dX9_readInto_40 c3 ?_
    refine ts_aload_n 0 (pc' := 44) rfl dX9_readInto_43 rfl rfl ?_
    refine ts_getI (pc' := 47) (ci := 8) 1 cfX9.1 cfX9.2.1 cfX9.2.2 rfl (by decide) hnX9_readInto_X9 flX9_readInto_15 rfl dX9_readInto_44 c3 ?_
    refine ts_icmp_ge (pc' := 50) (tgt := 70) rfl dX9_readInto_47 (by decide) (fun q4 => ?_) (fun q4 => ?_)
    · replace W := W.1 q4
      refine ts_iload_n 3 (pc' := 71) rfl dX9_readInto_70 rfl rfl ?_
      obtain ⟨c5, W⟩ := W
      exact ts_zret dX9_readInto_71 rfl c5 (Nat.le_refl _) (Nat.le_refl _) ⟨rfl, _, rfl, W⟩
    · replace W := W.2 q4
      refine ts_iload 4 (pc' := 52) rfl dX9_readInto_50 rfl ?_
      refine ts_bipush (v := 90) (pc' := 54) rfl dX9_readInto_52 (by decide) ?_
      refine ts_icmp_ge (pc' := 57) (tgt := 70) rfl dX9_readInto_54 (by decide) (fun q6 => ?_) (fun q6 => ?_)
      · replace W := W.1 q6
        refine ts_iload_n 3 (pc' := 71) rfl dX9_readInto_70 rfl rfl ?_
        obtain ⟨c7, W⟩ := W
        exact ts_zret dX9_readInto_71 rfl c7 (Nat.le_refl _) (Nat.le_refl _) ⟨rfl, _, rfl, W⟩
      · replace W := W.2 q6
        refine ts_aload_n 0 (pc' := 58) rfl dX9_readInto_57 rfl rfl ?_
        refine ts_aload_n 1 (pc' := 59) rfl dX9_readInto_58 rfl rfl ?_
        refine ts_aload_n 2 (pc' := 60) rfl dX9_readInto_59 rfl rfl ?_
        refine ts_callV (M' := mX9_readTurnip) (C := RX9) (pc' := 63) (av := [.ref l1, .ref l2]) (b := l0) rfl dX9_readInto_60 rfl gX9_readInto_X9_readTurnip rfl dvX9_readTurnip rfl (ci := 8) cfX9.1 (by decide) c3 (Nat.le_refl _) (Nat.le_of_ble_eq_true rfl) (Nat.le_of_ble_eq_true rfl) (Nat.le_refl _) (Nat.le_refl _) ts_kv0 W (ts_kki fun v10 hi8 hk9 W => ?_)
        refine ts_istore_n (pc' := 64) (ls' := [(3, .int v10), (0, .ref l0), (1, .ref l1), (2, .ref l2), (4, .int l4)]) rfl dX9_readInto_63 rfl (Nat.le_of_ble_eq_true rfl) rfl ?_
        refine ts_iinc 4 (pc' := 67) (ls' := [(4, .int (l4 + 1)), (3, .int v10), (0, .ref l0), (1, .ref l1), (2, .ref l2)]) rfl dX9_readInto_64 rfl rfl (Nat.le_of_ble_eq_true rfl) rfl ?_
        refine ts_goto (tgt := 35) dX9_readInto_67 (by decide) ?_
        exact ts_sub [2, 3, 4, 1, 0] rfl W
theorem hnX9_readLaw_X1 : ∀ w ∈ u_ws RX1 TX1 13, w ∈ wsX9_readLaw := by decide +kernel
theorem hnX9_readLaw_X9 : ∀ w ∈ u_ws RX9 TX9 5, w ∈ wsX9_readLaw := by decide +kernel
theorem flX9_readLaw_43 : Cond.fieldLink RX9 43 "TurnipSquires$Tape" "number" "I" ∈ wsX9_readLaw := by decide +kernel
theorem flX9_readLaw_46 : Cond.fieldLink RX9 46 "TurnipSquires$Field" "ground" "I" ∈ wsX9_readLaw := by decide +kernel
theorem flX9_readLaw_49 : Cond.fieldLink RX9 49 "TurnipSquires$Field" "frost" "I" ∈ wsX9_readLaw := by decide +kernel
set_option maxHeartbeats 4000000 in
theorem wX9_readLaw_0 {d : Nat} {g : ts_G} {Q : Int32 → ts_I → ts_K → Prop} {o : Nat} {p0 : Nat} {hi : ts_I} {hk : ts_K} (W : (g.2.1 o = 8) ∧ ts_E0 d mX9_readSign [.ref o, .int 103] g hi hk (ts_qi (fun v3 hi1 hk2 => ((v3 = 0) → Q 0 hi1 hk2) ∧ (¬ (v3 = 0) → ts_E0 d mX9_readNumber [.ref o, .int 1, .int 9] g hi1 hk2 (ts_qi (fun v8 hi6 hk7 => ((v8 ≠ 0) → (g.2.1 p0 = 1) ∧ ∀ hi11 : ts_I, hi11 = ts_up hi6 p0 11 (hi6 o 4) → ts_E0 d mX9_readSign [.ref o, .int 44] g hi11 hk7 (ts_qi (fun v14 hi12 hk13 => ((v14 = 0) → Q 0 hi12 hk13) ∧ (¬ (v14 = 0) → ts_E0 d mX9_readNumber [.ref o, .int 0, .int 15] g hi12 hk13 (ts_qi (fun v18 hi16 hk17 => ((v18 ≠ 0) → ∀ hi20 : ts_I, hi20 = ts_up hi16 p0 12 (hi16 o 4) → ts_E0 d mX9_readSign [.ref o, .int 59] g hi20 hk17 (ts_qi (fun v23 hi21 hk22 => (v23 = 0 ∨ v23 = 1) ∧ Q v23 hi21 hk22))) ∧ (¬ (v18 ≠ 0) → Q 0 hi16 hk17))))))) ∧ (¬ (v8 ≠ 0) → Q 0 hi6 hk7))))))) : ts_J0 (d + 1) mX9_readLaw (ts_qi Q) g 0 [(0, .ref o), (1, .ref p0)] [] hi hk := by
  refine ts_aload_n 0 (pc' := 1) rfl dX9_readLaw_0 rfl rfl ?_
  refine ts_bipush (v := 103) (pc' := 3) rfl dX9_readLaw_1 (by decide) ?_
  obtain ⟨c4, W⟩ := W
  refine ts_callV (M' := mX9_readSign) (C := RX9) (pc' := 6) (av := [.int 103]) (b := o) rfl dX9_readLaw_3 rfl gX9_readLaw_X9_readSign rfl dvX9_readSign rfl (ci := 8) cfX9.1 (by decide) c4 (Nat.le_refl _) (Nat.le_of_ble_eq_true rfl) (Nat.le_of_ble_eq_true rfl) (Nat.le_refl _) (Nat.le_refl _) ts_kv0 W (ts_kki fun v3 hi1 hk2 W => ?_)
  refine ts_if_eq (pc' := 9) (tgt := 19) rfl dX9_readLaw_6 (by decide) (fun q5 => ?_) (fun q5 => ?_)
  · replace W := W.1 q5
    refine ts_iconst (v := 0) (pc' := 20) rfl dX9_readLaw_19 (by decide) ?_
    exact ts_zret dX9_readLaw_20 rfl (by decide) (Nat.le_refl _) (Nat.le_refl _) ⟨rfl, _, rfl, W⟩
  · replace W := W.2 q5
    refine ts_aload_n 0 (pc' := 10) rfl dX9_readLaw_9 rfl rfl ?_
    refine ts_iconst (v := 1) (pc' := 11) rfl dX9_readLaw_10 (by decide) ?_
    refine ts_bipush (v := 9) (pc' := 13) rfl dX9_readLaw_11 (by decide) ?_
    refine ts_callV (M' := mX9_readNumber) (C := RX9) (pc' := 16) (av := [.int 1, .int 9]) (b := o) rfl dX9_readLaw_13 rfl gX9_readLaw_X9_readNumber rfl dvX9_readNumber rfl (ci := 8) cfX9.1 (by decide) c4 (Nat.le_refl _) (Nat.le_of_ble_eq_true rfl) (Nat.le_of_ble_eq_true rfl) (Nat.le_refl _) (Nat.le_refl _) ts_kv0 W (ts_kki fun v8 hi6 hk7 W => ?_)
    refine ts_if_ne (pc' := 19) (tgt := 21) rfl dX9_readLaw_16 (by decide) (fun q9 => ?_) (fun q9 => ?_)
    · replace W := W.1 q9
      refine ts_aload_n 1 (pc' := 22) rfl dX9_readLaw_21 rfl rfl ?_
      refine ts_aload_n 0 (pc' := 23) rfl dX9_readLaw_22 rfl rfl ?_
      refine ts_getI (pc' := 26) (ci := 8) 4 cfX9.1 cfX9.2.1 cfX9.2.2 rfl (by decide) hnX9_readLaw_X9 flX9_readLaw_43 rfl dX9_readLaw_23 c4 ?_
      obtain ⟨c10, W⟩ := W
      refine ts_putI (pc' := 29) (ci := 1) 11 cfX1.1 cfX1.2.1 cfX1.2.2 rfl (by decide) hnX9_readLaw_X1 flX9_readLaw_46 tyX1_ok nmX1 rfl rfl rfl dX9_readLaw_26 c10 ?_
      obtain ⟨hi11, ehi11⟩ : ∃ z, z = ts_up hi6 p0 11 (hi6 o 4) := ⟨_, rfl⟩
      rw [← ehi11]; replace W := W hi11 ehi11
      refine ts_aload_n 0 (pc' := 30) rfl dX9_readLaw_29 rfl rfl ?_
      refine ts_bipush (v := 44) (pc' := 32) rfl dX9_readLaw_30 (by decide) ?_
      refine ts_callV (M' := mX9_readSign) (C := RX9) (pc' := 35) (av := [.int 44]) (b := o) rfl dX9_readLaw_32 rfl gX9_readLaw_X9_readSign rfl dvX9_readSign rfl (ci := 8) cfX9.1 (by decide) c4 (Nat.le_refl _) (Nat.le_of_ble_eq_true rfl) (Nat.le_of_ble_eq_true rfl) (Nat.le_refl _) (Nat.le_refl _) ts_kv0 W (ts_kki fun v14 hi12 hk13 W => ?_)
      refine ts_if_eq (pc' := 38) (tgt := 48) rfl dX9_readLaw_35 (by decide) (fun q15 => ?_) (fun q15 => ?_)
      · replace W := W.1 q15
        refine ts_iconst (v := 0) (pc' := 49) rfl dX9_readLaw_48 (by decide) ?_
        exact ts_zret dX9_readLaw_49 rfl (by decide) (Nat.le_refl _) (Nat.le_refl _) ⟨rfl, _, rfl, W⟩
      · replace W := W.2 q15
        refine ts_aload_n 0 (pc' := 39) rfl dX9_readLaw_38 rfl rfl ?_
        refine ts_iconst (v := 0) (pc' := 40) rfl dX9_readLaw_39 (by decide) ?_
        refine ts_bipush (v := 15) (pc' := 42) rfl dX9_readLaw_40 (by decide) ?_
        refine ts_callV (M' := mX9_readNumber) (C := RX9) (pc' := 45) (av := [.int 0, .int 15]) (b := o) rfl dX9_readLaw_42 rfl gX9_readLaw_X9_readNumber rfl dvX9_readNumber rfl (ci := 8) cfX9.1 (by decide) c4 (Nat.le_refl _) (Nat.le_of_ble_eq_true rfl) (Nat.le_of_ble_eq_true rfl) (Nat.le_refl _) (Nat.le_refl _) ts_kv0 W (ts_kki fun v18 hi16 hk17 W => ?_)
        refine ts_if_ne (pc' := 48) (tgt := 50) rfl dX9_readLaw_45 (by decide) (fun q19 => ?_) (fun q19 => ?_)
        · replace W := W.1 q19
          refine ts_aload_n 1 (pc' := 51) rfl dX9_readLaw_50 rfl rfl ?_
          refine ts_aload_n 0 (pc' := 52) rfl dX9_readLaw_51 rfl rfl ?_
          refine ts_getI (pc' := 55) (ci := 8) 4 cfX9.1 cfX9.2.1 cfX9.2.2 rfl (by decide) hnX9_readLaw_X9 flX9_readLaw_43 rfl dX9_readLaw_52 c4 ?_
          refine ts_putI (pc' := 58) (ci := 1) 12 cfX1.1 cfX1.2.1 cfX1.2.2 rfl (by decide) hnX9_readLaw_X1 flX9_readLaw_49 tyX1_ok nmX1 rfl rfl rfl dX9_readLaw_55 c10 ?_
          obtain ⟨hi20, ehi20⟩ : ∃ z, z = ts_up hi16 p0 12 (hi16 o 4) := ⟨_, rfl⟩
          rw [← ehi20]; replace W := W hi20 ehi20
          refine ts_aload_n 0 (pc' := 59) rfl dX9_readLaw_58 rfl rfl ?_
          refine ts_bipush (v := 59) (pc' := 61) rfl dX9_readLaw_59 (by decide) ?_
          refine ts_callV (M' := mX9_readSign) (C := RX9) (pc' := 64) (av := [.int 59]) (b := o) rfl dX9_readLaw_61 rfl gX9_readLaw_X9_readSign rfl dvX9_readSign rfl (ci := 8) cfX9.1 (by decide) c4 (Nat.le_refl _) (Nat.le_of_ble_eq_true rfl) (Nat.le_of_ble_eq_true rfl) (Nat.le_refl _) (Nat.le_refl _) ts_kv0 W (ts_kki fun v23 hi21 hk22 W => ?_)
          obtain ⟨c24, W⟩ := W
          exact ts_zret dX9_readLaw_64 rfl c24 (Nat.le_refl _) (Nat.le_refl _) ⟨rfl, _, rfl, W⟩
        · replace W := W.2 q19
          refine ts_iconst (v := 0) (pc' := 49) rfl dX9_readLaw_48 (by decide) ?_
          exact ts_zret dX9_readLaw_49 rfl (by decide) (Nat.le_refl _) (Nat.le_refl _) ⟨rfl, _, rfl, W⟩
    · replace W := W.2 q9
      refine ts_iconst (v := 0) (pc' := 20) rfl dX9_readLaw_19 (by decide) ?_
      exact ts_zret dX9_readLaw_20 rfl (by decide) (Nat.le_refl _) (Nat.le_refl _) ⟨rfl, _, rfl, W⟩
theorem hnX9_readTurnip_X1 : ∀ w ∈ u_ws RX1 TX1 13, w ∈ wsX9_readTurnip := by decide +kernel
theorem hnX9_readTurnip_X9 : ∀ w ∈ u_ws RX9 TX9 5, w ∈ wsX9_readTurnip := by decide +kernel
theorem flX9_readTurnip_19 : Cond.fieldLink RX9 19 "TurnipSquires$Tape" "at" "I" ∈ wsX9_readTurnip := by decide +kernel
theorem flX9_readTurnip_43 : Cond.fieldLink RX9 43 "TurnipSquires$Tape" "number" "I" ∈ wsX9_readTurnip := by decide +kernel
theorem flX9_readTurnip_62 : Cond.fieldLink RX9 62 "TurnipSquires$Field" "count" "I" ∈ wsX9_readTurnip := by decide +kernel
theorem flX9_readTurnip_65 : Cond.fieldLink RX9 65 "TurnipSquires$Field" "kind" "[LTurnipSquires$Kind;" ∈ wsX9_readTurnip := by decide +kernel
theorem flX9_readTurnip_69 : Cond.fieldLink RX9 69 "TurnipSquires$Field" "rank" "[I" ∈ wsX9_readTurnip := by decide +kernel
theorem flX9_readTurnip_72 : Cond.fieldLink RX9 72 "TurnipSquires$Field" "grown" "[I" ∈ wsX9_readTurnip := by decide +kernel
theorem flX9_readTurnip_75 : Cond.fieldLink RX9 75 "TurnipSquires$Field" "lean" "[I" ∈ wsX9_readTurnip := by decide +kernel
set_option maxHeartbeats 4000000 in
theorem wX9_readTurnip_0 {d : Nat} {g : ts_G} {Q : Int32 → ts_I → ts_K → Prop} {o : Nat} {p0 : Nat} {p1 : Nat} {hi : ts_I} {hk : ts_K} (W : (g.2.1 o = 8) ∧ ts_E0 d mX9_byteAt [.ref o, .int (hi o 2)] g hi hk (ts_qi (fun v4 hi2 hk3 => ts_E0 d mX9_sortOf [.int v4] g hi2 hk3 (ts_qi (fun v7 hi5 hk6 => ((v7 < 0) → ts_E0 d mX9_failed [.ref o, .int 1] g hi5 hk6 (ts_qi (fun v11 hi9 hk10 => (v11 = 0 ∨ v11 = 1) ∧ Q v11 hi9 hk10))) ∧ (¬ (v7 < 0) → (g.2.1 p1 = 103) ∧ ((v7 < (Int32.ofNat (g.2.2.1 p1))) → (g.2.1 p0 = 1) ∧ (((hi5 p0 9) < 7) → ∀ hi17 : ts_I, hi17 = ts_up hi5 o 2 ((hi5 o 2) + 1) → (g.2.2.2 p0 0 ≠ 0) ∧ (vp_in v7 (g.2.2.1 p1)) ∧ (hk6 p1 v7.toNatClampNeg ≠ 0) ∧ (g.2.1 (g.2.2.2 p0 0) = 103) ∧ (vp_in (hi5 p0 9) (g.2.2.1 (g.2.2.2 p0 0))) ∧ (g.2.1 (hk6 p1 v7.toNatClampNeg) = 0 ∨ g.2.1 (hk6 p1 v7.toNatClampNeg) = 2 ∨ g.2.1 (hk6 p1 v7.toNatClampNeg) = 3 ∨ g.2.1 (hk6 p1 v7.toNatClampNeg) = 4 ∨ g.2.1 (hk6 p1 v7.toNatClampNeg) = 7) ∧ ∀ hk24 : ts_K, hk24 = ts_uk hk6 (g.2.2.2 p0 0) (hi5 p0 9).toNatClampNeg (hk6 p1 v7.toNatClampNeg) → ts_E0 d mX9_readNumber [.ref o, .int 0, .int 9] g hi17 hk24 (ts_qi (fun v27 hi25 hk26 => ((v27 ≠ 0) → (g.2.2.2 p0 1 ≠ 0) ∧ (g.2.1 (g.2.2.2 p0 1) = 100) ∧ (vp_in (hi5 p0 9) (g.2.2.1 (g.2.2.2 p0 1))) ∧ ∀ hi32 : ts_I, hi32 = ts_up hi25 (g.2.2.2 p0 1) (hi5 p0 9).toNatClampNeg (hi25 o 4) → ts_E0 d mX9_readSign [.ref o, .int 44] g hi32 hk26 (ts_qi (fun v35 hi33 hk34 => ((v35 = 0) → Q 0 hi33 hk34) ∧ (¬ (v35 = 0) → ts_E0 d mX9_readNumber [.ref o, .int 0, .int 9] g hi33 hk34 (ts_qi (fun v39 hi37 hk38 => ((v39 ≠ 0) → (g.2.2.2 p0 2 ≠ 0) ∧ (g.2.1 (g.2.2.2 p0 2) = 100) ∧ (vp_in (hi5 p0 9) (g.2.2.1 (g.2.2.2 p0 2))) ∧ ∀ hi44 : ts_I, hi44 = ts_up hi37 (g.2.2.2 p0 2) (hi5 p0 9).toNatClampNeg (hi37 o 4) → ts_E0 d mX9_readSign [.ref o, .int 44] g hi44 hk38 (ts_qi (fun v47 hi45 hk46 => ((v47 = 0) → Q 0 hi45 hk46) ∧ (¬ (v47 = 0) → ts_E0 d mX9_readNumber [.ref o, .int 0, .int 1] g hi45 hk46 (ts_qi (fun v51 hi49 hk50 => ((v51 ≠ 0) → (g.2.2.2 p0 3 ≠ 0) ∧ (g.2.1 (g.2.2.2 p0 3) = 100) ∧ (vp_in (hi5 p0 9) (g.2.2.1 (g.2.2.2 p0 3))) ∧ ∀ hi56 : ts_I, hi56 = ts_up hi49 (g.2.2.2 p0 3) (hi5 p0 9).toNatClampNeg (hi49 o 4) → ∀ hi57 : ts_I, hi57 = ts_up hi56 p0 9 ((hi56 p0 9) + 1) → ts_E0 d mX9_readSign [.ref o, .int 59] g hi57 hk50 (ts_qi (fun v60 hi58 hk59 => (v60 = 0 ∨ v60 = 1) ∧ Q v60 hi58 hk59))) ∧ (¬ (v51 ≠ 0) → Q 0 hi49 hk50))))))) ∧ (¬ (v39 ≠ 0) → Q 0 hi37 hk38))))))) ∧ (¬ (v27 ≠ 0) → Q 0 hi25 hk26)))) ∧ (¬ ((hi5 p0 9) < 7) → ts_E0 d mX9_failed [.ref o, .int 3] g hi5 hk6 (ts_qi (fun v64 hi62 hk63 => (v64 = 0 ∨ v64 = 1) ∧ Q v64 hi62 hk63)))) ∧ (¬ (v7 < (Int32.ofNat (g.2.2.1 p1))) → ts_E0 d mX9_failed [.ref o, .int 1] g hi5 hk6 (ts_qi (fun v68 hi66 hk67 => (v68 = 0 ∨ v68 = 1) ∧ Q v68 hi66 hk67))))))))) : ts_J0 (d + 1) mX9_readTurnip (ts_qi Q) g 0 [(0, .ref o), (1, .ref p0), (2, .ref p1)] [] hi hk := by
  refine ts_aload_n 0 (pc' := 1) rfl dX9_readTurnip_0 rfl rfl ?_
  refine ts_aload_n 0 (pc' := 2) rfl dX9_readTurnip_1 rfl rfl ?_
  obtain ⟨c1, W⟩ := W
  refine ts_getI (pc' := 5) (ci := 8) 2 cfX9.1 cfX9.2.1 cfX9.2.2 rfl (by decide) hnX9_readTurnip_X9 flX9_readTurnip_19 rfl dX9_readTurnip_2 c1 ?_
  refine ts_callV (M' := mX9_byteAt) (C := RX9) (pc' := 8) (av := [.int (hi o 2)]) (b := o) rfl dX9_readTurnip_5 rfl gX9_readTurnip_X9_byteAt rfl dvX9_byteAt rfl (ci := 8) cfX9.1 (by decide) c1 (Nat.le_refl _) (Nat.le_of_ble_eq_true rfl) (Nat.le_of_ble_eq_true rfl) (Nat.le_refl _) (Nat.le_refl _) ts_kv0 W (ts_kki fun v4 hi2 hk3 W => ?_)
  refine ts_callS (M' := mX9_sortOf) (pc' := 11) (av := [.int v4]) rfl dX9_readTurnip_8 rfl gX9_readTurnip_X9_sortOf rfl dsX9_sortOf rfl (Nat.le_refl _) (Nat.le_of_ble_eq_true rfl) (Nat.le_of_ble_eq_true rfl) (Nat.le_refl _) (Nat.le_refl _) ts_kv0 W (ts_kki fun v7 hi5 hk6 W => ?_)
  refine ts_istore_n (pc' := 12) (ls' := [(3, .int v7), (0, .ref o), (1, .ref p0), (2, .ref p1)]) rfl dX9_readTurnip_11 rfl (Nat.le_of_ble_eq_true rfl) rfl ?_
  refine ts_iload_n 0 (pc' := 13) rfl dX9_readTurnip_12 rfl rfl ?_
  refine ts_if_lt (pc' := 16) (tgt := 22) rfl dX9_readTurnip_13 (by decide) (fun q8 => ?_) (fun q8 => ?_)
  · replace W := W.1 q8
    refine ts_aload_n 1 (pc' := 23) rfl dX9_readTurnip_22 rfl rfl ?_
    refine ts_iconst (v := 1) (pc' := 24) rfl dX9_readTurnip_23 (by decide) ?_
    refine ts_callV (M' := mX9_failed) (C := RX9) (pc' := 27) (av := [.int 1]) (b := o) rfl dX9_readTurnip_24 rfl gX9_readTurnip_X9_failed rfl dvX9_failed rfl (ci := 8) cfX9.1 (by decide) c1 (Nat.le_refl _) (Nat.le_of_ble_eq_true rfl) (Nat.le_of_ble_eq_true rfl) (Nat.le_refl _) (Nat.le_refl _) ts_kv0 W (ts_kki fun v11 hi9 hk10 W => ?_)
    obtain ⟨c12, W⟩ := W
    exact ts_zret dX9_readTurnip_27 rfl c12 (Nat.le_refl _) (Nat.le_refl _) ⟨rfl, _, rfl, W⟩
  · replace W := W.2 q8
    refine ts_iload_n 0 (pc' := 17) rfl dX9_readTurnip_16 rfl rfl ?_
    refine ts_aload_n 3 (pc' := 18) rfl dX9_readTurnip_17 rfl rfl ?_
    obtain ⟨c13, W⟩ := W
    refine ts_alen (pc' := 19) rfl dX9_readTurnip_18 (Or.inr c13) rfl ?_
    refine ts_icmp_lt (pc' := 22) (tgt := 28) rfl dX9_readTurnip_19 (by decide) (fun q14 => ?_) (fun q14 => ?_)
    · replace W := W.1 q14
      refine ts_aload_n 2 (pc' := 29) rfl dX9_readTurnip_28 rfl rfl ?_
      obtain ⟨c15, W⟩ := W
      refine ts_getI (pc' := 32) (ci := 1) 9 cfX1.1 cfX1.2.1 cfX1.2.2 rfl (by decide) hnX9_readTurnip_X1 flX9_readTurnip_62 rfl dX9_readTurnip_29 c15 ?_
      refine ts_istore (pc' := 34) (ls' := [(4, .int (hi5 p0 9)), (3, .int v7), (0, .ref o), (1, .ref p0), (2, .ref p1)]) rfl dX9_readTurnip_32 (Nat.le_of_ble_eq_true rfl) rfl ?_
      refine ts_iload 0 (pc' := 36) rfl dX9_readTurnip_34 rfl ?_
      refine ts_bipush (v := 7) (pc' := 38) rfl dX9_readTurnip_36 (by decide) ?_
      refine ts_icmp_lt (pc' := 41) (tgt := 47) rfl dX9_readTurnip_38 (by decide) (fun q16 => ?_) (fun q16 => ?_)
      · replace W := W.1 q16
        refine ts_aload_n 2 (pc' := 48) rfl dX9_readTurnip_47 rfl rfl ?_
        refine ts_dup (pc' := 49) rfl dX9_readTurnip_48 rfl ?_
        refine ts_getI (pc' := 52) (ci := 8) 2 cfX9.1 cfX9.2.1 cfX9.2.2 rfl (by decide) hnX9_readTurnip_X9 flX9_readTurnip_19 rfl dX9_readTurnip_49 c1 ?_
        refine ts_iconst (v := 1) (pc' := 53) rfl dX9_readTurnip_52 (by decide) ?_
        refine ts_iadd (pc' := 54) rfl dX9_readTurnip_53 ?_
        refine ts_putI (pc' := 57) (ci := 8) 2 cfX9.1 cfX9.2.1 cfX9.2.2 rfl (by decide) hnX9_readTurnip_X9 flX9_readTurnip_19 tyX9_ok nmX9 rfl rfl rfl dX9_readTurnip_54 c1 ?_
        obtain ⟨hi17, ehi17⟩ : ∃ z, z = ts_up hi5 o 2 ((hi5 o 2) + 1) := ⟨_, rfl⟩
        rw [← ehi17]; replace W := W hi17 ehi17
        refine ts_aload_n 3 (pc' := 58) rfl dX9_readTurnip_57 rfl rfl ?_
        obtain ⟨c18, W⟩ := W
        refine ts_getR (pc' := 61) (ci := 1) 0 cfX1.1 cfX1.2.1 cfX1.2.2 rfl (by decide) hnX9_readTurnip_X1 flX9_readTurnip_65 rfl dX9_readTurnip_58 c15 c18 ?_
        refine ts_iload 0 (pc' := 63) rfl dX9_readTurnip_61 rfl ?_
        refine ts_aload_n 4 (pc' := 64) rfl dX9_readTurnip_63 rfl rfl ?_
        refine ts_iload_n 1 (pc' := 65) rfl dX9_readTurnip_64 rfl rfl ?_
        obtain ⟨c19, W⟩ := W
        obtain ⟨c20, W⟩ := W
        refine ts_aaloadK (pc' := 66) rfl dX9_readTurnip_65 c13 c19 c20 ?_
        obtain ⟨c21, W⟩ := W
        obtain ⟨c22, W⟩ := W
        obtain ⟨c23, W⟩ := W
        refine ts_astoreKind (pc' := 67) rfl dX9_readTurnip_66 c21 c22 c23 ?_
        obtain ⟨hk24, ehk24⟩ : ∃ z, z = ts_uk hk6 (g.2.2.2 p0 0) (hi5 p0 9).toNatClampNeg (hk6 p1 v7.toNatClampNeg) := ⟨_, rfl⟩
        rw [← ehk24]; replace W := W hk24 ehk24
        refine ts_aload_n 2 (pc' := 68) rfl dX9_readTurnip_67 rfl rfl ?_
        refine ts_iconst (v := 0) (pc' := 69) rfl dX9_readTurnip_68 (by decide) ?_
        refine ts_bipush (v := 9) (pc' := 71) rfl dX9_readTurnip_69 (by decide) ?_
        refine ts_callV (M' := mX9_readNumber) (C := RX9) (pc' := 74) (av := [.int 0, .int 9]) (b := o) rfl dX9_readTurnip_71 rfl gX9_readTurnip_X9_readNumber rfl dvX9_readNumber rfl (ci := 8) cfX9.1 (by decide) c1 (Nat.le_refl _) (Nat.le_of_ble_eq_true rfl) (Nat.le_of_ble_eq_true rfl) (Nat.le_refl _) (Nat.le_refl _) ts_kv0 W (ts_kki fun v27 hi25 hk26 W => ?_)
        refine ts_if_ne (pc' := 77) (tgt := 79) rfl dX9_readTurnip_74 (by decide) (fun q28 => ?_) (fun q28 => ?_)
        · replace W := W.1 q28
          refine ts_aload_n 3 (pc' := 80) rfl dX9_readTurnip_79 rfl rfl ?_
          obtain ⟨c29, W⟩ := W
          refine ts_getR (pc' := 83) (ci := 1) 1 cfX1.1 cfX1.2.1 cfX1.2.2 rfl (by decide) hnX9_readTurnip_X1 flX9_readTurnip_69 rfl dX9_readTurnip_80 c15 c29 ?_
          refine ts_iload 0 (pc' := 85) rfl dX9_readTurnip_83 rfl ?_
          refine ts_aload_n 2 (pc' := 86) rfl dX9_readTurnip_85 rfl rfl ?_
          refine ts_getI (pc' := 89) (ci := 8) 4 cfX9.1 cfX9.2.1 cfX9.2.2 rfl (by decide) hnX9_readTurnip_X9 flX9_readTurnip_43 rfl dX9_readTurnip_86 c1 ?_
          obtain ⟨c30, W⟩ := W
          obtain ⟨c31, W⟩ := W
          refine ts_iastore (pc' := 90) rfl dX9_readTurnip_89 c30 c31 ?_
          obtain ⟨hi32, ehi32⟩ : ∃ z, z = ts_up hi25 (g.2.2.2 p0 1) (hi5 p0 9).toNatClampNeg (hi25 o 4) := ⟨_, rfl⟩
          rw [← ehi32]; replace W := W hi32 ehi32
          refine ts_aload_n 2 (pc' := 91) rfl dX9_readTurnip_90 rfl rfl ?_
          refine ts_bipush (v := 44) (pc' := 93) rfl dX9_readTurnip_91 (by decide) ?_
          refine ts_callV (M' := mX9_readSign) (C := RX9) (pc' := 96) (av := [.int 44]) (b := o) rfl dX9_readTurnip_93 rfl gX9_readTurnip_X9_readSign rfl dvX9_readSign rfl (ci := 8) cfX9.1 (by decide) c1 (Nat.le_refl _) (Nat.le_of_ble_eq_true rfl) (Nat.le_of_ble_eq_true rfl) (Nat.le_refl _) (Nat.le_refl _) ts_kv0 W (ts_kki fun v35 hi33 hk34 W => ?_)
          refine ts_if_eq (pc' := 99) (tgt := 109) rfl dX9_readTurnip_96 (by decide) (fun q36 => ?_) (fun q36 => ?_)
          · replace W := W.1 q36
            refine ts_iconst (v := 0) (pc' := 110) rfl dX9_readTurnip_109 (by decide) ?_
            exact ts_zret dX9_readTurnip_110 rfl (by decide) (Nat.le_refl _) (Nat.le_refl _) ⟨rfl, _, rfl, W⟩
          · replace W := W.2 q36
            refine ts_aload_n 2 (pc' := 100) rfl dX9_readTurnip_99 rfl rfl ?_
            refine ts_iconst (v := 0) (pc' := 101) rfl dX9_readTurnip_100 (by decide) ?_
            refine ts_bipush (v := 9) (pc' := 103) rfl dX9_readTurnip_101 (by decide) ?_
            refine ts_callV (M' := mX9_readNumber) (C := RX9) (pc' := 106) (av := [.int 0, .int 9]) (b := o) rfl dX9_readTurnip_103 rfl gX9_readTurnip_X9_readNumber rfl dvX9_readNumber rfl (ci := 8) cfX9.1 (by decide) c1 (Nat.le_refl _) (Nat.le_of_ble_eq_true rfl) (Nat.le_of_ble_eq_true rfl) (Nat.le_refl _) (Nat.le_refl _) ts_kv0 W (ts_kki fun v39 hi37 hk38 W => ?_)
            refine ts_if_ne (pc' := 109) (tgt := 111) rfl dX9_readTurnip_106 (by decide) (fun q40 => ?_) (fun q40 => ?_)
            · replace W := W.1 q40
              refine ts_aload_n 3 (pc' := 112) rfl dX9_readTurnip_111 rfl rfl ?_
              obtain ⟨c41, W⟩ := W
              refine ts_getR (pc' := 115) (ci := 1) 2 cfX1.1 cfX1.2.1 cfX1.2.2 rfl (by decide) hnX9_readTurnip_X1 flX9_readTurnip_72 rfl dX9_readTurnip_112 c15 c41 ?_
              refine ts_iload 0 (pc' := 117) rfl dX9_readTurnip_115 rfl ?_
              refine ts_aload_n 2 (pc' := 118) rfl dX9_readTurnip_117 rfl rfl ?_
              refine ts_getI (pc' := 121) (ci := 8) 4 cfX9.1 cfX9.2.1 cfX9.2.2 rfl (by decide) hnX9_readTurnip_X9 flX9_readTurnip_43 rfl dX9_readTurnip_118 c1 ?_
              obtain ⟨c42, W⟩ := W
              obtain ⟨c43, W⟩ := W
              refine ts_iastore (pc' := 122) rfl dX9_readTurnip_121 c42 c43 ?_
              obtain ⟨hi44, ehi44⟩ : ∃ z, z = ts_up hi37 (g.2.2.2 p0 2) (hi5 p0 9).toNatClampNeg (hi37 o 4) := ⟨_, rfl⟩
              rw [← ehi44]; replace W := W hi44 ehi44
              refine ts_aload_n 2 (pc' := 123) rfl dX9_readTurnip_122 rfl rfl ?_
              refine ts_bipush (v := 44) (pc' := 125) rfl dX9_readTurnip_123 (by decide) ?_
              refine ts_callV (M' := mX9_readSign) (C := RX9) (pc' := 128) (av := [.int 44]) (b := o) rfl dX9_readTurnip_125 rfl gX9_readTurnip_X9_readSign rfl dvX9_readSign rfl (ci := 8) cfX9.1 (by decide) c1 (Nat.le_refl _) (Nat.le_of_ble_eq_true rfl) (Nat.le_of_ble_eq_true rfl) (Nat.le_refl _) (Nat.le_refl _) ts_kv0 W (ts_kki fun v47 hi45 hk46 W => ?_)
              refine ts_if_eq (pc' := 131) (tgt := 140) rfl dX9_readTurnip_128 (by decide) (fun q48 => ?_) (fun q48 => ?_)
              · replace W := W.1 q48
                refine ts_iconst (v := 0) (pc' := 141) rfl dX9_readTurnip_140 (by decide) ?_
                exact ts_zret dX9_readTurnip_141 rfl (by decide) (Nat.le_refl _) (Nat.le_refl _) ⟨rfl, _, rfl, W⟩
              · replace W := W.2 q48
                refine ts_aload_n 2 (pc' := 132) rfl dX9_readTurnip_131 rfl rfl ?_
                refine ts_iconst (v := 0) (pc' := 133) rfl dX9_readTurnip_132 (by decide) ?_
                refine ts_iconst (v := 1) (pc' := 134) rfl dX9_readTurnip_133 (by decide) ?_
                refine ts_callV (M' := mX9_readNumber) (C := RX9) (pc' := 137) (av := [.int 0, .int 1]) (b := o) rfl dX9_readTurnip_134 rfl gX9_readTurnip_X9_readNumber rfl dvX9_readNumber rfl (ci := 8) cfX9.1 (by decide) c1 (Nat.le_refl _) (Nat.le_of_ble_eq_true rfl) (Nat.le_of_ble_eq_true rfl) (Nat.le_refl _) (Nat.le_refl _) ts_kv0 W (ts_kki fun v51 hi49 hk50 W => ?_)
                refine ts_if_ne (pc' := 140) (tgt := 142) rfl dX9_readTurnip_137 (by decide) (fun q52 => ?_) (fun q52 => ?_)
                · replace W := W.1 q52
                  refine ts_aload_n 3 (pc' := 143) rfl dX9_readTurnip_142 rfl rfl ?_
                  obtain ⟨c53, W⟩ := W
                  refine ts_getR (pc' := 146) (ci := 1) 3 cfX1.1 cfX1.2.1 cfX1.2.2 rfl (by decide) hnX9_readTurnip_X1 flX9_readTurnip_75 rfl dX9_readTurnip_143 c15 c53 ?_
                  refine ts_iload 0 (pc' := 148) rfl dX9_readTurnip_146 rfl ?_
                  refine ts_aload_n 2 (pc' := 149) rfl dX9_readTurnip_148 rfl rfl ?_
                  refine ts_getI (pc' := 152) (ci := 8) 4 cfX9.1 cfX9.2.1 cfX9.2.2 rfl (by decide) hnX9_readTurnip_X9 flX9_readTurnip_43 rfl dX9_readTurnip_149 c1 ?_
                  obtain ⟨c54, W⟩ := W
                  obtain ⟨c55, W⟩ := W
                  refine ts_iastore (pc' := 153) rfl dX9_readTurnip_152 c54 c55 ?_
                  obtain ⟨hi56, ehi56⟩ : ∃ z, z = ts_up hi49 (g.2.2.2 p0 3) (hi5 p0 9).toNatClampNeg (hi49 o 4) := ⟨_, rfl⟩
                  rw [← ehi56]; replace W := W hi56 ehi56
                  refine ts_aload_n 3 (pc' := 154) rfl dX9_readTurnip_153 rfl rfl ?_
                  refine ts_dup (pc' := 155) rfl dX9_readTurnip_154 rfl ?_
                  refine ts_getI (pc' := 158) (ci := 1) 9 cfX1.1 cfX1.2.1 cfX1.2.2 rfl (by decide) hnX9_readTurnip_X1 flX9_readTurnip_62 rfl dX9_readTurnip_155 c15 ?_
                  refine ts_iconst (v := 1) (pc' := 159) rfl dX9_readTurnip_158 (by decide) ?_
                  refine ts_iadd (pc' := 160) rfl dX9_readTurnip_159 ?_
                  refine ts_putI (pc' := 163) (ci := 1) 9 cfX1.1 cfX1.2.1 cfX1.2.2 rfl (by decide) hnX9_readTurnip_X1 flX9_readTurnip_62 tyX1_ok nmX1 rfl rfl rfl dX9_readTurnip_160 c15 ?_
                  obtain ⟨hi57, ehi57⟩ : ∃ z, z = ts_up hi56 p0 9 ((hi56 p0 9) + 1) := ⟨_, rfl⟩
                  rw [← ehi57]; replace W := W hi57 ehi57
                  refine ts_aload_n 2 (pc' := 164) rfl dX9_readTurnip_163 rfl rfl ?_
                  refine ts_bipush (v := 59) (pc' := 166) rfl dX9_readTurnip_164 (by decide) ?_
                  refine ts_callV (M' := mX9_readSign) (C := RX9) (pc' := 169) (av := [.int 59]) (b := o) rfl dX9_readTurnip_166 rfl gX9_readTurnip_X9_readSign rfl dvX9_readSign rfl (ci := 8) cfX9.1 (by decide) c1 (Nat.le_refl _) (Nat.le_of_ble_eq_true rfl) (Nat.le_of_ble_eq_true rfl) (Nat.le_refl _) (Nat.le_refl _) ts_kv0 W (ts_kki fun v60 hi58 hk59 W => ?_)
                  obtain ⟨c61, W⟩ := W
                  exact ts_zret dX9_readTurnip_169 rfl c61 (Nat.le_refl _) (Nat.le_refl _) ⟨rfl, _, rfl, W⟩
                · replace W := W.2 q52
                  refine ts_iconst (v := 0) (pc' := 141) rfl dX9_readTurnip_140 (by decide) ?_
                  exact ts_zret dX9_readTurnip_141 rfl (by decide) (Nat.le_refl _) (Nat.le_refl _) ⟨rfl, _, rfl, W⟩
            · replace W := W.2 q40
              refine ts_iconst (v := 0) (pc' := 110) rfl dX9_readTurnip_109 (by decide) ?_
              exact ts_zret dX9_readTurnip_110 rfl (by decide) (Nat.le_refl _) (Nat.le_refl _) ⟨rfl, _, rfl, W⟩
        · replace W := W.2 q28
          refine ts_iconst (v := 0) (pc' := 78) rfl dX9_readTurnip_77 (by decide) ?_
          exact ts_zret dX9_readTurnip_78 rfl (by decide) (Nat.le_refl _) (Nat.le_refl _) ⟨rfl, _, rfl, W⟩
      · replace W := W.2 q16
        refine ts_aload_n 2 (pc' := 42) rfl dX9_readTurnip_41 rfl rfl ?_
        refine ts_iconst (v := 3) (pc' := 43) rfl dX9_readTurnip_42 (by decide) ?_
        refine ts_callV (M' := mX9_failed) (C := RX9) (pc' := 46) (av := [.int 3]) (b := o) rfl dX9_readTurnip_43 rfl gX9_readTurnip_X9_failed rfl dvX9_failed rfl (ci := 8) cfX9.1 (by decide) c1 (Nat.le_refl _) (Nat.le_of_ble_eq_true rfl) (Nat.le_of_ble_eq_true rfl) (Nat.le_refl _) (Nat.le_refl _) ts_kv0 W (ts_kki fun v64 hi62 hk63 W => ?_)
        obtain ⟨c65, W⟩ := W
        exact ts_zret dX9_readTurnip_46 rfl c65 (Nat.le_refl _) (Nat.le_refl _) ⟨rfl, _, rfl, W⟩
    · replace W := W.2 q14
      refine ts_aload_n 1 (pc' := 23) rfl dX9_readTurnip_22 rfl rfl ?_
      refine ts_iconst (v := 1) (pc' := 24) rfl dX9_readTurnip_23 (by decide) ?_
      refine ts_callV (M' := mX9_failed) (C := RX9) (pc' := 27) (av := [.int 1]) (b := o) rfl dX9_readTurnip_24 rfl gX9_readTurnip_X9_failed rfl dvX9_failed rfl (ci := 8) cfX9.1 (by decide) c1 (Nat.le_refl _) (Nat.le_of_ble_eq_true rfl) (Nat.le_of_ble_eq_true rfl) (Nat.le_refl _) (Nat.le_refl _) ts_kv0 W (ts_kki fun v68 hi66 hk67 W => ?_)
      obtain ⟨c69, W⟩ := W
      exact ts_zret dX9_readTurnip_27 rfl c69 (Nat.le_refl _) (Nat.le_refl _) ⟨rfl, _, rfl, W⟩
theorem hnX9_readSign_X9 : ∀ w ∈ u_ws RX9 TX9 5, w ∈ wsX9_readSign := by decide +kernel
theorem flX9_readSign_19 : Cond.fieldLink RX9 19 "TurnipSquires$Tape" "at" "I" ∈ wsX9_readSign := by decide +kernel
set_option maxHeartbeats 4000000 in
theorem wX9_readSign_0 {d : Nat} {g : ts_G} {Q : Int32 → ts_I → ts_K → Prop} {o : Nat} {p0 : Int32} {hi : ts_I} {hk : ts_K} (W : (g.2.1 o = 8) ∧ ts_E0 d mX9_byteAt [.ref o, .int (hi o 2)] g hi hk (ts_qi (fun v4 hi2 hk3 => ((v4 = p0) → ∀ hi6 : ts_I, hi6 = ts_up hi2 o 2 ((hi2 o 2) + 1) → Q 1 hi6 hk3) ∧ (¬ (v4 = p0) → ts_E0 d mX9_failed [.ref o, .int 1] g hi2 hk3 (ts_qi (fun v9 hi7 hk8 => (v9 = 0 ∨ v9 = 1) ∧ Q v9 hi7 hk8)))))) : ts_J0 (d + 1) mX9_readSign (ts_qi Q) g 0 [(0, .ref o), (1, .int p0)] [] hi hk := by
  refine ts_aload_n 0 (pc' := 1) rfl dX9_readSign_0 rfl rfl ?_
  refine ts_aload_n 0 (pc' := 2) rfl dX9_readSign_1 rfl rfl ?_
  obtain ⟨c1, W⟩ := W
  refine ts_getI (pc' := 5) (ci := 8) 2 cfX9.1 cfX9.2.1 cfX9.2.2 rfl (by decide) hnX9_readSign_X9 flX9_readSign_19 rfl dX9_readSign_2 c1 ?_
  refine ts_callV (M' := mX9_byteAt) (C := RX9) (pc' := 8) (av := [.int (hi o 2)]) (b := o) rfl dX9_readSign_5 rfl gX9_readSign_X9_byteAt rfl dvX9_byteAt rfl (ci := 8) cfX9.1 (by decide) c1 (Nat.le_refl _) (Nat.le_of_ble_eq_true rfl) (Nat.le_of_ble_eq_true rfl) (Nat.le_refl _) (Nat.le_refl _) ts_kv0 W (ts_kki fun v4 hi2 hk3 W => ?_)
  refine ts_iload_n 1 (pc' := 9) rfl dX9_readSign_8 rfl rfl ?_
  refine ts_icmp_eq (pc' := 12) (tgt := 18) rfl dX9_readSign_9 (by decide) (fun q5 => ?_) (fun q5 => ?_)
  · replace W := W.1 q5
    refine ts_aload_n 0 (pc' := 19) rfl dX9_readSign_18 rfl rfl ?_
    refine ts_dup (pc' := 20) rfl dX9_readSign_19 rfl ?_
    refine ts_getI (pc' := 23) (ci := 8) 2 cfX9.1 cfX9.2.1 cfX9.2.2 rfl (by decide) hnX9_readSign_X9 flX9_readSign_19 rfl dX9_readSign_20 c1 ?_
    refine ts_iconst (v := 1) (pc' := 24) rfl dX9_readSign_23 (by decide) ?_
    refine ts_iadd (pc' := 25) rfl dX9_readSign_24 ?_
    refine ts_putI (pc' := 28) (ci := 8) 2 cfX9.1 cfX9.2.1 cfX9.2.2 rfl (by decide) hnX9_readSign_X9 flX9_readSign_19 tyX9_ok nmX9 rfl rfl rfl dX9_readSign_25 c1 ?_
    obtain ⟨hi6, ehi6⟩ : ∃ z, z = ts_up hi2 o 2 ((hi2 o 2) + 1) := ⟨_, rfl⟩
    rw [← ehi6]; replace W := W hi6 ehi6
    refine ts_iconst (v := 1) (pc' := 29) rfl dX9_readSign_28 (by decide) ?_
    exact ts_zret dX9_readSign_29 rfl (by decide) (Nat.le_refl _) (Nat.le_refl _) ⟨rfl, _, rfl, W⟩
  · replace W := W.2 q5
    refine ts_aload_n 0 (pc' := 13) rfl dX9_readSign_12 rfl rfl ?_
    refine ts_iconst (v := 1) (pc' := 14) rfl dX9_readSign_13 (by decide) ?_
    refine ts_callV (M' := mX9_failed) (C := RX9) (pc' := 17) (av := [.int 1]) (b := o) rfl dX9_readSign_14 rfl gX9_readSign_X9_failed rfl dvX9_failed rfl (ci := 8) cfX9.1 (by decide) c1 (Nat.le_refl _) (Nat.le_of_ble_eq_true rfl) (Nat.le_of_ble_eq_true rfl) (Nat.le_refl _) (Nat.le_refl _) ts_kv0 W (ts_kki fun v9 hi7 hk8 W => ?_)
    obtain ⟨c10, W⟩ := W
    exact ts_zret dX9_readSign_17 rfl c10 (Nat.le_refl _) (Nat.le_refl _) ⟨rfl, _, rfl, W⟩
theorem hnX9_readNumber_X9 : ∀ w ∈ u_ws RX9 TX9 5, w ∈ wsX9_readNumber := by decide +kernel
theorem flX9_readNumber_19 : Cond.fieldLink RX9 19 "TurnipSquires$Tape" "at" "I" ∈ wsX9_readNumber := by decide +kernel
theorem flX9_readNumber_43 : Cond.fieldLink RX9 43 "TurnipSquires$Tape" "number" "I" ∈ wsX9_readNumber := by decide +kernel
set_option maxHeartbeats 4000000 in
theorem wX9_readNumber_0 {d : Nat} {g : ts_G} {Q : Int32 → ts_I → ts_K → Prop} {o : Nat} {p0 : Int32} {p1 : Int32} {hi : ts_I} {hk : ts_K} (W : ts_J0 (d + 1) mX9_readNumber (ts_qi Q) g 5 [(0, .ref o), (1, .int p0), (2, .int p1), (3, .int 0), (4, .int 0)] [] hi hk) : ts_J0 (d + 1) mX9_readNumber (ts_qi Q) g 0 [(0, .ref o), (1, .int p0), (2, .int p1)] [] hi hk := by
  refine ts_iconst (v := 0) (pc' := 1) rfl dX9_readNumber_0 (by decide) ?_
  refine ts_istore_n (pc' := 2) (ls' := [(3, .int 0), (0, .ref o), (1, .int p0), (2, .int p1)]) rfl dX9_readNumber_1 rfl (Nat.le_of_ble_eq_true rfl) rfl ?_
  refine ts_iconst (v := 0) (pc' := 3) rfl dX9_readNumber_2 (by decide) ?_
  refine ts_istore (pc' := 5) (ls' := [(4, .int 0), (3, .int 0), (0, .ref o), (1, .int p0), (2, .int p1)]) rfl dX9_readNumber_3 (Nat.le_of_ble_eq_true rfl) rfl ?_
  exact ts_sub [2, 3, 4, 1, 0] rfl W
set_option maxHeartbeats 4000000 in
theorem wX9_readNumber_5 {d : Nat} {g : ts_G} {Q : Int32 → ts_I → ts_K → Prop} {l0 : Nat} {l1 : Int32} {l2 : Int32} {l3 : Int32} {l4 : Int32} {hi : ts_I} {hk : ts_K} (W : ((3 ≤ l3) → ((l3 = 0) → (g.2.1 l0 = 8) ∧ ts_E0 d mX9_failed [.ref l0, .int 1] g hi hk (ts_qi (fun v5 hi3 hk4 => (v5 = 0 ∨ v5 = 1) ∧ Q v5 hi3 hk4))) ∧ (¬ (l3 = 0) → ((l3 ≤ 2) → ts_E0 d mX11_outside [.int l4, .int l1, .int l2] g hi hk (ts_qi (fun v11 hi9 hk10 => ((v11 = 0) → (g.2.1 l0 = 8) ∧ ∀ hi14 : ts_I, hi14 = ts_up hi9 l0 4 l4 → ∀ hi15 : ts_I, hi15 = ts_up hi14 l0 2 ((hi14 l0 2) + l3) → Q 1 hi15 hk10) ∧ (¬ (v11 = 0) → (g.2.1 l0 = 8) ∧ ts_E0 d mX9_failed [.ref l0, .int 2] g hi9 hk10 (ts_qi (fun v18 hi16 hk17 => (v18 = 0 ∨ v18 = 1) ∧ Q v18 hi16 hk17)))))) ∧ (¬ (l3 ≤ 2) → (g.2.1 l0 = 8) ∧ ts_E0 d mX9_failed [.ref l0, .int 1] g hi hk (ts_qi (fun v23 hi21 hk22 => (v23 = 0 ∨ v23 = 1) ∧ Q v23 hi21 hk22))))) ∧ (¬ (3 ≤ l3) → (g.2.1 l0 = 8) ∧ ts_E0 d mX9_byteAt [.ref l0, .int ((hi l0 2) + l3)] g hi hk (ts_qi (fun v29 hi27 hk28 => ts_E0 d mX9_isFigure [.int v29] g hi27 hk28 (ts_qi (fun v32 hi30 hk31 => ((v32 = 0) → ((l3 = 0) → ts_E0 d mX9_failed [.ref l0, .int 1] g hi30 hk31 (ts_qi (fun v37 hi35 hk36 => (v37 = 0 ∨ v37 = 1) ∧ Q v37 hi35 hk36))) ∧ (¬ (l3 = 0) → ((l3 ≤ 2) → ts_E0 d mX11_outside [.int l4, .int l1, .int l2] g hi30 hk31 (ts_qi (fun v42 hi40 hk41 => ((v42 = 0) → ∀ hi44 : ts_I, hi44 = ts_up hi40 l0 4 l4 → ∀ hi45 : ts_I, hi45 = ts_up hi44 l0 2 ((hi44 l0 2) + l3) → Q 1 hi45 hk41) ∧ (¬ (v42 = 0) → ts_E0 d mX9_failed [.ref l0, .int 2] g hi40 hk41 (ts_qi (fun v48 hi46 hk47 => (v48 = 0 ∨ v48 = 1) ∧ Q v48 hi46 hk47)))))) ∧ (¬ (l3 ≤ 2) → ts_E0 d mX9_failed [.ref l0, .int 1] g hi30 hk31 (ts_qi (fun v52 hi50 hk51 => (v52 = 0 ∨ v52 = 1) ∧ Q v52 hi50 hk51))))) ∧ (¬ (v32 = 0) → ts_E0 d mX9_byteAt [.ref l0, .int ((hi30 l0 2) + l3)] g hi30 hk31 (ts_qi (fun v56 hi54 hk55 => ts_J0 (d + 1) mX9_readNumber (ts_qi Q) g 5 [(0, .ref l0), (1, .int l1), (2, .int l2), (3, .int (l3 + 1)), (4, .int (((10 * l4) + v56) - 48))] [] hi54 hk55))))))))) : ts_J0 (d + 1) mX9_readNumber (ts_qi Q) g 5 [(0, .ref l0), (1, .int l1), (2, .int l2), (3, .int l3), (4, .int l4)] [] hi hk := by
  refine ts_iload_n 3 (pc' := 6) rfl dX9_readNumber_5 rfl rfl ?_
  refine ts_iconst (v := 3) (pc' := 7) rfl dX9_readNumber_6 (by decide) ?_
  refine ts_icmp_ge (pc' := 10) (tgt := 53) rfl dX9_readNumber_7 (by decide) (fun q1 => ?_) (fun q1 => ?_)
  · replace W := W.1 q1
    refine ts_iload_n 3 (pc' := 54) rfl dX9_readNumber_53 rfl rfl ?_
    refine ts_if_eq (pc' := 57) (tgt := 62) rfl dX9_readNumber_54 (by decide) (fun q2 => ?_) (fun q2 => ?_)
    · replace W := W.1 q2
      refine ts_aload_n 0 (pc' := 63) rfl dX9_readNumber_62 rfl rfl ?_
      refine ts_iconst (v := 1) (pc' := 64) rfl dX9_readNumber_63 (by decide) ?_
      obtain ⟨c6, W⟩ := W
      refine ts_callV (M' := mX9_failed) (C := RX9) (pc' := 67) (av := [.int 1]) (b := l0) rfl dX9_readNumber_64 rfl gX9_readNumber_X9_failed rfl dvX9_failed rfl (ci := 8) cfX9.1 (by decide) c6 (Nat.le_refl _) (Nat.le_of_ble_eq_true rfl) (Nat.le_of_ble_eq_true rfl) (Nat.le_refl _) (Nat.le_refl _) ts_kv0 W (ts_kki fun v5 hi3 hk4 W => ?_)
      obtain ⟨c7, W⟩ := W
      exact ts_zret dX9_readNumber_67 rfl c7 (Nat.le_refl _) (Nat.le_refl _) ⟨rfl, _, rfl, W⟩
    · replace W := W.2 q2
      refine ts_iload_n 3 (pc' := 58) rfl dX9_readNumber_57 rfl rfl ?_
      refine ts_iconst (v := 2) (pc' := 59) rfl dX9_readNumber_58 (by decide) ?_
      refine ts_icmp_le (pc' := 62) (tgt := 68) rfl dX9_readNumber_59 (by decide) (fun q8 => ?_) (fun q8 => ?_)
      · replace W := W.1 q8
        refine ts_iload 4 (pc' := 70) rfl dX9_readNumber_68 rfl ?_
        refine ts_iload_n 1 (pc' := 71) rfl dX9_readNumber_70 rfl rfl ?_
        refine ts_iload_n 2 (pc' := 72) rfl dX9_readNumber_71 rfl rfl ?_
        refine ts_callSN (M' := mX11_outside) (pc' := 75) (av := [.int l4, .int l1, .int l2]) rfl dX9_readNumber_72 rfl gX9_readNumber_X11_outside_n81 rfl (host := RX11) (by decide +kernel) (by decide +kernel) (by decide +kernel) dsX11_outside rfl (Nat.le_refl _) (Nat.le_of_ble_eq_true rfl) (Nat.le_of_ble_eq_true rfl) (Nat.le_refl _) (Nat.le_refl _) ts_kv0 W (ts_kki fun v11 hi9 hk10 W => ?_)
        refine ts_if_eq (pc' := 78) (tgt := 84) rfl dX9_readNumber_75 (by decide) (fun q12 => ?_) (fun q12 => ?_)
        · replace W := W.1 q12
          refine ts_aload_n 0 (pc' := 85) rfl dX9_readNumber_84 rfl rfl ?_
          refine ts_iload 4 (pc' := 87) rfl dX9_readNumber_85 rfl ?_
          obtain ⟨c13, W⟩ := W
          refine ts_putI (pc' := 90) (ci := 8) 4 cfX9.1 cfX9.2.1 cfX9.2.2 rfl (by decide) hnX9_readNumber_X9 flX9_readNumber_43 tyX9_ok nmX9 rfl rfl rfl dX9_readNumber_87 c13 ?_
          obtain ⟨hi14, ehi14⟩ : ∃ z, z = ts_up hi9 l0 4 l4 := ⟨_, rfl⟩
          rw [← ehi14]; replace W := W hi14 ehi14
          refine ts_aload_n 0 (pc' := 91) rfl dX9_readNumber_90 rfl rfl ?_
          refine ts_dup (pc' := 92) rfl dX9_readNumber_91 rfl ?_
          refine ts_getI (pc' := 95) (ci := 8) 2 cfX9.1 cfX9.2.1 cfX9.2.2 rfl (by decide) hnX9_readNumber_X9 flX9_readNumber_19 rfl dX9_readNumber_92 c13 ?_
          refine ts_iload_n 3 (pc' := 96) rfl dX9_readNumber_95 rfl rfl ?_
          refine ts_iadd (pc' := 97) rfl dX9_readNumber_96 ?_
          refine ts_putI (pc' := 100) (ci := 8) 2 cfX9.1 cfX9.2.1 cfX9.2.2 rfl (by decide) hnX9_readNumber_X9 flX9_readNumber_19 tyX9_ok nmX9 rfl rfl rfl dX9_readNumber_97 c13 ?_
          obtain ⟨hi15, ehi15⟩ : ∃ z, z = ts_up hi14 l0 2 ((hi14 l0 2) + l3) := ⟨_, rfl⟩
          rw [← ehi15]; replace W := W hi15 ehi15
          refine ts_iconst (v := 1) (pc' := 101) rfl dX9_readNumber_100 (by decide) ?_
          exact ts_zret dX9_readNumber_101 rfl (by decide) (Nat.le_refl _) (Nat.le_refl _) ⟨rfl, _, rfl, W⟩
        · replace W := W.2 q12
          refine ts_aload_n 0 (pc' := 79) rfl dX9_readNumber_78 rfl rfl ?_
          refine ts_iconst (v := 2) (pc' := 80) rfl dX9_readNumber_79 (by decide) ?_
          obtain ⟨c19, W⟩ := W
          refine ts_callV (M' := mX9_failed) (C := RX9) (pc' := 83) (av := [.int 2]) (b := l0) rfl dX9_readNumber_80 rfl gX9_readNumber_X9_failed rfl dvX9_failed rfl (ci := 8) cfX9.1 (by decide) c19 (Nat.le_refl _) (Nat.le_of_ble_eq_true rfl) (Nat.le_of_ble_eq_true rfl) (Nat.le_refl _) (Nat.le_refl _) ts_kv0 W (ts_kki fun v18 hi16 hk17 W => ?_)
          obtain ⟨c20, W⟩ := W
          exact ts_zret dX9_readNumber_83 rfl c20 (Nat.le_refl _) (Nat.le_refl _) ⟨rfl, _, rfl, W⟩
      · replace W := W.2 q8
        refine ts_aload_n 0 (pc' := 63) rfl dX9_readNumber_62 rfl rfl ?_
        refine ts_iconst (v := 1) (pc' := 64) rfl dX9_readNumber_63 (by decide) ?_
        obtain ⟨c24, W⟩ := W
        refine ts_callV (M' := mX9_failed) (C := RX9) (pc' := 67) (av := [.int 1]) (b := l0) rfl dX9_readNumber_64 rfl gX9_readNumber_X9_failed rfl dvX9_failed rfl (ci := 8) cfX9.1 (by decide) c24 (Nat.le_refl _) (Nat.le_of_ble_eq_true rfl) (Nat.le_of_ble_eq_true rfl) (Nat.le_refl _) (Nat.le_refl _) ts_kv0 W (ts_kki fun v23 hi21 hk22 W => ?_)
        obtain ⟨c25, W⟩ := W
        exact ts_zret dX9_readNumber_67 rfl c25 (Nat.le_refl _) (Nat.le_refl _) ⟨rfl, _, rfl, W⟩
  · replace W := W.2 q1
    refine ts_aload_n 0 (pc' := 11) rfl dX9_readNumber_10 rfl rfl ?_
    refine ts_aload_n 0 (pc' := 12) rfl dX9_readNumber_11 rfl rfl ?_
    obtain ⟨c26, W⟩ := W
    refine ts_getI (pc' := 15) (ci := 8) 2 cfX9.1 cfX9.2.1 cfX9.2.2 rfl (by decide) hnX9_readNumber_X9 flX9_readNumber_19 rfl dX9_readNumber_12 c26 ?_
    refine ts_iload_n 3 (pc' := 16) rfl dX9_readNumber_15 rfl rfl ?_
    refine ts_iadd (pc' := 17) rfl dX9_readNumber_16 ?_
    refine ts_callV (M' := mX9_byteAt) (C := RX9) (pc' := 20) (av := [.int ((hi l0 2) + l3)]) (b := l0) rfl dX9_readNumber_17 rfl gX9_readNumber_X9_byteAt rfl dvX9_byteAt rfl (ci := 8) cfX9.1 (by decide) c26 (Nat.le_refl _) (Nat.le_of_ble_eq_true rfl) (Nat.le_of_ble_eq_true rfl) (Nat.le_refl _) (Nat.le_refl _) ts_kv0 W (ts_kki fun v29 hi27 hk28 W => ?_)
    refine ts_callS (M' := mX9_isFigure) (pc' := 23) (av := [.int v29]) rfl dX9_readNumber_20 rfl gX9_readNumber_X9_isFigure rfl dsX9_isFigure rfl (Nat.le_refl _) (Nat.le_of_ble_eq_true rfl) (Nat.le_of_ble_eq_true rfl) (Nat.le_refl _) (Nat.le_refl _) ts_kv0 W (ts_kki fun v32 hi30 hk31 W => ?_)
    refine ts_if_eq (pc' := 26) (tgt := 53) rfl dX9_readNumber_23 (by decide) (fun q33 => ?_) (fun q33 => ?_)
    · replace W := W.1 q33
      refine ts_iload_n 3 (pc' := 54) rfl dX9_readNumber_53 rfl rfl ?_
      refine ts_if_eq (pc' := 57) (tgt := 62) rfl dX9_readNumber_54 (by decide) (fun q34 => ?_) (fun q34 => ?_)
      · replace W := W.1 q34
        refine ts_aload_n 0 (pc' := 63) rfl dX9_readNumber_62 rfl rfl ?_
        refine ts_iconst (v := 1) (pc' := 64) rfl dX9_readNumber_63 (by decide) ?_
        refine ts_callV (M' := mX9_failed) (C := RX9) (pc' := 67) (av := [.int 1]) (b := l0) rfl dX9_readNumber_64 rfl gX9_readNumber_X9_failed rfl dvX9_failed rfl (ci := 8) cfX9.1 (by decide) c26 (Nat.le_refl _) (Nat.le_of_ble_eq_true rfl) (Nat.le_of_ble_eq_true rfl) (Nat.le_refl _) (Nat.le_refl _) ts_kv0 W (ts_kki fun v37 hi35 hk36 W => ?_)
        obtain ⟨c38, W⟩ := W
        exact ts_zret dX9_readNumber_67 rfl c38 (Nat.le_refl _) (Nat.le_refl _) ⟨rfl, _, rfl, W⟩
      · replace W := W.2 q34
        refine ts_iload_n 3 (pc' := 58) rfl dX9_readNumber_57 rfl rfl ?_
        refine ts_iconst (v := 2) (pc' := 59) rfl dX9_readNumber_58 (by decide) ?_
        refine ts_icmp_le (pc' := 62) (tgt := 68) rfl dX9_readNumber_59 (by decide) (fun q39 => ?_) (fun q39 => ?_)
        · replace W := W.1 q39
          refine ts_iload 4 (pc' := 70) rfl dX9_readNumber_68 rfl ?_
          refine ts_iload_n 1 (pc' := 71) rfl dX9_readNumber_70 rfl rfl ?_
          refine ts_iload_n 2 (pc' := 72) rfl dX9_readNumber_71 rfl rfl ?_
          refine ts_callSN (M' := mX11_outside) (pc' := 75) (av := [.int l4, .int l1, .int l2]) rfl dX9_readNumber_72 rfl gX9_readNumber_X11_outside_n81 rfl (host := RX11) (by decide +kernel) (by decide +kernel) (by decide +kernel) dsX11_outside rfl (Nat.le_refl _) (Nat.le_of_ble_eq_true rfl) (Nat.le_of_ble_eq_true rfl) (Nat.le_refl _) (Nat.le_refl _) ts_kv0 W (ts_kki fun v42 hi40 hk41 W => ?_)
          refine ts_if_eq (pc' := 78) (tgt := 84) rfl dX9_readNumber_75 (by decide) (fun q43 => ?_) (fun q43 => ?_)
          · replace W := W.1 q43
            refine ts_aload_n 0 (pc' := 85) rfl dX9_readNumber_84 rfl rfl ?_
            refine ts_iload 4 (pc' := 87) rfl dX9_readNumber_85 rfl ?_
            refine ts_putI (pc' := 90) (ci := 8) 4 cfX9.1 cfX9.2.1 cfX9.2.2 rfl (by decide) hnX9_readNumber_X9 flX9_readNumber_43 tyX9_ok nmX9 rfl rfl rfl dX9_readNumber_87 c26 ?_
            obtain ⟨hi44, ehi44⟩ : ∃ z, z = ts_up hi40 l0 4 l4 := ⟨_, rfl⟩
            rw [← ehi44]; replace W := W hi44 ehi44
            refine ts_aload_n 0 (pc' := 91) rfl dX9_readNumber_90 rfl rfl ?_
            refine ts_dup (pc' := 92) rfl dX9_readNumber_91 rfl ?_
            refine ts_getI (pc' := 95) (ci := 8) 2 cfX9.1 cfX9.2.1 cfX9.2.2 rfl (by decide) hnX9_readNumber_X9 flX9_readNumber_19 rfl dX9_readNumber_92 c26 ?_
            refine ts_iload_n 3 (pc' := 96) rfl dX9_readNumber_95 rfl rfl ?_
            refine ts_iadd (pc' := 97) rfl dX9_readNumber_96 ?_
            refine ts_putI (pc' := 100) (ci := 8) 2 cfX9.1 cfX9.2.1 cfX9.2.2 rfl (by decide) hnX9_readNumber_X9 flX9_readNumber_19 tyX9_ok nmX9 rfl rfl rfl dX9_readNumber_97 c26 ?_
            obtain ⟨hi45, ehi45⟩ : ∃ z, z = ts_up hi44 l0 2 ((hi44 l0 2) + l3) := ⟨_, rfl⟩
            rw [← ehi45]; replace W := W hi45 ehi45
            refine ts_iconst (v := 1) (pc' := 101) rfl dX9_readNumber_100 (by decide) ?_
            exact ts_zret dX9_readNumber_101 rfl (by decide) (Nat.le_refl _) (Nat.le_refl _) ⟨rfl, _, rfl, W⟩
          · replace W := W.2 q43
            refine ts_aload_n 0 (pc' := 79) rfl dX9_readNumber_78 rfl rfl ?_
            refine ts_iconst (v := 2) (pc' := 80) rfl dX9_readNumber_79 (by decide) ?_
            refine ts_callV (M' := mX9_failed) (C := RX9) (pc' := 83) (av := [.int 2]) (b := l0) rfl dX9_readNumber_80 rfl gX9_readNumber_X9_failed rfl dvX9_failed rfl (ci := 8) cfX9.1 (by decide) c26 (Nat.le_refl _) (Nat.le_of_ble_eq_true rfl) (Nat.le_of_ble_eq_true rfl) (Nat.le_refl _) (Nat.le_refl _) ts_kv0 W (ts_kki fun v48 hi46 hk47 W => ?_)
            obtain ⟨c49, W⟩ := W
            exact ts_zret dX9_readNumber_83 rfl c49 (Nat.le_refl _) (Nat.le_refl _) ⟨rfl, _, rfl, W⟩
        · replace W := W.2 q39
          refine ts_aload_n 0 (pc' := 63) rfl dX9_readNumber_62 rfl rfl ?_
          refine ts_iconst (v := 1) (pc' := 64) rfl dX9_readNumber_63 (by decide) ?_
          refine ts_callV (M' := mX9_failed) (C := RX9) (pc' := 67) (av := [.int 1]) (b := l0) rfl dX9_readNumber_64 rfl gX9_readNumber_X9_failed rfl dvX9_failed rfl (ci := 8) cfX9.1 (by decide) c26 (Nat.le_refl _) (Nat.le_of_ble_eq_true rfl) (Nat.le_of_ble_eq_true rfl) (Nat.le_refl _) (Nat.le_refl _) ts_kv0 W (ts_kki fun v52 hi50 hk51 W => ?_)
          obtain ⟨c53, W⟩ := W
          exact ts_zret dX9_readNumber_67 rfl c53 (Nat.le_refl _) (Nat.le_refl _) ⟨rfl, _, rfl, W⟩
    · replace W := W.2 q33
      refine ts_bipush (v := 10) (pc' := 28) rfl dX9_readNumber_26 (by decide) ?_
      refine ts_iload 4 (pc' := 30) rfl dX9_readNumber_28 rfl ?_
      refine ts_imul (pc' := 31) rfl dX9_readNumber_30 ?_
      refine ts_aload_n 0 (pc' := 32) rfl dX9_readNumber_31 rfl rfl ?_
      refine ts_aload_n 0 (pc' := 33) rfl dX9_readNumber_32 rfl rfl ?_
      refine ts_getI (pc' := 36) (ci := 8) 2 cfX9.1 cfX9.2.1 cfX9.2.2 rfl (by decide) hnX9_readNumber_X9 flX9_readNumber_19 rfl dX9_readNumber_33 c26 ?_
      refine ts_iload_n 3 (pc' := 37) rfl dX9_readNumber_36 rfl rfl ?_
      refine ts_iadd (pc' := 38) rfl dX9_readNumber_37 ?_
      refine ts_callV (M' := mX9_byteAt) (C := RX9) (pc' := 41) (av := [.int ((hi30 l0 2) + l3)]) (b := l0) rfl dX9_readNumber_38 rfl gX9_readNumber_X9_byteAt rfl dvX9_byteAt rfl (ci := 8) cfX9.1 (by decide) c26 (Nat.le_refl _) (Nat.le_of_ble_eq_true rfl) (Nat.le_of_ble_eq_true rfl) (Nat.le_refl _) (Nat.le_refl _) ts_kv0 W (ts_kki fun v56 hi54 hk55 W => ?_)
      refine ts_iadd (pc' := 42) rfl dX9_readNumber_41 ?_
      refine ts_bipush (v := 48) (pc' := 44) rfl dX9_readNumber_42 (by decide) ?_
      refine ts_isub (pc' := 45) rfl dX9_readNumber_44 ?_
      refine ts_istore (pc' := 47) (ls' := [(4, .int (((10 * l4) + v56) - 48)), (0, .ref l0), (1, .int l1), (2, .int l2), (3, .int l3)]) rfl dX9_readNumber_45 (Nat.le_of_ble_eq_true rfl) rfl ?_
      refine ts_iinc 4 (pc' := 50) (ls' := [(3, .int (l3 + 1)), (4, .int (((10 * l4) + v56) - 48)), (0, .ref l0), (1, .int l1), (2, .int l2)]) rfl dX9_readNumber_47 rfl rfl (Nat.le_of_ble_eq_true rfl) rfl ?_
      refine ts_goto (tgt := 5) dX9_readNumber_50 (by decide) ?_
      exact ts_sub [2, 3, 4, 0, 1] rfl W
theorem hnX9_failed_X9 : ∀ w ∈ u_ws RX9 TX9 5, w ∈ wsX9_failed := by decide +kernel
theorem flX9_failed_85 : Cond.fieldLink RX9 85 "TurnipSquires$Tape" "fault" "I" ∈ wsX9_failed := by decide +kernel
set_option maxHeartbeats 4000000 in
theorem wX9_failed_0 {d : Nat} {g : ts_G} {Q : Int32 → ts_I → ts_K → Prop} {o : Nat} {p0 : Int32} {hi : ts_I} {hk : ts_K} (W : (g.2.1 o = 8) ∧ ∀ hi2 : ts_I, hi2 = ts_up hi o 3 p0 → Q 0 hi2 hk) : ts_J0 d mX9_failed (ts_qi Q) g 0 [(0, .ref o), (1, .int p0)] [] hi hk := by
  refine ts_aload_n 0 (pc' := 1) rfl dX9_failed_0 rfl rfl ?_
  refine ts_iload_n 1 (pc' := 2) rfl dX9_failed_1 rfl rfl ?_
  obtain ⟨c1, W⟩ := W
  refine ts_putI (pc' := 5) (ci := 8) 3 cfX9.1 cfX9.2.1 cfX9.2.2 rfl (by decide) hnX9_failed_X9 flX9_failed_85 tyX9_ok nmX9 rfl rfl rfl dX9_failed_2 c1 ?_
  obtain ⟨hi2, ehi2⟩ : ∃ z, z = ts_up hi o 3 p0 := ⟨_, rfl⟩
  rw [← ehi2]; replace W := W hi2 ehi2
  refine ts_iconst (v := 0) (pc' := 6) rfl dX9_failed_5 (by decide) ?_
  exact ts_zret dX9_failed_6 rfl (by decide) (Nat.le_refl _) (Nat.le_refl _) ⟨rfl, _, rfl, W⟩
theorem hnX9_byteAt_X9 : ∀ w ∈ u_ws RX9 TX9 5, w ∈ wsX9_byteAt := by decide +kernel
theorem flX9_byteAt_9 : Cond.fieldLink RX9 9 "TurnipSquires$Tape" "bytes" "[I" ∈ wsX9_byteAt := by decide +kernel
theorem flX9_byteAt_15 : Cond.fieldLink RX9 15 "TurnipSquires$Tape" "size" "I" ∈ wsX9_byteAt := by decide +kernel
set_option maxHeartbeats 4000000 in
theorem wX9_byteAt_0 {d : Nat} {g : ts_G} {Q : Int32 → ts_I → ts_K → Prop} {o : Nat} {p0 : Int32} {hi : ts_I} {hk : ts_K} (W : ((p0 < 0) → Q (-1) hi hk) ∧ (¬ (p0 < 0) → (g.2.1 o = 8) ∧ (((hi o 1) ≤ p0) → Q (-1) hi hk) ∧ (¬ ((hi o 1) ≤ p0) → (g.2.2.2 o 0 ≠ 0) ∧ (g.2.1 (g.2.2.2 o 0) = 100) ∧ (vp_in p0 (g.2.2.1 (g.2.2.2 o 0))) ∧ Q (hi (g.2.2.2 o 0) p0.toNatClampNeg) hi hk))) : ts_J0 d mX9_byteAt (ts_qi Q) g 0 [(0, .ref o), (1, .int p0)] [] hi hk := by
  refine ts_iload_n 1 (pc' := 1) rfl dX9_byteAt_0 rfl rfl ?_
  refine ts_if_lt (pc' := 4) (tgt := 21) rfl dX9_byteAt_1 (by decide) (fun q1 => ?_) (fun q1 => ?_)
  · replace W := W.1 q1
    refine ts_iconst (v := (-1)) (pc' := 22) rfl dX9_byteAt_21 (by decide) ?_
    exact ts_iret dX9_byteAt_22 rfl (Nat.le_refl _) (Nat.le_refl _) ⟨rfl, _, rfl, W⟩
  · replace W := W.2 q1
    refine ts_iload_n 1 (pc' := 5) rfl dX9_byteAt_4 rfl rfl ?_
    refine ts_aload_n 0 (pc' := 6) rfl dX9_byteAt_5 rfl rfl ?_
    obtain ⟨c2, W⟩ := W
    refine ts_getI (pc' := 9) (ci := 8) 1 cfX9.1 cfX9.2.1 cfX9.2.2 rfl (by decide) hnX9_byteAt_X9 flX9_byteAt_15 rfl dX9_byteAt_6 c2 ?_
    refine ts_icmp_ge (pc' := 12) (tgt := 21) rfl dX9_byteAt_9 (by decide) (fun q3 => ?_) (fun q3 => ?_)
    · replace W := W.1 q3
      refine ts_iconst (v := (-1)) (pc' := 22) rfl dX9_byteAt_21 (by decide) ?_
      exact ts_iret dX9_byteAt_22 rfl (Nat.le_refl _) (Nat.le_refl _) ⟨rfl, _, rfl, W⟩
    · replace W := W.2 q3
      refine ts_aload_n 0 (pc' := 13) rfl dX9_byteAt_12 rfl rfl ?_
      obtain ⟨c4, W⟩ := W
      refine ts_getR (pc' := 16) (ci := 8) 0 cfX9.1 cfX9.2.1 cfX9.2.2 rfl (by decide) hnX9_byteAt_X9 flX9_byteAt_9 rfl dX9_byteAt_13 c2 c4 ?_
      refine ts_iload_n 1 (pc' := 17) rfl dX9_byteAt_16 rfl rfl ?_
      obtain ⟨c5, W⟩ := W
      obtain ⟨c6, W⟩ := W
      refine ts_iaload (pc' := 18) rfl dX9_byteAt_17 c5 c6 ?_
      refine ts_goto (tgt := 22) dX9_byteAt_18 (by decide) ?_
      exact ts_iret dX9_byteAt_22 rfl (Nat.le_refl _) (Nat.le_refl _) ⟨rfl, _, rfl, W⟩
set_option maxHeartbeats 4000000 in
theorem wX9_isFigure_0 {d : Nat} {g : ts_G} {Q : Int32 → ts_I → ts_K → Prop} {p0 : Int32} {hi : ts_I} {hk : ts_K} (W : ((p0 < 48) → Q 0 hi hk) ∧ (¬ (p0 < 48) → ((57 < p0) → Q 0 hi hk) ∧ (¬ (57 < p0) → Q 1 hi hk))) : ts_J0 d mX9_isFigure (ts_qi Q) g 0 [(0, .int p0)] [] hi hk := by
  refine ts_iload_n 0 (pc' := 1) rfl dX9_isFigure_0 rfl rfl ?_
  refine ts_bipush (v := 48) (pc' := 3) rfl dX9_isFigure_1 (by decide) ?_
  refine ts_icmp_lt (pc' := 6) (tgt := 16) rfl dX9_isFigure_3 (by decide) (fun q1 => ?_) (fun q1 => ?_)
  · replace W := W.1 q1
    refine ts_iconst (v := 0) (pc' := 17) rfl dX9_isFigure_16 (by decide) ?_
    exact ts_zret dX9_isFigure_17 rfl (by decide) (Nat.le_refl _) (Nat.le_refl _) ⟨rfl, _, rfl, W⟩
  · replace W := W.2 q1
    refine ts_iload_n 0 (pc' := 7) rfl dX9_isFigure_6 rfl rfl ?_
    refine ts_bipush (v := 57) (pc' := 9) rfl dX9_isFigure_7 (by decide) ?_
    refine ts_icmp_gt (pc' := 12) (tgt := 16) rfl dX9_isFigure_9 (by decide) (fun q2 => ?_) (fun q2 => ?_)
    · replace W := W.1 q2
      refine ts_iconst (v := 0) (pc' := 17) rfl dX9_isFigure_16 (by decide) ?_
      exact ts_zret dX9_isFigure_17 rfl (by decide) (Nat.le_refl _) (Nat.le_refl _) ⟨rfl, _, rfl, W⟩
    · replace W := W.2 q2
      refine ts_iconst (v := 1) (pc' := 13) rfl dX9_isFigure_12 (by decide) ?_
      refine ts_goto (tgt := 17) dX9_isFigure_13 (by decide) ?_
      exact ts_zret dX9_isFigure_17 rfl (by decide) (Nat.le_refl _) (Nat.le_refl _) ⟨rfl, _, rfl, W⟩
set_option maxHeartbeats 4000000 in
theorem wX9_sortOf_0 {d : Nat} {g : ts_G} {Q : Int32 → ts_I → ts_K → Prop} {p0 : Int32} {hi : ts_I} {hk : ts_K} (W : (p0 = 102 → Q 4 hi hk) ∧ (p0 = 103 → Q (-1) hi hk) ∧ (p0 = 104 → Q (-1) hi hk) ∧ (p0 = 105 → Q (-1) hi hk) ∧ (p0 = 106 → Q (-1) hi hk) ∧ (p0 = 107 → Q (-1) hi hk) ∧ (p0 = 108 → Q (-1) hi hk) ∧ (p0 = 109 → Q (-1) hi hk) ∧ (p0 = 110 → Q (-1) hi hk) ∧ (p0 = 111 → Q 2 hi hk) ∧ (p0 = 112 → Q 3 hi hk) ∧ (p0 = 113 → Q (-1) hi hk) ∧ (p0 = 114 → Q (-1) hi hk) ∧ (p0 = 115 → Q 5 hi hk) ∧ (p0 = 116 → Q 1 hi hk) ∧ (¬ p0 = 102 → ¬ p0 = 103 → ¬ p0 = 104 → ¬ p0 = 105 → ¬ p0 = 106 → ¬ p0 = 107 → ¬ p0 = 108 → ¬ p0 = 109 → ¬ p0 = 110 → ¬ p0 = 111 → ¬ p0 = 112 → ¬ p0 = 113 → ¬ p0 = 114 → ¬ p0 = 115 → ¬ p0 = 116 → Q (-1) hi hk)) : ts_J0 d mX9_sortOf (ts_qi Q) g 0 [(0, .int p0)] [] hi hk := by
  refine ts_iload_n 0 (pc' := 1) rfl dX9_sortOf_0 rfl rfl ?_
  by_cases q1 : p0 = 102
  · replace W := W.1 q1
    refine ts_tableI (i := 102) (off := 81) (tgt := 82) dX9_sortOf_1 (by rw [q1]; rfl) (by decide) (by decide) rfl (by decide) ?_
    refine ts_iconst (v := 4) (pc' := 83) rfl dX9_sortOf_82 (by decide) ?_
    exact ts_iret dX9_sortOf_83 rfl (Nat.le_refl _) (Nat.le_refl _) ⟨rfl, _, rfl, W⟩
  replace W := W.2
  by_cases q2 : p0 = 103
  · replace W := W.1 q2
    refine ts_tableI (i := 103) (off := 85) (tgt := 86) dX9_sortOf_1 (by rw [q2]; rfl) (by decide) (by decide) rfl (by decide) ?_
    refine ts_iconst (v := (-1)) (pc' := 87) rfl dX9_sortOf_86 (by decide) ?_
    exact ts_iret dX9_sortOf_87 rfl (Nat.le_refl _) (Nat.le_refl _) ⟨rfl, _, rfl, W⟩
  replace W := W.2
  by_cases q3 : p0 = 104
  · replace W := W.1 q3
    refine ts_tableI (i := 104) (off := 85) (tgt := 86) dX9_sortOf_1 (by rw [q3]; rfl) (by decide) (by decide) rfl (by decide) ?_
    refine ts_iconst (v := (-1)) (pc' := 87) rfl dX9_sortOf_86 (by decide) ?_
    exact ts_iret dX9_sortOf_87 rfl (Nat.le_refl _) (Nat.le_refl _) ⟨rfl, _, rfl, W⟩
  replace W := W.2
  by_cases q4 : p0 = 105
  · replace W := W.1 q4
    refine ts_tableI (i := 105) (off := 85) (tgt := 86) dX9_sortOf_1 (by rw [q4]; rfl) (by decide) (by decide) rfl (by decide) ?_
    refine ts_iconst (v := (-1)) (pc' := 87) rfl dX9_sortOf_86 (by decide) ?_
    exact ts_iret dX9_sortOf_87 rfl (Nat.le_refl _) (Nat.le_refl _) ⟨rfl, _, rfl, W⟩
  replace W := W.2
  by_cases q5 : p0 = 106
  · replace W := W.1 q5
    refine ts_tableI (i := 106) (off := 85) (tgt := 86) dX9_sortOf_1 (by rw [q5]; rfl) (by decide) (by decide) rfl (by decide) ?_
    refine ts_iconst (v := (-1)) (pc' := 87) rfl dX9_sortOf_86 (by decide) ?_
    exact ts_iret dX9_sortOf_87 rfl (Nat.le_refl _) (Nat.le_refl _) ⟨rfl, _, rfl, W⟩
  replace W := W.2
  by_cases q6 : p0 = 107
  · replace W := W.1 q6
    refine ts_tableI (i := 107) (off := 85) (tgt := 86) dX9_sortOf_1 (by rw [q6]; rfl) (by decide) (by decide) rfl (by decide) ?_
    refine ts_iconst (v := (-1)) (pc' := 87) rfl dX9_sortOf_86 (by decide) ?_
    exact ts_iret dX9_sortOf_87 rfl (Nat.le_refl _) (Nat.le_refl _) ⟨rfl, _, rfl, W⟩
  replace W := W.2
  by_cases q7 : p0 = 108
  · replace W := W.1 q7
    refine ts_tableI (i := 108) (off := 85) (tgt := 86) dX9_sortOf_1 (by rw [q7]; rfl) (by decide) (by decide) rfl (by decide) ?_
    refine ts_iconst (v := (-1)) (pc' := 87) rfl dX9_sortOf_86 (by decide) ?_
    exact ts_iret dX9_sortOf_87 rfl (Nat.le_refl _) (Nat.le_refl _) ⟨rfl, _, rfl, W⟩
  replace W := W.2
  by_cases q8 : p0 = 109
  · replace W := W.1 q8
    refine ts_tableI (i := 109) (off := 85) (tgt := 86) dX9_sortOf_1 (by rw [q8]; rfl) (by decide) (by decide) rfl (by decide) ?_
    refine ts_iconst (v := (-1)) (pc' := 87) rfl dX9_sortOf_86 (by decide) ?_
    exact ts_iret dX9_sortOf_87 rfl (Nat.le_refl _) (Nat.le_refl _) ⟨rfl, _, rfl, W⟩
  replace W := W.2
  by_cases q9 : p0 = 110
  · replace W := W.1 q9
    refine ts_tableI (i := 110) (off := 85) (tgt := 86) dX9_sortOf_1 (by rw [q9]; rfl) (by decide) (by decide) rfl (by decide) ?_
    refine ts_iconst (v := (-1)) (pc' := 87) rfl dX9_sortOf_86 (by decide) ?_
    exact ts_iret dX9_sortOf_87 rfl (Nat.le_refl _) (Nat.le_refl _) ⟨rfl, _, rfl, W⟩
  replace W := W.2
  by_cases q10 : p0 = 111
  · replace W := W.1 q10
    refine ts_tableI (i := 111) (off := 77) (tgt := 78) dX9_sortOf_1 (by rw [q10]; rfl) (by decide) (by decide) rfl (by decide) ?_
    refine ts_iconst (v := 2) (pc' := 79) rfl dX9_sortOf_78 (by decide) ?_
    exact ts_iret dX9_sortOf_79 rfl (Nat.le_refl _) (Nat.le_refl _) ⟨rfl, _, rfl, W⟩
  replace W := W.2
  by_cases q11 : p0 = 112
  · replace W := W.1 q11
    refine ts_tableI (i := 112) (off := 79) (tgt := 80) dX9_sortOf_1 (by rw [q11]; rfl) (by decide) (by decide) rfl (by decide) ?_
    refine ts_iconst (v := 3) (pc' := 81) rfl dX9_sortOf_80 (by decide) ?_
    exact ts_iret dX9_sortOf_81 rfl (Nat.le_refl _) (Nat.le_refl _) ⟨rfl, _, rfl, W⟩
  replace W := W.2
  by_cases q12 : p0 = 113
  · replace W := W.1 q12
    refine ts_tableI (i := 113) (off := 85) (tgt := 86) dX9_sortOf_1 (by rw [q12]; rfl) (by decide) (by decide) rfl (by decide) ?_
    refine ts_iconst (v := (-1)) (pc' := 87) rfl dX9_sortOf_86 (by decide) ?_
    exact ts_iret dX9_sortOf_87 rfl (Nat.le_refl _) (Nat.le_refl _) ⟨rfl, _, rfl, W⟩
  replace W := W.2
  by_cases q13 : p0 = 114
  · replace W := W.1 q13
    refine ts_tableI (i := 114) (off := 85) (tgt := 86) dX9_sortOf_1 (by rw [q13]; rfl) (by decide) (by decide) rfl (by decide) ?_
    refine ts_iconst (v := (-1)) (pc' := 87) rfl dX9_sortOf_86 (by decide) ?_
    exact ts_iret dX9_sortOf_87 rfl (Nat.le_refl _) (Nat.le_refl _) ⟨rfl, _, rfl, W⟩
  replace W := W.2
  by_cases q14 : p0 = 115
  · replace W := W.1 q14
    refine ts_tableI (i := 115) (off := 83) (tgt := 84) dX9_sortOf_1 (by rw [q14]; rfl) (by decide) (by decide) rfl (by decide) ?_
    refine ts_iconst (v := 5) (pc' := 85) rfl dX9_sortOf_84 (by decide) ?_
    exact ts_iret dX9_sortOf_85 rfl (Nat.le_refl _) (Nat.le_refl _) ⟨rfl, _, rfl, W⟩
  replace W := W.2
  by_cases q15 : p0 = 116
  · replace W := W.1 q15
    refine ts_tableI (i := 116) (off := 75) (tgt := 76) dX9_sortOf_1 (by rw [q15]; rfl) (by decide) (by decide) rfl (by decide) ?_
    refine ts_iconst (v := 1) (pc' := 77) rfl dX9_sortOf_76 (by decide) ?_
    exact ts_iret dX9_sortOf_77 rfl (Nat.le_refl _) (Nat.le_refl _) ⟨rfl, _, rfl, W⟩
  replace W := W.2
  replace W := W q1 q2 q3 q4 q5 q6 q7 q8 q9 q10 q11 q12 q13 q14 q15
  have hs16 : ∀ i, i < 15 → ¬ p0 = Int32.ofNat (102 + i) := by
    intro i hi0
    have h0 : i = 0 ∨ i = 1 ∨ i = 2 ∨ i = 3 ∨ i = 4 ∨ i = 5 ∨ i = 6 ∨ i = 7 ∨ i = 8 ∨ i = 9 ∨ i = 10 ∨ i = 11 ∨ i = 12 ∨ i = 13 ∨ i = 14 := by omega
    rcases h0 with rfl | rfl | rfl | rfl | rfl | rfl | rfl | rfl | rfl | rfl | rfl | rfl | rfl | rfl | rfl
    · exact q1
    · exact q2
    · exact q3
    · exact q4
    · exact q5
    · exact q6
    · exact q7
    · exact q8
    · exact q9
    · exact q10
    · exact q11
    · exact q12
    · exact q13
    · exact q14
    · exact q15
  refine ts_tableO (tgt := 86) dX9_sortOf_1 (ts_swout (l := 102) (n := 15) rfl (by decide) (by decide) hs16) (by decide) ?_
  refine ts_iconst (v := (-1)) (pc' := 87) rfl dX9_sortOf_86 (by decide) ?_
  exact ts_iret dX9_sortOf_87 rfl (Nat.le_refl _) (Nat.le_refl _) ⟨rfl, _, rfl, W⟩
