/-! walks of the constructors -/
theorem ts_oki {n : Nat} {x : Int32} : ts_okv n (.int x) := fun _ h => by cases h
theorem ts_okl {n : Nat} {x : Int64} : ts_okv n (.long x) := fun _ h => by cases h
theorem ts_okr {n a : Nat} (h : a ≤ n) : ts_okv n (.ref a) := fun _ e => by cases e; exact h
def ts_okA (n : Nat) : List Value → Prop
  | [] => True
  | v :: l => ts_okv n v ∧ ts_okA n l
theorem ts_okS {n : Nat} {l : List Value} (h : ts_okA n l) : ∀ v ∈ l, ts_okv n v := by
  induction l with
  | nil => intro v hv; cases hv
  | cons a l ih =>
    intro v hv
    rcases List.mem_cons.mp hv with rfl | hv
    · exact h.1
    · exact ih h.2 v hv
def ts_okB (n : Nat) : List (Nat × Value) → Prop
  | [] => True
  | q :: l => ts_okv n q.2 ∧ ts_okB n l
theorem ts_okP {n : Nat} {l : List (Nat × Value)} (h : ts_okB n l) : ∀ q ∈ l, ts_okv n q.2 := by
  induction l with
  | nil => intro v hv; cases hv
  | cons a l ih =>
    intro v hv
    rcases List.mem_cons.mp hv with rfl | hv
    · exact h.1
    · exact ih h.2 v hv
theorem ts_putNum {d mc ms : Nat} {M : ts_M} {scr : Option (Nat × (Nat → Int32))} {n0 : Nat} {Q : ts_Q} {k j pc pc' : Nat} {ls : List (Nat × Value)} {st : List Value} {g : ts_G} {hi : ts_I} {hk : ts_K} {index a : Nat} {x : Int32} (hca : g.2.1 a = 0 ∨ g.2.1 a = 2 ∨ g.2.1 a = 3 ∨ g.2.1 a = 4 ∨ g.2.1 a = 7) (hp : pc + 3 = pc') (hlk : Cond.fieldLink M.1.cls index "TurnipSquires$Kind" "number" "I" ∈ M.2.2.2.2) (hd : decode M.2.1 pc = .ok (.putfield index, 3)) (hini : M.1.name = "<init>") (hown : "TurnipSquires$Kind" = M.1.cls) (hin : (∀ w ∈ wsX00, w ∈ M.2.2.2.2) ∧ (∀ w ∈ wsX30, w ∈ M.2.2.2.2) ∧ (∀ w ∈ wsX40, w ∈ M.2.2.2.2) ∧ (∀ w ∈ wsX50, w ∈ M.2.2.2.2) ∧ (∀ w ∈ wsX80, w ∈ M.2.2.2.2)) (kk : ts_JJ d mc ms M scr n0 Q k j pc' ls st g (ts_up hi a 0 x) hk) : ts_JJ d mc ms M scr n0 Q k j pc ls (.int x :: .ref a :: st) g hi hk := by
  rcases hca with h | h | h | h | h
  · exact ts_putFI (C := RX0) (T := TX0) (N := 1) (ci := 0) 0 rfl rfl (by decide) rfl (by decide) hin.1 hlk tyX0_ok nmX0 rfl rfl hini hown hp hd h kk
  · exact ts_putFI (C := RX3) (T := TX3) (N := 1) (ci := 2) 0 rfl rfl (by decide) rfl (by decide) hin.2.1 hlk tyX3_ok nmX3 rfl rfl hini hown hp hd h kk
  · exact ts_putFI (C := RX4) (T := TX4) (N := 1) (ci := 3) 0 rfl rfl (by decide) rfl (by decide) hin.2.2.1 hlk tyX4_ok nmX4 rfl rfl hini hown hp hd h kk
  · exact ts_putFI (C := RX5) (T := TX5) (N := 1) (ci := 4) 0 rfl rfl (by decide) rfl (by decide) hin.2.2.2.1 hlk tyX5_ok nmX5 rfl rfl hini hown hp hd h kk
  · exact ts_putFI (C := RX8) (T := TX8) (N := 1) (ci := 7) 0 rfl rfl (by decide) rfl (by decide) hin.2.2.2.2 hlk tyX8_ok nmX8 rfl rfl hini hown hp hd h kk
theorem ndX0 : ∀ j, j < 1 → defaultValue (tyX0 j) = if ts_fR 0 j = true then .null else .int 0 := by decide +kernel
theorem ndX1 : ∀ j, j < 13 → defaultValue (tyX1 j) = if ts_fR 1 j = true then .null else .int 0 := by decide +kernel
theorem ndX3 : ∀ j, j < 1 → defaultValue (tyX3 j) = if ts_fR 2 j = true then .null else .int 0 := by decide +kernel
theorem ndX4 : ∀ j, j < 1 → defaultValue (tyX4 j) = if ts_fR 3 j = true then .null else .int 0 := by decide +kernel
theorem ndX5 : ∀ j, j < 1 → defaultValue (tyX5 j) = if ts_fR 4 j = true then .null else .int 0 := by decide +kernel
theorem ndX6 : ∀ j, j < 4 → defaultValue (tyX6 j) = if ts_fR 5 j = true then .null else .int 0 := by decide +kernel
theorem ndX7 : ∀ j, j < 8 → defaultValue (tyX7 j) = if ts_fR 6 j = true then .null else .int 0 := by decide +kernel
theorem ndX8 : ∀ j, j < 1 → defaultValue (tyX8 j) = if ts_fR 7 j = true then .null else .int 0 := by decide +kernel
theorem ndX9 : ∀ j, j < 5 → defaultValue (tyX9 j) = if ts_fR 8 j = true then .null else .int 0 := by decide +kernel
theorem ndX10 : ∀ j, j < 2 → defaultValue (tyX10 j) = if ts_fR 9 j = true then .null else .int 0 := by decide +kernel
theorem ndX11 : ∀ j, j < 13 → defaultValue (tyX11 j) = if ts_fR 10 j = true then .null else .int 0 := by decide +kernel
theorem ndX12 : ∀ j, j < 25 → defaultValue (tyX12 j) = if ts_fR 11 j = true then .null else .int 0 := by decide +kernel
theorem hnX2_init_K : (∀ w ∈ wsX00, w ∈ wsX2_init) ∧ (∀ w ∈ wsX30, w ∈ wsX2_init) ∧ (∀ w ∈ wsX40, w ∈ wsX2_init) ∧ (∀ w ∈ wsX50, w ∈ wsX2_init) ∧ (∀ w ∈ wsX80, w ∈ wsX2_init) := by decide +kernel
set_option maxHeartbeats 4000000 in
theorem wX2_init_0 {d mc ms n0 : Nat} {g : ts_G} {Q : ts_Q} {o : Nat} {p0 : Int32} {hi : ts_I} {hk : ts_K} (W : (g.2.1 o = 0 ∨ g.2.1 o = 2 ∨ g.2.1 o = 3 ∨ g.2.1 o = 4 ∨ g.2.1 o = 7) ∧ ∀ hi2 : ts_I, hi2 = ts_up hi o 0 p0 → (0 ≤ mc) ∧ (0 ≤ ms) ∧ Q none g hi2 hk) : ts_JJ (d + 1) mc ms mX2_init none n0 Q 0 0 0 [(0, .ref o), (1, .int p0)] [] g hi hk := by
  refine ts_aload_n 0 (pc' := 1) rfl dX2_init_0 rfl rfl ?_
  refine ts_objI (pc' := 4) rfl dX2_init_1 (by decide +kernel) (by decide +kernel) (by decide +kernel) (Nat.le_add_left 1 _) (Nat.le_of_ble_eq_true rfl) ?_
  refine ts_aload_n 0 (pc' := 5) rfl dX2_init_4 rfl rfl ?_
  refine ts_iload_n 1 (pc' := 6) rfl dX2_init_5 rfl rfl ?_
  obtain ⟨c1, W⟩ := W
  refine ts_putNum (pc' := 9) (index := 9) c1 rfl (by decide +kernel) dX2_init_6 rfl rfl hnX2_init_K ?_
  obtain ⟨hi2, ehi2⟩ : ∃ z, z = ts_up hi o 0 p0 := ⟨_, rfl⟩
  rw [← ehi2]; replace W := W hi2 ehi2
  obtain ⟨c3, W⟩ := W
  obtain ⟨c4, W⟩ := W
  exact ts_vret dX2_init_9 rfl c3 c4 W
set_option maxHeartbeats 4000000 in
theorem wX4_init_0 {d mc ms n0 : Nat} {g : ts_G} {Q : ts_Q} {o : Nat} {p0 : Int32} {hi : ts_I} {hk : ts_K} (W : (o ≤ g.1) ∧ (0 + 0 ≤ mc) ∧ (0 + 0 ≤ ms) ∧ ts_Ev d 0 0 mX2_init [.ref o, .int p0] g hi hk (fun r g4 hi5 hk6 => r = none ∧ (((0 + 0) ≤ mc) ∧ ((0 + 0) ≤ ms) ∧ Q none g4 hi5 hk6))) : ts_JJ (d + 1) mc ms mX4_init none n0 Q 0 0 0 [(0, .ref o), (1, .int p0)] [] g hi hk := by
  refine ts_aload_n 0 (pc' := 1) rfl dX4_init_0 rfl rfl ?_
  refine ts_iload_n 1 (pc' := 2) rfl dX4_init_1 rfl rfl ?_
  obtain ⟨c1, W⟩ := W
  obtain ⟨c2, W⟩ := W
  obtain ⟨c3, W⟩ := W
  refine ts_callI (M' := mX2_init) (mc' := 0) (ms' := 0) (pc' := 5) (av := [.int p0]) (b := o) rfl dX4_init_2 rfl gX4_init_X2_init rfl (by decide +kernel) (by decide +kernel) (by decide +kernel) rfl dsX2_init rfl (Nat.le_refl _) (Nat.le_of_ble_eq_true rfl) (Nat.le_of_ble_eq_true rfl) c2 c3 (Or.inr ⟨(ts_okP ⟨ts_okr c1, ts_oki, trivial⟩), (ts_okS trivial)⟩) W (fun r g4 hi5 hk6 W => ?_)
  obtain ⟨rfl, W⟩ := W
  obtain ⟨c7, W⟩ := W
  obtain ⟨c8, W⟩ := W
  exact ts_vret dX4_init_5 rfl c7 c8 W
set_option maxHeartbeats 4000000 in
theorem wX3_init_0 {d mc ms n0 : Nat} {g : ts_G} {Q : ts_Q} {o : Nat} {p0 : Int32} {hi : ts_I} {hk : ts_K} (W : (o ≤ g.1) ∧ (0 + 0 ≤ mc) ∧ (0 + 0 ≤ ms) ∧ ts_Ev d 0 0 mX4_init [.ref o, .int p0] g hi hk (fun r g4 hi5 hk6 => r = none ∧ (((0 + 0) ≤ mc) ∧ ((0 + 0) ≤ ms) ∧ Q none g4 hi5 hk6))) : ts_JJ (d + 1) mc ms mX3_init none n0 Q 0 0 0 [(0, .ref o), (1, .int p0)] [] g hi hk := by
  refine ts_aload_n 0 (pc' := 1) rfl dX3_init_0 rfl rfl ?_
  refine ts_iload_n 1 (pc' := 2) rfl dX3_init_1 rfl rfl ?_
  obtain ⟨c1, W⟩ := W
  obtain ⟨c2, W⟩ := W
  obtain ⟨c3, W⟩ := W
  refine ts_callI (M' := mX4_init) (mc' := 0) (ms' := 0) (pc' := 5) (av := [.int p0]) (b := o) rfl dX3_init_2 rfl gX3_init_X4_init rfl (by decide +kernel) (by decide +kernel) (by decide +kernel) rfl dsX4_init rfl (Nat.le_refl _) (Nat.le_of_ble_eq_true rfl) (Nat.le_of_ble_eq_true rfl) c2 c3 (Or.inr ⟨(ts_okP ⟨ts_okr c1, ts_oki, trivial⟩), (ts_okS trivial)⟩) W (fun r g4 hi5 hk6 W => ?_)
  obtain ⟨rfl, W⟩ := W
  obtain ⟨c7, W⟩ := W
  obtain ⟨c8, W⟩ := W
  exact ts_vret dX3_init_5 rfl c7 c8 W
set_option maxHeartbeats 4000000 in
theorem wX5_init_0 {d mc ms n0 : Nat} {g : ts_G} {Q : ts_Q} {o : Nat} {p0 : Int32} {hi : ts_I} {hk : ts_K} (W : (o ≤ g.1) ∧ (0 + 0 ≤ mc) ∧ (0 + 0 ≤ ms) ∧ ts_Ev d 0 0 mX4_init [.ref o, .int p0] g hi hk (fun r g4 hi5 hk6 => r = none ∧ (((0 + 0) ≤ mc) ∧ ((0 + 0) ≤ ms) ∧ Q none g4 hi5 hk6))) : ts_JJ (d + 1) mc ms mX5_init none n0 Q 0 0 0 [(0, .ref o), (1, .int p0)] [] g hi hk := by
  refine ts_aload_n 0 (pc' := 1) rfl dX5_init_0 rfl rfl ?_
  refine ts_iload_n 1 (pc' := 2) rfl dX5_init_1 rfl rfl ?_
  obtain ⟨c1, W⟩ := W
  obtain ⟨c2, W⟩ := W
  obtain ⟨c3, W⟩ := W
  refine ts_callI (M' := mX4_init) (mc' := 0) (ms' := 0) (pc' := 5) (av := [.int p0]) (b := o) rfl dX5_init_2 rfl gX5_init_X4_init rfl (by decide +kernel) (by decide +kernel) (by decide +kernel) rfl dsX4_init rfl (Nat.le_refl _) (Nat.le_of_ble_eq_true rfl) (Nat.le_of_ble_eq_true rfl) c2 c3 (Or.inr ⟨(ts_okP ⟨ts_okr c1, ts_oki, trivial⟩), (ts_okS trivial)⟩) W (fun r g4 hi5 hk6 W => ?_)
  obtain ⟨rfl, W⟩ := W
  obtain ⟨c7, W⟩ := W
  obtain ⟨c8, W⟩ := W
  exact ts_vret dX5_init_5 rfl c7 c8 W
set_option maxHeartbeats 4000000 in
theorem wX0_init_0 {d mc ms n0 : Nat} {g : ts_G} {Q : ts_Q} {o : Nat} {p0 : Int32} {hi : ts_I} {hk : ts_K} (W : (o ≤ g.1) ∧ (0 + 0 ≤ mc) ∧ (0 + 0 ≤ ms) ∧ ts_Ev d 0 0 mX2_init [.ref o, .int p0] g hi hk (fun r g4 hi5 hk6 => r = none ∧ (((0 + 0) ≤ mc) ∧ ((0 + 0) ≤ ms) ∧ Q none g4 hi5 hk6))) : ts_JJ (d + 1) mc ms mX0_init none n0 Q 0 0 0 [(0, .ref o), (1, .int p0)] [] g hi hk := by
  refine ts_aload_n 0 (pc' := 1) rfl dX0_init_0 rfl rfl ?_
  refine ts_iload_n 1 (pc' := 2) rfl dX0_init_1 rfl rfl ?_
  obtain ⟨c1, W⟩ := W
  obtain ⟨c2, W⟩ := W
  obtain ⟨c3, W⟩ := W
  refine ts_callI (M' := mX2_init) (mc' := 0) (ms' := 0) (pc' := 5) (av := [.int p0]) (b := o) rfl dX0_init_2 rfl gX0_init_X2_init rfl (by decide +kernel) (by decide +kernel) (by decide +kernel) rfl dsX2_init rfl (Nat.le_refl _) (Nat.le_of_ble_eq_true rfl) (Nat.le_of_ble_eq_true rfl) c2 c3 (Or.inr ⟨(ts_okP ⟨ts_okr c1, ts_oki, trivial⟩), (ts_okS trivial)⟩) W (fun r g4 hi5 hk6 W => ?_)
  obtain ⟨rfl, W⟩ := W
  obtain ⟨c7, W⟩ := W
  obtain ⟨c8, W⟩ := W
  exact ts_vret dX0_init_5 rfl c7 c8 W
set_option maxHeartbeats 4000000 in
theorem wX8_init_0 {d mc ms n0 : Nat} {g : ts_G} {Q : ts_Q} {o : Nat} {p0 : Int32} {hi : ts_I} {hk : ts_K} (W : (o ≤ g.1) ∧ (0 + 0 ≤ mc) ∧ (0 + 0 ≤ ms) ∧ ts_Ev d 0 0 mX0_init [.ref o, .int p0] g hi hk (fun r g4 hi5 hk6 => r = none ∧ (((0 + 0) ≤ mc) ∧ ((0 + 0) ≤ ms) ∧ Q none g4 hi5 hk6))) : ts_JJ (d + 1) mc ms mX8_init none n0 Q 0 0 0 [(0, .ref o), (1, .int p0)] [] g hi hk := by
  refine ts_aload_n 0 (pc' := 1) rfl dX8_init_0 rfl rfl ?_
  refine ts_iload_n 1 (pc' := 2) rfl dX8_init_1 rfl rfl ?_
  obtain ⟨c1, W⟩ := W
  obtain ⟨c2, W⟩ := W
  obtain ⟨c3, W⟩ := W
  refine ts_callI (M' := mX0_init) (mc' := 0) (ms' := 0) (pc' := 5) (av := [.int p0]) (b := o) rfl dX8_init_2 rfl gX8_init_X0_init rfl (by decide +kernel) (by decide +kernel) (by decide +kernel) rfl dsX0_init rfl (Nat.le_refl _) (Nat.le_of_ble_eq_true rfl) (Nat.le_of_ble_eq_true rfl) c2 c3 (Or.inr ⟨(ts_okP ⟨ts_okr c1, ts_oki, trivial⟩), (ts_okS trivial)⟩) W (fun r g4 hi5 hk6 W => ?_)
  obtain ⟨rfl, W⟩ := W
  obtain ⟨c7, W⟩ := W
  obtain ⟨c8, W⟩ := W
  exact ts_vret dX8_init_5 rfl c7 c8 W
theorem hnX6_init_X6 : ∀ w ∈ u_ws RX6 TX6 4, w ∈ wsX6_init := by decide +kernel
theorem flX6_init_9 : Cond.fieldLink RX6 9 "TurnipSquires$Row" "items" "[I" ∈ wsX6_init := by decide +kernel
set_option maxHeartbeats 4000000 in
theorem wX6_init_0 {d mc ms n0 : Nat} {g : ts_G} {Q : ts_Q} {o : Nat} {hi : ts_I} {hk : ts_K} (W : (o ≤ g.1) ∧ (0 + 1 ≤ mc) ∧ (0 + 40 ≤ ms) ∧ ∀ g4 : ts_G, g4 = ts_gn g 100 40 → ∀ hi5 : ts_I, hi5 = ts_zi hi (g.1 + 1) → ∀ hk6 : ts_K, hk6 = ts_zk hk (g.1 + 1) → (g4.2.1 o = 5) ∧ (g4.2.1 (g.1 + 1) < 200) ∧ ∀ g9 : ts_G, g9 = ts_go g4 o 0 (g.1 + 1) → ((0 + 1) ≤ mc) ∧ ((0 + 40) ≤ ms) ∧ Q none g9 hi5 hk6) : ts_JJ (d + 1) mc ms mX6_init none n0 Q 0 0 0 [(0, .ref o)] [] g hi hk := by
  refine ts_aload_n 0 (pc' := 1) rfl dX6_init_0 rfl rfl ?_
  refine ts_objI (pc' := 4) rfl dX6_init_1 (by decide +kernel) (by decide +kernel) (by decide +kernel) (Nat.le_add_left 1 _) (Nat.le_of_ble_eq_true rfl) ?_
  refine ts_aload_n 0 (pc' := 5) rfl dX6_init_4 rfl rfl ?_
  refine ts_bipush (v := 40) (pc' := 7) rfl dX6_init_5 (by decide) ?_
  obtain ⟨c1, W⟩ := W
  obtain ⟨c2, W⟩ := W
  obtain ⟨c3, W⟩ := W
  refine ts_newI (N := 40) (pc' := 9) rfl dX6_init_7 (by decide +kernel) (by decide) (by decide) (by decide) c2 c3 (ts_okP ⟨ts_okr c1, trivial⟩) (ts_okS ⟨ts_okr c1, trivial⟩) ?_
  obtain ⟨g4, eg4⟩ : ∃ z, z = ts_gn g 100 40 := ⟨_, rfl⟩
  obtain ⟨hi5, ehi5⟩ : ∃ z, z = ts_zi hi (g.1 + 1) := ⟨_, rfl⟩
  obtain ⟨hk6, ehk6⟩ : ∃ z, z = ts_zk hk (g.1 + 1) := ⟨_, rfl⟩
  rw [← eg4, ← ehi5, ← ehk6]; replace W := W g4 eg4 hi5 ehi5 hk6 ehk6
  obtain ⟨c7, W⟩ := W
  obtain ⟨c8, W⟩ := W
  refine ts_putR (pc' := 12) (ft := (.array .int)) (ci := 5) 0 cfX6.1 cfX6.2.1 cfX6.2.2 rfl (by decide) hnX6_init_X6 flX6_init_9 tyX6_ok nmX6 rfl rfl (fun _ => ⟨rfl, rfl⟩) rfl rfl rfl dX6_init_9 c7 c8 ?_
  obtain ⟨g9, eg9⟩ : ∃ z, z = ts_go g4 o 0 (g.1 + 1) := ⟨_, rfl⟩
  rw [← eg9]; replace W := W g9 eg9
  obtain ⟨c10, W⟩ := W
  obtain ⟨c11, W⟩ := W
  exact ts_vret dX6_init_12 rfl c10 c11 W
theorem hnX9_init_X9 : ∀ w ∈ u_ws RX9 TX9 5, w ∈ wsX9_init := by decide +kernel
theorem flX9_init_9 : Cond.fieldLink RX9 9 "TurnipSquires$Tape" "bytes" "[I" ∈ wsX9_init := by decide +kernel
set_option maxHeartbeats 4000000 in
theorem wX9_init_0 {d mc ms n0 : Nat} {g : ts_G} {Q : ts_Q} {o : Nat} {hi : ts_I} {hk : ts_K} (W : (o ≤ g.1) ∧ (0 + 1 ≤ mc) ∧ (0 + 90 ≤ ms) ∧ ∀ g4 : ts_G, g4 = ts_gn g 100 90 → ∀ hi5 : ts_I, hi5 = ts_zi hi (g.1 + 1) → ∀ hk6 : ts_K, hk6 = ts_zk hk (g.1 + 1) → (g4.2.1 o = 8) ∧ (g4.2.1 (g.1 + 1) < 200) ∧ ∀ g9 : ts_G, g9 = ts_go g4 o 0 (g.1 + 1) → ((0 + 1) ≤ mc) ∧ ((0 + 90) ≤ ms) ∧ Q none g9 hi5 hk6) : ts_JJ (d + 1) mc ms mX9_init none n0 Q 0 0 0 [(0, .ref o)] [] g hi hk := by
  refine ts_aload_n 0 (pc' := 1) rfl dX9_init_0 rfl rfl ?_
  refine ts_objI (pc' := 4) rfl dX9_init_1 (by decide +kernel) (by decide +kernel) (by decide +kernel) (Nat.le_add_left 1 _) (Nat.le_of_ble_eq_true rfl) ?_
  refine ts_aload_n 0 (pc' := 5) rfl dX9_init_4 rfl rfl ?_
  refine ts_bipush (v := 90) (pc' := 7) rfl dX9_init_5 (by decide) ?_
  obtain ⟨c1, W⟩ := W
  obtain ⟨c2, W⟩ := W
  obtain ⟨c3, W⟩ := W
  refine ts_newI (N := 90) (pc' := 9) rfl dX9_init_7 (by decide +kernel) (by decide) (by decide) (by decide) c2 c3 (ts_okP ⟨ts_okr c1, trivial⟩) (ts_okS ⟨ts_okr c1, trivial⟩) ?_
  obtain ⟨g4, eg4⟩ : ∃ z, z = ts_gn g 100 90 := ⟨_, rfl⟩
  obtain ⟨hi5, ehi5⟩ : ∃ z, z = ts_zi hi (g.1 + 1) := ⟨_, rfl⟩
  obtain ⟨hk6, ehk6⟩ : ∃ z, z = ts_zk hk (g.1 + 1) := ⟨_, rfl⟩
  rw [← eg4, ← ehi5, ← ehk6]; replace W := W g4 eg4 hi5 ehi5 hk6 ehk6
  obtain ⟨c7, W⟩ := W
  obtain ⟨c8, W⟩ := W
  refine ts_putR (pc' := 12) (ft := (.array .int)) (ci := 8) 0 cfX9.1 cfX9.2.1 cfX9.2.2 rfl (by decide) hnX9_init_X9 flX9_init_9 tyX9_ok nmX9 rfl rfl (fun _ => ⟨rfl, rfl⟩) rfl rfl rfl dX9_init_9 c7 c8 ?_
  obtain ⟨g9, eg9⟩ : ∃ z, z = ts_go g4 o 0 (g.1 + 1) := ⟨_, rfl⟩
  rw [← eg9]; replace W := W g9 eg9
  obtain ⟨c10, W⟩ := W
  obtain ⟨c11, W⟩ := W
  exact ts_vret dX9_init_12 rfl c10 c11 W
theorem hnX10_init_X10 : ∀ w ∈ u_ws RX10 TX10 2, w ∈ wsX10_init := by decide +kernel
theorem flX10_init_9 : Cond.fieldLink RX10 9 "TurnipSquires$Trace" "numbers" "[I" ∈ wsX10_init := by decide +kernel
set_option maxHeartbeats 4000000 in
theorem wX10_init_0 {d mc ms n0 : Nat} {g : ts_G} {Q : ts_Q} {o : Nat} {hi : ts_I} {hk : ts_K} (W : (o ≤ g.1) ∧ (0 + 1 ≤ mc) ∧ (0 + 16 ≤ ms) ∧ ∀ g4 : ts_G, g4 = ts_gn g 100 16 → ∀ hi5 : ts_I, hi5 = ts_zi hi (g.1 + 1) → ∀ hk6 : ts_K, hk6 = ts_zk hk (g.1 + 1) → (g4.2.1 o = 9) ∧ (g4.2.1 (g.1 + 1) < 200) ∧ ∀ g9 : ts_G, g9 = ts_go g4 o 0 (g.1 + 1) → ((0 + 1) ≤ mc) ∧ ((0 + 16) ≤ ms) ∧ Q none g9 hi5 hk6) : ts_JJ (d + 1) mc ms mX10_init none n0 Q 0 0 0 [(0, .ref o)] [] g hi hk := by
  refine ts_aload_n 0 (pc' := 1) rfl dX10_init_0 rfl rfl ?_
  refine ts_objI (pc' := 4) rfl dX10_init_1 (by decide +kernel) (by decide +kernel) (by decide +kernel) (Nat.le_add_left 1 _) (Nat.le_of_ble_eq_true rfl) ?_
  refine ts_aload_n 0 (pc' := 5) rfl dX10_init_4 rfl rfl ?_
  refine ts_bipush (v := 16) (pc' := 7) rfl dX10_init_5 (by decide) ?_
  obtain ⟨c1, W⟩ := W
  obtain ⟨c2, W⟩ := W
  obtain ⟨c3, W⟩ := W
  refine ts_newI (N := 16) (pc' := 9) rfl dX10_init_7 (by decide +kernel) (by decide) (by decide) (by decide) c2 c3 (ts_okP ⟨ts_okr c1, trivial⟩) (ts_okS ⟨ts_okr c1, trivial⟩) ?_
  obtain ⟨g4, eg4⟩ : ∃ z, z = ts_gn g 100 16 := ⟨_, rfl⟩
  obtain ⟨hi5, ehi5⟩ : ∃ z, z = ts_zi hi (g.1 + 1) := ⟨_, rfl⟩
  obtain ⟨hk6, ehk6⟩ : ∃ z, z = ts_zk hk (g.1 + 1) := ⟨_, rfl⟩
  rw [← eg4, ← ehi5, ← ehk6]; replace W := W g4 eg4 hi5 ehi5 hk6 ehk6
  obtain ⟨c7, W⟩ := W
  obtain ⟨c8, W⟩ := W
  refine ts_putR (pc' := 12) (ft := (.array .int)) (ci := 9) 0 cfX10.1 cfX10.2.1 cfX10.2.2 rfl (by decide) hnX10_init_X10 flX10_init_9 tyX10_ok nmX10 rfl rfl (fun _ => ⟨rfl, rfl⟩) rfl rfl rfl dX10_init_9 c7 c8 ?_
  obtain ⟨g9, eg9⟩ : ∃ z, z = ts_go g4 o 0 (g.1 + 1) := ⟨_, rfl⟩
  rw [← eg9]; replace W := W g9 eg9
  obtain ⟨c10, W⟩ := W
  obtain ⟨c11, W⟩ := W
  exact ts_vret dX10_init_12 rfl c10 c11 W
theorem hnX1_init_X1 : ∀ w ∈ u_ws RX1 TX1 13, w ∈ wsX1_init := by decide +kernel
theorem flX1_init_11 : Cond.fieldLink RX1 11 "TurnipSquires$Field" "kind" "[LTurnipSquires$Kind;" ∈ wsX1_init := by decide +kernel
theorem flX1_init_17 : Cond.fieldLink RX1 17 "TurnipSquires$Field" "rank" "[I" ∈ wsX1_init := by decide +kernel
theorem flX1_init_21 : Cond.fieldLink RX1 21 "TurnipSquires$Field" "grown" "[I" ∈ wsX1_init := by decide +kernel
theorem flX1_init_24 : Cond.fieldLink RX1 24 "TurnipSquires$Field" "lean" "[I" ∈ wsX1_init := by decide +kernel
theorem flX1_init_27 : Cond.fieldLink RX1 27 "TurnipSquires$Field" "mate" "[I" ∈ wsX1_init := by decide +kernel
theorem flX1_init_30 : Cond.fieldLink RX1 30 "TurnipSquires$Field" "place" "[I" ∈ wsX1_init := by decide +kernel
theorem flX1_init_33 : Cond.fieldLink RX1 33 "TurnipSquires$Field" "at" "[I" ∈ wsX1_init := by decide +kernel
theorem flX1_init_36 : Cond.fieldLink RX1 36 "TurnipSquires$Field" "gain" "[I" ∈ wsX1_init := by decide +kernel
theorem flX1_init_39 : Cond.fieldLink RX1 39 "TurnipSquires$Field" "higher" "[I" ∈ wsX1_init := by decide +kernel
set_option maxHeartbeats 4000000 in
theorem wX1_init_0 {d mc ms n0 : Nat} {g : ts_G} {Q : ts_Q} {o : Nat} {p0 : Nat} {hi : ts_I} {hk : ts_K} (W : (o ≤ g.1) ∧ (p0 ≤ g.1) ∧ (0 + 1 ≤ mc) ∧ (0 + 7 ≤ ms) ∧ ∀ g5 : ts_G, g5 = ts_gn g 103 7 → ∀ hi6 : ts_I, hi6 = ts_zi hi (g.1 + 1) → ∀ hk7 : ts_K, hk7 = ts_zk hk (g.1 + 1) → (g5.2.1 o = 1) ∧ (g5.2.1 (g.1 + 1) < 200) ∧ ∀ g10 : ts_G, g10 = ts_go g5 o 0 (g.1 + 1) → (o ≤ g10.1) ∧ (p0 ≤ g10.1) ∧ ((0 + 1) + 1 ≤ mc) ∧ ((0 + 7) + 7 ≤ ms) ∧ ∀ g15 : ts_G, g15 = ts_gn g10 100 7 → ∀ hi16 : ts_I, hi16 = ts_zi hi6 (g10.1 + 1) → ∀ hk17 : ts_K, hk17 = ts_zk hk7 (g10.1 + 1) → (g15.2.1 o = 1) ∧ (g15.2.1 (g10.1 + 1) < 200) ∧ ∀ g20 : ts_G, g20 = ts_go g15 o 1 (g10.1 + 1) → (o ≤ g20.1) ∧ (p0 ≤ g20.1) ∧ (((0 + 1) + 1) + 1 ≤ mc) ∧ (((0 + 7) + 7) + 7 ≤ ms) ∧ ∀ g25 : ts_G, g25 = ts_gn g20 100 7 → ∀ hi26 : ts_I, hi26 = ts_zi hi16 (g20.1 + 1) → ∀ hk27 : ts_K, hk27 = ts_zk hk17 (g20.1 + 1) → (g25.2.1 o = 1) ∧ (g25.2.1 (g20.1 + 1) < 200) ∧ ∀ g30 : ts_G, g30 = ts_go g25 o 2 (g20.1 + 1) → (o ≤ g30.1) ∧ (p0 ≤ g30.1) ∧ ((((0 + 1) + 1) + 1) + 1 ≤ mc) ∧ ((((0 + 7) + 7) + 7) + 7 ≤ ms) ∧ ∀ g35 : ts_G, g35 = ts_gn g30 100 7 → ∀ hi36 : ts_I, hi36 = ts_zi hi26 (g30.1 + 1) → ∀ hk37 : ts_K, hk37 = ts_zk hk27 (g30.1 + 1) → (g35.2.1 o = 1) ∧ (g35.2.1 (g30.1 + 1) < 200) ∧ ∀ g40 : ts_G, g40 = ts_go g35 o 3 (g30.1 + 1) → (o ≤ g40.1) ∧ (p0 ≤ g40.1) ∧ (((((0 + 1) + 1) + 1) + 1) + 1 ≤ mc) ∧ (((((0 + 7) + 7) + 7) + 7) + 7 ≤ ms) ∧ ∀ g45 : ts_G, g45 = ts_gn g40 100 7 → ∀ hi46 : ts_I, hi46 = ts_zi hi36 (g40.1 + 1) → ∀ hk47 : ts_K, hk47 = ts_zk hk37 (g40.1 + 1) → (g45.2.1 o = 1) ∧ (g45.2.1 (g40.1 + 1) < 200) ∧ ∀ g50 : ts_G, g50 = ts_go g45 o 4 (g40.1 + 1) → (o ≤ g50.1) ∧ (p0 ≤ g50.1) ∧ ((((((0 + 1) + 1) + 1) + 1) + 1) + 1 ≤ mc) ∧ ((((((0 + 7) + 7) + 7) + 7) + 7) + 7 ≤ ms) ∧ ∀ g55 : ts_G, g55 = ts_gn g50 100 7 → ∀ hi56 : ts_I, hi56 = ts_zi hi46 (g50.1 + 1) → ∀ hk57 : ts_K, hk57 = ts_zk hk47 (g50.1 + 1) → (g55.2.1 o = 1) ∧ (g55.2.1 (g50.1 + 1) < 200) ∧ ∀ g60 : ts_G, g60 = ts_go g55 o 5 (g50.1 + 1) → (o ≤ g60.1) ∧ (p0 ≤ g60.1) ∧ (((((((0 + 1) + 1) + 1) + 1) + 1) + 1) + 1 ≤ mc) ∧ (((((((0 + 7) + 7) + 7) + 7) + 7) + 7) + 7 ≤ ms) ∧ ∀ g65 : ts_G, g65 = ts_gn g60 100 7 → ∀ hi66 : ts_I, hi66 = ts_zi hi56 (g60.1 + 1) → ∀ hk67 : ts_K, hk67 = ts_zk hk57 (g60.1 + 1) → (g65.2.1 o = 1) ∧ (g65.2.1 (g60.1 + 1) < 200) ∧ ∀ g70 : ts_G, g70 = ts_go g65 o 6 (g60.1 + 1) → (o ≤ g70.1) ∧ (p0 ≤ g70.1) ∧ ((((((((0 + 1) + 1) + 1) + 1) + 1) + 1) + 1) + 1 ≤ mc) ∧ ((((((((0 + 7) + 7) + 7) + 7) + 7) + 7) + 7) + 7 ≤ ms) ∧ ∀ g75 : ts_G, g75 = ts_gn g70 100 7 → ∀ hi76 : ts_I, hi76 = ts_zi hi66 (g70.1 + 1) → ∀ hk77 : ts_K, hk77 = ts_zk hk67 (g70.1 + 1) → (g75.2.1 o = 1) ∧ (g75.2.1 (g70.1 + 1) < 200) ∧ ∀ g80 : ts_G, g80 = ts_go g75 o 7 (g70.1 + 1) → (o ≤ g80.1) ∧ (p0 ≤ g80.1) ∧ (((((((((0 + 1) + 1) + 1) + 1) + 1) + 1) + 1) + 1) + 1 ≤ mc) ∧ (((((((((0 + 7) + 7) + 7) + 7) + 7) + 7) + 7) + 7) + 7 ≤ ms) ∧ ∀ g85 : ts_G, g85 = ts_gn g80 100 7 → ∀ hi86 : ts_I, hi86 = ts_zi hi76 (g80.1 + 1) → ∀ hk87 : ts_K, hk87 = ts_zk hk77 (g80.1 + 1) → (g85.2.1 o = 1) ∧ (g85.2.1 (g80.1 + 1) < 200) ∧ ∀ g90 : ts_G, g90 = ts_go g85 o 8 (g80.1 + 1) → ts_JJ (d + 1) mc ms mX1_init none n0 Q (((((((((0 + 1) + 1) + 1) + 1) + 1) + 1) + 1) + 1) + 1) (((((((((0 + 7) + 7) + 7) + 7) + 7) + 7) + 7) + 7) + 7) 79 [(0, .ref o), (1, .ref p0), (2, .int 0)] [] g90 hi86 hk87) : ts_JJ (d + 1) mc ms mX1_init none n0 Q 0 0 0 [(0, .ref o), (1, .ref p0)] [] g hi hk := by
  refine ts_aload_n 0 (pc' := 1) rfl dX1_init_0 rfl rfl ?_
  refine ts_objI (pc' := 4) rfl dX1_init_1 (by decide +kernel) (by decide +kernel) (by decide +kernel) (Nat.le_add_left 1 _) (Nat.le_of_ble_eq_true rfl) ?_
  refine ts_aload_n 0 (pc' := 5) rfl dX1_init_4 rfl rfl ?_
  refine ts_bipush (v := 7) (pc' := 7) rfl dX1_init_5 (by decide) ?_
  obtain ⟨c1, W⟩ := W
  obtain ⟨c2, W⟩ := W
  obtain ⟨c3, W⟩ := W
  obtain ⟨c4, W⟩ := W
  refine ts_newK (N := 7) (pc' := 10) rfl dX1_init_7 (by decide +kernel) (by decide) (by decide) (by decide) c3 c4 (ts_okP ⟨ts_okr c1, ts_okr c2, trivial⟩) (ts_okS ⟨ts_okr c1, trivial⟩) ?_
  obtain ⟨g5, eg5⟩ : ∃ z, z = ts_gn g 103 7 := ⟨_, rfl⟩
  obtain ⟨hi6, ehi6⟩ : ∃ z, z = ts_zi hi (g.1 + 1) := ⟨_, rfl⟩
  obtain ⟨hk7, ehk7⟩ : ∃ z, z = ts_zk hk (g.1 + 1) := ⟨_, rfl⟩
  rw [← eg5, ← ehi6, ← ehk7]; replace W := W g5 eg5 hi6 ehi6 hk7 ehk7
  obtain ⟨c8, W⟩ := W
  obtain ⟨c9, W⟩ := W
  refine ts_putR (pc' := 13) (ft := (.array (.object "TurnipSquires$Kind"))) (ci := 1) 0 cfX1.1 cfX1.2.1 cfX1.2.2 rfl (by decide) hnX1_init_X1 flX1_init_11 tyX1_ok nmX1 rfl rfl (fun _ => ⟨rfl, rfl⟩) rfl rfl rfl dX1_init_10 c8 c9 ?_
  obtain ⟨g10, eg10⟩ : ∃ z, z = ts_go g5 o 0 (g.1 + 1) := ⟨_, rfl⟩
  rw [← eg10]; replace W := W g10 eg10
  refine ts_aload_n 0 (pc' := 14) rfl dX1_init_13 rfl rfl ?_
  refine ts_bipush (v := 7) (pc' := 16) rfl dX1_init_14 (by decide) ?_
  obtain ⟨c11, W⟩ := W
  obtain ⟨c12, W⟩ := W
  obtain ⟨c13, W⟩ := W
  obtain ⟨c14, W⟩ := W
  refine ts_newI (N := 7) (pc' := 18) rfl dX1_init_16 (by decide +kernel) (by decide) (by decide) (by decide) c13 c14 (ts_okP ⟨ts_okr c11, ts_okr c12, trivial⟩) (ts_okS ⟨ts_okr c11, trivial⟩) ?_
  obtain ⟨g15, eg15⟩ : ∃ z, z = ts_gn g10 100 7 := ⟨_, rfl⟩
  obtain ⟨hi16, ehi16⟩ : ∃ z, z = ts_zi hi6 (g10.1 + 1) := ⟨_, rfl⟩
  obtain ⟨hk17, ehk17⟩ : ∃ z, z = ts_zk hk7 (g10.1 + 1) := ⟨_, rfl⟩
  rw [← eg15, ← ehi16, ← ehk17]; replace W := W g15 eg15 hi16 ehi16 hk17 ehk17
  obtain ⟨c18, W⟩ := W
  obtain ⟨c19, W⟩ := W
  refine ts_putR (pc' := 21) (ft := (.array .int)) (ci := 1) 1 cfX1.1 cfX1.2.1 cfX1.2.2 rfl (by decide) hnX1_init_X1 flX1_init_17 tyX1_ok nmX1 rfl rfl (fun _ => ⟨rfl, rfl⟩) rfl rfl rfl dX1_init_18 c18 c19 ?_
  obtain ⟨g20, eg20⟩ : ∃ z, z = ts_go g15 o 1 (g10.1 + 1) := ⟨_, rfl⟩
  rw [← eg20]; replace W := W g20 eg20
  refine ts_aload_n 0 (pc' := 22) rfl dX1_init_21 rfl rfl ?_
  refine ts_bipush (v := 7) (pc' := 24) rfl dX1_init_22 (by decide) ?_
  obtain ⟨c21, W⟩ := W
  obtain ⟨c22, W⟩ := W
  obtain ⟨c23, W⟩ := W
  obtain ⟨c24, W⟩ := W
  refine ts_newI (N := 7) (pc' := 26) rfl dX1_init_24 (by decide +kernel) (by decide) (by decide) (by decide) c23 c24 (ts_okP ⟨ts_okr c21, ts_okr c22, trivial⟩) (ts_okS ⟨ts_okr c21, trivial⟩) ?_
  obtain ⟨g25, eg25⟩ : ∃ z, z = ts_gn g20 100 7 := ⟨_, rfl⟩
  obtain ⟨hi26, ehi26⟩ : ∃ z, z = ts_zi hi16 (g20.1 + 1) := ⟨_, rfl⟩
  obtain ⟨hk27, ehk27⟩ : ∃ z, z = ts_zk hk17 (g20.1 + 1) := ⟨_, rfl⟩
  rw [← eg25, ← ehi26, ← ehk27]; replace W := W g25 eg25 hi26 ehi26 hk27 ehk27
  obtain ⟨c28, W⟩ := W
  obtain ⟨c29, W⟩ := W
  refine ts_putR (pc' := 29) (ft := (.array .int)) (ci := 1) 2 cfX1.1 cfX1.2.1 cfX1.2.2 rfl (by decide) hnX1_init_X1 flX1_init_21 tyX1_ok nmX1 rfl rfl (fun _ => ⟨rfl, rfl⟩) rfl rfl rfl dX1_init_26 c28 c29 ?_
  obtain ⟨g30, eg30⟩ : ∃ z, z = ts_go g25 o 2 (g20.1 + 1) := ⟨_, rfl⟩
  rw [← eg30]; replace W := W g30 eg30
  refine ts_aload_n 0 (pc' := 30) rfl dX1_init_29 rfl rfl ?_
  refine ts_bipush (v := 7) (pc' := 32) rfl dX1_init_30 (by decide) ?_
  obtain ⟨c31, W⟩ := W
  obtain ⟨c32, W⟩ := W
  obtain ⟨c33, W⟩ := W
  obtain ⟨c34, W⟩ := W
  refine ts_newI (N := 7) (pc' := 34) rfl dX1_init_32 (by decide +kernel) (by decide) (by decide) (by decide) c33 c34 (ts_okP ⟨ts_okr c31, ts_okr c32, trivial⟩) (ts_okS ⟨ts_okr c31, trivial⟩) ?_
  obtain ⟨g35, eg35⟩ : ∃ z, z = ts_gn g30 100 7 := ⟨_, rfl⟩
  obtain ⟨hi36, ehi36⟩ : ∃ z, z = ts_zi hi26 (g30.1 + 1) := ⟨_, rfl⟩
  obtain ⟨hk37, ehk37⟩ : ∃ z, z = ts_zk hk27 (g30.1 + 1) := ⟨_, rfl⟩
  rw [← eg35, ← ehi36, ← ehk37]; replace W := W g35 eg35 hi36 ehi36 hk37 ehk37
  obtain ⟨c38, W⟩ := W
  obtain ⟨c39, W⟩ := W
  refine ts_putR (pc' := 37) (ft := (.array .int)) (ci := 1) 3 cfX1.1 cfX1.2.1 cfX1.2.2 rfl (by decide) hnX1_init_X1 flX1_init_24 tyX1_ok nmX1 rfl rfl (fun _ => ⟨rfl, rfl⟩) rfl rfl rfl dX1_init_34 c38 c39 ?_
  obtain ⟨g40, eg40⟩ : ∃ z, z = ts_go g35 o 3 (g30.1 + 1) := ⟨_, rfl⟩
  rw [← eg40]; replace W := W g40 eg40
  refine ts_aload_n 0 (pc' := 38) rfl dX1_init_37 rfl rfl ?_
  refine ts_bipush (v := 7) (pc' := 40) rfl dX1_init_38 (by decide) ?_
  obtain ⟨c41, W⟩ := W
  obtain ⟨c42, W⟩ := W
  obtain ⟨c43, W⟩ := W
  obtain ⟨c44, W⟩ := W
  refine ts_newI (N := 7) (pc' := 42) rfl dX1_init_40 (by decide +kernel) (by decide) (by decide) (by decide) c43 c44 (ts_okP ⟨ts_okr c41, ts_okr c42, trivial⟩) (ts_okS ⟨ts_okr c41, trivial⟩) ?_
  obtain ⟨g45, eg45⟩ : ∃ z, z = ts_gn g40 100 7 := ⟨_, rfl⟩
  obtain ⟨hi46, ehi46⟩ : ∃ z, z = ts_zi hi36 (g40.1 + 1) := ⟨_, rfl⟩
  obtain ⟨hk47, ehk47⟩ : ∃ z, z = ts_zk hk37 (g40.1 + 1) := ⟨_, rfl⟩
  rw [← eg45, ← ehi46, ← ehk47]; replace W := W g45 eg45 hi46 ehi46 hk47 ehk47
  obtain ⟨c48, W⟩ := W
  obtain ⟨c49, W⟩ := W
  refine ts_putR (pc' := 45) (ft := (.array .int)) (ci := 1) 4 cfX1.1 cfX1.2.1 cfX1.2.2 rfl (by decide) hnX1_init_X1 flX1_init_27 tyX1_ok nmX1 rfl rfl (fun _ => ⟨rfl, rfl⟩) rfl rfl rfl dX1_init_42 c48 c49 ?_
  obtain ⟨g50, eg50⟩ : ∃ z, z = ts_go g45 o 4 (g40.1 + 1) := ⟨_, rfl⟩
  rw [← eg50]; replace W := W g50 eg50
  refine ts_aload_n 0 (pc' := 46) rfl dX1_init_45 rfl rfl ?_
  refine ts_bipush (v := 7) (pc' := 48) rfl dX1_init_46 (by decide) ?_
  obtain ⟨c51, W⟩ := W
  obtain ⟨c52, W⟩ := W
  obtain ⟨c53, W⟩ := W
  obtain ⟨c54, W⟩ := W
  refine ts_newI (N := 7) (pc' := 50) rfl dX1_init_48 (by decide +kernel) (by decide) (by decide) (by decide) c53 c54 (ts_okP ⟨ts_okr c51, ts_okr c52, trivial⟩) (ts_okS ⟨ts_okr c51, trivial⟩) ?_
  obtain ⟨g55, eg55⟩ : ∃ z, z = ts_gn g50 100 7 := ⟨_, rfl⟩
  obtain ⟨hi56, ehi56⟩ : ∃ z, z = ts_zi hi46 (g50.1 + 1) := ⟨_, rfl⟩
  obtain ⟨hk57, ehk57⟩ : ∃ z, z = ts_zk hk47 (g50.1 + 1) := ⟨_, rfl⟩
  rw [← eg55, ← ehi56, ← ehk57]; replace W := W g55 eg55 hi56 ehi56 hk57 ehk57
  obtain ⟨c58, W⟩ := W
  obtain ⟨c59, W⟩ := W
  refine ts_putR (pc' := 53) (ft := (.array .int)) (ci := 1) 5 cfX1.1 cfX1.2.1 cfX1.2.2 rfl (by decide) hnX1_init_X1 flX1_init_30 tyX1_ok nmX1 rfl rfl (fun _ => ⟨rfl, rfl⟩) rfl rfl rfl dX1_init_50 c58 c59 ?_
  obtain ⟨g60, eg60⟩ : ∃ z, z = ts_go g55 o 5 (g50.1 + 1) := ⟨_, rfl⟩
  rw [← eg60]; replace W := W g60 eg60
  refine ts_aload_n 0 (pc' := 54) rfl dX1_init_53 rfl rfl ?_
  refine ts_bipush (v := 7) (pc' := 56) rfl dX1_init_54 (by decide) ?_
  obtain ⟨c61, W⟩ := W
  obtain ⟨c62, W⟩ := W
  obtain ⟨c63, W⟩ := W
  obtain ⟨c64, W⟩ := W
  refine ts_newI (N := 7) (pc' := 58) rfl dX1_init_56 (by decide +kernel) (by decide) (by decide) (by decide) c63 c64 (ts_okP ⟨ts_okr c61, ts_okr c62, trivial⟩) (ts_okS ⟨ts_okr c61, trivial⟩) ?_
  obtain ⟨g65, eg65⟩ : ∃ z, z = ts_gn g60 100 7 := ⟨_, rfl⟩
  obtain ⟨hi66, ehi66⟩ : ∃ z, z = ts_zi hi56 (g60.1 + 1) := ⟨_, rfl⟩
  obtain ⟨hk67, ehk67⟩ : ∃ z, z = ts_zk hk57 (g60.1 + 1) := ⟨_, rfl⟩
  rw [← eg65, ← ehi66, ← ehk67]; replace W := W g65 eg65 hi66 ehi66 hk67 ehk67
  obtain ⟨c68, W⟩ := W
  obtain ⟨c69, W⟩ := W
  refine ts_putR (pc' := 61) (ft := (.array .int)) (ci := 1) 6 cfX1.1 cfX1.2.1 cfX1.2.2 rfl (by decide) hnX1_init_X1 flX1_init_33 tyX1_ok nmX1 rfl rfl (fun _ => ⟨rfl, rfl⟩) rfl rfl rfl dX1_init_58 c68 c69 ?_
  obtain ⟨g70, eg70⟩ : ∃ z, z = ts_go g65 o 6 (g60.1 + 1) := ⟨_, rfl⟩
  rw [← eg70]; replace W := W g70 eg70
  refine ts_aload_n 0 (pc' := 62) rfl dX1_init_61 rfl rfl ?_
  refine ts_bipush (v := 7) (pc' := 64) rfl dX1_init_62 (by decide) ?_
  obtain ⟨c71, W⟩ := W
  obtain ⟨c72, W⟩ := W
  obtain ⟨c73, W⟩ := W
  obtain ⟨c74, W⟩ := W
  refine ts_newI (N := 7) (pc' := 66) rfl dX1_init_64 (by decide +kernel) (by decide) (by decide) (by decide) c73 c74 (ts_okP ⟨ts_okr c71, ts_okr c72, trivial⟩) (ts_okS ⟨ts_okr c71, trivial⟩) ?_
  obtain ⟨g75, eg75⟩ : ∃ z, z = ts_gn g70 100 7 := ⟨_, rfl⟩
  obtain ⟨hi76, ehi76⟩ : ∃ z, z = ts_zi hi66 (g70.1 + 1) := ⟨_, rfl⟩
  obtain ⟨hk77, ehk77⟩ : ∃ z, z = ts_zk hk67 (g70.1 + 1) := ⟨_, rfl⟩
  rw [← eg75, ← ehi76, ← ehk77]; replace W := W g75 eg75 hi76 ehi76 hk77 ehk77
  obtain ⟨c78, W⟩ := W
  obtain ⟨c79, W⟩ := W
  refine ts_putR (pc' := 69) (ft := (.array .int)) (ci := 1) 7 cfX1.1 cfX1.2.1 cfX1.2.2 rfl (by decide) hnX1_init_X1 flX1_init_36 tyX1_ok nmX1 rfl rfl (fun _ => ⟨rfl, rfl⟩) rfl rfl rfl dX1_init_66 c78 c79 ?_
  obtain ⟨g80, eg80⟩ : ∃ z, z = ts_go g75 o 7 (g70.1 + 1) := ⟨_, rfl⟩
  rw [← eg80]; replace W := W g80 eg80
  refine ts_aload_n 0 (pc' := 70) rfl dX1_init_69 rfl rfl ?_
  refine ts_bipush (v := 7) (pc' := 72) rfl dX1_init_70 (by decide) ?_
  obtain ⟨c81, W⟩ := W
  obtain ⟨c82, W⟩ := W
  obtain ⟨c83, W⟩ := W
  obtain ⟨c84, W⟩ := W
  refine ts_newI (N := 7) (pc' := 74) rfl dX1_init_72 (by decide +kernel) (by decide) (by decide) (by decide) c83 c84 (ts_okP ⟨ts_okr c81, ts_okr c82, trivial⟩) (ts_okS ⟨ts_okr c81, trivial⟩) ?_
  obtain ⟨g85, eg85⟩ : ∃ z, z = ts_gn g80 100 7 := ⟨_, rfl⟩
  obtain ⟨hi86, ehi86⟩ : ∃ z, z = ts_zi hi76 (g80.1 + 1) := ⟨_, rfl⟩
  obtain ⟨hk87, ehk87⟩ : ∃ z, z = ts_zk hk77 (g80.1 + 1) := ⟨_, rfl⟩
  rw [← eg85, ← ehi86, ← ehk87]; replace W := W g85 eg85 hi86 ehi86 hk87 ehk87
  obtain ⟨c88, W⟩ := W
  obtain ⟨c89, W⟩ := W
  refine ts_putR (pc' := 77) (ft := (.array .int)) (ci := 1) 8 cfX1.1 cfX1.2.1 cfX1.2.2 rfl (by decide) hnX1_init_X1 flX1_init_39 tyX1_ok nmX1 rfl rfl (fun _ => ⟨rfl, rfl⟩) rfl rfl rfl dX1_init_74 c88 c89 ?_
  obtain ⟨g90, eg90⟩ : ∃ z, z = ts_go g85 o 8 (g80.1 + 1) := ⟨_, rfl⟩
  rw [← eg90]; replace W := W g90 eg90
  refine ts_iconst (v := 0) (pc' := 78) rfl dX1_init_77 (by decide) ?_
  refine ts_istore_n (pc' := 79) (ls' := [(2, .int 0), (0, .ref o), (1, .ref p0)]) rfl dX1_init_78 rfl (Nat.le_of_ble_eq_true rfl) rfl ?_
  exact ts_lsub [1, 2, 0] rfl W
set_option maxHeartbeats 4000000 in
theorem wX1_init_79 {d mc ms n0 : Nat} {g : ts_G} {Q : ts_Q} {l0 : Nat} {l1 : Nat} {l2 : Int32} {k j : Nat} {hi : ts_I} {hk : ts_K} (W : ((7 ≤ l2) → (k ≤ mc) ∧ (j ≤ ms) ∧ Q none g hi hk) ∧ (¬ (7 ≤ l2) → (g.2.1 l0 = 1) ∧ (g.2.2.2 l0 0 ≠ 0) ∧ (g.2.1 (g.2.2.2 l0 0) = 103) ∧ (vp_in l2 (g.2.2.1 (g.2.2.2 l0 0))) ∧ (g.2.1 l1 = 0 ∨ g.2.1 l1 = 2 ∨ g.2.1 l1 = 3 ∨ g.2.1 l1 = 4 ∨ g.2.1 l1 = 7) ∧ ∀ hk9 : ts_K, hk9 = ts_uk hk (g.2.2.2 l0 0) l2.toNatClampNeg l1 → ts_JJ (d + 1) mc ms mX1_init none n0 Q k j 79 [(0, .ref l0), (1, .ref l1), (2, .int (l2 + 1))] [] g hi hk9)) : ts_JJ (d + 1) mc ms mX1_init none n0 Q k j 79 [(0, .ref l0), (1, .ref l1), (2, .int l2)] [] g hi hk := by
  refine ts_iload_n 2 (pc' := 80) rfl dX1_init_79 rfl rfl ?_
  refine ts_bipush (v := 7) (pc' := 82) rfl dX1_init_80 (by decide) ?_
  refine ts_icmp_ge (pc' := 85) (tgt := 98) rfl dX1_init_82 (by decide) (fun q1 => ?_) (fun q1 => ?_)
  · replace W := W.1 q1
    obtain ⟨c2, W⟩ := W
    obtain ⟨c3, W⟩ := W
    exact ts_vret dX1_init_98 rfl c2 c3 W
  · replace W := W.2 q1
    refine ts_aload_n 0 (pc' := 86) rfl dX1_init_85 rfl rfl ?_
    obtain ⟨c4, W⟩ := W
    obtain ⟨c5, W⟩ := W
    refine ts_getR (pc' := 89) (ci := 1) 0 cfX1.1 cfX1.2.1 cfX1.2.2 rfl (by decide) hnX1_init_X1 flX1_init_11 rfl dX1_init_86 c4 c5 ?_
    refine ts_iload_n 2 (pc' := 90) rfl dX1_init_89 rfl rfl ?_
    refine ts_aload_n 1 (pc' := 91) rfl dX1_init_90 rfl rfl ?_
    obtain ⟨c6, W⟩ := W
    obtain ⟨c7, W⟩ := W
    obtain ⟨c8, W⟩ := W
    refine ts_astoreKind (pc' := 92) rfl dX1_init_91 c6 c7 c8 ?_
    obtain ⟨hk9, ehk9⟩ : ∃ z, z = ts_uk hk (g.2.2.2 l0 0) l2.toNatClampNeg l1 := ⟨_, rfl⟩
    rw [← ehk9]; replace W := W hk9 ehk9
    refine ts_iinc 2 (pc' := 95) (ls' := [(2, .int (l2 + 1)), (0, .ref l0), (1, .ref l1)]) rfl dX1_init_92 rfl rfl (Nat.le_of_ble_eq_true rfl) rfl ?_
    refine ts_goto (tgt := 79) dX1_init_95 (by decide) ?_
    exact ts_lsub [1, 2, 0] rfl W
theorem hnX7_init_X1 : ∀ w ∈ u_ws RX1 TX1 13, w ∈ wsX7_init := by decide +kernel
theorem hnX7_init_X7 : ∀ w ∈ u_ws RX7 TX7 8, w ∈ wsX7_init := by decide +kernel
theorem flX7_init_11 : Cond.fieldLink RX7 11 "TurnipSquires$Seer" "trials" "[LTurnipSquires$Field;" ∈ wsX7_init := by decide +kernel
theorem flX7_init_17 : Cond.fieldLink RX7 17 "TurnipSquires$Seer" "mates" "[I" ∈ wsX7_init := by decide +kernel
theorem flX7_init_21 : Cond.fieldLink RX7 21 "TurnipSquires$Seer" "bestMates" "[I" ∈ wsX7_init := by decide +kernel
theorem flX7_init_24 : Cond.fieldLink RX7 24 "TurnipSquires$Seer" "now" "LTurnipSquires$Field;" ∈ wsX7_init := by decide +kernel
theorem flX7_init_28 : Cond.fieldLink RX7 28 "TurnipSquires$Seer" "kinds" "[LTurnipSquires$Kind;" ∈ wsX7_init := by decide +kernel
theorem flX7_init_35 : Cond.fieldLink RX7 35 "TurnipSquires$Seer" "trial" "LTurnipSquires$Field;" ∈ wsX7_init := by decide +kernel
set_option maxHeartbeats 4000000 in
theorem wX7_init_0 {d mc ms n0 : Nat} {g : ts_G} {Q : ts_Q} {o : Nat} {p0 : Nat} {p1 : Nat} {hi : ts_I} {hk : ts_K} (W : (o ≤ g.1) ∧ (p0 ≤ g.1) ∧ (p1 ≤ g.1) ∧ (0 + 1 ≤ mc) ∧ (0 + 9 ≤ ms) ∧ ∀ g6 : ts_G, g6 = ts_gn g 104 9 → ∀ hi7 : ts_I, hi7 = ts_zi hi (g.1 + 1) → ∀ hk8 : ts_K, hk8 = ts_zk hk (g.1 + 1) → (g6.2.1 o = 6) ∧ (g6.2.1 (g.1 + 1) < 200) ∧ ∀ g11 : ts_G, g11 = ts_go g6 o 2 (g.1 + 1) → (o ≤ g11.1) ∧ (p0 ≤ g11.1) ∧ (p1 ≤ g11.1) ∧ ((0 + 1) + 1 ≤ mc) ∧ ((0 + 9) + 7 ≤ ms) ∧ ∀ g17 : ts_G, g17 = ts_gn g11 100 7 → ∀ hi18 : ts_I, hi18 = ts_zi hi7 (g11.1 + 1) → ∀ hk19 : ts_K, hk19 = ts_zk hk8 (g11.1 + 1) → (g17.2.1 o = 6) ∧ (g17.2.1 (g11.1 + 1) < 200) ∧ ∀ g22 : ts_G, g22 = ts_go g17 o 4 (g11.1 + 1) → (o ≤ g22.1) ∧ (p0 ≤ g22.1) ∧ (p1 ≤ g22.1) ∧ (((0 + 1) + 1) + 1 ≤ mc) ∧ (((0 + 9) + 7) + 7 ≤ ms) ∧ ∀ g28 : ts_G, g28 = ts_gn g22 100 7 → ∀ hi29 : ts_I, hi29 = ts_zi hi18 (g22.1 + 1) → ∀ hk30 : ts_K, hk30 = ts_zk hk19 (g22.1 + 1) → (g28.2.1 o = 6) ∧ (g28.2.1 (g22.1 + 1) < 200) ∧ ∀ g33 : ts_G, g33 = ts_go g28 o 5 (g22.1 + 1) → (g33.2.1 o = 6) ∧ (g33.2.1 p0 < 200) ∧ ∀ g36 : ts_G, g36 = ts_go g33 o 0 p0 → (g36.2.1 o = 6) ∧ (g36.2.1 p1 < 200) ∧ ∀ g39 : ts_G, g39 = ts_go g36 o 1 p1 → ts_JJ (d + 1) mc ms mX7_init none n0 Q (((0 + 1) + 1) + 1) (((0 + 9) + 7) + 7) 41 [(0, .ref o), (2, .ref p1), (3, .int 0)] [] g39 hi29 hk30) : ts_JJ (d + 1) mc ms mX7_init none n0 Q 0 0 0 [(0, .ref o), (1, .ref p0), (2, .ref p1)] [] g hi hk := by
  refine ts_aload_n 0 (pc' := 1) rfl dX7_init_0 rfl rfl ?_
  refine ts_objI (pc' := 4) rfl dX7_init_1 (by decide +kernel) (by decide +kernel) (by decide +kernel) (Nat.le_add_left 1 _) (Nat.le_of_ble_eq_true rfl) ?_
  refine ts_aload_n 0 (pc' := 5) rfl dX7_init_4 rfl rfl ?_
  refine ts_bipush (v := 9) (pc' := 7) rfl dX7_init_5 (by decide) ?_
  obtain ⟨c1, W⟩ := W
  obtain ⟨c2, W⟩ := W
  obtain ⟨c3, W⟩ := W
  obtain ⟨c4, W⟩ := W
  obtain ⟨c5, W⟩ := W
  refine ts_newF (N := 9) (pc' := 10) rfl dX7_init_7 (by decide +kernel) (by decide) (by decide) (by decide) c4 c5 (ts_okP ⟨ts_okr c1, ts_okr c2, ts_okr c3, trivial⟩) (ts_okS ⟨ts_okr c1, trivial⟩) ?_
  obtain ⟨g6, eg6⟩ : ∃ z, z = ts_gn g 104 9 := ⟨_, rfl⟩
  obtain ⟨hi7, ehi7⟩ : ∃ z, z = ts_zi hi (g.1 + 1) := ⟨_, rfl⟩
  obtain ⟨hk8, ehk8⟩ : ∃ z, z = ts_zk hk (g.1 + 1) := ⟨_, rfl⟩
  rw [← eg6, ← ehi7, ← ehk8]; replace W := W g6 eg6 hi7 ehi7 hk8 ehk8
  obtain ⟨c9, W⟩ := W
  obtain ⟨c10, W⟩ := W
  refine ts_putR (pc' := 13) (ft := (.array (.object "TurnipSquires$Field"))) (ci := 6) 2 cfX7.1 cfX7.2.1 cfX7.2.2 rfl (by decide) hnX7_init_X7 flX7_init_11 tyX7_ok nmX7 rfl rfl (fun _ => ⟨rfl, rfl⟩) rfl rfl rfl dX7_init_10 c9 c10 ?_
  obtain ⟨g11, eg11⟩ : ∃ z, z = ts_go g6 o 2 (g.1 + 1) := ⟨_, rfl⟩
  rw [← eg11]; replace W := W g11 eg11
  refine ts_aload_n 0 (pc' := 14) rfl dX7_init_13 rfl rfl ?_
  refine ts_bipush (v := 7) (pc' := 16) rfl dX7_init_14 (by decide) ?_
  obtain ⟨c12, W⟩ := W
  obtain ⟨c13, W⟩ := W
  obtain ⟨c14, W⟩ := W
  obtain ⟨c15, W⟩ := W
  obtain ⟨c16, W⟩ := W
  refine ts_newI (N := 7) (pc' := 18) rfl dX7_init_16 (by decide +kernel) (by decide) (by decide) (by decide) c15 c16 (ts_okP ⟨ts_okr c12, ts_okr c13, ts_okr c14, trivial⟩) (ts_okS ⟨ts_okr c12, trivial⟩) ?_
  obtain ⟨g17, eg17⟩ : ∃ z, z = ts_gn g11 100 7 := ⟨_, rfl⟩
  obtain ⟨hi18, ehi18⟩ : ∃ z, z = ts_zi hi7 (g11.1 + 1) := ⟨_, rfl⟩
  obtain ⟨hk19, ehk19⟩ : ∃ z, z = ts_zk hk8 (g11.1 + 1) := ⟨_, rfl⟩
  rw [← eg17, ← ehi18, ← ehk19]; replace W := W g17 eg17 hi18 ehi18 hk19 ehk19
  obtain ⟨c20, W⟩ := W
  obtain ⟨c21, W⟩ := W
  refine ts_putR (pc' := 21) (ft := (.array .int)) (ci := 6) 4 cfX7.1 cfX7.2.1 cfX7.2.2 rfl (by decide) hnX7_init_X7 flX7_init_17 tyX7_ok nmX7 rfl rfl (fun _ => ⟨rfl, rfl⟩) rfl rfl rfl dX7_init_18 c20 c21 ?_
  obtain ⟨g22, eg22⟩ : ∃ z, z = ts_go g17 o 4 (g11.1 + 1) := ⟨_, rfl⟩
  rw [← eg22]; replace W := W g22 eg22
  refine ts_aload_n 0 (pc' := 22) rfl dX7_init_21 rfl rfl ?_
  refine ts_bipush (v := 7) (pc' := 24) rfl dX7_init_22 (by decide) ?_
  obtain ⟨c23, W⟩ := W
  obtain ⟨c24, W⟩ := W
  obtain ⟨c25, W⟩ := W
  obtain ⟨c26, W⟩ := W
  obtain ⟨c27, W⟩ := W
  refine ts_newI (N := 7) (pc' := 26) rfl dX7_init_24 (by decide +kernel) (by decide) (by decide) (by decide) c26 c27 (ts_okP ⟨ts_okr c23, ts_okr c24, ts_okr c25, trivial⟩) (ts_okS ⟨ts_okr c23, trivial⟩) ?_
  obtain ⟨g28, eg28⟩ : ∃ z, z = ts_gn g22 100 7 := ⟨_, rfl⟩
  obtain ⟨hi29, ehi29⟩ : ∃ z, z = ts_zi hi18 (g22.1 + 1) := ⟨_, rfl⟩
  obtain ⟨hk30, ehk30⟩ : ∃ z, z = ts_zk hk19 (g22.1 + 1) := ⟨_, rfl⟩
  rw [← eg28, ← ehi29, ← ehk30]; replace W := W g28 eg28 hi29 ehi29 hk30 ehk30
  obtain ⟨c31, W⟩ := W
  obtain ⟨c32, W⟩ := W
  refine ts_putR (pc' := 29) (ft := (.array .int)) (ci := 6) 5 cfX7.1 cfX7.2.1 cfX7.2.2 rfl (by decide) hnX7_init_X7 flX7_init_21 tyX7_ok nmX7 rfl rfl (fun _ => ⟨rfl, rfl⟩) rfl rfl rfl dX7_init_26 c31 c32 ?_
  obtain ⟨g33, eg33⟩ : ∃ z, z = ts_go g28 o 5 (g22.1 + 1) := ⟨_, rfl⟩
  rw [← eg33]; replace W := W g33 eg33
  refine ts_aload_n 0 (pc' := 30) rfl dX7_init_29 rfl rfl ?_
  refine ts_aload_n 1 (pc' := 31) rfl dX7_init_30 rfl rfl ?_
  obtain ⟨c34, W⟩ := W
  obtain ⟨c35, W⟩ := W
  refine ts_putR (pc' := 34) (ft := (.object "TurnipSquires$Field")) (ci := 6) 0 cfX7.1 cfX7.2.1 cfX7.2.2 rfl (by decide) hnX7_init_X7 flX7_init_24 tyX7_ok nmX7 rfl rfl (fun _ => ⟨rfl, rfl⟩) rfl rfl rfl dX7_init_31 c34 c35 ?_
  obtain ⟨g36, eg36⟩ : ∃ z, z = ts_go g33 o 0 p0 := ⟨_, rfl⟩
  rw [← eg36]; replace W := W g36 eg36
  refine ts_aload_n 0 (pc' := 35) rfl dX7_init_34 rfl rfl ?_
  refine ts_aload_n 2 (pc' := 36) rfl dX7_init_35 rfl rfl ?_
  obtain ⟨c37, W⟩ := W
  obtain ⟨c38, W⟩ := W
  refine ts_putR (pc' := 39) (ft := (.array (.object "TurnipSquires$Kind"))) (ci := 6) 1 cfX7.1 cfX7.2.1 cfX7.2.2 rfl (by decide) hnX7_init_X7 flX7_init_28 tyX7_ok nmX7 rfl rfl (fun _ => ⟨rfl, rfl⟩) rfl rfl rfl dX7_init_36 c37 c38 ?_
  obtain ⟨g39, eg39⟩ : ∃ z, z = ts_go g36 o 1 p1 := ⟨_, rfl⟩
  rw [← eg39]; replace W := W g39 eg39
  refine ts_iconst (v := 0) (pc' := 40) rfl dX7_init_39 (by decide) ?_
  refine ts_istore_n (pc' := 41) (ls' := [(3, .int 0), (0, .ref o), (1, .ref p0), (2, .ref p1)]) rfl dX7_init_40 rfl (Nat.le_of_ble_eq_true rfl) rfl ?_
  exact ts_lsub [1, 3, 0] rfl W
set_option maxHeartbeats 4000000 in
theorem wX7_init_41 {d mc ms n0 : Nat} {g : ts_G} {Q : ts_Q} {l0 : Nat} {l2 : Nat} {l3 : Int32} {k j : Nat} {hi : ts_I} {hk : ts_K} (W : ((8 < l3) → (g.2.1 l0 = 6) ∧ (g.2.2.2 l0 2 ≠ 0) ∧ (g.2.1 (g.2.2.2 l0 2) = 104) ∧ (vp_in 8 (g.2.2.1 (g.2.2.2 l0 2))) ∧ (g.2.2.2 (g.2.2.2 l0 2) (8 : Int32).toNatClampNeg ≠ 0) ∧ (g.2.1 (g.2.2.2 (g.2.2.2 l0 2) (8 : Int32).toNatClampNeg) < 200) ∧ ∀ g8 : ts_G, g8 = ts_go g l0 3 (g.2.2.2 (g.2.2.2 l0 2) (8 : Int32).toNatClampNeg) → (k ≤ mc) ∧ (j ≤ ms) ∧ Q none g8 hi hk) ∧ (¬ (8 < l3) → (g.2.1 l0 = 6) ∧ (g.2.2.2 l0 2 ≠ 0) ∧ (l0 ≤ g.1) ∧ (l2 ≤ g.1) ∧ ((g.2.2.2 l0 2) ≤ g.1) ∧ (k + 1 ≤ mc) ∧ (j + 13 ≤ ms) ∧ ∀ g18 : ts_G, g18 = ts_gn g 1 0 → ∀ hi19 : ts_I, hi19 = ts_zi hi (g.1 + 1) → ∀ hk20 : ts_K, hk20 = ts_zk hk (g.1 + 1) → (g18.2.1 l2 = 103) ∧ (vp_in 1 (g18.2.2.1 l2)) ∧ (hk20 l2 (1 : Int32).toNatClampNeg ≠ 0) ∧ (l0 ≤ g18.1) ∧ (l2 ≤ g18.1) ∧ ((g.1 + 1) ≤ g18.1) ∧ ((g.2.2.2 l0 2) ≤ g18.1) ∧ ((k + 1) + 9 ≤ mc) ∧ ((j + 13) + 63 ≤ ms) ∧ ts_Ev d 9 63 mX1_init [.ref (g.1 + 1), .ref (hk20 l2 (1 : Int32).toNatClampNeg)] g18 hi19 hk20 (fun r g30 hi31 hk32 => r = none ∧ ((g30.2.1 (g.2.2.2 l0 2) = 104) ∧ (vp_in l3 (g30.2.2.1 (g.2.2.2 l0 2))) ∧ (g30.2.1 (g.1 + 1) = 1) ∧ ∀ g36 : ts_G, g36 = ts_go g30 (g.2.2.2 l0 2) l3.toNatClampNeg (g.1 + 1) → ts_JJ (d + 1) mc ms mX7_init none n0 Q ((k + 1) + 9) ((j + 13) + 63) 41 [(0, .ref l0), (2, .ref l2), (3, .int (l3 + 1))] [] g36 hi31 hk32)))) : ts_JJ (d + 1) mc ms mX7_init none n0 Q k j 41 [(0, .ref l0), (2, .ref l2), (3, .int l3)] [] g hi hk := by
  refine ts_iload_n 2 (pc' := 42) rfl dX7_init_41 rfl rfl ?_
  refine ts_bipush (v := 8) (pc' := 44) rfl dX7_init_42 (by decide) ?_
  refine ts_icmp_gt (pc' := 47) (tgt := 69) rfl dX7_init_44 (by decide) (fun q1 => ?_) (fun q1 => ?_)
  · replace W := W.1 q1
    refine ts_aload_n 0 (pc' := 70) rfl dX7_init_69 rfl rfl ?_
    refine ts_aload_n 0 (pc' := 71) rfl dX7_init_70 rfl rfl ?_
    obtain ⟨c2, W⟩ := W
    obtain ⟨c3, W⟩ := W
    refine ts_getR (pc' := 74) (ci := 6) 2 cfX7.1 cfX7.2.1 cfX7.2.2 rfl (by decide) hnX7_init_X7 flX7_init_11 rfl dX7_init_71 c2 c3 ?_
    refine ts_bipush (v := 8) (pc' := 76) rfl dX7_init_74 (by decide) ?_
    obtain ⟨c4, W⟩ := W
    obtain ⟨c5, W⟩ := W
    obtain ⟨c6, W⟩ := W
    refine ts_aaloadF (pc' := 77) rfl dX7_init_76 c4 c5 c6 ?_
    obtain ⟨c7, W⟩ := W
    refine ts_putR (pc' := 80) (ft := (.object "TurnipSquires$Field")) (ci := 6) 3 cfX7.1 cfX7.2.1 cfX7.2.2 rfl (by decide) hnX7_init_X7 flX7_init_35 tyX7_ok nmX7 rfl rfl (fun _ => ⟨rfl, rfl⟩) rfl rfl rfl dX7_init_77 c2 c7 ?_
    obtain ⟨g8, eg8⟩ : ∃ z, z = ts_go g l0 3 (g.2.2.2 (g.2.2.2 l0 2) (8 : Int32).toNatClampNeg) := ⟨_, rfl⟩
    rw [← eg8]; replace W := W g8 eg8
    obtain ⟨c9, W⟩ := W
    obtain ⟨c10, W⟩ := W
    exact ts_vret dX7_init_80 rfl c9 c10 W
  · replace W := W.2 q1
    refine ts_aload_n 0 (pc' := 48) rfl dX7_init_47 rfl rfl ?_
    obtain ⟨c11, W⟩ := W
    obtain ⟨c12, W⟩ := W
    refine ts_getR (pc' := 51) (ci := 6) 2 cfX7.1 cfX7.2.1 cfX7.2.2 rfl (by decide) hnX7_init_X7 flX7_init_11 rfl dX7_init_48 c11 c12 ?_
    refine ts_iload_n 2 (pc' := 52) rfl dX7_init_51 rfl rfl ?_
    obtain ⟨c13, W⟩ := W
    obtain ⟨c14, W⟩ := W
    obtain ⟨c15, W⟩ := W
    obtain ⟨c16, W⟩ := W
    obtain ⟨c17, W⟩ := W
    refine ts_new (C := RX1) (T := TX1) (ci := 1) (ty0 := tyX1) (pc' := 55) rfl dX7_init_52 cfX1.1 cfX1.2.1 cfX1.2.2 hnX7_init_X1 tyX1_ok (by decide +kernel) (by decide +kernel) (by decide +kernel) ndX1 c16 c17 (ts_okP ⟨ts_okr c13, ts_okr c14, ts_oki, trivial⟩) (ts_okS ⟨ts_oki, ts_okr c15, trivial⟩) ?_
    obtain ⟨g18, eg18⟩ : ∃ z, z = ts_gn g 1 0 := ⟨_, rfl⟩
    obtain ⟨hi19, ehi19⟩ : ∃ z, z = ts_zi hi (g.1 + 1) := ⟨_, rfl⟩
    obtain ⟨hk20, ehk20⟩ : ∃ z, z = ts_zk hk (g.1 + 1) := ⟨_, rfl⟩
    rw [← eg18, ← ehi19, ← ehk20]; replace W := W g18 eg18 hi19 ehi19 hk20 ehk20
    refine ts_dup (pc' := 56) rfl dX7_init_55 rfl ?_
    refine ts_aload_n 1 (pc' := 57) rfl dX7_init_56 rfl rfl ?_
    refine ts_iconst (v := 1) (pc' := 58) rfl dX7_init_57 (by decide) ?_
    obtain ⟨c21, W⟩ := W
    obtain ⟨c22, W⟩ := W
    obtain ⟨c23, W⟩ := W
    refine ts_aaloadK (pc' := 59) rfl dX7_init_58 c21 c22 c23 ?_
    obtain ⟨c24, W⟩ := W
    obtain ⟨c25, W⟩ := W
    obtain ⟨c26, W⟩ := W
    obtain ⟨c27, W⟩ := W
    obtain ⟨c28, W⟩ := W
    obtain ⟨c29, W⟩ := W
    refine ts_callI (M' := mX1_init) (mc' := 9) (ms' := 63) (pc' := 62) (av := [.ref (hk20 l2 (1 : Int32).toNatClampNeg)]) (b := (g.1 + 1)) rfl dX7_init_59 rfl gX7_init_X1_init rfl (by decide +kernel) (by decide +kernel) (by decide +kernel) rfl dsX1_init rfl (Nat.le_refl _) (Nat.le_of_ble_eq_true rfl) (Nat.le_of_ble_eq_true rfl) c28 c29 (Or.inr ⟨(ts_okP ⟨ts_okr c24, ts_okr c25, ts_oki, trivial⟩), (ts_okS ⟨ts_okr c26, ts_oki, ts_okr c27, trivial⟩)⟩) W (fun r g30 hi31 hk32 W => ?_)
    obtain ⟨rfl, W⟩ := W
    obtain ⟨c33, W⟩ := W
    obtain ⟨c34, W⟩ := W
    obtain ⟨c35, W⟩ := W
    refine ts_aastoreF (pc' := 63) rfl dX7_init_62 c33 c34 c35 ?_
    obtain ⟨g36, eg36⟩ : ∃ z, z = ts_go g30 (g.2.2.2 l0 2) l3.toNatClampNeg (g.1 + 1) := ⟨_, rfl⟩
    rw [← eg36]; replace W := W g36 eg36
    refine ts_iinc 2 (pc' := 66) (ls' := [(3, .int (l3 + 1)), (0, .ref l0), (2, .ref l2)]) rfl dX7_init_63 rfl rfl (Nat.le_of_ble_eq_true rfl) rfl ?_
    refine ts_goto (tgt := 41) dX7_init_66 (by decide) ?_
    exact ts_lsub [1, 2, 0] rfl W
theorem hnX12_init_X12 : ∀ w ∈ u_ws RX12 TX12 25, w ∈ wsX12_init := by decide +kernel
theorem flX12_init_7 : Cond.fieldLink RX12 7 "TurnipSquiresModel" "lane" "[I" ∈ wsX12_init := by decide +kernel
theorem flX12_init_13 : Cond.fieldLink RX12 13 "TurnipSquiresModel" "many" "[I" ∈ wsX12_init := by decide +kernel
theorem flX12_init_16 : Cond.fieldLink RX12 16 "TurnipSquiresModel" "items" "[I" ∈ wsX12_init := by decide +kernel
theorem flX12_init_19 : Cond.fieldLink RX12 19 "TurnipSquiresModel" "spare" "[I" ∈ wsX12_init := by decide +kernel
theorem flX12_init_22 : Cond.fieldLink RX12 22 "TurnipSquiresModel" "tape" "[I" ∈ wsX12_init := by decide +kernel
theorem flX12_init_25 : Cond.fieldLink RX12 25 "TurnipSquiresModel" "now" "[I" ∈ wsX12_init := by decide +kernel
theorem flX12_init_28 : Cond.fieldLink RX12 28 "TurnipSquiresModel" "draft" "[I" ∈ wsX12_init := by decide +kernel
theorem flX12_init_31 : Cond.fieldLink RX12 31 "TurnipSquiresModel" "tried" "[I" ∈ wsX12_init := by decide +kernel
theorem flX12_init_34 : Cond.fieldLink RX12 34 "TurnipSquiresModel" "past" "[I" ∈ wsX12_init := by decide +kernel
theorem flX12_init_37 : Cond.fieldLink RX12 37 "TurnipSquiresModel" "images" "[I" ∈ wsX12_init := by decide +kernel
theorem flX12_init_40 : Cond.fieldLink RX12 40 "TurnipSquiresModel" "kept" "[Z" ∈ wsX12_init := by decide +kernel
theorem flX12_init_44 : Cond.fieldLink RX12 44 "TurnipSquiresModel" "gains" "[I" ∈ wsX12_init := by decide +kernel
theorem flX12_init_47 : Cond.fieldLink RX12 47 "TurnipSquiresModel" "line" "[I" ∈ wsX12_init := by decide +kernel
theorem flX12_init_50 : Cond.fieldLink RX12 50 "TurnipSquiresModel" "best" "[I" ∈ wsX12_init := by decide +kernel
theorem flX12_init_53 : Cond.fieldLink RX12 53 "TurnipSquiresModel" "trace" "[I" ∈ wsX12_init := by decide +kernel
set_option maxHeartbeats 4000000 in
theorem wX12_init_0 {d mc ms n0 : Nat} {g : ts_G} {Q : ts_Q} {o : Nat} {hi : ts_I} {hk : ts_K} (W : (o ≤ g.1) ∧ (0 + 1 ≤ mc) ∧ (0 + 8 ≤ ms) ∧ ∀ g4 : ts_G, g4 = ts_gn g 100 8 → ∀ hi5 : ts_I, hi5 = ts_zi hi (g.1 + 1) → ∀ hk6 : ts_K, hk6 = ts_zk hk (g.1 + 1) → (g4.2.1 o = 11) ∧ (g4.2.1 (g.1 + 1) < 200) ∧ ∀ g9 : ts_G, g9 = ts_go g4 o 0 (g.1 + 1) → (o ≤ g9.1) ∧ ((0 + 1) + 1 ≤ mc) ∧ ((0 + 8) + 8 ≤ ms) ∧ ∀ g13 : ts_G, g13 = ts_gn g9 100 8 → ∀ hi14 : ts_I, hi14 = ts_zi hi5 (g9.1 + 1) → ∀ hk15 : ts_K, hk15 = ts_zk hk6 (g9.1 + 1) → (g13.2.1 o = 11) ∧ (g13.2.1 (g9.1 + 1) < 200) ∧ ∀ g18 : ts_G, g18 = ts_go g13 o 1 (g9.1 + 1) → (o ≤ g18.1) ∧ (((0 + 1) + 1) + 1 ≤ mc) ∧ (((0 + 8) + 8) + 320 ≤ ms) ∧ ∀ g22 : ts_G, g22 = ts_gn g18 100 320 → ∀ hi23 : ts_I, hi23 = ts_zi hi14 (g18.1 + 1) → ∀ hk24 : ts_K, hk24 = ts_zk hk15 (g18.1 + 1) → (g22.2.1 o = 11) ∧ (g22.2.1 (g18.1 + 1) < 200) ∧ ∀ g27 : ts_G, g27 = ts_go g22 o 2 (g18.1 + 1) → (o ≤ g27.1) ∧ ((((0 + 1) + 1) + 1) + 1 ≤ mc) ∧ ((((0 + 8) + 8) + 320) + 40 ≤ ms) ∧ ∀ g31 : ts_G, g31 = ts_gn g27 100 40 → ∀ hi32 : ts_I, hi32 = ts_zi hi23 (g27.1 + 1) → ∀ hk33 : ts_K, hk33 = ts_zk hk24 (g27.1 + 1) → (g31.2.1 o = 11) ∧ (g31.2.1 (g27.1 + 1) < 200) ∧ ∀ g36 : ts_G, g36 = ts_go g31 o 3 (g27.1 + 1) → (o ≤ g36.1) ∧ (((((0 + 1) + 1) + 1) + 1) + 1 ≤ mc) ∧ (((((0 + 8) + 8) + 320) + 40) + 90 ≤ ms) ∧ ∀ g40 : ts_G, g40 = ts_gn g36 100 90 → ∀ hi41 : ts_I, hi41 = ts_zi hi32 (g36.1 + 1) → ∀ hk42 : ts_K, hk42 = ts_zk hk33 (g36.1 + 1) → (g40.2.1 o = 11) ∧ (g40.2.1 (g36.1 + 1) < 200) ∧ ∀ g45 : ts_G, g45 = ts_go g40 o 5 (g36.1 + 1) → (o ≤ g45.1) ∧ ((((((0 + 1) + 1) + 1) + 1) + 1) + 1 ≤ mc) ∧ ((((((0 + 8) + 8) + 320) + 40) + 90) + 46 ≤ ms) ∧ ∀ g49 : ts_G, g49 = ts_gn g45 100 46 → ∀ hi50 : ts_I, hi50 = ts_zi hi41 (g45.1 + 1) → ∀ hk51 : ts_K, hk51 = ts_zk hk42 (g45.1 + 1) → (g49.2.1 o = 11) ∧ (g49.2.1 (g45.1 + 1) < 200) ∧ ∀ g54 : ts_G, g54 = ts_go g49 o 13 (g45.1 + 1) → (o ≤ g54.1) ∧ (((((((0 + 1) + 1) + 1) + 1) + 1) + 1) + 1 ≤ mc) ∧ (((((((0 + 8) + 8) + 320) + 40) + 90) + 46) + 46 ≤ ms) ∧ ∀ g58 : ts_G, g58 = ts_gn g54 100 46 → ∀ hi59 : ts_I, hi59 = ts_zi hi50 (g54.1 + 1) → ∀ hk60 : ts_K, hk60 = ts_zk hk51 (g54.1 + 1) → (g58.2.1 o = 11) ∧ (g58.2.1 (g54.1 + 1) < 200) ∧ ∀ g63 : ts_G, g63 = ts_go g58 o 14 (g54.1 + 1) → (o ≤ g63.1) ∧ ((((((((0 + 1) + 1) + 1) + 1) + 1) + 1) + 1) + 1 ≤ mc) ∧ ((((((((0 + 8) + 8) + 320) + 40) + 90) + 46) + 46) + 46 ≤ ms) ∧ ∀ g67 : ts_G, g67 = ts_gn g63 100 46 → ∀ hi68 : ts_I, hi68 = ts_zi hi59 (g63.1 + 1) → ∀ hk69 : ts_K, hk69 = ts_zk hk60 (g63.1 + 1) → (g67.2.1 o = 11) ∧ (g67.2.1 (g63.1 + 1) < 200) ∧ ∀ g72 : ts_G, g72 = ts_go g67 o 15 (g63.1 + 1) → (o ≤ g72.1) ∧ (((((((((0 + 1) + 1) + 1) + 1) + 1) + 1) + 1) + 1) + 1 ≤ mc) ∧ (((((((((0 + 8) + 8) + 320) + 40) + 90) + 46) + 46) + 46) + 1104 ≤ ms) ∧ ∀ g76 : ts_G, g76 = ts_gn g72 100 1104 → ∀ hi77 : ts_I, hi77 = ts_zi hi68 (g72.1 + 1) → ∀ hk78 : ts_K, hk78 = ts_zk hk69 (g72.1 + 1) → (g76.2.1 o = 11) ∧ (g76.2.1 (g72.1 + 1) < 200) ∧ ∀ g81 : ts_G, g81 = ts_go g76 o 16 (g72.1 + 1) → (o ≤ g81.1) ∧ ((((((((((0 + 1) + 1) + 1) + 1) + 1) + 1) + 1) + 1) + 1) + 1 ≤ mc) ∧ ((((((((((0 + 8) + 8) + 320) + 40) + 90) + 46) + 46) + 46) + 1104) + 92 ≤ ms) ∧ ∀ g85 : ts_G, g85 = ts_gn g81 100 92 → ∀ hi86 : ts_I, hi86 = ts_zi hi77 (g81.1 + 1) → ∀ hk87 : ts_K, hk87 = ts_zk hk78 (g81.1 + 1) → (g85.2.1 o = 11) ∧ (g85.2.1 (g81.1 + 1) < 200) ∧ ∀ g90 : ts_G, g90 = ts_go g85 o 18 (g81.1 + 1) → (o ≤ g90.1) ∧ (((((((((((0 + 1) + 1) + 1) + 1) + 1) + 1) + 1) + 1) + 1) + 1) + 1 ≤ mc) ∧ (((((((((((0 + 8) + 8) + 320) + 40) + 90) + 46) + 46) + 46) + 1104) + 92) + 2 ≤ ms) ∧ ∀ g94 : ts_G, g94 = ts_gn g90 101 2 → ∀ hi95 : ts_I, hi95 = ts_zi hi86 (g90.1 + 1) → ∀ hk96 : ts_K, hk96 = ts_zk hk87 (g90.1 + 1) → (g94.2.1 o = 11) ∧ (g94.2.1 (g90.1 + 1) < 200) ∧ ∀ g99 : ts_G, g99 = ts_go g94 o 19 (g90.1 + 1) → (o ≤ g99.1) ∧ ((((((((((((0 + 1) + 1) + 1) + 1) + 1) + 1) + 1) + 1) + 1) + 1) + 1) + 1 ≤ mc) ∧ ((((((((((((0 + 8) + 8) + 320) + 40) + 90) + 46) + 46) + 46) + 1104) + 92) + 2) + 7 ≤ ms) ∧ ∀ g103 : ts_G, g103 = ts_gn g99 100 7 → ∀ hi104 : ts_I, hi104 = ts_zi hi95 (g99.1 + 1) → ∀ hk105 : ts_K, hk105 = ts_zk hk96 (g99.1 + 1) → (g103.2.1 o = 11) ∧ (g103.2.1 (g99.1 + 1) < 200) ∧ ∀ g108 : ts_G, g108 = ts_go g103 o 20 (g99.1 + 1) → (o ≤ g108.1) ∧ (((((((((((((0 + 1) + 1) + 1) + 1) + 1) + 1) + 1) + 1) + 1) + 1) + 1) + 1) + 1 ≤ mc) ∧ (((((((((((((0 + 8) + 8) + 320) + 40) + 90) + 46) + 46) + 46) + 1104) + 92) + 2) + 7) + 7 ≤ ms) ∧ ∀ g112 : ts_G, g112 = ts_gn g108 100 7 → ∀ hi113 : ts_I, hi113 = ts_zi hi104 (g108.1 + 1) → ∀ hk114 : ts_K, hk114 = ts_zk hk105 (g108.1 + 1) → (g112.2.1 o = 11) ∧ (g112.2.1 (g108.1 + 1) < 200) ∧ ∀ g117 : ts_G, g117 = ts_go g112 o 21 (g108.1 + 1) → (o ≤ g117.1) ∧ ((((((((((((((0 + 1) + 1) + 1) + 1) + 1) + 1) + 1) + 1) + 1) + 1) + 1) + 1) + 1) + 1 ≤ mc) ∧ ((((((((((((((0 + 8) + 8) + 320) + 40) + 90) + 46) + 46) + 46) + 1104) + 92) + 2) + 7) + 7) + 7 ≤ ms) ∧ ∀ g121 : ts_G, g121 = ts_gn g117 100 7 → ∀ hi122 : ts_I, hi122 = ts_zi hi113 (g117.1 + 1) → ∀ hk123 : ts_K, hk123 = ts_zk hk114 (g117.1 + 1) → (g121.2.1 o = 11) ∧ (g121.2.1 (g117.1 + 1) < 200) ∧ ∀ g126 : ts_G, g126 = ts_go g121 o 22 (g117.1 + 1) → (o ≤ g126.1) ∧ (((((((((((((((0 + 1) + 1) + 1) + 1) + 1) + 1) + 1) + 1) + 1) + 1) + 1) + 1) + 1) + 1) + 1 ≤ mc) ∧ (((((((((((((((0 + 8) + 8) + 320) + 40) + 90) + 46) + 46) + 46) + 1104) + 92) + 2) + 7) + 7) + 7) + 16 ≤ ms) ∧ ∀ g130 : ts_G, g130 = ts_gn g126 100 16 → ∀ hi131 : ts_I, hi131 = ts_zi hi122 (g126.1 + 1) → ∀ hk132 : ts_K, hk132 = ts_zk hk123 (g126.1 + 1) → (g130.2.1 o = 11) ∧ (g130.2.1 (g126.1 + 1) < 200) ∧ ∀ g135 : ts_G, g135 = ts_go g130 o 23 (g126.1 + 1) → ts_JJ (d + 1) mc ms mX12_init none n0 Q (((((((((((((((0 + 1) + 1) + 1) + 1) + 1) + 1) + 1) + 1) + 1) + 1) + 1) + 1) + 1) + 1) + 1) (((((((((((((((0 + 8) + 8) + 320) + 40) + 90) + 46) + 46) + 46) + 1104) + 92) + 2) + 7) + 7) + 7) + 16) 127 [(0, .ref o), (1, .int 0)] [] g135 hi131 hk132) : ts_JJ (d + 1) mc ms mX12_init none n0 Q 0 0 0 [(0, .ref o)] [] g hi hk := by
  refine ts_aload_n 0 (pc' := 1) rfl dX12_init_0 rfl rfl ?_
  refine ts_objI (pc' := 4) rfl dX12_init_1 (by decide +kernel) (by decide +kernel) (by decide +kernel) (Nat.le_add_left 1 _) (Nat.le_of_ble_eq_true rfl) ?_
  refine ts_aload_n 0 (pc' := 5) rfl dX12_init_4 rfl rfl ?_
  refine ts_bipush (v := 8) (pc' := 7) rfl dX12_init_5 (by decide) ?_
  obtain ⟨c1, W⟩ := W
  obtain ⟨c2, W⟩ := W
  obtain ⟨c3, W⟩ := W
  refine ts_newI (N := 8) (pc' := 9) rfl dX12_init_7 (by decide +kernel) (by decide) (by decide) (by decide) c2 c3 (ts_okP ⟨ts_okr c1, trivial⟩) (ts_okS ⟨ts_okr c1, trivial⟩) ?_
  obtain ⟨g4, eg4⟩ : ∃ z, z = ts_gn g 100 8 := ⟨_, rfl⟩
  obtain ⟨hi5, ehi5⟩ : ∃ z, z = ts_zi hi (g.1 + 1) := ⟨_, rfl⟩
  obtain ⟨hk6, ehk6⟩ : ∃ z, z = ts_zk hk (g.1 + 1) := ⟨_, rfl⟩
  rw [← eg4, ← ehi5, ← ehk6]; replace W := W g4 eg4 hi5 ehi5 hk6 ehk6
  obtain ⟨c7, W⟩ := W
  obtain ⟨c8, W⟩ := W
  refine ts_putR (pc' := 12) (ft := (.array .int)) (ci := 11) 0 cfX12.1 cfX12.2.1 cfX12.2.2 rfl (by decide) hnX12_init_X12 flX12_init_7 tyX12_ok nmX12 rfl rfl (fun _ => ⟨rfl, rfl⟩) rfl rfl rfl dX12_init_9 c7 c8 ?_
  obtain ⟨g9, eg9⟩ : ∃ z, z = ts_go g4 o 0 (g.1 + 1) := ⟨_, rfl⟩
  rw [← eg9]; replace W := W g9 eg9
  refine ts_aload_n 0 (pc' := 13) rfl dX12_init_12 rfl rfl ?_
  refine ts_bipush (v := 8) (pc' := 15) rfl dX12_init_13 (by decide) ?_
  obtain ⟨c10, W⟩ := W
  obtain ⟨c11, W⟩ := W
  obtain ⟨c12, W⟩ := W
  refine ts_newI (N := 8) (pc' := 17) rfl dX12_init_15 (by decide +kernel) (by decide) (by decide) (by decide) c11 c12 (ts_okP ⟨ts_okr c10, trivial⟩) (ts_okS ⟨ts_okr c10, trivial⟩) ?_
  obtain ⟨g13, eg13⟩ : ∃ z, z = ts_gn g9 100 8 := ⟨_, rfl⟩
  obtain ⟨hi14, ehi14⟩ : ∃ z, z = ts_zi hi5 (g9.1 + 1) := ⟨_, rfl⟩
  obtain ⟨hk15, ehk15⟩ : ∃ z, z = ts_zk hk6 (g9.1 + 1) := ⟨_, rfl⟩
  rw [← eg13, ← ehi14, ← ehk15]; replace W := W g13 eg13 hi14 ehi14 hk15 ehk15
  obtain ⟨c16, W⟩ := W
  obtain ⟨c17, W⟩ := W
  refine ts_putR (pc' := 20) (ft := (.array .int)) (ci := 11) 1 cfX12.1 cfX12.2.1 cfX12.2.2 rfl (by decide) hnX12_init_X12 flX12_init_13 tyX12_ok nmX12 rfl rfl (fun _ => ⟨rfl, rfl⟩) rfl rfl rfl dX12_init_17 c16 c17 ?_
  obtain ⟨g18, eg18⟩ : ∃ z, z = ts_go g13 o 1 (g9.1 + 1) := ⟨_, rfl⟩
  rw [← eg18]; replace W := W g18 eg18
  refine ts_aload_n 0 (pc' := 21) rfl dX12_init_20 rfl rfl ?_
  refine ts_sipush (v := 320) (pc' := 24) rfl dX12_init_21 (by decide) ?_
  obtain ⟨c19, W⟩ := W
  obtain ⟨c20, W⟩ := W
  obtain ⟨c21, W⟩ := W
  refine ts_newI (N := 320) (pc' := 26) rfl dX12_init_24 (by decide +kernel) (by decide) (by decide) (by decide) c20 c21 (ts_okP ⟨ts_okr c19, trivial⟩) (ts_okS ⟨ts_okr c19, trivial⟩) ?_
  obtain ⟨g22, eg22⟩ : ∃ z, z = ts_gn g18 100 320 := ⟨_, rfl⟩
  obtain ⟨hi23, ehi23⟩ : ∃ z, z = ts_zi hi14 (g18.1 + 1) := ⟨_, rfl⟩
  obtain ⟨hk24, ehk24⟩ : ∃ z, z = ts_zk hk15 (g18.1 + 1) := ⟨_, rfl⟩
  rw [← eg22, ← ehi23, ← ehk24]; replace W := W g22 eg22 hi23 ehi23 hk24 ehk24
  obtain ⟨c25, W⟩ := W
  obtain ⟨c26, W⟩ := W
  refine ts_putR (pc' := 29) (ft := (.array .int)) (ci := 11) 2 cfX12.1 cfX12.2.1 cfX12.2.2 rfl (by decide) hnX12_init_X12 flX12_init_16 tyX12_ok nmX12 rfl rfl (fun _ => ⟨rfl, rfl⟩) rfl rfl rfl dX12_init_26 c25 c26 ?_
  obtain ⟨g27, eg27⟩ : ∃ z, z = ts_go g22 o 2 (g18.1 + 1) := ⟨_, rfl⟩
  rw [← eg27]; replace W := W g27 eg27
  refine ts_aload_n 0 (pc' := 30) rfl dX12_init_29 rfl rfl ?_
  refine ts_bipush (v := 40) (pc' := 32) rfl dX12_init_30 (by decide) ?_
  obtain ⟨c28, W⟩ := W
  obtain ⟨c29, W⟩ := W
  obtain ⟨c30, W⟩ := W
  refine ts_newI (N := 40) (pc' := 34) rfl dX12_init_32 (by decide +kernel) (by decide) (by decide) (by decide) c29 c30 (ts_okP ⟨ts_okr c28, trivial⟩) (ts_okS ⟨ts_okr c28, trivial⟩) ?_
  obtain ⟨g31, eg31⟩ : ∃ z, z = ts_gn g27 100 40 := ⟨_, rfl⟩
  obtain ⟨hi32, ehi32⟩ : ∃ z, z = ts_zi hi23 (g27.1 + 1) := ⟨_, rfl⟩
  obtain ⟨hk33, ehk33⟩ : ∃ z, z = ts_zk hk24 (g27.1 + 1) := ⟨_, rfl⟩
  rw [← eg31, ← ehi32, ← ehk33]; replace W := W g31 eg31 hi32 ehi32 hk33 ehk33
  obtain ⟨c34, W⟩ := W
  obtain ⟨c35, W⟩ := W
  refine ts_putR (pc' := 37) (ft := (.array .int)) (ci := 11) 3 cfX12.1 cfX12.2.1 cfX12.2.2 rfl (by decide) hnX12_init_X12 flX12_init_19 tyX12_ok nmX12 rfl rfl (fun _ => ⟨rfl, rfl⟩) rfl rfl rfl dX12_init_34 c34 c35 ?_
  obtain ⟨g36, eg36⟩ : ∃ z, z = ts_go g31 o 3 (g27.1 + 1) := ⟨_, rfl⟩
  rw [← eg36]; replace W := W g36 eg36
  refine ts_aload_n 0 (pc' := 38) rfl dX12_init_37 rfl rfl ?_
  refine ts_bipush (v := 90) (pc' := 40) rfl dX12_init_38 (by decide) ?_
  obtain ⟨c37, W⟩ := W
  obtain ⟨c38, W⟩ := W
  obtain ⟨c39, W⟩ := W
  refine ts_newI (N := 90) (pc' := 42) rfl dX12_init_40 (by decide +kernel) (by decide) (by decide) (by decide) c38 c39 (ts_okP ⟨ts_okr c37, trivial⟩) (ts_okS ⟨ts_okr c37, trivial⟩) ?_
  obtain ⟨g40, eg40⟩ : ∃ z, z = ts_gn g36 100 90 := ⟨_, rfl⟩
  obtain ⟨hi41, ehi41⟩ : ∃ z, z = ts_zi hi32 (g36.1 + 1) := ⟨_, rfl⟩
  obtain ⟨hk42, ehk42⟩ : ∃ z, z = ts_zk hk33 (g36.1 + 1) := ⟨_, rfl⟩
  rw [← eg40, ← ehi41, ← ehk42]; replace W := W g40 eg40 hi41 ehi41 hk42 ehk42
  obtain ⟨c43, W⟩ := W
  obtain ⟨c44, W⟩ := W
  refine ts_putR (pc' := 45) (ft := (.array .int)) (ci := 11) 5 cfX12.1 cfX12.2.1 cfX12.2.2 rfl (by decide) hnX12_init_X12 flX12_init_22 tyX12_ok nmX12 rfl rfl (fun _ => ⟨rfl, rfl⟩) rfl rfl rfl dX12_init_42 c43 c44 ?_
  obtain ⟨g45, eg45⟩ : ∃ z, z = ts_go g40 o 5 (g36.1 + 1) := ⟨_, rfl⟩
  rw [← eg45]; replace W := W g45 eg45
  refine ts_aload_n 0 (pc' := 46) rfl dX12_init_45 rfl rfl ?_
  refine ts_bipush (v := 46) (pc' := 48) rfl dX12_init_46 (by decide) ?_
  obtain ⟨c46, W⟩ := W
  obtain ⟨c47, W⟩ := W
  obtain ⟨c48, W⟩ := W
  refine ts_newI (N := 46) (pc' := 50) rfl dX12_init_48 (by decide +kernel) (by decide) (by decide) (by decide) c47 c48 (ts_okP ⟨ts_okr c46, trivial⟩) (ts_okS ⟨ts_okr c46, trivial⟩) ?_
  obtain ⟨g49, eg49⟩ : ∃ z, z = ts_gn g45 100 46 := ⟨_, rfl⟩
  obtain ⟨hi50, ehi50⟩ : ∃ z, z = ts_zi hi41 (g45.1 + 1) := ⟨_, rfl⟩
  obtain ⟨hk51, ehk51⟩ : ∃ z, z = ts_zk hk42 (g45.1 + 1) := ⟨_, rfl⟩
  rw [← eg49, ← ehi50, ← ehk51]; replace W := W g49 eg49 hi50 ehi50 hk51 ehk51
  obtain ⟨c52, W⟩ := W
  obtain ⟨c53, W⟩ := W
  refine ts_putR (pc' := 53) (ft := (.array .int)) (ci := 11) 13 cfX12.1 cfX12.2.1 cfX12.2.2 rfl (by decide) hnX12_init_X12 flX12_init_25 tyX12_ok nmX12 rfl rfl (fun _ => ⟨rfl, rfl⟩) rfl rfl rfl dX12_init_50 c52 c53 ?_
  obtain ⟨g54, eg54⟩ : ∃ z, z = ts_go g49 o 13 (g45.1 + 1) := ⟨_, rfl⟩
  rw [← eg54]; replace W := W g54 eg54
  refine ts_aload_n 0 (pc' := 54) rfl dX12_init_53 rfl rfl ?_
  refine ts_bipush (v := 46) (pc' := 56) rfl dX12_init_54 (by decide) ?_
  obtain ⟨c55, W⟩ := W
  obtain ⟨c56, W⟩ := W
  obtain ⟨c57, W⟩ := W
  refine ts_newI (N := 46) (pc' := 58) rfl dX12_init_56 (by decide +kernel) (by decide) (by decide) (by decide) c56 c57 (ts_okP ⟨ts_okr c55, trivial⟩) (ts_okS ⟨ts_okr c55, trivial⟩) ?_
  obtain ⟨g58, eg58⟩ : ∃ z, z = ts_gn g54 100 46 := ⟨_, rfl⟩
  obtain ⟨hi59, ehi59⟩ : ∃ z, z = ts_zi hi50 (g54.1 + 1) := ⟨_, rfl⟩
  obtain ⟨hk60, ehk60⟩ : ∃ z, z = ts_zk hk51 (g54.1 + 1) := ⟨_, rfl⟩
  rw [← eg58, ← ehi59, ← ehk60]; replace W := W g58 eg58 hi59 ehi59 hk60 ehk60
  obtain ⟨c61, W⟩ := W
  obtain ⟨c62, W⟩ := W
  refine ts_putR (pc' := 61) (ft := (.array .int)) (ci := 11) 14 cfX12.1 cfX12.2.1 cfX12.2.2 rfl (by decide) hnX12_init_X12 flX12_init_28 tyX12_ok nmX12 rfl rfl (fun _ => ⟨rfl, rfl⟩) rfl rfl rfl dX12_init_58 c61 c62 ?_
  obtain ⟨g63, eg63⟩ : ∃ z, z = ts_go g58 o 14 (g54.1 + 1) := ⟨_, rfl⟩
  rw [← eg63]; replace W := W g63 eg63
  refine ts_aload_n 0 (pc' := 62) rfl dX12_init_61 rfl rfl ?_
  refine ts_bipush (v := 46) (pc' := 64) rfl dX12_init_62 (by decide) ?_
  obtain ⟨c64, W⟩ := W
  obtain ⟨c65, W⟩ := W
  obtain ⟨c66, W⟩ := W
  refine ts_newI (N := 46) (pc' := 66) rfl dX12_init_64 (by decide +kernel) (by decide) (by decide) (by decide) c65 c66 (ts_okP ⟨ts_okr c64, trivial⟩) (ts_okS ⟨ts_okr c64, trivial⟩) ?_
  obtain ⟨g67, eg67⟩ : ∃ z, z = ts_gn g63 100 46 := ⟨_, rfl⟩
  obtain ⟨hi68, ehi68⟩ : ∃ z, z = ts_zi hi59 (g63.1 + 1) := ⟨_, rfl⟩
  obtain ⟨hk69, ehk69⟩ : ∃ z, z = ts_zk hk60 (g63.1 + 1) := ⟨_, rfl⟩
  rw [← eg67, ← ehi68, ← ehk69]; replace W := W g67 eg67 hi68 ehi68 hk69 ehk69
  obtain ⟨c70, W⟩ := W
  obtain ⟨c71, W⟩ := W
  refine ts_putR (pc' := 69) (ft := (.array .int)) (ci := 11) 15 cfX12.1 cfX12.2.1 cfX12.2.2 rfl (by decide) hnX12_init_X12 flX12_init_31 tyX12_ok nmX12 rfl rfl (fun _ => ⟨rfl, rfl⟩) rfl rfl rfl dX12_init_66 c70 c71 ?_
  obtain ⟨g72, eg72⟩ : ∃ z, z = ts_go g67 o 15 (g63.1 + 1) := ⟨_, rfl⟩
  rw [← eg72]; replace W := W g72 eg72
  refine ts_aload_n 0 (pc' := 70) rfl dX12_init_69 rfl rfl ?_
  refine ts_sipush (v := 1104) (pc' := 73) rfl dX12_init_70 (by decide) ?_
  obtain ⟨c73, W⟩ := W
  obtain ⟨c74, W⟩ := W
  obtain ⟨c75, W⟩ := W
  refine ts_newI (N := 1104) (pc' := 75) rfl dX12_init_73 (by decide +kernel) (by decide) (by decide) (by decide) c74 c75 (ts_okP ⟨ts_okr c73, trivial⟩) (ts_okS ⟨ts_okr c73, trivial⟩) ?_
  obtain ⟨g76, eg76⟩ : ∃ z, z = ts_gn g72 100 1104 := ⟨_, rfl⟩
  obtain ⟨hi77, ehi77⟩ : ∃ z, z = ts_zi hi68 (g72.1 + 1) := ⟨_, rfl⟩
  obtain ⟨hk78, ehk78⟩ : ∃ z, z = ts_zk hk69 (g72.1 + 1) := ⟨_, rfl⟩
  rw [← eg76, ← ehi77, ← ehk78]; replace W := W g76 eg76 hi77 ehi77 hk78 ehk78
  obtain ⟨c79, W⟩ := W
  obtain ⟨c80, W⟩ := W
  refine ts_putR (pc' := 78) (ft := (.array .int)) (ci := 11) 16 cfX12.1 cfX12.2.1 cfX12.2.2 rfl (by decide) hnX12_init_X12 flX12_init_34 tyX12_ok nmX12 rfl rfl (fun _ => ⟨rfl, rfl⟩) rfl rfl rfl dX12_init_75 c79 c80 ?_
  obtain ⟨g81, eg81⟩ : ∃ z, z = ts_go g76 o 16 (g72.1 + 1) := ⟨_, rfl⟩
  rw [← eg81]; replace W := W g81 eg81
  refine ts_aload_n 0 (pc' := 79) rfl dX12_init_78 rfl rfl ?_
  refine ts_bipush (v := 92) (pc' := 81) rfl dX12_init_79 (by decide) ?_
  obtain ⟨c82, W⟩ := W
  obtain ⟨c83, W⟩ := W
  obtain ⟨c84, W⟩ := W
  refine ts_newI (N := 92) (pc' := 83) rfl dX12_init_81 (by decide +kernel) (by decide) (by decide) (by decide) c83 c84 (ts_okP ⟨ts_okr c82, trivial⟩) (ts_okS ⟨ts_okr c82, trivial⟩) ?_
  obtain ⟨g85, eg85⟩ : ∃ z, z = ts_gn g81 100 92 := ⟨_, rfl⟩
  obtain ⟨hi86, ehi86⟩ : ∃ z, z = ts_zi hi77 (g81.1 + 1) := ⟨_, rfl⟩
  obtain ⟨hk87, ehk87⟩ : ∃ z, z = ts_zk hk78 (g81.1 + 1) := ⟨_, rfl⟩
  rw [← eg85, ← ehi86, ← ehk87]; replace W := W g85 eg85 hi86 ehi86 hk87 ehk87
  obtain ⟨c88, W⟩ := W
  obtain ⟨c89, W⟩ := W
  refine ts_putR (pc' := 86) (ft := (.array .int)) (ci := 11) 18 cfX12.1 cfX12.2.1 cfX12.2.2 rfl (by decide) hnX12_init_X12 flX12_init_37 tyX12_ok nmX12 rfl rfl (fun _ => ⟨rfl, rfl⟩) rfl rfl rfl dX12_init_83 c88 c89 ?_
  obtain ⟨g90, eg90⟩ : ∃ z, z = ts_go g85 o 18 (g81.1 + 1) := ⟨_, rfl⟩
  rw [← eg90]; replace W := W g90 eg90
  refine ts_aload_n 0 (pc' := 87) rfl dX12_init_86 rfl rfl ?_
  refine ts_iconst (v := 2) (pc' := 88) rfl dX12_init_87 (by decide) ?_
  obtain ⟨c91, W⟩ := W
  obtain ⟨c92, W⟩ := W
  obtain ⟨c93, W⟩ := W
  refine ts_newZ (N := 2) (pc' := 90) rfl dX12_init_88 (by decide +kernel) (by decide) (by decide) (by decide) c92 c93 (ts_okP ⟨ts_okr c91, trivial⟩) (ts_okS ⟨ts_okr c91, trivial⟩) ?_
  obtain ⟨g94, eg94⟩ : ∃ z, z = ts_gn g90 101 2 := ⟨_, rfl⟩
  obtain ⟨hi95, ehi95⟩ : ∃ z, z = ts_zi hi86 (g90.1 + 1) := ⟨_, rfl⟩
  obtain ⟨hk96, ehk96⟩ : ∃ z, z = ts_zk hk87 (g90.1 + 1) := ⟨_, rfl⟩
  rw [← eg94, ← ehi95, ← ehk96]; replace W := W g94 eg94 hi95 ehi95 hk96 ehk96
  obtain ⟨c97, W⟩ := W
  obtain ⟨c98, W⟩ := W
  refine ts_putR (pc' := 93) (ft := (.array .boolean)) (ci := 11) 19 cfX12.1 cfX12.2.1 cfX12.2.2 rfl (by decide) hnX12_init_X12 flX12_init_40 tyX12_ok nmX12 rfl rfl (fun _ => ⟨rfl, rfl⟩) rfl rfl rfl dX12_init_90 c97 c98 ?_
  obtain ⟨g99, eg99⟩ : ∃ z, z = ts_go g94 o 19 (g90.1 + 1) := ⟨_, rfl⟩
  rw [← eg99]; replace W := W g99 eg99
  refine ts_aload_n 0 (pc' := 94) rfl dX12_init_93 rfl rfl ?_
  refine ts_bipush (v := 7) (pc' := 96) rfl dX12_init_94 (by decide) ?_
  obtain ⟨c100, W⟩ := W
  obtain ⟨c101, W⟩ := W
  obtain ⟨c102, W⟩ := W
  refine ts_newI (N := 7) (pc' := 98) rfl dX12_init_96 (by decide +kernel) (by decide) (by decide) (by decide) c101 c102 (ts_okP ⟨ts_okr c100, trivial⟩) (ts_okS ⟨ts_okr c100, trivial⟩) ?_
  obtain ⟨g103, eg103⟩ : ∃ z, z = ts_gn g99 100 7 := ⟨_, rfl⟩
  obtain ⟨hi104, ehi104⟩ : ∃ z, z = ts_zi hi95 (g99.1 + 1) := ⟨_, rfl⟩
  obtain ⟨hk105, ehk105⟩ : ∃ z, z = ts_zk hk96 (g99.1 + 1) := ⟨_, rfl⟩
  rw [← eg103, ← ehi104, ← ehk105]; replace W := W g103 eg103 hi104 ehi104 hk105 ehk105
  obtain ⟨c106, W⟩ := W
  obtain ⟨c107, W⟩ := W
  refine ts_putR (pc' := 101) (ft := (.array .int)) (ci := 11) 20 cfX12.1 cfX12.2.1 cfX12.2.2 rfl (by decide) hnX12_init_X12 flX12_init_44 tyX12_ok nmX12 rfl rfl (fun _ => ⟨rfl, rfl⟩) rfl rfl rfl dX12_init_98 c106 c107 ?_
  obtain ⟨g108, eg108⟩ : ∃ z, z = ts_go g103 o 20 (g99.1 + 1) := ⟨_, rfl⟩
  rw [← eg108]; replace W := W g108 eg108
  refine ts_aload_n 0 (pc' := 102) rfl dX12_init_101 rfl rfl ?_
  refine ts_bipush (v := 7) (pc' := 104) rfl dX12_init_102 (by decide) ?_
  obtain ⟨c109, W⟩ := W
  obtain ⟨c110, W⟩ := W
  obtain ⟨c111, W⟩ := W
  refine ts_newI (N := 7) (pc' := 106) rfl dX12_init_104 (by decide +kernel) (by decide) (by decide) (by decide) c110 c111 (ts_okP ⟨ts_okr c109, trivial⟩) (ts_okS ⟨ts_okr c109, trivial⟩) ?_
  obtain ⟨g112, eg112⟩ : ∃ z, z = ts_gn g108 100 7 := ⟨_, rfl⟩
  obtain ⟨hi113, ehi113⟩ : ∃ z, z = ts_zi hi104 (g108.1 + 1) := ⟨_, rfl⟩
  obtain ⟨hk114, ehk114⟩ : ∃ z, z = ts_zk hk105 (g108.1 + 1) := ⟨_, rfl⟩
  rw [← eg112, ← ehi113, ← ehk114]; replace W := W g112 eg112 hi113 ehi113 hk114 ehk114
  obtain ⟨c115, W⟩ := W
  obtain ⟨c116, W⟩ := W
  refine ts_putR (pc' := 109) (ft := (.array .int)) (ci := 11) 21 cfX12.1 cfX12.2.1 cfX12.2.2 rfl (by decide) hnX12_init_X12 flX12_init_47 tyX12_ok nmX12 rfl rfl (fun _ => ⟨rfl, rfl⟩) rfl rfl rfl dX12_init_106 c115 c116 ?_
  obtain ⟨g117, eg117⟩ : ∃ z, z = ts_go g112 o 21 (g108.1 + 1) := ⟨_, rfl⟩
  rw [← eg117]; replace W := W g117 eg117
  refine ts_aload_n 0 (pc' := 110) rfl dX12_init_109 rfl rfl ?_
  refine ts_bipush (v := 7) (pc' := 112) rfl dX12_init_110 (by decide) ?_
  obtain ⟨c118, W⟩ := W
  obtain ⟨c119, W⟩ := W
  obtain ⟨c120, W⟩ := W
  refine ts_newI (N := 7) (pc' := 114) rfl dX12_init_112 (by decide +kernel) (by decide) (by decide) (by decide) c119 c120 (ts_okP ⟨ts_okr c118, trivial⟩) (ts_okS ⟨ts_okr c118, trivial⟩) ?_
  obtain ⟨g121, eg121⟩ : ∃ z, z = ts_gn g117 100 7 := ⟨_, rfl⟩
  obtain ⟨hi122, ehi122⟩ : ∃ z, z = ts_zi hi113 (g117.1 + 1) := ⟨_, rfl⟩
  obtain ⟨hk123, ehk123⟩ : ∃ z, z = ts_zk hk114 (g117.1 + 1) := ⟨_, rfl⟩
  rw [← eg121, ← ehi122, ← ehk123]; replace W := W g121 eg121 hi122 ehi122 hk123 ehk123
  obtain ⟨c124, W⟩ := W
  obtain ⟨c125, W⟩ := W
  refine ts_putR (pc' := 117) (ft := (.array .int)) (ci := 11) 22 cfX12.1 cfX12.2.1 cfX12.2.2 rfl (by decide) hnX12_init_X12 flX12_init_50 tyX12_ok nmX12 rfl rfl (fun _ => ⟨rfl, rfl⟩) rfl rfl rfl dX12_init_114 c124 c125 ?_
  obtain ⟨g126, eg126⟩ : ∃ z, z = ts_go g121 o 22 (g117.1 + 1) := ⟨_, rfl⟩
  rw [← eg126]; replace W := W g126 eg126
  refine ts_aload_n 0 (pc' := 118) rfl dX12_init_117 rfl rfl ?_
  refine ts_bipush (v := 16) (pc' := 120) rfl dX12_init_118 (by decide) ?_
  obtain ⟨c127, W⟩ := W
  obtain ⟨c128, W⟩ := W
  obtain ⟨c129, W⟩ := W
  refine ts_newI (N := 16) (pc' := 122) rfl dX12_init_120 (by decide +kernel) (by decide) (by decide) (by decide) c128 c129 (ts_okP ⟨ts_okr c127, trivial⟩) (ts_okS ⟨ts_okr c127, trivial⟩) ?_
  obtain ⟨g130, eg130⟩ : ∃ z, z = ts_gn g126 100 16 := ⟨_, rfl⟩
  obtain ⟨hi131, ehi131⟩ : ∃ z, z = ts_zi hi122 (g126.1 + 1) := ⟨_, rfl⟩
  obtain ⟨hk132, ehk132⟩ : ∃ z, z = ts_zk hk123 (g126.1 + 1) := ⟨_, rfl⟩
  rw [← eg130, ← ehi131, ← ehk132]; replace W := W g130 eg130 hi131 ehi131 hk132 ehk132
  obtain ⟨c133, W⟩ := W
  obtain ⟨c134, W⟩ := W
  refine ts_putR (pc' := 125) (ft := (.array .int)) (ci := 11) 23 cfX12.1 cfX12.2.1 cfX12.2.2 rfl (by decide) hnX12_init_X12 flX12_init_53 tyX12_ok nmX12 rfl rfl (fun _ => ⟨rfl, rfl⟩) rfl rfl rfl dX12_init_122 c133 c134 ?_
  obtain ⟨g135, eg135⟩ : ∃ z, z = ts_go g130 o 23 (g126.1 + 1) := ⟨_, rfl⟩
  rw [← eg135]; replace W := W g135 eg135
  refine ts_iconst (v := 0) (pc' := 126) rfl dX12_init_125 (by decide) ?_
  refine ts_istore_n (pc' := 127) (ls' := [(1, .int 0), (0, .ref o)]) rfl dX12_init_126 rfl (Nat.le_of_ble_eq_true rfl) rfl ?_
  exact ts_lsub [1, 0] rfl W
set_option maxHeartbeats 4000000 in
theorem wX12_init_127 {d mc ms n0 : Nat} {g : ts_G} {Q : ts_Q} {l0 : Nat} {l1 : Int32} {k j : Nat} {hi : ts_I} {hk : ts_K} (W : ((8 ≤ l1) → (k ≤ mc) ∧ (j ≤ ms) ∧ Q none g hi hk) ∧ (¬ (8 ≤ l1) → (g.2.1 l0 = 11) ∧ (g.2.2.2 l0 0 ≠ 0) ∧ (g.2.1 (g.2.2.2 l0 0) = 100) ∧ (vp_in l1 (g.2.2.1 (g.2.2.2 l0 0))) ∧ ∀ hi8 : ts_I, hi8 = ts_up hi (g.2.2.2 l0 0) l1.toNatClampNeg (-1000000) → ts_JJ (d + 1) mc ms mX12_init none n0 Q k j 127 [(0, .ref l0), (1, .int (l1 + 1))] [] g hi8 hk)) : ts_JJ (d + 1) mc ms mX12_init none n0 Q k j 127 [(0, .ref l0), (1, .int l1)] [] g hi hk := by
  refine ts_iload_n 1 (pc' := 128) rfl dX12_init_127 rfl rfl ?_
  refine ts_bipush (v := 8) (pc' := 130) rfl dX12_init_128 (by decide) ?_
  refine ts_icmp_ge (pc' := 133) (tgt := 147) rfl dX12_init_130 (by decide) (fun q1 => ?_) (fun q1 => ?_)
  · replace W := W.1 q1
    obtain ⟨c2, W⟩ := W
    obtain ⟨c3, W⟩ := W
    exact ts_vret dX12_init_147 rfl c2 c3 W
  · replace W := W.2 q1
    refine ts_aload_n 0 (pc' := 134) rfl dX12_init_133 rfl rfl ?_
    obtain ⟨c4, W⟩ := W
    obtain ⟨c5, W⟩ := W
    refine ts_getR (pc' := 137) (ci := 11) 0 cfX12.1 cfX12.2.1 cfX12.2.2 rfl (by decide) hnX12_init_X12 flX12_init_7 rfl dX12_init_134 c4 c5 ?_
    refine ts_iload_n 1 (pc' := 138) rfl dX12_init_137 rfl rfl ?_
    refine ts_ldc (v := (-1000000)) (pc' := 140) rfl dX12_init_138 (by decide +kernel) ?_
    obtain ⟨c6, W⟩ := W
    obtain ⟨c7, W⟩ := W
    refine ts_iastore (pc' := 141) rfl dX12_init_140 c6 c7 ?_
    obtain ⟨hi8, ehi8⟩ : ∃ z, z = ts_up hi (g.2.2.2 l0 0) l1.toNatClampNeg (-1000000) := ⟨_, rfl⟩
    rw [← ehi8]; replace W := W hi8 ehi8
    refine ts_iinc 1 (pc' := 144) (ls' := [(1, .int (l1 + 1)), (0, .ref l0)]) rfl dX12_init_141 rfl rfl (Nat.le_of_ble_eq_true rfl) rfl ?_
    refine ts_goto (tgt := 127) dX12_init_144 (by decide) ?_
    exact ts_lsub [1, 0] rfl W
theorem hnX11_init_X0 : ∀ w ∈ u_ws RX0 TX0 1, w ∈ wsX11_init := by decide +kernel
theorem hnX11_init_X1 : ∀ w ∈ u_ws RX1 TX1 13, w ∈ wsX11_init := by decide +kernel
theorem hnX11_init_X10 : ∀ w ∈ u_ws RX10 TX10 2, w ∈ wsX11_init := by decide +kernel
theorem hnX11_init_X11 : ∀ w ∈ u_ws RX11 TX11 13, w ∈ wsX11_init := by decide +kernel
theorem hnX11_init_X3 : ∀ w ∈ u_ws RX3 TX3 1, w ∈ wsX11_init := by decide +kernel
theorem hnX11_init_X4 : ∀ w ∈ u_ws RX4 TX4 1, w ∈ wsX11_init := by decide +kernel
theorem hnX11_init_X5 : ∀ w ∈ u_ws RX5 TX5 1, w ∈ wsX11_init := by decide +kernel
theorem hnX11_init_X6 : ∀ w ∈ u_ws RX6 TX6 4, w ∈ wsX11_init := by decide +kernel
theorem hnX11_init_X7 : ∀ w ∈ u_ws RX7 TX7 8, w ∈ wsX11_init := by decide +kernel
theorem hnX11_init_X8 : ∀ w ∈ u_ws RX8 TX8 1, w ∈ wsX11_init := by decide +kernel
theorem hnX11_init_X9 : ∀ w ∈ u_ws RX9 TX9 5, w ∈ wsX11_init := by decide +kernel
theorem flX11_init_11 : Cond.fieldLink RX11 11 "TurnipSquires" "rows" "[LTurnipSquires$Row;" ∈ wsX11_init := by decide +kernel
theorem flX11_init_18 : Cond.fieldLink RX11 18 "TurnipSquires" "tape" "LTurnipSquires$Tape;" ∈ wsX11_init := by decide +kernel
theorem flX11_init_25 : Cond.fieldLink RX11 25 "TurnipSquires" "left" "LTurnipSquires$Trace;" ∈ wsX11_init := by decide +kernel
theorem flX11_init_31 : Cond.fieldLink RX11 31 "TurnipSquires" "kinds" "[LTurnipSquires$Kind;" ∈ wsX11_init := by decide +kernel
theorem flX11_init_37 : Cond.fieldLink RX11 37 "TurnipSquires" "acts" "[LTurnipSquires$Field;" ∈ wsX11_init := by decide +kernel
theorem flX11_init_41 : Cond.fieldLink RX11 41 "TurnipSquires" "images" "[LTurnipSquires$Field;" ∈ wsX11_init := by decide +kernel
theorem flX11_init_65 : Cond.fieldLink RX11 65 "TurnipSquires" "now" "LTurnipSquires$Field;" ∈ wsX11_init := by decide +kernel
theorem flX11_init_69 : Cond.fieldLink RX11 69 "TurnipSquires" "draft" "LTurnipSquires$Field;" ∈ wsX11_init := by decide +kernel
theorem flX11_init_77 : Cond.fieldLink RX11 77 "TurnipSquires" "seer" "LTurnipSquires$Seer;" ∈ wsX11_init := by decide +kernel
set_option maxHeartbeats 4000000 in
theorem wX11_init_0 {d mc ms n0 : Nat} {g : ts_G} {Q : ts_Q} {o : Nat} {hi : ts_I} {hk : ts_K} (W : (o ≤ g.1) ∧ (0 + 1 ≤ mc) ∧ (0 + 8 ≤ ms) ∧ ∀ g4 : ts_G, g4 = ts_gn g 102 8 → ∀ hi5 : ts_I, hi5 = ts_zi hi (g.1 + 1) → ∀ hk6 : ts_K, hk6 = ts_zk hk (g.1 + 1) → (g4.2.1 o = 10) ∧ (g4.2.1 (g.1 + 1) < 200) ∧ ∀ g9 : ts_G, g9 = ts_go g4 o 0 (g.1 + 1) → (o ≤ g9.1) ∧ ((0 + 1) + 1 ≤ mc) ∧ ((0 + 8) + 5 ≤ ms) ∧ ∀ g13 : ts_G, g13 = ts_gn g9 8 0 → ∀ hi14 : ts_I, hi14 = ts_zi hi5 (g9.1 + 1) → ∀ hk15 : ts_K, hk15 = ts_zk hk6 (g9.1 + 1) → (o ≤ g13.1) ∧ ((g9.1 + 1) ≤ g13.1) ∧ (((0 + 1) + 1) + 1 ≤ mc) ∧ (((0 + 8) + 5) + 90 ≤ ms) ∧ ts_Ev d 1 90 mX9_init [.ref (g9.1 + 1)] g13 hi14 hk15 (fun r g20 hi21 hk22 => r = none ∧ ((g20.2.1 o = 10) ∧ (g20.2.1 (g9.1 + 1) < 200) ∧ ∀ g25 : ts_G, g25 = ts_go g20 o 1 (g9.1 + 1) → (o ≤ g25.1) ∧ ((((0 + 1) + 1) + 1) + 1 ≤ mc) ∧ ((((0 + 8) + 5) + 90) + 2 ≤ ms) ∧ ∀ g29 : ts_G, g29 = ts_gn g25 9 0 → ∀ hi30 : ts_I, hi30 = ts_zi hi21 (g25.1 + 1) → ∀ hk31 : ts_K, hk31 = ts_zk hk22 (g25.1 + 1) → (o ≤ g29.1) ∧ ((g25.1 + 1) ≤ g29.1) ∧ (((((0 + 1) + 1) + 1) + 1) + 1 ≤ mc) ∧ (((((0 + 8) + 5) + 90) + 2) + 16 ≤ ms) ∧ ts_Ev d 1 16 mX10_init [.ref (g25.1 + 1)] g29 hi30 hk31 (fun r g36 hi37 hk38 => r = none ∧ ((g36.2.1 o = 10) ∧ (g36.2.1 (g25.1 + 1) < 200) ∧ ∀ g41 : ts_G, g41 = ts_go g36 o 2 (g25.1 + 1) → (o ≤ g41.1) ∧ ((((((0 + 1) + 1) + 1) + 1) + 1) + 1 ≤ mc) ∧ ((((((0 + 8) + 5) + 90) + 2) + 16) + 6 ≤ ms) ∧ ∀ g45 : ts_G, g45 = ts_gn g41 103 6 → ∀ hi46 : ts_I, hi46 = ts_zi hi37 (g41.1 + 1) → ∀ hk47 : ts_K, hk47 = ts_zk hk38 (g41.1 + 1) → (g45.2.1 o = 10) ∧ (g45.2.1 (g41.1 + 1) < 200) ∧ ∀ g50 : ts_G, g50 = ts_go g45 o 3 (g41.1 + 1) → (o ≤ g50.1) ∧ (((((((0 + 1) + 1) + 1) + 1) + 1) + 1) + 1 ≤ mc) ∧ (((((((0 + 8) + 5) + 90) + 2) + 16) + 6) + 24 ≤ ms) ∧ ∀ g54 : ts_G, g54 = ts_gn g50 104 24 → ∀ hi55 : ts_I, hi55 = ts_zi hi46 (g50.1 + 1) → ∀ hk56 : ts_K, hk56 = ts_zk hk47 (g50.1 + 1) → (g54.2.1 o = 10) ∧ (g54.2.1 (g50.1 + 1) < 200) ∧ ∀ g59 : ts_G, g59 = ts_go g54 o 4 (g50.1 + 1) → (o ≤ g59.1) ∧ ((((((((0 + 1) + 1) + 1) + 1) + 1) + 1) + 1) + 1 ≤ mc) ∧ ((((((((0 + 8) + 5) + 90) + 2) + 16) + 6) + 24) + 2 ≤ ms) ∧ ∀ g63 : ts_G, g63 = ts_gn g59 104 2 → ∀ hi64 : ts_I, hi64 = ts_zi hi55 (g59.1 + 1) → ∀ hk65 : ts_K, hk65 = ts_zk hk56 (g59.1 + 1) → (g63.2.1 o = 10) ∧ (g63.2.1 (g59.1 + 1) < 200) ∧ ∀ g68 : ts_G, g68 = ts_go g63 o 5 (g59.1 + 1) → (o ≤ g68.1) ∧ (((((((((0 + 1) + 1) + 1) + 1) + 1) + 1) + 1) + 1) + 1 ≤ mc) ∧ (((((((((0 + 8) + 5) + 90) + 2) + 16) + 6) + 24) + 2) + 1 ≤ ms) ∧ ∀ g72 : ts_G, g72 = ts_gn g68 3 0 → ∀ hi73 : ts_I, hi73 = ts_zi hi64 (g68.1 + 1) → ∀ hk74 : ts_K, hk74 = ts_zk hk65 (g68.1 + 1) → (o ≤ g72.1) ∧ ((g68.1 + 1) ≤ g72.1) ∧ ((((((((((0 + 1) + 1) + 1) + 1) + 1) + 1) + 1) + 1) + 1) + 0 ≤ mc) ∧ ((((((((((0 + 8) + 5) + 90) + 2) + 16) + 6) + 24) + 2) + 1) + 0 ≤ ms) ∧ ts_Ev d 0 0 mX4_init [.ref (g68.1 + 1), .int 1] g72 hi73 hk74 (fun r g79 hi80 hk81 => r = none ∧ ((g79.2.1 o = 10) ∧ (g79.2.2.2 o 3 ≠ 0) ∧ (g79.2.1 (g79.2.2.2 o 3) = 103) ∧ (vp_in 0 (g79.2.2.1 (g79.2.2.2 o 3))) ∧ (g79.2.1 (g68.1 + 1) = 0 ∨ g79.2.1 (g68.1 + 1) = 2 ∨ g79.2.1 (g68.1 + 1) = 3 ∨ g79.2.1 (g68.1 + 1) = 4 ∨ g79.2.1 (g68.1 + 1) = 7) ∧ ∀ hk87 : ts_K, hk87 = ts_uk hk81 (g79.2.2.2 o 3) (0 : Int32).toNatClampNeg (g68.1 + 1) → (vp_in 1 (g79.2.2.1 (g79.2.2.2 o 3))) ∧ ∀ hk89 : ts_K, hk89 = ts_uk hk87 (g79.2.2.2 o 3) (1 : Int32).toNatClampNeg (g68.1 + 1) → ((g68.1 + 1) ≤ g79.1) ∧ (o ≤ g79.1) ∧ ((g79.2.2.2 o 3) ≤ g79.1) ∧ (((((((((((0 + 1) + 1) + 1) + 1) + 1) + 1) + 1) + 1) + 1) + 0) + 1 ≤ mc) ∧ (((((((((((0 + 8) + 5) + 90) + 2) + 16) + 6) + 24) + 2) + 1) + 0) + 1 ≤ ms) ∧ ∀ g95 : ts_G, g95 = ts_gn g79 2 0 → ∀ hi96 : ts_I, hi96 = ts_zi hi80 (g79.1 + 1) → ∀ hk97 : ts_K, hk97 = ts_zk hk89 (g79.1 + 1) → ((g68.1 + 1) ≤ g95.1) ∧ (o ≤ g95.1) ∧ ((g79.1 + 1) ≤ g95.1) ∧ ((g79.2.2.2 o 3) ≤ g95.1) ∧ ((((((((((((0 + 1) + 1) + 1) + 1) + 1) + 1) + 1) + 1) + 1) + 0) + 1) + 0 ≤ mc) ∧ ((((((((((((0 + 8) + 5) + 90) + 2) + 16) + 6) + 24) + 2) + 1) + 0) + 1) + 0 ≤ ms) ∧ ts_Ev d 0 0 mX3_init [.ref (g79.1 + 1), .int 2] g95 hi96 hk97 (fun r g104 hi105 hk106 => r = none ∧ ((g104.2.1 (g79.2.2.2 o 3) = 103) ∧ (vp_in 2 (g104.2.2.1 (g79.2.2.2 o 3))) ∧ (g104.2.1 (g79.1 + 1) = 0 ∨ g104.2.1 (g79.1 + 1) = 2 ∨ g104.2.1 (g79.1 + 1) = 3 ∨ g104.2.1 (g79.1 + 1) = 4 ∨ g104.2.1 (g79.1 + 1) = 7) ∧ ∀ hk110 : ts_K, hk110 = ts_uk hk106 (g79.2.2.2 o 3) (2 : Int32).toNatClampNeg (g79.1 + 1) → (g104.2.1 o = 10) ∧ (g104.2.2.2 o 3 ≠ 0) ∧ ((g68.1 + 1) ≤ g104.1) ∧ (o ≤ g104.1) ∧ ((g104.2.2.2 o 3) ≤ g104.1) ∧ (((((((((((((0 + 1) + 1) + 1) + 1) + 1) + 1) + 1) + 1) + 1) + 0) + 1) + 0) + 1 ≤ mc) ∧ (((((((((((((0 + 8) + 5) + 90) + 2) + 16) + 6) + 24) + 2) + 1) + 0) + 1) + 0) + 1 ≤ ms) ∧ ∀ g118 : ts_G, g118 = ts_gn g104 4 0 → ∀ hi119 : ts_I, hi119 = ts_zi hi105 (g104.1 + 1) → ∀ hk120 : ts_K, hk120 = ts_zk hk110 (g104.1 + 1) → ((g68.1 + 1) ≤ g118.1) ∧ (o ≤ g118.1) ∧ ((g104.1 + 1) ≤ g118.1) ∧ ((g104.2.2.2 o 3) ≤ g118.1) ∧ ((((((((((((((0 + 1) + 1) + 1) + 1) + 1) + 1) + 1) + 1) + 1) + 0) + 1) + 0) + 1) + 0 ≤ mc) ∧ ((((((((((((((0 + 8) + 5) + 90) + 2) + 16) + 6) + 24) + 2) + 1) + 0) + 1) + 0) + 1) + 0 ≤ ms) ∧ ts_Ev d 0 0 mX5_init [.ref (g104.1 + 1), .int 3] g118 hi119 hk120 (fun r g127 hi128 hk129 => r = none ∧ ((g127.2.1 (g104.2.2.2 o 3) = 103) ∧ (vp_in 3 (g127.2.2.1 (g104.2.2.2 o 3))) ∧ (g127.2.1 (g104.1 + 1) = 0 ∨ g127.2.1 (g104.1 + 1) = 2 ∨ g127.2.1 (g104.1 + 1) = 3 ∨ g127.2.1 (g104.1 + 1) = 4 ∨ g127.2.1 (g104.1 + 1) = 7) ∧ ∀ hk133 : ts_K, hk133 = ts_uk hk129 (g104.2.2.2 o 3) (3 : Int32).toNatClampNeg (g104.1 + 1) → (g127.2.1 o = 10) ∧ (g127.2.2.2 o 3 ≠ 0) ∧ ((g68.1 + 1) ≤ g127.1) ∧ (o ≤ g127.1) ∧ ((g127.2.2.2 o 3) ≤ g127.1) ∧ (((((((((((((((0 + 1) + 1) + 1) + 1) + 1) + 1) + 1) + 1) + 1) + 0) + 1) + 0) + 1) + 0) + 1 ≤ mc) ∧ (((((((((((((((0 + 8) + 5) + 90) + 2) + 16) + 6) + 24) + 2) + 1) + 0) + 1) + 0) + 1) + 0) + 1 ≤ ms) ∧ ∀ g141 : ts_G, g141 = ts_gn g127 0 0 → ∀ hi142 : ts_I, hi142 = ts_zi hi128 (g127.1 + 1) → ∀ hk143 : ts_K, hk143 = ts_zk hk133 (g127.1 + 1) → ((g68.1 + 1) ≤ g141.1) ∧ (o ≤ g141.1) ∧ ((g127.1 + 1) ≤ g141.1) ∧ ((g127.2.2.2 o 3) ≤ g141.1) ∧ ((((((((((((((((0 + 1) + 1) + 1) + 1) + 1) + 1) + 1) + 1) + 1) + 0) + 1) + 0) + 1) + 0) + 1) + 0 ≤ mc) ∧ ((((((((((((((((0 + 8) + 5) + 90) + 2) + 16) + 6) + 24) + 2) + 1) + 0) + 1) + 0) + 1) + 0) + 1) + 0 ≤ ms) ∧ ts_Ev d 0 0 mX0_init [.ref (g127.1 + 1), .int 4] g141 hi142 hk143 (fun r g150 hi151 hk152 => r = none ∧ ((g150.2.1 (g127.2.2.2 o 3) = 103) ∧ (vp_in 4 (g150.2.2.1 (g127.2.2.2 o 3))) ∧ (g150.2.1 (g127.1 + 1) = 0 ∨ g150.2.1 (g127.1 + 1) = 2 ∨ g150.2.1 (g127.1 + 1) = 3 ∨ g150.2.1 (g127.1 + 1) = 4 ∨ g150.2.1 (g127.1 + 1) = 7) ∧ ∀ hk156 : ts_K, hk156 = ts_uk hk152 (g127.2.2.2 o 3) (4 : Int32).toNatClampNeg (g127.1 + 1) → (g150.2.1 o = 10) ∧ (g150.2.2.2 o 3 ≠ 0) ∧ ((g68.1 + 1) ≤ g150.1) ∧ (o ≤ g150.1) ∧ ((g150.2.2.2 o 3) ≤ g150.1) ∧ (((((((((((((((((0 + 1) + 1) + 1) + 1) + 1) + 1) + 1) + 1) + 1) + 0) + 1) + 0) + 1) + 0) + 1) + 0) + 1 ≤ mc) ∧ (((((((((((((((((0 + 8) + 5) + 90) + 2) + 16) + 6) + 24) + 2) + 1) + 0) + 1) + 0) + 1) + 0) + 1) + 0) + 1 ≤ ms) ∧ ∀ g164 : ts_G, g164 = ts_gn g150 7 0 → ∀ hi165 : ts_I, hi165 = ts_zi hi151 (g150.1 + 1) → ∀ hk166 : ts_K, hk166 = ts_zk hk156 (g150.1 + 1) → ((g68.1 + 1) ≤ g164.1) ∧ (o ≤ g164.1) ∧ ((g150.1 + 1) ≤ g164.1) ∧ ((g150.2.2.2 o 3) ≤ g164.1) ∧ ((((((((((((((((((0 + 1) + 1) + 1) + 1) + 1) + 1) + 1) + 1) + 1) + 0) + 1) + 0) + 1) + 0) + 1) + 0) + 1) + 0 ≤ mc) ∧ ((((((((((((((((((0 + 8) + 5) + 90) + 2) + 16) + 6) + 24) + 2) + 1) + 0) + 1) + 0) + 1) + 0) + 1) + 0) + 1) + 0 ≤ ms) ∧ ts_Ev d 0 0 mX8_init [.ref (g150.1 + 1), .int 5] g164 hi165 hk166 (fun r g173 hi174 hk175 => r = none ∧ ((g173.2.1 (g150.2.2.2 o 3) = 103) ∧ (vp_in 5 (g173.2.2.1 (g150.2.2.2 o 3))) ∧ (g173.2.1 (g150.1 + 1) = 0 ∨ g173.2.1 (g150.1 + 1) = 2 ∨ g173.2.1 (g150.1 + 1) = 3 ∨ g173.2.1 (g150.1 + 1) = 4 ∨ g173.2.1 (g150.1 + 1) = 7) ∧ ∀ hk179 : ts_K, hk179 = ts_uk hk175 (g150.2.2.2 o 3) (5 : Int32).toNatClampNeg (g150.1 + 1) → ts_JJ (d + 1) mc ms mX11_init none n0 Q ((((((((((((((((((0 + 1) + 1) + 1) + 1) + 1) + 1) + 1) + 1) + 1) + 0) + 1) + 0) + 1) + 0) + 1) + 0) + 1) + 0) ((((((((((((((((((0 + 8) + 5) + 90) + 2) + 16) + 6) + 24) + 2) + 1) + 0) + 1) + 0) + 1) + 0) + 1) + 0) + 1) + 0) 142 [(0, .ref o), (1, .ref (g68.1 + 1)), (2, .int 0)] [] g173 hi174 hk179))))))))))))))) : ts_JJ (d + 1) mc ms mX11_init none n0 Q 0 0 0 [(0, .ref o)] [] g hi hk := by
  refine ts_aload_n 0 (pc' := 1) rfl dX11_init_0 rfl rfl ?_
  refine ts_objI (pc' := 4) rfl dX11_init_1 (by decide +kernel) (by decide +kernel) (by decide +kernel) (Nat.le_add_left 1 _) (Nat.le_of_ble_eq_true rfl) ?_
  refine ts_aload_n 0 (pc' := 5) rfl dX11_init_4 rfl rfl ?_
  refine ts_bipush (v := 8) (pc' := 7) rfl dX11_init_5 (by decide) ?_
  obtain ⟨c1, W⟩ := W
  obtain ⟨c2, W⟩ := W
  obtain ⟨c3, W⟩ := W
  refine ts_newR (N := 8) (pc' := 10) rfl dX11_init_7 (by decide +kernel) (by decide) (by decide) (by decide) c2 c3 (ts_okP ⟨ts_okr c1, trivial⟩) (ts_okS ⟨ts_okr c1, trivial⟩) ?_
  obtain ⟨g4, eg4⟩ : ∃ z, z = ts_gn g 102 8 := ⟨_, rfl⟩
  obtain ⟨hi5, ehi5⟩ : ∃ z, z = ts_zi hi (g.1 + 1) := ⟨_, rfl⟩
  obtain ⟨hk6, ehk6⟩ : ∃ z, z = ts_zk hk (g.1 + 1) := ⟨_, rfl⟩
  rw [← eg4, ← ehi5, ← ehk6]; replace W := W g4 eg4 hi5 ehi5 hk6 ehk6
  obtain ⟨c7, W⟩ := W
  obtain ⟨c8, W⟩ := W
  refine ts_putR (pc' := 13) (ft := (.array (.object "TurnipSquires$Row"))) (ci := 10) 0 cfX11.1 cfX11.2.1 cfX11.2.2 rfl (by decide) hnX11_init_X11 flX11_init_11 tyX11_ok nmX11 rfl rfl (fun _ => ⟨rfl, rfl⟩) rfl rfl rfl dX11_init_10 c7 c8 ?_
  obtain ⟨g9, eg9⟩ : ∃ z, z = ts_go g4 o 0 (g.1 + 1) := ⟨_, rfl⟩
  rw [← eg9]; replace W := W g9 eg9
  refine ts_aload_n 0 (pc' := 14) rfl dX11_init_13 rfl rfl ?_
  obtain ⟨c10, W⟩ := W
  obtain ⟨c11, W⟩ := W
  obtain ⟨c12, W⟩ := W
  refine ts_new (C := RX9) (T := TX9) (ci := 8) (ty0 := tyX9) (pc' := 17) rfl dX11_init_14 cfX9.1 cfX9.2.1 cfX9.2.2 hnX11_init_X9 tyX9_ok (by decide +kernel) (by decide +kernel) (by decide +kernel) ndX9 c11 c12 (ts_okP ⟨ts_okr c10, trivial⟩) (ts_okS ⟨ts_okr c10, trivial⟩) ?_
  obtain ⟨g13, eg13⟩ : ∃ z, z = ts_gn g9 8 0 := ⟨_, rfl⟩
  obtain ⟨hi14, ehi14⟩ : ∃ z, z = ts_zi hi5 (g9.1 + 1) := ⟨_, rfl⟩
  obtain ⟨hk15, ehk15⟩ : ∃ z, z = ts_zk hk6 (g9.1 + 1) := ⟨_, rfl⟩
  rw [← eg13, ← ehi14, ← ehk15]; replace W := W g13 eg13 hi14 ehi14 hk15 ehk15
  refine ts_dup (pc' := 18) rfl dX11_init_17 rfl ?_
  obtain ⟨c16, W⟩ := W
  obtain ⟨c17, W⟩ := W
  obtain ⟨c18, W⟩ := W
  obtain ⟨c19, W⟩ := W
  refine ts_callIN (M' := mX9_init) (mc' := 1) (ms' := 90) (pc' := 21) (av := []) (b := (g9.1 + 1)) (host := RX11) rfl dX11_init_18 rfl gX11_init_X9_init_n17 rfl (by decide +kernel) (by decide +kernel) (by decide +kernel) rfl dsX9_init rfl (Nat.le_refl _) (Nat.le_of_ble_eq_true rfl) (Nat.le_of_ble_eq_true rfl) c18 c19 (Or.inr ⟨(ts_okP ⟨ts_okr c16, trivial⟩), (ts_okS ⟨ts_okr c17, ts_okr c16, trivial⟩)⟩) W (fun r g20 hi21 hk22 W => ?_)
  obtain ⟨rfl, W⟩ := W
  obtain ⟨c23, W⟩ := W
  obtain ⟨c24, W⟩ := W
  refine ts_putR (pc' := 24) (ft := (.object "TurnipSquires$Tape")) (ci := 10) 1 cfX11.1 cfX11.2.1 cfX11.2.2 rfl (by decide) hnX11_init_X11 flX11_init_18 tyX11_ok nmX11 rfl rfl (fun _ => ⟨rfl, rfl⟩) rfl rfl rfl dX11_init_21 c23 c24 ?_
  obtain ⟨g25, eg25⟩ : ∃ z, z = ts_go g20 o 1 (g9.1 + 1) := ⟨_, rfl⟩
  rw [← eg25]; replace W := W g25 eg25
  refine ts_aload_n 0 (pc' := 25) rfl dX11_init_24 rfl rfl ?_
  obtain ⟨c26, W⟩ := W
  obtain ⟨c27, W⟩ := W
  obtain ⟨c28, W⟩ := W
  refine ts_new (C := RX10) (T := TX10) (ci := 9) (ty0 := tyX10) (pc' := 28) rfl dX11_init_25 cfX10.1 cfX10.2.1 cfX10.2.2 hnX11_init_X10 tyX10_ok (by decide +kernel) (by decide +kernel) (by decide +kernel) ndX10 c27 c28 (ts_okP ⟨ts_okr c26, trivial⟩) (ts_okS ⟨ts_okr c26, trivial⟩) ?_
  obtain ⟨g29, eg29⟩ : ∃ z, z = ts_gn g25 9 0 := ⟨_, rfl⟩
  obtain ⟨hi30, ehi30⟩ : ∃ z, z = ts_zi hi21 (g25.1 + 1) := ⟨_, rfl⟩
  obtain ⟨hk31, ehk31⟩ : ∃ z, z = ts_zk hk22 (g25.1 + 1) := ⟨_, rfl⟩
  rw [← eg29, ← ehi30, ← ehk31]; replace W := W g29 eg29 hi30 ehi30 hk31 ehk31
  refine ts_dup (pc' := 29) rfl dX11_init_28 rfl ?_
  obtain ⟨c32, W⟩ := W
  obtain ⟨c33, W⟩ := W
  obtain ⟨c34, W⟩ := W
  obtain ⟨c35, W⟩ := W
  refine ts_callIN (M' := mX10_init) (mc' := 1) (ms' := 16) (pc' := 32) (av := []) (b := (g25.1 + 1)) (host := RX11) rfl dX11_init_29 rfl gX11_init_X10_init_n24 rfl (by decide +kernel) (by decide +kernel) (by decide +kernel) rfl dsX10_init rfl (Nat.le_refl _) (Nat.le_of_ble_eq_true rfl) (Nat.le_of_ble_eq_true rfl) c34 c35 (Or.inr ⟨(ts_okP ⟨ts_okr c32, trivial⟩), (ts_okS ⟨ts_okr c33, ts_okr c32, trivial⟩)⟩) W (fun r g36 hi37 hk38 W => ?_)
  obtain ⟨rfl, W⟩ := W
  obtain ⟨c39, W⟩ := W
  obtain ⟨c40, W⟩ := W
  refine ts_putR (pc' := 35) (ft := (.object "TurnipSquires$Trace")) (ci := 10) 2 cfX11.1 cfX11.2.1 cfX11.2.2 rfl (by decide) hnX11_init_X11 flX11_init_25 tyX11_ok nmX11 rfl rfl (fun _ => ⟨rfl, rfl⟩) rfl rfl rfl dX11_init_32 c39 c40 ?_
  obtain ⟨g41, eg41⟩ : ∃ z, z = ts_go g36 o 2 (g25.1 + 1) := ⟨_, rfl⟩
  rw [← eg41]; replace W := W g41 eg41
  refine ts_aload_n 0 (pc' := 36) rfl dX11_init_35 rfl rfl ?_
  refine ts_bipush (v := 6) (pc' := 38) rfl dX11_init_36 (by decide) ?_
  obtain ⟨c42, W⟩ := W
  obtain ⟨c43, W⟩ := W
  obtain ⟨c44, W⟩ := W
  refine ts_newK (N := 6) (pc' := 41) rfl dX11_init_38 (by decide +kernel) (by decide) (by decide) (by decide) c43 c44 (ts_okP ⟨ts_okr c42, trivial⟩) (ts_okS ⟨ts_okr c42, trivial⟩) ?_
  obtain ⟨g45, eg45⟩ : ∃ z, z = ts_gn g41 103 6 := ⟨_, rfl⟩
  obtain ⟨hi46, ehi46⟩ : ∃ z, z = ts_zi hi37 (g41.1 + 1) := ⟨_, rfl⟩
  obtain ⟨hk47, ehk47⟩ : ∃ z, z = ts_zk hk38 (g41.1 + 1) := ⟨_, rfl⟩
  rw [← eg45, ← ehi46, ← ehk47]; replace W := W g45 eg45 hi46 ehi46 hk47 ehk47
  obtain ⟨c48, W⟩ := W
  obtain ⟨c49, W⟩ := W
  refine ts_putR (pc' := 44) (ft := (.array (.object "TurnipSquires$Kind"))) (ci := 10) 3 cfX11.1 cfX11.2.1 cfX11.2.2 rfl (by decide) hnX11_init_X11 flX11_init_31 tyX11_ok nmX11 rfl rfl (fun _ => ⟨rfl, rfl⟩) rfl rfl rfl dX11_init_41 c48 c49 ?_
  obtain ⟨g50, eg50⟩ : ∃ z, z = ts_go g45 o 3 (g41.1 + 1) := ⟨_, rfl⟩
  rw [← eg50]; replace W := W g50 eg50
  refine ts_aload_n 0 (pc' := 45) rfl dX11_init_44 rfl rfl ?_
  refine ts_bipush (v := 24) (pc' := 47) rfl dX11_init_45 (by decide) ?_
  obtain ⟨c51, W⟩ := W
  obtain ⟨c52, W⟩ := W
  obtain ⟨c53, W⟩ := W
  refine ts_newF (N := 24) (pc' := 50) rfl dX11_init_47 (by decide +kernel) (by decide) (by decide) (by decide) c52 c53 (ts_okP ⟨ts_okr c51, trivial⟩) (ts_okS ⟨ts_okr c51, trivial⟩) ?_
  obtain ⟨g54, eg54⟩ : ∃ z, z = ts_gn g50 104 24 := ⟨_, rfl⟩
  obtain ⟨hi55, ehi55⟩ : ∃ z, z = ts_zi hi46 (g50.1 + 1) := ⟨_, rfl⟩
  obtain ⟨hk56, ehk56⟩ : ∃ z, z = ts_zk hk47 (g50.1 + 1) := ⟨_, rfl⟩
  rw [← eg54, ← ehi55, ← ehk56]; replace W := W g54 eg54 hi55 ehi55 hk56 ehk56
  obtain ⟨c57, W⟩ := W
  obtain ⟨c58, W⟩ := W
  refine ts_putR (pc' := 53) (ft := (.array (.object "TurnipSquires$Field"))) (ci := 10) 4 cfX11.1 cfX11.2.1 cfX11.2.2 rfl (by decide) hnX11_init_X11 flX11_init_37 tyX11_ok nmX11 rfl rfl (fun _ => ⟨rfl, rfl⟩) rfl rfl rfl dX11_init_50 c57 c58 ?_
  obtain ⟨g59, eg59⟩ : ∃ z, z = ts_go g54 o 4 (g50.1 + 1) := ⟨_, rfl⟩
  rw [← eg59]; replace W := W g59 eg59
  refine ts_aload_n 0 (pc' := 54) rfl dX11_init_53 rfl rfl ?_
  refine ts_iconst (v := 2) (pc' := 55) rfl dX11_init_54 (by decide) ?_
  obtain ⟨c60, W⟩ := W
  obtain ⟨c61, W⟩ := W
  obtain ⟨c62, W⟩ := W
  refine ts_newF (N := 2) (pc' := 58) rfl dX11_init_55 (by decide +kernel) (by decide) (by decide) (by decide) c61 c62 (ts_okP ⟨ts_okr c60, trivial⟩) (ts_okS ⟨ts_okr c60, trivial⟩) ?_
  obtain ⟨g63, eg63⟩ : ∃ z, z = ts_gn g59 104 2 := ⟨_, rfl⟩
  obtain ⟨hi64, ehi64⟩ : ∃ z, z = ts_zi hi55 (g59.1 + 1) := ⟨_, rfl⟩
  obtain ⟨hk65, ehk65⟩ : ∃ z, z = ts_zk hk56 (g59.1 + 1) := ⟨_, rfl⟩
  rw [← eg63, ← ehi64, ← ehk65]; replace W := W g63 eg63 hi64 ehi64 hk65 ehk65
  obtain ⟨c66, W⟩ := W
  obtain ⟨c67, W⟩ := W
  refine ts_putR (pc' := 61) (ft := (.array (.object "TurnipSquires$Field"))) (ci := 10) 5 cfX11.1 cfX11.2.1 cfX11.2.2 rfl (by decide) hnX11_init_X11 flX11_init_41 tyX11_ok nmX11 rfl rfl (fun _ => ⟨rfl, rfl⟩) rfl rfl rfl dX11_init_58 c66 c67 ?_
  obtain ⟨g68, eg68⟩ : ∃ z, z = ts_go g63 o 5 (g59.1 + 1) := ⟨_, rfl⟩
  rw [← eg68]; replace W := W g68 eg68
  obtain ⟨c69, W⟩ := W
  obtain ⟨c70, W⟩ := W
  obtain ⟨c71, W⟩ := W
  refine ts_new (C := RX4) (T := TX4) (ci := 3) (ty0 := tyX4) (pc' := 64) rfl dX11_init_61 cfX4.1 cfX4.2.1 cfX4.2.2 hnX11_init_X4 tyX4_ok (by decide +kernel) (by decide +kernel) (by decide +kernel) ndX4 c70 c71 (ts_okP ⟨ts_okr c69, trivial⟩) (ts_okS trivial) ?_
  obtain ⟨g72, eg72⟩ : ∃ z, z = ts_gn g68 3 0 := ⟨_, rfl⟩
  obtain ⟨hi73, ehi73⟩ : ∃ z, z = ts_zi hi64 (g68.1 + 1) := ⟨_, rfl⟩
  obtain ⟨hk74, ehk74⟩ : ∃ z, z = ts_zk hk65 (g68.1 + 1) := ⟨_, rfl⟩
  rw [← eg72, ← ehi73, ← ehk74]; replace W := W g72 eg72 hi73 ehi73 hk74 ehk74
  refine ts_dup (pc' := 65) rfl dX11_init_64 rfl ?_
  refine ts_iconst (v := 1) (pc' := 66) rfl dX11_init_65 (by decide) ?_
  obtain ⟨c75, W⟩ := W
  obtain ⟨c76, W⟩ := W
  obtain ⟨c77, W⟩ := W
  obtain ⟨c78, W⟩ := W
  refine ts_callI (M' := mX4_init) (mc' := 0) (ms' := 0) (pc' := 69) (av := [.int 1]) (b := (g68.1 + 1)) rfl dX11_init_66 rfl gX11_init_X4_init rfl (by decide +kernel) (by decide +kernel) (by decide +kernel) rfl dsX4_init rfl (Nat.le_refl _) (Nat.le_of_ble_eq_true rfl) (Nat.le_of_ble_eq_true rfl) c77 c78 (Or.inr ⟨(ts_okP ⟨ts_okr c75, trivial⟩), (ts_okS ⟨ts_okr c76, trivial⟩)⟩) W (fun r g79 hi80 hk81 W => ?_)
  obtain ⟨rfl, W⟩ := W
  refine ts_astore_n (pc' := 70) (ls' := [(1, .ref (g68.1 + 1)), (0, .ref o)]) rfl dX11_init_69 rfl (Nat.le_of_ble_eq_true rfl) rfl ?_
  refine ts_aload_n 1 (pc' := 71) rfl dX11_init_70 rfl rfl ?_
  obtain ⟨c82, W⟩ := W
  obtain ⟨c83, W⟩ := W
  refine ts_getR (pc' := 74) (ci := 10) 3 cfX11.1 cfX11.2.1 cfX11.2.2 rfl (by decide) hnX11_init_X11 flX11_init_31 rfl dX11_init_71 c82 c83 ?_
  refine ts_iconst (v := 0) (pc' := 75) rfl dX11_init_74 (by decide) ?_
  refine ts_aload_n 0 (pc' := 76) rfl dX11_init_75 rfl rfl ?_
  obtain ⟨c84, W⟩ := W
  obtain ⟨c85, W⟩ := W
  obtain ⟨c86, W⟩ := W
  refine ts_astoreKind (pc' := 77) rfl dX11_init_76 c84 c85 c86 ?_
  obtain ⟨hk87, ehk87⟩ : ∃ z, z = ts_uk hk81 (g79.2.2.2 o 3) (0 : Int32).toNatClampNeg (g68.1 + 1) := ⟨_, rfl⟩
  rw [← ehk87]; replace W := W hk87 ehk87
  refine ts_aload_n 1 (pc' := 78) rfl dX11_init_77 rfl rfl ?_
  refine ts_getR (pc' := 81) (ci := 10) 3 cfX11.1 cfX11.2.1 cfX11.2.2 rfl (by decide) hnX11_init_X11 flX11_init_31 rfl dX11_init_78 c82 c83 ?_
  refine ts_iconst (v := 1) (pc' := 82) rfl dX11_init_81 (by decide) ?_
  refine ts_aload_n 0 (pc' := 83) rfl dX11_init_82 rfl rfl ?_
  obtain ⟨c88, W⟩ := W
  refine ts_astoreKind (pc' := 84) rfl dX11_init_83 c84 c88 c86 ?_
  obtain ⟨hk89, ehk89⟩ : ∃ z, z = ts_uk hk87 (g79.2.2.2 o 3) (1 : Int32).toNatClampNeg (g68.1 + 1) := ⟨_, rfl⟩
  rw [← ehk89]; replace W := W hk89 ehk89
  refine ts_aload_n 1 (pc' := 85) rfl dX11_init_84 rfl rfl ?_
  refine ts_getR (pc' := 88) (ci := 10) 3 cfX11.1 cfX11.2.1 cfX11.2.2 rfl (by decide) hnX11_init_X11 flX11_init_31 rfl dX11_init_85 c82 c83 ?_
  refine ts_iconst (v := 2) (pc' := 89) rfl dX11_init_88 (by decide) ?_
  obtain ⟨c90, W⟩ := W
  obtain ⟨c91, W⟩ := W
  obtain ⟨c92, W⟩ := W
  obtain ⟨c93, W⟩ := W
  obtain ⟨c94, W⟩ := W
  refine ts_new (C := RX3) (T := TX3) (ci := 2) (ty0 := tyX3) (pc' := 92) rfl dX11_init_89 cfX3.1 cfX3.2.1 cfX3.2.2 hnX11_init_X3 tyX3_ok (by decide +kernel) (by decide +kernel) (by decide +kernel) ndX3 c93 c94 (ts_okP ⟨ts_okr c90, ts_okr c91, trivial⟩) (ts_okS ⟨ts_oki, ts_okr c92, trivial⟩) ?_
  obtain ⟨g95, eg95⟩ : ∃ z, z = ts_gn g79 2 0 := ⟨_, rfl⟩
  obtain ⟨hi96, ehi96⟩ : ∃ z, z = ts_zi hi80 (g79.1 + 1) := ⟨_, rfl⟩
  obtain ⟨hk97, ehk97⟩ : ∃ z, z = ts_zk hk89 (g79.1 + 1) := ⟨_, rfl⟩
  rw [← eg95, ← ehi96, ← ehk97]; replace W := W g95 eg95 hi96 ehi96 hk97 ehk97
  refine ts_dup (pc' := 93) rfl dX11_init_92 rfl ?_
  refine ts_iconst (v := 2) (pc' := 94) rfl dX11_init_93 (by decide) ?_
  obtain ⟨c98, W⟩ := W
  obtain ⟨c99, W⟩ := W
  obtain ⟨c100, W⟩ := W
  obtain ⟨c101, W⟩ := W
  obtain ⟨c102, W⟩ := W
  obtain ⟨c103, W⟩ := W
  refine ts_callI (M' := mX3_init) (mc' := 0) (ms' := 0) (pc' := 97) (av := [.int 2]) (b := (g79.1 + 1)) rfl dX11_init_94 rfl gX11_init_X3_init rfl (by decide +kernel) (by decide +kernel) (by decide +kernel) rfl dsX3_init rfl (Nat.le_refl _) (Nat.le_of_ble_eq_true rfl) (Nat.le_of_ble_eq_true rfl) c102 c103 (Or.inr ⟨(ts_okP ⟨ts_okr c98, ts_okr c99, trivial⟩), (ts_okS ⟨ts_okr c100, ts_oki, ts_okr c101, trivial⟩)⟩) W (fun r g104 hi105 hk106 W => ?_)
  obtain ⟨rfl, W⟩ := W
  obtain ⟨c107, W⟩ := W
  obtain ⟨c108, W⟩ := W
  obtain ⟨c109, W⟩ := W
  refine ts_astoreKind (pc' := 98) rfl dX11_init_97 c107 c108 c109 ?_
  obtain ⟨hk110, ehk110⟩ : ∃ z, z = ts_uk hk106 (g79.2.2.2 o 3) (2 : Int32).toNatClampNeg (g79.1 + 1) := ⟨_, rfl⟩
  rw [← ehk110]; replace W := W hk110 ehk110
  refine ts_aload_n 1 (pc' := 99) rfl dX11_init_98 rfl rfl ?_
  obtain ⟨c111, W⟩ := W
  obtain ⟨c112, W⟩ := W
  refine ts_getR (pc' := 102) (ci := 10) 3 cfX11.1 cfX11.2.1 cfX11.2.2 rfl (by decide) hnX11_init_X11 flX11_init_31 rfl dX11_init_99 c111 c112 ?_
  refine ts_iconst (v := 3) (pc' := 103) rfl dX11_init_102 (by decide) ?_
  obtain ⟨c113, W⟩ := W
  obtain ⟨c114, W⟩ := W
  obtain ⟨c115, W⟩ := W
  obtain ⟨c116, W⟩ := W
  obtain ⟨c117, W⟩ := W
  refine ts_new (C := RX5) (T := TX5) (ci := 4) (ty0 := tyX5) (pc' := 106) rfl dX11_init_103 cfX5.1 cfX5.2.1 cfX5.2.2 hnX11_init_X5 tyX5_ok (by decide +kernel) (by decide +kernel) (by decide +kernel) ndX5 c116 c117 (ts_okP ⟨ts_okr c113, ts_okr c114, trivial⟩) (ts_okS ⟨ts_oki, ts_okr c115, trivial⟩) ?_
  obtain ⟨g118, eg118⟩ : ∃ z, z = ts_gn g104 4 0 := ⟨_, rfl⟩
  obtain ⟨hi119, ehi119⟩ : ∃ z, z = ts_zi hi105 (g104.1 + 1) := ⟨_, rfl⟩
  obtain ⟨hk120, ehk120⟩ : ∃ z, z = ts_zk hk110 (g104.1 + 1) := ⟨_, rfl⟩
  rw [← eg118, ← ehi119, ← ehk120]; replace W := W g118 eg118 hi119 ehi119 hk120 ehk120
  refine ts_dup (pc' := 107) rfl dX11_init_106 rfl ?_
  refine ts_iconst (v := 3) (pc' := 108) rfl dX11_init_107 (by decide) ?_
  obtain ⟨c121, W⟩ := W
  obtain ⟨c122, W⟩ := W
  obtain ⟨c123, W⟩ := W
  obtain ⟨c124, W⟩ := W
  obtain ⟨c125, W⟩ := W
  obtain ⟨c126, W⟩ := W
  refine ts_callI (M' := mX5_init) (mc' := 0) (ms' := 0) (pc' := 111) (av := [.int 3]) (b := (g104.1 + 1)) rfl dX11_init_108 rfl gX11_init_X5_init rfl (by decide +kernel) (by decide +kernel) (by decide +kernel) rfl dsX5_init rfl (Nat.le_refl _) (Nat.le_of_ble_eq_true rfl) (Nat.le_of_ble_eq_true rfl) c125 c126 (Or.inr ⟨(ts_okP ⟨ts_okr c121, ts_okr c122, trivial⟩), (ts_okS ⟨ts_okr c123, ts_oki, ts_okr c124, trivial⟩)⟩) W (fun r g127 hi128 hk129 W => ?_)
  obtain ⟨rfl, W⟩ := W
  obtain ⟨c130, W⟩ := W
  obtain ⟨c131, W⟩ := W
  obtain ⟨c132, W⟩ := W
  refine ts_astoreKind (pc' := 112) rfl dX11_init_111 c130 c131 c132 ?_
  obtain ⟨hk133, ehk133⟩ : ∃ z, z = ts_uk hk129 (g104.2.2.2 o 3) (3 : Int32).toNatClampNeg (g104.1 + 1) := ⟨_, rfl⟩
  rw [← ehk133]; replace W := W hk133 ehk133
  refine ts_aload_n 1 (pc' := 113) rfl dX11_init_112 rfl rfl ?_
  obtain ⟨c134, W⟩ := W
  obtain ⟨c135, W⟩ := W
  refine ts_getR (pc' := 116) (ci := 10) 3 cfX11.1 cfX11.2.1 cfX11.2.2 rfl (by decide) hnX11_init_X11 flX11_init_31 rfl dX11_init_113 c134 c135 ?_
  refine ts_iconst (v := 4) (pc' := 117) rfl dX11_init_116 (by decide) ?_
  obtain ⟨c136, W⟩ := W
  obtain ⟨c137, W⟩ := W
  obtain ⟨c138, W⟩ := W
  obtain ⟨c139, W⟩ := W
  obtain ⟨c140, W⟩ := W
  refine ts_new (C := RX0) (T := TX0) (ci := 0) (ty0 := tyX0) (pc' := 120) rfl dX11_init_117 cfX0.1 cfX0.2.1 cfX0.2.2 hnX11_init_X0 tyX0_ok (by decide +kernel) (by decide +kernel) (by decide +kernel) ndX0 c139 c140 (ts_okP ⟨ts_okr c136, ts_okr c137, trivial⟩) (ts_okS ⟨ts_oki, ts_okr c138, trivial⟩) ?_
  obtain ⟨g141, eg141⟩ : ∃ z, z = ts_gn g127 0 0 := ⟨_, rfl⟩
  obtain ⟨hi142, ehi142⟩ : ∃ z, z = ts_zi hi128 (g127.1 + 1) := ⟨_, rfl⟩
  obtain ⟨hk143, ehk143⟩ : ∃ z, z = ts_zk hk133 (g127.1 + 1) := ⟨_, rfl⟩
  rw [← eg141, ← ehi142, ← ehk143]; replace W := W g141 eg141 hi142 ehi142 hk143 ehk143
  refine ts_dup (pc' := 121) rfl dX11_init_120 rfl ?_
  refine ts_iconst (v := 4) (pc' := 122) rfl dX11_init_121 (by decide) ?_
  obtain ⟨c144, W⟩ := W
  obtain ⟨c145, W⟩ := W
  obtain ⟨c146, W⟩ := W
  obtain ⟨c147, W⟩ := W
  obtain ⟨c148, W⟩ := W
  obtain ⟨c149, W⟩ := W
  refine ts_callI (M' := mX0_init) (mc' := 0) (ms' := 0) (pc' := 125) (av := [.int 4]) (b := (g127.1 + 1)) rfl dX11_init_122 rfl gX11_init_X0_init rfl (by decide +kernel) (by decide +kernel) (by decide +kernel) rfl dsX0_init rfl (Nat.le_refl _) (Nat.le_of_ble_eq_true rfl) (Nat.le_of_ble_eq_true rfl) c148 c149 (Or.inr ⟨(ts_okP ⟨ts_okr c144, ts_okr c145, trivial⟩), (ts_okS ⟨ts_okr c146, ts_oki, ts_okr c147, trivial⟩)⟩) W (fun r g150 hi151 hk152 W => ?_)
  obtain ⟨rfl, W⟩ := W
  obtain ⟨c153, W⟩ := W
  obtain ⟨c154, W⟩ := W
  obtain ⟨c155, W⟩ := W
  refine ts_astoreKind (pc' := 126) rfl dX11_init_125 c153 c154 c155 ?_
  obtain ⟨hk156, ehk156⟩ : ∃ z, z = ts_uk hk152 (g127.2.2.2 o 3) (4 : Int32).toNatClampNeg (g127.1 + 1) := ⟨_, rfl⟩
  rw [← ehk156]; replace W := W hk156 ehk156
  refine ts_aload_n 1 (pc' := 127) rfl dX11_init_126 rfl rfl ?_
  obtain ⟨c157, W⟩ := W
  obtain ⟨c158, W⟩ := W
  refine ts_getR (pc' := 130) (ci := 10) 3 cfX11.1 cfX11.2.1 cfX11.2.2 rfl (by decide) hnX11_init_X11 flX11_init_31 rfl dX11_init_127 c157 c158 ?_
  refine ts_iconst (v := 5) (pc' := 131) rfl dX11_init_130 (by decide) ?_
  obtain ⟨c159, W⟩ := W
  obtain ⟨c160, W⟩ := W
  obtain ⟨c161, W⟩ := W
  obtain ⟨c162, W⟩ := W
  obtain ⟨c163, W⟩ := W
  refine ts_new (C := RX8) (T := TX8) (ci := 7) (ty0 := tyX8) (pc' := 134) rfl dX11_init_131 cfX8.1 cfX8.2.1 cfX8.2.2 hnX11_init_X8 tyX8_ok (by decide +kernel) (by decide +kernel) (by decide +kernel) ndX8 c162 c163 (ts_okP ⟨ts_okr c159, ts_okr c160, trivial⟩) (ts_okS ⟨ts_oki, ts_okr c161, trivial⟩) ?_
  obtain ⟨g164, eg164⟩ : ∃ z, z = ts_gn g150 7 0 := ⟨_, rfl⟩
  obtain ⟨hi165, ehi165⟩ : ∃ z, z = ts_zi hi151 (g150.1 + 1) := ⟨_, rfl⟩
  obtain ⟨hk166, ehk166⟩ : ∃ z, z = ts_zk hk156 (g150.1 + 1) := ⟨_, rfl⟩
  rw [← eg164, ← ehi165, ← ehk166]; replace W := W g164 eg164 hi165 ehi165 hk166 ehk166
  refine ts_dup (pc' := 135) rfl dX11_init_134 rfl ?_
  refine ts_iconst (v := 5) (pc' := 136) rfl dX11_init_135 (by decide) ?_
  obtain ⟨c167, W⟩ := W
  obtain ⟨c168, W⟩ := W
  obtain ⟨c169, W⟩ := W
  obtain ⟨c170, W⟩ := W
  obtain ⟨c171, W⟩ := W
  obtain ⟨c172, W⟩ := W
  refine ts_callI (M' := mX8_init) (mc' := 0) (ms' := 0) (pc' := 139) (av := [.int 5]) (b := (g150.1 + 1)) rfl dX11_init_136 rfl gX11_init_X8_init rfl (by decide +kernel) (by decide +kernel) (by decide +kernel) rfl dsX8_init rfl (Nat.le_refl _) (Nat.le_of_ble_eq_true rfl) (Nat.le_of_ble_eq_true rfl) c171 c172 (Or.inr ⟨(ts_okP ⟨ts_okr c167, ts_okr c168, trivial⟩), (ts_okS ⟨ts_okr c169, ts_oki, ts_okr c170, trivial⟩)⟩) W (fun r g173 hi174 hk175 W => ?_)
  obtain ⟨rfl, W⟩ := W
  obtain ⟨c176, W⟩ := W
  obtain ⟨c177, W⟩ := W
  obtain ⟨c178, W⟩ := W
  refine ts_astoreKind (pc' := 140) rfl dX11_init_139 c176 c177 c178 ?_
  obtain ⟨hk179, ehk179⟩ : ∃ z, z = ts_uk hk175 (g150.2.2.2 o 3) (5 : Int32).toNatClampNeg (g150.1 + 1) := ⟨_, rfl⟩
  rw [← ehk179]; replace W := W hk179 ehk179
  refine ts_iconst (v := 0) (pc' := 141) rfl dX11_init_140 (by decide) ?_
  refine ts_istore_n (pc' := 142) (ls' := [(2, .int 0), (1, .ref (g68.1 + 1)), (0, .ref o)]) rfl dX11_init_141 rfl (Nat.le_of_ble_eq_true rfl) rfl ?_
  exact ts_lsub [2, 1, 0] rfl W
set_option maxHeartbeats 4000000 in
theorem wX11_init_142 {d mc ms n0 : Nat} {g : ts_G} {Q : ts_Q} {l0 : Nat} {l1 : Nat} {l2 : Int32} {k j : Nat} {hi : ts_I} {hk : ts_K} (W : ((8 ≤ l2) → ts_JJ (d + 1) mc ms mX11_init none n0 Q k j 169 [(0, .ref l0), (1, .ref l1), (2, .int 0)] [] g hi hk) ∧ (¬ (8 ≤ l2) → (g.2.1 l0 = 10) ∧ (g.2.2.2 l0 0 ≠ 0) ∧ (l0 ≤ g.1) ∧ (l1 ≤ g.1) ∧ ((g.2.2.2 l0 0) ≤ g.1) ∧ (k + 1 ≤ mc) ∧ (j + 4 ≤ ms) ∧ ∀ g9 : ts_G, g9 = ts_gn g 5 0 → ∀ hi10 : ts_I, hi10 = ts_zi hi (g.1 + 1) → ∀ hk11 : ts_K, hk11 = ts_zk hk (g.1 + 1) → (l0 ≤ g9.1) ∧ (l1 ≤ g9.1) ∧ ((g.1 + 1) ≤ g9.1) ∧ ((g.2.2.2 l0 0) ≤ g9.1) ∧ ((k + 1) + 1 ≤ mc) ∧ ((j + 4) + 40 ≤ ms) ∧ ts_Ev d 1 40 mX6_init [.ref (g.1 + 1)] g9 hi10 hk11 (fun r g18 hi19 hk20 => r = none ∧ ((g18.2.1 (g.2.2.2 l0 0) = 102) ∧ (vp_in l2 (g18.2.2.1 (g.2.2.2 l0 0))) ∧ (g18.2.1 (g.1 + 1) = 5) ∧ ∀ g24 : ts_G, g24 = ts_go g18 (g.2.2.2 l0 0) l2.toNatClampNeg (g.1 + 1) → ts_JJ (d + 1) mc ms mX11_init none n0 Q ((k + 1) + 1) ((j + 4) + 40) 142 [(0, .ref l0), (1, .ref l1), (2, .int (l2 + 1))] [] g24 hi19 hk20)))) : ts_JJ (d + 1) mc ms mX11_init none n0 Q k j 142 [(0, .ref l0), (1, .ref l1), (2, .int l2)] [] g hi hk := by
  refine ts_iload_n 2 (pc' := 143) rfl dX11_init_142 rfl rfl ?_
  refine ts_bipush (v := 8) (pc' := 145) rfl dX11_init_143 (by decide) ?_
  refine ts_icmp_ge (pc' := 148) (tgt := 167) rfl dX11_init_145 (by decide) (fun q1 => ?_) (fun q1 => ?_)
  · replace W := W.1 q1
    refine ts_iconst (v := 0) (pc' := 168) rfl dX11_init_167 (by decide) ?_
    refine ts_istore_n (pc' := 169) (ls' := [(2, .int 0), (0, .ref l0), (1, .ref l1)]) rfl dX11_init_168 rfl (Nat.le_of_ble_eq_true rfl) rfl ?_
    exact ts_lsub [1, 2, 0] rfl W
  · replace W := W.2 q1
    refine ts_aload_n 0 (pc' := 149) rfl dX11_init_148 rfl rfl ?_
    obtain ⟨c2, W⟩ := W
    obtain ⟨c3, W⟩ := W
    refine ts_getR (pc' := 152) (ci := 10) 0 cfX11.1 cfX11.2.1 cfX11.2.2 rfl (by decide) hnX11_init_X11 flX11_init_11 rfl dX11_init_149 c2 c3 ?_
    refine ts_iload_n 2 (pc' := 153) rfl dX11_init_152 rfl rfl ?_
    obtain ⟨c4, W⟩ := W
    obtain ⟨c5, W⟩ := W
    obtain ⟨c6, W⟩ := W
    obtain ⟨c7, W⟩ := W
    obtain ⟨c8, W⟩ := W
    refine ts_new (C := RX6) (T := TX6) (ci := 5) (ty0 := tyX6) (pc' := 156) rfl dX11_init_153 cfX6.1 cfX6.2.1 cfX6.2.2 hnX11_init_X6 tyX6_ok (by decide +kernel) (by decide +kernel) (by decide +kernel) ndX6 c7 c8 (ts_okP ⟨ts_okr c4, ts_okr c5, ts_oki, trivial⟩) (ts_okS ⟨ts_oki, ts_okr c6, trivial⟩) ?_
    obtain ⟨g9, eg9⟩ : ∃ z, z = ts_gn g 5 0 := ⟨_, rfl⟩
    obtain ⟨hi10, ehi10⟩ : ∃ z, z = ts_zi hi (g.1 + 1) := ⟨_, rfl⟩
    obtain ⟨hk11, ehk11⟩ : ∃ z, z = ts_zk hk (g.1 + 1) := ⟨_, rfl⟩
    rw [← eg9, ← ehi10, ← ehk11]; replace W := W g9 eg9 hi10 ehi10 hk11 ehk11
    refine ts_dup (pc' := 157) rfl dX11_init_156 rfl ?_
    obtain ⟨c12, W⟩ := W
    obtain ⟨c13, W⟩ := W
    obtain ⟨c14, W⟩ := W
    obtain ⟨c15, W⟩ := W
    obtain ⟨c16, W⟩ := W
    obtain ⟨c17, W⟩ := W
    refine ts_callIN (M' := mX6_init) (mc' := 1) (ms' := 40) (pc' := 160) (av := []) (b := (g.1 + 1)) (host := RX11) rfl dX11_init_157 rfl gX11_init_X6_init_n61 rfl (by decide +kernel) (by decide +kernel) (by decide +kernel) rfl dsX6_init rfl (Nat.le_refl _) (Nat.le_of_ble_eq_true rfl) (Nat.le_of_ble_eq_true rfl) c16 c17 (Or.inr ⟨(ts_okP ⟨ts_okr c12, ts_okr c13, ts_oki, trivial⟩), (ts_okS ⟨ts_okr c14, ts_oki, ts_okr c15, trivial⟩)⟩) W (fun r g18 hi19 hk20 W => ?_)
    obtain ⟨rfl, W⟩ := W
    obtain ⟨c21, W⟩ := W
    obtain ⟨c22, W⟩ := W
    obtain ⟨c23, W⟩ := W
    refine ts_aastoreR (pc' := 161) rfl dX11_init_160 c21 c22 c23 ?_
    obtain ⟨g24, eg24⟩ : ∃ z, z = ts_go g18 (g.2.2.2 l0 0) l2.toNatClampNeg (g.1 + 1) := ⟨_, rfl⟩
    rw [← eg24]; replace W := W g24 eg24
    refine ts_iinc 2 (pc' := 164) (ls' := [(2, .int (l2 + 1)), (0, .ref l0), (1, .ref l1)]) rfl dX11_init_161 rfl rfl (Nat.le_of_ble_eq_true rfl) rfl ?_
    refine ts_goto (tgt := 142) dX11_init_164 (by decide) ?_
    exact ts_lsub [1, 2, 0] rfl W
set_option maxHeartbeats 4000000 in
theorem wX11_init_169 {d mc ms n0 : Nat} {g : ts_G} {Q : ts_Q} {l0 : Nat} {l1 : Nat} {l2 : Int32} {k j : Nat} {hi : ts_I} {hk : ts_K} (W : ((24 ≤ l2) → ts_JJ (d + 1) mc ms mX11_init none n0 Q k j 197 [(0, .ref l0), (1, .ref l1), (2, .int 0)] [] g hi hk) ∧ (¬ (24 ≤ l2) → (g.2.1 l0 = 10) ∧ (g.2.2.2 l0 4 ≠ 0) ∧ (l0 ≤ g.1) ∧ (l1 ≤ g.1) ∧ ((g.2.2.2 l0 4) ≤ g.1) ∧ (k + 1 ≤ mc) ∧ (j + 13 ≤ ms) ∧ ∀ g9 : ts_G, g9 = ts_gn g 1 0 → ∀ hi10 : ts_I, hi10 = ts_zi hi (g.1 + 1) → ∀ hk11 : ts_K, hk11 = ts_zk hk (g.1 + 1) → (l0 ≤ g9.1) ∧ (l1 ≤ g9.1) ∧ ((g.1 + 1) ≤ g9.1) ∧ ((g.2.2.2 l0 4) ≤ g9.1) ∧ ((k + 1) + 9 ≤ mc) ∧ ((j + 13) + 63 ≤ ms) ∧ ts_Ev d 9 63 mX1_init [.ref (g.1 + 1), .ref l1] g9 hi10 hk11 (fun r g18 hi19 hk20 => r = none ∧ ((g18.2.1 (g.2.2.2 l0 4) = 104) ∧ (vp_in l2 (g18.2.2.1 (g.2.2.2 l0 4))) ∧ (g18.2.1 (g.1 + 1) = 1) ∧ ∀ g24 : ts_G, g24 = ts_go g18 (g.2.2.2 l0 4) l2.toNatClampNeg (g.1 + 1) → ts_JJ (d + 1) mc ms mX11_init none n0 Q ((k + 1) + 9) ((j + 13) + 63) 169 [(0, .ref l0), (1, .ref l1), (2, .int (l2 + 1))] [] g24 hi19 hk20)))) : ts_JJ (d + 1) mc ms mX11_init none n0 Q k j 169 [(0, .ref l0), (1, .ref l1), (2, .int l2)] [] g hi hk := by
  refine ts_iload_n 2 (pc' := 170) rfl dX11_init_169 rfl rfl ?_
  refine ts_bipush (v := 24) (pc' := 172) rfl dX11_init_170 (by decide) ?_
  refine ts_icmp_ge (pc' := 175) (tgt := 195) rfl dX11_init_172 (by decide) (fun q1 => ?_) (fun q1 => ?_)
  · replace W := W.1 q1
    refine ts_iconst (v := 0) (pc' := 196) rfl dX11_init_195 (by decide) ?_
    refine ts_istore_n (pc' := 197) (ls' := [(2, .int 0), (0, .ref l0), (1, .ref l1)]) rfl dX11_init_196 rfl (Nat.le_of_ble_eq_true rfl) rfl ?_
    exact ts_lsub [1, 2, 0] rfl W
  · replace W := W.2 q1
    refine ts_aload_n 0 (pc' := 176) rfl dX11_init_175 rfl rfl ?_
    obtain ⟨c2, W⟩ := W
    obtain ⟨c3, W⟩ := W
    refine ts_getR (pc' := 179) (ci := 10) 4 cfX11.1 cfX11.2.1 cfX11.2.2 rfl (by decide) hnX11_init_X11 flX11_init_37 rfl dX11_init_176 c2 c3 ?_
    refine ts_iload_n 2 (pc' := 180) rfl dX11_init_179 rfl rfl ?_
    obtain ⟨c4, W⟩ := W
    obtain ⟨c5, W⟩ := W
    obtain ⟨c6, W⟩ := W
    obtain ⟨c7, W⟩ := W
    obtain ⟨c8, W⟩ := W
    refine ts_new (C := RX1) (T := TX1) (ci := 1) (ty0 := tyX1) (pc' := 183) rfl dX11_init_180 cfX1.1 cfX1.2.1 cfX1.2.2 hnX11_init_X1 tyX1_ok (by decide +kernel) (by decide +kernel) (by decide +kernel) ndX1 c7 c8 (ts_okP ⟨ts_okr c4, ts_okr c5, ts_oki, trivial⟩) (ts_okS ⟨ts_oki, ts_okr c6, trivial⟩) ?_
    obtain ⟨g9, eg9⟩ : ∃ z, z = ts_gn g 1 0 := ⟨_, rfl⟩
    obtain ⟨hi10, ehi10⟩ : ∃ z, z = ts_zi hi (g.1 + 1) := ⟨_, rfl⟩
    obtain ⟨hk11, ehk11⟩ : ∃ z, z = ts_zk hk (g.1 + 1) := ⟨_, rfl⟩
    rw [← eg9, ← ehi10, ← ehk11]; replace W := W g9 eg9 hi10 ehi10 hk11 ehk11
    refine ts_dup (pc' := 184) rfl dX11_init_183 rfl ?_
    refine ts_aload_n 1 (pc' := 185) rfl dX11_init_184 rfl rfl ?_
    obtain ⟨c12, W⟩ := W
    obtain ⟨c13, W⟩ := W
    obtain ⟨c14, W⟩ := W
    obtain ⟨c15, W⟩ := W
    obtain ⟨c16, W⟩ := W
    obtain ⟨c17, W⟩ := W
    refine ts_callI (M' := mX1_init) (mc' := 9) (ms' := 63) (pc' := 188) (av := [.ref l1]) (b := (g.1 + 1)) rfl dX11_init_185 rfl gX11_init_X1_init rfl (by decide +kernel) (by decide +kernel) (by decide +kernel) rfl dsX1_init rfl (Nat.le_refl _) (Nat.le_of_ble_eq_true rfl) (Nat.le_of_ble_eq_true rfl) c16 c17 (Or.inr ⟨(ts_okP ⟨ts_okr c12, ts_okr c13, ts_oki, trivial⟩), (ts_okS ⟨ts_okr c14, ts_oki, ts_okr c15, trivial⟩)⟩) W (fun r g18 hi19 hk20 W => ?_)
    obtain ⟨rfl, W⟩ := W
    obtain ⟨c21, W⟩ := W
    obtain ⟨c22, W⟩ := W
    obtain ⟨c23, W⟩ := W
    refine ts_aastoreF (pc' := 189) rfl dX11_init_188 c21 c22 c23 ?_
    obtain ⟨g24, eg24⟩ : ∃ z, z = ts_go g18 (g.2.2.2 l0 4) l2.toNatClampNeg (g.1 + 1) := ⟨_, rfl⟩
    rw [← eg24]; replace W := W g24 eg24
    refine ts_iinc 2 (pc' := 192) (ls' := [(2, .int (l2 + 1)), (0, .ref l0), (1, .ref l1)]) rfl dX11_init_189 rfl rfl (Nat.le_of_ble_eq_true rfl) rfl ?_
    refine ts_goto (tgt := 169) dX11_init_192 (by decide) ?_
    exact ts_lsub [1, 2, 0] rfl W
set_option maxHeartbeats 4000000 in
theorem wX11_init_197 {d mc ms n0 : Nat} {g : ts_G} {Q : ts_Q} {l0 : Nat} {l1 : Nat} {l2 : Int32} {k j : Nat} {hi : ts_I} {hk : ts_K} (W : ((2 ≤ l2) → (l0 ≤ g.1) ∧ (l1 ≤ g.1) ∧ (k + 1 ≤ mc) ∧ (j + 13 ≤ ms) ∧ ∀ g6 : ts_G, g6 = ts_gn g 1 0 → ∀ hi7 : ts_I, hi7 = ts_zi hi (g.1 + 1) → ∀ hk8 : ts_K, hk8 = ts_zk hk (g.1 + 1) → (l0 ≤ g6.1) ∧ (l1 ≤ g6.1) ∧ ((g.1 + 1) ≤ g6.1) ∧ ((k + 1) + 9 ≤ mc) ∧ ((j + 13) + 63 ≤ ms) ∧ ts_Ev d 9 63 mX1_init [.ref (g.1 + 1), .ref l1] g6 hi7 hk8 (fun r g14 hi15 hk16 => r = none ∧ ((g14.2.1 l0 = 10) ∧ (g14.2.1 (g.1 + 1) < 200) ∧ ∀ g19 : ts_G, g19 = ts_go g14 l0 6 (g.1 + 1) → (l0 ≤ g19.1) ∧ (l1 ≤ g19.1) ∧ (((k + 1) + 9) + 1 ≤ mc) ∧ (((j + 13) + 63) + 13 ≤ ms) ∧ ∀ g24 : ts_G, g24 = ts_gn g19 1 0 → ∀ hi25 : ts_I, hi25 = ts_zi hi15 (g19.1 + 1) → ∀ hk26 : ts_K, hk26 = ts_zk hk16 (g19.1 + 1) → (l0 ≤ g24.1) ∧ (l1 ≤ g24.1) ∧ ((g19.1 + 1) ≤ g24.1) ∧ ((((k + 1) + 9) + 1) + 9 ≤ mc) ∧ ((((j + 13) + 63) + 13) + 63 ≤ ms) ∧ ts_Ev d 9 63 mX1_init [.ref (g19.1 + 1), .ref l1] g24 hi25 hk26 (fun r g32 hi33 hk34 => r = none ∧ ((g32.2.1 l0 = 10) ∧ (g32.2.1 (g19.1 + 1) < 200) ∧ ∀ g37 : ts_G, g37 = ts_go g32 l0 7 (g19.1 + 1) → (l0 ≤ g37.1) ∧ (l1 ≤ g37.1) ∧ (((((k + 1) + 9) + 1) + 9) + 1 ≤ mc) ∧ (((((j + 13) + 63) + 13) + 63) + 8 ≤ ms) ∧ ∀ g42 : ts_G, g42 = ts_gn g37 6 0 → ∀ hi43 : ts_I, hi43 = ts_zi hi33 (g37.1 + 1) → ∀ hk44 : ts_K, hk44 = ts_zk hk34 (g37.1 + 1) → (g42.2.1 l0 = 10) ∧ (g42.2.2.2 l0 6 ≠ 0) ∧ (g42.2.2.2 l0 3 ≠ 0) ∧ (l0 ≤ g42.1) ∧ (l1 ≤ g42.1) ∧ ((g37.1 + 1) ≤ g42.1) ∧ ((((((k + 1) + 9) + 1) + 9) + 1) + 93 ≤ mc) ∧ ((((((j + 13) + 63) + 13) + 63) + 8) + 707 ≤ ms) ∧ ts_Ev d 93 707 mX7_init [.ref (g37.1 + 1), .ref (g42.2.2.2 l0 6), .ref (g42.2.2.2 l0 3)] g42 hi43 hk44 (fun r g53 hi54 hk55 => r = none ∧ ((g53.2.1 l0 = 10) ∧ (g53.2.1 (g37.1 + 1) < 200) ∧ ∀ g58 : ts_G, g58 = ts_go g53 l0 8 (g37.1 + 1) → (((((((k + 1) + 9) + 1) + 9) + 1) + 93) ≤ mc) ∧ (((((((j + 13) + 63) + 13) + 63) + 8) + 707) ≤ ms) ∧ Q none g58 hi54 hk55))))))) ∧ (¬ (2 ≤ l2) → (g.2.1 l0 = 10) ∧ (g.2.2.2 l0 5 ≠ 0) ∧ (l0 ≤ g.1) ∧ (l1 ≤ g.1) ∧ ((g.2.2.2 l0 5) ≤ g.1) ∧ (k + 1 ≤ mc) ∧ (j + 13 ≤ ms) ∧ ∀ g68 : ts_G, g68 = ts_gn g 1 0 → ∀ hi69 : ts_I, hi69 = ts_zi hi (g.1 + 1) → ∀ hk70 : ts_K, hk70 = ts_zk hk (g.1 + 1) → (l0 ≤ g68.1) ∧ (l1 ≤ g68.1) ∧ ((g.1 + 1) ≤ g68.1) ∧ ((g.2.2.2 l0 5) ≤ g68.1) ∧ ((k + 1) + 9 ≤ mc) ∧ ((j + 13) + 63 ≤ ms) ∧ ts_Ev d 9 63 mX1_init [.ref (g.1 + 1), .ref l1] g68 hi69 hk70 (fun r g77 hi78 hk79 => r = none ∧ ((g77.2.1 (g.2.2.2 l0 5) = 104) ∧ (vp_in l2 (g77.2.2.1 (g.2.2.2 l0 5))) ∧ (g77.2.1 (g.1 + 1) = 1) ∧ ∀ g83 : ts_G, g83 = ts_go g77 (g.2.2.2 l0 5) l2.toNatClampNeg (g.1 + 1) → ts_JJ (d + 1) mc ms mX11_init none n0 Q ((k + 1) + 9) ((j + 13) + 63) 197 [(0, .ref l0), (1, .ref l1), (2, .int (l2 + 1))] [] g83 hi78 hk79)))) : ts_JJ (d + 1) mc ms mX11_init none n0 Q k j 197 [(0, .ref l0), (1, .ref l1), (2, .int l2)] [] g hi hk := by
  refine ts_iload_n 2 (pc' := 198) rfl dX11_init_197 rfl rfl ?_
  refine ts_iconst (v := 2) (pc' := 199) rfl dX11_init_198 (by decide) ?_
  refine ts_icmp_ge (pc' := 202) (tgt := 222) rfl dX11_init_199 (by decide) (fun q1 => ?_) (fun q1 => ?_)
  · replace W := W.1 q1
    refine ts_aload_n 0 (pc' := 223) rfl dX11_init_222 rfl rfl ?_
    obtain ⟨c2, W⟩ := W
    obtain ⟨c3, W⟩ := W
    obtain ⟨c4, W⟩ := W
    obtain ⟨c5, W⟩ := W
    refine ts_new (C := RX1) (T := TX1) (ci := 1) (ty0 := tyX1) (pc' := 226) rfl dX11_init_223 cfX1.1 cfX1.2.1 cfX1.2.2 hnX11_init_X1 tyX1_ok (by decide +kernel) (by decide +kernel) (by decide +kernel) ndX1 c4 c5 (ts_okP ⟨ts_okr c2, ts_okr c3, ts_oki, trivial⟩) (ts_okS ⟨ts_okr c2, trivial⟩) ?_
    obtain ⟨g6, eg6⟩ : ∃ z, z = ts_gn g 1 0 := ⟨_, rfl⟩
    obtain ⟨hi7, ehi7⟩ : ∃ z, z = ts_zi hi (g.1 + 1) := ⟨_, rfl⟩
    obtain ⟨hk8, ehk8⟩ : ∃ z, z = ts_zk hk (g.1 + 1) := ⟨_, rfl⟩
    rw [← eg6, ← ehi7, ← ehk8]; replace W := W g6 eg6 hi7 ehi7 hk8 ehk8
    refine ts_dup (pc' := 227) rfl dX11_init_226 rfl ?_
    refine ts_aload_n 1 (pc' := 228) rfl dX11_init_227 rfl rfl ?_
    obtain ⟨c9, W⟩ := W
    obtain ⟨c10, W⟩ := W
    obtain ⟨c11, W⟩ := W
    obtain ⟨c12, W⟩ := W
    obtain ⟨c13, W⟩ := W
    refine ts_callI (M' := mX1_init) (mc' := 9) (ms' := 63) (pc' := 231) (av := [.ref l1]) (b := (g.1 + 1)) rfl dX11_init_228 rfl gX11_init_X1_init rfl (by decide +kernel) (by decide +kernel) (by decide +kernel) rfl dsX1_init rfl (Nat.le_refl _) (Nat.le_of_ble_eq_true rfl) (Nat.le_of_ble_eq_true rfl) c12 c13 (Or.inr ⟨(ts_okP ⟨ts_okr c9, ts_okr c10, ts_oki, trivial⟩), (ts_okS ⟨ts_okr c11, ts_okr c9, trivial⟩)⟩) W (fun r g14 hi15 hk16 W => ?_)
    obtain ⟨rfl, W⟩ := W
    obtain ⟨c17, W⟩ := W
    obtain ⟨c18, W⟩ := W
    refine ts_putR (pc' := 234) (ft := (.object "TurnipSquires$Field")) (ci := 10) 6 cfX11.1 cfX11.2.1 cfX11.2.2 rfl (by decide) hnX11_init_X11 flX11_init_65 tyX11_ok nmX11 rfl rfl (fun _ => ⟨rfl, rfl⟩) rfl rfl rfl dX11_init_231 c17 c18 ?_
    obtain ⟨g19, eg19⟩ : ∃ z, z = ts_go g14 l0 6 (g.1 + 1) := ⟨_, rfl⟩
    rw [← eg19]; replace W := W g19 eg19
    refine ts_aload_n 0 (pc' := 235) rfl dX11_init_234 rfl rfl ?_
    obtain ⟨c20, W⟩ := W
    obtain ⟨c21, W⟩ := W
    obtain ⟨c22, W⟩ := W
    obtain ⟨c23, W⟩ := W
    refine ts_new (C := RX1) (T := TX1) (ci := 1) (ty0 := tyX1) (pc' := 238) rfl dX11_init_235 cfX1.1 cfX1.2.1 cfX1.2.2 hnX11_init_X1 tyX1_ok (by decide +kernel) (by decide +kernel) (by decide +kernel) ndX1 c22 c23 (ts_okP ⟨ts_okr c20, ts_okr c21, ts_oki, trivial⟩) (ts_okS ⟨ts_okr c20, trivial⟩) ?_
    obtain ⟨g24, eg24⟩ : ∃ z, z = ts_gn g19 1 0 := ⟨_, rfl⟩
    obtain ⟨hi25, ehi25⟩ : ∃ z, z = ts_zi hi15 (g19.1 + 1) := ⟨_, rfl⟩
    obtain ⟨hk26, ehk26⟩ : ∃ z, z = ts_zk hk16 (g19.1 + 1) := ⟨_, rfl⟩
    rw [← eg24, ← ehi25, ← ehk26]; replace W := W g24 eg24 hi25 ehi25 hk26 ehk26
    refine ts_dup (pc' := 239) rfl dX11_init_238 rfl ?_
    refine ts_aload_n 1 (pc' := 240) rfl dX11_init_239 rfl rfl ?_
    obtain ⟨c27, W⟩ := W
    obtain ⟨c28, W⟩ := W
    obtain ⟨c29, W⟩ := W
    obtain ⟨c30, W⟩ := W
    obtain ⟨c31, W⟩ := W
    refine ts_callI (M' := mX1_init) (mc' := 9) (ms' := 63) (pc' := 243) (av := [.ref l1]) (b := (g19.1 + 1)) rfl dX11_init_240 rfl gX11_init_X1_init rfl (by decide +kernel) (by decide +kernel) (by decide +kernel) rfl dsX1_init rfl (Nat.le_refl _) (Nat.le_of_ble_eq_true rfl) (Nat.le_of_ble_eq_true rfl) c30 c31 (Or.inr ⟨(ts_okP ⟨ts_okr c27, ts_okr c28, ts_oki, trivial⟩), (ts_okS ⟨ts_okr c29, ts_okr c27, trivial⟩)⟩) W (fun r g32 hi33 hk34 W => ?_)
    obtain ⟨rfl, W⟩ := W
    obtain ⟨c35, W⟩ := W
    obtain ⟨c36, W⟩ := W
    refine ts_putR (pc' := 246) (ft := (.object "TurnipSquires$Field")) (ci := 10) 7 cfX11.1 cfX11.2.1 cfX11.2.2 rfl (by decide) hnX11_init_X11 flX11_init_69 tyX11_ok nmX11 rfl rfl (fun _ => ⟨rfl, rfl⟩) rfl rfl rfl dX11_init_243 c35 c36 ?_
    obtain ⟨g37, eg37⟩ : ∃ z, z = ts_go g32 l0 7 (g19.1 + 1) := ⟨_, rfl⟩
    rw [← eg37]; replace W := W g37 eg37
    refine ts_aload_n 0 (pc' := 247) rfl dX11_init_246 rfl rfl ?_
    obtain ⟨c38, W⟩ := W
    obtain ⟨c39, W⟩ := W
    obtain ⟨c40, W⟩ := W
    obtain ⟨c41, W⟩ := W
    refine ts_new (C := RX7) (T := TX7) (ci := 6) (ty0 := tyX7) (pc' := 250) rfl dX11_init_247 cfX7.1 cfX7.2.1 cfX7.2.2 hnX11_init_X7 tyX7_ok (by decide +kernel) (by decide +kernel) (by decide +kernel) ndX7 c40 c41 (ts_okP ⟨ts_okr c38, ts_okr c39, ts_oki, trivial⟩) (ts_okS ⟨ts_okr c38, trivial⟩) ?_
    obtain ⟨g42, eg42⟩ : ∃ z, z = ts_gn g37 6 0 := ⟨_, rfl⟩
    obtain ⟨hi43, ehi43⟩ : ∃ z, z = ts_zi hi33 (g37.1 + 1) := ⟨_, rfl⟩
    obtain ⟨hk44, ehk44⟩ : ∃ z, z = ts_zk hk34 (g37.1 + 1) := ⟨_, rfl⟩
    rw [← eg42, ← ehi43, ← ehk44]; replace W := W g42 eg42 hi43 ehi43 hk44 ehk44
    refine ts_dup (pc' := 251) rfl dX11_init_250 rfl ?_
    refine ts_aload_n 0 (pc' := 252) rfl dX11_init_251 rfl rfl ?_
    obtain ⟨c45, W⟩ := W
    obtain ⟨c46, W⟩ := W
    refine ts_getR (pc' := 255) (ci := 10) 6 cfX11.1 cfX11.2.1 cfX11.2.2 rfl (by decide) hnX11_init_X11 flX11_init_65 rfl dX11_init_252 c45 c46 ?_
    refine ts_aload_n 0 (pc' := 256) rfl dX11_init_255 rfl rfl ?_
    obtain ⟨c47, W⟩ := W
    refine ts_getR (pc' := 259) (ci := 10) 3 cfX11.1 cfX11.2.1 cfX11.2.2 rfl (by decide) hnX11_init_X11 flX11_init_31 rfl dX11_init_256 c45 c47 ?_
    obtain ⟨c48, W⟩ := W
    obtain ⟨c49, W⟩ := W
    obtain ⟨c50, W⟩ := W
    obtain ⟨c51, W⟩ := W
    obtain ⟨c52, W⟩ := W
    refine ts_callI (M' := mX7_init) (mc' := 93) (ms' := 707) (pc' := 262) (av := [.ref (g42.2.2.2 l0 6), .ref (g42.2.2.2 l0 3)]) (b := (g37.1 + 1)) rfl dX11_init_259 rfl gX11_init_X7_init rfl (by decide +kernel) (by decide +kernel) (by decide +kernel) rfl dsX7_init rfl (Nat.le_refl _) (Nat.le_of_ble_eq_true rfl) (Nat.le_of_ble_eq_true rfl) c51 c52 (Or.inr ⟨(ts_okP ⟨ts_okr c48, ts_okr c49, ts_oki, trivial⟩), (ts_okS ⟨ts_okr c50, ts_okr c48, trivial⟩)⟩) W (fun r g53 hi54 hk55 W => ?_)
    obtain ⟨rfl, W⟩ := W
    obtain ⟨c56, W⟩ := W
    obtain ⟨c57, W⟩ := W
    refine ts_putR (pc' := 265) (ft := (.object "TurnipSquires$Seer")) (ci := 10) 8 cfX11.1 cfX11.2.1 cfX11.2.2 rfl (by decide) hnX11_init_X11 flX11_init_77 tyX11_ok nmX11 rfl rfl (fun _ => ⟨rfl, rfl⟩) rfl rfl rfl dX11_init_262 c56 c57 ?_
    obtain ⟨g58, eg58⟩ : ∃ z, z = ts_go g53 l0 8 (g37.1 + 1) := ⟨_, rfl⟩
    rw [← eg58]; replace W := W g58 eg58
    obtain ⟨c59, W⟩ := W
    obtain ⟨c60, W⟩ := W
    exact ts_vret dX11_init_265 rfl c59 c60 W
  · replace W := W.2 q1
    refine ts_aload_n 0 (pc' := 203) rfl dX11_init_202 rfl rfl ?_
    obtain ⟨c61, W⟩ := W
    obtain ⟨c62, W⟩ := W
    refine ts_getR (pc' := 206) (ci := 10) 5 cfX11.1 cfX11.2.1 cfX11.2.2 rfl (by decide) hnX11_init_X11 flX11_init_41 rfl dX11_init_203 c61 c62 ?_
    refine ts_iload_n 2 (pc' := 207) rfl dX11_init_206 rfl rfl ?_
    obtain ⟨c63, W⟩ := W
    obtain ⟨c64, W⟩ := W
    obtain ⟨c65, W⟩ := W
    obtain ⟨c66, W⟩ := W
    obtain ⟨c67, W⟩ := W
    refine ts_new (C := RX1) (T := TX1) (ci := 1) (ty0 := tyX1) (pc' := 210) rfl dX11_init_207 cfX1.1 cfX1.2.1 cfX1.2.2 hnX11_init_X1 tyX1_ok (by decide +kernel) (by decide +kernel) (by decide +kernel) ndX1 c66 c67 (ts_okP ⟨ts_okr c63, ts_okr c64, ts_oki, trivial⟩) (ts_okS ⟨ts_oki, ts_okr c65, trivial⟩) ?_
    obtain ⟨g68, eg68⟩ : ∃ z, z = ts_gn g 1 0 := ⟨_, rfl⟩
    obtain ⟨hi69, ehi69⟩ : ∃ z, z = ts_zi hi (g.1 + 1) := ⟨_, rfl⟩
    obtain ⟨hk70, ehk70⟩ : ∃ z, z = ts_zk hk (g.1 + 1) := ⟨_, rfl⟩
    rw [← eg68, ← ehi69, ← ehk70]; replace W := W g68 eg68 hi69 ehi69 hk70 ehk70
    refine ts_dup (pc' := 211) rfl dX11_init_210 rfl ?_
    refine ts_aload_n 1 (pc' := 212) rfl dX11_init_211 rfl rfl ?_
    obtain ⟨c71, W⟩ := W
    obtain ⟨c72, W⟩ := W
    obtain ⟨c73, W⟩ := W
    obtain ⟨c74, W⟩ := W
    obtain ⟨c75, W⟩ := W
    obtain ⟨c76, W⟩ := W
    refine ts_callI (M' := mX1_init) (mc' := 9) (ms' := 63) (pc' := 215) (av := [.ref l1]) (b := (g.1 + 1)) rfl dX11_init_212 rfl gX11_init_X1_init rfl (by decide +kernel) (by decide +kernel) (by decide +kernel) rfl dsX1_init rfl (Nat.le_refl _) (Nat.le_of_ble_eq_true rfl) (Nat.le_of_ble_eq_true rfl) c75 c76 (Or.inr ⟨(ts_okP ⟨ts_okr c71, ts_okr c72, ts_oki, trivial⟩), (ts_okS ⟨ts_okr c73, ts_oki, ts_okr c74, trivial⟩)⟩) W (fun r g77 hi78 hk79 W => ?_)
    obtain ⟨rfl, W⟩ := W
    obtain ⟨c80, W⟩ := W
    obtain ⟨c81, W⟩ := W
    obtain ⟨c82, W⟩ := W
    refine ts_aastoreF (pc' := 216) rfl dX11_init_215 c80 c81 c82 ?_
    obtain ⟨g83, eg83⟩ : ∃ z, z = ts_go g77 (g.2.2.2 l0 5) l2.toNatClampNeg (g.1 + 1) := ⟨_, rfl⟩
    rw [← eg83]; replace W := W g83 eg83
    refine ts_iinc 2 (pc' := 219) (ls' := [(2, .int (l2 + 1)), (0, .ref l0), (1, .ref l1)]) rfl dX11_init_216 rfl rfl (Nat.le_of_ble_eq_true rfl) rfl ?_
    refine ts_goto (tgt := 197) dX11_init_219 (by decide) ?_
    exact ts_lsub [1, 2, 0] rfl W
