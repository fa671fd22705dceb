/-! the walk of the law -/
abbrev mL_law : ts_M := (yL_law, cL_law, 4, some .boolean, wsL_law)
theorem hnL_law_X11 : ∀ w ∈ u_ws RX11 TX11 13, w ∈ wsL_law := inlX11
theorem hnL_law_X12 : ∀ w ∈ u_ws RX12 TX12 25, w ∈ wsL_law := inlX12
set_option maxHeartbeats 40000000 in
theorem wL_law_0 {d mc ms n0 L : Nat} {xs : Nat → Int32} {g : ts_G} {Q : ts_Q} {hi : ts_I} {hk : ts_K} (W : (0 ≤ g.1) ∧ (0 + 1 ≤ mc) ∧ (0 + 13 ≤ ms) ∧ ∀ g4 : ts_G, g4 = ts_gn g 10 0 → ∀ hi5 : ts_I, hi5 = ts_zi hi (g.1 + 1) → ∀ hk6 : ts_K, hk6 = ts_zk hk (g.1 + 1) → (0 ≤ g4.1) ∧ ((g.1 + 1) ≤ g4.1) ∧ ((0 + 1) + 403 ≤ mc) ∧ ((0 + 13) + 3353 ≤ ms) ∧ ts_Ev d 403 3353 mX11_init [.ref (g.1 + 1)] g4 hi5 hk6 (fun r g11 hi12 hk13 => r = none ∧ (((g.1 + 1) ≤ g11.1) ∧ (0 ≤ g11.1) ∧ (((0 + 1) + 403) + 1 ≤ mc) ∧ (((0 + 13) + 3353) + 25 ≤ ms) ∧ ∀ g18 : ts_G, g18 = ts_gn g11 11 0 → ∀ hi19 : ts_I, hi19 = ts_zi hi12 (g11.1 + 1) → ∀ hk20 : ts_K, hk20 = ts_zk hk13 (g11.1 + 1) → ((g.1 + 1) ≤ g18.1) ∧ (0 ≤ g18.1) ∧ ((g11.1 + 1) ≤ g18.1) ∧ ((((0 + 1) + 403) + 1) + 15 ≤ mc) ∧ ((((0 + 13) + 3353) + 25) + 1839 ≤ ms) ∧ ts_Ev d 15 1839 mX12_init [.ref (g11.1 + 1)] g18 hi19 hk20 (fun r g26 hi27 hk28 => r = none ∧ (ts_JJ (d + 1) mc ms mL_law (some (L, xs)) n0 Q ((((0 + 1) + 403) + 1) + 15) ((((0 + 13) + 3353) + 25) + 1839) 18 [(0, .ref 0), (1, .ref (g.1 + 1)), (2, .ref (g11.1 + 1)), (3, .int 0)] [] g26 hi27 hk28))))) : ts_JJ (d + 1) mc ms mL_law (some (L, xs)) n0 Q 0 0 0 [(0, .ref 0)] [] g hi hk := by
  obtain ⟨c1, W⟩ := W
  obtain ⟨c2, W⟩ := W
  obtain ⟨c3, W⟩ := W
  refine ts_new (C := RX11) (T := TX11) (ci := 10) (ty0 := tyX11) (pc' := 3) rfl dL_law_0 cfX11.1 cfX11.2.1 cfX11.2.2 hnL_law_X11 tyX11_ok (by decide +kernel) (by decide +kernel) (by decide +kernel) ndX11 c2 c3 (ts_okP ⟨ts_okr c1, trivial⟩) (ts_okS trivial) ?_
  obtain ⟨g4, eg4⟩ : ∃ z, z = ts_gn g 10 0 := ⟨_, rfl⟩
  obtain ⟨hi5, ehi5⟩ : ∃ z, z = ts_zi hi (g.1 + 1) := ⟨_, rfl⟩
  obtain ⟨hk6, ehk6⟩ : ∃ z, z = ts_zk hk (g.1 + 1) := ⟨_, rfl⟩
  rw [← eg4, ← ehi5, ← ehk6]; replace W := W g4 eg4 hi5 ehi5 hk6 ehk6
  refine ts_dup (pc' := 4) rfl dL_law_3 rfl ?_
  obtain ⟨c7, W⟩ := W
  obtain ⟨c8, W⟩ := W
  obtain ⟨c9, W⟩ := W
  obtain ⟨c10, W⟩ := W
  refine ts_callI (M' := mX11_init) (mc' := 403) (ms' := 3353) (pc' := 7) (av := []) (b := (g.1 + 1)) rfl dL_law_4 rfl gL_law_X11_init rfl (by decide +kernel) (by decide +kernel) (by decide +kernel) rfl dsX11_init rfl (Nat.le_refl _) (Nat.le_of_ble_eq_true rfl) (Nat.le_of_ble_eq_true rfl) c9 c10 (Or.inr ⟨(ts_okP ⟨ts_okr c7, trivial⟩), (ts_okS ⟨ts_okr c8, trivial⟩)⟩) W (fun r g11 hi12 hk13 W => ?_)
  obtain ⟨rfl, W⟩ := W
  refine ts_astore_n (pc' := 8) (ls' := [(1, .ref (g.1 + 1)), (0, .ref 0)]) rfl dL_law_7 rfl (Nat.le_of_ble_eq_true rfl) rfl ?_
  obtain ⟨c14, W⟩ := W
  obtain ⟨c15, W⟩ := W
  obtain ⟨c16, W⟩ := W
  obtain ⟨c17, W⟩ := W
  refine ts_new (C := RX12) (T := TX12) (ci := 11) (ty0 := tyX12) (pc' := 11) rfl dL_law_8 cfX12.1 cfX12.2.1 cfX12.2.2 hnL_law_X12 tyX12_ok (by decide +kernel) (by decide +kernel) (by decide +kernel) ndX12 c16 c17 (ts_okP ⟨ts_okr c14, ts_okr c15, trivial⟩) (ts_okS trivial) ?_
  obtain ⟨g18, eg18⟩ : ∃ z, z = ts_gn g11 11 0 := ⟨_, rfl⟩
  obtain ⟨hi19, ehi19⟩ : ∃ z, z = ts_zi hi12 (g11.1 + 1) := ⟨_, rfl⟩
  obtain ⟨hk20, ehk20⟩ : ∃ z, z = ts_zk hk13 (g11.1 + 1) := ⟨_, rfl⟩
  rw [← eg18, ← ehi19, ← ehk20]; replace W := W g18 eg18 hi19 ehi19 hk20 ehk20
  refine ts_dup (pc' := 12) rfl dL_law_11 rfl ?_
  obtain ⟨c21, W⟩ := W
  obtain ⟨c22, W⟩ := W
  obtain ⟨c23, W⟩ := W
  obtain ⟨c24, W⟩ := W
  obtain ⟨c25, W⟩ := W
  refine ts_callI (M' := mX12_init) (mc' := 15) (ms' := 1839) (pc' := 15) (av := []) (b := (g11.1 + 1)) rfl dL_law_12 rfl gL_law_X12_init rfl (by decide +kernel) (by decide +kernel) (by decide +kernel) rfl dsX12_init rfl (Nat.le_refl _) (Nat.le_of_ble_eq_true rfl) (Nat.le_of_ble_eq_true rfl) c24 c25 (Or.inr ⟨(ts_okP ⟨ts_okr c21, ts_okr c22, trivial⟩), (ts_okS ⟨ts_okr c23, trivial⟩)⟩) W (fun r g26 hi27 hk28 W => ?_)
  obtain ⟨rfl, W⟩ := W
  refine ts_astore_n (pc' := 16) (ls' := [(2, .ref (g11.1 + 1)), (1, .ref (g.1 + 1)), (0, .ref 0)]) rfl dL_law_15 rfl (Nat.le_of_ble_eq_true rfl) rfl ?_
  refine ts_iconst (v := 0) (pc' := 17) rfl dL_law_16 (by decide) ?_
  refine ts_istore_n (pc' := 18) (ls' := [(3, .int 0), (2, .ref (g11.1 + 1)), (1, .ref (g.1 + 1)), (0, .ref 0)]) rfl dL_law_17 rfl (Nat.le_of_ble_eq_true rfl) rfl ?_
  exact ts_lsub [3, 2, 1, 0] rfl W
set_option maxHeartbeats 40000000 in
theorem wL_law_18 {d mc ms n0 L : Nat} {xs : Nat → Int32} {g : ts_G} {Q : ts_Q} {l1 : Nat} {l2 : Nat} {l3 : Int32} {k j : Nat} {hi : ts_I} {hk : ts_K} (W : ((((Int32.ofNat L) - 6) < l3) → (k ≤ mc) ∧ (j ≤ ms) ∧ Q (some (.int 1)) g hi hk) ∧ (¬ (((Int32.ofNat L) - 6) < l3) → (vp_in l3 L) ∧ (((xs l3.toNatClampNeg) &&& 63) = 0 → (vp_in (l3 + 1) L) ∧ (vp_in (l3 + 2) L) ∧ (vp_in (l3 + 3) L) ∧ (g.2.1 l1 = 10) ∧ (k ≤ mc) ∧ (j ≤ ms) ∧ ts_E0 d mX11_row [.ref l1, .int (xs (l3 + 1).toNatClampNeg), .int (xs (l3 + 2).toNatClampNeg), .int (xs (l3 + 3).toNatClampNeg)] g hi hk (ts_qi (fun v12 hi13 hk14 => (g.2.1 l2 = 11) ∧ ts_E0 d mX12_row [.ref l2, .int (xs (l3 + 1).toNatClampNeg), .int (xs (l3 + 2).toNatClampNeg), .int (xs (l3 + 3).toNatClampNeg)] g hi13 hk14 (ts_qi (fun v16 hi17 hk18 => ((v12 = v16) → ts_JJ (d + 1) mc ms mL_law (some (L, xs)) n0 Q k j 18 [(0, .ref 0), (1, .ref l1), (2, .ref l2), (3, .int (l3 + 6))] [] g hi17 hk18) ∧ (¬ (v12 = v16) → Q (some (.int 0)) g hi17 hk18)))))) ∧ (((xs l3.toNatClampNeg) &&& 63) = 1 → (vp_in (l3 + 1) L) ∧ (vp_in (l3 + 2) L) ∧ (vp_in (l3 + 3) L) ∧ (g.2.1 l1 = 10) ∧ (k ≤ mc) ∧ (j ≤ ms) ∧ ts_E0 d mX11_set [.ref l1, .int (xs (l3 + 1).toNatClampNeg), .int (xs (l3 + 2).toNatClampNeg), .int (xs (l3 + 3).toNatClampNeg)] g hi hk (ts_qi (fun v27 hi28 hk29 => (g.2.1 l2 = 11) ∧ ts_E0 d mX12_set [.ref l2, .int (xs (l3 + 1).toNatClampNeg), .int (xs (l3 + 2).toNatClampNeg), .int (xs (l3 + 3).toNatClampNeg)] g hi28 hk29 (ts_qi (fun v31 hi32 hk33 => ((v27 = v31) → ts_JJ (d + 1) mc ms mL_law (some (L, xs)) n0 Q k j 18 [(0, .ref 0), (1, .ref l1), (2, .ref l2), (3, .int (l3 + 6))] [] g hi32 hk33) ∧ (¬ (v27 = v31) → Q (some (.int 0)) g hi32 hk33)))))) ∧ (((xs l3.toNatClampNeg) &&& 63) = 2 → (vp_in (l3 + 1) L) ∧ (vp_in (l3 + 2) L) ∧ (vp_in (l3 + 3) L) ∧ (vp_in (l3 + 4) L) ∧ (vp_in (l3 + 5) L) ∧ (g.2.1 l1 = 10) ∧ (k ≤ mc) ∧ (j ≤ ms) ∧ ts_E0 d mX11_copy [.ref l1, .int (xs (l3 + 1).toNatClampNeg), .int (xs (l3 + 2).toNatClampNeg), .int (xs (l3 + 3).toNatClampNeg), .int (xs (l3 + 4).toNatClampNeg), .int (xs (l3 + 5).toNatClampNeg)] g hi hk (ts_qi (fun v44 hi45 hk46 => (g.2.1 l2 = 11) ∧ ts_E0 d mX12_copy [.ref l2, .int (xs (l3 + 1).toNatClampNeg), .int (xs (l3 + 2).toNatClampNeg), .int (xs (l3 + 3).toNatClampNeg), .int (xs (l3 + 4).toNatClampNeg), .int (xs (l3 + 5).toNatClampNeg)] g hi45 hk46 (ts_qi (fun v48 hi49 hk50 => ((v44 = v48) → ts_JJ (d + 1) mc ms mL_law (some (L, xs)) n0 Q k j 18 [(0, .ref 0), (1, .ref l1), (2, .ref l2), (3, .int (l3 + 6))] [] g hi49 hk50) ∧ (¬ (v44 = v48) → Q (some (.int 0)) g hi49 hk50)))))) ∧ (((xs l3.toNatClampNeg) &&& 63) = 3 → (vp_in (l3 + 1) L) ∧ (g.2.1 l1 = 10) ∧ (k ≤ mc) ∧ (j ≤ ms) ∧ ts_E0 d mX11_drop [.ref l1, .int (xs (l3 + 1).toNatClampNeg)] g hi hk (ts_qi (fun v57 hi58 hk59 => (g.2.1 l2 = 11) ∧ ts_E0 d mX12_drop [.ref l2, .int (xs (l3 + 1).toNatClampNeg)] g hi58 hk59 (ts_qi (fun v61 hi62 hk63 => ((v57 = v61) → ts_JJ (d + 1) mc ms mL_law (some (L, xs)) n0 Q k j 18 [(0, .ref 0), (1, .ref l1), (2, .ref l2), (3, .int (l3 + 6))] [] g hi62 hk63) ∧ (¬ (v57 = v61) → Q (some (.int 0)) g hi62 hk63)))))) ∧ (((xs l3.toNatClampNeg) &&& 63) = 4 → (vp_in (l3 + 1) L) ∧ (g.2.1 l1 = 10) ∧ (k ≤ mc) ∧ (j ≤ ms) ∧ ts_E0 d mX11_feed [.ref l1, .int (xs (l3 + 1).toNatClampNeg)] g hi hk (ts_qi (fun v70 hi71 hk72 => (g.2.1 l2 = 11) ∧ ts_E0 d mX12_feed [.ref l2, .int (xs (l3 + 1).toNatClampNeg)] g hi71 hk72 (ts_qi (fun v74 hi75 hk76 => ((v70 = v74) → ts_JJ (d + 1) mc ms mL_law (some (L, xs)) n0 Q k j 18 [(0, .ref 0), (1, .ref l1), (2, .ref l2), (3, .int (l3 + 6))] [] g hi75 hk76) ∧ (¬ (v70 = v74) → Q (some (.int 0)) g hi75 hk76)))))) ∧ (((xs l3.toNatClampNeg) &&& 63) = 5 → (g.2.1 l1 = 10) ∧ (k ≤ mc) ∧ (j ≤ ms) ∧ ts_E0 d mX11_field [.ref l1] g hi hk (ts_qi (fun v82 hi83 hk84 => (g.2.1 l2 = 11) ∧ ts_E0 d mX12_field [.ref l2] g hi83 hk84 (ts_qi (fun v86 hi87 hk88 => ((v82 = v86) → ts_JJ (d + 1) mc ms mL_law (some (L, xs)) n0 Q k j 18 [(0, .ref 0), (1, .ref l1), (2, .ref l2), (3, .int (l3 + 6))] [] g hi87 hk88) ∧ (¬ (v82 = v86) → Q (some (.int 0)) g hi87 hk88)))))) ∧ (((xs l3.toNatClampNeg) &&& 63) = 6 → (g.2.1 l1 = 10) ∧ (k ≤ mc) ∧ (j ≤ ms) ∧ ts_E0 d mX11_fault [.ref l1] g hi hk (ts_qi (fun v94 hi95 hk96 => (g.2.1 l2 = 11) ∧ ts_E0 d mX12_fault [.ref l2] g hi95 hk96 (ts_qi (fun v98 hi99 hk100 => ((v94 = v98) → ts_JJ (d + 1) mc ms mL_law (some (L, xs)) n0 Q k j 18 [(0, .ref 0), (1, .ref l1), (2, .ref l2), (3, .int (l3 + 6))] [] g hi99 hk100) ∧ (¬ (v94 = v98) → Q (some (.int 0)) g hi99 hk100)))))) ∧ (((xs l3.toNatClampNeg) &&& 63) = 7 → (vp_in (l3 + 1) L) ∧ (g.2.1 l1 = 10) ∧ (k ≤ mc) ∧ (j ≤ ms) ∧ ts_E0 d mX11_years [.ref l1, .int (xs (l3 + 1).toNatClampNeg)] g hi hk (ts_qi (fun v107 hi108 hk109 => (g.2.1 l2 = 11) ∧ ts_E0 d mX12_years [.ref l2, .int (xs (l3 + 1).toNatClampNeg)] g hi108 hk109 (ts_qi (fun v111 hi112 hk113 => ((v107 = v111) → ts_JJ (d + 1) mc ms mL_law (some (L, xs)) n0 Q k j 18 [(0, .ref 0), (1, .ref l1), (2, .ref l2), (3, .int (l3 + 6))] [] g hi112 hk113) ∧ (¬ (v107 = v111) → Q (some (.int 0)) g hi112 hk113)))))) ∧ (((xs l3.toNatClampNeg) &&& 63) = 8 → (vp_in (l3 + 1) L) ∧ (vp_in (l3 + 2) L) ∧ (g.2.1 l1 = 10) ∧ (k ≤ mc) ∧ (j ≤ ms) ∧ ts_E0 d mX11_marry [.ref l1, .int (xs (l3 + 1).toNatClampNeg), .int (xs (l3 + 2).toNatClampNeg)] g hi hk (ts_qi (fun v121 hi122 hk123 => (g.2.1 l2 = 11) ∧ ts_E0 d mX12_marry [.ref l2, .int (xs (l3 + 1).toNatClampNeg), .int (xs (l3 + 2).toNatClampNeg)] g hi122 hk123 (ts_qi (fun v125 hi126 hk127 => ((v121 = v125) → ts_JJ (d + 1) mc ms mL_law (some (L, xs)) n0 Q k j 18 [(0, .ref 0), (1, .ref l1), (2, .ref l2), (3, .int (l3 + 6))] [] g hi126 hk127) ∧ (¬ (v121 = v125) → Q (some (.int 0)) g hi126 hk127)))))) ∧ (((xs l3.toNatClampNeg) &&& 63) = 9 → (vp_in (l3 + 1) L) ∧ (g.2.1 l1 = 10) ∧ (k ≤ mc) ∧ (j ≤ ms) ∧ ts_E0 d mX11_part [.ref l1, .int (xs (l3 + 1).toNatClampNeg)] g hi hk (ts_qi (fun v134 hi135 hk136 => (g.2.1 l2 = 11) ∧ ts_E0 d mX12_part [.ref l2, .int (xs (l3 + 1).toNatClampNeg)] g hi135 hk136 (ts_qi (fun v138 hi139 hk140 => ((v134 = v138) → ts_JJ (d + 1) mc ms mL_law (some (L, xs)) n0 Q k j 18 [(0, .ref 0), (1, .ref l1), (2, .ref l2), (3, .int (l3 + 6))] [] g hi139 hk140) ∧ (¬ (v134 = v138) → Q (some (.int 0)) g hi139 hk140)))))) ∧ (((xs l3.toNatClampNeg) &&& 63) = 10 → (vp_in (l3 + 1) L) ∧ (vp_in (l3 + 2) L) ∧ (g.2.1 l1 = 10) ∧ (k ≤ mc) ∧ (j ≤ ms) ∧ ts_E0 d mX11_swap [.ref l1, .int (xs (l3 + 1).toNatClampNeg), .int (xs (l3 + 2).toNatClampNeg)] g hi hk (ts_qi (fun v148 hi149 hk150 => (g.2.1 l2 = 11) ∧ ts_E0 d mX12_swap [.ref l2, .int (xs (l3 + 1).toNatClampNeg), .int (xs (l3 + 2).toNatClampNeg)] g hi149 hk150 (ts_qi (fun v152 hi153 hk154 => ((v148 = v152) → ts_JJ (d + 1) mc ms mL_law (some (L, xs)) n0 Q k j 18 [(0, .ref 0), (1, .ref l1), (2, .ref l2), (3, .int (l3 + 6))] [] g hi153 hk154) ∧ (¬ (v148 = v152) → Q (some (.int 0)) g hi153 hk154)))))) ∧ (((xs l3.toNatClampNeg) &&& 63) = 11 → (vp_in (l3 + 1) L) ∧ (g.2.1 l1 = 10) ∧ (k ≤ mc) ∧ (j ≤ ms) ∧ ts_E0 d mX11_lean [.ref l1, .int (xs (l3 + 1).toNatClampNeg)] g hi hk (ts_qi (fun v161 hi162 hk163 => (g.2.1 l2 = 11) ∧ ts_E0 d mX12_lean [.ref l2, .int (xs (l3 + 1).toNatClampNeg)] g hi162 hk163 (ts_qi (fun v165 hi166 hk167 => ((v161 = v165) → ts_JJ (d + 1) mc ms mL_law (some (L, xs)) n0 Q k j 18 [(0, .ref 0), (1, .ref l1), (2, .ref l2), (3, .int (l3 + 6))] [] g hi166 hk167) ∧ (¬ (v161 = v165) → Q (some (.int 0)) g hi166 hk167)))))) ∧ (((xs l3.toNatClampNeg) &&& 63) = 12 → (vp_in (l3 + 1) L) ∧ (g.2.1 l1 = 10) ∧ (k ≤ mc) ∧ (j ≤ ms) ∧ ts_E0 d mX11_ground [.ref l1, .int (xs (l3 + 1).toNatClampNeg)] g hi hk (ts_qi (fun v174 hi175 hk176 => (g.2.1 l2 = 11) ∧ ts_E0 d mX12_ground [.ref l2, .int (xs (l3 + 1).toNatClampNeg)] g hi175 hk176 (ts_qi (fun v178 hi179 hk180 => ((v174 = v178) → ts_JJ (d + 1) mc ms mL_law (some (L, xs)) n0 Q k j 18 [(0, .ref 0), (1, .ref l1), (2, .ref l2), (3, .int (l3 + 6))] [] g hi179 hk180) ∧ (¬ (v174 = v178) → Q (some (.int 0)) g hi179 hk180)))))) ∧ (((xs l3.toNatClampNeg) &&& 63) = 13 → (g.2.1 l1 = 10) ∧ (k ≤ mc) ∧ (j ≤ ms) ∧ ts_E0 d mX11_undo [.ref l1] g hi hk (ts_qi (fun v186 hi187 hk188 => (g.2.1 l2 = 11) ∧ ts_E0 d mX12_undo [.ref l2] g hi187 hk188 (ts_qi (fun v190 hi191 hk192 => ((v186 = v190) → ts_JJ (d + 1) mc ms mL_law (some (L, xs)) n0 Q k j 18 [(0, .ref 0), (1, .ref l1), (2, .ref l2), (3, .int (l3 + 6))] [] g hi191 hk192) ∧ (¬ (v186 = v190) → Q (some (.int 0)) g hi191 hk192)))))) ∧ (((xs l3.toNatClampNeg) &&& 63) = 14 → (vp_in (l3 + 1) L) ∧ (vp_in (l3 + 2) L) ∧ (g.2.1 l1 = 10) ∧ (k ≤ mc) ∧ (j ≤ ms) ∧ ts_E0 d mX11_turnip [.ref l1, .int (xs (l3 + 1).toNatClampNeg), .int (xs (l3 + 2).toNatClampNeg)] g hi hk (ts_qi (fun v200 hi201 hk202 => (g.2.1 l2 = 11) ∧ ts_E0 d mX12_turnip [.ref l2, .int (xs (l3 + 1).toNatClampNeg), .int (xs (l3 + 2).toNatClampNeg)] g hi201 hk202 (ts_qi (fun v204 hi205 hk206 => ((v200 = v204) → ts_JJ (d + 1) mc ms mL_law (some (L, xs)) n0 Q k j 18 [(0, .ref 0), (1, .ref l1), (2, .ref l2), (3, .int (l3 + 6))] [] g hi205 hk206) ∧ (¬ (v200 = v204) → Q (some (.int 0)) g hi205 hk206)))))) ∧ (((xs l3.toNatClampNeg) &&& 63) = 15 → (vp_in (l3 + 1) L) ∧ (g.2.1 l1 = 10) ∧ (k ≤ mc) ∧ (j ≤ ms) ∧ ts_E0 d mX11_place [.ref l1, .int (xs (l3 + 1).toNatClampNeg)] g hi hk (ts_qi (fun v213 hi214 hk215 => (g.2.1 l2 = 11) ∧ ts_E0 d mX12_place [.ref l2, .int (xs (l3 + 1).toNatClampNeg)] g hi214 hk215 (ts_qi (fun v217 hi218 hk219 => ((v213 = v217) → ts_JJ (d + 1) mc ms mL_law (some (L, xs)) n0 Q k j 18 [(0, .ref 0), (1, .ref l1), (2, .ref l2), (3, .int (l3 + 6))] [] g hi218 hk219) ∧ (¬ (v213 = v217) → Q (some (.int 0)) g hi218 hk219)))))) ∧ (((xs l3.toNatClampNeg) &&& 63) = 16 → (vp_in (l3 + 1) L) ∧ (vp_in (l3 + 2) L) ∧ (vp_in (l3 + 3) L) ∧ (g.2.1 l1 = 10) ∧ (k ≤ mc) ∧ (j ≤ ms) ∧ ts_E0 d mX11_ahead [.ref l1, .int (xs (l3 + 1).toNatClampNeg), .int (xs (l3 + 2).toNatClampNeg), .int (xs (l3 + 3).toNatClampNeg)] g hi hk (ts_qi (fun v228 hi229 hk230 => (g.2.1 l2 = 11) ∧ ts_E0 d mX12_ahead [.ref l2, .int (xs (l3 + 1).toNatClampNeg), .int (xs (l3 + 2).toNatClampNeg), .int (xs (l3 + 3).toNatClampNeg)] g hi229 hk230 (ts_qi (fun v232 hi233 hk234 => ((v228 = v232) → ts_JJ (d + 1) mc ms mL_law (some (L, xs)) n0 Q k j 18 [(0, .ref 0), (1, .ref l1), (2, .ref l2), (3, .int (l3 + 6))] [] g hi233 hk234) ∧ (¬ (v228 = v232) → Q (some (.int 0)) g hi233 hk234)))))) ∧ (((xs l3.toNatClampNeg) &&& 63) = 17 → (vp_in (l3 + 1) L) ∧ (vp_in (l3 + 2) L) ∧ (g.2.1 l1 = 10) ∧ (k ≤ mc) ∧ (j ≤ ms) ∧ ts_E0 d mX11_risen [.ref l1, .int (xs (l3 + 1).toNatClampNeg), .int (xs (l3 + 2).toNatClampNeg)] g hi hk (ts_qi (fun v242 hi243 hk244 => (g.2.1 l2 = 11) ∧ ts_E0 d mX12_risen [.ref l2, .int (xs (l3 + 1).toNatClampNeg), .int (xs (l3 + 2).toNatClampNeg)] g hi243 hk244 (ts_qi (fun v246 hi247 hk248 => ((v242 = v246) → ts_JJ (d + 1) mc ms mL_law (some (L, xs)) n0 Q k j 18 [(0, .ref 0), (1, .ref l1), (2, .ref l2), (3, .int (l3 + 6))] [] g hi247 hk248) ∧ (¬ (v242 = v246) → Q (some (.int 0)) g hi247 hk248)))))) ∧ (((xs l3.toNatClampNeg) &&& 63) = 18 → (vp_in (l3 + 1) L) ∧ (g.2.1 l1 = 10) ∧ (k ≤ mc) ∧ (j ≤ ms) ∧ ts_E0 d mX11_squire [.ref l1, .int (xs (l3 + 1).toNatClampNeg)] g hi hk (ts_qi (fun v255 hi256 hk257 => (g.2.1 l2 = 11) ∧ ts_E0 d mX12_squire [.ref l2, .int (xs (l3 + 1).toNatClampNeg)] g hi256 hk257 (ts_qi (fun v259 hi260 hk261 => ((v255 = v259) → ts_JJ (d + 1) mc ms mL_law (some (L, xs)) n0 Q k j 18 [(0, .ref 0), (1, .ref l1), (2, .ref l2), (3, .int (l3 + 6))] [] g hi260 hk261) ∧ (¬ (v255 = v259) → Q (some (.int 0)) g hi260 hk261)))))) ∧ (((xs l3.toNatClampNeg) &&& 63) = 19 → (vp_in (l3 + 1) L) ∧ (vp_in (l3 + 2) L) ∧ (g.2.1 l1 = 10) ∧ (k ≤ mc) ∧ (j ≤ ms) ∧ ts_E0 d mX11_pairs [.ref l1, .int (xs (l3 + 1).toNatClampNeg), .int (xs (l3 + 2).toNatClampNeg)] g hi hk (ts_qi (fun v269 hi270 hk271 => (g.2.1 l2 = 11) ∧ ts_E0 d mX12_pairs [.ref l2, .int (xs (l3 + 1).toNatClampNeg), .int (xs (l3 + 2).toNatClampNeg)] g hi270 hk271 (ts_qi (fun v273 hi274 hk275 => ((v269 = v273) → ts_JJ (d + 1) mc ms mL_law (some (L, xs)) n0 Q k j 18 [(0, .ref 0), (1, .ref l1), (2, .ref l2), (3, .int (l3 + 6))] [] g hi274 hk275) ∧ (¬ (v269 = v273) → Q (some (.int 0)) g hi274 hk275)))))) ∧ (((xs l3.toNatClampNeg) &&& 63) = 20 → (vp_in (l3 + 1) L) ∧ (vp_in (l3 + 2) L) ∧ (g.2.1 l1 = 10) ∧ (k ≤ mc) ∧ (j ≤ ms) ∧ ts_E0 d mX11_change [.ref l1, .int (xs (l3 + 1).toNatClampNeg), .int (xs (l3 + 2).toNatClampNeg)] g hi hk (ts_qi (fun v283 hi284 hk285 => (g.2.1 l2 = 11) ∧ ts_E0 d mX12_change [.ref l2, .int (xs (l3 + 1).toNatClampNeg), .int (xs (l3 + 2).toNatClampNeg)] g hi284 hk285 (ts_qi (fun v287 hi288 hk289 => ((v283 = v287) → ts_JJ (d + 1) mc ms mL_law (some (L, xs)) n0 Q k j 18 [(0, .ref 0), (1, .ref l1), (2, .ref l2), (3, .int (l3 + 6))] [] g hi288 hk289) ∧ (¬ (v283 = v287) → Q (some (.int 0)) g hi288 hk289)))))) ∧ (((xs l3.toNatClampNeg) &&& 63) = 21 → (vp_in (l3 + 1) L) ∧ (g.2.1 l1 = 10) ∧ (k ≤ mc) ∧ (j ≤ ms) ∧ ts_E0 d mX11_power [.ref l1, .int (xs (l3 + 1).toNatClampNeg)] g hi hk (ts_qi (fun v296 hi297 hk298 => (g.2.1 l2 = 11) ∧ ts_E0 d mX12_power [.ref l2, .int (xs (l3 + 1).toNatClampNeg)] g hi297 hk298 (ts_qi (fun v300 hi301 hk302 => ((v296 = v300) → ts_JJ (d + 1) mc ms mL_law (some (L, xs)) n0 Q k j 18 [(0, .ref 0), (1, .ref l1), (2, .ref l2), (3, .int (l3 + 6))] [] g hi301 hk302) ∧ (¬ (v296 = v300) → Q (some (.int 0)) g hi301 hk302)))))) ∧ (((xs l3.toNatClampNeg) &&& 63) = 22 → (vp_in (l3 + 1) L) ∧ (g.2.1 l1 = 10) ∧ (k ≤ mc) ∧ (j ≤ ms) ∧ ts_E0 d mX11_blocs [.ref l1, .int (xs (l3 + 1).toNatClampNeg)] g hi hk (ts_qi (fun v309 hi310 hk311 => (g.2.1 l2 = 11) ∧ ts_E0 d mX12_blocs [.ref l2, .int (xs (l3 + 1).toNatClampNeg)] g hi310 hk311 (ts_qi (fun v313 hi314 hk315 => ((v309 = v313) → ts_JJ (d + 1) mc ms mL_law (some (L, xs)) n0 Q k j 18 [(0, .ref 0), (1, .ref l1), (2, .ref l2), (3, .int (l3 + 6))] [] g hi314 hk315) ∧ (¬ (v309 = v313) → Q (some (.int 0)) g hi314 hk315)))))) ∧ (((xs l3.toNatClampNeg) &&& 63) = 23 → (vp_in (l3 + 1) L) ∧ (vp_in (l3 + 2) L) ∧ (vp_in (l3 + 3) L) ∧ (vp_in (l3 + 4) L) ∧ (vp_in (l3 + 5) L) ∧ (g.2.1 l1 = 10) ∧ (k ≤ mc) ∧ (j ≤ ms) ∧ ts_E0 d mX11_fits [.ref l1, .int (xs (l3 + 1).toNatClampNeg), .int (xs (l3 + 2).toNatClampNeg), .int (xs (l3 + 3).toNatClampNeg), .int (xs (l3 + 4).toNatClampNeg), .int (xs (l3 + 5).toNatClampNeg)] g hi hk (ts_qi (fun v326 hi327 hk328 => (g.2.1 l2 = 11) ∧ ts_E0 d mX12_fits [.ref l2, .int (xs (l3 + 1).toNatClampNeg), .int (xs (l3 + 2).toNatClampNeg), .int (xs (l3 + 3).toNatClampNeg), .int (xs (l3 + 4).toNatClampNeg), .int (xs (l3 + 5).toNatClampNeg)] g hi327 hk328 (ts_qi (fun v330 hi331 hk332 => ((v326 = v330) → ts_JJ (d + 1) mc ms mL_law (some (L, xs)) n0 Q k j 18 [(0, .ref 0), (1, .ref l1), (2, .ref l2), (3, .int (l3 + 6))] [] g hi331 hk332) ∧ (¬ (v326 = v330) → Q (some (.int 0)) g hi331 hk332)))))) ∧ (((xs l3.toNatClampNeg) &&& 63) = 24 → (vp_in (l3 + 1) L) ∧ (vp_in (l3 + 2) L) ∧ (vp_in (l3 + 3) L) ∧ (vp_in (l3 + 4) L) ∧ (vp_in (l3 + 5) L) ∧ (g.2.1 l1 = 10) ∧ (k ≤ mc) ∧ (j ≤ ms) ∧ ts_E0 d mX11_chance [.ref l1, .int (xs (l3 + 1).toNatClampNeg), .int (xs (l3 + 2).toNatClampNeg), .int (xs (l3 + 3).toNatClampNeg), .int (xs (l3 + 4).toNatClampNeg), .int (xs (l3 + 5).toNatClampNeg)] g hi hk (ts_qi (fun v343 hi344 hk345 => (g.2.1 l2 = 11) ∧ ts_E0 d mX12_chance [.ref l2, .int (xs (l3 + 1).toNatClampNeg), .int (xs (l3 + 2).toNatClampNeg), .int (xs (l3 + 3).toNatClampNeg), .int (xs (l3 + 4).toNatClampNeg), .int (xs (l3 + 5).toNatClampNeg)] g hi344 hk345 (ts_qi (fun v347 hi348 hk349 => ((v343 = v347) → ts_JJ (d + 1) mc ms mL_law (some (L, xs)) n0 Q k j 18 [(0, .ref 0), (1, .ref l1), (2, .ref l2), (3, .int (l3 + 6))] [] g hi348 hk349) ∧ (¬ (v343 = v347) → Q (some (.int 0)) g hi348 hk349)))))) ∧ (((xs l3.toNatClampNeg) &&& 63) = 25 → (vp_in (l3 + 1) L) ∧ (vp_in (l3 + 2) L) ∧ (vp_in (l3 + 3) L) ∧ (g.2.1 l1 = 10) ∧ (k ≤ mc) ∧ (j ≤ ms) ∧ ts_E0 d mX11_drawn [.ref l1, .int (xs (l3 + 1).toNatClampNeg), .int (xs (l3 + 2).toNatClampNeg), .int (xs (l3 + 3).toNatClampNeg)] g hi hk (ts_qi (fun v358 hi359 hk360 => (g.2.1 l2 = 11) ∧ ts_E0 d mX12_drawn [.ref l2, .int (xs (l3 + 1).toNatClampNeg), .int (xs (l3 + 2).toNatClampNeg), .int (xs (l3 + 3).toNatClampNeg)] g hi359 hk360 (ts_qi (fun v362 hi363 hk364 => ((v358 = v362) → ts_JJ (d + 1) mc ms mL_law (some (L, xs)) n0 Q k j 18 [(0, .ref 0), (1, .ref l1), (2, .ref l2), (3, .int (l3 + 6))] [] g hi363 hk364) ∧ (¬ (v358 = v362) → Q (some (.int 0)) g hi363 hk364)))))) ∧ (((xs l3.toNatClampNeg) &&& 63) = 26 → (vp_in (l3 + 1) L) ∧ (g.2.1 l1 = 10) ∧ (k ≤ mc) ∧ (j ≤ ms) ∧ ts_E0 d mX11_image [.ref l1, .int (xs (l3 + 1).toNatClampNeg)] g hi hk (ts_qi (fun v371 hi372 hk373 => (g.2.1 l2 = 11) ∧ ts_E0 d mX12_image [.ref l2, .int (xs (l3 + 1).toNatClampNeg)] g hi372 hk373 (ts_qi (fun v375 hi376 hk377 => ((v371 = v375) → ts_JJ (d + 1) mc ms mL_law (some (L, xs)) n0 Q k j 18 [(0, .ref 0), (1, .ref l1), (2, .ref l2), (3, .int (l3 + 6))] [] g hi376 hk377) ∧ (¬ (v371 = v375) → Q (some (.int 0)) g hi376 hk377)))))) ∧ (((xs l3.toNatClampNeg) &&& 63) = 27 → (vp_in (l3 + 1) L) ∧ (g.2.1 l1 = 10) ∧ (k ≤ mc) ∧ (j ≤ ms) ∧ ts_E0 d mX11_restore [.ref l1, .int (xs (l3 + 1).toNatClampNeg)] g hi hk (ts_qi (fun v384 hi385 hk386 => (g.2.1 l2 = 11) ∧ ts_E0 d mX12_restore [.ref l2, .int (xs (l3 + 1).toNatClampNeg)] g hi385 hk386 (ts_qi (fun v388 hi389 hk390 => ((v384 = v388) → ts_JJ (d + 1) mc ms mL_law (some (L, xs)) n0 Q k j 18 [(0, .ref 0), (1, .ref l1), (2, .ref l2), (3, .int (l3 + 6))] [] g hi389 hk390) ∧ (¬ (v384 = v388) → Q (some (.int 0)) g hi389 hk390)))))) ∧ (((xs l3.toNatClampNeg) &&& 63) = 28 → (vp_in (l3 + 1) L) ∧ (g.2.1 l1 = 10) ∧ (k ≤ mc) ∧ (j ≤ ms) ∧ ts_E0 d mX11_kind [.ref l1, .int (xs (l3 + 1).toNatClampNeg)] g hi hk (ts_qi (fun v397 hi398 hk399 => (g.2.1 l2 = 11) ∧ ts_E0 d mX12_kind [.ref l2, .int (xs (l3 + 1).toNatClampNeg)] g hi398 hk399 (ts_qi (fun v401 hi402 hk403 => ((v397 = v401) → ts_JJ (d + 1) mc ms mL_law (some (L, xs)) n0 Q k j 18 [(0, .ref 0), (1, .ref l1), (2, .ref l2), (3, .int (l3 + 6))] [] g hi402 hk403) ∧ (¬ (v397 = v401) → Q (some (.int 0)) g hi402 hk403)))))) ∧ (((xs l3.toNatClampNeg) &&& 63) = 29 → (vp_in (l3 + 1) L) ∧ (vp_in (l3 + 2) L) ∧ (g.2.1 l1 = 10) ∧ (k ≤ mc) ∧ (j ≤ ms) ∧ ts_E0 d mX11_as [.ref l1, .int (xs (l3 + 1).toNatClampNeg), .int (xs (l3 + 2).toNatClampNeg)] g hi hk (ts_qi (fun v411 hi412 hk413 => (g.2.1 l2 = 11) ∧ ts_E0 d mX12_as [.ref l2, .int (xs (l3 + 1).toNatClampNeg), .int (xs (l3 + 2).toNatClampNeg)] g hi412 hk413 (ts_qi (fun v415 hi416 hk417 => ((v411 = v415) → ts_JJ (d + 1) mc ms mL_law (some (L, xs)) n0 Q k j 18 [(0, .ref 0), (1, .ref l1), (2, .ref l2), (3, .int (l3 + 6))] [] g hi416 hk417) ∧ (¬ (v411 = v415) → Q (some (.int 0)) g hi416 hk417)))))) ∧ (((xs l3.toNatClampNeg) &&& 63) = 30 → (vp_in (l3 + 1) L) ∧ (vp_in (l3 + 2) L) ∧ (g.2.1 l1 = 10) ∧ (k ≤ mc) ∧ (j ≤ ms) ∧ ts_E0 d mX11_ask [.ref l1, .int (xs (l3 + 1).toNatClampNeg), .int (xs (l3 + 2).toNatClampNeg)] g hi hk (ts_qi (fun v425 hi426 hk427 => (g.2.1 l2 = 11) ∧ ts_E0 d mX12_ask [.ref l2, .int (xs (l3 + 1).toNatClampNeg), .int (xs (l3 + 2).toNatClampNeg)] g hi426 hk427 (ts_qi (fun v429 hi430 hk431 => ((v425 = v429) → ts_JJ (d + 1) mc ms mL_law (some (L, xs)) n0 Q k j 18 [(0, .ref 0), (1, .ref l1), (2, .ref l2), (3, .int (l3 + 6))] [] g hi430 hk431) ∧ (¬ (v425 = v429) → Q (some (.int 0)) g hi430 hk431)))))) ∧ (((xs l3.toNatClampNeg) &&& 63) = 31 → (vp_in (l3 + 1) L) ∧ (g.2.1 l1 = 10) ∧ (k ≤ mc) ∧ (j ≤ ms) ∧ ts_E0 d mX11_trace [.ref l1, .int (xs (l3 + 1).toNatClampNeg)] g hi hk (ts_qi (fun v438 hi439 hk440 => (g.2.1 l2 = 11) ∧ ts_E0 d mX12_trace [.ref l2, .int (xs (l3 + 1).toNatClampNeg)] g hi439 hk440 (ts_qi (fun v442 hi443 hk444 => ((v438 = v442) → ts_JJ (d + 1) mc ms mL_law (some (L, xs)) n0 Q k j 18 [(0, .ref 0), (1, .ref l1), (2, .ref l2), (3, .int (l3 + 6))] [] g hi443 hk444) ∧ (¬ (v438 = v442) → Q (some (.int 0)) g hi443 hk444)))))) ∧ (((xs l3.toNatClampNeg) &&& 63) = 32 → (vp_in (l3 + 1) L) ∧ (g.2.1 l1 = 10) ∧ (k ≤ mc) ∧ (j ≤ ms) ∧ ts_E0 d mX11_count [.ref l1, .int (xs (l3 + 1).toNatClampNeg)] g hi hk (ts_qi (fun v451 hi452 hk453 => (g.2.1 l2 = 11) ∧ ts_E0 d mX12_count [.ref l2, .int (xs (l3 + 1).toNatClampNeg)] g hi452 hk453 (ts_qi (fun v455 hi456 hk457 => ((v451 = v455) → ts_JJ (d + 1) mc ms mL_law (some (L, xs)) n0 Q k j 18 [(0, .ref 0), (1, .ref l1), (2, .ref l2), (3, .int (l3 + 6))] [] g hi456 hk457) ∧ (¬ (v451 = v455) → Q (some (.int 0)) g hi456 hk457)))))) ∧ (((xs l3.toNatClampNeg) &&& 63) = 33 → (g.2.1 l1 = 10) ∧ (k ≤ mc) ∧ (j ≤ ms) ∧ ts_E0 d mX11_status [.ref l1] g hi hk (ts_qi (fun v463 hi464 hk465 => (g.2.1 l2 = 11) ∧ ts_E0 d mX12_status [.ref l2] g hi464 hk465 (ts_qi (fun v467 hi468 hk469 => ((v463 = v467) → ts_JJ (d + 1) mc ms mL_law (some (L, xs)) n0 Q k j 18 [(0, .ref 0), (1, .ref l1), (2, .ref l2), (3, .int (l3 + 6))] [] g hi468 hk469) ∧ (¬ (v463 = v467) → Q (some (.int 0)) g hi468 hk469)))))) ∧ (¬ ((xs l3.toNatClampNeg) &&& 63) = 0 → ¬ ((xs l3.toNatClampNeg) &&& 63) = 1 → ¬ ((xs l3.toNatClampNeg) &&& 63) = 2 → ¬ ((xs l3.toNatClampNeg) &&& 63) = 3 → ¬ ((xs l3.toNatClampNeg) &&& 63) = 4 → ¬ ((xs l3.toNatClampNeg) &&& 63) = 5 → ¬ ((xs l3.toNatClampNeg) &&& 63) = 6 → ¬ ((xs l3.toNatClampNeg) &&& 63) = 7 → ¬ ((xs l3.toNatClampNeg) &&& 63) = 8 → ¬ ((xs l3.toNatClampNeg) &&& 63) = 9 → ¬ ((xs l3.toNatClampNeg) &&& 63) = 10 → ¬ ((xs l3.toNatClampNeg) &&& 63) = 11 → ¬ ((xs l3.toNatClampNeg) &&& 63) = 12 → ¬ ((xs l3.toNatClampNeg) &&& 63) = 13 → ¬ ((xs l3.toNatClampNeg) &&& 63) = 14 → ¬ ((xs l3.toNatClampNeg) &&& 63) = 15 → ¬ ((xs l3.toNatClampNeg) &&& 63) = 16 → ¬ ((xs l3.toNatClampNeg) &&& 63) = 17 → ¬ ((xs l3.toNatClampNeg) &&& 63) = 18 → ¬ ((xs l3.toNatClampNeg) &&& 63) = 19 → ¬ ((xs l3.toNatClampNeg) &&& 63) = 20 → ¬ ((xs l3.toNatClampNeg) &&& 63) = 21 → ¬ ((xs l3.toNatClampNeg) &&& 63) = 22 → ¬ ((xs l3.toNatClampNeg) &&& 63) = 23 → ¬ ((xs l3.toNatClampNeg) &&& 63) = 24 → ¬ ((xs l3.toNatClampNeg) &&& 63) = 25 → ¬ ((xs l3.toNatClampNeg) &&& 63) = 26 → ¬ ((xs l3.toNatClampNeg) &&& 63) = 27 → ¬ ((xs l3.toNatClampNeg) &&& 63) = 28 → ¬ ((xs l3.toNatClampNeg) &&& 63) = 29 → ¬ ((xs l3.toNatClampNeg) &&& 63) = 30 → ¬ ((xs l3.toNatClampNeg) &&& 63) = 31 → ¬ ((xs l3.toNatClampNeg) &&& 63) = 32 → ¬ ((xs l3.toNatClampNeg) &&& 63) = 33 → ts_JJ (d + 1) mc ms mL_law (some (L, xs)) n0 Q k j 18 [(0, .ref 0), (1, .ref l1), (2, .ref l2), (3, .int (l3 + 6))] [] g hi hk))) : ts_JJ (d + 1) mc ms mL_law (some (L, xs)) n0 Q k j 18 [(0, .ref 0), (1, .ref l1), (2, .ref l2), (3, .int l3)] [] g hi hk := by
  refine ts_iload_n 3 (pc' := 19) rfl dL_law_18 rfl rfl ?_
  refine ts_aload_n 0 (pc' := 20) rfl dL_law_19 rfl rfl ?_
  refine ts_slen (pc' := 21) rfl dL_law_20 ?_
  refine ts_bipush (v := 6) (pc' := 23) rfl dL_law_21 (by decide) ?_
  refine ts_isub (pc' := 24) rfl dL_law_23 ?_
  refine ts_icmp_gt (pc' := 27) (tgt := 1212) rfl dL_law_24 (by decide) (fun q1 => ?_) (fun q1 => ?_)
  · replace W := W.1 q1
    refine ts_iconst (v := 1) (pc' := 1213) rfl dL_law_1212 (by decide) ?_
    obtain ⟨c2, W⟩ := W
    obtain ⟨c3, W⟩ := W
    exact ts_zret dL_law_1213 rfl (by decide) c2 c3 W
  · replace W := W.2 q1
    refine ts_aload_n 0 (pc' := 28) rfl dL_law_27 rfl rfl ?_
    refine ts_iload_n 3 (pc' := 29) rfl dL_law_28 rfl rfl ?_
    obtain ⟨c4, W⟩ := W
    refine ts_sld (pc' := 30) rfl dL_law_29 c4 ?_
    refine ts_bipush (v := 63) (pc' := 32) rfl dL_law_30 (by decide) ?_
    refine ts_iand (pc' := 33) rfl dL_law_32 ?_
    by_cases q5 : ((xs l3.toNatClampNeg) &&& 63) = 0
    · replace W := W.1 q5
      refine ts_tableI (i := 0) (off := 151) (tgt := 184) dL_law_33 (by rw [q5]; rfl) (by decide) (by decide) rfl (by decide) ?_
      refine ts_aload_n 1 (pc' := 185) rfl dL_law_184 rfl rfl ?_
      refine ts_aload_n 0 (pc' := 186) rfl dL_law_185 rfl rfl ?_
      refine ts_iload_n 3 (pc' := 187) rfl dL_law_186 rfl rfl ?_
      refine ts_iconst (v := 1) (pc' := 188) rfl dL_law_187 (by decide) ?_
      refine ts_iadd (pc' := 189) rfl dL_law_188 ?_
      obtain ⟨c6, W⟩ := W
      refine ts_sld (pc' := 190) rfl dL_law_189 c6 ?_
      refine ts_aload_n 0 (pc' := 191) rfl dL_law_190 rfl rfl ?_
      refine ts_iload_n 3 (pc' := 192) rfl dL_law_191 rfl rfl ?_
      refine ts_iconst (v := 2) (pc' := 193) rfl dL_law_192 (by decide) ?_
      refine ts_iadd (pc' := 194) rfl dL_law_193 ?_
      obtain ⟨c7, W⟩ := W
      refine ts_sld (pc' := 195) rfl dL_law_194 c7 ?_
      refine ts_aload_n 0 (pc' := 196) rfl dL_law_195 rfl rfl ?_
      refine ts_iload_n 3 (pc' := 197) rfl dL_law_196 rfl rfl ?_
      refine ts_iconst (v := 3) (pc' := 198) rfl dL_law_197 (by decide) ?_
      refine ts_iadd (pc' := 199) rfl dL_law_198 ?_
      obtain ⟨c8, W⟩ := W
      refine ts_sld (pc' := 200) rfl dL_law_199 c8 ?_
      obtain ⟨c9, W⟩ := W
      obtain ⟨c10, W⟩ := W
      obtain ⟨c11, W⟩ := W
      refine ts_callV (M' := mX11_row) (C := RX11) (mc' := 0) (ms' := 0) (pc' := 203) (av := [.int (xs (l3 + 1).toNatClampNeg), .int (xs (l3 + 2).toNatClampNeg), .int (xs (l3 + 3).toNatClampNeg)]) (b := l1) rfl dL_law_200 rfl gL_law_X11_row rfl dvX11_row rfl (ci := 10) cfX11.1 (by decide) c9 (Nat.le_refl _) (Nat.le_of_ble_eq_true rfl) (Nat.le_of_ble_eq_true rfl) c10 c11 ts_kv0 W (ts_kki fun v12 hi13 hk14 W => ?_)
      refine ts_aload_n 2 (pc' := 204) rfl dL_law_203 rfl rfl ?_
      refine ts_aload_n 0 (pc' := 205) rfl dL_law_204 rfl rfl ?_
      refine ts_iload_n 3 (pc' := 206) rfl dL_law_205 rfl rfl ?_
      refine ts_iconst (v := 1) (pc' := 207) rfl dL_law_206 (by decide) ?_
      refine ts_iadd (pc' := 208) rfl dL_law_207 ?_
      refine ts_sld (pc' := 209) rfl dL_law_208 c6 ?_
      refine ts_aload_n 0 (pc' := 210) rfl dL_law_209 rfl rfl ?_
      refine ts_iload_n 3 (pc' := 211) rfl dL_law_210 rfl rfl ?_
      refine ts_iconst (v := 2) (pc' := 212) rfl dL_law_211 (by decide) ?_
      refine ts_iadd (pc' := 213) rfl dL_law_212 ?_
      refine ts_sld (pc' := 214) rfl dL_law_213 c7 ?_
      refine ts_aload_n 0 (pc' := 215) rfl dL_law_214 rfl rfl ?_
      refine ts_iload_n 3 (pc' := 216) rfl dL_law_215 rfl rfl ?_
      refine ts_iconst (v := 3) (pc' := 217) rfl dL_law_216 (by decide) ?_
      refine ts_iadd (pc' := 218) rfl dL_law_217 ?_
      refine ts_sld (pc' := 219) rfl dL_law_218 c8 ?_
      obtain ⟨c15, W⟩ := W
      refine ts_callV (M' := mX12_row) (C := RX12) (mc' := 0) (ms' := 0) (pc' := 222) (av := [.int (xs (l3 + 1).toNatClampNeg), .int (xs (l3 + 2).toNatClampNeg), .int (xs (l3 + 3).toNatClampNeg)]) (b := l2) rfl dL_law_219 rfl gL_law_X12_row rfl dvX12_row rfl (ci := 11) cfX12.1 (by decide) c15 (Nat.le_refl _) (Nat.le_of_ble_eq_true rfl) (Nat.le_of_ble_eq_true rfl) c10 c11 ts_kv0 W (ts_kki fun v16 hi17 hk18 W => ?_)
      refine ts_icmp_eq (pc' := 225) (tgt := 1206) rfl dL_law_222 (by decide) (fun q19 => ?_) (fun q19 => ?_)
      · replace W := W.1 q19
        refine ts_iinc 3 (pc' := 1209) (ls' := [(3, .int (l3 + 6)), (0, .ref 0), (1, .ref l1), (2, .ref l2)]) rfl dL_law_1206 rfl rfl (Nat.le_of_ble_eq_true rfl) rfl ?_
        refine ts_goto (tgt := 18) dL_law_1209 (by decide) ?_
        exact ts_lsub [1, 2, 3, 0] rfl W
      · replace W := W.2 q19
        refine ts_iconst (v := 0) (pc' := 226) rfl dL_law_225 (by decide) ?_
        exact ts_zret dL_law_226 rfl (by decide) c10 c11 W
    replace W := W.2
    by_cases q20 : ((xs l3.toNatClampNeg) &&& 63) = 1
    · replace W := W.1 q20
      refine ts_tableI (i := 1) (off := 194) (tgt := 227) dL_law_33 (by rw [q20]; rfl) (by decide) (by decide) rfl (by decide) ?_
      refine ts_aload_n 1 (pc' := 228) rfl dL_law_227 rfl rfl ?_
      refine ts_aload_n 0 (pc' := 229) rfl dL_law_228 rfl rfl ?_
      refine ts_iload_n 3 (pc' := 230) rfl dL_law_229 rfl rfl ?_
      refine ts_iconst (v := 1) (pc' := 231) rfl dL_law_230 (by decide) ?_
      refine ts_iadd (pc' := 232) rfl dL_law_231 ?_
      obtain ⟨c21, W⟩ := W
      refine ts_sld (pc' := 233) rfl dL_law_232 c21 ?_
      refine ts_aload_n 0 (pc' := 234) rfl dL_law_233 rfl rfl ?_
      refine ts_iload_n 3 (pc' := 235) rfl dL_law_234 rfl rfl ?_
      refine ts_iconst (v := 2) (pc' := 236) rfl dL_law_235 (by decide) ?_
      refine ts_iadd (pc' := 237) rfl dL_law_236 ?_
      obtain ⟨c22, W⟩ := W
      refine ts_sld (pc' := 238) rfl dL_law_237 c22 ?_
      refine ts_aload_n 0 (pc' := 239) rfl dL_law_238 rfl rfl ?_
      refine ts_iload_n 3 (pc' := 240) rfl dL_law_239 rfl rfl ?_
      refine ts_iconst (v := 3) (pc' := 241) rfl dL_law_240 (by decide) ?_
      refine ts_iadd (pc' := 242) rfl dL_law_241 ?_
      obtain ⟨c23, W⟩ := W
      refine ts_sld (pc' := 243) rfl dL_law_242 c23 ?_
      obtain ⟨c24, W⟩ := W
      obtain ⟨c25, W⟩ := W
      obtain ⟨c26, W⟩ := W
      refine ts_callV (M' := mX11_set) (C := RX11) (mc' := 0) (ms' := 0) (pc' := 246) (av := [.int (xs (l3 + 1).toNatClampNeg), .int (xs (l3 + 2).toNatClampNeg), .int (xs (l3 + 3).toNatClampNeg)]) (b := l1) rfl dL_law_243 rfl gL_law_X11_set rfl dvX11_set rfl (ci := 10) cfX11.1 (by decide) c24 (Nat.le_refl _) (Nat.le_of_ble_eq_true rfl) (Nat.le_of_ble_eq_true rfl) c25 c26 ts_kv0 W (ts_kki fun v27 hi28 hk29 W => ?_)
      refine ts_aload_n 2 (pc' := 247) rfl dL_law_246 rfl rfl ?_
      refine ts_aload_n 0 (pc' := 248) rfl dL_law_247 rfl rfl ?_
      refine ts_iload_n 3 (pc' := 249) rfl dL_law_248 rfl rfl ?_
      refine ts_iconst (v := 1) (pc' := 250) rfl dL_law_249 (by decide) ?_
      refine ts_iadd (pc' := 251) rfl dL_law_250 ?_
      refine ts_sld (pc' := 252) rfl dL_law_251 c21 ?_
      refine ts_aload_n 0 (pc' := 253) rfl dL_law_252 rfl rfl ?_
      refine ts_iload_n 3 (pc' := 254) rfl dL_law_253 rfl rfl ?_
      refine ts_iconst (v := 2) (pc' := 255) rfl dL_law_254 (by decide) ?_
      refine ts_iadd (pc' := 256) rfl dL_law_255 ?_
      refine ts_sld (pc' := 257) rfl dL_law_256 c22 ?_
      refine ts_aload_n 0 (pc' := 258) rfl dL_law_257 rfl rfl ?_
      refine ts_iload_n 3 (pc' := 259) rfl dL_law_258 rfl rfl ?_
      refine ts_iconst (v := 3) (pc' := 260) rfl dL_law_259 (by decide) ?_
      refine ts_iadd (pc' := 261) rfl dL_law_260 ?_
      refine ts_sld (pc' := 262) rfl dL_law_261 c23 ?_
      obtain ⟨c30, W⟩ := W
      refine ts_callV (M' := mX12_set) (C := RX12) (mc' := 0) (ms' := 0) (pc' := 265) (av := [.int (xs (l3 + 1).toNatClampNeg), .int (xs (l3 + 2).toNatClampNeg), .int (xs (l3 + 3).toNatClampNeg)]) (b := l2) rfl dL_law_262 rfl gL_law_X12_set rfl dvX12_set rfl (ci := 11) cfX12.1 (by decide) c30 (Nat.le_refl _) (Nat.le_of_ble_eq_true rfl) (Nat.le_of_ble_eq_true rfl) c25 c26 ts_kv0 W (ts_kki fun v31 hi32 hk33 W => ?_)
      refine ts_icmp_eq (pc' := 268) (tgt := 1206) rfl dL_law_265 (by decide) (fun q34 => ?_) (fun q34 => ?_)
      · replace W := W.1 q34
        refine ts_iinc 3 (pc' := 1209) (ls' := [(3, .int (l3 + 6)), (0, .ref 0), (1, .ref l1), (2, .ref l2)]) rfl dL_law_1206 rfl rfl (Nat.le_of_ble_eq_true rfl) rfl ?_
        refine ts_goto (tgt := 18) dL_law_1209 (by decide) ?_
        exact ts_lsub [1, 2, 3, 0] rfl W
      · replace W := W.2 q34
        refine ts_iconst (v := 0) (pc' := 269) rfl dL_law_268 (by decide) ?_
        exact ts_zret dL_law_269 rfl (by decide) c25 c26 W
    replace W := W.2
    by_cases q35 : ((xs l3.toNatClampNeg) &&& 63) = 2
    · replace W := W.1 q35
      refine ts_tableI (i := 2) (off := 237) (tgt := 270) dL_law_33 (by rw [q35]; rfl) (by decide) (by decide) rfl (by decide) ?_
      refine ts_aload_n 1 (pc' := 271) rfl dL_law_270 rfl rfl ?_
      refine ts_aload_n 0 (pc' := 272) rfl dL_law_271 rfl rfl ?_
      refine ts_iload_n 3 (pc' := 273) rfl dL_law_272 rfl rfl ?_
      refine ts_iconst (v := 1) (pc' := 274) rfl dL_law_273 (by decide) ?_
      refine ts_iadd (pc' := 275) rfl dL_law_274 ?_
      obtain ⟨c36, W⟩ := W
      refine ts_sld (pc' := 276) rfl dL_law_275 c36 ?_
      refine ts_aload_n 0 (pc' := 277) rfl dL_law_276 rfl rfl ?_
      refine ts_iload_n 3 (pc' := 278) rfl dL_law_277 rfl rfl ?_
      refine ts_iconst (v := 2) (pc' := 279) rfl dL_law_278 (by decide) ?_
      refine ts_iadd (pc' := 280) rfl dL_law_279 ?_
      obtain ⟨c37, W⟩ := W
      refine ts_sld (pc' := 281) rfl dL_law_280 c37 ?_
      refine ts_aload_n 0 (pc' := 282) rfl dL_law_281 rfl rfl ?_
      refine ts_iload_n 3 (pc' := 283) rfl dL_law_282 rfl rfl ?_
      refine ts_iconst (v := 3) (pc' := 284) rfl dL_law_283 (by decide) ?_
      refine ts_iadd (pc' := 285) rfl dL_law_284 ?_
      obtain ⟨c38, W⟩ := W
      refine ts_sld (pc' := 286) rfl dL_law_285 c38 ?_
      refine ts_aload_n 0 (pc' := 287) rfl dL_law_286 rfl rfl ?_
      refine ts_iload_n 3 (pc' := 288) rfl dL_law_287 rfl rfl ?_
      refine ts_iconst (v := 4) (pc' := 289) rfl dL_law_288 (by decide) ?_
      refine ts_iadd (pc' := 290) rfl dL_law_289 ?_
      obtain ⟨c39, W⟩ := W
      refine ts_sld (pc' := 291) rfl dL_law_290 c39 ?_
      refine ts_aload_n 0 (pc' := 292) rfl dL_law_291 rfl rfl ?_
      refine ts_iload_n 3 (pc' := 293) rfl dL_law_292 rfl rfl ?_
      refine ts_iconst (v := 5) (pc' := 294) rfl dL_law_293 (by decide) ?_
      refine ts_iadd (pc' := 295) rfl dL_law_294 ?_
      obtain ⟨c40, W⟩ := W
      refine ts_sld (pc' := 296) rfl dL_law_295 c40 ?_
      obtain ⟨c41, W⟩ := W
      obtain ⟨c42, W⟩ := W
      obtain ⟨c43, W⟩ := W
      refine ts_callV (M' := mX11_copy) (C := RX11) (mc' := 0) (ms' := 0) (pc' := 299) (av := [.int (xs (l3 + 1).toNatClampNeg), .int (xs (l3 + 2).toNatClampNeg), .int (xs (l3 + 3).toNatClampNeg), .int (xs (l3 + 4).toNatClampNeg), .int (xs (l3 + 5).toNatClampNeg)]) (b := l1) rfl dL_law_296 rfl gL_law_X11_copy rfl dvX11_copy rfl (ci := 10) cfX11.1 (by decide) c41 (Nat.le_refl _) (Nat.le_of_ble_eq_true rfl) (Nat.le_of_ble_eq_true rfl) c42 c43 ts_kv0 W (ts_kki fun v44 hi45 hk46 W => ?_)
      refine ts_aload_n 2 (pc' := 300) rfl dL_law_299 rfl rfl ?_
      refine ts_aload_n 0 (pc' := 301) rfl dL_law_300 rfl rfl ?_
      refine ts_iload_n 3 (pc' := 302) rfl dL_law_301 rfl rfl ?_
      refine ts_iconst (v := 1) (pc' := 303) rfl dL_law_302 (by decide) ?_
      refine ts_iadd (pc' := 304) rfl dL_law_303 ?_
      refine ts_sld (pc' := 305) rfl dL_law_304 c36 ?_
      refine ts_aload_n 0 (pc' := 306) rfl dL_law_305 rfl rfl ?_
      refine ts_iload_n 3 (pc' := 307) rfl dL_law_306 rfl rfl ?_
      refine ts_iconst (v := 2) (pc' := 308) rfl dL_law_307 (by decide) ?_
      refine ts_iadd (pc' := 309) rfl dL_law_308 ?_
      refine ts_sld (pc' := 310) rfl dL_law_309 c37 ?_
      refine ts_aload_n 0 (pc' := 311) rfl dL_law_310 rfl rfl ?_
      refine ts_iload_n 3 (pc' := 312) rfl dL_law_311 rfl rfl ?_
      refine ts_iconst (v := 3) (pc' := 313) rfl dL_law_312 (by decide) ?_
      refine ts_iadd (pc' := 314) rfl dL_law_313 ?_
      refine ts_sld (pc' := 315) rfl dL_law_314 c38 ?_
      refine ts_aload_n 0 (pc' := 316) rfl dL_law_315 rfl rfl ?_
      refine ts_iload_n 3 (pc' := 317) rfl dL_law_316 rfl rfl ?_
      refine ts_iconst (v := 4) (pc' := 318) rfl dL_law_317 (by decide) ?_
      refine ts_iadd (pc' := 319) rfl dL_law_318 ?_
      refine ts_sld (pc' := 320) rfl dL_law_319 c39 ?_
      refine ts_aload_n 0 (pc' := 321) rfl dL_law_320 rfl rfl ?_
      refine ts_iload_n 3 (pc' := 322) rfl dL_law_321 rfl rfl ?_
      refine ts_iconst (v := 5) (pc' := 323) rfl dL_law_322 (by decide) ?_
      refine ts_iadd (pc' := 324) rfl dL_law_323 ?_
      refine ts_sld (pc' := 325) rfl dL_law_324 c40 ?_
      obtain ⟨c47, W⟩ := W
      refine ts_callV (M' := mX12_copy) (C := RX12) (mc' := 0) (ms' := 0) (pc' := 328) (av := [.int (xs (l3 + 1).toNatClampNeg), .int (xs (l3 + 2).toNatClampNeg), .int (xs (l3 + 3).toNatClampNeg), .int (xs (l3 + 4).toNatClampNeg), .int (xs (l3 + 5).toNatClampNeg)]) (b := l2) rfl dL_law_325 rfl gL_law_X12_copy rfl dvX12_copy rfl (ci := 11) cfX12.1 (by decide) c47 (Nat.le_refl _) (Nat.le_of_ble_eq_true rfl) (Nat.le_of_ble_eq_true rfl) c42 c43 ts_kv0 W (ts_kki fun v48 hi49 hk50 W => ?_)
      refine ts_icmp_eq (pc' := 331) (tgt := 1206) rfl dL_law_328 (by decide) (fun q51 => ?_) (fun q51 => ?_)
      · replace W := W.1 q51
        refine ts_iinc 3 (pc' := 1209) (ls' := [(3, .int (l3 + 6)), (0, .ref 0), (1, .ref l1), (2, .ref l2)]) rfl dL_law_1206 rfl rfl (Nat.le_of_ble_eq_true rfl) rfl ?_
        refine ts_goto (tgt := 18) dL_law_1209 (by decide) ?_
        exact ts_lsub [1, 2, 3, 0] rfl W
      · replace W := W.2 q51
        refine ts_iconst (v := 0) (pc' := 332) rfl dL_law_331 (by decide) ?_
        exact ts_zret dL_law_332 rfl (by decide) c42 c43 W
    replace W := W.2
    by_cases q52 : ((xs l3.toNatClampNeg) &&& 63) = 3
    · replace W := W.1 q52
      refine ts_tableI (i := 3) (off := 300) (tgt := 333) dL_law_33 (by rw [q52]; rfl) (by decide) (by decide) rfl (by decide) ?_
      refine ts_aload_n 1 (pc' := 334) rfl dL_law_333 rfl rfl ?_
      refine ts_aload_n 0 (pc' := 335) rfl dL_law_334 rfl rfl ?_
      refine ts_iload_n 3 (pc' := 336) rfl dL_law_335 rfl rfl ?_
      refine ts_iconst (v := 1) (pc' := 337) rfl dL_law_336 (by decide) ?_
      refine ts_iadd (pc' := 338) rfl dL_law_337 ?_
      obtain ⟨c53, W⟩ := W
      refine ts_sld (pc' := 339) rfl dL_law_338 c53 ?_
      obtain ⟨c54, W⟩ := W
      obtain ⟨c55, W⟩ := W
      obtain ⟨c56, W⟩ := W
      refine ts_callV (M' := mX11_drop) (C := RX11) (mc' := 0) (ms' := 0) (pc' := 342) (av := [.int (xs (l3 + 1).toNatClampNeg)]) (b := l1) rfl dL_law_339 rfl gL_law_X11_drop rfl dvX11_drop rfl (ci := 10) cfX11.1 (by decide) c54 (Nat.le_refl _) (Nat.le_of_ble_eq_true rfl) (Nat.le_of_ble_eq_true rfl) c55 c56 ts_kv0 W (ts_kki fun v57 hi58 hk59 W => ?_)
      refine ts_aload_n 2 (pc' := 343) rfl dL_law_342 rfl rfl ?_
      refine ts_aload_n 0 (pc' := 344) rfl dL_law_343 rfl rfl ?_
      refine ts_iload_n 3 (pc' := 345) rfl dL_law_344 rfl rfl ?_
      refine ts_iconst (v := 1) (pc' := 346) rfl dL_law_345 (by decide) ?_
      refine ts_iadd (pc' := 347) rfl dL_law_346 ?_
      refine ts_sld (pc' := 348) rfl dL_law_347 c53 ?_
      obtain ⟨c60, W⟩ := W
      refine ts_callV (M' := mX12_drop) (C := RX12) (mc' := 0) (ms' := 0) (pc' := 351) (av := [.int (xs (l3 + 1).toNatClampNeg)]) (b := l2) rfl dL_law_348 rfl gL_law_X12_drop rfl dvX12_drop rfl (ci := 11) cfX12.1 (by decide) c60 (Nat.le_refl _) (Nat.le_of_ble_eq_true rfl) (Nat.le_of_ble_eq_true rfl) c55 c56 ts_kv0 W (ts_kki fun v61 hi62 hk63 W => ?_)
      refine ts_icmp_eq (pc' := 354) (tgt := 1206) rfl dL_law_351 (by decide) (fun q64 => ?_) (fun q64 => ?_)
      · replace W := W.1 q64
        refine ts_iinc 3 (pc' := 1209) (ls' := [(3, .int (l3 + 6)), (0, .ref 0), (1, .ref l1), (2, .ref l2)]) rfl dL_law_1206 rfl rfl (Nat.le_of_ble_eq_true rfl) rfl ?_
        refine ts_goto (tgt := 18) dL_law_1209 (by decide) ?_
        exact ts_lsub [1, 2, 3, 0] rfl W
      · replace W := W.2 q64
        refine ts_iconst (v := 0) (pc' := 355) rfl dL_law_354 (by decide) ?_
        exact ts_zret dL_law_355 rfl (by decide) c55 c56 W
    replace W := W.2
    by_cases q65 : ((xs l3.toNatClampNeg) &&& 63) = 4
    · replace W := W.1 q65
      refine ts_tableI (i := 4) (off := 323) (tgt := 356) dL_law_33 (by rw [q65]; rfl) (by decide) (by decide) rfl (by decide) ?_
      refine ts_aload_n 1 (pc' := 357) rfl dL_law_356 rfl rfl ?_
      refine ts_aload_n 0 (pc' := 358) rfl dL_law_357 rfl rfl ?_
      refine ts_iload_n 3 (pc' := 359) rfl dL_law_358 rfl rfl ?_
      refine ts_iconst (v := 1) (pc' := 360) rfl dL_law_359 (by decide) ?_
      refine ts_iadd (pc' := 361) rfl dL_law_360 ?_
      obtain ⟨c66, W⟩ := W
      refine ts_sld (pc' := 362) rfl dL_law_361 c66 ?_
      obtain ⟨c67, W⟩ := W
      obtain ⟨c68, W⟩ := W
      obtain ⟨c69, W⟩ := W
      refine ts_callV (M' := mX11_feed) (C := RX11) (mc' := 0) (ms' := 0) (pc' := 365) (av := [.int (xs (l3 + 1).toNatClampNeg)]) (b := l1) rfl dL_law_362 rfl gL_law_X11_feed rfl dvX11_feed rfl (ci := 10) cfX11.1 (by decide) c67 (Nat.le_refl _) (Nat.le_of_ble_eq_true rfl) (Nat.le_of_ble_eq_true rfl) c68 c69 ts_kv0 W (ts_kki fun v70 hi71 hk72 W => ?_)
      refine ts_aload_n 2 (pc' := 366) rfl dL_law_365 rfl rfl ?_
      refine ts_aload_n 0 (pc' := 367) rfl dL_law_366 rfl rfl ?_
      refine ts_iload_n 3 (pc' := 368) rfl dL_law_367 rfl rfl ?_
      refine ts_iconst (v := 1) (pc' := 369) rfl dL_law_368 (by decide) ?_
      refine ts_iadd (pc' := 370) rfl dL_law_369 ?_
      refine ts_sld (pc' := 371) rfl dL_law_370 c66 ?_
      obtain ⟨c73, W⟩ := W
      refine ts_callV (M' := mX12_feed) (C := RX12) (mc' := 0) (ms' := 0) (pc' := 374) (av := [.int (xs (l3 + 1).toNatClampNeg)]) (b := l2) rfl dL_law_371 rfl gL_law_X12_feed rfl dvX12_feed rfl (ci := 11) cfX12.1 (by decide) c73 (Nat.le_refl _) (Nat.le_of_ble_eq_true rfl) (Nat.le_of_ble_eq_true rfl) c68 c69 ts_kv0 W (ts_kki fun v74 hi75 hk76 W => ?_)
      refine ts_icmp_eq (pc' := 377) (tgt := 1206) rfl dL_law_374 (by decide) (fun q77 => ?_) (fun q77 => ?_)
      · replace W := W.1 q77
        refine ts_iinc 3 (pc' := 1209) (ls' := [(3, .int (l3 + 6)), (0, .ref 0), (1, .ref l1), (2, .ref l2)]) rfl dL_law_1206 rfl rfl (Nat.le_of_ble_eq_true rfl) rfl ?_
        refine ts_goto (tgt := 18) dL_law_1209 (by decide) ?_
        exact ts_lsub [1, 2, 3, 0] rfl W
      · replace W := W.2 q77
        refine ts_iconst (v := 0) (pc' := 378) rfl dL_law_377 (by decide) ?_
        exact ts_zret dL_law_378 rfl (by decide) c68 c69 W
    replace W := W.2
    by_cases q78 : ((xs l3.toNatClampNeg) &&& 63) = 5
    · replace W := W.1 q78
      refine ts_tableI (i := 5) (off := 346) (tgt := 379) dL_law_33 (by rw [q78]; rfl) (by decide) (by decide) rfl (by decide) ?_
      refine ts_aload_n 1 (pc' := 380) rfl dL_law_379 rfl rfl ?_
      obtain ⟨c79, W⟩ := W
      obtain ⟨c80, W⟩ := W
      obtain ⟨c81, W⟩ := W
      refine ts_callV (M' := mX11_field) (C := RX11) (mc' := 0) (ms' := 0) (pc' := 383) (av := []) (b := l1) rfl dL_law_380 rfl gL_law_X11_field rfl dvX11_field rfl (ci := 10) cfX11.1 (by decide) c79 (Nat.le_refl _) (Nat.le_of_ble_eq_true rfl) (Nat.le_of_ble_eq_true rfl) c80 c81 ts_kv0 W (ts_kki fun v82 hi83 hk84 W => ?_)
      refine ts_aload_n 2 (pc' := 384) rfl dL_law_383 rfl rfl ?_
      obtain ⟨c85, W⟩ := W
      refine ts_callV (M' := mX12_field) (C := RX12) (mc' := 0) (ms' := 0) (pc' := 387) (av := []) (b := l2) rfl dL_law_384 rfl gL_law_X12_field rfl dvX12_field rfl (ci := 11) cfX12.1 (by decide) c85 (Nat.le_refl _) (Nat.le_of_ble_eq_true rfl) (Nat.le_of_ble_eq_true rfl) c80 c81 ts_kv0 W (ts_kki fun v86 hi87 hk88 W => ?_)
      refine ts_icmp_eq (pc' := 390) (tgt := 1206) rfl dL_law_387 (by decide) (fun q89 => ?_) (fun q89 => ?_)
      · replace W := W.1 q89
        refine ts_iinc 3 (pc' := 1209) (ls' := [(3, .int (l3 + 6)), (0, .ref 0), (1, .ref l1), (2, .ref l2)]) rfl dL_law_1206 rfl rfl (Nat.le_of_ble_eq_true rfl) rfl ?_
        refine ts_goto (tgt := 18) dL_law_1209 (by decide) ?_
        exact ts_lsub [1, 2, 3, 0] rfl W
      · replace W := W.2 q89
        refine ts_iconst (v := 0) (pc' := 391) rfl dL_law_390 (by decide) ?_
        exact ts_zret dL_law_391 rfl (by decide) c80 c81 W
    replace W := W.2
    by_cases q90 : ((xs l3.toNatClampNeg) &&& 63) = 6
    · replace W := W.1 q90
      refine ts_tableI (i := 6) (off := 359) (tgt := 392) dL_law_33 (by rw [q90]; rfl) (by decide) (by decide) rfl (by decide) ?_
      refine ts_aload_n 1 (pc' := 393) rfl dL_law_392 rfl rfl ?_
      obtain ⟨c91, W⟩ := W
      obtain ⟨c92, W⟩ := W
      obtain ⟨c93, W⟩ := W
      refine ts_callV (M' := mX11_fault) (C := RX11) (mc' := 0) (ms' := 0) (pc' := 396) (av := []) (b := l1) rfl dL_law_393 rfl gL_law_X11_fault rfl dvX11_fault rfl (ci := 10) cfX11.1 (by decide) c91 (Nat.le_refl _) (Nat.le_of_ble_eq_true rfl) (Nat.le_of_ble_eq_true rfl) c92 c93 ts_kv0 W (ts_kki fun v94 hi95 hk96 W => ?_)
      refine ts_aload_n 2 (pc' := 397) rfl dL_law_396 rfl rfl ?_
      obtain ⟨c97, W⟩ := W
      refine ts_callV (M' := mX12_fault) (C := RX12) (mc' := 0) (ms' := 0) (pc' := 400) (av := []) (b := l2) rfl dL_law_397 rfl gL_law_X12_fault rfl dvX12_fault rfl (ci := 11) cfX12.1 (by decide) c97 (Nat.le_refl _) (Nat.le_of_ble_eq_true rfl) (Nat.le_of_ble_eq_true rfl) c92 c93 ts_kv0 W (ts_kki fun v98 hi99 hk100 W => ?_)
      refine ts_icmp_eq (pc' := 403) (tgt := 1206) rfl dL_law_400 (by decide) (fun q101 => ?_) (fun q101 => ?_)
      · replace W := W.1 q101
        refine ts_iinc 3 (pc' := 1209) (ls' := [(3, .int (l3 + 6)), (0, .ref 0), (1, .ref l1), (2, .ref l2)]) rfl dL_law_1206 rfl rfl (Nat.le_of_ble_eq_true rfl) rfl ?_
        refine ts_goto (tgt := 18) dL_law_1209 (by decide) ?_
        exact ts_lsub [1, 2, 3, 0] rfl W
      · replace W := W.2 q101
        refine ts_iconst (v := 0) (pc' := 404) rfl dL_law_403 (by decide) ?_
        exact ts_zret dL_law_404 rfl (by decide) c92 c93 W
    replace W := W.2
    by_cases q102 : ((xs l3.toNatClampNeg) &&& 63) = 7
    · replace W := W.1 q102
      refine ts_tableI (i := 7) (off := 372) (tgt := 405) dL_law_33 (by rw [q102]; rfl) (by decide) (by decide) rfl (by decide) ?_
      refine ts_aload_n 1 (pc' := 406) rfl dL_law_405 rfl rfl ?_
      refine ts_aload_n 0 (pc' := 407) rfl dL_law_406 rfl rfl ?_
      refine ts_iload_n 3 (pc' := 408) rfl dL_law_407 rfl rfl ?_
      refine ts_iconst (v := 1) (pc' := 409) rfl dL_law_408 (by decide) ?_
      refine ts_iadd (pc' := 410) rfl dL_law_409 ?_
      obtain ⟨c103, W⟩ := W
      refine ts_sld (pc' := 411) rfl dL_law_410 c103 ?_
      obtain ⟨c104, W⟩ := W
      obtain ⟨c105, W⟩ := W
      obtain ⟨c106, W⟩ := W
      refine ts_callV (M' := mX11_years) (C := RX11) (mc' := 0) (ms' := 0) (pc' := 414) (av := [.int (xs (l3 + 1).toNatClampNeg)]) (b := l1) rfl dL_law_411 rfl gL_law_X11_years rfl dvX11_years rfl (ci := 10) cfX11.1 (by decide) c104 (Nat.le_refl _) (Nat.le_of_ble_eq_true rfl) (Nat.le_of_ble_eq_true rfl) c105 c106 ts_kv0 W (ts_kki fun v107 hi108 hk109 W => ?_)
      refine ts_aload_n 2 (pc' := 415) rfl dL_law_414 rfl rfl ?_
      refine ts_aload_n 0 (pc' := 416) rfl dL_law_415 rfl rfl ?_
      refine ts_iload_n 3 (pc' := 417) rfl dL_law_416 rfl rfl ?_
      refine ts_iconst (v := 1) (pc' := 418) rfl dL_law_417 (by decide) ?_
      refine ts_iadd (pc' := 419) rfl dL_law_418 ?_
      refine ts_sld (pc' := 420) rfl dL_law_419 c103 ?_
      obtain ⟨c110, W⟩ := W
      refine ts_callV (M' := mX12_years) (C := RX12) (mc' := 0) (ms' := 0) (pc' := 423) (av := [.int (xs (l3 + 1).toNatClampNeg)]) (b := l2) rfl dL_law_420 rfl gL_law_X12_years rfl dvX12_years rfl (ci := 11) cfX12.1 (by decide) c110 (Nat.le_refl _) (Nat.le_of_ble_eq_true rfl) (Nat.le_of_ble_eq_true rfl) c105 c106 ts_kv0 W (ts_kki fun v111 hi112 hk113 W => ?_)
      refine ts_icmp_eq (pc' := 426) (tgt := 1206) rfl dL_law_423 (by decide) (fun q114 => ?_) (fun q114 => ?_)
      · replace W := W.1 q114
        refine ts_iinc 3 (pc' := 1209) (ls' := [(3, .int (l3 + 6)), (0, .ref 0), (1, .ref l1), (2, .ref l2)]) rfl dL_law_1206 rfl rfl (Nat.le_of_ble_eq_true rfl) rfl ?_
        refine ts_goto (tgt := 18) dL_law_1209 (by decide) ?_
        exact ts_lsub [1, 2, 3, 0] rfl W
      · replace W := W.2 q114
        refine ts_iconst (v := 0) (pc' := 427) rfl dL_law_426 (by decide) ?_
        exact ts_zret dL_law_427 rfl (by decide) c105 c106 W
    replace W := W.2
    by_cases q115 : ((xs l3.toNatClampNeg) &&& 63) = 8
    · replace W := W.1 q115
      refine ts_tableI (i := 8) (off := 395) (tgt := 428) dL_law_33 (by rw [q115]; rfl) (by decide) (by decide) rfl (by decide) ?_
      refine ts_aload_n 1 (pc' := 429) rfl dL_law_428 rfl rfl ?_
      refine ts_aload_n 0 (pc' := 430) rfl dL_law_429 rfl rfl ?_
      refine ts_iload_n 3 (pc' := 431) rfl dL_law_430 rfl rfl ?_
      refine ts_iconst (v := 1) (pc' := 432) rfl dL_law_431 (by decide) ?_
      refine ts_iadd (pc' := 433) rfl dL_law_432 ?_
      obtain ⟨c116, W⟩ := W
      refine ts_sld (pc' := 434) rfl dL_law_433 c116 ?_
      refine ts_aload_n 0 (pc' := 435) rfl dL_law_434 rfl rfl ?_
      refine ts_iload_n 3 (pc' := 436) rfl dL_law_435 rfl rfl ?_
      refine ts_iconst (v := 2) (pc' := 437) rfl dL_law_436 (by decide) ?_
      refine ts_iadd (pc' := 438) rfl dL_law_437 ?_
      obtain ⟨c117, W⟩ := W
      refine ts_sld (pc' := 439) rfl dL_law_438 c117 ?_
      obtain ⟨c118, W⟩ := W
      obtain ⟨c119, W⟩ := W
      obtain ⟨c120, W⟩ := W
      refine ts_callV (M' := mX11_marry) (C := RX11) (mc' := 0) (ms' := 0) (pc' := 442) (av := [.int (xs (l3 + 1).toNatClampNeg), .int (xs (l3 + 2).toNatClampNeg)]) (b := l1) rfl dL_law_439 rfl gL_law_X11_marry rfl dvX11_marry rfl (ci := 10) cfX11.1 (by decide) c118 (Nat.le_refl _) (Nat.le_of_ble_eq_true rfl) (Nat.le_of_ble_eq_true rfl) c119 c120 ts_kv0 W (ts_kki fun v121 hi122 hk123 W => ?_)
      refine ts_aload_n 2 (pc' := 443) rfl dL_law_442 rfl rfl ?_
      refine ts_aload_n 0 (pc' := 444) rfl dL_law_443 rfl rfl ?_
      refine ts_iload_n 3 (pc' := 445) rfl dL_law_444 rfl rfl ?_
      refine ts_iconst (v := 1) (pc' := 446) rfl dL_law_445 (by decide) ?_
      refine ts_iadd (pc' := 447) rfl dL_law_446 ?_
      refine ts_sld (pc' := 448) rfl dL_law_447 c116 ?_
      refine ts_aload_n 0 (pc' := 449) rfl dL_law_448 rfl rfl ?_
      refine ts_iload_n 3 (pc' := 450) rfl dL_law_449 rfl rfl ?_
      refine ts_iconst (v := 2) (pc' := 451) rfl dL_law_450 (by decide) ?_
      refine ts_iadd (pc' := 452) rfl dL_law_451 ?_
      refine ts_sld (pc' := 453) rfl dL_law_452 c117 ?_
      obtain ⟨c124, W⟩ := W
      refine ts_callV (M' := mX12_marry) (C := RX12) (mc' := 0) (ms' := 0) (pc' := 456) (av := [.int (xs (l3 + 1).toNatClampNeg), .int (xs (l3 + 2).toNatClampNeg)]) (b := l2) rfl dL_law_453 rfl gL_law_X12_marry rfl dvX12_marry rfl (ci := 11) cfX12.1 (by decide) c124 (Nat.le_refl _) (Nat.le_of_ble_eq_true rfl) (Nat.le_of_ble_eq_true rfl) c119 c120 ts_kv0 W (ts_kki fun v125 hi126 hk127 W => ?_)
      refine ts_icmp_eq (pc' := 459) (tgt := 1206) rfl dL_law_456 (by decide) (fun q128 => ?_) (fun q128 => ?_)
      · replace W := W.1 q128
        refine ts_iinc 3 (pc' := 1209) (ls' := [(3, .int (l3 + 6)), (0, .ref 0), (1, .ref l1), (2, .ref l2)]) rfl dL_law_1206 rfl rfl (Nat.le_of_ble_eq_true rfl) rfl ?_
        refine ts_goto (tgt := 18) dL_law_1209 (by decide) ?_
        exact ts_lsub [1, 2, 3, 0] rfl W
      · replace W := W.2 q128
        refine ts_iconst (v := 0) (pc' := 460) rfl dL_law_459 (by decide) ?_
        exact ts_zret dL_law_460 rfl (by decide) c119 c120 W
    replace W := W.2
    by_cases q129 : ((xs l3.toNatClampNeg) &&& 63) = 9
    · replace W := W.1 q129
      refine ts_tableI (i := 9) (off := 428) (tgt := 461) dL_law_33 (by rw [q129]; rfl) (by decide) (by decide) rfl (by decide) ?_
      refine ts_aload_n 1 (pc' := 462) rfl dL_law_461 rfl rfl ?_
      refine ts_aload_n 0 (pc' := 463) rfl dL_law_462 rfl rfl ?_
      refine ts_iload_n 3 (pc' := 464) rfl dL_law_463 rfl rfl ?_
      refine ts_iconst (v := 1) (pc' := 465) rfl dL_law_464 (by decide) ?_
      refine ts_iadd (pc' := 466) rfl dL_law_465 ?_
      obtain ⟨c130, W⟩ := W
      refine ts_sld (pc' := 467) rfl dL_law_466 c130 ?_
      obtain ⟨c131, W⟩ := W
      obtain ⟨c132, W⟩ := W
      obtain ⟨c133, W⟩ := W
      refine ts_callV (M' := mX11_part) (C := RX11) (mc' := 0) (ms' := 0) (pc' := 470) (av := [.int (xs (l3 + 1).toNatClampNeg)]) (b := l1) rfl dL_law_467 rfl gL_law_X11_part rfl dvX11_part rfl (ci := 10) cfX11.1 (by decide) c131 (Nat.le_refl _) (Nat.le_of_ble_eq_true rfl) (Nat.le_of_ble_eq_true rfl) c132 c133 ts_kv0 W (ts_kki fun v134 hi135 hk136 W => ?_)
      refine ts_aload_n 2 (pc' := 471) rfl dL_law_470 rfl rfl ?_
      refine ts_aload_n 0 (pc' := 472) rfl dL_law_471 rfl rfl ?_
      refine ts_iload_n 3 (pc' := 473) rfl dL_law_472 rfl rfl ?_
      refine ts_iconst (v := 1) (pc' := 474) rfl dL_law_473 (by decide) ?_
      refine ts_iadd (pc' := 475) rfl dL_law_474 ?_
      refine ts_sld (pc' := 476) rfl dL_law_475 c130 ?_
      obtain ⟨c137, W⟩ := W
      refine ts_callV (M' := mX12_part) (C := RX12) (mc' := 0) (ms' := 0) (pc' := 479) (av := [.int (xs (l3 + 1).toNatClampNeg)]) (b := l2) rfl dL_law_476 rfl gL_law_X12_part rfl dvX12_part rfl (ci := 11) cfX12.1 (by decide) c137 (Nat.le_refl _) (Nat.le_of_ble_eq_true rfl) (Nat.le_of_ble_eq_true rfl) c132 c133 ts_kv0 W (ts_kki fun v138 hi139 hk140 W => ?_)
      refine ts_icmp_eq (pc' := 482) (tgt := 1206) rfl dL_law_479 (by decide) (fun q141 => ?_) (fun q141 => ?_)
      · replace W := W.1 q141
        refine ts_iinc 3 (pc' := 1209) (ls' := [(3, .int (l3 + 6)), (0, .ref 0), (1, .ref l1), (2, .ref l2)]) rfl dL_law_1206 rfl rfl (Nat.le_of_ble_eq_true rfl) rfl ?_
        refine ts_goto (tgt := 18) dL_law_1209 (by decide) ?_
        exact ts_lsub [1, 2, 3, 0] rfl W
      · replace W := W.2 q141
        refine ts_iconst (v := 0) (pc' := 483) rfl dL_law_482 (by decide) ?_
        exact ts_zret dL_law_483 rfl (by decide) c132 c133 W
    replace W := W.2
    by_cases q142 : ((xs l3.toNatClampNeg) &&& 63) = 10
    · replace W := W.1 q142
      refine ts_tableI (i := 10) (off := 451) (tgt := 484) dL_law_33 (by rw [q142]; rfl) (by decide) (by decide) rfl (by decide) ?_
      refine ts_aload_n 1 (pc' := 485) rfl dL_law_484 rfl rfl ?_
      refine ts_aload_n 0 (pc' := 486) rfl dL_law_485 rfl rfl ?_
      refine ts_iload_n 3 (pc' := 487) rfl dL_law_486 rfl rfl ?_
      refine ts_iconst (v := 1) (pc' := 488) rfl dL_law_487 (by decide) ?_
      refine ts_iadd (pc' := 489) rfl dL_law_488 ?_
      obtain ⟨c143, W⟩ := W
      refine ts_sld (pc' := 490) rfl dL_law_489 c143 ?_
      refine ts_aload_n 0 (pc' := 491) rfl dL_law_490 rfl rfl ?_
      refine ts_iload_n 3 (pc' := 492) rfl dL_law_491 rfl rfl ?_
      refine ts_iconst (v := 2) (pc' := 493) rfl dL_law_492 (by decide) ?_
      refine ts_iadd (pc' := 494) rfl dL_law_493 ?_
      obtain ⟨c144, W⟩ := W
      refine ts_sld (pc' := 495) rfl dL_law_494 c144 ?_
      obtain ⟨c145, W⟩ := W
      obtain ⟨c146, W⟩ := W
      obtain ⟨c147, W⟩ := W
      refine ts_callV (M' := mX11_swap) (C := RX11) (mc' := 0) (ms' := 0) (pc' := 498) (av := [.int (xs (l3 + 1).toNatClampNeg), .int (xs (l3 + 2).toNatClampNeg)]) (b := l1) rfl dL_law_495 rfl gL_law_X11_swap rfl dvX11_swap rfl (ci := 10) cfX11.1 (by decide) c145 (Nat.le_refl _) (Nat.le_of_ble_eq_true rfl) (Nat.le_of_ble_eq_true rfl) c146 c147 ts_kv0 W (ts_kki fun v148 hi149 hk150 W => ?_)
      refine ts_aload_n 2 (pc' := 499) rfl dL_law_498 rfl rfl ?_
      refine ts_aload_n 0 (pc' := 500) rfl dL_law_499 rfl rfl ?_
      refine ts_iload_n 3 (pc' := 501) rfl dL_law_500 rfl rfl ?_
      refine ts_iconst (v := 1) (pc' := 502) rfl dL_law_501 (by decide) ?_
      refine ts_iadd (pc' := 503) rfl dL_law_502 ?_
      refine ts_sld (pc' := 504) rfl dL_law_503 c143 ?_
      refine ts_aload_n 0 (pc' := 505) rfl dL_law_504 rfl rfl ?_
      refine ts_iload_n 3 (pc' := 506) rfl dL_law_505 rfl rfl ?_
      refine ts_iconst (v := 2) (pc' := 507) rfl dL_law_506 (by decide) ?_
      refine ts_iadd (pc' := 508) rfl dL_law_507 ?_
      refine ts_sld (pc' := 509) rfl dL_law_508 c144 ?_
      obtain ⟨c151, W⟩ := W
      refine ts_callV (M' := mX12_swap) (C := RX12) (mc' := 0) (ms' := 0) (pc' := 512) (av := [.int (xs (l3 + 1).toNatClampNeg), .int (xs (l3 + 2).toNatClampNeg)]) (b := l2) rfl dL_law_509 rfl gL_law_X12_swap rfl dvX12_swap rfl (ci := 11) cfX12.1 (by decide) c151 (Nat.le_refl _) (Nat.le_of_ble_eq_true rfl) (Nat.le_of_ble_eq_true rfl) c146 c147 ts_kv0 W (ts_kki fun v152 hi153 hk154 W => ?_)
      refine ts_icmp_eq (pc' := 515) (tgt := 1206) rfl dL_law_512 (by decide) (fun q155 => ?_) (fun q155 => ?_)
      · replace W := W.1 q155
        refine ts_iinc 3 (pc' := 1209) (ls' := [(3, .int (l3 + 6)), (0, .ref 0), (1, .ref l1), (2, .ref l2)]) rfl dL_law_1206 rfl rfl (Nat.le_of_ble_eq_true rfl) rfl ?_
        refine ts_goto (tgt := 18) dL_law_1209 (by decide) ?_
        exact ts_lsub [1, 2, 3, 0] rfl W
      · replace W := W.2 q155
        refine ts_iconst (v := 0) (pc' := 516) rfl dL_law_515 (by decide) ?_
        exact ts_zret dL_law_516 rfl (by decide) c146 c147 W
    replace W := W.2
    by_cases q156 : ((xs l3.toNatClampNeg) &&& 63) = 11
    · replace W := W.1 q156
      refine ts_tableI (i := 11) (off := 484) (tgt := 517) dL_law_33 (by rw [q156]; rfl) (by decide) (by decide) rfl (by decide) ?_
      refine ts_aload_n 1 (pc' := 518) rfl dL_law_517 rfl rfl ?_
      refine ts_aload_n 0 (pc' := 519) rfl dL_law_518 rfl rfl ?_
      refine ts_iload_n 3 (pc' := 520) rfl dL_law_519 rfl rfl ?_
      refine ts_iconst (v := 1) (pc' := 521) rfl dL_law_520 (by decide) ?_
      refine ts_iadd (pc' := 522) rfl dL_law_521 ?_
      obtain ⟨c157, W⟩ := W
      refine ts_sld (pc' := 523) rfl dL_law_522 c157 ?_
      obtain ⟨c158, W⟩ := W
      obtain ⟨c159, W⟩ := W
      obtain ⟨c160, W⟩ := W
      refine ts_callV (M' := mX11_lean) (C := RX11) (mc' := 0) (ms' := 0) (pc' := 526) (av := [.int (xs (l3 + 1).toNatClampNeg)]) (b := l1) rfl dL_law_523 rfl gL_law_X11_lean rfl dvX11_lean rfl (ci := 10) cfX11.1 (by decide) c158 (Nat.le_refl _) (Nat.le_of_ble_eq_true rfl) (Nat.le_of_ble_eq_true rfl) c159 c160 ts_kv0 W (ts_kki fun v161 hi162 hk163 W => ?_)
      refine ts_aload_n 2 (pc' := 527) rfl dL_law_526 rfl rfl ?_
      refine ts_aload_n 0 (pc' := 528) rfl dL_law_527 rfl rfl ?_
      refine ts_iload_n 3 (pc' := 529) rfl dL_law_528 rfl rfl ?_
      refine ts_iconst (v := 1) (pc' := 530) rfl dL_law_529 (by decide) ?_
      refine ts_iadd (pc' := 531) rfl dL_law_530 ?_
      refine ts_sld (pc' := 532) rfl dL_law_531 c157 ?_
      obtain ⟨c164, W⟩ := W
      refine ts_callV (M' := mX12_lean) (C := RX12) (mc' := 0) (ms' := 0) (pc' := 535) (av := [.int (xs (l3 + 1).toNatClampNeg)]) (b := l2) rfl dL_law_532 rfl gL_law_X12_lean rfl dvX12_lean rfl (ci := 11) cfX12.1 (by decide) c164 (Nat.le_refl _) (Nat.le_of_ble_eq_true rfl) (Nat.le_of_ble_eq_true rfl) c159 c160 ts_kv0 W (ts_kki fun v165 hi166 hk167 W => ?_)
      refine ts_icmp_eq (pc' := 538) (tgt := 1206) rfl dL_law_535 (by decide) (fun q168 => ?_) (fun q168 => ?_)
      · replace W := W.1 q168
        refine ts_iinc 3 (pc' := 1209) (ls' := [(3, .int (l3 + 6)), (0, .ref 0), (1, .ref l1), (2, .ref l2)]) rfl dL_law_1206 rfl rfl (Nat.le_of_ble_eq_true rfl) rfl ?_
        refine ts_goto (tgt := 18) dL_law_1209 (by decide) ?_
        exact ts_lsub [1, 2, 3, 0] rfl W
      · replace W := W.2 q168
        refine ts_iconst (v := 0) (pc' := 539) rfl dL_law_538 (by decide) ?_
        exact ts_zret dL_law_539 rfl (by decide) c159 c160 W
    replace W := W.2
    by_cases q169 : ((xs l3.toNatClampNeg) &&& 63) = 12
    · replace W := W.1 q169
      refine ts_tableI (i := 12) (off := 507) (tgt := 540) dL_law_33 (by rw [q169]; rfl) (by decide) (by decide) rfl (by decide) ?_
      refine ts_aload_n 1 (pc' := 541) rfl dL_law_540 rfl rfl ?_
      refine ts_aload_n 0 (pc' := 542) rfl dL_law_541 rfl rfl ?_
      refine ts_iload_n 3 (pc' := 543) rfl dL_law_542 rfl rfl ?_
      refine ts_iconst (v := 1) (pc' := 544) rfl dL_law_543 (by decide) ?_
      refine ts_iadd (pc' := 545) rfl dL_law_544 ?_
      obtain ⟨c170, W⟩ := W
      refine ts_sld (pc' := 546) rfl dL_law_545 c170 ?_
      obtain ⟨c171, W⟩ := W
      obtain ⟨c172, W⟩ := W
      obtain ⟨c173, W⟩ := W
      refine ts_callV (M' := mX11_ground) (C := RX11) (mc' := 0) (ms' := 0) (pc' := 549) (av := [.int (xs (l3 + 1).toNatClampNeg)]) (b := l1) rfl dL_law_546 rfl gL_law_X11_ground rfl dvX11_ground rfl (ci := 10) cfX11.1 (by decide) c171 (Nat.le_refl _) (Nat.le_of_ble_eq_true rfl) (Nat.le_of_ble_eq_true rfl) c172 c173 ts_kv0 W (ts_kki fun v174 hi175 hk176 W => ?_)
      refine ts_aload_n 2 (pc' := 550) rfl dL_law_549 rfl rfl ?_
      refine ts_aload_n 0 (pc' := 551) rfl dL_law_550 rfl rfl ?_
      refine ts_iload_n 3 (pc' := 552) rfl dL_law_551 rfl rfl ?_
      refine ts_iconst (v := 1) (pc' := 553) rfl dL_law_552 (by decide) ?_
      refine ts_iadd (pc' := 554) rfl dL_law_553 ?_
      refine ts_sld (pc' := 555) rfl dL_law_554 c170 ?_
      obtain ⟨c177, W⟩ := W
      refine ts_callV (M' := mX12_ground) (C := RX12) (mc' := 0) (ms' := 0) (pc' := 558) (av := [.int (xs (l3 + 1).toNatClampNeg)]) (b := l2) rfl dL_law_555 rfl gL_law_X12_ground rfl dvX12_ground rfl (ci := 11) cfX12.1 (by decide) c177 (Nat.le_refl _) (Nat.le_of_ble_eq_true rfl) (Nat.le_of_ble_eq_true rfl) c172 c173 ts_kv0 W (ts_kki fun v178 hi179 hk180 W => ?_)
      refine ts_icmp_eq (pc' := 561) (tgt := 1206) rfl dL_law_558 (by decide) (fun q181 => ?_) (fun q181 => ?_)
      · replace W := W.1 q181
        refine ts_iinc 3 (pc' := 1209) (ls' := [(3, .int (l3 + 6)), (0, .ref 0), (1, .ref l1), (2, .ref l2)]) rfl dL_law_1206 rfl rfl (Nat.le_of_ble_eq_true rfl) rfl ?_
        refine ts_goto (tgt := 18) dL_law_1209 (by decide) ?_
        exact ts_lsub [1, 2, 3, 0] rfl W
      · replace W := W.2 q181
        refine ts_iconst (v := 0) (pc' := 562) rfl dL_law_561 (by decide) ?_
        exact ts_zret dL_law_562 rfl (by decide) c172 c173 W
    replace W := W.2
    by_cases q182 : ((xs l3.toNatClampNeg) &&& 63) = 13
    · replace W := W.1 q182
      refine ts_tableI (i := 13) (off := 530) (tgt := 563) dL_law_33 (by rw [q182]; rfl) (by decide) (by decide) rfl (by decide) ?_
      refine ts_aload_n 1 (pc' := 564) rfl dL_law_563 rfl rfl ?_
      obtain ⟨c183, W⟩ := W
      obtain ⟨c184, W⟩ := W
      obtain ⟨c185, W⟩ := W
      refine ts_callV (M' := mX11_undo) (C := RX11) (mc' := 0) (ms' := 0) (pc' := 567) (av := []) (b := l1) rfl dL_law_564 rfl gL_law_X11_undo rfl dvX11_undo rfl (ci := 10) cfX11.1 (by decide) c183 (Nat.le_refl _) (Nat.le_of_ble_eq_true rfl) (Nat.le_of_ble_eq_true rfl) c184 c185 ts_kv0 W (ts_kki fun v186 hi187 hk188 W => ?_)
      refine ts_aload_n 2 (pc' := 568) rfl dL_law_567 rfl rfl ?_
      obtain ⟨c189, W⟩ := W
      refine ts_callV (M' := mX12_undo) (C := RX12) (mc' := 0) (ms' := 0) (pc' := 571) (av := []) (b := l2) rfl dL_law_568 rfl gL_law_X12_undo rfl dvX12_undo rfl (ci := 11) cfX12.1 (by decide) c189 (Nat.le_refl _) (Nat.le_of_ble_eq_true rfl) (Nat.le_of_ble_eq_true rfl) c184 c185 ts_kv0 W (ts_kki fun v190 hi191 hk192 W => ?_)
      refine ts_icmp_eq (pc' := 574) (tgt := 1206) rfl dL_law_571 (by decide) (fun q193 => ?_) (fun q193 => ?_)
      · replace W := W.1 q193
        refine ts_iinc 3 (pc' := 1209) (ls' := [(3, .int (l3 + 6)), (0, .ref 0), (1, .ref l1), (2, .ref l2)]) rfl dL_law_1206 rfl rfl (Nat.le_of_ble_eq_true rfl) rfl ?_
        refine ts_goto (tgt := 18) dL_law_1209 (by decide) ?_
        exact ts_lsub [1, 2, 3, 0] rfl W
      · replace W := W.2 q193
        refine ts_iconst (v := 0) (pc' := 575) rfl dL_law_574 (by decide) ?_
        exact ts_zret dL_law_575 rfl (by decide) c184 c185 W
    replace W := W.2
    by_cases q194 : ((xs l3.toNatClampNeg) &&& 63) = 14
    · replace W := W.1 q194
      refine ts_tableI (i := 14) (off := 543) (tgt := 576) dL_law_33 (by rw [q194]; rfl) (by decide) (by decide) rfl (by decide) ?_
      refine ts_aload_n 1 (pc' := 577) rfl dL_law_576 rfl rfl ?_
      refine ts_aload_n 0 (pc' := 578) rfl dL_law_577 rfl rfl ?_
      refine ts_iload_n 3 (pc' := 579) rfl dL_law_578 rfl rfl ?_
      refine ts_iconst (v := 1) (pc' := 580) rfl dL_law_579 (by decide) ?_
      refine ts_iadd (pc' := 581) rfl dL_law_580 ?_
      obtain ⟨c195, W⟩ := W
      refine ts_sld (pc' := 582) rfl dL_law_581 c195 ?_
      refine ts_aload_n 0 (pc' := 583) rfl dL_law_582 rfl rfl ?_
      refine ts_iload_n 3 (pc' := 584) rfl dL_law_583 rfl rfl ?_
      refine ts_iconst (v := 2) (pc' := 585) rfl dL_law_584 (by decide) ?_
      refine ts_iadd (pc' := 586) rfl dL_law_585 ?_
      obtain ⟨c196, W⟩ := W
      refine ts_sld (pc' := 587) rfl dL_law_586 c196 ?_
      obtain ⟨c197, W⟩ := W
      obtain ⟨c198, W⟩ := W
      obtain ⟨c199, W⟩ := W
      refine ts_callV (M' := mX11_turnip) (C := RX11) (mc' := 0) (ms' := 0) (pc' := 590) (av := [.int (xs (l3 + 1).toNatClampNeg), .int (xs (l3 + 2).toNatClampNeg)]) (b := l1) rfl dL_law_587 rfl gL_law_X11_turnip rfl dvX11_turnip rfl (ci := 10) cfX11.1 (by decide) c197 (Nat.le_refl _) (Nat.le_of_ble_eq_true rfl) (Nat.le_of_ble_eq_true rfl) c198 c199 ts_kv0 W (ts_kki fun v200 hi201 hk202 W => ?_)
      refine ts_aload_n 2 (pc' := 591) rfl dL_law_590 rfl rfl ?_
      refine ts_aload_n 0 (pc' := 592) rfl dL_law_591 rfl rfl ?_
      refine ts_iload_n 3 (pc' := 593) rfl dL_law_592 rfl rfl ?_
      refine ts_iconst (v := 1) (pc' := 594) rfl dL_law_593 (by decide) ?_
      refine ts_iadd (pc' := 595) rfl dL_law_594 ?_
      refine ts_sld (pc' := 596) rfl dL_law_595 c195 ?_
      refine ts_aload_n 0 (pc' := 597) rfl dL_law_596 rfl rfl ?_
      refine ts_iload_n 3 (pc' := 598) rfl dL_law_597 rfl rfl ?_
      refine ts_iconst (v := 2) (pc' := 599) rfl dL_law_598 (by decide) ?_
      refine ts_iadd (pc' := 600) rfl dL_law_599 ?_
      refine ts_sld (pc' := 601) rfl dL_law_600 c196 ?_
      obtain ⟨c203, W⟩ := W
      refine ts_callV (M' := mX12_turnip) (C := RX12) (mc' := 0) (ms' := 0) (pc' := 604) (av := [.int (xs (l3 + 1).toNatClampNeg), .int (xs (l3 + 2).toNatClampNeg)]) (b := l2) rfl dL_law_601 rfl gL_law_X12_turnip rfl dvX12_turnip rfl (ci := 11) cfX12.1 (by decide) c203 (Nat.le_refl _) (Nat.le_of_ble_eq_true rfl) (Nat.le_of_ble_eq_true rfl) c198 c199 ts_kv0 W (ts_kki fun v204 hi205 hk206 W => ?_)
      refine ts_icmp_eq (pc' := 607) (tgt := 1206) rfl dL_law_604 (by decide) (fun q207 => ?_) (fun q207 => ?_)
      · replace W := W.1 q207
        refine ts_iinc 3 (pc' := 1209) (ls' := [(3, .int (l3 + 6)), (0, .ref 0), (1, .ref l1), (2, .ref l2)]) rfl dL_law_1206 rfl rfl (Nat.le_of_ble_eq_true rfl) rfl ?_
        refine ts_goto (tgt := 18) dL_law_1209 (by decide) ?_
        exact ts_lsub [1, 2, 3, 0] rfl W
      · replace W := W.2 q207
        refine ts_iconst (v := 0) (pc' := 608) rfl dL_law_607 (by decide) ?_
        exact ts_zret dL_law_608 rfl (by decide) c198 c199 W
    replace W := W.2
    by_cases q208 : ((xs l3.toNatClampNeg) &&& 63) = 15
    · replace W := W.1 q208
      refine ts_tableI (i := 15) (off := 576) (tgt := 609) dL_law_33 (by rw [q208]; rfl) (by decide) (by decide) rfl (by decide) ?_
      refine ts_aload_n 1 (pc' := 610) rfl dL_law_609 rfl rfl ?_
      refine ts_aload_n 0 (pc' := 611) rfl dL_law_610 rfl rfl ?_
      refine ts_iload_n 3 (pc' := 612) rfl dL_law_611 rfl rfl ?_
      refine ts_iconst (v := 1) (pc' := 613) rfl dL_law_612 (by decide) ?_
      refine ts_iadd (pc' := 614) rfl dL_law_613 ?_
      obtain ⟨c209, W⟩ := W
      refine ts_sld (pc' := 615) rfl dL_law_614 c209 ?_
      obtain ⟨c210, W⟩ := W
      obtain ⟨c211, W⟩ := W
      obtain ⟨c212, W⟩ := W
      refine ts_callV (M' := mX11_place) (C := RX11) (mc' := 0) (ms' := 0) (pc' := 618) (av := [.int (xs (l3 + 1).toNatClampNeg)]) (b := l1) rfl dL_law_615 rfl gL_law_X11_place rfl dvX11_place rfl (ci := 10) cfX11.1 (by decide) c210 (Nat.le_refl _) (Nat.le_of_ble_eq_true rfl) (Nat.le_of_ble_eq_true rfl) c211 c212 ts_kv0 W (ts_kki fun v213 hi214 hk215 W => ?_)
      refine ts_aload_n 2 (pc' := 619) rfl dL_law_618 rfl rfl ?_
      refine ts_aload_n 0 (pc' := 620) rfl dL_law_619 rfl rfl ?_
      refine ts_iload_n 3 (pc' := 621) rfl dL_law_620 rfl rfl ?_
      refine ts_iconst (v := 1) (pc' := 622) rfl dL_law_621 (by decide) ?_
      refine ts_iadd (pc' := 623) rfl dL_law_622 ?_
      refine ts_sld (pc' := 624) rfl dL_law_623 c209 ?_
      obtain ⟨c216, W⟩ := W
      refine ts_callV (M' := mX12_place) (C := RX12) (mc' := 0) (ms' := 0) (pc' := 627) (av := [.int (xs (l3 + 1).toNatClampNeg)]) (b := l2) rfl dL_law_624 rfl gL_law_X12_place rfl dvX12_place rfl (ci := 11) cfX12.1 (by decide) c216 (Nat.le_refl _) (Nat.le_of_ble_eq_true rfl) (Nat.le_of_ble_eq_true rfl) c211 c212 ts_kv0 W (ts_kki fun v217 hi218 hk219 W => ?_)
      refine ts_icmp_eq (pc' := 630) (tgt := 1206) rfl dL_law_627 (by decide) (fun q220 => ?_) (fun q220 => ?_)
      · replace W := W.1 q220
        refine ts_iinc 3 (pc' := 1209) (ls' := [(3, .int (l3 + 6)), (0, .ref 0), (1, .ref l1), (2, .ref l2)]) rfl dL_law_1206 rfl rfl (Nat.le_of_ble_eq_true rfl) rfl ?_
        refine ts_goto (tgt := 18) dL_law_1209 (by decide) ?_
        exact ts_lsub [1, 2, 3, 0] rfl W
      · replace W := W.2 q220
        refine ts_iconst (v := 0) (pc' := 631) rfl dL_law_630 (by decide) ?_
        exact ts_zret dL_law_631 rfl (by decide) c211 c212 W
    replace W := W.2
    by_cases q221 : ((xs l3.toNatClampNeg) &&& 63) = 16
    · replace W := W.1 q221
      refine ts_tableI (i := 16) (off := 599) (tgt := 632) dL_law_33 (by rw [q221]; rfl) (by decide) (by decide) rfl (by decide) ?_
      refine ts_aload_n 1 (pc' := 633) rfl dL_law_632 rfl rfl ?_
      refine ts_aload_n 0 (pc' := 634) rfl dL_law_633 rfl rfl ?_
      refine ts_iload_n 3 (pc' := 635) rfl dL_law_634 rfl rfl ?_
      refine ts_iconst (v := 1) (pc' := 636) rfl dL_law_635 (by decide) ?_
      refine ts_iadd (pc' := 637) rfl dL_law_636 ?_
      obtain ⟨c222, W⟩ := W
      refine ts_sld (pc' := 638) rfl dL_law_637 c222 ?_
      refine ts_aload_n 0 (pc' := 639) rfl dL_law_638 rfl rfl ?_
      refine ts_iload_n 3 (pc' := 640) rfl dL_law_639 rfl rfl ?_
      refine ts_iconst (v := 2) (pc' := 641) rfl dL_law_640 (by decide) ?_
      refine ts_iadd (pc' := 642) rfl dL_law_641 ?_
      obtain ⟨c223, W⟩ := W
      refine ts_sld (pc' := 643) rfl dL_law_642 c223 ?_
      refine ts_aload_n 0 (pc' := 644) rfl dL_law_643 rfl rfl ?_
      refine ts_iload_n 3 (pc' := 645) rfl dL_law_644 rfl rfl ?_
      refine ts_iconst (v := 3) (pc' := 646) rfl dL_law_645 (by decide) ?_
      refine ts_iadd (pc' := 647) rfl dL_law_646 ?_
      obtain ⟨c224, W⟩ := W
      refine ts_sld (pc' := 648) rfl dL_law_647 c224 ?_
      obtain ⟨c225, W⟩ := W
      obtain ⟨c226, W⟩ := W
      obtain ⟨c227, W⟩ := W
      refine ts_callV (M' := mX11_ahead) (C := RX11) (mc' := 0) (ms' := 0) (pc' := 651) (av := [.int (xs (l3 + 1).toNatClampNeg), .int (xs (l3 + 2).toNatClampNeg), .int (xs (l3 + 3).toNatClampNeg)]) (b := l1) rfl dL_law_648 rfl gL_law_X11_ahead rfl dvX11_ahead rfl (ci := 10) cfX11.1 (by decide) c225 (Nat.le_refl _) (Nat.le_of_ble_eq_true rfl) (Nat.le_of_ble_eq_true rfl) c226 c227 ts_kv0 W (ts_kki fun v228 hi229 hk230 W => ?_)
      refine ts_aload_n 2 (pc' := 652) rfl dL_law_651 rfl rfl ?_
      refine ts_aload_n 0 (pc' := 653) rfl dL_law_652 rfl rfl ?_
      refine ts_iload_n 3 (pc' := 654) rfl dL_law_653 rfl rfl ?_
      refine ts_iconst (v := 1) (pc' := 655) rfl dL_law_654 (by decide) ?_
      refine ts_iadd (pc' := 656) rfl dL_law_655 ?_
      refine ts_sld (pc' := 657) rfl dL_law_656 c222 ?_
      refine ts_aload_n 0 (pc' := 658) rfl dL_law_657 rfl rfl ?_
      refine ts_iload_n 3 (pc' := 659) rfl dL_law_658 rfl rfl ?_
      refine ts_iconst (v := 2) (pc' := 660) rfl dL_law_659 (by decide) ?_
      refine ts_iadd (pc' := 661) rfl dL_law_660 ?_
      refine ts_sld (pc' := 662) rfl dL_law_661 c223 ?_
      refine ts_aload_n 0 (pc' := 663) rfl dL_law_662 rfl rfl ?_
      refine ts_iload_n 3 (pc' := 664) rfl dL_law_663 rfl rfl ?_
      refine ts_iconst (v := 3) (pc' := 665) rfl dL_law_664 (by decide) ?_
      refine ts_iadd (pc' := 666) rfl dL_law_665 ?_
      refine ts_sld (pc' := 667) rfl dL_law_666 c224 ?_
      obtain ⟨c231, W⟩ := W
      refine ts_callV (M' := mX12_ahead) (C := RX12) (mc' := 0) (ms' := 0) (pc' := 670) (av := [.int (xs (l3 + 1).toNatClampNeg), .int (xs (l3 + 2).toNatClampNeg), .int (xs (l3 + 3).toNatClampNeg)]) (b := l2) rfl dL_law_667 rfl gL_law_X12_ahead rfl dvX12_ahead rfl (ci := 11) cfX12.1 (by decide) c231 (Nat.le_refl _) (Nat.le_of_ble_eq_true rfl) (Nat.le_of_ble_eq_true rfl) c226 c227 ts_kv0 W (ts_kki fun v232 hi233 hk234 W => ?_)
      refine ts_icmp_eq (pc' := 673) (tgt := 1206) rfl dL_law_670 (by decide) (fun q235 => ?_) (fun q235 => ?_)
      · replace W := W.1 q235
        refine ts_iinc 3 (pc' := 1209) (ls' := [(3, .int (l3 + 6)), (0, .ref 0), (1, .ref l1), (2, .ref l2)]) rfl dL_law_1206 rfl rfl (Nat.le_of_ble_eq_true rfl) rfl ?_
        refine ts_goto (tgt := 18) dL_law_1209 (by decide) ?_
        exact ts_lsub [1, 2, 3, 0] rfl W
      · replace W := W.2 q235
        refine ts_iconst (v := 0) (pc' := 674) rfl dL_law_673 (by decide) ?_
        exact ts_zret dL_law_674 rfl (by decide) c226 c227 W
    replace W := W.2
    by_cases q236 : ((xs l3.toNatClampNeg) &&& 63) = 17
    · replace W := W.1 q236
      refine ts_tableI (i := 17) (off := 642) (tgt := 675) dL_law_33 (by rw [q236]; rfl) (by decide) (by decide) rfl (by decide) ?_
      refine ts_aload_n 1 (pc' := 676) rfl dL_law_675 rfl rfl ?_
      refine ts_aload_n 0 (pc' := 677) rfl dL_law_676 rfl rfl ?_
      refine ts_iload_n 3 (pc' := 678) rfl dL_law_677 rfl rfl ?_
      refine ts_iconst (v := 1) (pc' := 679) rfl dL_law_678 (by decide) ?_
      refine ts_iadd (pc' := 680) rfl dL_law_679 ?_
      obtain ⟨c237, W⟩ := W
      refine ts_sld (pc' := 681) rfl dL_law_680 c237 ?_
      refine ts_aload_n 0 (pc' := 682) rfl dL_law_681 rfl rfl ?_
      refine ts_iload_n 3 (pc' := 683) rfl dL_law_682 rfl rfl ?_
      refine ts_iconst (v := 2) (pc' := 684) rfl dL_law_683 (by decide) ?_
      refine ts_iadd (pc' := 685) rfl dL_law_684 ?_
      obtain ⟨c238, W⟩ := W
      refine ts_sld (pc' := 686) rfl dL_law_685 c238 ?_
      obtain ⟨c239, W⟩ := W
      obtain ⟨c240, W⟩ := W
      obtain ⟨c241, W⟩ := W
      refine ts_callV (M' := mX11_risen) (C := RX11) (mc' := 0) (ms' := 0) (pc' := 689) (av := [.int (xs (l3 + 1).toNatClampNeg), .int (xs (l3 + 2).toNatClampNeg)]) (b := l1) rfl dL_law_686 rfl gL_law_X11_risen rfl dvX11_risen rfl (ci := 10) cfX11.1 (by decide) c239 (Nat.le_refl _) (Nat.le_of_ble_eq_true rfl) (Nat.le_of_ble_eq_true rfl) c240 c241 ts_kv0 W (ts_kki fun v242 hi243 hk244 W => ?_)
      refine ts_aload_n 2 (pc' := 690) rfl dL_law_689 rfl rfl ?_
      refine ts_aload_n 0 (pc' := 691) rfl dL_law_690 rfl rfl ?_
      refine ts_iload_n 3 (pc' := 692) rfl dL_law_691 rfl rfl ?_
      refine ts_iconst (v := 1) (pc' := 693) rfl dL_law_692 (by decide) ?_
      refine ts_iadd (pc' := 694) rfl dL_law_693 ?_
      refine ts_sld (pc' := 695) rfl dL_law_694 c237 ?_
      refine ts_aload_n 0 (pc' := 696) rfl dL_law_695 rfl rfl ?_
      refine ts_iload_n 3 (pc' := 697) rfl dL_law_696 rfl rfl ?_
      refine ts_iconst (v := 2) (pc' := 698) rfl dL_law_697 (by decide) ?_
      refine ts_iadd (pc' := 699) rfl dL_law_698 ?_
      refine ts_sld (pc' := 700) rfl dL_law_699 c238 ?_
      obtain ⟨c245, W⟩ := W
      refine ts_callV (M' := mX12_risen) (C := RX12) (mc' := 0) (ms' := 0) (pc' := 703) (av := [.int (xs (l3 + 1).toNatClampNeg), .int (xs (l3 + 2).toNatClampNeg)]) (b := l2) rfl dL_law_700 rfl gL_law_X12_risen rfl dvX12_risen rfl (ci := 11) cfX12.1 (by decide) c245 (Nat.le_refl _) (Nat.le_of_ble_eq_true rfl) (Nat.le_of_ble_eq_true rfl) c240 c241 ts_kv0 W (ts_kki fun v246 hi247 hk248 W => ?_)
      refine ts_icmp_eq (pc' := 706) (tgt := 1206) rfl dL_law_703 (by decide) (fun q249 => ?_) (fun q249 => ?_)
      · replace W := W.1 q249
        refine ts_iinc 3 (pc' := 1209) (ls' := [(3, .int (l3 + 6)), (0, .ref 0), (1, .ref l1), (2, .ref l2)]) rfl dL_law_1206 rfl rfl (Nat.le_of_ble_eq_true rfl) rfl ?_
        refine ts_goto (tgt := 18) dL_law_1209 (by decide) ?_
        exact ts_lsub [1, 2, 3, 0] rfl W
      · replace W := W.2 q249
        refine ts_iconst (v := 0) (pc' := 707) rfl dL_law_706 (by decide) ?_
        exact ts_zret dL_law_707 rfl (by decide) c240 c241 W
    replace W := W.2
    by_cases q250 : ((xs l3.toNatClampNeg) &&& 63) = 18
    · replace W := W.1 q250
      refine ts_tableI (i := 18) (off := 675) (tgt := 708) dL_law_33 (by rw [q250]; rfl) (by decide) (by decide) rfl (by decide) ?_
      refine ts_aload_n 1 (pc' := 709) rfl dL_law_708 rfl rfl ?_
      refine ts_aload_n 0 (pc' := 710) rfl dL_law_709 rfl rfl ?_
      refine ts_iload_n 3 (pc' := 711) rfl dL_law_710 rfl rfl ?_
      refine ts_iconst (v := 1) (pc' := 712) rfl dL_law_711 (by decide) ?_
      refine ts_iadd (pc' := 713) rfl dL_law_712 ?_
      obtain ⟨c251, W⟩ := W
      refine ts_sld (pc' := 714) rfl dL_law_713 c251 ?_
      obtain ⟨c252, W⟩ := W
      obtain ⟨c253, W⟩ := W
      obtain ⟨c254, W⟩ := W
      refine ts_callV (M' := mX11_squire) (C := RX11) (mc' := 0) (ms' := 0) (pc' := 717) (av := [.int (xs (l3 + 1).toNatClampNeg)]) (b := l1) rfl dL_law_714 rfl gL_law_X11_squire rfl dvX11_squire rfl (ci := 10) cfX11.1 (by decide) c252 (Nat.le_refl _) (Nat.le_of_ble_eq_true rfl) (Nat.le_of_ble_eq_true rfl) c253 c254 ts_kv0 W (ts_kki fun v255 hi256 hk257 W => ?_)
      refine ts_aload_n 2 (pc' := 718) rfl dL_law_717 rfl rfl ?_
      refine ts_aload_n 0 (pc' := 719) rfl dL_law_718 rfl rfl ?_
      refine ts_iload_n 3 (pc' := 720) rfl dL_law_719 rfl rfl ?_
      refine ts_iconst (v := 1) (pc' := 721) rfl dL_law_720 (by decide) ?_
      refine ts_iadd (pc' := 722) rfl dL_law_721 ?_
      refine ts_sld (pc' := 723) rfl dL_law_722 c251 ?_
      obtain ⟨c258, W⟩ := W
      refine ts_callV (M' := mX12_squire) (C := RX12) (mc' := 0) (ms' := 0) (pc' := 726) (av := [.int (xs (l3 + 1).toNatClampNeg)]) (b := l2) rfl dL_law_723 rfl gL_law_X12_squire rfl dvX12_squire rfl (ci := 11) cfX12.1 (by decide) c258 (Nat.le_refl _) (Nat.le_of_ble_eq_true rfl) (Nat.le_of_ble_eq_true rfl) c253 c254 ts_kv0 W (ts_kki fun v259 hi260 hk261 W => ?_)
      refine ts_icmp_eq (pc' := 729) (tgt := 1206) rfl dL_law_726 (by decide) (fun q262 => ?_) (fun q262 => ?_)
      · replace W := W.1 q262
        refine ts_iinc 3 (pc' := 1209) (ls' := [(3, .int (l3 + 6)), (0, .ref 0), (1, .ref l1), (2, .ref l2)]) rfl dL_law_1206 rfl rfl (Nat.le_of_ble_eq_true rfl) rfl ?_
        refine ts_goto (tgt := 18) dL_law_1209 (by decide) ?_
        exact ts_lsub [1, 2, 3, 0] rfl W
      · replace W := W.2 q262
        refine ts_iconst (v := 0) (pc' := 730) rfl dL_law_729 (by decide) ?_
        exact ts_zret dL_law_730 rfl (by decide) c253 c254 W
    replace W := W.2
    by_cases q263 : ((xs l3.toNatClampNeg) &&& 63) = 19
    · replace W := W.1 q263
      refine ts_tableI (i := 19) (off := 698) (tgt := 731) dL_law_33 (by rw [q263]; rfl) (by decide) (by decide) rfl (by decide) ?_
      refine ts_aload_n 1 (pc' := 732) rfl dL_law_731 rfl rfl ?_
      refine ts_aload_n 0 (pc' := 733) rfl dL_law_732 rfl rfl ?_
      refine ts_iload_n 3 (pc' := 734) rfl dL_law_733 rfl rfl ?_
      refine ts_iconst (v := 1) (pc' := 735) rfl dL_law_734 (by decide) ?_
      refine ts_iadd (pc' := 736) rfl dL_law_735 ?_
      obtain ⟨c264, W⟩ := W
      refine ts_sld (pc' := 737) rfl dL_law_736 c264 ?_
      refine ts_aload_n 0 (pc' := 738) rfl dL_law_737 rfl rfl ?_
      refine ts_iload_n 3 (pc' := 739) rfl dL_law_738 rfl rfl ?_
      refine ts_iconst (v := 2) (pc' := 740) rfl dL_law_739 (by decide) ?_
      refine ts_iadd (pc' := 741) rfl dL_law_740 ?_
      obtain ⟨c265, W⟩ := W
      refine ts_sld (pc' := 742) rfl dL_law_741 c265 ?_
      obtain ⟨c266, W⟩ := W
      obtain ⟨c267, W⟩ := W
      obtain ⟨c268, W⟩ := W
      refine ts_callV (M' := mX11_pairs) (C := RX11) (mc' := 0) (ms' := 0) (pc' := 745) (av := [.int (xs (l3 + 1).toNatClampNeg), .int (xs (l3 + 2).toNatClampNeg)]) (b := l1) rfl dL_law_742 rfl gL_law_X11_pairs rfl dvX11_pairs rfl (ci := 10) cfX11.1 (by decide) c266 (Nat.le_refl _) (Nat.le_of_ble_eq_true rfl) (Nat.le_of_ble_eq_true rfl) c267 c268 ts_kv0 W (ts_kki fun v269 hi270 hk271 W => ?_)
      refine ts_aload_n 2 (pc' := 746) rfl dL_law_745 rfl rfl ?_
      refine ts_aload_n 0 (pc' := 747) rfl dL_law_746 rfl rfl ?_
      refine ts_iload_n 3 (pc' := 748) rfl dL_law_747 rfl rfl ?_
      refine ts_iconst (v := 1) (pc' := 749) rfl dL_law_748 (by decide) ?_
      refine ts_iadd (pc' := 750) rfl dL_law_749 ?_
      refine ts_sld (pc' := 751) rfl dL_law_750 c264 ?_
      refine ts_aload_n 0 (pc' := 752) rfl dL_law_751 rfl rfl ?_
      refine ts_iload_n 3 (pc' := 753) rfl dL_law_752 rfl rfl ?_
      refine ts_iconst (v := 2) (pc' := 754) rfl dL_law_753 (by decide) ?_
      refine ts_iadd (pc' := 755) rfl dL_law_754 ?_
      refine ts_sld (pc' := 756) rfl dL_law_755 c265 ?_
      obtain ⟨c272, W⟩ := W
      refine ts_callV (M' := mX12_pairs) (C := RX12) (mc' := 0) (ms' := 0) (pc' := 759) (av := [.int (xs (l3 + 1).toNatClampNeg), .int (xs (l3 + 2).toNatClampNeg)]) (b := l2) rfl dL_law_756 rfl gL_law_X12_pairs rfl dvX12_pairs rfl (ci := 11) cfX12.1 (by decide) c272 (Nat.le_refl _) (Nat.le_of_ble_eq_true rfl) (Nat.le_of_ble_eq_true rfl) c267 c268 ts_kv0 W (ts_kki fun v273 hi274 hk275 W => ?_)
      refine ts_icmp_eq (pc' := 762) (tgt := 1206) rfl dL_law_759 (by decide) (fun q276 => ?_) (fun q276 => ?_)
      · replace W := W.1 q276
        refine ts_iinc 3 (pc' := 1209) (ls' := [(3, .int (l3 + 6)), (0, .ref 0), (1, .ref l1), (2, .ref l2)]) rfl dL_law_1206 rfl rfl (Nat.le_of_ble_eq_true rfl) rfl ?_
        refine ts_goto (tgt := 18) dL_law_1209 (by decide) ?_
        exact ts_lsub [1, 2, 3, 0] rfl W
      · replace W := W.2 q276
        refine ts_iconst (v := 0) (pc' := 763) rfl dL_law_762 (by decide) ?_
        exact ts_zret dL_law_763 rfl (by decide) c267 c268 W
    replace W := W.2
    by_cases q277 : ((xs l3.toNatClampNeg) &&& 63) = 20
    · replace W := W.1 q277
      refine ts_tableI (i := 20) (off := 731) (tgt := 764) dL_law_33 (by rw [q277]; rfl) (by decide) (by decide) rfl (by decide) ?_
      refine ts_aload_n 1 (pc' := 765) rfl dL_law_764 rfl rfl ?_
      refine ts_aload_n 0 (pc' := 766) rfl dL_law_765 rfl rfl ?_
      refine ts_iload_n 3 (pc' := 767) rfl dL_law_766 rfl rfl ?_
      refine ts_iconst (v := 1) (pc' := 768) rfl dL_law_767 (by decide) ?_
      refine ts_iadd (pc' := 769) rfl dL_law_768 ?_
      obtain ⟨c278, W⟩ := W
      refine ts_sld (pc' := 770) rfl dL_law_769 c278 ?_
      refine ts_aload_n 0 (pc' := 771) rfl dL_law_770 rfl rfl ?_
      refine ts_iload_n 3 (pc' := 772) rfl dL_law_771 rfl rfl ?_
      refine ts_iconst (v := 2) (pc' := 773) rfl dL_law_772 (by decide) ?_
      refine ts_iadd (pc' := 774) rfl dL_law_773 ?_
      obtain ⟨c279, W⟩ := W
      refine ts_sld (pc' := 775) rfl dL_law_774 c279 ?_
      obtain ⟨c280, W⟩ := W
      obtain ⟨c281, W⟩ := W
      obtain ⟨c282, W⟩ := W
      refine ts_callV (M' := mX11_change) (C := RX11) (mc' := 0) (ms' := 0) (pc' := 778) (av := [.int (xs (l3 + 1).toNatClampNeg), .int (xs (l3 + 2).toNatClampNeg)]) (b := l1) rfl dL_law_775 rfl gL_law_X11_change rfl dvX11_change rfl (ci := 10) cfX11.1 (by decide) c280 (Nat.le_refl _) (Nat.le_of_ble_eq_true rfl) (Nat.le_of_ble_eq_true rfl) c281 c282 ts_kv0 W (ts_kki fun v283 hi284 hk285 W => ?_)
      refine ts_aload_n 2 (pc' := 779) rfl dL_law_778 rfl rfl ?_
      refine ts_aload_n 0 (pc' := 780) rfl dL_law_779 rfl rfl ?_
      refine ts_iload_n 3 (pc' := 781) rfl dL_law_780 rfl rfl ?_
      refine ts_iconst (v := 1) (pc' := 782) rfl dL_law_781 (by decide) ?_
      refine ts_iadd (pc' := 783) rfl dL_law_782 ?_
      refine ts_sld (pc' := 784) rfl dL_law_783 c278 ?_
      refine ts_aload_n 0 (pc' := 785) rfl dL_law_784 rfl rfl ?_
      refine ts_iload_n 3 (pc' := 786) rfl dL_law_785 rfl rfl ?_
      refine ts_iconst (v := 2) (pc' := 787) rfl dL_law_786 (by decide) ?_
      refine ts_iadd (pc' := 788) rfl dL_law_787 ?_
      refine ts_sld (pc' := 789) rfl dL_law_788 c279 ?_
      obtain ⟨c286, W⟩ := W
      refine ts_callV (M' := mX12_change) (C := RX12) (mc' := 0) (ms' := 0) (pc' := 792) (av := [.int (xs (l3 + 1).toNatClampNeg), .int (xs (l3 + 2).toNatClampNeg)]) (b := l2) rfl dL_law_789 rfl gL_law_X12_change rfl dvX12_change rfl (ci := 11) cfX12.1 (by decide) c286 (Nat.le_refl _) (Nat.le_of_ble_eq_true rfl) (Nat.le_of_ble_eq_true rfl) c281 c282 ts_kv0 W (ts_kki fun v287 hi288 hk289 W => ?_)
      refine ts_icmp_eq (pc' := 795) (tgt := 1206) rfl dL_law_792 (by decide) (fun q290 => ?_) (fun q290 => ?_)
      · replace W := W.1 q290
        refine ts_iinc 3 (pc' := 1209) (ls' := [(3, .int (l3 + 6)), (0, .ref 0), (1, .ref l1), (2, .ref l2)]) rfl dL_law_1206 rfl rfl (Nat.le_of_ble_eq_true rfl) rfl ?_
        refine ts_goto (tgt := 18) dL_law_1209 (by decide) ?_
        exact ts_lsub [1, 2, 3, 0] rfl W
      · replace W := W.2 q290
        refine ts_iconst (v := 0) (pc' := 796) rfl dL_law_795 (by decide) ?_
        exact ts_zret dL_law_796 rfl (by decide) c281 c282 W
    replace W := W.2
    by_cases q291 : ((xs l3.toNatClampNeg) &&& 63) = 21
    · replace W := W.1 q291
      refine ts_tableI (i := 21) (off := 764) (tgt := 797) dL_law_33 (by rw [q291]; rfl) (by decide) (by decide) rfl (by decide) ?_
      refine ts_aload_n 1 (pc' := 798) rfl dL_law_797 rfl rfl ?_
      refine ts_aload_n 0 (pc' := 799) rfl dL_law_798 rfl rfl ?_
      refine ts_iload_n 3 (pc' := 800) rfl dL_law_799 rfl rfl ?_
      refine ts_iconst (v := 1) (pc' := 801) rfl dL_law_800 (by decide) ?_
      refine ts_iadd (pc' := 802) rfl dL_law_801 ?_
      obtain ⟨c292, W⟩ := W
      refine ts_sld (pc' := 803) rfl dL_law_802 c292 ?_
      obtain ⟨c293, W⟩ := W
      obtain ⟨c294, W⟩ := W
      obtain ⟨c295, W⟩ := W
      refine ts_callV (M' := mX11_power) (C := RX11) (mc' := 0) (ms' := 0) (pc' := 806) (av := [.int (xs (l3 + 1).toNatClampNeg)]) (b := l1) rfl dL_law_803 rfl gL_law_X11_power rfl dvX11_power rfl (ci := 10) cfX11.1 (by decide) c293 (Nat.le_refl _) (Nat.le_of_ble_eq_true rfl) (Nat.le_of_ble_eq_true rfl) c294 c295 ts_kv0 W (ts_kki fun v296 hi297 hk298 W => ?_)
      refine ts_aload_n 2 (pc' := 807) rfl dL_law_806 rfl rfl ?_
      refine ts_aload_n 0 (pc' := 808) rfl dL_law_807 rfl rfl ?_
      refine ts_iload_n 3 (pc' := 809) rfl dL_law_808 rfl rfl ?_
      refine ts_iconst (v := 1) (pc' := 810) rfl dL_law_809 (by decide) ?_
      refine ts_iadd (pc' := 811) rfl dL_law_810 ?_
      refine ts_sld (pc' := 812) rfl dL_law_811 c292 ?_
      obtain ⟨c299, W⟩ := W
      refine ts_callV (M' := mX12_power) (C := RX12) (mc' := 0) (ms' := 0) (pc' := 815) (av := [.int (xs (l3 + 1).toNatClampNeg)]) (b := l2) rfl dL_law_812 rfl gL_law_X12_power rfl dvX12_power rfl (ci := 11) cfX12.1 (by decide) c299 (Nat.le_refl _) (Nat.le_of_ble_eq_true rfl) (Nat.le_of_ble_eq_true rfl) c294 c295 ts_kv0 W (ts_kki fun v300 hi301 hk302 W => ?_)
      refine ts_icmp_eq (pc' := 818) (tgt := 1206) rfl dL_law_815 (by decide) (fun q303 => ?_) (fun q303 => ?_)
      · replace W := W.1 q303
        refine ts_iinc 3 (pc' := 1209) (ls' := [(3, .int (l3 + 6)), (0, .ref 0), (1, .ref l1), (2, .ref l2)]) rfl dL_law_1206 rfl rfl (Nat.le_of_ble_eq_true rfl) rfl ?_
        refine ts_goto (tgt := 18) dL_law_1209 (by decide) ?_
        exact ts_lsub [1, 2, 3, 0] rfl W
      · replace W := W.2 q303
        refine ts_iconst (v := 0) (pc' := 819) rfl dL_law_818 (by decide) ?_
        exact ts_zret dL_law_819 rfl (by decide) c294 c295 W
    replace W := W.2
    by_cases q304 : ((xs l3.toNatClampNeg) &&& 63) = 22
    · replace W := W.1 q304
      refine ts_tableI (i := 22) (off := 787) (tgt := 820) dL_law_33 (by rw [q304]; rfl) (by decide) (by decide) rfl (by decide) ?_
      refine ts_aload_n 1 (pc' := 821) rfl dL_law_820 rfl rfl ?_
      refine ts_aload_n 0 (pc' := 822) rfl dL_law_821 rfl rfl ?_
      refine ts_iload_n 3 (pc' := 823) rfl dL_law_822 rfl rfl ?_
      refine ts_iconst (v := 1) (pc' := 824) rfl dL_law_823 (by decide) ?_
      refine ts_iadd (pc' := 825) rfl dL_law_824 ?_
      obtain ⟨c305, W⟩ := W
      refine ts_sld (pc' := 826) rfl dL_law_825 c305 ?_
      obtain ⟨c306, W⟩ := W
      obtain ⟨c307, W⟩ := W
      obtain ⟨c308, W⟩ := W
      refine ts_callV (M' := mX11_blocs) (C := RX11) (mc' := 0) (ms' := 0) (pc' := 829) (av := [.int (xs (l3 + 1).toNatClampNeg)]) (b := l1) rfl dL_law_826 rfl gL_law_X11_blocs rfl dvX11_blocs rfl (ci := 10) cfX11.1 (by decide) c306 (Nat.le_refl _) (Nat.le_of_ble_eq_true rfl) (Nat.le_of_ble_eq_true rfl) c307 c308 ts_kv0 W (ts_kki fun v309 hi310 hk311 W => ?_)
      refine ts_aload_n 2 (pc' := 830) rfl dL_law_829 rfl rfl ?_
      refine ts_aload_n 0 (pc' := 831) rfl dL_law_830 rfl rfl ?_
      refine ts_iload_n 3 (pc' := 832) rfl dL_law_831 rfl rfl ?_
      refine ts_iconst (v := 1) (pc' := 833) rfl dL_law_832 (by decide) ?_
      refine ts_iadd (pc' := 834) rfl dL_law_833 ?_
      refine ts_sld (pc' := 835) rfl dL_law_834 c305 ?_
      obtain ⟨c312, W⟩ := W
      refine ts_callV (M' := mX12_blocs) (C := RX12) (mc' := 0) (ms' := 0) (pc' := 838) (av := [.int (xs (l3 + 1).toNatClampNeg)]) (b := l2) rfl dL_law_835 rfl gL_law_X12_blocs rfl dvX12_blocs rfl (ci := 11) cfX12.1 (by decide) c312 (Nat.le_refl _) (Nat.le_of_ble_eq_true rfl) (Nat.le_of_ble_eq_true rfl) c307 c308 ts_kv0 W (ts_kki fun v313 hi314 hk315 W => ?_)
      refine ts_icmp_eq (pc' := 841) (tgt := 1206) rfl dL_law_838 (by decide) (fun q316 => ?_) (fun q316 => ?_)
      · replace W := W.1 q316
        refine ts_iinc 3 (pc' := 1209) (ls' := [(3, .int (l3 + 6)), (0, .ref 0), (1, .ref l1), (2, .ref l2)]) rfl dL_law_1206 rfl rfl (Nat.le_of_ble_eq_true rfl) rfl ?_
        refine ts_goto (tgt := 18) dL_law_1209 (by decide) ?_
        exact ts_lsub [1, 2, 3, 0] rfl W
      · replace W := W.2 q316
        refine ts_iconst (v := 0) (pc' := 842) rfl dL_law_841 (by decide) ?_
        exact ts_zret dL_law_842 rfl (by decide) c307 c308 W
    replace W := W.2
    by_cases q317 : ((xs l3.toNatClampNeg) &&& 63) = 23
    · replace W := W.1 q317
      refine ts_tableI (i := 23) (off := 810) (tgt := 843) dL_law_33 (by rw [q317]; rfl) (by decide) (by decide) rfl (by decide) ?_
      refine ts_aload_n 1 (pc' := 844) rfl dL_law_843 rfl rfl ?_
      refine ts_aload_n 0 (pc' := 845) rfl dL_law_844 rfl rfl ?_
      refine ts_iload_n 3 (pc' := 846) rfl dL_law_845 rfl rfl ?_
      refine ts_iconst (v := 1) (pc' := 847) rfl dL_law_846 (by decide) ?_
      refine ts_iadd (pc' := 848) rfl dL_law_847 ?_
      obtain ⟨c318, W⟩ := W
      refine ts_sld (pc' := 849) rfl dL_law_848 c318 ?_
      refine ts_aload_n 0 (pc' := 850) rfl dL_law_849 rfl rfl ?_
      refine ts_iload_n 3 (pc' := 851) rfl dL_law_850 rfl rfl ?_
      refine ts_iconst (v := 2) (pc' := 852) rfl dL_law_851 (by decide) ?_
      refine ts_iadd (pc' := 853) rfl dL_law_852 ?_
      obtain ⟨c319, W⟩ := W
      refine ts_sld (pc' := 854) rfl dL_law_853 c319 ?_
      refine ts_aload_n 0 (pc' := 855) rfl dL_law_854 rfl rfl ?_
      refine ts_iload_n 3 (pc' := 856) rfl dL_law_855 rfl rfl ?_
      refine ts_iconst (v := 3) (pc' := 857) rfl dL_law_856 (by decide) ?_
      refine ts_iadd (pc' := 858) rfl dL_law_857 ?_
      obtain ⟨c320, W⟩ := W
      refine ts_sld (pc' := 859) rfl dL_law_858 c320 ?_
      refine ts_aload_n 0 (pc' := 860) rfl dL_law_859 rfl rfl ?_
      refine ts_iload_n 3 (pc' := 861) rfl dL_law_860 rfl rfl ?_
      refine ts_iconst (v := 4) (pc' := 862) rfl dL_law_861 (by decide) ?_
      refine ts_iadd (pc' := 863) rfl dL_law_862 ?_
      obtain ⟨c321, W⟩ := W
      refine ts_sld (pc' := 864) rfl dL_law_863 c321 ?_
      refine ts_aload_n 0 (pc' := 865) rfl dL_law_864 rfl rfl ?_
      refine ts_iload_n 3 (pc' := 866) rfl dL_law_865 rfl rfl ?_
      refine ts_iconst (v := 5) (pc' := 867) rfl dL_law_866 (by decide) ?_
      refine ts_iadd (pc' := 868) rfl dL_law_867 ?_
      obtain ⟨c322, W⟩ := W
      refine ts_sld (pc' := 869) rfl dL_law_868 c322 ?_
      obtain ⟨c323, W⟩ := W
      obtain ⟨c324, W⟩ := W
      obtain ⟨c325, W⟩ := W
      refine ts_callV (M' := mX11_fits) (C := RX11) (mc' := 0) (ms' := 0) (pc' := 872) (av := [.int (xs (l3 + 1).toNatClampNeg), .int (xs (l3 + 2).toNatClampNeg), .int (xs (l3 + 3).toNatClampNeg), .int (xs (l3 + 4).toNatClampNeg), .int (xs (l3 + 5).toNatClampNeg)]) (b := l1) rfl dL_law_869 rfl gL_law_X11_fits rfl dvX11_fits rfl (ci := 10) cfX11.1 (by decide) c323 (Nat.le_refl _) (Nat.le_of_ble_eq_true rfl) (Nat.le_of_ble_eq_true rfl) c324 c325 ts_kv0 W (ts_kki fun v326 hi327 hk328 W => ?_)
      refine ts_aload_n 2 (pc' := 873) rfl dL_law_872 rfl rfl ?_
      refine ts_aload_n 0 (pc' := 874) rfl dL_law_873 rfl rfl ?_
      refine ts_iload_n 3 (pc' := 875) rfl dL_law_874 rfl rfl ?_
      refine ts_iconst (v := 1) (pc' := 876) rfl dL_law_875 (by decide) ?_
      refine ts_iadd (pc' := 877) rfl dL_law_876 ?_
      refine ts_sld (pc' := 878) rfl dL_law_877 c318 ?_
      refine ts_aload_n 0 (pc' := 879) rfl dL_law_878 rfl rfl ?_
      refine ts_iload_n 3 (pc' := 880) rfl dL_law_879 rfl rfl ?_
      refine ts_iconst (v := 2) (pc' := 881) rfl dL_law_880 (by decide) ?_
      refine ts_iadd (pc' := 882) rfl dL_law_881 ?_
      refine ts_sld (pc' := 883) rfl dL_law_882 c319 ?_
      refine ts_aload_n 0 (pc' := 884) rfl dL_law_883 rfl rfl ?_
      refine ts_iload_n 3 (pc' := 885) rfl dL_law_884 rfl rfl ?_
      refine ts_iconst (v := 3) (pc' := 886) rfl dL_law_885 (by decide) ?_
      refine ts_iadd (pc' := 887) rfl dL_law_886 ?_
      refine ts_sld (pc' := 888) rfl dL_law_887 c320 ?_
      refine ts_aload_n 0 (pc' := 889) rfl dL_law_888 rfl rfl ?_
      refine ts_iload_n 3 (pc' := 890) rfl dL_law_889 rfl rfl ?_
      refine ts_iconst (v := 4) (pc' := 891) rfl dL_law_890 (by decide) ?_
      refine ts_iadd (pc' := 892) rfl dL_law_891 ?_
      refine ts_sld (pc' := 893) rfl dL_law_892 c321 ?_
      refine ts_aload_n 0 (pc' := 894) rfl dL_law_893 rfl rfl ?_
      refine ts_iload_n 3 (pc' := 895) rfl dL_law_894 rfl rfl ?_
      refine ts_iconst (v := 5) (pc' := 896) rfl dL_law_895 (by decide) ?_
      refine ts_iadd (pc' := 897) rfl dL_law_896 ?_
      refine ts_sld (pc' := 898) rfl dL_law_897 c322 ?_
      obtain ⟨c329, W⟩ := W
      refine ts_callV (M' := mX12_fits) (C := RX12) (mc' := 0) (ms' := 0) (pc' := 901) (av := [.int (xs (l3 + 1).toNatClampNeg), .int (xs (l3 + 2).toNatClampNeg), .int (xs (l3 + 3).toNatClampNeg), .int (xs (l3 + 4).toNatClampNeg), .int (xs (l3 + 5).toNatClampNeg)]) (b := l2) rfl dL_law_898 rfl gL_law_X12_fits rfl dvX12_fits rfl (ci := 11) cfX12.1 (by decide) c329 (Nat.le_refl _) (Nat.le_of_ble_eq_true rfl) (Nat.le_of_ble_eq_true rfl) c324 c325 ts_kv0 W (ts_kki fun v330 hi331 hk332 W => ?_)
      refine ts_icmp_eq (pc' := 904) (tgt := 1206) rfl dL_law_901 (by decide) (fun q333 => ?_) (fun q333 => ?_)
      · replace W := W.1 q333
        refine ts_iinc 3 (pc' := 1209) (ls' := [(3, .int (l3 + 6)), (0, .ref 0), (1, .ref l1), (2, .ref l2)]) rfl dL_law_1206 rfl rfl (Nat.le_of_ble_eq_true rfl) rfl ?_
        refine ts_goto (tgt := 18) dL_law_1209 (by decide) ?_
        exact ts_lsub [1, 2, 3, 0] rfl W
      · replace W := W.2 q333
        refine ts_iconst (v := 0) (pc' := 905) rfl dL_law_904 (by decide) ?_
        exact ts_zret dL_law_905 rfl (by decide) c324 c325 W
    replace W := W.2
    by_cases q334 : ((xs l3.toNatClampNeg) &&& 63) = 24
    · replace W := W.1 q334
      refine ts_tableI (i := 24) (off := 873) (tgt := 906) dL_law_33 (by rw [q334]; rfl) (by decide) (by decide) rfl (by decide) ?_
      refine ts_aload_n 1 (pc' := 907) rfl dL_law_906 rfl rfl ?_
      refine ts_aload_n 0 (pc' := 908) rfl dL_law_907 rfl rfl ?_
      refine ts_iload_n 3 (pc' := 909) rfl dL_law_908 rfl rfl ?_
      refine ts_iconst (v := 1) (pc' := 910) rfl dL_law_909 (by decide) ?_
      refine ts_iadd (pc' := 911) rfl dL_law_910 ?_
      obtain ⟨c335, W⟩ := W
      refine ts_sld (pc' := 912) rfl dL_law_911 c335 ?_
      refine ts_aload_n 0 (pc' := 913) rfl dL_law_912 rfl rfl ?_
      refine ts_iload_n 3 (pc' := 914) rfl dL_law_913 rfl rfl ?_
      refine ts_iconst (v := 2) (pc' := 915) rfl dL_law_914 (by decide) ?_
      refine ts_iadd (pc' := 916) rfl dL_law_915 ?_
      obtain ⟨c336, W⟩ := W
      refine ts_sld (pc' := 917) rfl dL_law_916 c336 ?_
      refine ts_aload_n 0 (pc' := 918) rfl dL_law_917 rfl rfl ?_
      refine ts_iload_n 3 (pc' := 919) rfl dL_law_918 rfl rfl ?_
      refine ts_iconst (v := 3) (pc' := 920) rfl dL_law_919 (by decide) ?_
      refine ts_iadd (pc' := 921) rfl dL_law_920 ?_
      obtain ⟨c337, W⟩ := W
      refine ts_sld (pc' := 922) rfl dL_law_921 c337 ?_
      refine ts_aload_n 0 (pc' := 923) rfl dL_law_922 rfl rfl ?_
      refine ts_iload_n 3 (pc' := 924) rfl dL_law_923 rfl rfl ?_
      refine ts_iconst (v := 4) (pc' := 925) rfl dL_law_924 (by decide) ?_
      refine ts_iadd (pc' := 926) rfl dL_law_925 ?_
      obtain ⟨c338, W⟩ := W
      refine ts_sld (pc' := 927) rfl dL_law_926 c338 ?_
      refine ts_aload_n 0 (pc' := 928) rfl dL_law_927 rfl rfl ?_
      refine ts_iload_n 3 (pc' := 929) rfl dL_law_928 rfl rfl ?_
      refine ts_iconst (v := 5) (pc' := 930) rfl dL_law_929 (by decide) ?_
      refine ts_iadd (pc' := 931) rfl dL_law_930 ?_
      obtain ⟨c339, W⟩ := W
      refine ts_sld (pc' := 932) rfl dL_law_931 c339 ?_
      obtain ⟨c340, W⟩ := W
      obtain ⟨c341, W⟩ := W
      obtain ⟨c342, W⟩ := W
      refine ts_callV (M' := mX11_chance) (C := RX11) (mc' := 0) (ms' := 0) (pc' := 935) (av := [.int (xs (l3 + 1).toNatClampNeg), .int (xs (l3 + 2).toNatClampNeg), .int (xs (l3 + 3).toNatClampNeg), .int (xs (l3 + 4).toNatClampNeg), .int (xs (l3 + 5).toNatClampNeg)]) (b := l1) rfl dL_law_932 rfl gL_law_X11_chance rfl dvX11_chance rfl (ci := 10) cfX11.1 (by decide) c340 (Nat.le_refl _) (Nat.le_of_ble_eq_true rfl) (Nat.le_of_ble_eq_true rfl) c341 c342 ts_kv0 W (ts_kki fun v343 hi344 hk345 W => ?_)
      refine ts_aload_n 2 (pc' := 936) rfl dL_law_935 rfl rfl ?_
      refine ts_aload_n 0 (pc' := 937) rfl dL_law_936 rfl rfl ?_
      refine ts_iload_n 3 (pc' := 938) rfl dL_law_937 rfl rfl ?_
      refine ts_iconst (v := 1) (pc' := 939) rfl dL_law_938 (by decide) ?_
      refine ts_iadd (pc' := 940) rfl dL_law_939 ?_
      refine ts_sld (pc' := 941) rfl dL_law_940 c335 ?_
      refine ts_aload_n 0 (pc' := 942) rfl dL_law_941 rfl rfl ?_
      refine ts_iload_n 3 (pc' := 943) rfl dL_law_942 rfl rfl ?_
      refine ts_iconst (v := 2) (pc' := 944) rfl dL_law_943 (by decide) ?_
      refine ts_iadd (pc' := 945) rfl dL_law_944 ?_
      refine ts_sld (pc' := 946) rfl dL_law_945 c336 ?_
      refine ts_aload_n 0 (pc' := 947) rfl dL_law_946 rfl rfl ?_
      refine ts_iload_n 3 (pc' := 948) rfl dL_law_947 rfl rfl ?_
      refine ts_iconst (v := 3) (pc' := 949) rfl dL_law_948 (by decide) ?_
      refine ts_iadd (pc' := 950) rfl dL_law_949 ?_
      refine ts_sld (pc' := 951) rfl dL_law_950 c337 ?_
      refine ts_aload_n 0 (pc' := 952) rfl dL_law_951 rfl rfl ?_
      refine ts_iload_n 3 (pc' := 953) rfl dL_law_952 rfl rfl ?_
      refine ts_iconst (v := 4) (pc' := 954) rfl dL_law_953 (by decide) ?_
      refine ts_iadd (pc' := 955) rfl dL_law_954 ?_
      refine ts_sld (pc' := 956) rfl dL_law_955 c338 ?_
      refine ts_aload_n 0 (pc' := 957) rfl dL_law_956 rfl rfl ?_
      refine ts_iload_n 3 (pc' := 958) rfl dL_law_957 rfl rfl ?_
      refine ts_iconst (v := 5) (pc' := 959) rfl dL_law_958 (by decide) ?_
      refine ts_iadd (pc' := 960) rfl dL_law_959 ?_
      refine ts_sld (pc' := 961) rfl dL_law_960 c339 ?_
      obtain ⟨c346, W⟩ := W
      refine ts_callV (M' := mX12_chance) (C := RX12) (mc' := 0) (ms' := 0) (pc' := 964) (av := [.int (xs (l3 + 1).toNatClampNeg), .int (xs (l3 + 2).toNatClampNeg), .int (xs (l3 + 3).toNatClampNeg), .int (xs (l3 + 4).toNatClampNeg), .int (xs (l3 + 5).toNatClampNeg)]) (b := l2) rfl dL_law_961 rfl gL_law_X12_chance rfl dvX12_chance rfl (ci := 11) cfX12.1 (by decide) c346 (Nat.le_refl _) (Nat.le_of_ble_eq_true rfl) (Nat.le_of_ble_eq_true rfl) c341 c342 ts_kv0 W (ts_kki fun v347 hi348 hk349 W => ?_)
      refine ts_icmp_eq (pc' := 967) (tgt := 1206) rfl dL_law_964 (by decide) (fun q350 => ?_) (fun q350 => ?_)
      · replace W := W.1 q350
        refine ts_iinc 3 (pc' := 1209) (ls' := [(3, .int (l3 + 6)), (0, .ref 0), (1, .ref l1), (2, .ref l2)]) rfl dL_law_1206 rfl rfl (Nat.le_of_ble_eq_true rfl) rfl ?_
        refine ts_goto (tgt := 18) dL_law_1209 (by decide) ?_
        exact ts_lsub [1, 2, 3, 0] rfl W
      · replace W := W.2 q350
        refine ts_iconst (v := 0) (pc' := 968) rfl dL_law_967 (by decide) ?_
        exact ts_zret dL_law_968 rfl (by decide) c341 c342 W
    replace W := W.2
    by_cases q351 : ((xs l3.toNatClampNeg) &&& 63) = 25
    · replace W := W.1 q351
      refine ts_tableI (i := 25) (off := 936) (tgt := 969) dL_law_33 (by rw [q351]; rfl) (by decide) (by decide) rfl (by decide) ?_
      refine ts_aload_n 1 (pc' := 970) rfl dL_law_969 rfl rfl ?_
      refine ts_aload_n 0 (pc' := 971) rfl dL_law_970 rfl rfl ?_
      refine ts_iload_n 3 (pc' := 972) rfl dL_law_971 rfl rfl ?_
      refine ts_iconst (v := 1) (pc' := 973) rfl dL_law_972 (by decide) ?_
      refine ts_iadd (pc' := 974) rfl dL_law_973 ?_
      obtain ⟨c352, W⟩ := W
      refine ts_sld (pc' := 975) rfl dL_law_974 c352 ?_
      refine ts_aload_n 0 (pc' := 976) rfl dL_law_975 rfl rfl ?_
      refine ts_iload_n 3 (pc' := 977) rfl dL_law_976 rfl rfl ?_
      refine ts_iconst (v := 2) (pc' := 978) rfl dL_law_977 (by decide) ?_
      refine ts_iadd (pc' := 979) rfl dL_law_978 ?_
      obtain ⟨c353, W⟩ := W
      refine ts_sld (pc' := 980) rfl dL_law_979 c353 ?_
      refine ts_aload_n 0 (pc' := 981) rfl dL_law_980 rfl rfl ?_
      refine ts_iload_n 3 (pc' := 982) rfl dL_law_981 rfl rfl ?_
      refine ts_iconst (v := 3) (pc' := 983) rfl dL_law_982 (by decide) ?_
      refine ts_iadd (pc' := 984) rfl dL_law_983 ?_
      obtain ⟨c354, W⟩ := W
      refine ts_sld (pc' := 985) rfl dL_law_984 c354 ?_
      obtain ⟨c355, W⟩ := W
      obtain ⟨c356, W⟩ := W
      obtain ⟨c357, W⟩ := W
      refine ts_callV (M' := mX11_drawn) (C := RX11) (mc' := 0) (ms' := 0) (pc' := 988) (av := [.int (xs (l3 + 1).toNatClampNeg), .int (xs (l3 + 2).toNatClampNeg), .int (xs (l3 + 3).toNatClampNeg)]) (b := l1) rfl dL_law_985 rfl gL_law_X11_drawn rfl dvX11_drawn rfl (ci := 10) cfX11.1 (by decide) c355 (Nat.le_refl _) (Nat.le_of_ble_eq_true rfl) (Nat.le_of_ble_eq_true rfl) c356 c357 ts_kv0 W (ts_kki fun v358 hi359 hk360 W => ?_)
      refine ts_aload_n 2 (pc' := 989) rfl dL_law_988 rfl rfl ?_
      refine ts_aload_n 0 (pc' := 990) rfl dL_law_989 rfl rfl ?_
      refine ts_iload_n 3 (pc' := 991) rfl dL_law_990 rfl rfl ?_
      refine ts_iconst (v := 1) (pc' := 992) rfl dL_law_991 (by decide) ?_
      refine ts_iadd (pc' := 993) rfl dL_law_992 ?_
      refine ts_sld (pc' := 994) rfl dL_law_993 c352 ?_
      refine ts_aload_n 0 (pc' := 995) rfl dL_law_994 rfl rfl ?_
      refine ts_iload_n 3 (pc' := 996) rfl dL_law_995 rfl rfl ?_
      refine ts_iconst (v := 2) (pc' := 997) rfl dL_law_996 (by decide) ?_
      refine ts_iadd (pc' := 998) rfl dL_law_997 ?_
      refine ts_sld (pc' := 999) rfl dL_law_998 c353 ?_
      refine ts_aload_n 0 (pc' := 1000) rfl dL_law_999 rfl rfl ?_
      refine ts_iload_n 3 (pc' := 1001) rfl dL_law_1000 rfl rfl ?_
      refine ts_iconst (v := 3) (pc' := 1002) rfl dL_law_1001 (by decide) ?_
      refine ts_iadd (pc' := 1003) rfl dL_law_1002 ?_
      refine ts_sld (pc' := 1004) rfl dL_law_1003 c354 ?_
      obtain ⟨c361, W⟩ := W
      refine ts_callV (M' := mX12_drawn) (C := RX12) (mc' := 0) (ms' := 0) (pc' := 1007) (av := [.int (xs (l3 + 1).toNatClampNeg), .int (xs (l3 + 2).toNatClampNeg), .int (xs (l3 + 3).toNatClampNeg)]) (b := l2) rfl dL_law_1004 rfl gL_law_X12_drawn rfl dvX12_drawn rfl (ci := 11) cfX12.1 (by decide) c361 (Nat.le_refl _) (Nat.le_of_ble_eq_true rfl) (Nat.le_of_ble_eq_true rfl) c356 c357 ts_kv0 W (ts_kki fun v362 hi363 hk364 W => ?_)
      refine ts_icmp_eq (pc' := 1010) (tgt := 1206) rfl dL_law_1007 (by decide) (fun q365 => ?_) (fun q365 => ?_)
      · replace W := W.1 q365
        refine ts_iinc 3 (pc' := 1209) (ls' := [(3, .int (l3 + 6)), (0, .ref 0), (1, .ref l1), (2, .ref l2)]) rfl dL_law_1206 rfl rfl (Nat.le_of_ble_eq_true rfl) rfl ?_
        refine ts_goto (tgt := 18) dL_law_1209 (by decide) ?_
        exact ts_lsub [1, 2, 3, 0] rfl W
      · replace W := W.2 q365
        refine ts_iconst (v := 0) (pc' := 1011) rfl dL_law_1010 (by decide) ?_
        exact ts_zret dL_law_1011 rfl (by decide) c356 c357 W
    replace W := W.2
    by_cases q366 : ((xs l3.toNatClampNeg) &&& 63) = 26
    · replace W := W.1 q366
      refine ts_tableI (i := 26) (off := 979) (tgt := 1012) dL_law_33 (by rw [q366]; rfl) (by decide) (by decide) rfl (by decide) ?_
      refine ts_aload_n 1 (pc' := 1013) rfl dL_law_1012 rfl rfl ?_
      refine ts_aload_n 0 (pc' := 1014) rfl dL_law_1013 rfl rfl ?_
      refine ts_iload_n 3 (pc' := 1015) rfl dL_law_1014 rfl rfl ?_
      refine ts_iconst (v := 1) (pc' := 1016) rfl dL_law_1015 (by decide) ?_
      refine ts_iadd (pc' := 1017) rfl dL_law_1016 ?_
      obtain ⟨c367, W⟩ := W
      refine ts_sld (pc' := 1018) rfl dL_law_1017 c367 ?_
      obtain ⟨c368, W⟩ := W
      obtain ⟨c369, W⟩ := W
      obtain ⟨c370, W⟩ := W
      refine ts_callV (M' := mX11_image) (C := RX11) (mc' := 0) (ms' := 0) (pc' := 1021) (av := [.int (xs (l3 + 1).toNatClampNeg)]) (b := l1) rfl dL_law_1018 rfl gL_law_X11_image rfl dvX11_image rfl (ci := 10) cfX11.1 (by decide) c368 (Nat.le_refl _) (Nat.le_of_ble_eq_true rfl) (Nat.le_of_ble_eq_true rfl) c369 c370 ts_kv0 W (ts_kki fun v371 hi372 hk373 W => ?_)
      refine ts_aload_n 2 (pc' := 1022) rfl dL_law_1021 rfl rfl ?_
      refine ts_aload_n 0 (pc' := 1023) rfl dL_law_1022 rfl rfl ?_
      refine ts_iload_n 3 (pc' := 1024) rfl dL_law_1023 rfl rfl ?_
      refine ts_iconst (v := 1) (pc' := 1025) rfl dL_law_1024 (by decide) ?_
      refine ts_iadd (pc' := 1026) rfl dL_law_1025 ?_
      refine ts_sld (pc' := 1027) rfl dL_law_1026 c367 ?_
      obtain ⟨c374, W⟩ := W
      refine ts_callV (M' := mX12_image) (C := RX12) (mc' := 0) (ms' := 0) (pc' := 1030) (av := [.int (xs (l3 + 1).toNatClampNeg)]) (b := l2) rfl dL_law_1027 rfl gL_law_X12_image rfl dvX12_image rfl (ci := 11) cfX12.1 (by decide) c374 (Nat.le_refl _) (Nat.le_of_ble_eq_true rfl) (Nat.le_of_ble_eq_true rfl) c369 c370 ts_kv0 W (ts_kki fun v375 hi376 hk377 W => ?_)
      refine ts_icmp_eq (pc' := 1033) (tgt := 1206) rfl dL_law_1030 (by decide) (fun q378 => ?_) (fun q378 => ?_)
      · replace W := W.1 q378
        refine ts_iinc 3 (pc' := 1209) (ls' := [(3, .int (l3 + 6)), (0, .ref 0), (1, .ref l1), (2, .ref l2)]) rfl dL_law_1206 rfl rfl (Nat.le_of_ble_eq_true rfl) rfl ?_
        refine ts_goto (tgt := 18) dL_law_1209 (by decide) ?_
        exact ts_lsub [1, 2, 3, 0] rfl W
      · replace W := W.2 q378
        refine ts_iconst (v := 0) (pc' := 1034) rfl dL_law_1033 (by decide) ?_
        exact ts_zret dL_law_1034 rfl (by decide) c369 c370 W
    replace W := W.2
    by_cases q379 : ((xs l3.toNatClampNeg) &&& 63) = 27
    · replace W := W.1 q379
      refine ts_tableI (i := 27) (off := 1002) (tgt := 1035) dL_law_33 (by rw [q379]; rfl) (by decide) (by decide) rfl (by decide) ?_
      refine ts_aload_n 1 (pc' := 1036) rfl dL_law_1035 rfl rfl ?_
      refine ts_aload_n 0 (pc' := 1037) rfl dL_law_1036 rfl rfl ?_
      refine ts_iload_n 3 (pc' := 1038) rfl dL_law_1037 rfl rfl ?_
      refine ts_iconst (v := 1) (pc' := 1039) rfl dL_law_1038 (by decide) ?_
      refine ts_iadd (pc' := 1040) rfl dL_law_1039 ?_
      obtain ⟨c380, W⟩ := W
      refine ts_sld (pc' := 1041) rfl dL_law_1040 c380 ?_
      obtain ⟨c381, W⟩ := W
      obtain ⟨c382, W⟩ := W
      obtain ⟨c383, W⟩ := W
      refine ts_callV (M' := mX11_restore) (C := RX11) (mc' := 0) (ms' := 0) (pc' := 1044) (av := [.int (xs (l3 + 1).toNatClampNeg)]) (b := l1) rfl dL_law_1041 rfl gL_law_X11_restore rfl dvX11_restore rfl (ci := 10) cfX11.1 (by decide) c381 (Nat.le_refl _) (Nat.le_of_ble_eq_true rfl) (Nat.le_of_ble_eq_true rfl) c382 c383 ts_kv0 W (ts_kki fun v384 hi385 hk386 W => ?_)
      refine ts_aload_n 2 (pc' := 1045) rfl dL_law_1044 rfl rfl ?_
      refine ts_aload_n 0 (pc' := 1046) rfl dL_law_1045 rfl rfl ?_
      refine ts_iload_n 3 (pc' := 1047) rfl dL_law_1046 rfl rfl ?_
      refine ts_iconst (v := 1) (pc' := 1048) rfl dL_law_1047 (by decide) ?_
      refine ts_iadd (pc' := 1049) rfl dL_law_1048 ?_
      refine ts_sld (pc' := 1050) rfl dL_law_1049 c380 ?_
      obtain ⟨c387, W⟩ := W
      refine ts_callV (M' := mX12_restore) (C := RX12) (mc' := 0) (ms' := 0) (pc' := 1053) (av := [.int (xs (l3 + 1).toNatClampNeg)]) (b := l2) rfl dL_law_1050 rfl gL_law_X12_restore rfl dvX12_restore rfl (ci := 11) cfX12.1 (by decide) c387 (Nat.le_refl _) (Nat.le_of_ble_eq_true rfl) (Nat.le_of_ble_eq_true rfl) c382 c383 ts_kv0 W (ts_kki fun v388 hi389 hk390 W => ?_)
      refine ts_icmp_eq (pc' := 1056) (tgt := 1206) rfl dL_law_1053 (by decide) (fun q391 => ?_) (fun q391 => ?_)
      · replace W := W.1 q391
        refine ts_iinc 3 (pc' := 1209) (ls' := [(3, .int (l3 + 6)), (0, .ref 0), (1, .ref l1), (2, .ref l2)]) rfl dL_law_1206 rfl rfl (Nat.le_of_ble_eq_true rfl) rfl ?_
        refine ts_goto (tgt := 18) dL_law_1209 (by decide) ?_
        exact ts_lsub [1, 2, 3, 0] rfl W
      · replace W := W.2 q391
        refine ts_iconst (v := 0) (pc' := 1057) rfl dL_law_1056 (by decide) ?_
        exact ts_zret dL_law_1057 rfl (by decide) c382 c383 W
    replace W := W.2
    by_cases q392 : ((xs l3.toNatClampNeg) &&& 63) = 28
    · replace W := W.1 q392
      refine ts_tableI (i := 28) (off := 1025) (tgt := 1058) dL_law_33 (by rw [q392]; rfl) (by decide) (by decide) rfl (by decide) ?_
      refine ts_aload_n 1 (pc' := 1059) rfl dL_law_1058 rfl rfl ?_
      refine ts_aload_n 0 (pc' := 1060) rfl dL_law_1059 rfl rfl ?_
      refine ts_iload_n 3 (pc' := 1061) rfl dL_law_1060 rfl rfl ?_
      refine ts_iconst (v := 1) (pc' := 1062) rfl dL_law_1061 (by decide) ?_
      refine ts_iadd (pc' := 1063) rfl dL_law_1062 ?_
      obtain ⟨c393, W⟩ := W
      refine ts_sld (pc' := 1064) rfl dL_law_1063 c393 ?_
      obtain ⟨c394, W⟩ := W
      obtain ⟨c395, W⟩ := W
      obtain ⟨c396, W⟩ := W
      refine ts_callV (M' := mX11_kind) (C := RX11) (mc' := 0) (ms' := 0) (pc' := 1067) (av := [.int (xs (l3 + 1).toNatClampNeg)]) (b := l1) rfl dL_law_1064 rfl gL_law_X11_kind rfl dvX11_kind rfl (ci := 10) cfX11.1 (by decide) c394 (Nat.le_refl _) (Nat.le_of_ble_eq_true rfl) (Nat.le_of_ble_eq_true rfl) c395 c396 ts_kv0 W (ts_kki fun v397 hi398 hk399 W => ?_)
      refine ts_aload_n 2 (pc' := 1068) rfl dL_law_1067 rfl rfl ?_
      refine ts_aload_n 0 (pc' := 1069) rfl dL_law_1068 rfl rfl ?_
      refine ts_iload_n 3 (pc' := 1070) rfl dL_law_1069 rfl rfl ?_
      refine ts_iconst (v := 1) (pc' := 1071) rfl dL_law_1070 (by decide) ?_
      refine ts_iadd (pc' := 1072) rfl dL_law_1071 ?_
      refine ts_sld (pc' := 1073) rfl dL_law_1072 c393 ?_
      obtain ⟨c400, W⟩ := W
      refine ts_callV (M' := mX12_kind) (C := RX12) (mc' := 0) (ms' := 0) (pc' := 1076) (av := [.int (xs (l3 + 1).toNatClampNeg)]) (b := l2) rfl dL_law_1073 rfl gL_law_X12_kind rfl dvX12_kind rfl (ci := 11) cfX12.1 (by decide) c400 (Nat.le_refl _) (Nat.le_of_ble_eq_true rfl) (Nat.le_of_ble_eq_true rfl) c395 c396 ts_kv0 W (ts_kki fun v401 hi402 hk403 W => ?_)
      refine ts_icmp_eq (pc' := 1079) (tgt := 1206) rfl dL_law_1076 (by decide) (fun q404 => ?_) (fun q404 => ?_)
      · replace W := W.1 q404
        refine ts_iinc 3 (pc' := 1209) (ls' := [(3, .int (l3 + 6)), (0, .ref 0), (1, .ref l1), (2, .ref l2)]) rfl dL_law_1206 rfl rfl (Nat.le_of_ble_eq_true rfl) rfl ?_
        refine ts_goto (tgt := 18) dL_law_1209 (by decide) ?_
        exact ts_lsub [1, 2, 3, 0] rfl W
      · replace W := W.2 q404
        refine ts_iconst (v := 0) (pc' := 1080) rfl dL_law_1079 (by decide) ?_
        exact ts_zret dL_law_1080 rfl (by decide) c395 c396 W
    replace W := W.2
    by_cases q405 : ((xs l3.toNatClampNeg) &&& 63) = 29
    · replace W := W.1 q405
      refine ts_tableI (i := 29) (off := 1048) (tgt := 1081) dL_law_33 (by rw [q405]; rfl) (by decide) (by decide) rfl (by decide) ?_
      refine ts_aload_n 1 (pc' := 1082) rfl dL_law_1081 rfl rfl ?_
      refine ts_aload_n 0 (pc' := 1083) rfl dL_law_1082 rfl rfl ?_
      refine ts_iload_n 3 (pc' := 1084) rfl dL_law_1083 rfl rfl ?_
      refine ts_iconst (v := 1) (pc' := 1085) rfl dL_law_1084 (by decide) ?_
      refine ts_iadd (pc' := 1086) rfl dL_law_1085 ?_
      obtain ⟨c406, W⟩ := W
      refine ts_sld (pc' := 1087) rfl dL_law_1086 c406 ?_
      refine ts_aload_n 0 (pc' := 1088) rfl dL_law_1087 rfl rfl ?_
      refine ts_iload_n 3 (pc' := 1089) rfl dL_law_1088 rfl rfl ?_
      refine ts_iconst (v := 2) (pc' := 1090) rfl dL_law_1089 (by decide) ?_
      refine ts_iadd (pc' := 1091) rfl dL_law_1090 ?_
      obtain ⟨c407, W⟩ := W
      refine ts_sld (pc' := 1092) rfl dL_law_1091 c407 ?_
      obtain ⟨c408, W⟩ := W
      obtain ⟨c409, W⟩ := W
      obtain ⟨c410, W⟩ := W
      refine ts_callV (M' := mX11_as) (C := RX11) (mc' := 0) (ms' := 0) (pc' := 1095) (av := [.int (xs (l3 + 1).toNatClampNeg), .int (xs (l3 + 2).toNatClampNeg)]) (b := l1) rfl dL_law_1092 rfl gL_law_X11_as rfl dvX11_as rfl (ci := 10) cfX11.1 (by decide) c408 (Nat.le_refl _) (Nat.le_of_ble_eq_true rfl) (Nat.le_of_ble_eq_true rfl) c409 c410 ts_kv0 W (ts_kki fun v411 hi412 hk413 W => ?_)
      refine ts_aload_n 2 (pc' := 1096) rfl dL_law_1095 rfl rfl ?_
      refine ts_aload_n 0 (pc' := 1097) rfl dL_law_1096 rfl rfl ?_
      refine ts_iload_n 3 (pc' := 1098) rfl dL_law_1097 rfl rfl ?_
      refine ts_iconst (v := 1) (pc' := 1099) rfl dL_law_1098 (by decide) ?_
      refine ts_iadd (pc' := 1100) rfl dL_law_1099 ?_
      refine ts_sld (pc' := 1101) rfl dL_law_1100 c406 ?_
      refine ts_aload_n 0 (pc' := 1102) rfl dL_law_1101 rfl rfl ?_
      refine ts_iload_n 3 (pc' := 1103) rfl dL_law_1102 rfl rfl ?_
      refine ts_iconst (v := 2) (pc' := 1104) rfl dL_law_1103 (by decide) ?_
      refine ts_iadd (pc' := 1105) rfl dL_law_1104 ?_
      refine ts_sld (pc' := 1106) rfl dL_law_1105 c407 ?_
      obtain ⟨c414, W⟩ := W
      refine ts_callV (M' := mX12_as) (C := RX12) (mc' := 0) (ms' := 0) (pc' := 1109) (av := [.int (xs (l3 + 1).toNatClampNeg), .int (xs (l3 + 2).toNatClampNeg)]) (b := l2) rfl dL_law_1106 rfl gL_law_X12_as rfl dvX12_as rfl (ci := 11) cfX12.1 (by decide) c414 (Nat.le_refl _) (Nat.le_of_ble_eq_true rfl) (Nat.le_of_ble_eq_true rfl) c409 c410 ts_kv0 W (ts_kki fun v415 hi416 hk417 W => ?_)
      refine ts_icmp_eq (pc' := 1112) (tgt := 1206) rfl dL_law_1109 (by decide) (fun q418 => ?_) (fun q418 => ?_)
      · replace W := W.1 q418
        refine ts_iinc 3 (pc' := 1209) (ls' := [(3, .int (l3 + 6)), (0, .ref 0), (1, .ref l1), (2, .ref l2)]) rfl dL_law_1206 rfl rfl (Nat.le_of_ble_eq_true rfl) rfl ?_
        refine ts_goto (tgt := 18) dL_law_1209 (by decide) ?_
        exact ts_lsub [1, 2, 3, 0] rfl W
      · replace W := W.2 q418
        refine ts_iconst (v := 0) (pc' := 1113) rfl dL_law_1112 (by decide) ?_
        exact ts_zret dL_law_1113 rfl (by decide) c409 c410 W
    replace W := W.2
    by_cases q419 : ((xs l3.toNatClampNeg) &&& 63) = 30
    · replace W := W.1 q419
      refine ts_tableI (i := 30) (off := 1081) (tgt := 1114) dL_law_33 (by rw [q419]; rfl) (by decide) (by decide) rfl (by decide) ?_
      refine ts_aload_n 1 (pc' := 1115) rfl dL_law_1114 rfl rfl ?_
      refine ts_aload_n 0 (pc' := 1116) rfl dL_law_1115 rfl rfl ?_
      refine ts_iload_n 3 (pc' := 1117) rfl dL_law_1116 rfl rfl ?_
      refine ts_iconst (v := 1) (pc' := 1118) rfl dL_law_1117 (by decide) ?_
      refine ts_iadd (pc' := 1119) rfl dL_law_1118 ?_
      obtain ⟨c420, W⟩ := W
      refine ts_sld (pc' := 1120) rfl dL_law_1119 c420 ?_
      refine ts_aload_n 0 (pc' := 1121) rfl dL_law_1120 rfl rfl ?_
      refine ts_iload_n 3 (pc' := 1122) rfl dL_law_1121 rfl rfl ?_
      refine ts_iconst (v := 2) (pc' := 1123) rfl dL_law_1122 (by decide) ?_
      refine ts_iadd (pc' := 1124) rfl dL_law_1123 ?_
      obtain ⟨c421, W⟩ := W
      refine ts_sld (pc' := 1125) rfl dL_law_1124 c421 ?_
      obtain ⟨c422, W⟩ := W
      obtain ⟨c423, W⟩ := W
      obtain ⟨c424, W⟩ := W
      refine ts_callV (M' := mX11_ask) (C := RX11) (mc' := 0) (ms' := 0) (pc' := 1128) (av := [.int (xs (l3 + 1).toNatClampNeg), .int (xs (l3 + 2).toNatClampNeg)]) (b := l1) rfl dL_law_1125 rfl gL_law_X11_ask rfl dvX11_ask rfl (ci := 10) cfX11.1 (by decide) c422 (Nat.le_refl _) (Nat.le_of_ble_eq_true rfl) (Nat.le_of_ble_eq_true rfl) c423 c424 ts_kv0 W (ts_kki fun v425 hi426 hk427 W => ?_)
      refine ts_aload_n 2 (pc' := 1129) rfl dL_law_1128 rfl rfl ?_
      refine ts_aload_n 0 (pc' := 1130) rfl dL_law_1129 rfl rfl ?_
      refine ts_iload_n 3 (pc' := 1131) rfl dL_law_1130 rfl rfl ?_
      refine ts_iconst (v := 1) (pc' := 1132) rfl dL_law_1131 (by decide) ?_
      refine ts_iadd (pc' := 1133) rfl dL_law_1132 ?_
      refine ts_sld (pc' := 1134) rfl dL_law_1133 c420 ?_
      refine ts_aload_n 0 (pc' := 1135) rfl dL_law_1134 rfl rfl ?_
      refine ts_iload_n 3 (pc' := 1136) rfl dL_law_1135 rfl rfl ?_
      refine ts_iconst (v := 2) (pc' := 1137) rfl dL_law_1136 (by decide) ?_
      refine ts_iadd (pc' := 1138) rfl dL_law_1137 ?_
      refine ts_sld (pc' := 1139) rfl dL_law_1138 c421 ?_
      obtain ⟨c428, W⟩ := W
      refine ts_callV (M' := mX12_ask) (C := RX12) (mc' := 0) (ms' := 0) (pc' := 1142) (av := [.int (xs (l3 + 1).toNatClampNeg), .int (xs (l3 + 2).toNatClampNeg)]) (b := l2) rfl dL_law_1139 rfl gL_law_X12_ask rfl dvX12_ask rfl (ci := 11) cfX12.1 (by decide) c428 (Nat.le_refl _) (Nat.le_of_ble_eq_true rfl) (Nat.le_of_ble_eq_true rfl) c423 c424 ts_kv0 W (ts_kki fun v429 hi430 hk431 W => ?_)
      refine ts_icmp_eq (pc' := 1145) (tgt := 1206) rfl dL_law_1142 (by decide) (fun q432 => ?_) (fun q432 => ?_)
      · replace W := W.1 q432
        refine ts_iinc 3 (pc' := 1209) (ls' := [(3, .int (l3 + 6)), (0, .ref 0), (1, .ref l1), (2, .ref l2)]) rfl dL_law_1206 rfl rfl (Nat.le_of_ble_eq_true rfl) rfl ?_
        refine ts_goto (tgt := 18) dL_law_1209 (by decide) ?_
        exact ts_lsub [1, 2, 3, 0] rfl W
      · replace W := W.2 q432
        refine ts_iconst (v := 0) (pc' := 1146) rfl dL_law_1145 (by decide) ?_
        exact ts_zret dL_law_1146 rfl (by decide) c423 c424 W
    replace W := W.2
    by_cases q433 : ((xs l3.toNatClampNeg) &&& 63) = 31
    · replace W := W.1 q433
      refine ts_tableI (i := 31) (off := 1114) (tgt := 1147) dL_law_33 (by rw [q433]; rfl) (by decide) (by decide) rfl (by decide) ?_
      refine ts_aload_n 1 (pc' := 1148) rfl dL_law_1147 rfl rfl ?_
      refine ts_aload_n 0 (pc' := 1149) rfl dL_law_1148 rfl rfl ?_
      refine ts_iload_n 3 (pc' := 1150) rfl dL_law_1149 rfl rfl ?_
      refine ts_iconst (v := 1) (pc' := 1151) rfl dL_law_1150 (by decide) ?_
      refine ts_iadd (pc' := 1152) rfl dL_law_1151 ?_
      obtain ⟨c434, W⟩ := W
      refine ts_sld (pc' := 1153) rfl dL_law_1152 c434 ?_
      obtain ⟨c435, W⟩ := W
      obtain ⟨c436, W⟩ := W
      obtain ⟨c437, W⟩ := W
      refine ts_callV (M' := mX11_trace) (C := RX11) (mc' := 0) (ms' := 0) (pc' := 1156) (av := [.int (xs (l3 + 1).toNatClampNeg)]) (b := l1) rfl dL_law_1153 rfl gL_law_X11_trace rfl dvX11_trace rfl (ci := 10) cfX11.1 (by decide) c435 (Nat.le_refl _) (Nat.le_of_ble_eq_true rfl) (Nat.le_of_ble_eq_true rfl) c436 c437 ts_kv0 W (ts_kki fun v438 hi439 hk440 W => ?_)
      refine ts_aload_n 2 (pc' := 1157) rfl dL_law_1156 rfl rfl ?_
      refine ts_aload_n 0 (pc' := 1158) rfl dL_law_1157 rfl rfl ?_
      refine ts_iload_n 3 (pc' := 1159) rfl dL_law_1158 rfl rfl ?_
      refine ts_iconst (v := 1) (pc' := 1160) rfl dL_law_1159 (by decide) ?_
      refine ts_iadd (pc' := 1161) rfl dL_law_1160 ?_
      refine ts_sld (pc' := 1162) rfl dL_law_1161 c434 ?_
      obtain ⟨c441, W⟩ := W
      refine ts_callV (M' := mX12_trace) (C := RX12) (mc' := 0) (ms' := 0) (pc' := 1165) (av := [.int (xs (l3 + 1).toNatClampNeg)]) (b := l2) rfl dL_law_1162 rfl gL_law_X12_trace rfl dvX12_trace rfl (ci := 11) cfX12.1 (by decide) c441 (Nat.le_refl _) (Nat.le_of_ble_eq_true rfl) (Nat.le_of_ble_eq_true rfl) c436 c437 ts_kv0 W (ts_kki fun v442 hi443 hk444 W => ?_)
      refine ts_icmp_eq (pc' := 1168) (tgt := 1206) rfl dL_law_1165 (by decide) (fun q445 => ?_) (fun q445 => ?_)
      · replace W := W.1 q445
        refine ts_iinc 3 (pc' := 1209) (ls' := [(3, .int (l3 + 6)), (0, .ref 0), (1, .ref l1), (2, .ref l2)]) rfl dL_law_1206 rfl rfl (Nat.le_of_ble_eq_true rfl) rfl ?_
        refine ts_goto (tgt := 18) dL_law_1209 (by decide) ?_
        exact ts_lsub [1, 2, 3, 0] rfl W
      · replace W := W.2 q445
        refine ts_iconst (v := 0) (pc' := 1169) rfl dL_law_1168 (by decide) ?_
        exact ts_zret dL_law_1169 rfl (by decide) c436 c437 W
    replace W := W.2
    by_cases q446 : ((xs l3.toNatClampNeg) &&& 63) = 32
    · replace W := W.1 q446
      refine ts_tableI (i := 32) (off := 1137) (tgt := 1170) dL_law_33 (by rw [q446]; rfl) (by decide) (by decide) rfl (by decide) ?_
      refine ts_aload_n 1 (pc' := 1171) rfl dL_law_1170 rfl rfl ?_
      refine ts_aload_n 0 (pc' := 1172) rfl dL_law_1171 rfl rfl ?_
      refine ts_iload_n 3 (pc' := 1173) rfl dL_law_1172 rfl rfl ?_
      refine ts_iconst (v := 1) (pc' := 1174) rfl dL_law_1173 (by decide) ?_
      refine ts_iadd (pc' := 1175) rfl dL_law_1174 ?_
      obtain ⟨c447, W⟩ := W
      refine ts_sld (pc' := 1176) rfl dL_law_1175 c447 ?_
      obtain ⟨c448, W⟩ := W
      obtain ⟨c449, W⟩ := W
      obtain ⟨c450, W⟩ := W
      refine ts_callV (M' := mX11_count) (C := RX11) (mc' := 0) (ms' := 0) (pc' := 1179) (av := [.int (xs (l3 + 1).toNatClampNeg)]) (b := l1) rfl dL_law_1176 rfl gL_law_X11_count rfl dvX11_count rfl (ci := 10) cfX11.1 (by decide) c448 (Nat.le_refl _) (Nat.le_of_ble_eq_true rfl) (Nat.le_of_ble_eq_true rfl) c449 c450 ts_kv0 W (ts_kki fun v451 hi452 hk453 W => ?_)
      refine ts_aload_n 2 (pc' := 1180) rfl dL_law_1179 rfl rfl ?_
      refine ts_aload_n 0 (pc' := 1181) rfl dL_law_1180 rfl rfl ?_
      refine ts_iload_n 3 (pc' := 1182) rfl dL_law_1181 rfl rfl ?_
      refine ts_iconst (v := 1) (pc' := 1183) rfl dL_law_1182 (by decide) ?_
      refine ts_iadd (pc' := 1184) rfl dL_law_1183 ?_
      refine ts_sld (pc' := 1185) rfl dL_law_1184 c447 ?_
      obtain ⟨c454, W⟩ := W
      refine ts_callV (M' := mX12_count) (C := RX12) (mc' := 0) (ms' := 0) (pc' := 1188) (av := [.int (xs (l3 + 1).toNatClampNeg)]) (b := l2) rfl dL_law_1185 rfl gL_law_X12_count rfl dvX12_count rfl (ci := 11) cfX12.1 (by decide) c454 (Nat.le_refl _) (Nat.le_of_ble_eq_true rfl) (Nat.le_of_ble_eq_true rfl) c449 c450 ts_kv0 W (ts_kki fun v455 hi456 hk457 W => ?_)
      refine ts_icmp_eq (pc' := 1191) (tgt := 1206) rfl dL_law_1188 (by decide) (fun q458 => ?_) (fun q458 => ?_)
      · replace W := W.1 q458
        refine ts_iinc 3 (pc' := 1209) (ls' := [(3, .int (l3 + 6)), (0, .ref 0), (1, .ref l1), (2, .ref l2)]) rfl dL_law_1206 rfl rfl (Nat.le_of_ble_eq_true rfl) rfl ?_
        refine ts_goto (tgt := 18) dL_law_1209 (by decide) ?_
        exact ts_lsub [1, 2, 3, 0] rfl W
      · replace W := W.2 q458
        refine ts_iconst (v := 0) (pc' := 1192) rfl dL_law_1191 (by decide) ?_
        exact ts_zret dL_law_1192 rfl (by decide) c449 c450 W
    replace W := W.2
    by_cases q459 : ((xs l3.toNatClampNeg) &&& 63) = 33
    · replace W := W.1 q459
      refine ts_tableI (i := 33) (off := 1160) (tgt := 1193) dL_law_33 (by rw [q459]; rfl) (by decide) (by decide) rfl (by decide) ?_
      refine ts_aload_n 1 (pc' := 1194) rfl dL_law_1193 rfl rfl ?_
      obtain ⟨c460, W⟩ := W
      obtain ⟨c461, W⟩ := W
      obtain ⟨c462, W⟩ := W
      refine ts_callV (M' := mX11_status) (C := RX11) (mc' := 0) (ms' := 0) (pc' := 1197) (av := []) (b := l1) rfl dL_law_1194 rfl gL_law_X11_status rfl dvX11_status rfl (ci := 10) cfX11.1 (by decide) c460 (Nat.le_refl _) (Nat.le_of_ble_eq_true rfl) (Nat.le_of_ble_eq_true rfl) c461 c462 ts_kv0 W (ts_kki fun v463 hi464 hk465 W => ?_)
      refine ts_aload_n 2 (pc' := 1198) rfl dL_law_1197 rfl rfl ?_
      obtain ⟨c466, W⟩ := W
      refine ts_callV (M' := mX12_status) (C := RX12) (mc' := 0) (ms' := 0) (pc' := 1201) (av := []) (b := l2) rfl dL_law_1198 rfl gL_law_X12_status rfl dvX12_status rfl (ci := 11) cfX12.1 (by decide) c466 (Nat.le_refl _) (Nat.le_of_ble_eq_true rfl) (Nat.le_of_ble_eq_true rfl) c461 c462 ts_kv0 W (ts_kki fun v467 hi468 hk469 W => ?_)
      refine ts_icmp_eq (pc' := 1204) (tgt := 1206) rfl dL_law_1201 (by decide) (fun q470 => ?_) (fun q470 => ?_)
      · replace W := W.1 q470
        refine ts_iinc 3 (pc' := 1209) (ls' := [(3, .int (l3 + 6)), (0, .ref 0), (1, .ref l1), (2, .ref l2)]) rfl dL_law_1206 rfl rfl (Nat.le_of_ble_eq_true rfl) rfl ?_
        refine ts_goto (tgt := 18) dL_law_1209 (by decide) ?_
        exact ts_lsub [1, 2, 3, 0] rfl W
      · replace W := W.2 q470
        refine ts_iconst (v := 0) (pc' := 1205) rfl dL_law_1204 (by decide) ?_
        exact ts_zret dL_law_1205 rfl (by decide) c461 c462 W
    replace W := W.2
    replace W := W q5 q20 q35 q52 q65 q78 q90 q102 q115 q129 q142 q156 q169 q182 q194 q208 q221 q236 q250 q263 q277 q291 q304 q317 q334 q351 q366 q379 q392 q405 q419 q433 q446 q459
    have hs471 : ∀ i, i < 34 → ¬ ((xs l3.toNatClampNeg) &&& 63) = Int32.ofNat (0 + i) := by
      intro i hi0
      have h0 : i = 0 ∨ i = 1 ∨ i = 2 ∨ i = 3 ∨ i = 4 ∨ i = 5 ∨ i = 6 ∨ i = 7 ∨ i = 8 ∨ i = 9 ∨ i = 10 ∨ i = 11 ∨ i = 12 ∨ i = 13 ∨ i = 14 ∨ i = 15 ∨ i = 16 ∨ i = 17 ∨ i = 18 ∨ i = 19 ∨ i = 20 ∨ i = 21 ∨ i = 22 ∨ i = 23 ∨ i = 24 ∨ i = 25 ∨ i = 26 ∨ i = 27 ∨ i = 28 ∨ i = 29 ∨ i = 30 ∨ i = 31 ∨ i = 32 ∨ i = 33 := by omega
      rcases h0 with rfl | rfl | rfl | rfl | rfl | rfl | rfl | rfl | rfl | rfl | rfl | rfl | rfl | rfl | rfl | rfl | rfl | rfl | rfl | rfl | rfl | rfl | rfl | rfl | rfl | rfl | rfl | rfl | rfl | rfl | rfl | rfl | rfl | rfl
      · exact q5
      · exact q20
      · exact q35
      · exact q52
      · exact q65
      · exact q78
      · exact q90
      · exact q102
      · exact q115
      · exact q129
      · exact q142
      · exact q156
      · exact q169
      · exact q182
      · exact q194
      · exact q208
      · exact q221
      · exact q236
      · exact q250
      · exact q263
      · exact q277
      · exact q291
      · exact q304
      · exact q317
      · exact q334
      · exact q351
      · exact q366
      · exact q379
      · exact q392
      · exact q405
      · exact q419
      · exact q433
      · exact q446
      · exact q459
    refine ts_tableO (tgt := 1206) dL_law_33 (ts_swout (l := 0) (n := 34) rfl (by decide) (by decide) hs471) (by decide) ?_
    refine ts_iinc 3 (pc' := 1209) (ls' := [(3, .int (l3 + 6)), (0, .ref 0), (1, .ref l1), (2, .ref l2)]) rfl dL_law_1206 rfl rfl (Nat.le_of_ble_eq_true rfl) rfl ?_
    refine ts_goto (tgt := 18) dL_law_1209 (by decide) ?_
    exact ts_lsub [1, 2, 3, 0] rfl W
