/-! what the class and the model hold between two calls -/
abbrev ts_S : Type := (ts_A × List ts_A × (Nat → ts_A)) × ((Nat → Nat) × (Nat → Nat) × (Nat → Nat → Int32)) × (Nat × Nat) × (List Nat × List Nat)
/-- the field -/
def ts_S.A (S : ts_S) : ts_A := S.1.1
/-- the fields ahead of the acts, the latest first -/
def ts_S.B (S : ts_S) : List ts_A := S.1.2.1
/-- the images; no turnips: none -/
def ts_S.I (S : ts_S) : Nat → ts_A := S.1.2.2
/-- the lanes of the rows; 3: missing -/
def ts_S.L (S : ts_S) : Nat → Nat := S.2.1.1
def ts_S.z (S : ts_S) : Nat → Nat := S.2.1.2.1
def ts_S.x (S : ts_S) : Nat → Nat → Int32 := S.2.1.2.2
/-- the finding, the fault -/
def ts_S.st (S : ts_S) : Nat := S.2.2.1.1
def ts_S.fa (S : ts_S) : Nat := S.2.2.1.2
/-- the tape, the trace -/
def ts_S.tp (S : ts_S) : List Nat := S.2.2.2.1
def ts_S.tr (S : ts_S) : List Nat := S.2.2.2.2
def ts_S.setF (S : ts_S) (A : ts_A) (B : List ts_A) : ts_S := ((A, B, S.I), S.2)
def ts_S.setI (S : ts_S) (I : Nat → ts_A) : ts_S := ((S.A, S.B, I), S.2)
def ts_S.setR (S : ts_S) (L z : Nat → Nat) (x : Nat → Nat → Int32) (st : Nat) : ts_S := (S.1, (L, z, x), (st, S.fa), S.2.2.2)
def ts_S.setS (S : ts_S) (st : Nat) : ts_S := (S.1, S.2.1, (st, S.fa), S.2.2.2)
def ts_S.setT (S : ts_S) (fa : Nat) (tp : List Nat) : ts_S := (S.1, S.2.1, (S.st, fa), (tp, S.tr))
def ts_S.setC (S : ts_S) (tr : List Nat) : ts_S := (S.1, S.2.1, S.2.2.1, (S.tp, tr))
/-- a list of numbers: how many at slot s of o, they in a -/
def ts_Li (l : List Nat) (o s a : Nat) (hi : ts_I) : Prop := hi o s = nI l.length ∧ ∀ i b, l[i]? = some b → hi a i = nI b
def ts_XB (B : List ts_A) (hi : ts_I) (hk : ts_K) : Prop := ∃ p, p < 24 ∧ hi 1 11 = nI p ∧ hi 1 12 = nI B.length ∧ ∀ i A, B[i]? = some A → ts_FR (31 + 10 * ((p + 23 - i) % 24)) A hi hk
def ts_XR (L z : Nat → Nat) (x : Nat → Nat → Int32) (hi : ts_I) : Prop := ∀ r, r < 8 → hi (15 + 2 * r) 1 = (if L r = 3 then 0 else 1) ∧ (L r ≠ 3 → hi (15 + 2 * r) 2 = nI (L r) ∧ hi (15 + 2 * r) 3 = nI (z r) ∧ ∀ i, i < 40 → hi (16 + 2 * r) i = x r i)
def ts_XK (hi : ts_I) (hk : ts_K) : Prop := (∀ q, q < 5 → hi (10 + q) 0 = nI (q + 1)) ∧ ts_KA hk ∧ (∀ j, j < 28 → ts_FK (31 + 10 * j) hk) ∧ ts_TK hk
def ts_XI (S : ts_S) (hi : ts_I) (hk : ts_K) : Prop := ts_FR 291 S.A hi hk ∧ ts_XB S.B hi hk ∧ (∀ k, k < 2 → ts_FR (271 + 10 * k) (S.I k) hi hk) ∧ ts_XR S.L S.z S.x hi ∧ hi 1 9 = nI S.st ∧ hi 1 10 = nI S.fa ∧ ts_Li S.tp 3 1 4 hi ∧ ts_Li S.tr 5 1 6 hi ∧ ts_XK hi hk
def ts_MW (L z : Nat → Nat) (x : Nat → Nat → Int32) (hi : ts_I) : Prop := ∀ r, r < 8 → hi 406 r = (if L r = 3 then -1000000 else nI (L r)) ∧ (L r ≠ 3 → hi 407 r = nI (z r) ∧ ∀ i, i < 40 → hi 408 (40 * r + i) = x r i)
def ts_MG (I : Nat → ts_A) (hi : ts_I) : Prop := ∀ k, k < 2 → hi 416 k = (if I k 6 0 = 0 then 0 else 1) ∧ (I k 6 0 ≠ 0 → ts_MR 415 (46 * k) (I k) hi)
def ts_MI (S : ts_S) (hi : ts_I) : Prop := ts_MR 411 0 S.A hi ∧ ts_MB S.B hi ∧ ts_MG S.I hi ∧ ts_MW S.L S.z S.x hi ∧ hi 405 4 = nI S.st ∧ hi 405 7 = nI S.fa ∧ ts_Li S.tp 405 6 410 hi ∧ ts_Li S.tr 405 24 420 hi
/-- a field that stands between two calls -/
def ts_va (A : ts_A) : Prop := ts_ok A ∧ A 6 1 ≤ 9999 ∧ (A 6 0 = 0 ↔ A 6 2 = 0)
def ts_SV (S : ts_S) : Prop := ts_va S.A ∧ (∀ A, A ∈ S.B → ts_va A) ∧ S.B.length ≤ 24 ∧ (∀ k, k < 2 → ts_va (S.I k)) ∧ (∀ r, r < 8 → S.L r ≤ 3 ∧ S.z r ≤ 40) ∧ S.st ≤ 5 ∧ S.fa ≤ 3 ∧ (S.tp.length ≤ 90 ∧ ∀ b, b ∈ S.tp → b ≤ 255) ∧ S.tr.length ≤ 16 ∧ ∀ b, b ∈ S.tr → b ≤ 24
theorem ts_Li.of {l : List Nat} {o s a : Nat} {hi hi' : ts_I} (h : ts_Li l o s a hi) (e1 : hi' o s = hi o s) (e2 : hi' a = hi a) : ts_Li l o s a hi' := ⟨by rw [e1]; exact h.1, fun i b hb => by rw [e2]; exact h.2 i b hb⟩
/-- the class's state: only these cells count -/
theorem ts_XI.of {S : ts_S} {hi hi' : ts_I} {hk hk' : ts_K} (h : ts_XI S hi hk) (e : ∀ b, b ≤ 298 → hi' b = hi b) (ek : ∀ b, b ≤ 310 → hk' b = hk b) (hT : ts_TK hk') : ts_XI S hi' hk' := by
  obtain ⟨h1, ⟨p, p1, p2, p3, p4⟩, h3, h4, h5, h6, h7, h8, k1, k2, k3, k4⟩ := h
  refine ⟨h1.of (fun b x1 x2 => e b (by omega)) (ek _ (by omega)), ⟨p, p1, by rw [e 1 (by omega)]; exact p2, by rw [e 1 (by omega)]; exact p3, fun i A hA => (p4 i A hA).of (fun b x1 x2 => e b (by omega)) (ek _ (by omega))⟩, fun k hk2 => (h3 k hk2).of (fun b x1 x2 => e b (by omega)) (ek _ (by omega)), fun r hr => ?_, by rw [e 1 (by omega)]; exact h5, by rw [e 1 (by omega)]; exact h6, h7.of (by rw [e 3 (by omega)]) (e 4 (by omega)), h8.of (by rw [e 5 (by omega)]) (e 6 (by omega)), fun q hq => by rw [e _ (by omega)]; exact k1 q hq, ?_, fun j hj => (k3 j hj).of (ek _ (by omega)), hT⟩
  · rw [e (15 + 2 * r) (by omega), e (16 + 2 * r) (by omega)]
    exact h4 r hr
  · unfold ts_KA
    rw [ek 7 (by omega)]
    exact k2
/-- the model's state: only these cells count -/
theorem ts_MI.of {S : ts_S} {hi hi' : ts_I} (hS : ts_SV S) (h : ts_MI S hi) (e5 : ∀ s, (s = 4 ∨ s = 6 ∨ s = 7 ∨ s = 17 ∨ s = 24) → hi' 405 s = hi 405 s) (e : ∀ b, 405 < b → b ≠ 409 → b ≠ 412 → b ≠ 413 → b ≠ 417 → b ≠ 418 → b ≠ 419 → hi' b = hi b) : ts_MI S hi' := by
  obtain ⟨h1, ⟨b1, b2, b3⟩, h3, h4, h5, h6, h7, h8⟩ := h
  refine ⟨ts_MR.of hS.1.1.1 h1 (fun u _ => by rw [e 411 (by omega) (by omega) (by omega) (by omega) (by omega) (by omega) (by omega)]), ⟨by rw [e5 17 (by omega)]; exact b1, b2, fun i A hA => ts_MR.of ?_ (b3 i A hA) (fun u _ => by rw [e 414 (by omega) (by omega) (by omega) (by omega) (by omega) (by omega) (by omega)])⟩, fun k hk => ?_, fun r hr => ?_, by rw [e5 4 (by omega)]; exact h5, by rw [e5 7 (by omega)]; exact h6, h7.of (e5 6 (by omega)) (e 410 (by omega) (by omega) (by omega) (by omega) (by omega) (by omega) (by omega)), h8.of (e5 24 (by omega)) (e 420 (by omega) (by omega) (by omega) (by omega) (by omega) (by omega) (by omega))⟩
  · exact (hS.2.1 A (List.mem_of_getElem? hA)).1.1
  · refine ⟨by rw [e 416 (by omega) (by omega) (by omega) (by omega) (by omega) (by omega) (by omega)]; exact (h3 k hk).1, fun hn => ts_MR.of ?_ ((h3 k hk).2 hn) (fun u _ => by rw [e 415 (by omega) (by omega) (by omega) (by omega) (by omega) (by omega) (by omega)])⟩
    exact (hS.2.2.2.1 k hk).1.1
  · rw [e 406 (by omega) (by omega) (by omega) (by omega) (by omega) (by omega) (by omega), e 407 (by omega) (by omega) (by omega) (by omega) (by omega) (by omega) (by omega), e 408 (by omega) (by omega) (by omega) (by omega) (by omega) (by omega) (by omega)]
    exact h4 r hr
theorem ts_MI.fr {S : ts_S} {hi hi' : ts_I} (hS : ts_SV S) (h : ts_MI S hi) (e : ∀ b, 404 < b → hi' b = hi b) : ts_MI S hi' := h.of hS (fun s _ => by rw [e 405 (by omega)]) (fun b hb _ _ _ _ _ _ => e b (by omega))
theorem ts_XI.fr {S : ts_S} {hi hi' : ts_I} {hk : ts_K} (h : ts_XI S hi hk) (e : ∀ b, b ≤ 404 → hi' b = hi b) : ts_XI S hi' hk := h.of (fun b hb => e b (by omega)) (fun _ _ => rfl) h.2.2.2.2.2.2.2.2.2.2.2
/-- what a call of the class comes to, of the model -/
def ts_QX (r : Int32 × ts_S) (hi : ts_I) (Q : Int32 → ts_I → ts_K → Prop) : Prop := ∀ hi' hk', ts_XI r.2 hi' hk' → (∀ b, 404 < b → hi' b = hi b) → Q r.1 hi' hk'
def ts_QM (r : Int32 × ts_S) (hi : ts_I) (hk : ts_K) (Q : Int32 → ts_I → ts_K → Prop) : Prop := ∀ hi', ts_MI r.2 hi' → (∀ b, b ≤ 404 → hi' b = hi b) → Q r.1 hi' hk
theorem ts_QX.st {S : ts_S} {hi : ts_I} {hk : ts_K} {v : Int32} {Q : Int32 → ts_I → ts_K → Prop} (q : ts_QX (v, S) hi Q) (h : ts_XI S hi hk) : Q v hi hk := q hi hk h (fun _ _ => rfl)
theorem ts_QM.st {S : ts_S} {hi : ts_I} {hk : ts_K} {v : Int32} {Q : Int32 → ts_I → ts_K → Prop} (q : ts_QM (v, S) hi hk Q) (h : ts_MI S hi) : Q v hi hk := q hi h (fun _ _ => rfl)
/-- a finding, none -/
def ts_fn (f : Nat) : Int32 := -1000010 - nI f
theorem ts_XI.status {S : ts_S} {hi hi' : ts_I} {hk : ts_K} {f : Nat} (h : ts_XI S hi hk) (e : hi' = ts_up hi 1 9 (nI f)) : ts_XI (S.setS f) hi' hk := by
  have o : ∀ b, b ≠ 1 → hi' b = hi b := fun b hb => by rw [e]; funext s; rw [ts_up_a hb]
  have o1 : ∀ s, s ≠ 9 → hi' 1 s = hi 1 s := fun s hs => by rw [e, ts_up_s hs]
  obtain ⟨h1, ⟨p, p1, p2, p3, p4⟩, h3, h4, h5, h6, h7, h8, k1, k2, k3, k4⟩ := h
  refine ⟨h1.of (fun b x1 x2 => o b (by omega)) rfl, ⟨p, p1, by rw [o1 11 (by omega)]; exact p2, by rw [o1 12 (by omega)]; exact p3, fun i A hA => (p4 i A hA).of (fun b x1 x2 => o b (by omega)) rfl⟩, fun k hk2 => (h3 k hk2).of (fun b x1 x2 => o b (by omega)) rfl, fun r hr => ?_, by rw [e, ts_up_eq]; rfl, by rw [o1 10 (by omega)]; exact h6, h7.of (by rw [o 3 (by omega)]) (o 4 (by omega)), h8.of (by rw [o 5 (by omega)]) (o 6 (by omega)), fun q hq => by rw [o _ (by omega)]; exact k1 q hq, k2, k3, k4⟩
  rw [o (15 + 2 * r) (by omega), o (16 + 2 * r) (by omega)]
  exact h4 r hr
theorem ts_MI.status {S : ts_S} {hi hi' : ts_I} {f : Nat} (hS : ts_SV S) (h : ts_MI S hi) (e : hi' = ts_up hi 405 4 (nI f)) : ts_MI (S.setS f) hi' := by
  have o : ∀ b, b ≠ 405 → hi' b = hi b := fun b hb => by rw [e]; funext s; rw [ts_up_a hb]
  have o1 : ∀ s, s ≠ 4 → hi' 405 s = hi 405 s := fun s hs => by rw [e, ts_up_s hs]
  obtain ⟨h1, ⟨b1, b2, b3⟩, h3, h4, h5, h6, h7, h8⟩ := h
  refine ⟨ts_MR.of hS.1.1.1 h1 (fun u _ => by rw [o 411 (by omega)]), ⟨by rw [o1 17 (by omega)]; exact b1, b2, fun i A hA => ts_MR.of ?_ (b3 i A hA) (fun u _ => by rw [o 414 (by omega)])⟩, fun k hk => ?_, fun r hr => ?_, by rw [e, ts_up_eq]; rfl, by rw [o1 7 (by omega)]; exact h6, h7.of (o1 6 (by omega)) (o 410 (by omega)), h8.of (o1 24 (by omega)) (o 420 (by omega))⟩
  · exact (hS.2.1 A (List.mem_of_getElem? hA)).1.1
  · refine ⟨by rw [o 416 (by omega)]; exact (h3 k hk).1, fun hn => ts_MR.of ?_ ((h3 k hk).2 hn) (fun u _ => by rw [o 415 (by omega)])⟩
    exact (hS.2.2.2.1 k hk).1.1
  · rw [o 406 (by omega), o 407 (by omega), o 408 (by omega)]
    exact h4 r hr
theorem c_found {d f : Nat} {g : ts_G} {S : ts_S} {hi : ts_I} {hk : ts_K} {Q : Int32 → ts_I → ts_K → Prop} (hX : ts_LX g) (h : ts_XI S hi hk) (q : ts_QX (ts_fn f, S.setS f) hi Q) : ts_E0 d mX11_found [.ref 1, .int (nI f)] g hi hk (ts_qi Q) := by
  refine ts_E0.of plX11_found rfl (Nat.le_of_ble_eq_true rfl) ?_
  refine wX11_found_0 ⟨hX.s0, fun hi2 e => q hi2 hk (h.status e) (fun b hb => ?_)⟩
  rw [e]; funext s; rw [ts_up_a (by omega)]
theorem c_fine {d : Nat} {v : Int32} {g : ts_G} {S : ts_S} {hi : ts_I} {hk : ts_K} {Q : Int32 → ts_I → ts_K → Prop} (hX : ts_LX g) (h : ts_XI S hi hk) (q : ts_QX (v, S.setS 0) hi Q) : ts_E0 d mX11_fine [.ref 1, .int v] g hi hk (ts_qi Q) := by
  refine ts_E0.of plX11_fine rfl (Nat.le_of_ble_eq_true rfl) ?_
  refine wX11_fine_0 ⟨hX.s0, fun hi2 e => q hi2 hk (h.status e) (fun b hb => ?_)⟩
  rw [e]; funext s; rw [ts_up_a (by omega)]
theorem c_mfound {d f : Nat} {g : ts_G} {S : ts_S} {hi : ts_I} {hk : ts_K} {Q : Int32 → ts_I → ts_K → Prop} (hM : ts_LM g) (hS : ts_SV S) (h : ts_MI S hi) (q : ts_QM (ts_fn f, S.setS f) hi hk Q) : ts_E0 d mX12_found [.ref 405, .int (nI f)] g hi hk (ts_qi Q) := by
  refine ts_E0.of plX12_found rfl (Nat.le_of_ble_eq_true rfl) ?_
  refine wX12_found_0 ⟨hM.kd, fun hi2 e => q hi2 (h.status hS e) (fun b hb => ?_)⟩
  rw [e]; funext s; rw [ts_up_a (by omega)]
theorem c_well {d : Nat} {v : Int32} {g : ts_G} {S : ts_S} {hi : ts_I} {hk : ts_K} {Q : Int32 → ts_I → ts_K → Prop} (hM : ts_LM g) (hS : ts_SV S) (h : ts_MI S hi) (q : ts_QM (v, S.setS 0) hi hk Q) : ts_E0 d mX12_well [.ref 405, .int v] g hi hk (ts_qi Q) := by
  refine ts_E0.of plX12_well rfl (Nat.le_of_ble_eq_true rfl) ?_
  refine wX12_well_0 ⟨hM.kd, fun hi2 e => q hi2 (h.status hS e) (fun b hb => ?_)⟩
  rw [e]; funext s; rw [ts_up_a (by omega)]
