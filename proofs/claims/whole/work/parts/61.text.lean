/-! the text of a field: what it says (f, p): f = 0: well, p is where it goes on; else fault f at p -/
def ts_bt (tp : List Nat) (i : Nat) : Nat := tp.getD i 256
/-- a byte, -1 behind the end -/
def ts_bI (x : Nat) : Int32 := if x = 256 then -1 else nI x
def ts_dg (tp : List Nat) (p : Nat) : Bool := decide (48 ≤ ts_bt tp p) && decide (ts_bt tp p ≤ 57)
/-- how many figures from p on, three at most -/
def ts_nd (tp : List Nat) (p : Nat) : Nat := if ts_dg tp p = true then if ts_dg tp (p + 1) = true then if ts_dg tp (p + 2) = true then 3 else 2 else 1 else 0
def ts_nv (tp : List Nat) (p : Nat) : Nat := if ts_nd tp p = 1 then ts_bt tp p - 48 else 10 * (ts_bt tp p - 48) + (ts_bt tp (p + 1) - 48)
def ts_nm (tp : List Nat) (lo hi p : Nat) : Nat := if ts_nd tp p = 0 ∨ ts_nd tp p = 3 then 1 else if lo ≤ ts_nv tp p ∧ ts_nv tp p ≤ hi then 0 else 2
def ts_nu (tp : List Nat) (lo hi : Nat) (w : Nat × Nat) : Nat × Nat := if w.1 ≠ 0 then w else if ts_nm tp lo hi w.2 = 0 then (0, w.2 + ts_nd tp w.2) else (ts_nm tp lo hi w.2, w.2)
def ts_sn (tp : List Nat) (c : Nat) (w : Nat × Nat) : Nat × Nat := if w.1 ≠ 0 then w else if ts_bt tp w.2 = c then (0, w.2 + 1) else (1, w.2)
def ts_kd (x : Nat) : Nat := if x = 116 then 1 else if x = 111 then 2 else if x = 112 then 3 else if x = 102 then 4 else if x = 115 then 5 else 0
def ts_t1 (tp : List Nat) (n p : Nat) : Nat × Nat := if ts_kd (ts_bt tp p) = 0 then (1, p) else if 7 ≤ n then (3, p) else (0, p + 1)
def ts_t2 (tp : List Nat) (n p : Nat) : Nat × Nat := ts_nu tp 0 9 (ts_t1 tp n p)
def ts_t3 (tp : List Nat) (n p : Nat) : Nat × Nat := ts_sn tp 44 (ts_t2 tp n p)
def ts_t4 (tp : List Nat) (n p : Nat) : Nat × Nat := ts_nu tp 0 9 (ts_t3 tp n p)
def ts_t5 (tp : List Nat) (n p : Nat) : Nat × Nat := ts_sn tp 44 (ts_t4 tp n p)
def ts_t6 (tp : List Nat) (n p : Nat) : Nat × Nat := ts_nu tp 0 1 (ts_t5 tp n p)
def ts_t7 (tp : List Nat) (n p : Nat) : Nat × Nat := ts_sn tp 59 (ts_t6 tp n p)
/-- one more turnip -/
def ts_aT (A : ts_A) (k r w l : Nat) : ts_A := fun c t => if c = 0 ∧ t = A 6 0 then k else if c = 1 ∧ t = A 6 0 then r else if c = 2 ∧ t = A 6 0 then w else if c = 3 ∧ t = A 6 0 then l else if c = 6 ∧ t = 0 then A 6 0 + 1 else A c t
def ts_tA (tp : List Nat) (p : Nat) (A : ts_A) : ts_A := if (ts_t7 tp (A 6 0) p).1 = 0 then ts_aT A (ts_kd (ts_bt tp p)) (ts_nv tp (ts_t1 tp (A 6 0) p).2) (ts_nv tp (ts_t3 tp (A 6 0) p).2) (ts_nv tp (ts_t5 tp (A 6 0) p).2) else A
def ts_lp (tp : List Nat) : Nat → Nat × Nat → ts_A → (Nat × Nat) × ts_A
  | 0, w, A => (w, A)
  | k + 1, w, A => if w.1 ≠ 0 ∨ tp.length ≤ w.2 then (w, A) else ts_lp tp k (ts_t7 tp (A 6 0) w.2) (ts_tA tp w.2 A)
def ts_w1 (tp : List Nat) : Nat × Nat := ts_sn tp 103 (0, 0)
def ts_w2 (tp : List Nat) : Nat × Nat := ts_nu tp 1 9 (ts_w1 tp)
def ts_w3 (tp : List Nat) : Nat × Nat := ts_sn tp 44 (ts_w2 tp)
def ts_w4 (tp : List Nat) : Nat × Nat := ts_nu tp 0 15 (ts_w3 tp)
def ts_w5 (tp : List Nat) : Nat × Nat := ts_sn tp 59 (ts_w4 tp)
/-- the field ahead of its first turnip -/
def ts_A0 (gr fr : Nat) : ts_A := fun c t => if c = 4 then 7 else if c = 5 ∨ c = 7 then t else if c = 6 ∧ t = 2 then gr else if c = 6 ∧ t = 3 then fr else 0
def ts_rd (tp : List Nat) : (Nat × Nat) × ts_A :=
  if (ts_w5 tp).1 ≠ 0 then (ts_w5 tp, ts_A0 0 0)
  else ts_lp tp 90 (ts_t7 tp 0 (ts_w5 tp).2) (ts_tA tp (ts_w5 tp).2 (ts_A0 (ts_nv tp (ts_w1 tp).2) (ts_nv tp (ts_w3 tp).2)))
def ts_s_field (S : ts_S) : Int32 × ts_S :=
  if (ts_rd S.tp).1.1 = 0 then (nI ((ts_rd S.tp).2 6 0), (S.setF (ts_rd S.tp).2 []).setT S.fa []) else (-1000100 - nI (ts_rd S.tp).1.2, S.setT (ts_rd S.tp).1.1 [])
theorem ts_nu_st {tp : List Nat} {lo hi : Nat} {w : Nat × Nat} (h : w.1 ≠ 0) : ts_nu tp lo hi w = w := if_pos h
theorem ts_sn_st {tp : List Nat} {c : Nat} {w : Nat × Nat} (h : w.1 ≠ 0) : ts_sn tp c w = w := if_pos h
theorem ts_bt_len {tp : List Nat} {i : Nat} (h : ts_bt tp i ≠ 256) : i < tp.length := by
  by_cases c : i < tp.length
  · exact c
  · exfalso
    apply h
    unfold ts_bt
    rw [List.getD_eq_getElem?_getD, List.getElem?_eq_none (by omega)]
    rfl
theorem ts_bt_in {tp : List Nat} {i : Nat} (hb : ∀ b, b ∈ tp → b ≤ 255) (h : i < tp.length) : ts_bt tp i ≤ 255 := by
  unfold ts_bt
  rw [List.getD_eq_getElem?_getD, List.getElem?_eq_getElem h]
  exact hb _ (List.getElem_mem h)
theorem ts_bt_le {tp : List Nat} (hb : ∀ b, b ∈ tp → b ≤ 255) (i : Nat) : ts_bt tp i ≤ 256 := by
  by_cases c : ts_bt tp i = 256
  · omega
  · have := ts_bt_in hb (ts_bt_len c)
    omega
theorem ts_dg_e {tp : List Nat} {p : Nat} : ts_dg tp p = true ↔ 48 ≤ ts_bt tp p ∧ ts_bt tp p ≤ 57 := by
  unfold ts_dg
  simp
theorem ts_nd_len {tp : List Nat} {p : Nat} (hp : p ≤ tp.length) : p + ts_nd tp p ≤ tp.length := by
  have L : ∀ i, ts_dg tp i = true → i < tp.length := fun i h => by
    rw [ts_dg_e] at h
    exact ts_bt_len (by omega)
  unfold ts_nd
  by_cases h1 : ts_dg tp p = true
  · rw [if_pos h1]
    have := L _ h1
    by_cases h2 : ts_dg tp (p + 1) = true
    · rw [if_pos h2]
      have := L _ h2
      by_cases h3 : ts_dg tp (p + 2) = true
      · rw [if_pos h3]
        have := L _ h3
        omega
      · rw [if_neg h3]
        omega
    · rw [if_neg h2]
      omega
  · rw [if_neg h1]
    omega
theorem ts_nd_le (tp : List Nat) (p : Nat) : ts_nd tp p ≤ 3 := by
  unfold ts_nd
  repeat' split
  all_goals omega
theorem ts_nv_lt {tp : List Nat} {p : Nat} (h : ts_nd tp p = 1 ∨ ts_nd tp p = 2) : ts_nv tp p ≤ 99 := by
  have h1 : ts_dg tp p = true := by
    by_cases c : ts_dg tp p = true
    · exact c
    · unfold ts_nd at h
      rw [if_neg c] at h
      omega
  have h2 := ts_dg_e.mp h1
  unfold ts_nv
  by_cases c : ts_nd tp p = 1
  · rw [if_pos c]
    omega
  · rw [if_neg c]
    have c2 : ts_dg tp (p + 1) = true := by
      by_cases c2 : ts_dg tp (p + 1) = true
      · exact c2
      · unfold ts_nd at h c
        rw [if_pos h1, if_neg c2] at h c
        omega
    have h3 := ts_dg_e.mp c2
    omega
/-- what a well read number is like -/
theorem ts_nm0 {tp : List Nat} {lo hi p : Nat} (h : ts_nm tp lo hi p = 0) : (ts_nd tp p = 1 ∨ ts_nd tp p = 2) ∧ lo ≤ ts_nv tp p ∧ ts_nv tp p ≤ hi := by
  have := ts_nd_le tp p
  unfold ts_nm at h
  by_cases c : ts_nd tp p = 0 ∨ ts_nd tp p = 3
  · rw [if_pos c] at h; omega
  · rw [if_neg c] at h
    by_cases c2 : lo ≤ ts_nv tp p ∧ ts_nv tp p ≤ hi
    · exact ⟨by omega, c2⟩
    · rw [if_neg c2] at h; omega
theorem ts_nu_w {tp : List Nat} {lo hi : Nat} {w : Nat × Nat} (h : (ts_nu tp lo hi w).1 = 0) : w.1 = 0 ∧ ts_nm tp lo hi w.2 = 0 ∧ ts_nu tp lo hi w = (0, w.2 + ts_nd tp w.2) := by
  unfold ts_nu at h ⊢
  by_cases c : w.1 ≠ 0
  · rw [if_pos c] at h; exact absurd h c
  · rw [if_neg c] at h ⊢
    by_cases c2 : ts_nm tp lo hi w.2 = 0
    · exact ⟨by omega, c2, if_pos c2⟩
    · rw [if_neg c2] at h; exact absurd h c2
theorem ts_sn_w {tp : List Nat} {c : Nat} {w : Nat × Nat} (h : (ts_sn tp c w).1 = 0) : w.1 = 0 ∧ ts_bt tp w.2 = c ∧ ts_sn tp c w = (0, w.2 + 1) := by
  unfold ts_sn at h ⊢
  by_cases c1 : w.1 ≠ 0
  · rw [if_pos c1] at h; exact absurd h c1
  · rw [if_neg c1] at h ⊢
    by_cases c2 : ts_bt tp w.2 = c
    · exact ⟨by omega, c2, if_pos c2⟩
    · rw [if_neg c2] at h; cases h
theorem ts_nu_len {tp : List Nat} {lo hi : Nat} {w : Nat × Nat} (h : w.2 ≤ tp.length) : (ts_nu tp lo hi w).2 ≤ tp.length := by
  unfold ts_nu
  repeat' split
  · exact h
  · exact ts_nd_len h
  · exact h
theorem ts_sn_len {tp : List Nat} {c : Nat} {w : Nat × Nat} (hc : c ≠ 256) (h : w.2 ≤ tp.length) : (ts_sn tp c w).2 ≤ tp.length := by
  unfold ts_sn
  by_cases c1 : w.1 ≠ 0
  · rw [if_pos c1]; exact h
  · rw [if_neg c1]
    by_cases c2 : ts_bt tp w.2 = c
    · rw [if_pos c2]
      exact ts_bt_len (by omega)
    · rw [if_neg c2]; exact h
theorem ts_nu_f {tp : List Nat} {lo hi : Nat} {w : Nat × Nat} (h : w.1 ≤ 3) : (ts_nu tp lo hi w).1 ≤ 3 := by
  unfold ts_nu ts_nm
  repeat' split
  all_goals first | exact h | simp
theorem ts_sn_f {tp : List Nat} {c : Nat} {w : Nat × Nat} (h : w.1 ≤ 3) : (ts_sn tp c w).1 ≤ 3 := by
  unfold ts_sn
  repeat' split
  all_goals first | exact h | simp
theorem ts_kd_le (x : Nat) : ts_kd x ≤ 5 := by
  unfold ts_kd
  repeat' split
  all_goals omega
theorem ts_kd_in {x : Nat} (h : ts_kd x ≠ 0) : 97 ≤ x ∧ x ≤ 122 := by
  unfold ts_kd at h
  by_cases c1 : x = 116
  · omega
  · by_cases c2 : x = 111
    · omega
    · by_cases c3 : x = 112
      · omega
      · by_cases c4 : x = 102
        · omega
        · by_cases c5 : x = 115
          · omega
          · rw [if_neg c1, if_neg c2, if_neg c3, if_neg c4, if_neg c5] at h
            exact absurd rfl h
theorem ts_t1_len {tp : List Nat} {n p : Nat} (h : p ≤ tp.length) : (ts_t1 tp n p).2 ≤ tp.length ∧ (ts_t1 tp n p).1 ≤ 3 := by
  unfold ts_t1
  by_cases c : ts_kd (ts_bt tp p) = 0
  · rw [if_pos c]; exact ⟨h, by simp⟩
  · rw [if_neg c]
    have := ts_kd_in c
    have := ts_bt_len (tp := tp) (i := p) (by omega)
    split
    · exact ⟨h, by simp⟩
    · exact ⟨this, by simp⟩
theorem ts_t_len {tp : List Nat} {n p : Nat} (h : p ≤ tp.length) : (ts_t2 tp n p).2 ≤ tp.length ∧ (ts_t3 tp n p).2 ≤ tp.length ∧ (ts_t4 tp n p).2 ≤ tp.length ∧ (ts_t5 tp n p).2 ≤ tp.length ∧ (ts_t6 tp n p).2 ≤ tp.length ∧ (ts_t7 tp n p).2 ≤ tp.length ∧ (ts_t7 tp n p).1 ≤ 3 := by
  have h1 := ts_t1_len (n := n) h
  have h2 : (ts_t2 tp n p).2 ≤ tp.length := ts_nu_len h1.1
  have h3 : (ts_t3 tp n p).2 ≤ tp.length := ts_sn_len (by decide) h2
  have h4 : (ts_t4 tp n p).2 ≤ tp.length := ts_nu_len h3
  have h5 : (ts_t5 tp n p).2 ≤ tp.length := ts_sn_len (by decide) h4
  have h6 : (ts_t6 tp n p).2 ≤ tp.length := ts_nu_len h5
  have h7 : (ts_t7 tp n p).2 ≤ tp.length := ts_sn_len (by decide) h6
  exact ⟨h2, h3, h4, h5, h6, h7, ts_sn_f (ts_nu_f (ts_sn_f (ts_nu_f (ts_sn_f (ts_nu_f h1.2)))))⟩
/-- a turnip well read -/
theorem ts_t7_w {tp : List Nat} {n p : Nat} (h : (ts_t7 tp n p).1 = 0) : ts_kd (ts_bt tp p) ≠ 0 ∧ n < 7 ∧ ts_t1 tp n p = (0, p + 1) ∧ (ts_t2 tp n p).1 = 0 ∧ (ts_t3 tp n p).1 = 0 ∧ (ts_t4 tp n p).1 = 0 ∧ (ts_t5 tp n p).1 = 0 ∧ (ts_t6 tp n p).1 = 0 ∧ p < (ts_t7 tp n p).2 ∧ ts_nv tp (ts_t1 tp n p).2 ≤ 9 ∧ ts_nv tp (ts_t3 tp n p).2 ≤ 9 ∧ ts_nv tp (ts_t5 tp n p).2 ≤ 1 := by
  have h6 := ts_sn_w h
  have h5 := ts_nu_w h6.1
  have h4 := ts_sn_w h5.1
  have h3 := ts_nu_w h4.1
  have h2 := ts_sn_w h3.1
  have h1 := ts_nu_w h2.1
  have h0 : ts_kd (ts_bt tp p) ≠ 0 ∧ n < 7 ∧ ts_t1 tp n p = (0, p + 1) := by
    have z := h1.1
    unfold ts_t1 at z ⊢
    by_cases c : ts_kd (ts_bt tp p) = 0
    · rw [if_pos c] at z; cases z
    · rw [if_neg c] at z ⊢
      by_cases c2 : 7 ≤ n
      · rw [if_pos c2] at z; cases z
      · exact ⟨c, by omega, if_neg c2⟩
  have e1 : (ts_t1 tp n p).2 = p + 1 := by rw [h0.2.2]
  have e2 : (ts_t2 tp n p).2 = (ts_t1 tp n p).2 + ts_nd tp (ts_t1 tp n p).2 := congrArg Prod.snd h1.2.2
  have e3 : (ts_t3 tp n p).2 = (ts_t2 tp n p).2 + 1 := congrArg Prod.snd h2.2.2
  have e4 : (ts_t4 tp n p).2 = (ts_t3 tp n p).2 + ts_nd tp (ts_t3 tp n p).2 := congrArg Prod.snd h3.2.2
  have e5 : (ts_t5 tp n p).2 = (ts_t4 tp n p).2 + 1 := congrArg Prod.snd h4.2.2
  have e6 : (ts_t6 tp n p).2 = (ts_t5 tp n p).2 + ts_nd tp (ts_t5 tp n p).2 := congrArg Prod.snd h5.2.2
  have e7 : (ts_t7 tp n p).2 = (ts_t6 tp n p).2 + 1 := congrArg Prod.snd h6.2.2
  exact ⟨h0.1, h0.2.1, h0.2.2, h2.1, h3.1, h4.1, h5.1, h6.1, by omega, (ts_nm0 h1.2.1).2.2, (ts_nm0 h3.2.1).2.2, (ts_nm0 h5.2.1).2.2⟩
/-- a field in the making -/
def ts_oA (A : ts_A) : Prop := A 6 0 ≤ 7 ∧ A 6 1 = 0 ∧ A 6 2 ≤ 9 ∧ A 6 3 ≤ 15 ∧ (∀ t, A 4 t = 7 ∧ A 5 t = t ∧ A 7 t = t) ∧ ∀ t, t < A 6 0 → (1 ≤ A 0 t ∧ A 0 t ≤ 5) ∧ A 1 t ≤ 9 ∧ A 2 t ≤ 9 ∧ A 3 t ≤ 1
theorem ts_oA.ok {A : ts_A} (h : ts_oA A) : ts_ok A := by
  obtain ⟨h0, h1, h2, h3, hP, hT⟩ := h
  refine ⟨h0, by omega, h2, h3, fun t ht => ?_⟩
  have z := hT t ht
  have y := hP t
  refine ⟨z.1, z.2.1, z.2.2.1, z.2.2.2, Or.inl y.1, ?_, ?_, ?_, ?_⟩
  · rw [y.2.1]; exact ht
  · rw [y.2.1]; exact y.2.2
  · rw [y.2.2]; exact ht
  · rw [y.2.2]; exact y.2.1
theorem ts_oA_tA {tp : List Nat} {p : Nat} {A : ts_A} (h : ts_oA A) : ts_oA (ts_tA tp p A) := by
  unfold ts_tA
  by_cases c : (ts_t7 tp (A 6 0) p).1 = 0
  · rw [if_pos c]
    have z := ts_t7_w c
    obtain ⟨h0, h1, h2, h3, hP, hT⟩ := h
    refine ⟨?_, h1, h2, h3, hP, fun t ht => ?_⟩
    · show A 6 0 + 1 ≤ 7
      omega
    · have ht' : t < A 6 0 + 1 := ht
      have hk := ts_kd_le (ts_bt tp p)
      by_cases e : t = A 6 0
      · subst e
        generalize ha : ts_nv tp (ts_t1 tp (A 6 0) p).2 = a at *
        generalize hb : ts_nv tp (ts_t3 tp (A 6 0) p).2 = b at *
        generalize hd : ts_nv tp (ts_t5 tp (A 6 0) p).2 = d at *
        generalize hk2 : ts_kd (ts_bt tp p) = k at *
        refine ⟨?_, ?_, ?_, ?_⟩
        · show 1 ≤ (if 0 = 0 ∧ A 6 0 = A 6 0 then k else _) ∧ (if 0 = 0 ∧ A 6 0 = A 6 0 then k else _) ≤ 5
          rw [if_pos ⟨rfl, rfl⟩]
          omega
        · show (if 1 = 0 ∧ A 6 0 = A 6 0 then k else if 1 = 1 ∧ A 6 0 = A 6 0 then a else _) ≤ 9
          rw [if_neg (by omega), if_pos ⟨rfl, rfl⟩]
          omega
        · show (if 2 = 0 ∧ A 6 0 = A 6 0 then k else if 2 = 1 ∧ A 6 0 = A 6 0 then a else if 2 = 2 ∧ A 6 0 = A 6 0 then b else _) ≤ 9
          rw [if_neg (by omega), if_neg (by omega), if_pos ⟨rfl, rfl⟩]
          omega
        · show (if 3 = 0 ∧ A 6 0 = A 6 0 then k else if 3 = 1 ∧ A 6 0 = A 6 0 then a else if 3 = 2 ∧ A 6 0 = A 6 0 then b else if 3 = 3 ∧ A 6 0 = A 6 0 then d else _) ≤ 1
          rw [if_neg (by omega), if_neg (by omega), if_neg (by omega), if_pos ⟨rfl, rfl⟩]
          omega
      · have y := hT t (by omega)
        have e0 : ∀ k a b d c, c ≤ 3 → ts_aT A k a b d c t = A c t := fun k a b d c hc => by
          unfold ts_aT
          rw [if_neg (fun x => e x.2), if_neg (fun x => e x.2), if_neg (fun x => e x.2), if_neg (fun x => e x.2), if_neg (by omega)]
        rw [e0 _ _ _ _ 0 (by omega), e0 _ _ _ _ 1 (by omega), e0 _ _ _ _ 2 (by omega), e0 _ _ _ _ 3 (by omega)]
        exact y
  · rw [if_neg c]; exact h
