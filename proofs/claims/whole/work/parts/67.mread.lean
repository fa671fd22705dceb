/-! the model reads the text: its parts -/
/-- how the model stands in the text: well at w.2, or failed there for w.1 -/
def ts_MQ (tp : List Nat) (fa : Nat) (w : Nat × Nat) (hi : ts_I) : Prop := ts_Li tp 405 6 410 hi ∧ w.2 ≤ tp.length ∧ (w.1 = 0 → hi 405 8 = -1 ∧ hi 405 7 = nI fa ∧ ts_TO tp w.2 hi) ∧ (w.1 ≠ 0 → hi 405 8 = nI w.2 ∧ hi 405 7 = nI w.1)
def ts_MU (hi hi' : ts_I) : Prop := (∀ b, b ≠ 405 → hi' b = hi b) ∧ ∀ s, (s < 7 ∨ 12 < s) → hi' 405 s = hi 405 s
theorem ts_MU.refl (hi : ts_I) : ts_MU hi hi := ⟨fun _ _ => rfl, fun _ _ => rfl⟩
theorem ts_MU.trans {hi hi' hi'' : ts_I} (h1 : ts_MU hi hi') (h2 : ts_MU hi' hi'') : ts_MU hi hi'' := ⟨fun b hb => (h2.1 b hb).trans (h1.1 b hb), fun s hs => (h2.2 s hs).trans (h1.2 s hs)⟩
theorem ts_MV.mu {hi hi' : ts_I} (h : ts_MV hi hi') : ts_MU hi hi' := ⟨h.1, fun s hs => h.2 s (by omega) (by omega) (by omega) (by omega)⟩
theorem c_isWell {d fa : Nat} {tp : List Nat} {w : Nat × Nat} {g : ts_G} {hi : ts_I} {hk : ts_K} {Q : Int32 → ts_I → ts_K → Prop} (hM : ts_LM g) (hl : tp.length ≤ 90) (h : ts_MQ tp fa w hi) (q1 : w.1 = 0 → Q 1 hi hk) (q0 : w.1 ≠ 0 → Q 0 hi hk) : ts_E0 d mX12_isWell [.ref 405] g hi hk (ts_qi Q) := by
  refine ts_E0.of plX12_isWell rfl (Nat.le_of_ble_eq_true rfl) ?_
  refine wX12_isWell_0 ⟨hM.kd, fun c => ?_, fun c => ?_⟩
  · refine q0 (fun e => ?_)
    rw [(h.2.2.1 e).1] at c
    exact absurd c (by decide)
  · refine q1 ?_
    by_cases e : w.1 = 0
    · exact e
    · have := h.2.1
      rw [(h.2.2.2 e).1, ts_l0, ts_le (by omega) (by omega)] at c
      omega
theorem c_takes_x {d fa : Nat} {tp : List Nat} {w : Nat × Nat} {a b : Int32} {g : ts_G} {hi : ts_I} {hk : ts_K} {Q : Int32 → ts_I → ts_K → Prop} (hM : ts_LM g) (hl : tp.length ≤ 90) (h : ts_MQ tp fa w hi) (hw : w.1 ≠ 0) (q : Q 0 hi hk) : ts_E0 (d + 2) mX12_takes [.ref 405, .int a, .int b] g hi hk (ts_qi Q) := by
  refine ts_E0.of plX12_takes rfl (Nat.le_of_ble_eq_true rfl) ?_
  exact wX12_takes_0 ⟨hM.kd, c_isWell hM hl h (fun e => absurd e hw) (fun _ => ⟨fun e => absurd rfl e, fun _ => q⟩)⟩
theorem c_takes_n {d f fa p : Nat} {tp : List Nat} {g : ts_G} {hi : ts_I} {hk : ts_K} {Q : Int32 → ts_I → ts_K → Prop} (hM : ts_LM g) (hl : tp.length ≤ 90) (hf : f ≠ 0) (h : ts_MQ tp fa (0, p) hi) (q : ∀ hi', ts_MQ tp fa (f, p) hi' → ts_MU hi hi' → Q 0 hi' hk) : ts_E0 (d + 2) mX12_takes [.ref 405, .int 0, .int (nI f)] g hi hk (ts_qi Q) := by
  refine ts_E0.of plX12_takes rfl (Nat.le_of_ble_eq_true rfl) ?_
  obtain ⟨h1, h2, h3, h4⟩ := h
  refine wX12_takes_0 ⟨hM.kd, c_isWell hM hl ⟨h1, h2, h3, h4⟩ (fun _ => ⟨fun _ => ⟨fun e => absurd rfl e, fun _ hi9 x9 hi10 x10 => ?_⟩, fun e => absurd (by decide) e⟩) (fun e => absurd rfl e)⟩
  have t := (h3 rfl).2.2
  refine q hi10 ⟨h1.of (by rw [x10, ts_up_s (by omega), x9, ts_up_s (by omega)]) (by rw [x10, x9]; funext s; rw [ts_up_a (by omega), ts_up_a (by omega)]), h2, fun e => absurd e hf, fun _ => ⟨by rw [x10, ts_up_s (by omega), x9, ts_up_eq]; exact t.1, by rw [x10, ts_up_eq]⟩⟩ ⟨fun b hb => by rw [x10, x9]; funext s; rw [ts_up_a hb, ts_up_a hb], fun s hs => by rw [x10, ts_up_s (by omega), x9, ts_up_s (by omega)]⟩
theorem c_takes_y {d fa p p' : Nat} {a b : Int32} {tp : List Nat} {g : ts_G} {hi : ts_I} {hk : ts_K} {Q : Int32 → ts_I → ts_K → Prop} (hM : ts_LM g) (hl : tp.length ≤ 90) (hb : ∀ b, b ∈ tp → b ≤ 255) (ha : a ≠ 0) (h : ts_MQ tp fa (0, p) hi) (h9 : hi 405 9 = nI p') (hp : p' ≤ tp.length) (q : ∀ hi', ts_MQ tp fa (0, p') hi' → ts_MU hi hi' → Q (hi 405 12) hi' hk) : ts_E0 (d + 2) mX12_takes [.ref 405, .int a, .int b] g hi hk (ts_qi Q) := by
  refine ts_E0.of plX12_takes rfl (Nat.le_of_ble_eq_true rfl) ?_
  obtain ⟨h1, h2, h3, h4⟩ := h
  refine wX12_takes_0 ⟨hM.kd, c_isWell hM hl ⟨h1, h2, h3, h4⟩ (fun _ => ⟨fun _ => ⟨fun _ => c_advances hM h1 hl hb hp h9 (fun hi' hT hV => ?_), fun e => absurd ha e⟩, fun e => absurd (by decide) e⟩) (fun e => absurd rfl e)⟩
  have t := h3 rfl
  exact q hi' ⟨hV.li h1, hp, fun _ => ⟨by rw [hV.2 8 (by omega) (by omega) (by omega) (by omega)]; exact t.1, by rw [hV.2 7 (by omega) (by omega) (by omega) (by omega)]; exact t.2.1, hT⟩, fun e => absurd rfl e⟩ hV.mu
theorem ts_tt_le (tp : List Nat) (p : Nat) : ts_tt tp p ≤ 5 := by
  unfold ts_tt
  repeat' split
  all_goals omega
theorem ts_tt2 {tp : List Nat} {p : Nat} : ts_tt tp p = 2 ↔ (ts_nd tp p = 1 ∨ ts_nd tp p = 2) := by
  have := ts_nd_le tp p
  unfold ts_tt
  by_cases c : ts_dg tp p = true
  · rw [if_pos c]
    have h1 : ts_nd tp p ≠ 0 := by
      unfold ts_nd
      rw [if_pos c]
      repeat' split
      all_goals omega
    by_cases c3 : ts_nd tp p = 3
    · rw [if_pos c3]; omega
    · rw [if_neg c3]; omega
  · rw [if_neg c]
    have h1 : ts_nd tp p = 0 := by
      unfold ts_nd
      rw [if_neg c]
    repeat' split
    all_goals omega
theorem ts_tt_c {tp : List Nat} {p : Nat} (h : ts_bt tp p = 44 ∨ ts_bt tp p = 59 ∨ (97 ≤ ts_bt tp p ∧ ts_bt tp p ≤ 122)) : ts_tt tp p = (if ts_bt tp p = 44 then 3 else if ts_bt tp p = 59 then 4 else 1) ∧ p < tp.length := by
  have hl := ts_bt_len (tp := tp) (i := p) (by omega)
  refine ⟨?_, hl⟩
  unfold ts_tt
  rw [if_neg (fun y => by have := ts_dg_e.mp y; omega), if_neg (by omega)]
  by_cases c1 : ts_bt tp p = 44
  · rw [if_neg (by omega), if_pos c1, if_pos c1]
  · by_cases c2 : ts_bt tp p = 59
    · rw [if_neg (by omega), if_neg c1, if_pos c2, if_neg c1, if_pos c2]
    · rw [if_pos (by omega), if_neg c1, if_neg c2]
theorem ts_tt3 {tp : List Nat} {p : Nat} : (ts_tt tp p = 3 ↔ ts_bt tp p = 44) ∧ (ts_tt tp p = 4 ↔ ts_bt tp p = 59) ∧ (ts_tt tp p = 1 ↔ (97 ≤ ts_bt tp p ∧ ts_bt tp p ≤ 122)) ∧ (ts_tt tp p = 0 ↔ ts_bt tp p = 256) := by
  unfold ts_tt
  by_cases c : ts_dg tp p = true
  · have := ts_dg_e.mp c
    rw [if_pos c]
    split <;> omega
  · rw [if_neg c]
    repeat' split
    all_goals omega
/-- a sign is taken, where the guard is the sign -/
theorem c_takes_s {d c fa : Nat} {a : Int32} {tp : List Nat} {w : Nat × Nat} {g : ts_G} {hi : ts_I} {hk : ts_K} {Q : Int32 → ts_I → ts_K → Prop} (hM : ts_LM g) (hl : tp.length ≤ 90) (hb : ∀ b, b ∈ tp → b ≤ 255) (hc : c = 44 ∨ c = 59 ∨ (97 ≤ c ∧ c ≤ 122)) (ha : w.1 = 0 → if ts_bt tp w.2 = c then a = 1 else a = 0) (h : ts_MQ tp fa w hi) (q : ∀ v hi', ts_MQ tp fa (ts_sn tp c w) hi' → ts_MU hi hi' → Q v hi' hk) : ts_E0 (d + 2) mX12_takes [.ref 405, .int a, .int 1] g hi hk (ts_qi Q) := by
  unfold ts_sn at q
  by_cases hw : w.1 ≠ 0
  · rw [if_pos hw] at q
    exact c_takes_x hM hl h hw (q 0 hi h (ts_MU.refl hi))
  · rw [if_neg hw] at q
    replace hw := Decidable.not_not.mp hw
    have ha' := ha hw
    obtain ⟨w1, p⟩ := w
    have hw1 : w1 = 0 := hw
    subst hw1
    by_cases e : ts_bt tp p = c
    · rw [if_pos e] at q ha'
      have z := ts_tt_c (tp := tp) (p := p) (by rw [e]; exact hc)
      have t := (h.2.2.1 rfl).2.2
      refine c_takes_y hM hl hb (by rw [ha']; decide) h (t.2.2.2.2 ?_) z.2 (fun hi' h1 h2 => q _ hi' h1 h2)
      rw [z.1]
      repeat' split
      all_goals omega
    · rw [if_neg e] at q ha'
      rw [ha']
      exact c_takes_n (f := 1) hM hl (by omega) h (fun hi' h1 h2 => q _ hi' h1 h2)
theorem c_mfigure {d lo up fa : Nat} {tp : List Nat} {w : Nat × Nat} {g : ts_G} {hi : ts_I} {hk : ts_K} {Q : Int32 → ts_I → ts_K → Prop} (hM : ts_LM g) (hl : tp.length ≤ 90) (hb : ∀ b, b ∈ tp → b ≤ 255) (hlo : lo < 1000) (hup : up < 1000) (h : ts_MQ tp fa w hi) (q : ∀ v hi', ts_MQ tp fa (ts_nu tp lo up w) hi' → ts_MU hi hi' → ((ts_nu tp lo up w).1 = 0 → v = nI (ts_nv tp w.2)) → Q v hi' hk) : ts_E0 (d + 3) mX12_figure [.ref 405, .int (nI lo), .int (nI up)] g hi hk (ts_qi Q) := by
  refine ts_E0.of plX12_figure rfl (Nat.le_of_ble_eq_true rfl) ?_
  refine wX12_figure_0 ⟨hM.kd, c_isWell hM hl h (fun hw => ⟨fun e => absurd e (by decide), fun _ => ?_⟩) (fun hw => ⟨fun _ => ?_, fun e => absurd rfl e⟩)⟩
  · obtain ⟨w1, p⟩ := w
    have hw1 : w1 = 0 := hw
    subst hw1
    have e0 : ts_nu tp lo up (0, p) = if ts_nm tp lo up p = 0 then (0, p + ts_nd tp p) else (ts_nm tp lo up p, p) := if_neg (fun x => x rfl)
    rw [e0] at q
    obtain ⟨-, t7, t10, t11, tn, -, -⟩ := h.2.2.1 rfl
    have tlt := ts_tt_le tp p
    replace t11 : hi 405 11 = nI (ts_tt tp p) := t11
    replace tn : ts_tt tp p = 2 → hi 405 12 = nI (ts_nv tp p) ∧ hi 405 9 = nI (p + ts_nd tp p) := tn
    rw [t11, ts_l2, ts_eq (by omega) (by omega)]
    have hnd := @ts_tt2 tp p
    refine ⟨fun c => ?_, fun c => ?_⟩
    · obtain ⟨t12, t9⟩ := tn c
      have hv := ts_nv_lt (hnd.mp c)
      have em : ts_nm tp lo up p = if lo ≤ ts_nv tp p ∧ ts_nv tp p ≤ up then 0 else 2 := by unfold ts_nm; rw [if_neg (by omega)]
      rw [em] at q
      rw [t12]
      refine c_inq (fun c2 => ?_) (fun c2 => ?_)
      · rw [ts_le (by omega) (by omega), ts_le (by omega) (by omega)] at c2
        rw [if_pos c2, if_pos rfl] at q
        exact c_takes_y hM hl hb (by decide) h t9 (ts_nd_len h.2.1) (fun hi' h1 h2 => q _ hi' h1 h2 (fun _ => t12))
      · rw [ts_le (by omega) (by omega), ts_le (by omega) (by omega)] at c2
        rw [if_neg c2, if_neg (by omega)] at q
        exact c_takes_n (f := 2) hM hl (by omega) h (fun hi' h1 h2 => q _ hi' h1 h2 (fun e => absurd e (by simp)))
    · have em : ts_nm tp lo up p = 1 := by
        have := ts_nd_le tp p
        unfold ts_nm
        rw [if_pos (by omega)]
      rw [em, if_neg (by omega)] at q
      exact c_takes_n (f := 1) hM hl (by omega) h (fun hi' h1 h2 => q _ hi' h1 h2 (fun e => absurd e (by simp)))
  · rw [ts_nu_st hw] at q
    have z := q 0 hi h (ts_MU.refl hi) (fun e => absurd e hw)
    exact c_inq (fun _ => c_takes_x hM hl h hw z) (fun _ => c_takes_x hM hl h hw z)
theorem c_mfollows {d lo up fa : Nat} {tp : List Nat} {w : Nat × Nat} {g : ts_G} {hi : ts_I} {hk : ts_K} {Q : Int32 → ts_I → ts_K → Prop} (hM : ts_LM g) (hl : tp.length ≤ 90) (hb : ∀ b, b ∈ tp → b ≤ 255) (hlo : lo < 1000) (hup : up < 1000) (h : ts_MQ tp fa w hi) (q : ∀ v hi', ts_MQ tp fa (ts_nu tp lo up (ts_sn tp 44 w)) hi' → ts_MU hi hi' → ((ts_nu tp lo up (ts_sn tp 44 w)).1 = 0 → v = nI (ts_nv tp (ts_sn tp 44 w).2)) → Q v hi' hk) : ts_E0 (d + 4) mX12_follows [.ref 405, .int (nI lo), .int (nI up)] g hi hk (ts_qi Q) := by
  refine ts_E0.of plX12_follows rfl (Nat.le_of_ble_eq_true rfl) ?_
  have tt : w.1 = 0 → (hi 405 11 = 3 ↔ ts_bt tp w.2 = 44) := fun hw => by
    have t := (h.2.2.1 hw).2.2.2.1
    have tlt := ts_tt_le tp w.2
    rw [t, ts_l3, ts_eq (by omega) (by omega)]
    exact ts_tt3.1
  refine wX12_follows_0 ⟨hM.kd, fun c => c_takes_s (c := 44) hM hl hb (by omega) (fun hw => ?_) h (fun v hi2 h2 u2 => c_mfigure hM hl hb hlo hup h2 (fun v3 hi3 h3 u3 e3 => q v3 hi3 h3 (u2.trans u3) e3)), fun c => c_takes_s (c := 44) hM hl hb (by omega) (fun hw => ?_) h (fun v hi2 h2 u2 => c_mfigure hM hl hb hlo hup h2 (fun v3 hi3 h3 u3 e3 => q v3 hi3 h3 (u2.trans u3) e3))⟩
  · rw [if_neg (fun e => c ((tt hw).mpr e))]
  · rw [if_pos ((tt hw).mp (Decidable.not_not.mp c))]
theorem c_kindOf {d x : Nat} {g : ts_G} {hi : ts_I} {hk : ts_K} {Q : Int32 → ts_I → ts_K → Prop} (hx : x ≤ 256) (q : Q (nI (ts_kd x)) hi hk) : ts_E0 d mX12_kindOf [.int (nI x)] g hi hk (ts_qi Q) := by
  refine ts_E0.of plX12_kindOf rfl (Nat.le_of_ble_eq_true rfl) ?_
  refine wX12_kindOf_0 ?_
  rw [show (116 : Int32) = nI 116 from rfl, show (111 : Int32) = nI 111 from rfl, show (112 : Int32) = nI 112 from rfl, show (102 : Int32) = nI 102 from rfl, show (115 : Int32) = nI 115 from rfl, ts_ne (by omega) (by omega), ts_ne (by omega) (by omega), ts_ne (by omega) (by omega), ts_ne (by omega) (by omega), ts_ne (by omega) (by omega)]
  unfold ts_kd at q
  refine ⟨fun c1 => ⟨fun c2 => ⟨fun c3 => ⟨fun c4 => ⟨fun c5 => ?_, fun c5 => ?_⟩, fun c4 => ?_⟩, fun c3 => ?_⟩, fun c2 => ?_⟩, fun c1 => ?_⟩
  · rw [if_neg c1, if_neg c2, if_neg c3, if_neg c4, if_neg c5] at q; exact q
  · rw [if_neg c1, if_neg c2, if_neg c3, if_neg c4, if_pos (by omega)] at q; exact q
  · rw [if_neg c1, if_neg c2, if_neg c3, if_pos (by omega)] at q; exact q
  · rw [if_neg c1, if_neg c2, if_pos (by omega)] at q; exact q
  · rw [if_neg c1, if_pos (by omega)] at q; exact q
  · rw [if_pos (by omega)] at q; exact q
theorem ts_MR_aT {A : ts_A} {k r w l : Nat} {hi hi' : ts_I} (hA : ts_oA A) (h : ts_MR 412 0 A hi) (e0 : ∀ u, u ≠ 2 → u < 4 + 6 * A 6 0 → hi' 412 u = hi 412 u) (e2 : hi' 412 2 = nI (A 6 0 + 1)) (f0 : hi' 412 (4 + 6 * A 6 0) = nI k) (f1 : hi' 412 (4 + 6 * A 6 0 + 1) = nI r) (f2 : hi' 412 (4 + 6 * A 6 0 + 2) = nI w) (f3 : hi' 412 (4 + 6 * A 6 0 + 3) = nI (A 6 0)) (f4 : hi' 412 (4 + 6 * A 6 0 + 4) = nI l) (f5 : hi' 412 (4 + 6 * A 6 0 + 5) = -1000000) : ts_MR 412 0 (ts_aT A k r w l) hi' := by
  obtain ⟨r0, r1, r2, r3, rT⟩ := h
  refine ⟨(e0 0 (by omega) (by omega)).trans r0, (e0 1 (by omega) (by omega)).trans r1, e2, (e0 3 (by omega) (by omega)).trans r3, fun t ht => ?_⟩
  have ht' : t < A 6 0 + 1 := ht
  have p4 : ts_aT A k r w l 4 t = A 4 t := by
    unfold ts_aT
    rw [if_neg (by omega), if_neg (by omega), if_neg (by omega), if_neg (by omega), if_neg (by omega)]
  have p5 : ts_aT A k r w l 5 t = A 5 t := by
    unfold ts_aT
    rw [if_neg (by omega), if_neg (by omega), if_neg (by omega), if_neg (by omega), if_neg (by omega)]
  obtain ⟨y4, y5, -⟩ := hA.2.2.2.2.1 t
  simp only [Nat.zero_add]
  rw [p4, p5]
  by_cases e : t = A 6 0
  · have q0 : ts_aT A k r w l 0 t = k := if_pos ⟨rfl, e⟩
    have q1 : ts_aT A k r w l 1 t = r := by unfold ts_aT; rw [if_neg (by omega), if_pos ⟨rfl, e⟩]
    have q2 : ts_aT A k r w l 2 t = w := by unfold ts_aT; rw [if_neg (by omega), if_neg (by omega), if_pos ⟨rfl, e⟩]
    have q3 : ts_aT A k r w l 3 t = l := by unfold ts_aT; rw [if_neg (by omega), if_neg (by omega), if_neg (by omega), if_pos ⟨rfl, e⟩]
    rw [q0, q1, q2, q3, y4, y5, e]
    exact ⟨f0, f1, f2, f3, f4, f5⟩
  · have qc : ∀ c, c ≤ 3 → ts_aT A k r w l c t = A c t := fun c hc => by
      unfold ts_aT
      rw [if_neg (fun x => e x.2), if_neg (fun x => e x.2), if_neg (fun x => e x.2), if_neg (fun x => e x.2), if_neg (by omega)]
    rw [qc 0 (by omega), qc 1 (by omega), qc 2 (by omega), qc 3 (by omega)]
    have z := rT t (by omega)
    simp only [Nat.zero_add] at z
    rw [e0 _ (by omega) (by omega), e0 _ (by omega) (by omega), e0 _ (by omega) (by omega), e0 _ (by omega) (by omega), e0 _ (by omega) (by omega), e0 _ (by omega) (by omega)]
    exact z
