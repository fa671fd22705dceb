/-! frost, and who stands higher beside one -/
def ts_fr (A : ts_A) : Nat := A 6 3 / 2 ^ (A 6 1 % 4) % 2
theorem ts_fr16 : ∀ f, f < 16 → ∀ r, r < 4 → ((nI f >>> (nI r &&& 31)) &&& 1) = nI (f / 2 ^ r % 2) := by decide +kernel
theorem ts_fr_eq {f y : Nat} (hf : f < 16) (hy : y < 4294967296) : ((nI f >>> ((nI y &&& 3) &&& 31)) &&& 1) = nI (f / 2 ^ (y % 4) % 2) := by
  rw [pk_andN (n := y) (by omega) 2 (by decide)]
  exact ts_fr16 f hf (y % 4) (Nat.mod_lt _ (by decide))
theorem c_hasFrost {d : Nat} {g : ts_G} {k : Nat} {A : ts_A} {hi : ts_I} {hk : ts_K} {Q : Int32 → ts_I → ts_K → Prop} (hF : ts_FL g k) (hR : ts_FR k A hi hk) (hA : ts_ok A) (q : Q (nI (ts_fr A)) hi hk) : ts_E0 d mX1_hasFrost [.ref k] g hi hk (ts_qi Q) := by
  refine ts_E0.of plX1_hasFrost rfl (Nat.le_of_ble_eq_true rfl) ?_
  refine wX1_hasFrost_0 ?_
  obtain ⟨-, h10, -, h12, -⟩ := hR
  obtain ⟨-, a1, -, a3, -⟩ := hA
  rw [h12, h10, ts_fr_eq (by omega) (by omega)]
  have e : ts_fr A = A 6 3 / 2 ^ (A 6 1 % 4) % 2 := rfl
  rw [← e]
  have e2 : ts_fr A = 0 ∨ ts_fr A = 1 := by rw [e]; omega
  rcases e2 with e2 | e2
  · rw [e2] at q ⊢
    exact ⟨hF.kd, fun _ => q, fun h => absurd (by decide) h⟩
  · rw [e2] at q ⊢
    exact ⟨hF.kd, fun h => absurd rfl h, fun _ => q⟩
def ts_dn (A : ts_A) (t : Nat) : Nat := if A 5 t ≠ 0 ∧ A 1 t < A 1 (A 7 (A 5 t - 1)) then 1 else 0
def ts_un (A : ts_A) (t : Nat) : Nat := if A 5 t + 1 < A 6 0 ∧ A 1 t < A 1 (A 7 (A 5 t + 1)) then 1 else 0
def ts_hb (A : ts_A) (t : Nat) : Nat := ts_dn A t + 2 * ts_un A t
def ts_dnp (A : ts_A) (p t : Nat) : Nat := if A 5 t ≤ p ∧ A 5 t ≠ 0 ∧ A 1 t < A 1 (A 7 (A 5 t - 1)) then 1 else 0
def ts_unp (A : ts_A) (p t : Nat) : Nat := if A 5 t < p ∧ A 5 t + 1 < A 6 0 ∧ A 1 t < A 1 (A 7 (A 5 t + 1)) then 1 else 0
theorem ts_or2 : ∀ x, x < 2 → (nI x ||| 2) = nI (x + 2) := by decide +kernel
theorem ts_hb_le (A : ts_A) (t : Nat) : ts_dn A t ≤ 1 ∧ ts_un A t ≤ 1 := by
  unfold ts_dn ts_un
  constructor <;> split <;> omega
theorem c_findHigher {d : Nat} {g : ts_G} {k : Nat} {A : ts_A} {hi : ts_I} {hk : ts_K} {Q : ts_I → ts_K → Prop} (hF : ts_FL g k) (hR : ts_FR k A hi hk) (hA : ts_ok A)
    (q : ∀ hi', (∀ t, t < A 6 0 → hi' (k + 9) t = nI (ts_hb A t)) → (∀ b, b ≠ k + 9 → hi' b = hi b) → Q hi' hk) : ts_E0 d mX1_findHigher [.ref k] g hi hk (ts_qv Q) := by
  refine ts_E0.of plX1_findHigher rfl (Nat.le_of_ble_eq_true rfl) ?_
  refine wX1_findHigher_0 ?_
  obtain ⟨h9, -, -, -, hT⟩ := hR
  obtain ⟨a0, -, -, -, aT⟩ := hA
  have L2 : ∀ n p hi', p + n = A 6 0 → 0 < n → (∀ t, t < A 6 0 → hi' (k + 9) t = nI (ts_dnp A p t + 2 * ts_unp A p t)) → (∀ b, b ≠ k + 9 → hi' b = hi b) → ts_J0 d mX1_findHigher (ts_qv Q) g 25 [(0, .ref k), (1, .int (nI p))] [] hi' hk := by
    intro n
    induction n with
    | zero => intro p hi' _ h0; omega
    | succ n ih =>
      intro p hi' hpn _ hI hO
      refine wX1_findHigher_25 ?_
      simp only [ts_FL.kd hF, ts_FL.k1 hF, ts_FL.k2 hF, ts_FL.k3 hF, ts_FL.k4 hF, ts_FL.k5 hF, ts_FL.k6 hF, ts_FL.k7 hF, ts_FL.k8 hF, ts_FL.k9 hF, ts_FL.l1 hF, ts_FL.l2 hF, ts_FL.l3 hF, ts_FL.l4 hF, ts_FL.l5 hF, ts_FL.l6 hF, ts_FL.l7 hF, ts_FL.l8 hF, ts_FL.l9 hF, ts_FL.o0 hF, ts_FL.o1 hF, ts_FL.o2 hF, ts_FL.o3 hF, ts_FL.o4 hF, ts_FL.o5 hF, ts_FL.o6 hF, ts_FL.o7 hF, ts_FL.o8 hF]
      have hk9 : hi' k 9 = nI (A 6 0) := by rw [hO k (by omega), h9]
      have hk7 : ∀ t, t < A 6 0 → hi' (k + 7) t = nI (A 7 t) := fun t ht => by rw [hO (k + 7) (by omega)]; exact (hT t ht).2.2.2.2.2.2
      have hk2 : ∀ t, t < A 6 0 → hi' (k + 2) t = nI (A 1 t) := fun t ht => by rw [hO (k + 2) (by omega)]; exact (hT t ht).2.1
      rw [hk9, ts_l1, nI_add]
      rw [ts_le (by omega) (by omega)]
      refine ⟨trivial, fun h => ?_, fun h => ?_⟩
      · refine q hi' (fun t ht => ?_) hO
        rw [hI t ht]
        have h5 := (aT t ht).2.2.2.2.2.1
        congr 2
        · unfold ts_dnp ts_dn
          have e : A 5 t ≤ p := by omega
          simp only [e, true_and]
        · congr 1
          unfold ts_unp ts_un
          by_cases e : A 5 t + 1 < A 6 0
          · have e2 : A 5 t < p := by omega
            simp only [e, e2, true_and]
          · simp [e]
      · have hp : p < A 6 0 := by omega
        have hp1 : p + 1 < A 6 0 := by omega
        have o1 := aT p hp
        have o2 := aT (p + 1) hp1
        have u1 : A 7 p < A 6 0 := o1.2.2.2.2.2.2.2.1
        have u2 : A 7 (p + 1) < A 6 0 := o2.2.2.2.2.2.2.2.1
        have v1 : A 5 (A 7 p) = p := o1.2.2.2.2.2.2.2.2
        have v2 : A 5 (A 7 (p + 1)) = p + 1 := o2.2.2.2.2.2.2.2.2
        have r1 := (aT _ u1).2.1
        have r2 := (aT _ u2).2.1
        have hne : A 7 p ≠ A 7 (p + 1) := fun e => by rw [e, v2] at v1; omega
        rw [ts_cl (by omega), ts_cl (by omega), hk7 p hp, hk7 (p + 1) hp1, ts_cl (by omega), ts_cl (by omega), hk2 _ u1, hk2 _ u2, hI _ u1, hI _ u2]
        rw [ts_le (by omega) (by omega), ts_le (by omega) (by omega)]
        -- who is in none of the two places keeps his bits
        have keep : ∀ t, t < A 6 0 → t ≠ A 7 p → t ≠ A 7 (p + 1) → ts_dnp A p t + 2 * ts_unp A p t = ts_dnp A (p + 1) t + 2 * ts_unp A (p + 1) t := by
          intro t ht n1 n2
          have p1 : A 5 t ≠ p := fun e => n1 (by rw [← e]; exact ((aT t ht).2.2.2.2.2.2.1).symm)
          have p2 : A 5 t ≠ p + 1 := fun e => n2 (by rw [← e]; exact ((aT t ht).2.2.2.2.2.2.1).symm)
          have e1 : A 5 t ≤ p ↔ A 5 t ≤ p + 1 := by omega
          have e2 : A 5 t < p ↔ A 5 t < p + 1 := by omega
          unfold ts_dnp ts_unp
          simp only [e1, e2]
        have d1 : ts_dnp A (p + 1) (A 7 p) = ts_dnp A p (A 7 p) := by
          unfold ts_dnp
          rw [v1]
          simp
        have w1 : ts_unp A p (A 7 p) = 0 := by
          unfold ts_unp
          rw [v1]
          simp
        have w1' : ts_unp A (p + 1) (A 7 p) = if A 1 (A 7 p) < A 1 (A 7 (p + 1)) then 1 else 0 := by
          unfold ts_unp
          rw [v1]
          simp [hp1]
        have w2 : ts_unp A p (A 7 (p + 1)) = 0 := by
          unfold ts_unp
          rw [v2, if_neg (by omega)]
        have w2' : ts_unp A (p + 1) (A 7 (p + 1)) = 0 := by
          unfold ts_unp
          rw [v2]
          simp
        have d2 : ts_dnp A p (A 7 (p + 1)) = 0 := by
          unfold ts_dnp
          rw [v2, if_neg (by omega)]
        have d2' : ts_dnp A (p + 1) (A 7 (p + 1)) = if A 1 (A 7 (p + 1)) < A 1 (A 7 p) then 1 else 0 := by
          unfold ts_dnp
          rw [v2]
          simp
        have dle : ts_dnp A p (A 7 p) < 2 := by unfold ts_dnp; split <;> omega
        refine ⟨by omega, trivial, ts_vin (by omega) (by omega), ts_vin (by omega) (by omega), by omega, trivial, ts_vin (by omega) (by omega), ts_vin (by omega) (by omega), fun c1 => ⟨fun c2 => ?_, fun c2 => ?_⟩, fun c1 => ?_⟩
        · refine ih (p + 1) hi' (by omega) (by omega) (fun t ht => ?_) hO
          rw [hI t ht]
          congr 1
          by_cases n1 : t = A 7 p
          · rw [n1, d1, w1, w1', if_neg (by omega)]
          · by_cases n2 : t = A 7 (p + 1)
            · rw [n2, d2, w2, d2', w2', if_neg (by omega)]
            · exact keep t ht n1 n2
        · refine ⟨by omega, trivial, ts_vin (by omega) (by omega), fun hi6 e6 => ?_⟩
          refine ih (p + 1) hi6 (by omega) (by omega) (fun t ht => ?_) (fun b hb => ?_)
          · rw [e6]
            by_cases n1 : t = A 7 p
            · subst n1
              rw [ts_up_eq, w1, d1, w1', if_pos (by omega)]
              exact ts_or2 _ (by omega)
            · rw [ts_up_s n1, hI t ht]
              congr 1
              by_cases n2 : t = A 7 (p + 1)
              · rw [n2, d2, w2, d2', w2', if_neg (by omega)]
              · exact keep t ht n1 n2
          · rw [e6]
            funext t
            rw [ts_up_a hb, hO b hb]
        · refine ⟨by omega, trivial, ts_vin (by omega) (by omega), fun hi6 e6 => ?_⟩
          have e2 : hi6 (k + 2) (A 7 (p + 1)) = nI (A 1 (A 7 (p + 1))) := by rw [e6, ts_up_a (by omega), hk2 _ u2]
          have e1 : hi6 (k + 2) (A 7 p) = nI (A 1 (A 7 p)) := by rw [e6, ts_up_a (by omega), hk2 _ u1]
          rw [e1, e2, ts_le (by omega) (by omega)]
          refine ⟨fun c2 => ?_, fun c2 => absurd (by omega) c2⟩
          refine ih (p + 1) hi6 (by omega) (by omega) (fun t ht => ?_) (fun b hb => ?_)
          · rw [e6]
            by_cases n2 : t = A 7 (p + 1)
            · subst n2
              rw [ts_up_eq, d2, w2, d2', w2', if_pos (by omega)]
              rfl
            · rw [ts_up_s n2, hI t ht]
              congr 1
              by_cases n1 : t = A 7 p
              · rw [n1, d1, w1, w1', if_neg (by omega)]
              · exact keep t ht n1 n2
          · rw [e6]
            funext t
            rw [ts_up_a hb, hO b hb]
  have L1 : ∀ n t hi', t + n = A 6 0 → (∀ s, s < t → hi' (k + 9) s = 0) → (∀ b, b ≠ k + 9 → hi' b = hi b) → ts_J0 d mX1_findHigher (ts_qv Q) g 2 [(0, .ref k), (1, .int (nI t))] [] hi' hk := by
    intro n
    induction n with
    | zero =>
      intro t hi' htn hI hO
      refine wX1_findHigher_2 ?_
      have hk9 : hi' k 9 = nI (A 6 0) := by rw [hO k (by omega), h9]
      rw [hk9, ts_le (by omega) (by omega)]
      refine ⟨hF.kd, fun _ => ?_, fun h => absurd (by omega) h⟩
      by_cases hc : A 6 0 = 0
      · refine wX1_findHigher_25 ?_
        simp only [ts_FL.kd hF, ts_FL.k1 hF, ts_FL.k2 hF, ts_FL.k3 hF, ts_FL.k4 hF, ts_FL.k5 hF, ts_FL.k6 hF, ts_FL.k7 hF, ts_FL.k8 hF, ts_FL.k9 hF, ts_FL.l1 hF, ts_FL.l2 hF, ts_FL.l3 hF, ts_FL.l4 hF, ts_FL.l5 hF, ts_FL.l6 hF, ts_FL.l7 hF, ts_FL.l8 hF, ts_FL.l9 hF, ts_FL.o0 hF, ts_FL.o1 hF, ts_FL.o2 hF, ts_FL.o3 hF, ts_FL.o4 hF, ts_FL.o5 hF, ts_FL.o6 hF, ts_FL.o7 hF, ts_FL.o8 hF]
        rw [hk9, hc]
        exact ⟨trivial, fun _ => q hi' (fun t ht => by omega) hO, fun h => absurd (by decide) h⟩
      · refine L2 (A 6 0) 0 hi' (by omega) (by omega) (fun s hs => ?_) hO
        rw [hI s (by omega)]
        have e1 : ts_dnp A 0 s = 0 := by
          unfold ts_dnp
          rw [if_neg (by omega)]
        have e2 : ts_unp A 0 s = 0 := by
          unfold ts_unp
          rw [if_neg (by omega)]
        rw [e1, e2]
        rfl
    | succ n ih =>
      intro t hi' htn hI hO
      refine wX1_findHigher_2 ?_
      have hk9 : hi' k 9 = nI (A 6 0) := by rw [hO k (by omega), h9]
      simp only [ts_FL.kd hF, ts_FL.k1 hF, ts_FL.k2 hF, ts_FL.k3 hF, ts_FL.k4 hF, ts_FL.k5 hF, ts_FL.k6 hF, ts_FL.k7 hF, ts_FL.k8 hF, ts_FL.k9 hF, ts_FL.l1 hF, ts_FL.l2 hF, ts_FL.l3 hF, ts_FL.l4 hF, ts_FL.l5 hF, ts_FL.l6 hF, ts_FL.l7 hF, ts_FL.l8 hF, ts_FL.l9 hF, ts_FL.o0 hF, ts_FL.o1 hF, ts_FL.o2 hF, ts_FL.o3 hF, ts_FL.o4 hF, ts_FL.o5 hF, ts_FL.o6 hF, ts_FL.o7 hF, ts_FL.o8 hF]
      rw [hk9, ts_le (by omega) (by omega), ts_l1, nI_add, ts_cl (by omega)]
      refine ⟨trivial, fun h => absurd h (by omega), fun _ => ⟨by omega, trivial, ts_vin (by omega) (by omega), fun hi6 e6 => ?_⟩⟩
      refine ih (t + 1) hi6 (by omega) (fun s hs => ?_) (fun b hb => ?_)
      · rw [e6]
        by_cases n1 : s = t
        · subst n1
          rw [ts_up_eq]
        · rw [ts_up_s n1]
          exact hI s (by omega)
      · rw [e6]
        funext s
        rw [ts_up_a hb, hO b hb]
  exact L1 (A 6 0) 0 hi (by omega) (fun s hs => by omega) (fun b _ => rfl)
