/-! plain facts: numbers, updates, the layout of a field -/
abbrev ts_A : Type := Nat → Nat → Nat
theorem ts_cl {n : Nat} (h : n < 2147483648) : (nI n).toNatClampNeg = n := nI_clamp h
theorem ts_vin {i n : Nat} (h : i < n) (hn : n < 2147483648) : vp_in (nI i) n := nI_in h hn
theorem ts_le {a b : Nat} (ha : a < 2147483648) (hb : b < 2147483648) : (nI a ≤ nI b) = (a ≤ b) := propext (nI_leI ha hb)
theorem ts_lt {a b : Nat} (ha : a < 2147483648) (hb : b < 2147483648) : (nI a < nI b) = (a < b) := propext (nI_ltI ha hb)
theorem ts_eq {a b : Nat} (ha : a < 2147483648) (hb : b < 2147483648) : (nI a = nI b) = (a = b) := propext (nI_eq ha hb)
theorem ts_sub' {a b : Nat} (h : b ≤ a) : nI a - nI b = nI (a - b) := pk_sub h
theorem ts_div {a d : Nat} (ha : a < 2147483648) (h0 : 0 < d) (hd : d < 2147483648) : nI a / nI d = nI (a / d) := pk_div ha h0 hd
theorem ts_up_eq {hi : ts_I} {a s : Nat} {x : Int32} : ts_up hi a s x a s = x := by simp [ts_up]
theorem ts_up_a {hi : ts_I} {a s b t : Nat} {x : Int32} (h : b ≠ a) : ts_up hi a s x b t = hi b t := by simp [ts_up, h]
theorem ts_up_s {hi : ts_I} {a s b t : Nat} {x : Int32} (h : t ≠ s) : ts_up hi a s x b t = hi b t := by simp [ts_up, h]
theorem ts_uk_eq {hk : ts_K} {a s x : Nat} : ts_uk hk a s x a s = x := by simp [ts_uk]
theorem ts_uk_a {hk : ts_K} {a s b t x : Nat} (h : b ≠ a) : ts_uk hk a s x b t = hk b t := by simp [ts_uk, h]
theorem ts_uk_s {hk : ts_K} {a s b t x : Nat} (h : t ≠ s) : ts_uk hk a s x b t = hk b t := by simp [ts_uk, h]
theorem ts_l0 : (0 : Int32) = nI 0 := rfl
theorem ts_l1 : (1 : Int32) = nI 1 := rfl
theorem ts_l2 : (2 : Int32) = nI 2 := rfl
theorem ts_l3 : (3 : Int32) = nI 3 := rfl
theorem ts_l4 : (4 : Int32) = nI 4 := rfl
theorem ts_l5 : (5 : Int32) = nI 5 := rfl
theorem ts_l6 : (6 : Int32) = nI 6 := rfl
theorem ts_l7 : (7 : Int32) = nI 7 := rfl
theorem ts_l8 : (8 : Int32) = nI 8 := rfl
theorem ts_l9 : (9 : Int32) = nI 9 := rfl
theorem ts_l10 : (10 : Int32) = nI 10 := rfl
/-- -1 for nobody (7), else the turnip -/
def ts_mI (m : Nat) : Int32 := if m = 7 then -1 else nI m
/-- where the cells of a field lie: the field at k, its rows behind it -/
def ts_FL (g : ts_G) (k : Nat) : Prop := (g.2.1 k = 1 ∧ g.2.1 (k + 1) = 103 ∧ ∀ i, 2 ≤ i → i ≤ 9 → g.2.1 (k + i) = 100) ∧ (∀ i, 1 ≤ i → i ≤ 9 → g.2.2.1 (k + i) = 7) ∧ ∀ i, i ≤ 8 → g.2.2.2 k i = k + 1 + i
section
variable {g : ts_G} {k : Nat} (h : ts_FL g k)
theorem ts_FL.kd : ts_FL g k → g.2.1 k = 1 := fun h => h.1.1
theorem ts_FL.k1 : ts_FL g k → g.2.1 (k + 1) = 103 := fun h => h.1.2.1
theorem ts_FL.k2 : ts_FL g k → g.2.1 (k + 2) = 100 := fun h => h.1.2.2 2 (by omega) (by omega)
theorem ts_FL.k3 : ts_FL g k → g.2.1 (k + 3) = 100 := fun h => h.1.2.2 3 (by omega) (by omega)
theorem ts_FL.k4 : ts_FL g k → g.2.1 (k + 4) = 100 := fun h => h.1.2.2 4 (by omega) (by omega)
theorem ts_FL.k5 : ts_FL g k → g.2.1 (k + 5) = 100 := fun h => h.1.2.2 5 (by omega) (by omega)
theorem ts_FL.k6 : ts_FL g k → g.2.1 (k + 6) = 100 := fun h => h.1.2.2 6 (by omega) (by omega)
theorem ts_FL.k7 : ts_FL g k → g.2.1 (k + 7) = 100 := fun h => h.1.2.2 7 (by omega) (by omega)
theorem ts_FL.k8 : ts_FL g k → g.2.1 (k + 8) = 100 := fun h => h.1.2.2 8 (by omega) (by omega)
theorem ts_FL.k9 : ts_FL g k → g.2.1 (k + 9) = 100 := fun h => h.1.2.2 9 (by omega) (by omega)
theorem ts_FL.l1 : ts_FL g k → g.2.2.1 (k + 1) = 7 := fun h => h.2.1 1 (by omega) (by omega)
theorem ts_FL.l2 : ts_FL g k → g.2.2.1 (k + 2) = 7 := fun h => h.2.1 2 (by omega) (by omega)
theorem ts_FL.l3 : ts_FL g k → g.2.2.1 (k + 3) = 7 := fun h => h.2.1 3 (by omega) (by omega)
theorem ts_FL.l4 : ts_FL g k → g.2.2.1 (k + 4) = 7 := fun h => h.2.1 4 (by omega) (by omega)
theorem ts_FL.l5 : ts_FL g k → g.2.2.1 (k + 5) = 7 := fun h => h.2.1 5 (by omega) (by omega)
theorem ts_FL.l6 : ts_FL g k → g.2.2.1 (k + 6) = 7 := fun h => h.2.1 6 (by omega) (by omega)
theorem ts_FL.l7 : ts_FL g k → g.2.2.1 (k + 7) = 7 := fun h => h.2.1 7 (by omega) (by omega)
theorem ts_FL.l8 : ts_FL g k → g.2.2.1 (k + 8) = 7 := fun h => h.2.1 8 (by omega) (by omega)
theorem ts_FL.l9 : ts_FL g k → g.2.2.1 (k + 9) = 7 := fun h => h.2.1 9 (by omega) (by omega)
theorem ts_FL.o0 : ts_FL g k → g.2.2.2 k 0 = k + 1 := fun h => h.2.2 0 (by omega)
theorem ts_FL.o1 : ts_FL g k → g.2.2.2 k 1 = k + 2 := fun h => h.2.2 1 (by omega)
theorem ts_FL.o2 : ts_FL g k → g.2.2.2 k 2 = k + 3 := fun h => h.2.2 2 (by omega)
theorem ts_FL.o3 : ts_FL g k → g.2.2.2 k 3 = k + 4 := fun h => h.2.2 3 (by omega)
theorem ts_FL.o4 : ts_FL g k → g.2.2.2 k 4 = k + 5 := fun h => h.2.2 4 (by omega)
theorem ts_FL.o5 : ts_FL g k → g.2.2.2 k 5 = k + 6 := fun h => h.2.2 5 (by omega)
theorem ts_FL.o6 : ts_FL g k → g.2.2.2 k 6 = k + 7 := fun h => h.2.2 6 (by omega)
theorem ts_FL.o7 : ts_FL g k → g.2.2.2 k 7 = k + 8 := fun h => h.2.2 7 (by omega)
theorem ts_FL.o8 : ts_FL g k → g.2.2.2 k 8 = k + 9 := fun h => h.2.2 8 (by omega)
end
/-- a field in our words. 0 kind, 1 rank, 2 grown, 3 lean, 4 mate (7: nobody), 5 place, 7 who is in a place; 6: 0 how many, 1 year, 2 ground, 3 frost -/
def ts_ok (A : ts_A) : Prop := A 6 0 ≤ 7 ∧ A 6 1 ≤ 1000000 ∧ A 6 2 ≤ 9 ∧ A 6 3 ≤ 15 ∧ ∀ t, t < A 6 0 → (1 ≤ A 0 t ∧ A 0 t ≤ 5) ∧ A 1 t ≤ 9 ∧ A 2 t ≤ 9 ∧ A 3 t ≤ 1 ∧ (A 4 t = 7 ∨ (A 4 t < A 6 0 ∧ A 4 (A 4 t) = t ∧ A 4 t ≠ t)) ∧ A 5 t < A 6 0 ∧ A 7 (A 5 t) = t ∧ A 7 t < A 6 0 ∧ A 5 (A 7 t) = t
/-- the cells of the field at k hold A -/
def ts_FR (k : Nat) (A : ts_A) (hi : ts_I) (hk : ts_K) : Prop := hi k 9 = nI (A 6 0) ∧ hi k 10 = nI (A 6 1) ∧ hi k 11 = nI (A 6 2) ∧ hi k 12 = nI (A 6 3) ∧ (∀ t, t < A 6 0 → hk (k + 1) t = 9 + A 0 t ∧ hi (k + 2) t = nI (A 1 t) ∧ hi (k + 3) t = nI (A 2 t) ∧ hi (k + 4) t = nI (A 3 t) ∧ hi (k + 5) t = ts_mI (A 4 t) ∧ hi (k + 6) t = nI (A 5 t) ∧ hi (k + 7) t = nI (A 7 t))
def ts_FK (k : Nat) (hk : ts_K) : Prop := ∀ t, t < 7 → 10 ≤ hk (k + 1) t ∧ hk (k + 1) t ≤ 14
/-- the kinds' own objects: 10 a plain one, 11 old, 12 purple, 13 fellow, 14 son -/
def ts_KL (g : ts_G) : Prop := g.2.1 10 = 3 ∧ g.2.1 11 = 2 ∧ g.2.1 12 = 4 ∧ g.2.1 13 = 0 ∧ g.2.1 14 = 7
theorem ts_KL.is {g : ts_G} (h : ts_KL g) {r : Nat} (h1 : 10 ≤ r) (h2 : r ≤ 14) : g.2.1 r = 0 ∨ g.2.1 r = 2 ∨ g.2.1 r = 3 ∨ g.2.1 r = 4 ∨ g.2.1 r = 7 := by
  obtain ⟨a, b, c, d, e⟩ := h
  have h3 : r = 10 ∨ r = 11 ∨ r = 12 ∨ r = 13 ∨ r = 14 := by omega
  rcases h3 with rfl | rfl | rfl | rfl | rfl <;> omega
