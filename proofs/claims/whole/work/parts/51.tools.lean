/-! ===== pure tools: numbers, trees, frames ===== -/
theorem nJ_add (a b : Nat) : nI a + nI b = nI (a + b) := (Int32.ofNat_add a b).symm
theorem nI_mul (a b : Nat) : nI a * nI b = nI (a * b) := (Int32.ofNat_mul a b).symm
theorem nI_inj {a b : Nat} (ha : a < 2 ^ 31) (hb : b < 2 ^ 31) (h : nI a = nI b) : a = b := by
  have := congrArg Int32.toNatClampNeg h
  rwa [nI_clamp ha, nI_clamp hb] at this
theorem nI_sub {a b : Nat} (h : b ≤ a) : nI a - nI b = nI (a - b) := by
  have e : nI a = nI (a - b) + nI b := by rw [nJ_add]; congr 1; omega
  rw [e, Int32.add_sub_cancel]
theorem nI_le_iff {a b : Nat} (ha : a < 2 ^ 31) (hb : b < 2 ^ 31) : nI a ≤ nI b ↔ a ≤ b := by
  rw [Int32.le_iff_toInt_le, nI_toInt ha, nI_toInt hb]; omega
theorem nI_lt_iff {a b : Nat} (ha : a < 2 ^ 31) (hb : b < 2 ^ 31) : nI a < nI b ↔ a < b := by
  rw [Int32.lt_iff_toInt_lt, nI_toInt ha, nI_toInt hb]; omega
theorem nI_eq_iff {a b : Nat} (ha : a < 2 ^ 31) (hb : b < 2 ^ 31) : nI a = nI b ↔ a = b := ⟨nI_inj ha hb, fun h => h ▸ rfl⟩
theorem i_inj {x y : Int32} (h : x.toInt = y.toInt) : x = y := Int32.toInt_inj.mp h
theorem nJ_of {x : Int32} (h : 0 ≤ x) : nI x.toNatClampNeg = x := by
  apply i_inj
  have h0 : (0 : Int) ≤ x.toInt := by simpa using Int32.le_iff_toInt_le.mp h
  have h1 := x.toInt_lt
  have h2 : x.toNatClampNeg = x.toInt.toNat := rfl
  rw [nI_toInt (by omega)]
  omega
theorem nI_ex {x : Int32} (h : 0 ≤ x) : ∃ n, n < 2 ^ 31 ∧ x = nI n := by
  refine ⟨x.toNatClampNeg, ?_, (nJ_of h).symm⟩
  have h1 := x.toInt_lt
  have h2 : x.toNatClampNeg = x.toInt.toNat := rfl
  omega
theorem i_nle {x y : Int32} (h : ¬ x ≤ y) : y < x := by
  rw [Int32.le_iff_toInt_le] at h; rw [Int32.lt_iff_toInt_lt]; omega
theorem i_nlt {x y : Int32} (h : ¬ x < y) : y ≤ x := by
  rw [Int32.lt_iff_toInt_lt] at h; rw [Int32.le_iff_toInt_le]; omega
theorem i_lt_nle {x y : Int32} (h : x < y) : ¬ y ≤ x := by
  rw [Int32.lt_iff_toInt_lt] at h; rw [Int32.le_iff_toInt_le]; omega
theorem i_le_nlt {x y : Int32} (h : x ≤ y) : ¬ y < x := by
  rw [Int32.le_iff_toInt_le] at h; rw [Int32.lt_iff_toInt_lt]; omega
theorem nI_div {a b : Nat} (ha : a < 2 ^ 31) (hb : b < 2 ^ 31) : nI a / nI b = nI (a / b) := by
  apply i_inj
  have h1 : a / b ≤ a := Nat.div_le_self a b
  rw [Int32.toInt_div, nI_toInt ha, nI_toInt hb, nI_toInt (by omega)]
  rw [show ((a : Int).tdiv (b : Int)) = ((a / b : Nat) : Int) from rfl]
  have h2 : (0 : Int) ≤ ((a / b : Nat) : Int) := Int.natCast_nonneg _
  have h3 : ((a / b : Nat) : Int) ≤ (a : Int) := Int.ofNat_le.mpr h1
  generalize ((a / b : Nat) : Int) = q at h2 h3
  apply Int.bmod_eq_of_le <;> omega
theorem nI_rem {a b : Nat} (ha : a < 2 ^ 31) (hb : b < 2 ^ 31) : nI a - nI a / nI b * nI b = nI (a % b) := by
  rw [nI_div ha hb, nI_mul, nI_sub (Nat.div_mul_le_self a b)]
  congr 1
  rw [Nat.mul_comm]
  exact (Nat.mod_eq_sub_mul_div).symm
theorem nI_dec {a : Nat} (h : 0 < a) : nI a + (-1) = nI (a - 1) := by
  have e : nI a = nI (a - 1) + 1 := by
    have := nI_succ (a - 1)
    rwa [show a - 1 + 1 = a by omega] at this
  rw [e, Int32.add_assoc, show (1 : Int32) + -1 = 0 by decide, Int32.add_zero]
theorem vp_inN {k n : Nat} (h : k < n) (hn : n < 2 ^ 31) : vp_in (nI k) n := nI_in h hn
theorem vp_nI {x : Int32} {n : Nat} (h : vp_in x n) : ∃ k, k < n ∧ x = nI k := by
  have h1 : ¬ x < 0 := fun q => h (Or.inl q)
  have h2 : ¬ n ≤ x.toNatClampNeg := fun q => h (Or.inr q)
  exact ⟨x.toNatClampNeg, by omega, (nJ_of (i_nlt h1)).symm⟩
section Trees
variable {c A B : Prop} {x y : Int32}
theorem tpos (h : c) (a : A) : (c → A) ∧ (¬ c → B) := ⟨fun _ => a, fun q => absurd h q⟩
theorem tneg (h : ¬ c) (b : B) : (c → A) ∧ (¬ c → B) := ⟨fun q => absurd q h, fun _ => b⟩
theorem tne (h : x ≠ y) (a : A) : (x ≠ y → A) ∧ (x = y → B) := ⟨fun _ => a, fun q => absurd q h⟩
theorem teq (h : x = y) (b : B) : (x ≠ y → A) ∧ (x = y → B) := ⟨fun q => absurd h q, fun _ => b⟩
theorem tEq (h : x = y) (a : A) : (x = y → A) ∧ (x ≠ y → B) := ⟨fun _ => a, fun q => absurd h q⟩
theorem tNe (h : x ≠ y) (b : B) : (x = y → A) ∧ (x ≠ y → B) := ⟨fun q => absurd q h, fun _ => b⟩
theorem tif [Decidable c] (h : if c then A else B) : (c → A) ∧ (¬ c → B) := ⟨fun q => by rwa [if_pos q] at h, fun q => by rwa [if_neg q] at h⟩
end Trees
/-! frames: what a call leaves as it was -/
abbrev Fr : Type := Nat → Nat → Bool
def Kp (S : Fr) (μ μ' : Mem) : Prop := μ'.2 = μ.2 ∧ ∀ a k, S a k = false → μ'.1 a k = μ.1 a k
theorem Kp.refl {S : Fr} {μ : Mem} : Kp S μ μ := ⟨rfl, fun _ _ _ => rfl⟩
theorem Kp.trans {S : Fr} {μ μ1 μ2 : Mem} (h : Kp S μ μ1) (k : Kp S μ1 μ2) : Kp S μ μ2 := ⟨k.1.trans h.1, fun a j q => (k.2 a j q).trans (h.2 a j q)⟩
theorem Kp.mono {S T : Fr} {μ μ' : Mem} (h : Kp S μ μ') (m : ∀ a k, T a k = false → S a k = false) : Kp T μ μ' := ⟨h.1, fun a k q => h.2 a k (m a k q)⟩
theorem Kp.at {S : Fr} {μ μ' : Mem} (h : Kp S μ μ') {a k : Nat} (q : S a k = false) : μ'.1 a k = μ.1 a k := h.2 a k q
theorem Kp.row {S : Fr} {μ μ' : Mem} (h : Kp S μ μ') {a : Nat} (q : ∀ k, S a k = false) : μ'.1 a = μ.1 a := funext fun k => h.2 a k (q k)
theorem Kp.sA {S : Fr} {μ : Mem} {a : Nat} {f : Nat → Int32} (h : ∀ k, S a k = true) : Kp S μ (sA μ a f) := by
  refine ⟨rfl, fun b k q => ?_⟩
  by_cases e : b = a
  · subst e
    rw [h k] at q
    cases q
  · rw [sA_n e]
theorem Kp.sI {S : Fr} {μ : Mem} {a k : Nat} {x : Int32} (h : S a k = true) : Kp S μ (sI μ a k x) := by
  refine ⟨rfl, fun b j q => ?_⟩
  by_cases e : b = a
  · subst e
    by_cases e2 : j = k
    · subst e2
      rw [h] at q
      cases q
    · exact sI_k e2
  · rw [sI_n e]
