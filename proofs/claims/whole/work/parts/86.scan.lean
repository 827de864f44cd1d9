/-! ===== read: the tokens ===== -/
section Rd
variable {d : Nat}
theorem lgc {x y : Int64} : lg_cmp x y = 0 ↔ x = y := by
  unfold lg_cmp
  constructor
  · intro h
    split at h
    · exact absurd h (by decide)
    · split at h
      · assumption
      · exact absurd h (by decide)
  · intro h
    rw [if_neg (by rw [h]; exact Int64.lt_irrefl), if_pos h]
abbrev lI (n : Nat) : Int64 := Int64.ofNat n
theorem lI_bv (n : Nat) : (lI n).toBitVec = BitVec.ofNat 64 n := rfl
theorem lI_inj {a b : Nat} (ha : a < 2 ^ 63) (hb : b < 2 ^ 63) (h : lI a = lI b) : a = b := by
  have e : (lI a).toBitVec.toNat = (lI b).toBitVec.toNat := by rw [h]
  rw [lI_bv, lI_bv, BitVec.toNat_ofNat, BitVec.toNat_ofNat, Nat.mod_eq_of_lt (by omega), Nat.mod_eq_of_lt (by omega)] at e
  exact e
theorem lI_add (a b : Nat) : lI a + lI b = lI (a + b) := (Int64.ofNat_add a b).symm
theorem lI_mul (a b : Nat) : lI a * lI b = lI (a * b) := (Int64.ofNat_mul a b).symm
theorem lI_n {n : Nat} (h : n < 2 ^ 31) : (nI n).toInt64 = lI n := nI_l h
theorem nm_snoc {B : Nat} {cs : List Nat} {c : Nat} : nm B (cs ++ [c]) = nm B cs * B + c := by
  unfold nm
  rw [List.foldl_append]
  rfl
def dgs (B : Nat) (cs : List Nat) : Prop := ∀ c ∈ cs, 1 ≤ c ∧ c < B
theorem nm_inj {B : Nat} (hB : 0 < B) : ∀ (n : Nat) (cs ds : List Nat), cs.length = n → dgs B cs → dgs B ds → nm B cs = nm B ds → cs = ds
  | 0, cs, ds, hn, h1, h2, e => by
    have : cs = [] := List.length_eq_zero_iff.mp hn
    subst this
    rcases List.eq_nil_or_concat ds with z | ⟨l, c, z⟩
    · exact z.symm
    · rw [z, List.concat_eq_append, nm_snoc] at e
      have hc := h2 c (by rw [z, List.concat_eq_append]; exact List.mem_append_right _ (List.mem_singleton.mpr rfl))
      have e : 0 = nm B l * B + c := e
      omega
  | n + 1, cs, ds, hn, h1, h2, e => by
    rcases List.eq_nil_or_concat cs with z | ⟨l, c, z⟩
    · rw [z] at hn
      cases hn
    · rw [List.concat_eq_append] at z
      subst z
      have hc := h1 c (List.mem_append_right _ (List.mem_singleton.mpr rfl))
      rcases List.eq_nil_or_concat ds with y | ⟨l', c', y⟩
      · rw [y, nm_snoc] at e
        have e : nm B l * B + c = 0 := e
        omega
      · rw [List.concat_eq_append] at y
        subst y
        have hc' := h2 c' (List.mem_append_right _ (List.mem_singleton.mpr rfl))
        rw [nm_snoc, nm_snoc] at e
        have e1 : c = c' := by
          have := congrArg (· % B) e
          simp only [Nat.mul_add_mod_self_right, Nat.mod_eq_of_lt hc.2, Nat.mod_eq_of_lt hc'.2] at this
          exact this
        subst e1
        have e2 : nm B l = nm B l' := Nat.eq_of_mul_eq_mul_right hB (Nat.add_right_cancel e)
        rw [nm_inj hB n l l' (by rw [List.length_append] at hn; exact Nat.succ.inj hn) (fun x hx => h1 x (List.mem_append_left _ hx)) (fun x hx => h2 x (List.mem_append_left _ hx)) e2]
theorem nm_lt {B : Nat} : ∀ (n : Nat) (cs : List Nat), cs.length = n → dgs B cs → nm B cs < B ^ n
  | 0, cs, hn, _ => by
    have : cs = [] := List.length_eq_zero_iff.mp hn
    subst this
    show 0 < B ^ 0
    rw [Nat.pow_zero]; decide
  | n + 1, cs, hn, h => by
    rcases List.eq_nil_or_concat cs with z | ⟨l, c, z⟩
    · rw [z] at hn
      cases hn
    · rw [List.concat_eq_append] at z
      subst z
      have hc := h c (List.mem_append_right _ (List.mem_singleton.mpr rfl))
      have ih := nm_lt n l (by rw [List.length_append] at hn; exact Nat.succ.inj hn) (fun x hx => h x (List.mem_append_left _ hx))
      rw [nm_snoc, Nat.pow_succ]
      have : (nm B l + 1) * B ≤ B ^ n * B := Nat.mul_le_mul_right B ih
      rw [Nat.succ_mul] at this
      omega
theorem nm63 {B : Nat} {cs : List Nat} (hB : B ≤ 32) (hB0 : 0 < B) (hn : cs.length ≤ 8) (h : dgs B cs) : nm B cs < 2 ^ 63 := by
  have a := nm_lt cs.length cs rfl h
  have b : B ^ cs.length ≤ 32 ^ cs.length := Nat.pow_le_pow_left hB _
  have c : 32 ^ cs.length ≤ 32 ^ 8 := Nat.pow_le_pow_right (by decide) hn
  have e : 32 ^ 8 < 2 ^ 63 := by decide
  omega
/-! the words -/
theorem wd_ok : ∀ k, k < 21 → (wdL.getD k []).length ≤ 7 ∧ 1 ≤ (wdL.getD k []).length ∧ ((wdL.getD k []).all fun c => decide (1 ≤ c ∧ c < 27)) = true := by decide
theorem wd_ne : ∀ i, i < 21 → ∀ j, j < 21 → wdL.getD i [] = wdL.getD j [] → i = j := by decide +kernel
theorem wd_dgs {k B : Nat} (hk : k < 21) (hB : 27 ≤ B) : dgs B (wdL.getD k []) := fun c hc => by
  have := of_decide_eq_true (List.all_eq_true.mp (wd_ok k hk).2.2 c hc)
  omega
def wkF (cs : List Nat) : Nat → Nat → Nat
  | 0, _ => 21
  | m + 1, k => if wdL.getD k [] = cs then k else wkF cs m (k + 1)
theorem wkF_long {cs : List Nat} (h : 8 ≤ cs.length) : ∀ m k, k + m = 21 → wkF cs m k = 21
  | 0, _, _ => rfl
  | m + 1, k, hk => by
    rw [wkF, if_neg, wkF_long h m (k + 1) (by omega)]
    intro e
    have := (wd_ok k (by omega)).1
    rw [e] at this
    omega
theorem wkF_le {cs : List Nat} : ∀ m k, k + m = 21 → wkF cs m k ≤ 21
  | 0, _, _ => Nat.le_refl _
  | m + 1, k, hk => by
    rw [wkF]
    split
    · omega
    · exact wkF_le m (k + 1) (by omega)
/-- the model's number of a kind -/
def mk (k : Nat) : Nat := if k ≤ 20 then 20 + k else ([1, 2, 4, 5, 8, 9, 10, 15, 13, 6, 7, 0, 3]).getD (k - 21) 3
theorem mk_inj : ∀ i, i < 34 → ∀ j, j < 34 → mk i = mk j → i = j := by decide +kernel
theorem mk_lt : ∀ i, i < 34 → mk i ≤ 40 := by decide
/-! memory with longs -/
theorem sJ_i {μ : Mem} {a k : Nat} {x : Int64} : (sJ μ a k x).1 = μ.1 := rfl
theorem sJ_p {μ : Mem} {a k : Nat} {x : Int64} : (sJ μ a k x).2.2 = μ.2.2 := rfl
theorem sJ_at {μ : Mem} {a k : Nat} {x : Int64} : (sJ μ a k x).2.1 a k = x := by
  rw [sJ_1]
  exact if_pos rfl
theorem sJ_k {μ : Mem} {a k j : Nat} {x : Int64} (h : j ≠ k) : (sJ μ a k x).2.1 a j = μ.2.1 a j := by
  rw [sJ_1]
  exact if_neg h
theorem sJ_n {μ : Mem} {a b k : Nat} {x : Int64} (h : b ≠ a) : (sJ μ a k x).2.1 b = μ.2.1 b := up_ne h
def Kz (S : Nat → Nat → Prop) (T : Nat → Prop) (μ μ' : Mem) : Prop := (∀ a k, ¬ S a k → μ'.1 a k = μ.1 a k) ∧ (∀ a, ¬ T a → μ'.2.1 a = μ.2.1 a) ∧ μ'.2.2 = μ.2.2
theorem Kz.refl {S : Nat → Nat → Prop} {T : Nat → Prop} {μ : Mem} : Kz S T μ μ := ⟨fun _ _ _ => rfl, fun _ _ => rfl, rfl⟩
theorem Kz.trans {S : Nat → Nat → Prop} {T : Nat → Prop} {μ μ1 μ2 : Mem} (h : Kz S T μ μ1) (k : Kz S T μ1 μ2) : Kz S T μ μ2 := ⟨fun a j q => (k.1 a j q).trans (h.1 a j q), fun a q => (k.2.1 a q).trans (h.2.1 a q), k.2.2.trans h.2.2⟩
theorem Kz.mono {S S' : Nat → Nat → Prop} {T T' : Nat → Prop} {μ μ' : Mem} (h : Kz S T μ μ') (m : ∀ a k, S a k → S' a k) (n : ∀ a, T a → T' a) : Kz S' T' μ μ' := ⟨fun a k q => h.1 a k fun z => q (m a k z), fun a q => h.2.1 a fun z => q (n a z), h.2.2⟩
theorem Kz.sI {S : Nat → Nat → Prop} {T : Nat → Prop} {μ : Mem} {a k : Nat} {x : Int32} (h : S a k) : Kz S T μ (sI μ a k x) := by
  refine ⟨fun b j q => ?_, fun _ _ => rfl, rfl⟩
  by_cases e : b = a
  · subst e
    by_cases e2 : j = k
    · subst e2
      exact absurd h q
    · exact sI_k e2
  · rw [sI_n e]
theorem Kz.sJ {S : Nat → Nat → Prop} {T : Nat → Prop} {μ : Mem} {a k : Nat} {x : Int64} (h : T a) : Kz S T μ (sJ μ a k x) := ⟨fun _ _ _ => rfl, fun b q => sJ_n fun e => q (e ▸ h), rfl⟩
theorem Kz.at {S : Nat → Nat → Prop} {T : Nat → Prop} {μ μ' : Mem} (h : Kz S T μ μ') {a k : Nat} (q : ¬ S a k) : μ'.1 a k = μ.1 a k := h.1 a k q
theorem Kz.lg {S : Nat → Nat → Prop} {T : Nat → Prop} {μ μ' : Mem} (h : Kz S T μ μ') {a : Nat} (q : ¬ T a) : μ'.2.1 a = μ.2.1 a := h.2.1 a q
/-! bytes -/
theorem by_pos : ∀ k, k < 128 → nI k &&& 255 = nI k := by decide +kernel
theorem by_neg : ∀ j, j < 129 → 1 ≤ j → (-(nI j)) &&& 255 = nI (256 - j) := by decide +kernel
theorem by_cases' {v : Int32} (h : isByte v) : (∃ k, k < 128 ∧ v = nI k) ∨ (v < 0 ∧ ∃ k, 128 ≤ k ∧ k < 256 ∧ v &&& 255 = nI k) := by
  obtain ⟨h1, h2⟩ := h
  by_cases q : v < 0
  · right
    refine ⟨q, 256 - (-v.toInt).toNat, ?_⟩
    have q' : v.toInt < 0 := by
      have := Int32.lt_iff_toInt_lt.mp q
      simpa using this
    have e : v = -(nI (-v.toInt).toNat) := by
      apply i_inj
      rw [Int32.toInt_neg, nI_toInt (by omega), Int.bmod_eq_of_le (by omega) (by omega)]
      omega
    have b := by_neg (-v.toInt).toNat (by omega) (by omega)
    rw [← e] at b
    exact ⟨by omega, by omega, b⟩
  · left
    obtain ⟨k, hk, rfl⟩ := nI_ex (i_nlt q)
    rw [nI_toInt hk] at h2
    exact ⟨k, by omega, rfl⟩
section
variable {S : Nat} {By : Nat → Int32}
/-- both have the same text -/
def TxC (S : Nat) (By : Nat → Int32) (μ : Mem) : Prop := ∀ k, k < S → μ.1 1 k = By k
def TxM (S : Nat) (By : Nat → Int32) (μ : Mem) : Prop := μ.1 0 4 = nI S ∧ ∀ k, k < S → μ.1 2 k = By k
def ByOK (S : Nat) (By : Nat → Int32) : Prop := S ≤ 2000 ∧ ∀ k, k < S → isByte (By k)
/-- letters from i on -/
def bn (By : Nat → Int32) (k : Nat) : Nat := (By k).toNatClampNeg
def isL (By : Nat → Int32) (k : Nat) : Prop := By k = nI (bn By k) ∧ 97 ≤ bn By k ∧ bn By k ≤ 122
def isD (By : Nat → Int32) (k : Nat) : Prop := By k = nI (bn By k) ∧ 48 ≤ bn By k ∧ bn By k ≤ 57
def lts (By : Nat → Int32) (i : Nat) : Nat → List Nat
  | 0 => []
  | n + 1 => lts By i n ++ [bn By (i + n) - 96]
theorem lts_len {i : Nat} : ∀ n, (lts By i n).length = n
  | 0 => rfl
  | n + 1 => by
    show (lts By i n ++ [bn By (i + n) - 96]).length = n + 1
    rw [List.length_append, lts_len n]
    rfl
theorem lts_dg {i B : Nat} (hB : 27 ≤ B) : ∀ n, (∀ j, j < n → isL By (i + j)) → dgs B (lts By i n)
  | 0, _ => fun c hc => absurd hc List.not_mem_nil
  | n + 1, h => fun c hc => by
    rcases List.mem_append.mp hc with q | q
    · exact lts_dg hB n (fun j hj => h j (by omega)) c q
    · have hn := h n (by omega)
      rw [List.mem_singleton.mp q]
      obtain ⟨_, a, b⟩ := hn
      omega
def dv (By : Nat → Int32) (i : Nat) : Nat → Nat
  | 0 => 0
  | n + 1 => dv By i n * 10 + (bn By (i + n) - 48)
theorem dv_lt {i : Nat} : ∀ n, (∀ j, j < n → isD By (i + j)) → dv By i n < 10 ^ n
  | 0, _ => by show 0 < 10 ^ 0; decide
  | n + 1, h => by
    have ih := dv_lt n fun j hj => h j (by omega)
    obtain ⟨_, a, b⟩ := h n (by omega)
    show dv By i n * 10 + (bn By (i + n) - 48) < 10 ^ (n + 1)
    rw [Nat.pow_succ]
    omega
/-- how far a run goes -/
theorem run_ex (p : Nat → Prop) : ∀ m i, i + m = S → ∃ n, i + n ≤ S ∧ (∀ j, j < n → p (i + j)) ∧ (i + n = S ∨ ¬ p (i + n))
  | 0, i, h => ⟨0, by omega, fun j hj => by omega, Or.inl (by omega)⟩
  | m + 1, i, h => by
    rcases Classical.em (p i) with q | q
    · obtain ⟨n, n1, n2, n3⟩ := run_ex p m (i + 1) (by omega)
      refine ⟨n + 1, by omega, fun j hj => ?_, ?_⟩
      · cases j with
        | zero => exact q
        | succ j =>
          have := n2 j (by omega)
          rwa [show i + 1 + j = i + (j + 1) by omega] at this
      · rw [show i + 1 + n = i + (n + 1) by omega] at n3
        exact n3
    · exact ⟨0, by omega, fun j hj => by omega, Or.inr q⟩
theorem letter_c {k : Nat} {μ : Mem} (hb : isByte (By k)) : ∃ y, X6_isLetter d (By k) μ y μ ∧ (y ≠ 0 ↔ isL By k) := by
  rcases by_cases' hb with ⟨c, c1, c2⟩ | ⟨c1, _⟩
  · have eb : bn By k = c := by unfold bn; rw [c2]; exact nI_clamp (by omega)
    unfold isL
    rw [eb, c2]
    by_cases q1 : c < 97
    · exact ⟨0, X6_isLetter_ok (tpos (nI_lt (b := 97) q1 (by decide)) ⟨rfl, rfl⟩), ⟨fun z => absurd rfl z, fun z => by omega⟩⟩
    · by_cases q2 : 122 < c
      · exact ⟨0, X6_isLetter_ok (tneg (nI_nlt (b := 97) (by omega) (by omega)) (tpos (nI_lt (a := 122) q2 (by omega)) ⟨rfl, rfl⟩)), ⟨fun z => absurd rfl z, fun z => by omega⟩⟩
      · exact ⟨1, X6_isLetter_ok (tneg (nI_nlt (b := 97) (by omega) (by omega)) (tneg (nI_nlt (a := 122) (by omega) (by decide)) ⟨rfl, rfl⟩)), ⟨fun _ => ⟨rfl, by omega, by omega⟩, fun _ => by decide⟩⟩
  · refine ⟨0, X6_isLetter_ok (tpos ?_ ⟨rfl, rfl⟩), ⟨fun z => absurd rfl z, fun z => ?_⟩⟩
    · rw [Int32.lt_iff_toInt_lt] at c1 ⊢
      have : (0 : Int32).toInt = 0 := rfl
      have : (97 : Int32).toInt = 97 := by decide
      omega
    · rw [z.1] at c1
      exact absurd c1 (nI_pos (by have := z.2.2; omega))
theorem digit_c {k : Nat} {μ : Mem} (hb : isByte (By k)) : ∃ y, X6_isDigit d (By k) μ y μ ∧ (y ≠ 0 ↔ isD By k) := by
  rcases by_cases' hb with ⟨c, c1, c2⟩ | ⟨c1, _⟩
  · have eb : bn By k = c := by unfold bn; rw [c2]; exact nI_clamp (by omega)
    unfold isD
    rw [eb, c2]
    by_cases q1 : c < 48
    · exact ⟨0, X6_isDigit_ok (tpos (nI_lt (b := 48) q1 (by decide)) ⟨rfl, rfl⟩), ⟨fun z => absurd rfl z, fun z => by omega⟩⟩
    · by_cases q2 : 57 < c
      · exact ⟨0, X6_isDigit_ok (tneg (nI_nlt (b := 48) (by omega) (by omega)) (tpos (nI_lt (a := 57) q2 (by omega)) ⟨rfl, rfl⟩)), ⟨fun z => absurd rfl z, fun z => by omega⟩⟩
      · exact ⟨1, X6_isDigit_ok (tneg (nI_nlt (b := 48) (by omega) (by omega)) (tneg (nI_nlt (a := 57) (by omega) (by decide)) ⟨rfl, rfl⟩)), ⟨fun _ => ⟨rfl, by omega, by omega⟩, fun _ => by decide⟩⟩
  · refine ⟨0, X6_isDigit_ok (tpos ?_ ⟨rfl, rfl⟩), ⟨fun z => absurd rfl z, fun z => ?_⟩⟩
    · rw [Int32.lt_iff_toInt_lt] at c1 ⊢
      have : (0 : Int32).toInt = 0 := rfl
      have : (48 : Int32).toInt = 48 := by decide
      omega
    · rw [z.1] at c1
      exact absurd c1 (nI_pos (by have := z.2.2; omega))
/-- the model's byte: its unsigned number, 0 behind the end -/
def bu (S : Nat) (By : Nat → Int32) (k : Nat) : Nat := if k < S then ((By k) &&& 255).toNatClampNeg else 0
theorem bu_at {k : Nat} (hk : k < S) (hb : isByte (By k)) : (By k) &&& 255 = nI (bu S By k) ∧ bu S By k < 256 ∧ ((By k = nI (bn By k) ∧ bu S By k = bn By k ∧ bn By k < 128) ∨ (By k < 0 ∧ 128 ≤ bu S By k)) := by
  unfold bu
  rw [if_pos hk]
  rcases by_cases' hb with ⟨c, c1, c2⟩ | ⟨c1, c, c2, c3, c4⟩
  · have eb : bn By k = c := by unfold bn; rw [c2]; exact nI_clamp (by omega)
    rw [eb, c2, by_pos c c1, nI_clamp (by omega)]
    exact ⟨rfl, by omega, Or.inl ⟨rfl, rfl, c1⟩⟩
  · rw [c4, nI_clamp (by omega)]
    exact ⟨rfl, c3, Or.inr ⟨c1, c2⟩⟩
theorem byteAt_m {k : Nat} {μ : Mem} (hT : TxM S By μ) (hO : ByOK S By) (hk : k < 2 ^ 31) : X10_byteAt d (nI k) μ (nI (bu S By k)) μ ∧ bu S By k < 256 := by
  have h2 := hO.1
  by_cases q : k < S
  · obtain ⟨e1, e2, _⟩ := bu_at q (hO.2 k q)
    refine ⟨X10_byteAt_ok ?_, e2⟩
    rw [hT.1]
    refine tneg (nI_ge q (by omega)) ⟨vp_inN (by omega) (by decide), ?_, rfl⟩
    rw [nI_clamp hk, hT.2 k q, e1]
  · have e : bu S By k = 0 := by unfold bu; rw [if_neg q]
    rw [e]
    refine ⟨X10_byteAt_ok ?_, by decide⟩
    rw [hT.1]
    exact tpos (nI_le (by omega) hk) ⟨rfl, rfl⟩
theorem isL_bu {k : Nat} (hO : ByOK S By) : (k < S ∧ isL By k) ↔ (97 ≤ bu S By k ∧ bu S By k ≤ 122) := by
  constructor
  · rintro ⟨h, l1, l2, l3⟩
    rcases (bu_at h (hO.2 k h)).2.2 with ⟨_, e, _⟩ | ⟨c, _⟩
    · omega
    · rw [l1] at c
      exact absurd c (nI_pos (by omega))
  · intro h
    by_cases q : k < S
    · rcases (bu_at q (hO.2 k q)).2.2 with ⟨e1, e, _⟩ | ⟨_, c⟩
      · exact ⟨q, e1, by omega, by omega⟩
      · omega
    · unfold bu at h
      rw [if_neg q] at h
      omega
theorem isD_bu {k : Nat} (hO : ByOK S By) : (k < S ∧ isD By k) ↔ (48 ≤ bu S By k ∧ bu S By k ≤ 57) := by
  constructor
  · rintro ⟨h, l1, l2, l3⟩
    rcases (bu_at h (hO.2 k h)).2.2 with ⟨_, e, _⟩ | ⟨c, _⟩
    · omega
    · rw [l1] at c
      exact absurd c (nI_pos (by omega))
  · intro h
    by_cases q : k < S
    · rcases (bu_at q (hO.2 k q)).2.2 with ⟨e1, e, _⟩ | ⟨_, c⟩
      · exact ⟨q, e1, by omega, by omega⟩
      · omega
    · unfold bu at h
      rw [if_neg q] at h
      omega
theorem letter_m {c : Nat} {μ : Mem} (hc : c < 256) : ∃ y, X10_isLetter d (nI c) μ y μ ∧ (y ≠ 0 ↔ (97 ≤ c ∧ c ≤ 122)) := by
  by_cases q1 : c < 97
  · exact ⟨0, X10_isLetter_ok (tpos (nI_lt (b := 97) q1 (by decide)) ⟨rfl, rfl⟩), ⟨fun z => absurd rfl z, fun z => by omega⟩⟩
  · by_cases q2 : 122 < c
    · exact ⟨0, X10_isLetter_ok (tneg (nI_nlt (b := 97) (by omega) (by omega)) (tpos (nI_lt (a := 122) q2 (by omega)) ⟨rfl, rfl⟩)), ⟨fun z => absurd rfl z, fun z => by omega⟩⟩
    · exact ⟨1, X10_isLetter_ok (tneg (nI_nlt (b := 97) (by omega) (by omega)) (tneg (nI_nlt (a := 122) (by omega) (by decide)) ⟨rfl, rfl⟩)), ⟨fun _ => ⟨by omega, by omega⟩, fun _ => by decide⟩⟩
theorem digit_m {c : Nat} {μ : Mem} (hc : c < 256) : ∃ y, X10_isDigit d (nI c) μ y μ ∧ (y ≠ 0 ↔ (48 ≤ c ∧ c ≤ 57)) := by
  by_cases q1 : c < 48
  · exact ⟨0, X10_isDigit_ok (tpos (nI_lt (b := 48) q1 (by decide)) ⟨rfl, rfl⟩), ⟨fun z => absurd rfl z, fun z => by omega⟩⟩
  · by_cases q2 : 57 < c
    · exact ⟨0, X10_isDigit_ok (tneg (nI_nlt (b := 48) (by omega) (by omega)) (tpos (nI_lt (a := 57) q2 (by omega)) ⟨rfl, rfl⟩)), ⟨fun z => absurd rfl z, fun z => by omega⟩⟩
    · exact ⟨1, X10_isDigit_ok (tneg (nI_nlt (b := 48) (by omega) (by omega)) (tneg (nI_nlt (a := 57) (by omega) (by decide)) ⟨rfl, rfl⟩)), ⟨fun _ => ⟨by omega, by omega⟩, fun _ => by decide⟩⟩
/-! tokens on both sides -/
abbrev Tk : Type := Nat × Nat × Nat × List Nat
def TkOK (q : Tk) (i : Nat) (μC μM : Mem) : Prop := q.1 ≤ 33 ∧ q.2.1 ≤ 2000 ∧ μC.1 5 i = nI q.1 ∧ μM.1 3 i = nI (mk q.1) ∧ μC.1 6 i = nI q.2.1 ∧ μM.1 4 i = nI q.2.1 ∧ (q.1 = 22 → q.2.2.1 ≤ 9999 ∧ μC.2.1 7 i = lI q.2.2.1 ∧ μM.1 5 i = nI q.2.2.1) ∧ (q.1 = 21 → 1 ≤ q.2.2.2.length ∧ q.2.2.2.length ≤ 8 ∧ dgs 27 q.2.2.2 ∧ μC.2.1 7 i = lI (nm 32 q.2.2.2) ∧ μM.2.1 6 i = lI (nm 27 q.2.2.2))
def TkR (M : Nat) (T : Nat → Tk) (μC μM : Mem) : Prop := ∀ i, i < M → TkOK (T i) i μC μM
/-- while the text is cut up: M tokens lie ahead of place i -/
def TkS (M i : Nat) (T : Nat → Tk) (μC μM : Mem) : Prop := M ≤ 401 ∧ μC.1 3 4 = nI M ∧ μM.1 0 10 = nI M ∧ TkR M T μC μM ∧ (∀ j, j < M → (T j).1 ≠ 32 ∧ (T j).2.1 < i) ∧ ∀ j k, j < k → k < M → (T j).2.1 < (T k).2.1
def tkC (a k : Nat) : Prop := (a = 3 ∧ k = 4) ∨ a = 5 ∨ a = 6
def tkM (a k : Nat) : Prop := (a = 0 ∧ k = 10) ∨ a = 3 ∨ a = 4 ∨ a = 5
def putC' (M kd pl : Nat) (v : Int64) (μ : Mem) : Mem := sI (sJ (sI (sI μ 5 M (nI kd)) 6 M (nI pl)) 7 M v) 3 4 (nI (M + 1))
def putM' (M kd pl vl : Nat) (v : Int64) (μ : Mem) : Mem := sI (sJ (sI (sI (sI μ 3 M (nI (mk kd))) 4 M (nI pl)) 5 M (nI vl)) 6 M v) 0 10 (nI (M + 1))
theorem put_cc {M kd pl : Nat} {v : Int64} {μ : Mem} (hM : M ≤ 400) (h : μ.1 3 4 = nI M) : X6_put d (nI kd) (nI pl) v μ (putC' M kd pl v μ) := by
  refine X6_put_ok ?_
  rw [h]
  refine tneg (nI_nlt (a := 400) hM (by decide)) ⟨vp_inN (by omega) (by decide), ?_⟩
  rintro μ1 rfl
  rw [sI_n (show 3 ≠ 5 by decide), h, nI_clamp (by omega)]
  refine ⟨vp_inN (by omega) (by decide), ?_⟩
  rintro μ2 rfl
  rw [sI_n (show 3 ≠ 6 by decide), sI_n (show 3 ≠ 5 by decide), h, nI_clamp (by omega)]
  refine ⟨vp_inN (by omega) (by decide), ?_⟩
  rintro μ3 rfl μ4 rfl
  rw [sJ_i, sI_n (show 3 ≠ 6 by decide), sI_n (show 3 ≠ 5 by decide), h, nI_1]
  rfl
theorem token_mm {M kd pl vl : Nat} {v : Int64} {μ : Mem} (hM : M ≤ 400) (h : μ.1 0 10 = nI M) : X10_token d (nI (mk kd)) (nI pl) (nI vl) v μ (putM' M kd pl vl v μ) := by
  refine X10_token_ok ?_
  rw [h]
  refine ⟨vp_inN (by omega) (by decide), ?_⟩
  rintro μ1 rfl
  rw [sI_n (show 0 ≠ 3 by decide), h, nI_clamp (by omega)]
  refine ⟨vp_inN (by omega) (by decide), ?_⟩
  rintro μ2 rfl
  rw [sI_n (show 0 ≠ 4 by decide), sI_n (show 0 ≠ 3 by decide), h, nI_clamp (by omega)]
  refine ⟨vp_inN (by omega) (by decide), ?_⟩
  rintro μ3 rfl
  rw [sI_n (show 0 ≠ 5 by decide), sI_n (show 0 ≠ 4 by decide), sI_n (show 0 ≠ 3 by decide), h, nI_clamp (by omega)]
  refine ⟨vp_inN (by omega) (by decide), ?_⟩
  rintro μ4 rfl μ5 rfl
  rw [sJ_i, sI_n (show 0 ≠ 5 by decide), sI_n (show 0 ≠ 4 by decide), sI_n (show 0 ≠ 3 by decide), h, nI_1]
  rfl
theorem putC_k {M kd pl : Nat} {v : Int64} {μ : Mem} : Kz tkC (fun a => a = 7) μ (putC' M kd pl v μ) := by
  unfold putC'
  refine Kz.trans (Kz.trans (Kz.trans (Kz.sI ?_) (Kz.sI ?_)) (Kz.sJ ?_)) (Kz.sI ?_)
  · unfold tkC; omega
  · unfold tkC; omega
  · rfl
  · unfold tkC; omega
theorem putM_k {M kd pl vl : Nat} {v : Int64} {μ : Mem} : Kz tkM (fun a => a = 6) μ (putM' M kd pl vl v μ) := by
  unfold putM'
  refine Kz.trans (Kz.trans (Kz.trans (Kz.trans (Kz.sI ?_) (Kz.sI ?_)) (Kz.sI ?_)) (Kz.sJ ?_)) (Kz.sI ?_)
  · unfold tkM; omega
  · unfold tkM; omega
  · unfold tkM; omega
  · rfl
  · unfold tkM; omega
def tkUp (T : Nat → Tk) (M : Nat) (q : Tk) : Nat → Tk := fun j => if j = M then q else T j
theorem tkUp_s {T : Nat → Tk} {M : Nat} {q : Tk} : tkUp T M q M = q := if_pos rfl
theorem tkUp_n {T : Nat → Tk} {M j : Nat} {q : Tk} (h : j ≠ M) : tkUp T M q j = T j := if_neg h
theorem tk_put {M i i' kd pl vl : Nat} {cs : List Nat} {T : Nat → Tk} {vC vM : Int64} {μC μM : Mem} (h : TkS M i T μC μM) (hM : M ≤ 400) (hk : kd ≤ 33) (hp : pl ≤ 2000) (h22 : kd = 22 → vl ≤ 9999 ∧ vC = lI vl) (h21 : kd = 21 → 1 ≤ cs.length ∧ cs.length ≤ 8 ∧ dgs 27 cs ∧ vC = lI (nm 32 cs) ∧ vM = lI (nm 27 cs)) (h32 : kd ≠ 32) (hii : i ≤ pl ∧ pl < i') :
    TkS (M + 1) i' (tkUp T M (kd, pl, vl, cs)) (putC' M kd pl vC μC) (putM' M kd pl vl vM μM) := by
  obtain ⟨h1, h2, h3, h4, h5, h6⟩ := h
  refine ⟨by omega, by unfold putC'; exact sI_1, by unfold putM'; exact sI_1, fun j hj => ?_, fun j hj => ?_, fun j k hjk hk' => ?_⟩
  · by_cases e : j = M
    · subst e
      rw [tkUp_s]
      refine ⟨hk, hp, ?_, ?_, ?_, ?_, fun z => ⟨(h22 z).1, ?_, ?_⟩, fun z => ?_⟩
      · unfold putC'
        rw [sI_n (by decide), sJ_i, sI_n (by decide), sI_1]
      · unfold putM'
        rw [sI_n (by decide), sJ_i, sI_n (by decide), sI_n (by decide), sI_1]
      · unfold putC'
        rw [sI_n (by decide), sJ_i, sI_1]
      · unfold putM'
        rw [sI_n (by decide), sJ_i, sI_n (by decide), sI_1]
      · unfold putC'
        rw [sI_2, sJ_at]
        exact (h22 z).2
      · unfold putM'
        rw [sI_n (by decide), sJ_i, sI_1]
      · obtain ⟨c1, c2, c3, c4, c5⟩ := h21 z
        refine ⟨c1, c2, c3, ?_, ?_⟩
        · unfold putC'
          rw [sI_2, sJ_at]
          exact c4
        · unfold putM'
          rw [sI_2, sJ_at]
          exact c5
    · rw [tkUp_n e]
      obtain ⟨t1, t2, t3, t4, t5, t6, t7, t8⟩ := h4 j (by omega)
      refine ⟨t1, t2, ?_, ?_, ?_, ?_, fun z => ⟨(t7 z).1, ?_, ?_⟩, fun z => ?_⟩
      · unfold putC'
        rw [sI_n (by decide), sJ_i, sI_n (by decide), sI_k e]; exact t3
      · unfold putM'
        rw [sI_n (by decide), sJ_i, sI_n (by decide), sI_n (by decide), sI_k e]; exact t4
      · unfold putC'
        rw [sI_n (by decide), sJ_i, sI_k e, sI_n (by decide)]; exact t5
      · unfold putM'
        rw [sI_n (by decide), sJ_i, sI_n (by decide), sI_k e, sI_n (by decide)]; exact t6
      · unfold putC'
        rw [sI_2, sJ_k e, sI_2, sI_2]; exact (t7 z).2.1
      · unfold putM'
        rw [sI_n (by decide), sJ_i, sI_k e, sI_n (by decide), sI_n (by decide)]; exact (t7 z).2.2
      · obtain ⟨c1, c2, c3, c4, c5⟩ := t8 z
        refine ⟨c1, c2, c3, ?_, ?_⟩
        · unfold putC'
          rw [sI_2, sJ_k e, sI_2, sI_2]; exact c4
        · unfold putM'
          rw [sI_2, sJ_k e, sI_2, sI_2, sI_2]; exact c5
  · by_cases e : j = M
    · rw [e, tkUp_s]
      exact ⟨h32, hii.2⟩
    · rw [tkUp_n e]
      have := h5 j (by omega)
      exact ⟨this.1, by omega⟩
  · by_cases e : k = M
    · rw [tkUp_n (show j ≠ M by omega), e, tkUp_s]
      have := (h5 j (by omega)).2
      show (T j).2.1 < pl
      omega
    · rw [tkUp_n (show j ≠ M by omega), tkUp_n e]
      exact h6 j k hjk (by omega)
end
end Rd
