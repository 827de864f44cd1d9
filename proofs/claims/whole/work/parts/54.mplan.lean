/-! ===== a plan, and the model that holds it ===== -/
def inN (x : Int32) (n : Nat) : Bool := !(decide (x < 0) || decide (n ≤ x.toNatClampNeg))
def bI (b : Bool) : Int32 := if b then 1 else 0
theorem bI_B (b : Bool) : isB (bI b) := by cases b; exact Or.inl rfl; exact Or.inr rfl
theorem inN_iff {x : Int32} {n : Nat} : inN x n = true ↔ vp_in x n := by
  unfold inN vp_in
  simp
theorem inN_nI {k n : Nat} (hk : k < 2 ^ 31) : inN (nI k) n = decide (k < n) := by
  unfold inN
  rw [nI_clamp hk, decide_eq_false (nI_pos hk)]
  by_cases q : k < n
  · rw [decide_eq_true q, decide_eq_false (by omega)]
    rfl
  · rw [decide_eq_false q, decide_eq_true (by omega)]
    rfl
theorem inN_false {x : Int32} {n : Nat} (h : inN x n = false) : ¬ vp_in x n := fun q => by rw [inN_iff.mpr q] at h; cases h
theorem inI_N {x : Int32} {n : Nat} (hn : n < 2 ^ 31) : inI x 0 (nI n - 1) = bI (inN x n) := by
  unfold inI
  by_cases h : x < 0
  · rw [if_pos h]
    have : inN x n = false := by unfold inN; rw [decide_eq_true h]; rfl
    rw [this]
    rfl
  · rw [if_neg h]
    obtain ⟨k, hk, rfl⟩ := nI_ex (i_nlt h)
    rw [inN_nI hk]
    rcases Nat.eq_zero_or_pos n with rfl | hp
    · rw [decide_eq_false (by omega), if_pos]
      · rfl
      · rw [Int32.lt_iff_toInt_lt, nI_toInt hk, show (nI 0 - 1 : Int32).toInt = -1 by decide]
        omega
    · have e : nI n - 1 = nI (n - 1) := nI_sub (b := 1) hp
      rw [e]
      by_cases q : k < n
      · rw [if_neg (nI_nlt (by omega) (by omega)), decide_eq_true q]
        rfl
      · rw [if_pos (nI_lt (by omega) hk), decide_eq_false q]
        rfl
abbrev Pl : Type := (Nat × Nat × Nat × Nat) × (Nat × Nat × Nat) × (Nat → Option Nat) × (Nat → Nat) × (Nat → Nat) × (Nat → Nat) × (Nat → Nat) × (Nat → Lw)
def pW (P : Pl) : Nat := P.1.1
def pH (P : Pl) : Nat := P.1.2.1
def pF (P : Pl) : Nat := P.1.2.2.1
def pL (P : Pl) : Nat := P.1.2.2.2
def pSt (P : Pl) : Nat := P.2.1.1
def pGu (P : Pl) : Nat := P.2.1.2.1
def pSe (P : Pl) : Nat := P.2.1.2.2
def pFld (P : Pl) : Nat → Option Nat := P.2.2.1
def pNe (P : Pl) : Nat → Nat := P.2.2.2.1
def pDr (P : Pl) : Nat → Nat := P.2.2.2.2.1
def pWi (P : Pl) : Nat → Nat := P.2.2.2.2.2.1
def pPi (P : Pl) : Nat → Nat := P.2.2.2.2.2.2.1
def pLw (P : Pl) : Nat → Lw := P.2.2.2.2.2.2.2
def onL (P : Pl) (c : Nat) : Bool := decide (c % 8 < pW P) && decide (c / 8 < pH P)
def fI (o : Option Nat) : Int32 := match o with
  | none => -2
  | some f => nI f
/-- what a text that was taken tells -/
def PW (P : Pl) : Prop := pW P ≤ 8 ∧ pH P ≤ 6 ∧ pF P ≤ 6 ∧ pL P ≤ 4 ∧ pSt P ≤ 9999 ∧ pGu P ≤ 100 ∧ pSe P ≤ 9999 ∧ (∀ c f, onL P c = true → pFld P c = some f → f < pF P) ∧ (∀ f, f < pF P → pNe P f ≤ 99 ∧ pDr P f ≤ 999) ∧ (∀ l, l < pL P → 1 ≤ pWi P l ∧ pWi P l ≤ 8 ∧ pPi P l ≤ 99) ∧ (pW P = 0 ↔ pH P = 0) ∧ ∀ k, k < 3 → pLw P k = [] ∨ wfL (pLw P k)
/-- all but what a text told -/
def fM : Fr := fun a k => if a = 0 then k != 18 else decide (a < 9) || decide (29 < a)
def MPl (P : Pl) (μ : Mem) (L : Nat) : Prop := L < 2 ∧ μ.1 0 18 = nI L ∧ μ.1 10 L = nI (pW P) ∧ μ.1 9 L = nI (pH P) ∧ μ.1 12 L = nI (pF P) ∧ μ.1 15 L = nI (pL P) ∧ μ.1 18 L = nI (pSt P) ∧ μ.1 19 L = nI (pGu P) ∧ μ.1 20 L = nI (pSe P) ∧
  (∀ c, onL P c = true → μ.1 11 (48 * L + c) = fI (pFld P c)) ∧ (∀ f, f < pF P → μ.1 13 (6 * L + f) = nI (pNe P f) ∧ μ.1 14 (6 * L + f) = nI (pDr P f)) ∧ (∀ l, l < pL P → μ.1 16 (4 * L + l) = nI (pWi P l) ∧ μ.1 17 (4 * L + l) = nI (pPi P l)) ∧ ∀ k, k < 3 → mLawAt μ k (pLw P k)
def MP (P : Pl) (μ : Mem) : Prop := PW P ∧ ∃ L, MPl P μ L
theorem fM_plan {μ μ' : Mem} (h : Kp fM μ μ') : samePlan μ μ' := fun a h1 h2 => h.row fun k => by
  unfold fM
  rw [if_neg (by omega), decide_eq_false (by omega), decide_eq_false (by omega)]
  rfl
theorem mLawAt.of {μ μ' : Mem} (h : samePlan μ μ') (h0 : μ'.1 0 18 = μ.1 0 18) {k : Nat} {L : Lw} (q : mLawAt μ k L) : mLawAt μ' k L := by
  obtain ⟨b, h1, h2, h3, h4, h5, h6⟩ := q
  have e : mL μ' = mL μ := by unfold mL; rw [h0]
  refine ⟨b, by rw [h 21 (by decide) (by decide), e]; exact h1, by rw [h 22 (by decide) (by decide), e]; exact h2, h3, h4.of h, h5, h6.elim Or.inl fun z => Or.inr ?_⟩
  unfold mReg
  rw [e, h 27 (by decide) (by decide), h 23 (by decide) (by decide), h 26 (by decide) (by decide), h 24 (by decide) (by decide)]
  exact z
theorem MP.kp {P : Pl} {μ μ' : Mem} (k : MP P μ) (h : Kp fM μ μ') : MP P μ' := by
  have s := fM_plan h
  have e0 : μ'.1 0 18 = μ.1 0 18 := h.at rfl
  obtain ⟨pw, L, h1, h2, h3, h4, h5, h6, h7, h8, h9, h10, h11, h12, h13⟩ := k
  refine ⟨pw, L, h1, e0.trans h2, ?_, ?_, ?_, ?_, ?_, ?_, ?_, fun c q => ?_, fun f q => ?_, fun l q => ?_, fun k q => (h13 k q).of s e0⟩
  · rw [s 10 (by decide) (by decide)]; exact h3
  · rw [s 9 (by decide) (by decide)]; exact h4
  · rw [s 12 (by decide) (by decide)]; exact h5
  · rw [s 15 (by decide) (by decide)]; exact h6
  · rw [s 18 (by decide) (by decide)]; exact h7
  · rw [s 19 (by decide) (by decide)]; exact h8
  · rw [s 20 (by decide) (by decide)]; exact h9
  · rw [s 11 (by decide) (by decide)]; exact h10 c q
  · rw [s 13 (by decide) (by decide), s 14 (by decide) (by decide)]; exact h11 f q
  · rw [s 16 (by decide) (by decide), s 17 (by decide) (by decide)]; exact h12 l q
section Model
variable {P : Pl} {μ : Mem} {d : Nat}
theorem MP.live (h : MP P μ) : vp_in (μ.1 0 18) 2 := by
  obtain ⟨_, L, h1, h2, _⟩ := h
  rw [h2]
  exact vp_inN h1 (by decide)
theorem MP.eL (h : MP P μ) : ∃ L, L < 2 ∧ μ.1 0 18 = nI L ∧ mL μ = L ∧ MPl P μ L := by
  obtain ⟨_, L, h1, h2, h3⟩ := h
  exact ⟨L, h1, h2, by unfold mL; rw [h2]; exact nI_clamp (by omega), h1, h2, h3⟩
theorem MP.wide (h : MP P μ) : mWide μ = nI (pW P) := by
  obtain ⟨L, _, _, e, m⟩ := h.eL
  unfold mWide
  rw [e]
  exact m.2.2.1
theorem MP.rows (h : MP P μ) : mRows μ = nI (pH P) := by
  obtain ⟨L, _, _, e, m⟩ := h.eL
  unfold mRows
  rw [e]
  exact m.2.2.2.1
theorem MP.fields (h : MP P μ) : mFields μ = nI (pF P) := by
  obtain ⟨L, _, _, e, m⟩ := h.eL
  unfold mFields
  rw [e]
  exact m.2.2.2.2.1
theorem MP.looms (h : MP P μ) : mLooms μ = nI (pL P) := by
  obtain ⟨L, _, _, e, m⟩ := h.eL
  unfold mLooms
  rw [e]
  exact m.2.2.2.2.2.1
theorem isCell_m {x y : Int32} (h : MP P μ) : X10_isCell (d + 1) x y μ (bI (inN x (pW P) && inN y (pH P))) μ := by
  have := isCell_s (d := d) (x := x) (y := y) h.live
  have e : cellI μ x y = bI (inN x (pW P) && inN y (pH P)) := by
    have w := h.1
    unfold cellI
    rw [h.wide, h.rows, inI_N (by have := w.1; omega), inI_N (by have := w.2.1; omega)]
    cases inN x (pW P) <;> rfl
  rwa [e] at this
theorem isField_m {f : Int32} (h : MP P μ) : X10_isField (d + 1) f μ (bI (inN f (pF P))) μ := by
  have := isField_s (d := d) (f := f) h.live
  rwa [h.fields, inI_N (by have := h.1.2.2.1; omega)] at this
theorem isLoom_m {f : Int32} (h : MP P μ) : X10_isLoom (d + 1) f μ (bI (inN f (pL P))) μ := by
  have := isLoom_s (d := d) (l := f) h.live
  rwa [h.looms, inI_N (by have := h.1.2.2.2.1; omega)] at this
theorem isLand_m {c : Nat} (hc : c < 48) (h : MP P μ) : X10_isLand (d + 2) (nI c) μ (bI (onL P c)) μ := by
  have := X10_isLand_ok (d := d + 1) (x1 := nI c) (μ := μ) (μ' := μ) ⟨_, _, isCell_m h, bI_B _, rfl, rfl⟩
  rw [show (8 : Int32) = nI 8 from rfl, nI_rem (by omega) (by decide), nI_div (by omega) (by decide), inN_nI (by omega), inN_nI (by omega)] at this
  exact this
theorem fieldAt_m {c : Nat} (hc : c < 48) (ho : onL P c = true) (h : MP P μ) : X10_fieldAt d (nI c) μ (fI (pFld P c)) μ := by
  obtain ⟨L, h1, h2, _, m⟩ := h.eL
  refine X10_fieldAt_ok ?_
  rw [h2, show (48 : Int32) = nI 48 from rfl, nI_mul, nJ_add, nI_clamp (by omega)]
  exact ⟨vp_inN (by omega) (by decide), (m.2.2.2.2.2.2.2.2.2.1 c ho).symm, rfl⟩
def needO (P : Pl) (c : Nat) : Nat := match pFld P c with
  | none => 0
  | some f => pNe P f
def drownO (P : Pl) (c : Nat) : Nat := match pFld P c with
  | none => 0
  | some f => pDr P f
theorem fI_none : ¬ (0 : Int32) ≤ fI none := by decide
theorem needOf_m {c : Nat} (hc : c < 48) (ho : onL P c = true) (h : MP P μ) : X10_needOf (d + 1) (nI c) μ (nI (needO P c)) μ := by
  obtain ⟨L, h1, h2, _, m⟩ := h.eL
  refine X10_needOf_ok ⟨_, _, fieldAt_m hc ho h, ?_⟩
  have hf := h.1.2.2.2.2.2.2.2.1 c
  have h6 := h.1.2.2.1
  have hx : ∀ f, pFld P c = some f → f < pF P := fun f q => hf f ho q
  unfold needO
  generalize hp : pFld P c = o at hx
  cases o with
  | none => exact tneg fI_none ⟨rfl, rfl⟩
  | some f =>
    have hlt := hx f rfl
    have e : 6 * μ.1 0 18 + nI f = nI (6 * L + f) := by rw [h2, show (6 : Int32) = nI 6 from rfl, nI_mul, nJ_add]
    refine tpos (nI_pos' (by omega)) ⟨_, _, fieldAt_m hc ho h, ?_⟩
    rw [hp, show fI (some f) = nI f from rfl, e, nI_clamp (by omega)]
    exact ⟨vp_inN (by omega) (by decide), (m.2.2.2.2.2.2.2.2.2.2.1 f hlt).1.symm, rfl⟩
theorem drownOf_m {c : Nat} (hc : c < 48) (ho : onL P c = true) (h : MP P μ) : X10_drownOf (d + 1) (nI c) μ (nI (drownO P c)) μ := by
  obtain ⟨L, h1, h2, _, m⟩ := h.eL
  refine X10_drownOf_ok ⟨_, _, fieldAt_m hc ho h, ?_⟩
  have hf := h.1.2.2.2.2.2.2.2.1 c
  have h6 := h.1.2.2.1
  have hx : ∀ f, pFld P c = some f → f < pF P := fun f q => hf f ho q
  unfold drownO
  generalize hp : pFld P c = o at hx
  cases o with
  | none => exact tneg fI_none ⟨rfl, rfl⟩
  | some f =>
    have hlt := hx f rfl
    have e : 6 * μ.1 0 18 + nI f = nI (6 * L + f) := by rw [h2, show (6 : Int32) = nI 6 from rfl, nI_mul, nJ_add]
    refine tpos (nI_pos' (by omega)) ⟨_, _, fieldAt_m hc ho h, ?_⟩
    rw [hp, show fI (some f) = nI f from rfl, e, nI_clamp (by omega)]
    exact ⟨vp_inN (by omega) (by decide), (m.2.2.2.2.2.2.2.2.2.2.1 f hlt).2.symm, rfl⟩
/-- does the CELL lack, is it flooded, with so much water -/
def lackA (P : Pl) (c w : Nat) : Bool := (pFld P c).isSome && decide (w < needO P c)
def floodA (P : Pl) (c w : Nat) : Bool := (pFld P c).isSome && decide (drownO P c < w)
theorem fld_need (h : PW P) {c : Nat} (ho : onL P c = true) : needO P c ≤ 99 ∧ drownO P c ≤ 999 := by
  unfold needO drownO
  have hx := h.2.2.2.2.2.2.2.1 c
  cases hp : pFld P c with
  | none => exact ⟨Nat.zero_le _, Nat.zero_le _⟩
  | some f => exact h.2.2.2.2.2.2.2.2.1 f (hx f ho hp)
theorem fI_neg {o : Option Nat} (h : ∀ f, o = some f → f < 6) : (o.isSome = true → ¬ fI o < 0) ∧ (o.isSome = false → fI o < 0) := by
  cases o with
  | none => exact ⟨fun q => (by cases q), fun _ => by decide⟩
  | some f => exact ⟨fun _ => nI_pos (by have := h f rfl; omega), fun q => (by cases q)⟩
theorem fld6 (h : PW P) {c : Nat} (ho : onL P c = true) : ∀ f, pFld P c = some f → f < 6 := fun f q => by
  have := h.2.2.2.2.2.2.2.1 c f ho q
  have := h.2.2.1
  omega
theorem isLacking_m {c w : Nat} (hc : c < 48) (ho : onL P c = true) (h : MP P μ) (hw : μ.1 34 c = nI w) (hw9 : w < 2 ^ 31) : X10_isLacking (d + 2) (nI c) μ (bI (lackA P c w)) μ := by
  have h9 := fld_need h.1 ho
  obtain ⟨f1, f2⟩ := fI_neg (fld6 h.1 ho)
  refine X10_isLacking_ok ⟨_, _, fieldAt_m hc ho h, ?_⟩
  unfold lackA
  cases hs : (pFld P c).isSome with
  | false => exact tpos (f2 hs) ⟨rfl, rfl⟩
  | true =>
    refine tneg (f1 hs) ⟨vp_inN (by omega) (by decide), _, _, needOf_m hc ho h, ?_⟩
    rw [nI_clamp (by omega), hw, Bool.true_and]
    by_cases q : w < needO P c
    · rw [decide_eq_true q]
      exact tneg (nI_ge q (by omega)) ⟨rfl, rfl⟩
    · rw [decide_eq_false q]
      exact tpos (nI_le (by omega) hw9) ⟨rfl, rfl⟩
theorem isFlooded_m {c w : Nat} (hc : c < 48) (ho : onL P c = true) (h : MP P μ) (hw : μ.1 34 c = nI w) (hw9 : w < 2 ^ 31) : X10_isFlooded (d + 2) (nI c) μ (bI (floodA P c w)) μ := by
  have h9 := fld_need h.1 ho
  obtain ⟨f1, f2⟩ := fI_neg (fld6 h.1 ho)
  refine X10_isFlooded_ok ⟨_, _, fieldAt_m hc ho h, ?_⟩
  unfold floodA
  cases hs : (pFld P c).isSome with
  | false => exact tpos (f2 hs) ⟨rfl, rfl⟩
  | true =>
    refine tneg (f1 hs) ⟨vp_inN (by omega) (by decide), _, _, drownOf_m hc ho h, ?_⟩
    rw [nI_clamp (by omega), hw, Bool.true_and]
    by_cases q : drownO P c < w
    · rw [decide_eq_true q]
      exact tneg (nI_ge q hw9) ⟨rfl, rfl⟩
    · rw [decide_eq_false q]
      exact tpos (nI_le (by omega) (by omega)) ⟨rfl, rfl⟩
end Model
