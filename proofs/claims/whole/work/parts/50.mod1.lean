/-! ===== pure: the model's small questions ===== -/
def inI (v a b : Int32) : Int32 := if v < a then 0 else if b < v then 0 else 1
theorem inI_B (v a b : Int32) : isB (inI v a b) := by
  unfold inI isB
  split
  · exact Or.inl rfl
  · split
    · exact Or.inl rfl
    · exact Or.inr rfl
theorem in_s {d : Nat} {v a b : Int32} {μ : Mem} : X10_in d v a b μ (inI v a b) μ := by
  unfold inI
  exact X10_in_ok ⟨fun h => ⟨by rw [if_pos h], rfl⟩, fun h => ⟨fun h2 => ⟨by rw [if_neg h, if_pos h2], rfl⟩, fun h2 => ⟨by rw [if_neg h, if_neg h2], rfl⟩⟩⟩
/-- the side that is live -/
def mL (μ : Mem) : Nat := (μ.1 0 18).toNatClampNeg
def mWide (μ : Mem) : Int32 := μ.1 10 (mL μ)
def mRows (μ : Mem) : Int32 := μ.1 9 (mL μ)
def mFields (μ : Mem) : Int32 := μ.1 12 (mL μ)
def mLooms (μ : Mem) : Int32 := μ.1 15 (mL μ)
def cellI (μ : Mem) (x y : Int32) : Int32 := if inI x 0 (mWide μ - 1) = 0 then 0 else inI y 0 (mRows μ - 1)
theorem cellI_B (μ : Mem) (x y : Int32) : isB (cellI μ x y) := by
  unfold cellI
  split
  · exact Or.inl rfl
  · exact inI_B _ _ _
theorem isCell_s {d : Nat} {x y : Int32} {μ : Mem} (hl : vp_in (μ.1 0 18) 2) : X10_isCell (d + 1) x y μ (cellI μ x y) μ := by
  unfold cellI
  refine X10_isCell_ok ⟨hl, _, _, in_s, fun h => ⟨by rw [if_pos (show inI x 0 (mWide μ - 1) = 0 from h)], rfl⟩, fun h => ⟨hl, _, _, in_s, fun h2 => ⟨?_, rfl⟩, fun h2 => ⟨?_, rfl⟩⟩⟩
  · rw [if_neg (show ¬ inI x 0 (mWide μ - 1) = 0 from h)]
    exact h2
  · rw [if_neg (show ¬ inI x 0 (mWide μ - 1) = 0 from h)]
    exact (inI_B _ _ _).elim (fun z => absurd z h2) id
theorem isField_s {d : Nat} {f : Int32} {μ : Mem} (hl : vp_in (μ.1 0 18) 2) : X10_isField (d + 1) f μ (inI f 0 (mFields μ - 1)) μ := X10_isField_ok ⟨hl, _, _, in_s, inI_B _ _ _, rfl, rfl⟩
theorem isLoom_s {d : Nat} {l : Int32} {μ : Mem} (hl : vp_in (μ.1 0 18) 2) : X10_isLoom (d + 1) l μ (inI l 0 (mLooms μ - 1)) μ := X10_isLoom_ok ⟨hl, _, _, in_s, inI_B _ _ _, rfl, rfl⟩
theorem isLand_s {d : Nat} {c : Int32} {μ : Mem} (hl : vp_in (μ.1 0 18) 2) : X10_isLand (d + 2) c μ (cellI μ (c - c / 8 * 8) (c / 8)) μ := X10_isLand_ok ⟨_, _, isCell_s hl, cellI_B _ _ _, rfl, rfl⟩
