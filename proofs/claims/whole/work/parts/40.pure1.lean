/-! ===== pure: memory, fill, the plan's clear ===== -/
theorem sA_1 {μ : Mem} {a : Nat} {f : Nat → Int32} : (sA μ a f).1 a = f := up_same
theorem sA_n {μ : Mem} {a b : Nat} {f : Nat → Int32} (h : b ≠ a) : (sA μ a f).1 b = μ.1 b := up_ne h
theorem sA_2 {μ : Mem} {a : Nat} {f : Nat → Int32} : (sA μ a f).2 = μ.2 := rfl
theorem sA_id {μ : Mem} {a : Nat} : sA μ a (μ.1 a) = μ := by
  unfold sA
  have : va_up μ.1 a (μ.1 a) = μ.1 := by
    funext b
    by_cases h : b = a
    · rw [h, up_same]
    · rw [up_ne h]
  rw [this]
theorem sA_sA {μ : Mem} {a : Nat} {f g : Nat → Int32} : sA (sA μ a f) a g = sA μ a g := by
  unfold sA
  congr 1
  exact bx_uu _ _ _ _
theorem sI_1 {μ : Mem} {a k : Nat} {x : Int32} : (sI μ a k x).1 a k = x := by
  unfold sI
  rw [sA_1, upd_same]
theorem sI_k {μ : Mem} {a k j : Nat} {x : Int32} (h : j ≠ k) : (sI μ a k x).1 a j = μ.1 a j := by
  unfold sI
  rw [sA_1, upd_ne h]
theorem sI_n {μ : Mem} {a b k : Nat} {x : Int32} (h : b ≠ a) : (sI μ a k x).1 b = μ.1 b := sA_n h
theorem sI_2 {μ : Mem} {a k : Nat} {x : Int32} : (sI μ a k x).2 = μ.2 := rfl
def fillTo (f : Nat → Int32) (n : Nat) (v : Int32) : Nat → Int32 := fun j => if j < n then v else f j
theorem fillTo_0 {f : Nat → Int32} {v : Int32} : fillTo f 0 v = f := by
  funext j
  exact if_neg (Nat.not_lt_zero j)
theorem fillTo_s {f : Nat → Int32} {n : Nat} {v : Int32} : upd (fillTo f n v) n v = fillTo f (n + 1) v := by
  funext j
  unfold upd fillTo
  by_cases h : j = n
  · rw [if_pos h, if_pos (by omega)]
  · rw [if_neg h]
    by_cases h2 : j < n
    · rw [if_pos h2, if_pos (by omega)]
    · rw [if_neg h2, if_neg (by omega)]
theorem fill_loop {d n a : Nat} {v : Int32} {μ : Mem} (hn : n < 2 ^ 31) : ∀ (m i : Nat), i + m = n → J7_fill_53178_at5 d n a v (nI i) (nI n) (sA μ a (fillTo (μ.1 a) i v)) (sA μ a (fillTo (μ.1 a) n v))
  | 0, i, h => by
    have : i = n := by omega
    subst this
    exact J7_fill_53178_at5_ok ⟨fun _ => rfl, fun q => absurd (nI_le (Nat.le_refl _) hn) q⟩
  | m + 1, i, h => by
    refine J7_fill_53178_at5_ok ⟨fun q => absurd q (nI_ge (by omega) hn), fun _ => ⟨vp_in_nI (by omega) hn, ?_⟩⟩
    rintro μ1 rfl
    rw [nI_clamp (by omega), nI_1]
    have e : sI (sA μ a (fillTo (μ.1 a) i v)) a i v = sA μ a (fillTo (μ.1 a) (i + 1) v) := by
      unfold sI
      rw [sA_1, sA_sA, fillTo_s]
    rw [e]
    exact fill_loop hn m (i + 1) (by omega)
theorem fill_spec {d n a : Nat} {v : Int32} {μ : Mem} (hn : n < 2 ^ 31) : J7_fill_53178 d n a v μ (sA μ a (fillTo (μ.1 a) n v)) := by
  refine J7_fill_53178_ok ?_
  have := fill_loop (d := d) (a := a) (v := v) (μ := μ) hn n 0 (by omega)
  rw [fillTo_0, sA_id] at this
  exact this
theorem lawClear_spec {d a : Nat} {μ : Mem} : X1_clear d a μ (sI μ a 3 0) := X1_clear_ok (fun _ h => h.symm ▸ rfl)
theorem lawPut_spec {d a k : Nat} {x : Int32} {μ : Mem} (hk : k < 512) (h : μ.1 a 3 = nI k) : X1_put d a x μ (sI (sI μ (a + 1) k x) a 3 (nI (k + 1))) := by
  refine X1_put_ok ⟨fun q => ?_, fun _ => ⟨?_, ?_⟩⟩
  · rw [h] at q
    exact absurd q (nI_ge (a := k) (b := 512) hk (by decide))
  · rw [h]; exact vp_in_nI hk (by decide)
  · rintro μ1 rfl μ2 rfl
    rw [h, nI_clamp (by omega), sI_n (show a ≠ a + 1 by omega), h, nI_1]
def putC (a : Nat) (v : Int32) (μ : Mem) : Mem := sI (sI (sI (sI (sI μ a 3 0) (a + 1) 0 v) a 3 1) (a + 1) 1 (-15)) a 3 2
theorem putConstant_spec {d a : Nat} {v : Int32} {μ : Mem} : X1_putConstant (d + 1) a v μ (putC a v μ) := by
  refine X1_putConstant_ok ⟨_, lawClear_spec, _, lawPut_spec (k := 0) (by decide) ?_, _, lawPut_spec (k := 1) (by decide) ?_, rfl⟩
  · rw [sI_1]; rfl
  · rw [sI_1]
def clrN (a : Nat) (μ : Mem) : Mem := sI (sI (sI (sI (sI (sI (sI μ a 0 0) a 1 0) a 2 0) a 3 0) a 4 100) a 5 0) a 6 0
def clrA (a : Nat) (μ : Mem) : Mem := sA (sA (clrN a μ) (a + 1) (fillTo ((clrN a μ).1 (a + 1)) 48 (-2))) (a + 2) (fillTo ((sA (clrN a μ) (a + 1) (fillTo ((clrN a μ).1 (a + 1)) 48 (-2))).1 (a + 2)) 6 0)
def clrP (a : Nat) (μ : Mem) : Mem := putC (a + 15) 0 (putC (a + 11) 1 (putC (a + 7) 1 (clrA a μ)))
theorem planClear_spec {d a : Nat} {μ : Mem} : X3_clear (d + 2) a μ (clrP a μ) := by
  refine X3_clear_ok ?_
  rintro μ1 rfl μ2 rfl μ3 rfl μ4 rfl μ5 rfl μ6 rfl μ7 rfl
  exact ⟨_, fill_spec (by decide), _, fill_spec (by decide), _, putConstant_spec, _, putConstant_spec, _, putConstant_spec, rfl⟩
