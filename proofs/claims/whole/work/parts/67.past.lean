/-! ===== scenes copied, things remembered ===== -/
theorem cpy_lt {f g : Nat → Int32} {n j : Nat} (h : j < n) : va_cpy f g 0 0 n j = f j := by
  unfold va_cpy
  rw [if_pos ⟨Nat.zero_le _, by omega⟩, Nat.zero_add, Nat.sub_zero]
def sCp (a c k : Nat) : Prop := a ≤ c ∧ c ≤ a + 4
theorem copy_c {P : Pl} {d a b : Nat} {μ : Mem} {r : Nat → Nat} (pw : PW P) (hab : a + 4 < b ∨ b + 4 < a) (h : RowC P b μ r) : ∃ μ', X5_copy d a b μ a μ' ∧ Kq (sCp a) μ μ' ∧ RowC P a μ' r := by
  have h4 := pw.2.2.2.1
  obtain ⟨m1, hm1⟩ : ∃ m, m = sI μ a 0 (μ.1 b 0) := ⟨_, rfl⟩
  obtain ⟨m2, hm2⟩ : ∃ m, m = sI m1 a 1 (m1.1 b 1) := ⟨_, rfl⟩
  obtain ⟨m3, hm3⟩ : ∃ m, m = sA m2 (a + 1) (va_cpy (m2.1 (b + 1)) (m2.1 (a + 1)) 0 0 48) := ⟨_, rfl⟩
  obtain ⟨m4, hm4⟩ : ∃ m, m = sA m3 (a + 2) (va_cpy (m3.1 (b + 2)) (m3.1 (a + 2)) 0 0 32) := ⟨_, rfl⟩
  obtain ⟨m5, hm5⟩ : ∃ m, m = sA m4 (a + 3) (va_cpy (m4.1 (b + 3)) (m4.1 (a + 3)) 0 0 6) := ⟨_, rfl⟩
  obtain ⟨m6, hm6⟩ : ∃ m, m = sA m5 (a + 4) (va_cpy (m5.1 (b + 4)) (m5.1 (a + 4)) 0 0 6) := ⟨_, rfl⟩
  have k1 : Kq (sCp a) μ m1 := by rw [hm1]; exact Kq.sI (by unfold sCp; omega)
  have k2 : Kq (sCp a) μ m2 := k1.trans (by rw [hm2]; exact Kq.sI (by unfold sCp; omega))
  have k3 : Kq (sCp a) μ m3 := k2.trans (by rw [hm3]; exact Kq.sA fun _ => by unfold sCp; omega)
  have k4 : Kq (sCp a) μ m4 := k3.trans (by rw [hm4]; exact Kq.sA fun _ => by unfold sCp; omega)
  have k5 : Kq (sCp a) μ m5 := k4.trans (by rw [hm5]; exact Kq.sA fun _ => by unfold sCp; omega)
  have k6 : Kq (sCp a) μ m6 := k5.trans (by rw [hm6]; exact Kq.sA fun _ => by unfold sCp; omega)
  have bb : ∀ {m : Mem}, Kq (sCp a) μ m → ∀ i, i ≤ 4 → m.1 (b + i) = μ.1 (b + i) := fun k i hi => k.row fun j => by unfold sCp; omega
  refine ⟨m6, X5_copy_ok ?_, k6, ?_⟩
  · rintro μ1 e1
    rw [← hm1] at e1
    subst e1
    rintro μ2 e2
    rw [← hm2] at e2
    subst e2
    rintro μ3 e3
    rw [← hm3] at e3
    subst e3
    rintro μ4 e4
    rw [← hm4] at e4
    subst e4
    rintro μ5 e5
    rw [← hm5] at e5
    subst e5
    rintro μ6 e6
    rw [← hm6] at e6
    subst e6
    exact ⟨rfl, rfl⟩
  · have f0 : m6.1 a 0 = μ.1 b 0 := by rw [hm6, sA_n (by omega), hm5, sA_n (by omega), hm4, sA_n (by omega), hm3, sA_n (by omega), hm2, sI_k (by decide), hm1, sI_1]
    have f1 : m6.1 a 1 = μ.1 b 1 := by rw [hm6, sA_n (by omega), hm5, sA_n (by omega), hm4, sA_n (by omega), hm3, sA_n (by omega), hm2, sI_1]; exact congrFun (bb k1 0 (by omega)) 1
    have f2 : ∀ j, j < 48 → m6.1 (a + 1) j = μ.1 (b + 1) j := fun j hj => by rw [hm6, sA_n (by omega), hm5, sA_n (by omega), hm4, sA_n (by omega), hm3, sA_1, cpy_lt hj, bb k2 1 (by omega)]
    have f3 : ∀ j, j < 32 → m6.1 (a + 2) j = μ.1 (b + 2) j := fun j hj => by rw [hm6, sA_n (by omega), hm5, sA_n (by omega), hm4, sA_1, cpy_lt hj, bb k3 2 (by omega)]
    have f4 : ∀ j, j < 6 → m6.1 (a + 3) j = μ.1 (b + 3) j := fun j hj => by rw [hm6, sA_n (by omega), hm5, sA_1, cpy_lt hj, bb k4 3 (by omega)]
    have f5 : ∀ j, j < 6 → m6.1 (a + 4) j = μ.1 (b + 4) j := fun j hj => by rw [hm6, sA_1, cpy_lt hj, bb k5 4 (by omega)]
    obtain ⟨h0, h1, h2, h3, h5, h6⟩ := h
    refine ⟨f0.trans h0, f1.trans h1, fun c hc => (f2 c hc).trans (h2 c hc), fun l hl => ?_, fun l q1 q2 => by rw [f3 _ (by omega)]; exact h5 l q1 q2, fun f hf => ⟨(f4 f hf).trans (h6 f hf).1, (f5 f hf).trans (h6 f hf).2⟩⟩
    unfold LoomC
    rw [f3 _ (by omega), f3 _ (by omega), f3 _ (by omega), f3 _ (by omega), f3 _ (by omega), f3 _ (by omega), f3 _ (by omega), f3 _ (by omega)]
    exact h3 l hl
def PastC (P : Pl) (t nx : Nat) (H : Nat → Nat → Nat) (μ : Mem) : Prop := t ≤ 30 ∧ nx < 30 ∧ μ.1 23 2 = nI t ∧ μ.1 23 1 = nI nx ∧ ∀ i, i < t → RowC P (25 + 5 * ((nx + 29 - i) % 30)) μ (H i)
def PastM (t : Nat) (H : Nat → Nat → Nat) (μ : Mem) : Prop := μ.1 0 53 = nI t ∧ ∀ i, i < t → ∀ k, k < 92 → μ.1 35 (92 * (t - 1 - i) + k) = nI (H i k)
def psh (r : Nat → Nat) (H : Nat → Nat → Nat) : Nat → Nat → Nat := fun i => match i with
  | 0 => r
  | i + 1 => H i
def sPa (a k : Nat) : Prop := (a = 23 ∧ (k = 1 ∨ k = 2)) ∨ (25 ≤ a ∧ a ≤ 174)
theorem remember_c {P : Pl} {d t nx : Nat} {H : Nat → Nat → Nat} {μ : Mem} {r : Nat → Nat} (pw : PW P) (hR : RowC P 13 μ r) (hP : PastC P t nx H μ) : ∃ μ', X2_remember (d + 1) 13 μ μ' ∧ Kq sPa μ μ' ∧ PastC P (min (t + 1) 30) ((nx + 1) % 30) (psh r H) μ' := by
  obtain ⟨p1, p2, p3, p4, p5⟩ := hP
  obtain ⟨m1, a1, a2, a3⟩ := copy_c (d := d) (a := 25 + 5 * nx) (b := 13) pw (Or.inr (by omega)) hR
  have e1 : m1.1 23 = μ.1 23 := a2.row fun k => by unfold sCp; omega
  obtain ⟨m3, hm3⟩ : ∃ m, m = sI (sI m1 23 1 (nI ((nx + 1) % 30))) 23 2 (nI (min (t + 1) 30)) := ⟨_, rfl⟩
  have k3 : Kq sPa μ m3 := (a2.mono fun a k q => by unfold sCp at q; unfold sPa; omega).trans (by rw [hm3]; exact (Kq.sI (by unfold sPa; omega)).trans (Kq.sI (by unfold sPa; omega)))
  have e3 : ∀ a, a ≠ 23 → m3.1 a = m1.1 a := fun a n => by rw [hm3, sI_n n, sI_n n]
  refine ⟨m3, X2_remember_ok ?_, k3, by omega, Nat.mod_lt _ (by decide), by rw [hm3, sI_1], by rw [hm3, sI_k (by decide), sI_1], fun i hi => ?_⟩
  · rw [p4, nI_clamp (by omega)]
    refine ⟨vp_inN p2 (by decide), _, m1, a1, ?_⟩
    rw [e1, p4, ← nI_succ, show (30 : Int32) = nI 30 from rfl, nI_rem (by omega) (by decide)]
    rintro μ4 rfl
    rw [sI_k (by decide), e1, p3, ← nI_succ, mn_nI (by omega) (by decide)]
    rintro μ5 rfl
    exact hm3
  · have hr : ∀ s r', 25 ≤ s → RowC P s m1 r' → RowC P s m3 r' := fun s r' hs q => q.of (by rw [e3 _ (by omega)]) (by rw [e3 _ (by omega)]) fun i q1 q2 => e3 _ (by omega)
    match i, hi with
    | 0, _ =>
      rw [show ((nx + 1) % 30 + 29 - 0) % 30 = nx by omega]
      exact hr _ _ (by omega) a3
    | i + 1, hi =>
      have hi30 : i + 1 < 30 := by omega
      rw [show ((nx + 1) % 30 + 29 - (i + 1)) % 30 = (nx + 29 - i) % 30 by omega]
      have q := p5 i (by omega)
      refine hr _ _ (by omega) (q.kq a2 fun a j q1 q2 => ?_)
      unfold sCp
      have : (nx + 29 - i) % 30 ≠ nx := by omega
      omega
theorem takeBack_c {P : Pl} {d t nx : Nat} {H : Nat → Nat → Nat} {μ : Mem} (pw : PW P) (ht : 0 < t) (hP : PastC P t nx H μ) : ∃ μ', X2_takeBack (d + 1) 13 μ 1 μ' ∧ Kq (fun a k => (a = 23 ∧ (k = 1 ∨ k = 2)) ∨ (13 ≤ a ∧ a ≤ 17)) μ μ' ∧ PastC P (t - 1) ((nx + 29) % 30) (fun i => H (i + 1)) μ' ∧ RowC P 13 μ' (H 0) := by
  obtain ⟨p1, p2, p3, p4, p5⟩ := hP
  obtain ⟨m2, hm2⟩ : ∃ m, m = sI (sI μ 23 1 (nI ((nx + 29) % 30))) 23 2 (nI (t - 1)) := ⟨_, rfl⟩
  have e2 : ∀ a, a ≠ 23 → m2.1 a = μ.1 a := fun a n => by rw [hm2, sI_n n, sI_n n]
  have hr : ∀ s r', 25 ≤ s → RowC P s μ r' → RowC P s m2 r' := fun s r' hs q => q.of (by rw [e2 _ (by omega)]) (by rw [e2 _ (by omega)]) fun i q1 q2 => e2 _ (by omega)
  obtain ⟨m3, a1, a2, a3⟩ := copy_c (d := d) (a := 13) (b := 25 + 5 * ((nx + 29) % 30)) pw (Or.inl (by omega)) (hr _ _ (by omega) (p5 0 ht))
  have e1 : m3.1 23 = m2.1 23 := a2.row fun k => by unfold sCp; omega
  refine ⟨m3, X2_takeBack_ok ?_, (?_ : Kq _ μ m2).trans (a2.mono fun a k q => by unfold sCp at q; omega), ⟨by omega, Nat.mod_lt _ (by decide), by rw [e1, hm2, sI_1], by rw [e1, hm2, sI_k (by decide), sI_1], fun i hi => ?_⟩, a3⟩
  · rw [p3]
    refine tne (nI_ne0 ht (by omega)) ?_
    rw [p4, show nI nx + 30 - 1 = nI (nx + 29) by rw [show (30 : Int32) = nI 30 from rfl, nJ_add, show nx + 30 = nx + 29 + 1 by omega, nI_pred], show (30 : Int32) = nI 30 from rfl, nI_rem (by omega) (by decide)]
    rintro μ1 rfl
    rw [sI_k (by decide), p3, show nI t - 1 = nI (t - 1) from nI_sub (b := 1) ht]
    rintro μ2 e
    rw [← hm2] at e
    subst e
    rw [show μ2.1 23 1 = nI ((nx + 29) % 30) by rw [hm2, sI_k (by decide), sI_1], nI_clamp (by omega)]
    exact ⟨vp_inN (Nat.mod_lt _ (by decide)) (by decide), _, m3, a1, rfl, rfl⟩
  · rw [hm2]
    exact (Kq.sI (by omega)).trans (Kq.sI (by omega))
  · have q := hr _ _ (by omega) (p5 (i + 1) (by omega))
    rw [show ((nx + 29) % 30 + 29 - i) % 30 = (nx + 29 - (i + 1)) % 30 by omega]
    exact q.kq a2 fun a j q1 q2 => by unfold sCp; omega
/-- the model's history -/
theorem keeps_51 {d t : Nat} {H : Nat → Nat → Nat} {r r' : Nat → Nat} (ht : t < 30) : ∀ (m i : Nat) (μ : Mem), i + m = 92 → RowM μ 33 r → RowM μ 34 r' → PastM t H μ → (∀ k, k < i → μ.1 35 (92 * t + k) = nI (r k)) → ∃ μ', X10_keeps_at51 d (nI i) μ μ' ∧ RowM μ' 33 r' ∧ PastM (t + 1) (psh r H) μ' ∧ Kq (fun a k => a = 33 ∨ a = 35 ∨ (a = 0 ∧ k = 53)) μ μ'
  | 0, i, μ, hi, h3, h4, hP, hk => by
    have hi : i = 92 := hi
    subst hi
    obtain ⟨m1, hm1⟩ : ∃ m, m = sI μ 0 53 (nI (t + 1)) := ⟨_, rfl⟩
    obtain ⟨m2, a1, a2, a3⟩ := keepsRow_m (d := d) (μ := m1) (r := r') (fun k hk => by rw [hm1, sI_n (by decide)]; exact h4 k hk)
    have e35 : m2.1 35 = μ.1 35 := by
      have : m2.1 35 = m1.1 35 := a2.row fun k => rfl
      rw [this, hm1, sI_n (by decide)]
    have k2 : Kq (fun a k => a = 33 ∨ a = 35 ∨ (a = 0 ∧ k = 53)) μ m2 := (by rw [hm1]; exact Kq.sI (by omega) : Kq _ μ m1).trans (a2.q fun a k q => by
      have : a = 33 := by simpa using q
      exact Or.inl this)
    refine ⟨m2, X10_keeps_at51_ok (tpos (by decide) ?_), a3, ⟨?_, fun i hi k hk' => ?_⟩, k2⟩
    · rw [hP.1, ← nI_succ]
      rintro μ1 e
      rw [← hm1] at e
      subst e
      exact ⟨m2, a1, rfl⟩
    · rw [a2.at rfl, hm1, sI_1]
    · rw [e35]
      match i, hi with
      | 0, _ => exact hk k hk'
      | i + 1, hi =>
        rw [show t + 1 - 1 - (i + 1) = t - 1 - i by omega]
        exact hP.2 i (by omega) k hk'
  | m + 1, i, μ, hi, h3, h4, hP, hk => by
    obtain ⟨m1, hm1⟩ : ∃ q, q = sI μ 35 (92 * t + i) (nI (r i)) := ⟨_, rfl⟩
    have e : ∀ a, a ≠ 35 → m1.1 a = μ.1 a := fun a n => by rw [hm1, sI_n n]
    obtain ⟨μ', g1, g2, g3, g4⟩ := keeps_51 ht m (i + 1) m1 (by omega) (fun k hk => by rw [e 33 (by decide)]; exact h3 k hk) (fun k hk => by rw [e 34 (by decide)]; exact h4 k hk) ⟨by rw [e 0 (by decide)]; exact hP.1, fun j hj k hk => by
      rw [hm1, sI_k (by omega)]
      exact hP.2 j hj k hk⟩ (fun k hk' => by
      rw [hm1]
      by_cases q : k = i
      · subst q
        rw [sI_1]
      · rw [sI_k (by omega)]
        exact hk k (by omega))
    rw [nI_succ] at g1
    refine ⟨μ', X10_keeps_at51_ok (tneg (nI_ge (b := 92) (by omega) (by decide)) ⟨vp_inN (by omega) (by decide), ?_⟩), g2, g3, (by rw [hm1]; exact Kq.sI (by omega) : Kq _ μ m1).trans g4⟩
    rw [hP.1, show (92 : Int32) = nI 92 from rfl, nI_mul, nJ_add, nI_clamp (by omega), nI_clamp (by omega), h3 i (by omega)]
    refine ⟨vp_inN (by omega) (by decide), ?_⟩
    rintro μ4 e4
    rw [← hm1] at e4
    subst e4
    exact g1
theorem keeps_11 {d : Nat} {H : Nat → Nat → Nat} {r r' : Nat → Nat} : ∀ (m i : Nat) (μ : Mem), i + m = 2668 → RowM μ 33 r → RowM μ 34 r' → μ.1 0 53 = nI 30 → (∀ j, j < 30 → ∀ k, k < 92 → i ≤ 92 * (29 - j) + k → μ.1 35 (92 * (29 - j) + k) = nI (H j k)) → (∀ j, j < 29 → ∀ k, k < 92 → 92 * (28 - j) + k < i → μ.1 35 (92 * (28 - j) + k) = nI (H j k)) → ∃ μ', X10_keeps_at11 d (nI i) μ μ' ∧ RowM μ' 33 r' ∧ PastM 30 (psh r H) μ' ∧ Kq (fun a k => a = 33 ∨ a = 35 ∨ (a = 0 ∧ k = 53)) μ μ'
  | 0, i, μ, hi, h3, h4, h53, _, hb => by
    have hi : i = 2668 := hi
    subst hi
    obtain ⟨m1, hm1⟩ : ∃ m, m = sI μ 0 53 (nI 29) := ⟨_, rfl⟩
    have e : ∀ a, a ≠ 0 → m1.1 a = μ.1 a := fun a n => by rw [hm1, sI_n n]
    obtain ⟨μ', g1, g2, g3, g4⟩ := keeps_51 (d := d) (t := 29) (H := H) (r := r) (r' := r') (by decide) 92 0 m1 (by omega) (fun k hk => by rw [e 33 (by decide)]; exact h3 k hk) (fun k hk => by rw [e 34 (by decide)]; exact h4 k hk) ⟨by rw [hm1, sI_1], fun j hj k hk => by
      rw [e 35 (by decide)]
      exact hb j hj k hk (by omega)⟩ (fun k hk => absurd hk (Nat.not_lt_zero _))
    refine ⟨μ', X10_keeps_at11_ok (tpos (by decide) ?_), g2, g3, (by rw [hm1]; exact Kq.sI (by omega) : Kq _ μ m1).trans g4⟩
    rw [h53, show (nI 30 : Int32) - 1 = nI 29 from nI_pred 29]
    rintro μ1 e1
    rw [← hm1] at e1
    subst e1
    exact g1
  | m + 1, i, μ, hi, h3, h4, h53, ha, hb => by
    obtain ⟨m1, hm1⟩ : ∃ q, q = sI μ 35 i (μ.1 35 (i + 92)) := ⟨_, rfl⟩
    have e : ∀ a, a ≠ 35 → m1.1 a = μ.1 a := fun a n => by rw [hm1, sI_n n]
    obtain ⟨μ', g1, g2, g3, g4⟩ := keeps_11 (d := d) (H := H) m (i + 1) m1 (by omega) (fun k hk => by rw [e 33 (by decide)]; exact h3 k hk) (fun k hk => by rw [e 34 (by decide)]; exact h4 k hk) (by rw [e 0 (by decide)]; exact h53) (fun j hj k hk q => by
      rw [hm1, sI_k (by omega)]
      exact ha j hj k hk (by omega)) (fun j hj k hk q => by
      rw [hm1]
      by_cases z : 92 * (28 - j) + k = i
      · rw [z, sI_1]
        have := ha j (by omega) k hk (by omega)
        rw [show 92 * (29 - j) + k = i + 92 by omega] at this
        exact this
      · rw [sI_k z]
        exact hb j hj k hk (by omega))
    rw [nI_succ] at g1
    refine ⟨μ', X10_keeps_at11_ok (tneg (nI_ge (b := 2668) (by omega) (by decide)) ?_), g2, g3, (by rw [hm1]; exact Kq.sI (by omega) : Kq _ μ m1).trans g4⟩
    rw [show (92 : Int32) = nI 92 from rfl, nJ_add, nI_clamp (by omega), nI_clamp (by omega)]
    refine ⟨vp_inN (by omega) (by decide), vp_inN (by omega) (by decide), ?_⟩
    rintro μ2 e2
    rw [← hm1] at e2
    subst e2
    exact g1
theorem keeps_m {d t : Nat} {H : Nat → Nat → Nat} {r r' : Nat → Nat} {μ : Mem} (ht : t ≤ 30) (h3 : RowM μ 33 r) (h4 : RowM μ 34 r') (hP : PastM t H μ) : ∃ μ', X10_keeps (d + 1) μ μ' ∧ RowM μ' 33 r' ∧ PastM (min (t + 1) 30) (psh r H) μ' ∧ Kq (fun a k => a = 33 ∨ a = 35 ∨ (a = 0 ∧ k = 53)) μ μ' := by
  by_cases q : t < 30
  · obtain ⟨μ', g1, g2, g3, g4⟩ := keeps_51 (d := d) q 92 0 μ (by omega) h3 h4 hP (fun k hk => absurd hk (Nat.not_lt_zero _))
    rw [Nat.min_eq_left (by omega)]
    refine ⟨μ', X10_keeps_ok (tne ?_ g1), g2, g3, g4⟩
    rw [hP.1]
    exact fun z => by
      have := nI_inj (a := t) (b := 30) (by omega) (by decide) z
      omega
  · have : t = 30 := by omega
    subst this
    obtain ⟨μ', g1, g2, g3, g4⟩ := keeps_11 (d := d) (H := H) 2668 0 μ (by omega) h3 h4 hP.1 (fun j hj k hk _ => hP.2 j hj k hk) (fun j hj k hk q => absurd q (Nat.not_lt_zero _))
    exact ⟨μ', X10_keeps_ok (teq (by rw [hP.1]; rfl) g1), g2, g3, g4⟩
