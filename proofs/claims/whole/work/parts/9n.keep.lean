/-! ===== read: what a text that is not taken leaves; the laws of a side ===== -/
section Rd
variable {d : Nat}
section
theorem mB'.sm {C0 ce b : Nat} {q : Br} {μ μ' : Mem} (h : mB' C0 ce b q μ) (h1 : ∀ a, 23 ≤ a → a ≤ 27 → μ'.1 a b = μ.1 a b) (h2 : ∀ j, C0 ≤ j → j < ce → μ'.1 28 j = μ.1 28 j ∧ μ'.1 29 j = μ.1 29 j) : mB' C0 ce b q μ' := by
  obtain ⟨t, e, g1, g2, g3, g4, g5, g6⟩ := h
  obtain ⟨o, w⟩ := q
  cases o with
  | none => exact ⟨t, e, (h1 26 (by decide) (by decide)).trans g1, (h1 27 (by decide) (by decide)).trans g2, mC_same (fun j k1 k2 => h2 j (by have := g6.2; omega) (by omega)) g3, g4, g5, (h1 23 (by decide) (by decide)).trans g6.1, g6.2⟩
  | some uv =>
    obtain ⟨u, v⟩ := uv
    obtain ⟨k0, f, m, k1, k2, k3, k4, k5, k6, k7⟩ := g6
    exact ⟨t, e, (h1 26 (by decide) (by decide)).trans g1, (h1 27 (by decide) (by decide)).trans g2, mC_same (fun j y1 y2 => h2 j (by omega) (by omega)) g3, g4, g5, (h1 23 (by decide) (by decide)).trans k0, f, m, k1, (h1 24 (by decide) (by decide)).trans k2, (h1 25 (by decide) (by decide)).trans k3, mC_same (fun j y1 y2 => h2 j (by omega) (by omega)) k4, k5, mC_same (fun j y1 y2 => h2 j (by omega) (by omega)) k6, k7⟩
theorem mL'.sm {C0 ce : Nat} {μ μ' : Mem} : ∀ {L : Lw} {b : Nat}, mL' C0 ce μ b L → (∀ a k, 23 ≤ a → a ≤ 27 → b ≤ k → k < b + L.length → μ'.1 a k = μ.1 a k) → (∀ j, C0 ≤ j → j < ce → μ'.1 28 j = μ.1 28 j ∧ μ'.1 29 j = μ.1 29 j) → mL' C0 ce μ' b L
  | [], _, _, _, _ => trivial
  | q :: r, b, h, h1, h2 => ⟨h.1.sm (fun a k1 k2 => h1 a b k1 k2 (Nat.le_refl _) (by rw [List.length_cons]; omega)) h2, mL'.sm h.2 (fun a k k1 k2 k3 k4 => h1 a k k1 k2 (by omega) (by rw [List.length_cons]; omega)) h2⟩
def regJ (C0 ce : Nat) (μ : Mem) (b : Nat) (L : Lw) : Prop := ∀ j, j < L.length → ∃ f e, C0 ≤ f ∧ f ≤ e ∧ e ≤ ce ∧ μ.1 27 (b + j) = nI e ∧ (μ.1 23 (b + j) = 0 → μ.1 26 (b + j) = nI f) ∧ (μ.1 23 (b + j) = 1 → μ.1 24 (b + j) = nI f)
theorem regJ.s {C0 ce b : Nat} {q : Br} {r : Lw} {μ : Mem} (h : regJ C0 ce μ b (q :: r)) : regJ C0 ce μ (b + 1) r := fun j hj => by
  have := h (j + 1) (by rw [List.length_cons]; omega)
  rw [show b + (j + 1) = b + 1 + j by omega] at this
  exact this
theorem mL'_of {C0 ce : Nat} {μ : Mem} (hce : ce ≤ 840) : ∀ {L : Lw} {b : Nat}, mLaw μ b L → regJ C0 ce μ b L → mL' C0 ce μ b L
  | [], _, _, _ => trivial
  | q :: r, b, h, hr => by
    refine ⟨?_, mL'_of hce h.2 hr.s⟩
    obtain ⟨t, e, g1, g2, g3, g4, g5, g6⟩ := h.1
    obtain ⟨f, e', r1, r2, r3, r4, r5, r6⟩ := hr 0 (by rw [List.length_cons]; omega)
    rw [Nat.add_zero] at r4 r5 r6
    have ee : e = e' := nI_inj (by omega) (by omega) (g2.symm.trans r4)
    subst ee
    obtain ⟨o, w⟩ := q
    cases o with
    | none =>
      have ef : t = f := nI_inj (by have : t + w.length = e := g4; omega) (by omega) (g1.symm.trans (r5 g6))
      exact ⟨t, e, g1, g2, g3, g4, r3, g6, by omega⟩
    | some uv =>
      obtain ⟨u, v⟩ := uv
      obtain ⟨k0, f', m, k1, k2, k3, k4, k5, k6⟩ := g6
      have ef : f' = f := nI_inj (by have : t + w.length = e := g4; omega) (by omega) (k1.symm.trans (r6 k0))
      exact ⟨t, e, g1, g2, g3, g4, r3, k0, f', m, by omega, k1, k2, k3, k4, k5, k6⟩
theorem of_mL' {C0 ce : Nat} {μ : Mem} (hce : ce ≤ 840) : ∀ {L : Lw} {b : Nat}, mL' C0 ce μ b L → mLaw μ b L ∧ regJ C0 ce μ b L
  | [], _, _ => ⟨trivial, fun j hj => absurd hj (Nat.not_lt_zero _)⟩
  | q :: r, b, h => by
    obtain ⟨i1, i2⟩ := of_mL' hce h.2
    obtain ⟨t, e, g1, g2, g3, g4, g5, g6⟩ := h.1
    have key : mBr μ b q ∧ ∃ f e, C0 ≤ f ∧ f ≤ e ∧ e ≤ ce ∧ μ.1 27 b = nI e ∧ (μ.1 23 b = 0 → μ.1 26 b = nI f) ∧ (μ.1 23 b = 1 → μ.1 24 b = nI f) := by
      obtain ⟨o, w⟩ := q
      cases o with
      | none => exact ⟨⟨t, e, g1, g2, g3, g4, by omega, g6.1⟩, t, e, g6.2, by have : t + w.length = e := g4; omega, g5, g2, fun _ => g1, fun z => absurd (g6.1.symm.trans z) (by decide)⟩
      | some uv =>
        obtain ⟨u, v⟩ := uv
        obtain ⟨k0, f, m, k1, k2, k3, k4, k5, k6, k7⟩ := g6
        exact ⟨⟨t, e, g1, g2, g3, g4, by omega, k0, f, m, k2, k3, k4, k5, k6, k7⟩, f, e, k1, by have : t + w.length = e := g4; omega, g5, g2, fun z => absurd (k0.symm.trans z) (by decide), fun _ => k2⟩
    refine ⟨⟨key.1, i1⟩, fun j hj => ?_⟩
    by_cases e0 : j = 0
    · subst e0; rw [Nat.add_zero]; exact key.2
    · have := i2 (j - 1) (by rw [List.length_cons] at hj; omega)
      rw [show b + 1 + (j - 1) = b + j by omega] at this
      exact this
theorem mL_nI {L : Nat} {μ : Mem} (hL : L < 2) (h : μ.1 0 18 = nI L) : mL μ = L := by
  unfold mL
  rw [h]
  exact nI_clamp (by omega)
/-- a law of the live side stays while the other side is read -/
theorem mLawAt.rd {L k : Nat} {W : Lw} {μ μ' : Mem} (hL : L < 2) (hk : k < 3) (h18 : μ.1 0 18 = nI L) (h18' : μ'.1 0 18 = nI L) (e : ∀ a j, 9 ≤ a → a ≤ 29 → ¬ rdM (1 - L) a j → μ'.1 a j = μ.1 a j) (h : mLawAt μ k W) : mLawAt μ' k W := by
  have m1 := mL_nI hL h18
  have m2 := mL_nI hL h18'
  obtain ⟨b, h1, h2, h3, h4, h5, h6⟩ := h
  rw [m1] at h1 h2
  refine ⟨b, by rw [m2, e 21 _ (by decide) (by decide) (by unfold rdM; omega)]; exact h1, by rw [m2, e 22 _ (by decide) (by decide) (by unfold rdM; omega)]; exact h2, h3, ?_, h5, ?_⟩
  · rcases h6 with z | z
    · subst z; trivial
    · obtain ⟨z1, z2, z3⟩ := z
      rw [m1] at z1 z2 z3
      exact (of_mL' (by omega) ((mL'_of (C0 := 420 * L) (ce := 420 * L + 420) (by omega) h4 z3).sm (fun a j y1 y2 y3 y4 => e a j (by omega) (by omega) (by unfold rdM; omega)) (fun j y1 y2 => ⟨e 28 j (by decide) (by decide) (by unfold rdM; omega), e 29 j (by decide) (by decide) (by unfold rdM; omega)⟩))).1
  · rcases h6 with z | z
    · exact Or.inl z
    · obtain ⟨z1, z2, z3⟩ := z
      rw [m1] at z1 z2 z3
      right
      refine ⟨by rw [m2]; exact z1, by rw [m2]; exact z2, ?_⟩
      rw [m2]
      exact (of_mL' (by omega) ((mL'_of (C0 := 420 * L) (ce := 420 * L + 420) (by omega) h4 z3).sm (fun a j y1 y2 y3 y4 => e a j (by omega) (by omega) (by unfold rdM; omega)) (fun j y1 y2 => ⟨e 28 j (by decide) (by decide) (by unfold rdM; omega), e 29 j (by decide) (by decide) (by unfold rdM; omega)⟩))).2
theorem MPl.rd {P : Pl} {L : Nat} {μ μ' : Mem} (h : MPl P μ L) (h18 : μ'.1 0 18 = μ.1 0 18) (e : ∀ a j, 9 ≤ a → a ≤ 29 → ¬ rdM (1 - L) a j → μ'.1 a j = μ.1 a j) (hw : pW P ≤ 8) (hh : pH P ≤ 6) (hf : pF P ≤ 6) (hl : pL P ≤ 4) : MPl P μ' L := by
  obtain ⟨h1, h2, h3, h4, h5, h6, h7, h8, h9, h10, h11, h12, h13⟩ := h
  refine ⟨h1, h18.trans h2, ?_, ?_, ?_, ?_, ?_, ?_, ?_, fun c q => ?_, fun f q => ⟨?_, ?_⟩, fun l q => ⟨?_, ?_⟩, fun k q => (h13 k q).rd h1 q h2 (h18.trans h2) e⟩
  · rw [e 10 _ (by decide) (by decide) (by unfold rdM; omega)]; exact h3
  · rw [e 9 _ (by decide) (by decide) (by unfold rdM; omega)]; exact h4
  · rw [e 12 _ (by decide) (by decide) (by unfold rdM; omega)]; exact h5
  · rw [e 15 _ (by decide) (by decide) (by unfold rdM; omega)]; exact h6
  · rw [e 18 _ (by decide) (by decide) (by unfold rdM; omega)]; exact h7
  · rw [e 19 _ (by decide) (by decide) (by unfold rdM; omega)]; exact h8
  · rw [e 20 _ (by decide) (by decide) (by unfold rdM; omega)]; exact h9
  · have hc' := q
    unfold onL at hc'
    rw [Bool.and_eq_true_iff] at hc'
    have c1 := of_decide_eq_true hc'.1
    have c2 := of_decide_eq_true hc'.2
    have c48 : c < 48 := by omega
    rw [e 11 _ (by decide) (by decide) (by unfold rdM; omega)]; exact h10 c q
  · rw [e 13 _ (by decide) (by decide) (by unfold rdM; omega)]; exact (h11 f q).1
  · rw [e 14 _ (by decide) (by decide) (by unfold rdM; omega)]; exact (h11 f q).2
  · rw [e 16 _ (by decide) (by decide) (by unfold rdM; omega)]; exact (h12 l q).1
  · rw [e 17 _ (by decide) (by decide) (by unfold rdM; omega)]; exact (h12 l q).2
/-- the frames of a whole read -/
def allC (q a k : Nat) : Prop := gC q a k ∨ (a = 0 ∧ (k = 1 ∨ k = 2))
def allM (s a k : Nat) : Prop := gM s a k ∨ rdM s a k ∨ (a = 0 ∧ k = 17)
theorem rdC_in {q a k : Nat} (z : rdC q a k) : a = 2 ∨ (q ≤ a ∧ a ≤ q + 8) ∨ a = q + 11 ∨ a = q + 12 ∨ a = q + 15 ∨ a = q + 16 := by
  rcases z with z | z | z | z | z | z | z
  · exact Or.inl z.1
  · exact Or.inr (Or.inl ⟨by have := z.1; omega, by have := z.1; omega⟩)
  · exact Or.inr (Or.inl ⟨by omega, by omega⟩)
  · have := z.1; omega
  · omega
  · omega
  · omega
theorem allC_in {q a k : Nat} (z : allC q a k) : (a = 0 ∧ (k = 1 ∨ k = 2)) ∨ a = 2 ∨ a = 3 ∨ a = 5 ∨ a = 6 ∨ (q ≤ a ∧ a ≤ q + 8) ∨ a = q + 11 ∨ a = q + 12 ∨ a = q + 15 ∨ a = q + 16 := by
  rcases z with (z | z) | z
  · unfold tkC at z; omega
  · have := rdC_in z; omega
  · exact Or.inl z
theorem rdM_in {s a k : Nat} (z : rdM s a k) : (a = 0 ∧ (k = 11 ∨ k = 12 ∨ k = 13 ∨ k = 14 ∨ k = 15 ∨ k = 16 ∨ k = 20 ∨ k = 36 ∨ k = 42 ∨ k = 46)) ∨ (9 ≤ a ∧ a ≤ 30) := by
  rcases z with z | z | z | z | z | z | z | z | z
  · exact Or.inl z
  · exact Or.inr ⟨by omega, by omega⟩
  · have := z.1; exact Or.inr ⟨by omega, by omega⟩
  · have := z.1; exact Or.inr ⟨by omega, by omega⟩
  · have := z.1; exact Or.inr ⟨by omega, by omega⟩
  · have := z.1; exact Or.inr ⟨by omega, by omega⟩
  · have := z.1; exact Or.inr ⟨by omega, by omega⟩
  · exact Or.inr ⟨by have := z.1; omega, by have := z.2.1; omega⟩
  · have := z.1; exact Or.inr ⟨by omega, by omega⟩
theorem plM_rd {s a k : Nat} (z : plM s a k) : rdM s a k := by
  rcases z with z | z
  · exact Or.inr (Or.inr (Or.inl z))
  · exact Or.inr (Or.inr (Or.inr (Or.inr (Or.inr (Or.inr (Or.inl z))))))
theorem allM_in {s a k : Nat} (z : allM s a k) : (a = 0 ∧ (k = 2 ∨ k = 4 ∨ k = 10 ∨ k = 11 ∨ k = 12 ∨ k = 13 ∨ k = 14 ∨ k = 15 ∨ k = 16 ∨ k = 17 ∨ k = 19 ∨ k = 20 ∨ k = 36 ∨ k = 42 ∨ k = 46)) ∨ (2 ≤ a ∧ a ≤ 5) ∨ (9 ≤ a ∧ a ≤ 30) := by
  rcases z with (z | z | z | z | z) | z | z
  · unfold tkM at z; omega
  · exact Or.inr (Or.inl ⟨by omega, by omega⟩)
  · exact Or.inl ⟨z.1, by have := z.2; omega⟩
  · exact Or.inl ⟨z.1, by have := z.2; omega⟩
  · have := rdM_in (plM_rd z); omega
  · have := rdM_in z; omega
  · exact Or.inl ⟨z.1, by omega⟩
/-- ahead of row 9 only, or the side that is read -/
theorem allM_9 {s a k : Nat} (h9 : 9 ≤ a) (h29 : a ≤ 29) (z : allM s a k) : rdM s a k := by
  rcases z with (z | z | z | z | z) | z | z
  · unfold tkM at z; omega
  · omega
  · omega
  · omega
  · exact plM_rd z
  · exact z
  · omega
theorem CP.same {P : Pl} {p : Nat} {μ μ' : Mem} (h : CP P p μ) (e1 : μ'.1 = μ.1) (e2 : μ'.2.2 = μ.2.2) : CP P p μ' := by
  obtain ⟨i, l, r⟩ := μ
  obtain ⟨i', l', r'⟩ := μ'
  have e1 : i' = i := e1
  have e2 : r' = r := e2
  subst e1 e2
  obtain ⟨pw, hp, g1, g2, ns, hl, hf, hw, ⟨w0, w1, w2⟩, z⟩ := h
  exact ⟨pw, hp, g1, g2, ns, hl, hf, hw, ⟨w0.of rfl rfl, w1.of rfl rfl, w2.of rfl rfl⟩, z⟩
theorem SimP.fault {n p L : Nat} {P : Pl} {r : Nat → Nat} {μC μM μC' μM' : Mem} (h : SimP n P p r μC μM) (hL : L < 2) (h18 : μM.1 0 18 = nI L) (kC : Kz (allC (447 - p)) (fun a => a = 7 ∨ a = 8) μC μC') (kM : Kz (allM (1 - L)) (fun a => a = 6 ∨ a = 8) μM μM') (hT' : TapeR μC' μM') : Sim (n + 1) μC' μM' := by
  refine SimP.next (p := p) (P := P) (r := r) ?_
  obtain ⟨⟨hC, hK, hR⟩, ⟨⟨pw, X, hX⟩, hRM⟩, hS, hT, ⟨t, nx, H, hP⟩, ⟨hd, S, hSl⟩, ⟨tt, XX, Y, W, hW⟩, hD⟩ := h
  have hpp := hC.pp
  have eX : X = L := nI_inj (by have := hX.1; omega) (by omega) (hX.2.1.symm.trans h18)
  subst eX
  have kC' : Kq (allC (447 - p)) μC (μC'.1, μC.2) := ⟨rfl, kC.1⟩
  have kM' : Kq (allM (1 - X)) μM (μM'.1, μM.2) := ⟨rfl, kM.1⟩
  have nC : ∀ a k, ¬ ((a = 0 ∧ (k = 1 ∨ k = 2)) ∨ a = 2 ∨ a = 3 ∨ a = 5 ∨ a = 6 ∨ (447 - p ≤ a ∧ a ≤ 447 - p + 8) ∨ a = 447 - p + 11 ∨ a = 447 - p + 12 ∨ a = 447 - p + 15 ∨ a = 447 - p + 16) → ¬ allC (447 - p) a k := fun a k z y => z (allC_in y)
  have nM : ∀ a k, ¬ ((a = 0 ∧ (k = 2 ∨ k = 4 ∨ k = 10 ∨ k = 11 ∨ k = 12 ∨ k = 13 ∨ k = 14 ∨ k = 15 ∨ k = 16 ∨ k = 17 ∨ k = 19 ∨ k = 20 ∨ k = 36 ∨ k = 42 ∨ k = 46)) ∨ (2 ≤ a ∧ a ≤ 5) ∨ (9 ≤ a ∧ a ≤ 30)) → ¬ allM (1 - X) a k := fun a k z y => z (allM_in y)
  have hC' : CP P p (μC'.1, μC.2) := hC.kq (kC'.mono fun a k q => by have := allC_in q; unfold nPl; omega)
  have rC : ∀ s, 13 ≤ s ∧ s + 4 < 192 → ∀ r, RowC P s μC r → RowC P s (μC'.1, μC.2) r := fun s hs r q => q.kq kC' fun a j q1 q2 => nC a j (by omega)
  refine ⟨⟨hC'.same rfl kC.2.2, (hK.of (μ' := (μC'.1, μC.2)) (funext fun j => kC.at (nC _ _ (by omega))) (funext fun j => kC.at (nC _ _ (by omega))) : Kc P (μC'.1, μC.2)), rC 13 (by omega) r hR⟩, ⟨⟨pw, X, ?_⟩, fun k hk => by rw [kM.at (nM _ _ (by omega))]; exact hRM k hk⟩, hS, hT', ⟨t, nx, H, ?_⟩, ⟨hd, S, ?_⟩, ⟨tt, XX, Y, W, ?_⟩, ?_⟩
  · obtain ⟨w1, w2, w3, w4, _⟩ := pw
    exact hX.rd (kM.at (nM _ _ (by omega))) (fun a j y1 y2 y3 => kM.at fun z => y3 (allM_9 y1 y2 z)) w1 w2 w3 w4
  · obtain ⟨p1, p2, p3, p4, p5, p6⟩ := hP
    refine ⟨p1, p2, by rw [kC.at (nC _ _ (by omega))]; exact p3, by rw [kC.at (nC _ _ (by omega))]; exact p4, by rw [kM.at (nM _ _ (by omega))]; exact p5, fun i hi => ⟨rC _ (by omega) _ (p6 i hi).1, (p6 i hi).2.1, fun k hk => ?_⟩⟩
    rw [kM.at (nM _ _ (by omega))]
    exact (p6 i hi).2.2 k hk
  · have z : SlotR P (99 + 720 * n) hd S (μC'.1, μC.2) (μM'.1, μM.2) := hSl.kq kC' kM' (fun a k q1 q2 => nC a k (by omega)) (fun k => nM 45 k (by omega)) (fun k => nM 46 k (by omega))
    exact z
  · have z : ToldR P tt XX Y W (μC'.1, μC.2) (μM'.1, μM.2) := hW.kq kC' kM' (nC 192 3 (by omega)) (fun a k q1 q2 => nC a k (by omega)) (nM 0 65 (by omega)) (fun k => nM 41 k (by omega)) (fun k => nM 42 k (by omega))
    exact z
  · obtain ⟨d1, d2, d3, d4⟩ := hD.kq kC' kM' (fun a k q => nC a k (by omega))
    refine ⟨by rw [kC.2.2]; exact d1, d2, fun i hi => ?_, fun i hi => ?_⟩
    · rw [kC.lg (by decide)]; exact d3 i hi
    · rw [kM.lg (by decide)]; exact d4 i hi
end
end Rd
