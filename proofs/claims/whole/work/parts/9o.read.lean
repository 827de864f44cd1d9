/-! ===== read, both sides ===== -/
section Rd
variable {d n : Nat}
section
theorem sP_i {μ : Mem} {a k b : Nat} : (sP μ a k b).1 = μ.1 := rfl
theorem sP_l {μ : Mem} {a k b : Nat} : (sP μ a k b).2.1 = μ.2.1 := rfl
theorem sP_at {μ : Mem} {a k b : Nat} : (sP μ a k b).2.2 a k = b := by
  show va_up μ.2.2 a (va_up (μ.2.2 a) k b) a k = b
  rw [up_same, up_same]
theorem sP_n {μ : Mem} {a k b a' k' : Nat} (h : a' ≠ a) : (sP μ a k b).2.2 a' k' = μ.2.2 a' k' := by
  show va_up μ.2.2 a (va_up (μ.2.2 a) k b) a' k' = _
  rw [up_ne h]
/-- the class begins anew with the plan at q -/
theorem anew_c {P : Pl} {q : Nat} {μ : Mem} (hL : pL P ≤ 4) (hq : q = 214 ∨ q = 233) (h4 : μ.2.2 0 4 = q) (hF : plF P q μ) (hs : μ.1 q 4 = nI (pSt P)) : ∃ μ', X9_beginAnew (d + 4) μ μ' ∧ μ'.2 = (sP μ 9 0 q).2 ∧ (∀ a k, ¬ (a = 10 ∨ (13 ≤ a ∧ a ≤ 17) ∨ (a = 23 ∧ k = 2) ∨ (a = 192 ∧ k = 3) ∨ a = 191) → μ'.1 a k = μ.1 a k) ∧ RowC P 13 μ' (row0 P) ∧ (∀ k, k < 2048 → μ'.1 10 k = 0) ∧ μ'.1 23 2 = 0 ∧ μ'.1 192 3 = 0 ∧ ∀ k, k < 3 → μ'.1 191 k = 0 := by
  obtain ⟨m1, e1⟩ : ∃ m, m = sA (sP μ 9 0 q) 10 (fillTo (μ.1 10) 2048 0) := ⟨_, rfl⟩
  have k1 : Kq (fun a _ => a = 10) (sP μ 9 0 q) m1 := by rw [e1]; exact Kq.sA fun _ => rfl
  have F1 : plF P q m1 := ⟨(k1.at (by omega)).trans hF.1, fun l hl => ⟨(k1.at (by omega)).trans (hF.2 l hl).1, (k1.at (by omega)).trans (hF.2 l hl).2⟩⟩
  obtain ⟨m2, b1, b2, b3⟩ := sbegin_c (d := d) (p := q) (μ := m1) hL (by omega) F1 ((k1.at (by omega)).trans hs)
  obtain ⟨m3, e3⟩ : ∃ m, m = sI m2 23 2 0 := ⟨_, rfl⟩
  obtain ⟨m4, e4⟩ : ∃ m, m = sI m3 192 3 0 := ⟨_, rfl⟩
  obtain ⟨m5, e5⟩ : ∃ m, m = sI (sI (sI m4 191 0 0) 191 1 0) 191 2 0 := ⟨_, rfl⟩
  have k3 : Kq (fun a k => a = 23 ∧ k = 2) m2 m3 := by rw [e3]; exact Kq.sI ⟨rfl, rfl⟩
  have k4 : Kq (fun a k => a = 192 ∧ k = 3) m3 m4 := by rw [e4]; exact Kq.sI ⟨rfl, rfl⟩
  have k5 : Kq (fun a _ => a = 191) m4 m5 := by rw [e5]; exact Kq.trans (Kq.trans (Kq.sI rfl) (Kq.sI rfl)) (Kq.sI rfl)
  have p1 : m1.2.2 0 4 = q := by rw [k1.1, sP_n (by decide)]; exact h4
  refine ⟨m5, X9_beginAnew_ok ⟨m1, ?_, m2, ?_, m3, X2_clear_ok (fun μ1 e => by rw [e]; exact e3), m4, X8_clear_ok (fun μ1 e => by rw [e]; exact e4), ?_⟩, ?_, fun a k z => ?_, ?_, fun k hk => ?_, ?_, ?_, fun k hk => ?_⟩
  · rw [h4]
    refine X7_begin_ok ?_
    rintro μ1 rfl
    exact ⟨m1, by rw [e1]; exact fill_spec (by decide), rfl⟩
  · rw [p1]; exact b1
  · have st : ∀ (j : Nat) (n1 n2 : Mem), j < 3 → X9_beginAnew_at38 (d + 3) (nI (j + 1)) (sI n1 191 j 0) n2 → X9_beginAnew_at38 (d + 3) (nI j) n1 n2 := fun j n1 n2 hj h => by
      refine X9_beginAnew_at38_ok (tneg (nI_ge (b := 3) hj (by decide)) ⟨vp_inN hj (by decide), ?_⟩)
      rw [nI_clamp (by omega), nar0, nI_1]
      rintro μ1 rfl
      exact h
    exact st 0 _ _ (by decide) (st 1 _ _ (by decide) (st 2 _ _ (by decide) (X9_beginAnew_at38_ok (tpos (by decide) e5))))
  · rw [k5.1, k4.1, k3.1, b2.1, k1.1]
  · rw [k5.at (by omega), k4.at (by omega), k3.at (by omega), b2.at (by unfold sbF; omega), k1.at (by omega)]
    rfl
  · exact (b3.kq k3 (fun a j q1 q2 => by omega)).kq k4 (fun a j q1 q2 => by omega) |>.kq k5 (fun a j q1 q2 => by omega)
  · rw [k5.at (by omega), k4.at (by omega), k3.at (by omega), b2.at (by unfold sbF; omega), e1, sA_1]
    unfold fillTo
    rw [if_pos hk]
  · rw [k5.at (by omega), k4.at (by omega), e3, sI_1]
  · rw [k5.at (by omega), e4, sI_1]
  · rw [e5]
    rcases (show k = 0 ∨ k = 1 ∨ k = 2 by omega) with e | e | e
    · rw [e, sI_k (by decide), sI_k (by decide), sI_1]
    · rw [e, sI_k (by decide), sI_1]
    · rw [e, sI_1]
/-- the model begins anew with the side s -/
theorem anew_m {P : Pl} {s : Nat} {μ : Mem} (hs : s < 2) (hL : pL P ≤ 4) (h19 : μ.1 0 19 = nI s) (h15 : μ.1 15 s = nI (pL P)) (hst : μ.1 18 s = nI (pSt P)) (hp : ∀ l, l < pL P → μ.1 17 (4 * s + l) = nI (pPi P l)) : ∃ μ', RdN d μ 0 μ' ∧ Kq (fun a k => (a = 0 ∧ (k = 18 ∨ k = 52 ∨ k = 53 ∨ k = 65)) ∨ a = 33 ∨ a = 34 ∨ a = 45) μ μ' ∧ μ'.1 0 18 = nI s ∧ RowM μ' 33 (row0 P) ∧ μ'.1 0 53 = 0 ∧ μ'.1 0 65 = 0 ∧ ∀ k, k < 3 → μ'.1 45 k = 0 := by
  obtain ⟨m0, e0⟩ : ∃ m, m = sI μ 0 18 (nI s) := ⟨_, rfl⟩
  have k0 : Kq (fun a k => a = 0 ∧ k = 18) μ m0 := by rw [e0]; exact Kq.sI ⟨rfl, rfl⟩
  obtain ⟨m1, a1, a2, a3⟩ := begins_m (d := d) (P := P) (μ := m0) hs hL (by rw [e0, sI_1]) ((k0.at (by omega)).trans h15) ((k0.at (by omega)).trans hst) (fun l hl => (k0.at (by omega)).trans (hp l hl))
  obtain ⟨m2, b1, b2, b3⟩ := keepsRow_m (d := d) a3
  have b2 : Kq (fun a _ => a = 33) m1 m2 := b2.q fun a k q => by simpa using q
  obtain ⟨m3, e3⟩ : ∃ m, m = sI (sI m2 0 53 0) 0 65 0 := ⟨_, rfl⟩
  obtain ⟨m4, e4⟩ : ∃ m, m = sI (sI (sI m3 45 0 0) 45 1 0) 45 2 0 := ⟨_, rfl⟩
  have k3 : Kq (fun a k => a = 0 ∧ (k = 53 ∨ k = 65)) m2 m3 := by rw [e3]; exact (Kq.sI ⟨rfl, by decide⟩).trans (Kq.sI ⟨rfl, by decide⟩)
  have k4 : Kq (fun a _ => a = 45) m3 m4 := by rw [e4]; exact Kq.trans (Kq.trans (Kq.sI rfl) (Kq.sI rfl)) (Kq.sI rfl)
  refine ⟨m4, ⟨m1, by rw [h19, ← e0]; exact a1, m2, b1, ?_⟩, ?_, ?_, fun k hk => ?_, ?_, ?_, fun k hk => ?_⟩
  · rw [← e3]
    have st : ∀ (j : Nat) (n1 n2 : Mem), j < 3 → X10_read_at243 d (nI (j + 1)) (sI n1 45 j 0) 0 n2 → X10_read_at243 d (nI j) n1 0 n2 := fun j n1 n2 hj h => by
      refine X10_read_at243_ok (tneg (nI_ge (b := 3) hj (by decide)) ⟨vp_inN hj (by decide), ?_⟩)
      rw [nI_clamp (by omega), nar0, nI_1]
      rintro μ1 rfl
      exact h
    exact st 0 _ _ (by decide) (st 1 _ _ (by decide) (st 2 _ _ (by decide) (X10_read_at243_ok (tpos (by decide) ⟨rfl, e4⟩))))
  · exact (k0.mono fun a k q => Or.inl ⟨q.1, by have := q.2; omega⟩).trans ((a2.mono fun a k q => by omega).trans ((b2.mono fun a k q => by omega).trans ((k3.mono fun a k q => by omega).trans (k4.mono fun a k q => by omega))))
  · rw [k4.at (by omega), k3.at (by omega), b2.at (by omega), a2.at (by omega), e0, sI_1]
  · rw [k4.at (by omega), k3.at (by omega)]; exact b3 k hk
  · rw [k4.at (by omega), e3, sI_k (by decide), sI_1]
  · rw [k4.at (by omega), e3, sI_1]
  · rw [e4]
    rcases (show k = 0 ∨ k = 1 ∨ k = 2 by omega) with e | e | e
    · rw [e, sI_k (by decide), sI_k (by decide), sI_1]
    · rw [e, sI_k (by decide), sI_1]
    · rw [e, sI_1]
theorem PW_of {P : Pl} (h : PWr P) (hb : pH P ≤ 6 ∧ pF P ≤ 6 ∧ pL P ≤ 4) (ho : okF P) : PW P := by
  obtain ⟨h1, h2, h3, h4, h5, ⟨h6, h7, h8⟩, h9⟩ := h
  exact ⟨h1, hb.1, hb.2.1, hb.2.2, h6, h7, h8, ho, h4, fun l hl => ⟨(h5 l hl).1.1, (h5 l hl).1.2, (h5 l hl).2⟩, h2, h9⟩
/-- a law that was read, where the model's side becomes live -/
theorem mLs.at {s bc cc k : Nat} {W : Lw} {μ : Mem} (hs : s < 2) (h18 : μ.1 0 18 = nI s) (hb : bc ≤ 130 * s + 130) (hc : cc ≤ 420 * s + 402) (hw : W = [] ∨ wfL W) (h : mLs s bc cc μ k W) : mLawAt μ k W := by
  have e := mL_nI hs h18
  rcases h with ⟨z, h1, h2⟩ | ⟨z, b, h1, h2, h3, h4, h5⟩
  · subst z
    exact ⟨0, by rw [e]; exact h1, by rw [e]; exact h2, by decide, trivial, Or.inl rfl, Or.inl rfl⟩
  · obtain ⟨i1, i2⟩ := of_mL' (by omega) h3
    refine ⟨b, by rw [e]; exact h4, by rw [e]; exact h5, by omega, i1, hw, Or.inr ⟨by rw [e]; exact h1, by rw [e]; omega, ?_⟩⟩
    rw [e]
    intro j hj
    obtain ⟨f, e', r1, r2, r3, r4⟩ := i2 j hj
    exact ⟨f, e', r1, r2, by omega, r4⟩
theorem call_read : Both (X9_read (d + 19)) (X10_read (d + 19)) n := by
  rintro μC μM ⟨P, p, r, h⟩
  obtain ⟨⟨hC, hK, hR⟩, ⟨⟨pw, L, hX⟩, hRM⟩, hS, hT, ⟨t, nx, H, hP⟩, ⟨hd, Sl, hSl⟩, ⟨tt, XX, Y, W, hW⟩, hD⟩ := id h
  obtain ⟨S, t1, t2, t3, t4, t5⟩ := hT
  have hpp := hC.pp
  have hL : L < 2 := hX.1
  have h18 : μM.1 0 18 = nI L := hX.2.1
  obtain ⟨d1, d2, d3, d4⟩ := hD
  obtain ⟨q, hq'⟩ : ∃ q, q = 447 - p := ⟨_, rfl⟩
  rw [← hq'] at d1 d2
  have hq : q = 214 ∨ q = 233 := by omega
  obtain ⟨s, hs'⟩ : ∃ s, s = 1 - L := ⟨_, rfl⟩
  obtain ⟨M, T, mC, mM, tv, tc, tm, qc, qm, g0, i0, w0, goC, goM, kC0, kM0, z02⟩ := rd_start (d := d) t1 hq d1 hL h18 t3 t4 d3 d4
  rw [← hs'] at g0 i0 w0 kM0
  have hs : s < 2 := by omega
  rcases rd_all (d := d) tv tc tm qc qm g0 i0 w0 with ⟨f, pl, μC', μM', f6, a1, a2, a3, a4, a5, a6⟩ | ⟨P', N', l', bc, cc, μC1, μC', μM', a1, a2, a3, a4, a5, a6, a7, g, a9, ab, ac⟩
  · -- a fault
    have kC : Kz (allC q) (fun a => a = 7 ∨ a = 8) μC (sI (sI μC' 0 1 0) 0 2 (nI pl)) := ((kC0.mono (fun a k z => Or.inl z) (fun _ z => z)).trans (a5.mono (fun a k z => Or.inl (Or.inr z)) (fun _ z => Or.inr z))).trans (Kz.trans (Kz.sI (Or.inr ⟨rfl, by decide⟩)) (Kz.sI (Or.inr ⟨rfl, by decide⟩)))
    have kM : Kz (allM s) (fun a => a = 6 ∨ a = 8) μM μM' := (kM0.mono (fun a k z => Or.inl z) (fun _ z => z)).trans (a6.mono (fun a k z => z.elim (fun z => Or.inr (Or.inl z)) (fun z => Or.inr (Or.inr z))) (fun _ z => Or.inr z))
    rw [hq'] at kC
    rw [hs'] at kM
    refine ⟨nI f, sI (sI μC' 0 1 0) 0 2 (nI pl), μM', X9_read_ok ⟨nI f, μC', ?_, ?_⟩, goM _ _ a2, h.fault hL h18 kC kM ⟨0, by decide, ?_, ?_, fun k hk => absurd hk (Nat.not_lt_zero _), ?_⟩⟩
    · rw [t2]; exact goC _ _ a1
    · rintro μ4 rfl
      rw [sI_n (show 2 ≠ 0 by decide), a3]
      rintro μ5 rfl
      exact tne (nI_ne0 f6.1 (by have := f6.2; omega)) ⟨rfl, rfl⟩
    · rw [sI_k (by decide), sI_1]; rfl
    · rw [a6.at (fun z => z.elim (fun z => by have := rdM_in z; omega) (fun z => by omega))]; exact z02
    · rw [sI_1]; exact a4.symm
  · -- taken
    obtain ⟨pwr, ⟨⟨x11, x12, x13⟩, x2, x3, x4, x5⟩, ⟨y11, y12, y13⟩, y2, y3, y4, y5⟩ := g.con a7
    have pw' : PW P' := PW_of pwr g.b6 a6
    obtain ⟨bH, bF, bL⟩ := g.b6
    obtain ⟨mA, eA⟩ : ∃ m, m = sI (sI μC' 0 1 0) 0 2 (-1) := ⟨_, rfl⟩
    have kA : Kz (fun a k => a = 0 ∧ (k = 1 ∨ k = 2)) (fun _ => False) μC' mA := by rw [eA]; exact (Kz.sI ⟨rfl, by decide⟩).trans (Kz.sI ⟨rfl, by decide⟩)
    have pq : mA.2.2 2 1 = q := by rw [kA.2.2, a4.2.2, kC0.2.2]; exact d1
    have pp : mA.2.2 0 4 = p := by rw [kA.2.2, a4.2.2, kC0.2.2]; exact hC.2.2.1
    have kall : Kz (allC q) (fun a => a = 7 ∨ a = 8) μC mA := ((kC0.mono (fun a k z => Or.inl z) (fun _ z => z)).trans (a4.mono (fun a k z => Or.inl (Or.inr z)) (fun _ z => Or.inr z))).trans (kA.mono (fun a k z => Or.inr z) (fun _ z => z.elim))
    obtain ⟨mB, eB⟩ : ∃ m, m = sP (sP mA 0 4 q) 2 1 p := ⟨_, rfl⟩
    have iB : mB.1 = mA.1 := by rw [eB]; rfl
    have p04 : mB.2.2 0 4 = q := by rw [eB, sP_n (by decide), sP_at]
    have p21 : mB.2.2 2 1 = p := by rw [eB, sP_at]
    have e1 : ∀ a k, q ≤ a → mB.1 a k = μC1.1 a k := fun a k z => by rw [iB, kA.at (by omega), a9.at (by omega)]
    obtain ⟨mF, b1, b2, b3, b4, b5, b6, b7, b8⟩ := anew_c (d := d + 14) (P := P') (μ := mB) bL hq p04 ⟨by rw [e1 _ _ (by omega)]; exact g.c3, fun l hl => ⟨by rw [e1 _ _ (by omega)]; exact (x3 l hl).1, by rw [e1 _ _ (by omega)]; exact (x3 l hl).2⟩⟩ (by rw [e1 _ _ (by omega)]; exact x11)
    have eF : ∀ a k, q ≤ a → mF.1 a k = μC1.1 a k := fun a k z => by rw [b3 a k (by omega), e1 a k z]
    have eO : ∀ a k, ¬ allC q a k → ¬ (a = 10 ∨ (13 ≤ a ∧ a ≤ 17) ∨ (a = 23 ∧ k = 2) ∨ (a = 192 ∧ k = 3) ∨ a = 191) → mF.1 a k = μC.1 a k := fun a k z y => by rw [b3 a k y, iB, kall.at z]
    have nC : ∀ a k, ¬ ((a = 0 ∧ (k = 1 ∨ k = 2)) ∨ a = 2 ∨ a = 3 ∨ a = 5 ∨ a = 6 ∨ (q ≤ a ∧ a ≤ q + 8) ∨ a = q + 11 ∨ a = q + 12 ∨ a = q + 15 ∨ a = q + 16) → ¬ allC q a k := fun a k z y => z (allC_in y)
    have lF : ∀ {a pl : Nat} {W : Lw}, q ≤ a → cLawAt μC1 a pl W → cLawAt mF a pl W := fun z y => y.of (eF _ _ z) (funext fun j => eF _ _ (by omega))
    obtain ⟨mN, c1, c2, c3, c4, c5, c6, c7⟩ := anew_m (d := d + 18) (P := P') (s := s) (μ := sI μM' 0 17 (-1)) hs bL (by rw [sI_k (by decide)]; exact g.ms) (by rw [sI_n (by decide)]; exact g.m3) (by rw [sI_n (by decide)]; exact y11) (fun l hl => by rw [sI_n (by decide)]; exact (y3 l hl).2)
    have kN : Kz (fun a k => (a = 0 ∧ (k = 17 ∨ k = 18 ∨ k = 52 ∨ k = 53 ∨ k = 65)) ∨ a = 33 ∨ a = 34 ∨ a = 45) (fun _ => False) μM' mN := Kz.trans (Kz.sI (Or.inl ⟨rfl, by decide⟩)) ⟨fun a k z => c2.at (fun y => z (by omega)), fun a _ => by rw [c2.1], by rw [c2.1]⟩
    have eN : ∀ a k, 9 ≤ a → a ≤ 29 → mN.1 a k = μM'.1 a k := fun a k z1 z2 => kN.at (by omega)
    have kMl : Kz (allM s) (fun a => a = 6 ∨ a = 8) μM μM' := (kM0.mono (fun a k z => Or.inl z) (fun _ z => z)).trans (a5.mono (fun a k z => Or.inr (Or.inl z)) (fun _ z => Or.inr z))
    have y5' : CmG P' s bc cc mN := CmG.kz y5 kN (fun a j h1 h2 => by omega)
    have q2 : mF.2.2 = (sP mB 9 0 q).2.2 := by rw [b2]
    have l2 : mF.2.1 = mA.2.1 := by rw [b2, eB]; rfl
    refine ⟨0, mF, mN, X9_read_ok ⟨0, μC', ?_, ?_⟩, goM _ _ (a2 _ _ c1), P', q, row0 P', ⟨⟨pw', hq, ?_, ?_, ⟨?_, ?_, ?_, ?_, ?_, ?_, ?_⟩, fun c hc => ?_, fun f hf => ⟨?_, ?_, ?_⟩, fun l hl => ⟨?_, ?_⟩, ⟨lF (by omega) x5.1, lF (by omega) x5.2.1, lF (by omega) x5.2.2⟩, ?_⟩, fun l k hl hk => Or.inl (b5 _ (by omega)), b4⟩, ⟨⟨pw', s, hs, c3, ?_, ?_, ?_, ?_, ?_, ?_, ?_, fun c hc => ?_, fun f hf => ⟨?_, ?_⟩, fun l hl => ⟨?_, ?_⟩, fun k hk => mLs.at hs c3 ab ac (pwr.2.2.2.2.2.2 k hk) (y5' k hk)⟩, c4⟩, SW_0 pw' (by omega), ⟨0, by decide, ?_, ?_, fun k hk => absurd hk (Nat.not_lt_zero _), ?_⟩, ⟨0, nx, H, by decide, hP.2.1, b6, ?_, c5, fun i hi => absurd hi (Nat.not_lt_zero _)⟩, ⟨fun _ => false, fun _ _ => 0, fun k hk => ⟨b8 k hk, c7 k hk, fun z => by cases z⟩⟩, ⟨0, XX, Y, W, by decide, b7, c6, fun i hi => absurd hi (Nat.not_lt_zero _)⟩, ⟨?_, ?_, fun i hi => ?_, fun i hi => ?_⟩⟩
    · rw [t2]; exact goC _ _ a1
    · rintro μ4 rfl
      rw [sI_n (show 2 ≠ 0 by decide), a3]
      rintro μ5 rfl
      rw [← eA]
      refine teq rfl ?_
      rw [pq, pp]
      rintro μ6 rfl μ7 rfl
      rw [← eB]
      exact ⟨mF, b1, rfl, rfl⟩
    · rw [q2, sP_n (by decide)]; exact p04
    · rw [q2, sP_at]
    · rw [eF _ _ (by omega)]; exact x4.1
    · rw [eF _ _ (by omega)]; exact g.c1
    · rw [eF _ _ (by omega)]; exact g.c2
    · rw [eF _ _ (by omega)]; exact g.c3
    · rw [eF _ _ (by omega)]; exact x11
    · rw [eF _ _ (by omega)]; exact x12
    · rw [eF _ _ (by omega)]; exact x13
    · rw [eF _ _ (by omega)]; exact x4.2.1 c hc
    · rw [eF _ _ (by omega)]; exact x4.2.2 f (by omega)
    · rw [eF _ _ (by omega)]; exact (x2 f hf).1
    · rw [eF _ _ (by omega)]; exact (x2 f hf).2
    · rw [eF _ _ (by omega)]; exact (x3 l hl).1
    · rw [eF _ _ (by omega)]; exact (x3 l hl).2
    · obtain ⟨⟨v1, v2, v3, v4⟩, ⟨v5, v6, v7, v8, v9⟩, va⟩ := d2
      have z : ∀ a k, (a = q + 10 ∨ a = q + 14 ∨ a = q + 18) → mF.1 a k = μC.1 a k := fun a k y => eO a k (nC a k (by omega)) (by omega)
      exact ⟨⟨(z _ _ (by omega)).trans v1, (z _ _ (by omega)).trans v2, (z _ _ (by omega)).trans v3, (z _ _ (by omega)).trans v4⟩, ⟨(z _ _ (by omega)).trans v5, (z _ _ (by omega)).trans v6, (z _ _ (by omega)).trans v7, (z _ _ (by omega)).trans v8, (z _ _ (by omega)).trans v9⟩, fun i i1 i2 => (z _ _ (by omega)).trans (va i i1 i2)⟩
    · rw [eN _ _ (by decide) (by decide)]; exact y4.1
    · rw [eN _ _ (by decide) (by decide)]; exact g.m1
    · rw [eN _ _ (by decide) (by decide)]; exact g.m2
    · rw [eN _ _ (by decide) (by decide)]; exact g.m3
    · rw [eN _ _ (by decide) (by decide)]; exact y11
    · rw [eN _ _ (by decide) (by decide)]; exact y12
    · rw [eN _ _ (by decide) (by decide)]; exact y13
    · rw [eN _ _ (by decide) (by decide)]; exact y4.2 c hc
    · rw [eN _ _ (by decide) (by decide)]; exact (y2 f hf).1
    · rw [eN _ _ (by decide) (by decide)]; exact (y2 f hf).2
    · rw [eN _ _ (by decide) (by decide)]; exact (y3 l hl).1
    · rw [eN _ _ (by decide) (by decide)]; exact (y3 l hl).2
    · rw [b3 _ _ (by omega), iB, eA, sI_k (by decide), sI_1]; rfl
    · rw [kN.at (by omega), a5.at (fun z => by have := rdM_in z; omega)]; exact z02
    · rw [b3 _ _ (by omega), iB, eA, sI_1, c2.at (by omega), sI_1]
    · rw [eO _ _ (nC _ _ (by omega)) (by omega)]; exact hP.2.2.2.1
    · rw [q2, sP_n (by decide), p21]; omega
    · obtain ⟨⟨v1, v2, v3, v4⟩, ⟨v5, v6, v7, v8, v9⟩, va⟩ := hC.2.2.2.2.2.2.2.2.2
      rw [show 447 - q = p by omega]
      have z : ∀ a k, (a = p + 10 ∨ a = p + 14 ∨ a = p + 18) → mF.1 a k = μC.1 a k := fun a k y => eO a k (nC a k (by omega)) (by omega)
      exact ⟨⟨(z _ _ (by omega)).trans v1, (z _ _ (by omega)).trans v2, (z _ _ (by omega)).trans v3, (z _ _ (by omega)).trans v4⟩, ⟨(z _ _ (by omega)).trans v5, (z _ _ (by omega)).trans v6, (z _ _ (by omega)).trans v7, (z _ _ (by omega)).trans v8, (z _ _ (by omega)).trans v9⟩, fun i i1 i2 => (z _ _ (by omega)).trans (va i i1 i2)⟩
    · rw [l2, kall.lg (by decide)]; exact d3 i hi
    · rw [kN.lg (fun z => z), kMl.lg (by decide)]; exact d4 i hi
end
end Rd
