section Days
variable {P : Pl} {p s : Nat} {d : Nat}
/-- how much water a CELL of a scene has is set -/
theorem RowC.water {μ : Mem} {r : Nat → Nat} {c v : Nat} (pw : PW P) (h : RowC P s μ r) (hc : c < 48) : RowC P s (sI μ (s + 1) c (nI v)) (updN r c v) := by
  have h4 := pw.2.2.2.1
  obtain ⟨h0, h1, h2, h3, h5, h6⟩ := h
  have e : ∀ a, a ≠ s + 1 → (sI μ (s + 1) c (nI v)).1 a = μ.1 a := fun a n => sI_n n
  refine ⟨by rw [e s (by omega), updN_ne (by omega)]; exact h0, by rw [e s (by omega), updN_ne (by omega)]; exact h1, fun i hi => ?_, fun l hl => ?_, fun l q1 q2 => by rw [e _ (by omega)]; exact h5 l q1 q2, fun g hg => ⟨?_, ?_⟩⟩
  · by_cases q : i = c
    · subst q
      rw [sI_1, updN_same]
    · rw [sI_k q, updN_ne q]
      exact h2 i hi
  · have := h3 l hl
    rw [e _ (by omega)]
    unfold LoomC ordI at this ⊢
    rw [updN_ne (j := 48 + l) (by omega), updN_ne (j := 52 + l) (by omega), updN_ne (j := 56 + l) (by omega), updN_ne (j := 60 + l) (by omega), updN_ne (j := 64 + l) (by omega), updN_ne (j := 68 + l) (by omega), updN_ne (j := 72 + l) (by omega)]
    exact this
  · rw [e _ (by omega), updN_ne (by omega)]
    exact (h6 g hg).1
  · rw [e _ (by omega), updN_ne (by omega)]
    exact (h6 g hg).2
def sDr (p s a k : Nat) : Prop := a = s + 1 ∨ a = p + 13 ∨ (a = p + 14 ∧ (k = 3 ∨ k = 4 ∨ k = 5 ∨ k = 6))
theorem sDr_d {μ μ' : Mem} (h : Kq (sDr p s) μ μ') : Kq (sDy p s) μ μ' := h.mono fun a k q => by
  unfold sDr at q
  unfold sDy
  omega
theorem sDr_n {μ μ' : Mem} (hp : p = 214 ∨ p = 233) (hs : 13 ≤ s ∧ s + 4 < 192) (h : Kq (sDr p s) μ μ') : Kq (nPl p) μ μ' := h.mono fun a k q => by
  unfold sDr at q
  unfold nPl
  omega
theorem mx0_sub {a b : Nat} (ha : a < 2 ^ 31) (hb : b < 2 ^ 31) : mx 0 (nI a - nI b) = nI (a - b) := by
  unfold mx
  by_cases h : b < a
  · rw [nI_sub (by omega), if_pos (show (0 : Int32) < nI (a - b) from nI_lt (a := 0) (by omega) (by omega))]
  · have : ¬ (0 : Int32) < nI a - nI b := by
      rw [Int32.lt_iff_toInt_lt, Int32.toInt_sub, nI_toInt ha, nI_toInt hb, show (0 : Int32).toInt = 0 from rfl, Int.bmod_eq_of_le (by omega) (by omega)]
      omega
    rw [if_neg this, Nat.sub_eq_zero_of_le (by omega)]
    rfl
theorem dry_loop {r : Nat → Nat} {B : Nat} (hb : SW P B r) (hs : 13 ≤ s ∧ s + 4 < 192) : ∀ (m c : Nat) (μ : Mem), c + m = 48 → CP P p μ → RowC P s μ (drS P r c) → μ.1 (p + 14) 6 = nI (r 89) → ∃ μ', X7_dryCells_at21 (d + 1) s (p + 11 + 3) (nI c) μ μ' ∧ Kq (sDr p s) μ μ' ∧ RowC P s μ' (drS P r 48)
  | 0, c, μ, hc, hC, hR, _ => by
    have hc : c = 48 := hc
    subst hc
    exact ⟨μ, X7_dryCells_at21_ok (tpos (by decide) rfl), Kq.refl, hR⟩
  | m + 1, c, μ, hc, hC, hR, h6 => by
    have pw := hC.1
    have hpp := hC.pp
    have hn : ¬ (48 : Int32) ≤ nI c := nI_ge (b := 48) (by omega) (by decide)
    have vc : vp_in (nI c) 48 := vp_inN (by omega) (by decide)
    have cl : (nI c).toNatClampNeg = c := nI_clamp (by omega)
    have hw := hR.2.2.1 c (by omega)
    have hl := hC.land (c := c) (by omega)
    have ecc : drS P r c c = r c := drS_ne c (Or.inl (Nat.le_refl _))
    have e89 : drS P r c 89 = r 89 := drS_ne c (Or.inl (by omega))
    have r9 := hb.1.1 c (by omega)
    rw [ecc] at hw
    by_cases h0 : r c = 0
    · have es : drS P r (c + 1) c = 0 ∧ RowC P s μ (drS P r (c + 1)) := by
        rw [drS]
        cases ho : onL P c with
        | false => exact ⟨by show drS P r c c = 0; rw [ecc, h0], hR⟩
        | true =>
          refine ⟨by show updN _ _ _ _ = 0; rw [updN_same, ecc, h0]; exact Nat.zero_sub _, ?_⟩
          show RowC P s μ (updN (drS P r c) c (drS P r c c - dryA P (drS P r c c) (needO P c) (drownO P c) (drS P r c 89)))
          have : updN (drS P r c) c (drS P r c c - dryA P (drS P r c c) (needO P c) (drownO P c) (drS P r c 89)) = drS P r c := by
            funext j
            by_cases q : j = c
            · subst q
              rw [updN_same, ecc, h0, Nat.zero_sub]
            · rw [updN_ne q]
          rw [this]
          exact hR
      obtain ⟨μ', g1, g2, g3⟩ := dry_loop hb hs m (c + 1) μ (by omega) hC es.2 h6
      rw [nI_succ] at g1
      refine ⟨μ', X7_dryCells_at21_ok (tneg hn ⟨vc, ?_⟩), g2, g3⟩
      rw [cl, hw, h0]
      exact tpos (by decide) g1
    · have ho : onL P c = true := by
        cases h : onL P c with
        | true => rfl
        | false => exact absurd (hb.2.1 c (by omega) h) h0
      obtain ⟨n9, dn9⟩ := fld_need pw ho
      obtain ⟨m3, hm3⟩ : ∃ q, q = sI (sI (sI μ (p + 14) 3 (nI (r c))) (p + 14) 4 (nI (needO P c))) (p + 14) 5 (nI (drownO P c)) := ⟨_, rfl⟩
      have k3 : Kq (sDr p s) μ m3 := by
        rw [hm3]
        exact ((Kq.sI (by unfold sDr; omega)).trans (Kq.sI (by unfold sDr; omega))).trans (Kq.sI (by unfold sDr; omega))
      have hC3 := hC.kq (sDr_n hpp hs k3)
      obtain ⟨_, ⟨y1, y2, y3, y4, y5⟩, _⟩ := hC.2.2.2.2.2.2.2.2.2
      obtain ⟨ya, m4, a1, a2, a3⟩ := answer_c (d := d) (a := p + 11) (pl := 1) (most := 99) (vs := vD (r c) (needO P c) (drownO P c) (r 89)) (by decide) (by decide) (by decide) hC3.law.2.1 (pw.2.2.2.2.2.2.2.2.2.2.2 1 (by decide)) (fun i hi => by
        show m3.1 (p + 14) i = _
        rw [hm3]
        have hi9 : i = 0 ∨ i = 1 ∨ i = 2 ∨ i = 3 ∨ i = 4 ∨ i = 5 ∨ i = 6 ∨ i = 7 ∨ i = 8 := by omega
        rcases hi9 with rfl | rfl | rfl | rfl | rfl | rfl | rfl | rfl | rfl
        · rw [sI_k (by decide), sI_k (by decide), sI_k (by decide), y1]; rfl
        · rw [sI_k (by decide), sI_k (by decide), sI_k (by decide), y2]; rfl
        · rw [sI_k (by decide), sI_k (by decide), sI_k (by decide), y3]; rfl
        · rw [sI_k (by decide), sI_k (by decide), sI_1]; rfl
        · rw [sI_k (by decide), sI_1]; rfl
        · rw [sI_1]; rfl
        · rw [sI_k (by decide), sI_k (by decide), sI_k (by decide), h6]; rfl
        · rw [sI_k (by decide), sI_k (by decide), sI_k (by decide), y4]; rfl
        · rw [sI_k (by decide), sI_k (by decide), sI_k (by decide), y5]; rfl)
      have k4 : Kq (sDr p s) μ m4 := k3.trans (a2.qS fun k => by unfold sDr; omega)
      have eA : dryA P (r c) (needO P c) (drownO P c) (r 89) = askA (vD (r c) (needO P c) (drownO P c) (r 89)) 1 99 (pLw P 1) := rfl
      have dl := dryA_le (P := P) (w := r c) (n := needO P c) (d := drownO P c) (y := r 89)
      rw [← eA] at a3
      generalize dryA P (r c) (needO P c) (drownO P c) (r 89) = D at a3 dl eA
      have k5 : Kq (sDr p s) μ (sI m4 (s + 1) c (nI (r c - D))) := k4.trans (Kq.sI (Or.inl rfl))
      have es : drS P r (c + 1) = updN (drS P r c) c (r c - D) := by
        rw [drS, ho, ecc, e89, eA]
        rfl
      have R4 : RowC P s m4 (drS P r c) := by
        have R3 : RowC P s m3 (drS P r c) := hR.of (by rw [hm3, sI_n (by omega), sI_n (by omega), sI_n (by omega)]) (by rw [hm3, sI_n (by omega), sI_n (by omega), sI_n (by omega)]) fun i q1 q2 => by rw [hm3, sI_n (by omega), sI_n (by omega), sI_n (by omega)]
        exact R3.of (a2.at (fS_ne (by omega))) (a2.at (fS_ne (by omega))) fun i q1 q2 => a2.row fun j => fS_ne (by omega)
      obtain ⟨μ', g1, g2, g3⟩ := dry_loop hb hs m (c + 1) (sI m4 (s + 1) c (nI (r c - D))) (by omega) (hC.kq (sDr_n hpp hs k5)) (by rw [es]; exact R4.water pw (by omega)) (by
        rw [sI_n (by omega), a2.at (fS_ne (by omega)), hm3, sI_k (by decide), sI_k (by decide), sI_k (by decide)]
        exact h6)
      rw [nI_succ] at g1
      have w3 : m3.1 (s + 1) c = nI (r c) := by rw [hm3, sI_n (by omega), sI_n (by omega), sI_n (by omega)]; exact hw
      have last : ∀ m2 : Mem, m2 = m3 → (vp_in (nI c) 48 ∧ (∃ (y12 : Int32) (μ10 : Mem), X1_answer (d + 1) (m2.2.2 9 0 + 11) m2 y12 μ10 ∧ (∃ (y15 : Int32) (μ13 : Mem), X7_within (d + 1) y12 99 μ10 y15 μ13 ∧ vp_in (nI c) 48 ∧ (∀ μ16 : Mem, μ16 = sI μ13 (s + 1) c (mx 0 ((m2.1 (s + 1) c) - y15)) → X7_dryCells_at21 (d + 1) s (p + 11 + 3) (nI c + 1) μ16 μ')))) := by
        rintro m2 rfl
        rw [hC3.ptr, w3]
        refine ⟨vc, ya, m4, a1, nI D, m4, a3 _ m4, vc, ?_⟩
        rw [mx0_sub (by omega) (by omega)]
        rintro μ16 rfl
        exact g1
      have hc1 : CP P p (sI μ (p + 14) 3 (nI (r c))) := hC.kq (sDr_n (s := s) hpp hs (Kq.sI (by unfold sDr; omega)))
      have hc2 : CP P p (sI (sI μ (p + 14) 3 (nI (r c))) (p + 14) 4 (nI (needO P c))) := hc1.kq (sDr_n (s := s) hpp hs (Kq.sI (by unfold sDr; omega)))
      have hf1 := hasField_c (d := d + 1) (x := landI P c) hc1
      have hf2 := hasField_c (d := d + 1) (x := landI P c) hc2
      refine ⟨μ', X7_dryCells_at21_ok (tneg hn ⟨vc, ?_⟩), k5.trans g2, g3⟩
      rw [cl, hw, hC.ptr, hl]
      refine tneg (nI_nle (by omega) (by omega)) ⟨vc, vc, ?_⟩
      rintro μ1 rfl
      refine ⟨_, _, by rw [hc1.ptr]; exact hf1, ?_⟩
      unfold needO drownO at *
      unfold landI at *
      rw [ho] at hf1 hf2 ⊢
      cases hfl : pFld P c with
      | none =>
        rw [hfl] at hf1 hf2 hm3 hc2
        refine tpos rfl ?_
        rintro μ5 rfl
        refine ⟨_, _, by rw [show (0 : Int32) = nI 0 from rfl, hc2.ptr]; exact hf2, tpos rfl ?_⟩
        rintro μ9 e9
        exact last μ9 (e9.trans hm3.symm)
      | some f =>
        have f1 := pw.2.2.2.2.2.2.2.1 c f ho hfl
        have f6 := pw.2.2.1
        rw [hfl] at hf1 hf2 hm3 hc2
        have e0 : (if (true = true) then fI (some f) else (-2 : Int32)) = nI f := rfl
        have hb1 : ¬ bI (inN (nI f) (pF P)) = 0 := by rw [inN_nI (by omega), decide_eq_true f1]; decide
        rw [e0] at hf2 ⊢
        refine tneg hb1 ⟨vp_inN (by omega) (by decide), ?_⟩
        rw [nI_clamp (by omega), hc1.ptr, (hc1.fld f1).2.1]
        rintro μ25 rfl
        refine ⟨_, _, by rw [hc2.ptr]; exact hf2, tneg hb1 ⟨vp_inN (by omega) (by decide), ?_⟩⟩
        rw [hc2.ptr, (hc2.fld f1).2.2]
        rintro μ37 e37
        exact last μ37 (e37.trans hm3.symm)
theorem dryCells_c {μ : Mem} {r : Nat → Nat} {B : Nat} (hb : SW P B r) (hs : 13 ≤ s ∧ s + 4 < 192) (hC : CP P p μ) (hR : RowC P s μ r) : ∃ μ', X7_dryCells (d + 2) s μ μ' ∧ Kq (sDr p s) μ μ' ∧ RowC P s μ' (drS P r 48) := by
  have hpp := hC.pp
  have k1 : Kq (sDr p s) μ (sI μ (p + 14) 6 (nI (r 89))) := Kq.sI (by unfold sDr; omega)
  obtain ⟨μ', g1, g2, g3⟩ := dry_loop (d := d) hb hs 48 0 (sI μ (p + 14) 6 (nI (r 89))) (by omega) (hC.kq (sDr_n hpp hs k1)) (hR.of (by rw [sI_n (by omega)]) (by rw [sI_n (by omega)]) fun i q1 q2 => by rw [sI_n (by omega)]) sI_1
  refine ⟨μ', X7_dryCells_ok ?_, k1.trans g2, g3⟩
  rw [hC.ptr, hR.1]
  rintro μ1 rfl
  exact g1
def sEn (p s a k : Nat) : Prop := a = p + 17 ∨ (a = p + 18 ∧ k = 6) ∨ (a = s ∧ (k = 0 ∨ k = 1))
theorem sEn_d {μ μ' : Mem} (h : Kq (sEn p s) μ μ') : Kq (sDy p s) μ μ' := h.mono fun a k q => by
  unfold sEn at q
  unfold sDy
  omega
theorem sEn_n {μ μ' : Mem} (hp : p = 214 ∨ p = 233) (hs : 13 ≤ s ∧ s + 4 < 192) (h : Kq (sEn p s) μ μ') : Kq (nPl p) μ μ' := h.mono fun a k q => by
  unfold sEn at q
  unfold nPl
  omega
theorem endDay_c {μ : Mem} {r : Nat → Nat} (hb : SB r) (hs : 13 ≤ s ∧ s + 4 < 192) (hC : CP P p μ) (hR : RowC P s μ r) : ∃ μ', X7_endDay (d + 2) s μ μ' ∧ Kq (sEn p s) μ μ' ∧ RowC P s μ' (endS P r) := by
  have pw := hC.1
  have hpp := hC.pp
  have h4 := pw.2.2.2.1
  obtain ⟨m1, hm1⟩ : ∃ q, q = sI μ (p + 18) 6 (nI (r 89)) := ⟨_, rfl⟩
  have k1 : Kq (sEn p s) μ m1 := by rw [hm1]; exact Kq.sI (by unfold sEn; omega)
  have hC1 := hC.kq (sEn_n hpp hs k1)
  obtain ⟨_, _, z⟩ := hC.2.2.2.2.2.2.2.2.2
  obtain ⟨ya, m2, a1, a2, a3⟩ := answer_c (d := d) (a := p + 15) (pl := 0) (most := 999) (vs := vG (r 89)) (by decide) (by decide) (by decide) hC1.law.2.2 (pw.2.2.2.2.2.2.2.2.2.2.2 2 (by decide)) (fun i hi => by
    show m1.1 (p + 18) i = _
    rw [hm1]
    unfold vG
    by_cases e : i = 6
    · subst e
      rw [sI_1, upd_same]
    · rw [sI_k e, upd_ne e]
      exact z i hi e)
  have k2 : Kq (sEn p s) μ m2 := k1.trans (a2.qS fun k => by unfold sEn; omega)
  have eA : gathA P (r 89) = askA (vG (r 89)) 0 999 (pLw P 2) := rfl
  rw [← eA] at a3
  have gl := gathA_le (P := P) (day := r 89)
  have s9 := hb.2
  have R2 : RowC P s m2 r := by
    have R1 : RowC P s m1 r := hR.of (by rw [hm1, sI_n (by omega)]) (by rw [hm1, sI_n (by omega)]) fun i q1 q2 => by rw [hm1, sI_n (by omega)]
    exact R1.of (a2.at (fS_ne (by omega))) (a2.at (fS_ne (by omega))) fun i q1 q2 => a2.row fun j => fS_ne (by omega)
  obtain ⟨h0, h1, h2, h3, h5, h6⟩ := R2
  refine ⟨sI (sI m2 s 1 (nI (min 9999 (r 88 + gathA P (r 89))))) s 0 (nI (r 89 + 1)), X7_endDay_ok ?_, k2.trans ((Kq.sI (by unfold sEn; omega)).trans (Kq.sI (by unfold sEn; omega))), ?_⟩
  · rw [hC.ptr, hR.1]
    rintro μ1 e1
    have e1 : μ1 = m1 := e1.trans hm1.symm
    subst e1
    rw [hC1.ptr]
    refine ⟨ya, m2, a1, _, m2, a3 _ m2, ?_⟩
    have w1 : μ1.1 s 1 = nI (r 88) := by rw [hm1, sI_n (by omega)]; exact hR.2.1
    rw [w1, nJ_add, show (9999 : Int32) = nI 9999 from rfl, mn_nI (by decide) (by omega)]
    rintro μ8 rfl μ9 rfl
    rw [sI_k (by decide), h0, ← nI_succ]
  · have e : ∀ a, a ≠ s → (sI (sI m2 s 1 (nI (min 9999 (r 88 + gathA P (r 89))))) s 0 (nI (r 89 + 1))).1 a = m2.1 a := fun a n => by rw [sI_n n, sI_n n]
    have g : ∀ j, j ≠ 88 → j ≠ 89 → endS P r j = r j := fun j q1 q2 => by unfold endS; rw [updN_ne q2, updN_ne q1]
    refine ⟨?_, ?_, fun c hc => by rw [e _ (by omega), g c (by omega) (by omega)]; exact h2 c hc, fun l hl => ?_, fun l q1 q2 => by rw [e _ (by omega)]; exact h5 l q1 q2, fun f hf => ⟨?_, ?_⟩⟩
    · rw [sI_1]
      unfold endS
      rw [updN_same, updN_ne (by decide)]
    · rw [sI_k (by decide), sI_1]
      unfold endS
      rw [updN_ne (by decide), updN_same]
    · have := h3 l hl
      rw [e _ (by omega)]
      unfold LoomC ordI at this ⊢
      rw [g (48 + l) (by omega) (by omega), g (52 + l) (by omega) (by omega), g (56 + l) (by omega) (by omega), g (60 + l) (by omega) (by omega), g (64 + l) (by omega) (by omega), g (68 + l) (by omega) (by omega), g (72 + l) (by omega) (by omega)]
      exact this
    · rw [e _ (by omega), g _ (by omega) (by omega)]
      exact (h6 f hf).1
    · rw [e _ (by omega), g _ (by omega) (by omega)]
      exact (h6 f hf).2
theorem passDays_loop {r : Nat → Nat} {B n : Nat} {sd : Int32} (hn : n < 1000) (hB : B + 24 * n < 1000000) (hs : 13 ≤ s ∧ s + 4 < 192) (hr0 : SW P B r) : ∀ (m k : Nat) (μ : Mem), k + m = n → CP P p μ → Kc P μ → RowC P s μ (goesA P sd r k) → ∃ μ', X7_passDays_at3 (d + 5) s (nI n) sd (nI k) μ μ' ∧ Kq (sDy p s) μ μ' ∧ Kc P μ' ∧ RowC P s μ' (goesA P sd r n)
  | 0, k, μ, hk, hC, hK, hR => by
    have hk : k = n := hk
    subst hk
    exact ⟨μ, X7_passDays_at3_ok (tpos (nI_le (Nat.le_refl _) (by omega)) rfl), Kq.refl, hK, hR⟩
  | m + 1, k, μ, hk, hC, hK, hR => by
    have pw := hC.1
    have hpp := hC.pp
    have sw := hr0.goes pw (sd := sd) k
    obtain ⟨m1, a1, a2, a3, a4⟩ := letOrders_c (d := d) (sd := sd) (by omega) hs sw hC hK hR
    have sw1 := sw.ord (sd := sd) pw (pL P) (Nat.le_refl _)
    have K1 := sFl_d a2
    have C1 := hC.kq (sDy_n hpp hs K1)
    obtain ⟨m2, b1, b2, b3⟩ := tally_c (d := d + 3) sw1.1 hs C1 a4
    have sw2 := sw1.tal pw (s := talS P (ordS P sd (goesA P sd r k) (pL P)) 48) fun j hj => talS_ne pw hj 48
    have K2 := K1.trans (sTl_d b2)
    have C2 := hC.kq (sDy_n hpp hs K2)
    obtain ⟨m3, c1, c2, c3⟩ := dryCells_c (d := d + 3) sw2 hs C2 b3
    have sw3 := sw2.dr pw (c := 48) (Nat.le_refl _)
    have K3 := K2.trans (sDr_d c2)
    have C3 := hC.kq (sDy_n hpp hs K3)
    obtain ⟨m4, d1, d2, d3⟩ := endDay_c (d := d + 3) sw3.1 hs C3 c3
    have K4 := K3.trans (sEn_d d2)
    have hK4 : Kc P m4 := by
      refine a3.of ?_ ?_
      · rw [d2.row fun j => by unfold sEn; omega, c2.row fun j => by unfold sDr; omega, b2.row fun j => by unfold sTl; omega]
      · rw [d2.row fun j => by unfold sEn; omega, c2.row fun j => by unfold sDr; omega, b2.row fun j => by unfold sTl; omega]
    obtain ⟨μ', g1, g2, g3⟩ := passDays_loop hn hB hs hr0 m (k + 1) m4 (by omega) (hC.kq (sDy_n hpp hs K4)) hK4 d3
    rw [nI_succ] at g1
    exact ⟨μ', X7_passDays_at3_ok (tneg (nI_ge (by omega) (by omega)) ⟨m1, a1, m2, b1, m3, c1, m4, d1, g1⟩), K4.trans g2, g3⟩
theorem passDays_c {μ : Mem} {r : Nat → Nat} {B n : Nat} {sd : Int32} (hn : n < 1000) (hB : B + 24 * n < 1000000) (hs : 13 ≤ s ∧ s + 4 < 192) (hr0 : SW P B r) (hC : CP P p μ) (hK : Kc P μ) (hR : RowC P s μ r) : ∃ μ', X7_passDays (d + 6) s (nI n) sd μ μ' ∧ Kq (sDy p s) μ μ' ∧ Kc P μ' ∧ RowC P s μ' (goesA P sd r n) := by
  obtain ⟨μ', g1, g2⟩ := passDays_loop (d := d) (p := p) (sd := sd) hn hB hs hr0 n 0 μ (by omega) hC hK hR
  exact ⟨μ', X7_passDays_ok g1, g2⟩
end Days
