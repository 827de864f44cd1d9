/-! ===== the class: cloth ===== -/
theorem answer_c {d a pl most : Nat} {L : Lw} {μ : Mem} {vs : Nat → Int32} (hm : most < 2 ^ 31) (hpl : pl ≤ most) (hp4 : pl < 10000) (hL : cLawAt μ a pl L) (hw : L = [] ∨ wfL L) (hv : ∀ i, i < 9 → μ.1 (a + 3) i = vs i) :
    ∃ x μ', X1_answer (d + 1) a μ x μ' ∧ Kp (fS a) μ μ' ∧ ∀ (d' : Nat) (μ1 : Mem), X7_within d' x (nI most) μ1 (nI (askA vs pl most L)) μ1 := by
  obtain ⟨n, h1, h2, h3⟩ := hL
  have wl : wfL (if L = [] then [(none, [(0, pl)])] else L) := by
    rcases hw with rfl | hw
    · rw [if_pos rfl]
      refine ⟨?_, rfl⟩
      unfold wfD
      rw [if_pos rfl]
      exact ⟨by decide, hp4, rfl⟩
    · rw [if_neg (by rintro rfl; exact hw)]
      exact hw
  obtain ⟨x, μ', k1, k2, k3⟩ := ans_loop (d := d) h1 _ 0 μ wl h3 h2
  refine ⟨x, μ', X1_answer_ok k1, k2, fun d' μ1 => X7_within_ok ?_⟩
  have e : nI (askA vs pl most L) = nI (clampI x most) := by
    rw [k3, askL_congr hv wl]
    unfold askA
    rcases hw with rfl | hw
    · rw [if_pos rfl, if_pos rfl]
      show nI pl = nI (clampI (nI pl) most)
      unfold clampI
      rw [if_neg (nI_pos (by omega)), if_neg (nI_nlt hpl hm), nI_clamp (by omega)]
    · have hne : L ≠ [] := by rintro rfl; exact hw
      rw [if_neg hne, if_neg hne]
      cases askL vs L with
      | none =>
        show nI 0 = nI (clampI 0 most)
        unfold clampI
        rw [if_neg (by decide), if_neg (i_le_nlt (nI_pos' hm))]
        rfl
      | some w => rfl
  rw [e]
  unfold clampI
  refine ⟨fun q => ⟨fun q2 => ⟨?_, rfl⟩, fun q2 => ⟨?_, rfl⟩⟩, fun q => ⟨?_, rfl⟩⟩
  · rw [if_neg (i_le_nlt q), if_neg (i_le_nlt q2)]
    exact nJ_of q
  · rw [if_neg (i_le_nlt q), if_pos (i_nle q2)]
  · rw [if_pos (i_nle q)]
    rfl
/-- the rows that are kept are right -/
def Kc (P : Pl) (μ : Mem) : Prop := ∀ l k, l < pL P → k < 512 → μ.1 10 (512 * l + k) = 0 ∨ ∃ pick, pick < 2 ^ 31 - 1 ∧ pick % 512 = k ∧ μ.1 10 (512 * l + k) = nI (pick + 1) ∧ μ.1 11 (512 * l + k) = rowI P l pick
def sRw (p a k : Nat) : Prop := a = 10 ∨ a = 11 ∨ a = p + 9 ∨ (a = p + 10 ∧ (k = 0 ∨ k = 1 ∨ k = 2 ∨ k = 7 ∨ k = 8))
section Class
variable {P : Pl} {p : Nat} {μ : Mem} {d : Nat}
theorem sRw_n {μ' : Mem} (hp : p = 214 ∨ p = 233) (h : Kq (sRw p) μ μ') : Kq (nPl p) μ μ' := h.mono fun a k q => by
  unfold sRw at q
  unfold nPl
  omega
/-- the threads of a row, one by one -/
theorem rowAt_loop {l pick : Nat} (hl : l < pL P) (hp31 : pick < 2 ^ 31 - 1) : ∀ (m w : Nat) (μ : Mem), w + m = pWi P l → CP P p μ → Kc P μ → (∀ i, i < 9 → i ≠ 1 → μ.1 (p + 10) i = vT P l 0 pick i) →
    ∃ μ', X7_rowAt_at98 (d + 1) (nI l) (nI pick) (nI (512 * l + pick % 512)) (p + 7 + 3) (nI (rowN P l pick w)) (nI w) μ (rowI P l pick) μ' ∧ Kq (sRw p) μ μ' ∧ Kc P μ'
  | 0, w, μ, hw, hC, hK, hv => by
    have hw : w = pWi P l := hw
    subst hw
    have pw := hC.1
    have h4 := pw.2.2.2.1
    have w8 := (pw.2.2.2.2.2.2.2.2.2.1 l hl).2.1
    have hx : 512 * l + pick % 512 < 2048 := by omega
    refine ⟨sI (sI μ 10 (512 * l + pick % 512) (nI pick + 1)) 11 (512 * l + pick % 512) (rowI P l pick), X7_rowAt_at98_ok ?_, (Kq.sI (Or.inl rfl)).trans (Kq.sI (Or.inr (Or.inl rfl))), ?_⟩
    · rw [hC.ptr, nI_clamp (show l < 2 ^ 31 by omega), (hC.loo hl).1, nI_clamp (show 512 * l + pick % 512 < 2 ^ 31 by omega)]
      refine ⟨vp_inN (by omega) (by decide), tpos (nI_le (Nat.le_refl _) (by omega)) ⟨vp_inN hx (by decide), ?_⟩⟩
      rintro μ1 rfl
      refine ⟨vp_inN hx (by decide), ?_⟩
      rintro μ2 rfl
      exact ⟨rfl, rfl⟩
    · intro l2 k hl2 hk
      by_cases e : 512 * l2 + k = 512 * l + pick % 512
      · have : l2 = l ∧ k = pick % 512 := by omega
        obtain ⟨rfl, rfl⟩ := this
        refine Or.inr ⟨pick, hp31, rfl, ?_, sI_1⟩
        rw [sI_n (by decide), sI_1, nI_succ]
      · rw [sI_n (show 10 ≠ 11 by decide), sI_k e, sI_k e, sI_n (show 11 ≠ 10 by decide)]
        exact hK l2 k hl2 hk
  | m + 1, w, μ, hw, hC, hK, hv => by
    have pw := hC.1
    have hpp := hC.pp
    have h4 := pw.2.2.2.1
    have w8 := (pw.2.2.2.2.2.2.2.2.2.1 l hl).2.1
    obtain ⟨m1, hm1⟩ : ∃ x, x = sI μ (p + 10) 1 (nI w) := ⟨_, rfl⟩
    have k1 : Kq (sRw p) μ m1 := by rw [hm1]; exact Kq.sI (by unfold sRw; omega)
    have hC1 := hC.kq (sRw_n hpp k1)
    obtain ⟨x, m2, a1, a2, a3⟩ := answer_c (d := d) (a := p + 7) (most := 9) (vs := vT P l w pick) (by decide) (by decide) (by decide) hC1.law.1 (pw.2.2.2.2.2.2.2.2.2.2.2 0 (by decide)) (fun i hi => by
      show m1.1 (p + 10) i = _
      rw [hm1]
      by_cases e : i = 1
      · subst e
        rw [sI_1]
        rfl
      · rw [sI_k e, hv i hi e]
        unfold vT
        by_cases e8 : i = 8
        · subst e8; rw [upd_same, upd_same]
        · rw [upd_ne e8, upd_ne e8]
          by_cases e7 : i = 7
          · subst e7; rw [upd_same, upd_same]
          · rw [upd_ne e7, upd_ne e7]
            by_cases e2 : i = 2
            · subst e2; rw [upd_same, upd_same]
            · rw [upd_ne e2, upd_ne e2, upd_ne e, upd_ne e])
    have k2 : Kq (sRw p) μ m2 := k1.trans (a2.qS fun k => by unfold sRw; omega)
    have hC2 := hC.kq (sRw_n hpp k2)
    have e10 : m2.1 10 = μ.1 10 := by
      have z1 : m2.1 10 = m1.1 10 := a2.row fun k => fS_ne (by omega)
      rw [z1, hm1, sI_n (by omega)]
    have e11 : m2.1 11 = μ.1 11 := by
      have z1 : m2.1 11 = m1.1 11 := a2.row fun k => fS_ne (by omega)
      rw [z1, hm1, sI_n (by omega)]
    have hK2 : Kc P m2 := by unfold Kc; rw [e10, e11]; exact hK
    obtain ⟨μ', g1, g2, g3⟩ := rowAt_loop hl hp31 m (w + 1) m2 (by omega) hC2 hK2 (fun i hi e => by
      have z1 : m2.1 (p + 10) = m1.1 (p + 10) := a2.row fun k => fS_ne (by omega)
      rw [z1, hm1, sI_k e]
      exact hv i hi e)
    refine ⟨μ', X7_rowAt_at98_ok ?_, k2.trans g2, g3⟩
    rw [hC.ptr, nI_clamp (show l < 2 ^ 31 by omega), (hC.loo hl).1]
    refine ⟨vp_inN (by omega) (by decide), tneg (nI_ge (by omega) (by omega)) ?_⟩
    rintro μ3 e3
    have e3 : μ3 = m1 := e3.trans hm1.symm
    subst e3
    rw [hC1.ptr]
    refine ⟨x, m2, a1, nI (thr P l w pick), m2, a3 _ m2, ?_⟩
    have := rowN_or (P := P) (l := l) (pick := pick) (w := w) (by omega)
    rw [← nI_succ]
    rw [this]
    exact g1
theorem rowAt_c {l pick : Nat} (hl : l < pL P) (hp31 : pick < 2 ^ 31 - 1) (hC : CP P p μ) (hK : Kc P μ) : ∃ μ', X7_rowAt (d + 2) (nI l) (nI pick) μ (rowI P l pick) μ' ∧ Kq (sRw p) μ μ' ∧ Kc P μ' := by
  have pw := hC.1
  have hpp := hC.pp
  have h4 := pw.2.2.2.1
  have ei : nI l * 512 + (nI pick - nI pick / 512 * 512) = nI (512 * l + pick % 512) := by
    rw [show (512 : Int32) = nI 512 from rfl, nI_rem (by omega) (by decide), nI_mul, nJ_add, Nat.mul_comm l 512]
  have ci : (nI (512 * l + pick % 512)).toNatClampNeg = 512 * l + pick % 512 := nI_clamp (by omega)
  have vi' : vp_in (nI (512 * l + pick % 512)) 2048 := vp_inN (by omega) (by decide)
  have hb : ¬ bI (inN (nI l) (pL P)) = 0 := by
    rw [inN_nI (by omega), decide_eq_true hl]
    decide
  by_cases hk : μ.1 10 (512 * l + pick % 512) = nI pick + 1
  · have hrow : μ.1 11 (512 * l + pick % 512) = rowI P l pick := by
      rcases hK l (pick % 512) hl (by omega) with z | ⟨q, h1, h2, h3, h5⟩
      · rw [hk, ← nI_succ] at z
        exact absurd z (nI_ne0 (by omega) (by omega))
      · rw [hk, ← nI_succ] at h3
        have : pick = q := by have := nI_inj (by omega) (by omega) h3; omega
        subst this
        exact h5
    refine ⟨μ, X7_rowAt_ok ?_, Kq.refl, hK⟩
    rw [hC.ptr]
    refine ⟨_, μ, hasLoom_c hC, tneg hb (tpos (nI_pos' (by omega)) ?_)⟩
    rw [ei, ci]
    exact ⟨vi', teq hk ⟨vi', hrow.symm, rfl⟩⟩
  · obtain ⟨m1, hm1⟩ : ∃ x, x = sI (sI (sI (sI μ (p + 10) 7 (nI l)) (p + 10) 2 (nI pick)) (p + 10) 0 (nI (pick % 4))) (p + 10) 8 (nI (pWi P l)) := ⟨_, rfl⟩
    have k1 : Kq (sRw p) μ m1 := by
      rw [hm1]
      exact (((Kq.sI (by unfold sRw; omega)).trans (Kq.sI (by unfold sRw; omega))).trans (Kq.sI (by unfold sRw; omega))).trans (Kq.sI (by unfold sRw; omega))
    have hC1 := hC.kq (sRw_n hpp k1)
    have e10 : m1.1 10 = μ.1 10 := by rw [hm1, sI_n (by omega), sI_n (by omega), sI_n (by omega), sI_n (by omega)]
    have e11 : m1.1 11 = μ.1 11 := by rw [hm1, sI_n (by omega), sI_n (by omega), sI_n (by omega), sI_n (by omega)]
    obtain ⟨⟨z3, z4, z5, z6⟩, _, _⟩ := hC.2.2.2.2.2.2.2.2.2
    obtain ⟨μ', g1, g2, g3⟩ := rowAt_loop (d := d) hl hp31 (pWi P l) 0 m1 (by omega) hC1 (by unfold Kc; rw [e10, e11]; exact hK) (fun i hi e => by
      rw [hm1]
      have hi9 : i = 0 ∨ i = 2 ∨ i = 3 ∨ i = 4 ∨ i = 5 ∨ i = 6 ∨ i = 7 ∨ i = 8 := by omega
      rcases hi9 with rfl | rfl | rfl | rfl | rfl | rfl | rfl | rfl
      · rw [sI_k (by decide), sI_1]; rfl
      · rw [sI_k (by decide), sI_k (by decide), sI_1]; rfl
      · rw [sI_k (by decide), sI_k (by decide), sI_k (by decide), sI_k (by decide), z3]; rfl
      · rw [sI_k (by decide), sI_k (by decide), sI_k (by decide), sI_k (by decide), z4]; rfl
      · rw [sI_k (by decide), sI_k (by decide), sI_k (by decide), sI_k (by decide), z5]; rfl
      · rw [sI_k (by decide), sI_k (by decide), sI_k (by decide), sI_k (by decide), z6]; rfl
      · rw [sI_k (by decide), sI_k (by decide), sI_k (by decide), sI_1]; rfl
      · rw [sI_1]; rfl)
    refine ⟨μ', X7_rowAt_ok ?_, k1.trans g2, g3⟩
    rw [hC.ptr]
    refine ⟨_, μ, hasLoom_c hC, tneg hb (tpos (nI_pos' (by omega)) ?_)⟩
    rw [ei, ci]
    refine ⟨vi', tne hk ?_⟩
    rw [hC.ptr]
    rintro μ4 rfl μ5 rfl μ6 rfl
    refine ⟨vp_inN (by omega) (by decide), ?_⟩
    rintro μ7 e7
    have e7 : μ7 = m1 := by
      rw [e7, hm1]
      have w : (sI (sI (sI μ (p + 7 + 3) 7 (nI l)) (p + 7 + 3) 2 (nI pick)) (p + 7 + 3) 0 (nI pick - nI pick / 4 * 4)).2.2 9 0 = p := hC.ptr
      rw [w, nI_clamp (by omega), sI_n (by omega), sI_n (by omega), sI_n (by omega), (hC.loo hl).1, show (4 : Int32) = nI 4 from rfl, nI_rem (by omega) (by decide)]
    rw [e7]
    exact g1
end Class
