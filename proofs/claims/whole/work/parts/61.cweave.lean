/-! ===== the class: a piece woven, scenes ===== -/
def sWv (p a k : Nat) : Prop := a = 10 ∨ a = 11 ∨ a = 12 ∨ (a = 9 ∧ (k = 4 ∨ k = 5)) ∨ a = p + 9 ∨ (a = p + 10 ∧ (k = 0 ∨ k = 1 ∨ k = 2 ∨ k = 7 ∨ k = 8))
theorem sWv_n {p : Nat} {μ μ' : Mem} (hp : p = 214 ∨ p = 233) (h : Kq (sWv p) μ μ') : Kq (nPl p) μ μ' := h.mono fun a k q => by
  unfold sWv at q
  unfold nPl
  omega
theorem sRw_v {p : Nat} {μ μ' : Mem} (h : Kq (sRw p) μ μ') : Kq (sWv p) μ μ' := h.mono fun a k q => by
  unfold sRw at q
  unfold sWv
  omega
/-- the weaver after k threads -/
def WvM (P : Pl) (l w pick st : Nat) (μ : Mem) (k : Nat) : Prop := μ.1 9 4 = nI (wvS P l w pick st k).1 ∧ μ.1 9 5 = bI (wvS P l w pick st k).2 ∧ ∀ j, j < k → μ.1 12 j = nI (amA P l w pick st j)
theorem WvM.kq {P : Pl} {l w pick st k p : Nat} {μ μ' : Mem} (h : WvM P l w pick st μ k) (q : Kq (sRw p) μ μ') (hp : p = 214 ∨ p = 233) : WvM P l w pick st μ' k := by
  have e9 : μ'.1 9 = μ.1 9 := q.row fun j => by unfold sRw; omega
  have e12 : μ'.1 12 = μ.1 12 := q.row fun j => by unfold sRw; omega
  unfold WvM
  rw [e9, e12]
  exact h
section Weave
variable {P : Pl} {p : Nat} {d : Nat} {l w pick st h : Nat}
theorem weave_in {i : Nat} (hl : l < pL P) (hw : 1 ≤ w) (hwl : w ≤ pWi P l) (hh : h ≤ 6) (hi : i < h) (hst : st ≤ 9999) (hp : pick + 6 < 2 ^ 31 - 1)
    (hk : ∀ μ1, CP P p μ1 → Kc P μ1 → WvM P l w pick st μ1 ((i + 1) * w) → ∃ μ', X7_weave_at16 (d + 2) (nI l) (nI pick) (nI w) (nI h) (nI st) (nI ((i + 1) * w)) (nI (i + 1)) μ1 μ' ∧ Kq (sWv p) μ1 μ' ∧ Kc P μ' ∧ WvM P l w pick st μ' (w * h)) :
    ∀ (m j : Nat) (μ : Mem), j + m = w → CP P p μ → Kc P μ → WvM P l w pick st μ (i * w + j) → ∃ μ', X7_weave_at37 (d + 2) (nI l) (nI pick) (nI w) (nI h) (nI st) (nI (i * w + j)) (nI i) (rowI P l (pick + i)) (nI j) μ μ' ∧ Kq (sWv p) μ μ' ∧ Kc P μ' ∧ WvM P l w pick st μ' (w * h)
  | 0, j, μ, hj, hC, hK, hW => by
    have hj : j = w := hj
    subst hj
    have e : i * j + j = (i + 1) * j := by rw [Nat.add_mul, Nat.one_mul]
    rw [e] at hW ⊢
    have w8 := (hC.1.2.2.2.2.2.2.2.2.2.1 l hl).2.1
    obtain ⟨μ', g1, g2⟩ := hk μ hC hK hW
    rw [nI_succ i] at g1
    exact ⟨μ', X7_weave_at37_ok (tpos (nI_le (Nat.le_refl _) (by omega)) g1), g2⟩
  | m + 1, j, μ, hj, hC, hK, hW => by
    have pw := hC.1
    have hpp := hC.pp
    have w8 := (pw.2.2.2.2.2.2.2.2.2.1 l hl).2.1
    have hkk : i * w + j < 48 := by
      have : (i + 1) * w ≤ 6 * 8 := Nat.mul_le_mul (by omega) (by omega)
      rw [Nat.add_mul, Nat.one_mul] at this
      omega
    obtain ⟨d1, d2⟩ := dm (show j < w by omega) (rfl : i * w + j = i * w + j)
    have wle := wvS_le (P := P) (l := l) (w := w) (pick := pick) (st := st) (i * w + j)
    obtain ⟨h94, h95, ham⟩ := hW
    have th := threadOf_c (P := P) (d := d + 2) (l := l) (pick := pick + i) (w := j) (μ := μ) (by omega) w8
    rw [if_pos (by omega)] at th
    have tl := thr_le (P := P) (l := l) (warp := j) (pick := pick + i)
    have am := wvS_am (P := P) (l := l) (w := w) (pick := pick) (st := st) (k := i * w + j)
    rw [d1, d2] at am
    have vk : vp_in (nI (i * w + j)) 48 := vp_inN hkk (by decide)
    have ck : (nI (i * w + j)).toNatClampNeg = i * w + j := nI_clamp (by omega)
    have step : ∀ (b : Bool) (v : Nat), amA P l w pick st (i * w + j) = v → (wvS P l w pick st (i * w + j + 1)).2 = b → ∃ μ', (vp_in (nI (i * w + j)) 48 ∧ (∀ μ5 : Mem, μ5 = sI (sI μ 9 5 (bI b)) 12 ((nI (i * w + j)).toNatClampNeg) (nI v) → vp_in (nI (i * w + j)) 48 ∧ (∀ μ6 : Mem, μ6 = sI μ5 9 4 ((μ5.1 9 4) + (μ5.1 12 ((nI (i * w + j)).toNatClampNeg))) → X7_weave_at37 (d + 2) (nI l) (nI pick) (nI w) (nI h) (nI st) (nI (i * w + j) + 1) (nI i) (rowI P l (pick + i)) (nI j + 1) μ6 μ'))) ∧ Kq (sWv p) μ μ' ∧ Kc P μ' ∧ WvM P l w pick st μ' (w * h) := by
      intro b v hv hb
      obtain ⟨m1, hm1⟩ : ∃ x, x = sI (sI (sI μ 9 5 (bI b)) 12 (i * w + j) (nI v)) 9 4 (nI (wvS P l w pick st (i * w + j)).1 + nI v) := ⟨_, rfl⟩
      have k1 : Kq (sWv p) μ m1 := by
        rw [hm1]
        exact ((Kq.sI (by unfold sWv; omega)).trans (Kq.sI (by unfold sWv; omega))).trans (Kq.sI (by unfold sWv; omega))
      have e10 : m1.1 10 = μ.1 10 := by rw [hm1, sI_n (by decide), sI_n (by decide), sI_n (by decide)]
      have e11 : m1.1 11 = μ.1 11 := by rw [hm1, sI_n (by decide), sI_n (by decide), sI_n (by decide)]
      obtain ⟨μ', g1, g2, g3⟩ := weave_in hl hw hwl hh hi hst hp hk m (j + 1) m1 (by omega) (hC.kq (sWv_n hpp k1)) (by unfold Kc; rw [e10, e11]; exact hK) ⟨by
        rw [hm1, sI_1, nJ_add, ← Nat.add_assoc, am, hv], by
        rw [hm1, sI_k (by decide), sI_n (by decide), sI_1, ← Nat.add_assoc, hb], fun q hq => by
        rw [hm1, sI_n (by decide)]
        by_cases e : q = i * w + j
        · subst e
          rw [sI_1, hv]
        · rw [sI_k e, sI_n (by decide)]
          exact ham q (by omega)⟩
      rw [← Nat.add_assoc, nI_succ, nI_succ j] at g1
      refine ⟨μ', ⟨vk, ?_⟩, k1.trans g2, g3⟩
      rintro μ5 rfl
      refine ⟨vk, ?_⟩
      rintro μ6 e6
      have e6 : μ6 = m1 := by
        rw [e6, hm1, ck, sI_n (show 9 ≠ 12 by decide), sI_k (show 4 ≠ 5 by decide), h94, sI_1]
      rw [e6]
      exact g1
    have hn : ¬ nI w ≤ nI j := nI_ge (by omega) (by omega)
    have hn2 : ¬ (48 : Int32) ≤ nI (i * w + j) := nI_ge (b := 48) hkk (by decide)
    have w99 := wvS_9 (P := P) (l := l) (w := w) (pick := pick) (st := st) (i * w + j)
    cases ht : (wvS P l w pick st (i * w + j)).2 with
    | true =>
      obtain ⟨μ', s1, s2⟩ := step true 0 (am_torn ht) (by rw [wvS_torn ht, ht])
      refine ⟨μ', X7_weave_at37_ok (tneg hn (tneg hn2 ⟨_, μ, th, tne (by rw [h95, ht]; decide) ?_⟩)), s2⟩
      rintro μ4 rfl
      exact tneg (by rw [sI_1]; decide) s1
    | false =>
      rw [ht, Bool.false_or] at am
      by_cases hlt : st - (wvS P l w pick st (i * w + j)).1 < thr P l j (pick + i)
      · rw [decide_eq_true hlt] at am
        have hb : (wvS P l w pick st (i * w + j + 1)).2 = true := by rw [am]
        obtain ⟨μ', s1, s2⟩ := step true 0 (by unfold amA; rw [hb]; rfl) hb
        refine ⟨μ', X7_weave_at37_ok (tneg hn (tneg hn2 ⟨_, μ, th, teq (by rw [h95, ht]; rfl) (tneg ?_ ?_)⟩)), s2⟩
        · rw [h94, nI_sub wle]
          exact nI_ge hlt (by omega)
        · rintro μ4 rfl
          exact tneg (by rw [sI_1]; decide) s1
      · rw [decide_eq_false hlt] at am
        have hb : (wvS P l w pick st (i * w + j + 1)).2 = false := by rw [am]
        obtain ⟨μ', s1, s2⟩ := step false (thr P l j (pick + i)) (by unfold amA; rw [hb, d1, d2]; rfl) hb
        refine ⟨μ', X7_weave_at37_ok (tneg hn (tneg hn2 ⟨_, μ, th, teq (by rw [h95, ht]; rfl) (tpos ?_ ?_)⟩)), s2⟩
        · rw [h94, nI_sub wle]
          exact nI_le (by omega) (by omega)
        · rintro μ4 rfl
          exact tpos (by rw [sI_1]) s1
theorem weave_out (hl : l < pL P) (hw : 1 ≤ w) (hwl : w ≤ pWi P l) (hh : h ≤ 6) (hst : st ≤ 9999) (hp : pick + 6 < 2 ^ 31 - 1) :
    ∀ (m i : Nat) (μ : Mem), i + m = h → CP P p μ → Kc P μ → WvM P l w pick st μ (i * w) → ∃ μ', X7_weave_at16 (d + 2) (nI l) (nI pick) (nI w) (nI h) (nI st) (nI (i * w)) (nI i) μ μ' ∧ Kq (sWv p) μ μ' ∧ Kc P μ' ∧ WvM P l w pick st μ' (w * h)
  | 0, i, μ, hi, hC, hK, hW => by
    have hi : i = h := hi
    subst hi
    refine ⟨μ, X7_weave_at16_ok (tpos (nI_le (Nat.le_refl _) (by omega)) rfl), Kq.refl, hK, ?_⟩
    rw [Nat.mul_comm]
    exact hW
  | m + 1, i, μ, hi, hC, hK, hW => by
    have hpp := hC.pp
    obtain ⟨m1, a1, a2, a3⟩ := rowAt_c (d := d) (l := l) (pick := pick + i) hl (by omega) hC hK
    obtain ⟨μ', g1, g2, g3⟩ := weave_in (d := d) (i := i) hl hw hwl hh (by omega) hst hp (fun μ1 c1 c2 c3 => weave_out hl hw hwl hh hst hp m (i + 1) μ1 (by omega) c1 c2 c3) w 0 m1 (by omega) (hC.kq (sRw_n hpp a2)) a3 (hW.kq a2 hpp)
    refine ⟨μ', X7_weave_at16_ok (tneg (nI_ge (by omega) (by omega)) ⟨_, m1, ?_, g1⟩), (sRw_v a2).trans g2, g3⟩
    rw [nJ_add]
    exact a1
theorem weave_c {μ : Mem} (hl : l < pL P) (hw : 1 ≤ w) (hwl : w ≤ pWi P l) (hh : h ≤ 6) (hst : st ≤ 9999) (hp : pick + 6 < 2 ^ 31 - 1) (hC : CP P p μ) (hK : Kc P μ) : ∃ μ', X7_weave (d + 3) (nI l) (nI pick) (nI w) (nI h) (nI st) μ μ' ∧ Kq (sWv p) μ μ' ∧ Kc P μ' ∧ WvM P l w pick st μ' (w * h) := by
  have hpp := hC.pp
  have k1 : Kq (sWv p) μ (sI (sI μ 9 4 0) 9 5 0) := (Kq.sI (by unfold sWv; omega)).trans (Kq.sI (by unfold sWv; omega))
  obtain ⟨μ', g1, g2, g3⟩ := weave_out (d := d) hl hw hwl hh hst hp h 0 (sI (sI μ 9 4 0) 9 5 0) (by omega) (hC.kq (sWv_n hpp k1)) (by
    unfold Kc
    rw [sI_n (show 10 ≠ 9 by decide), sI_n (show 10 ≠ 9 by decide), sI_n (show 11 ≠ 9 by decide), sI_n (show 11 ≠ 9 by decide)]
    exact hK) (by
    rw [Nat.zero_mul]
    exact ⟨by rw [sI_k (by decide), sI_1]; rfl, by rw [sI_1]; rfl, fun j hj => absurd hj (Nat.not_lt_zero _)⟩)
  rw [Nat.zero_mul] at g1
  refine ⟨μ', X7_weave_ok ?_, k1.trans g2, g3⟩
  rintro μ1 rfl μ2 rfl
  exact g1
end Weave
