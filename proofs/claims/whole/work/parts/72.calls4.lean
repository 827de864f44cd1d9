/-! ===== calls: count, field, cell, loom ===== -/
def sumA (f : Nat → Nat) : Nat → Nat
  | 0 => 0
  | n + 1 => sumA f n + f n
def cntA (f : Nat → Bool) : Nat → Nat
  | 0 => 0
  | n + 1 => cntA f n + if f n then 1 else 0
/-- what lies on the CELLS of a FIELD -/
def watA (P : Pl) (r : Nat → Nat) (f : Nat) : Nat → Nat
  | 0 => 0
  | c + 1 => watA P r f c + if onL P c && decide (pFld P c = some f) then r c else 0
section Calls
variable {d n : Nat}
theorem sum_loop {k a : Nat} {f : Nat → Nat} {μ : Mem} (hk : k < 1000) (h : ∀ i, i < k → μ.1 a i = nI (f i)) : ∀ (m i : Nat), i + m = k → X5_sum_at4 d k a (nI (sumA f i)) (nI i) μ (nI (sumA f k)) μ
  | 0, i, hi => by
    have hi : i = k := hi
    subst hi
    exact X5_sum_at4_ok (tpos (nI_le (Nat.le_refl _) (by omega)) ⟨rfl, rfl⟩)
  | m + 1, i, hi => by
    refine X5_sum_at4_ok (tneg (nI_ge (by omega) (by omega)) ⟨vp_inN (by omega) (by omega), ?_⟩)
    rw [nI_clamp (by omega), h i (by omega), nJ_add, ← nI_succ]
    exact sum_loop hk h m (i + 1) (by omega)
theorem sum_c {k a : Nat} {f : Nat → Nat} {μ : Mem} (hk : k < 1000) (h : ∀ i, i < k → μ.1 a i = nI (f i)) : X5_sum d k a μ (nI (sumA f k)) μ := X5_sum_ok (sum_loop hk h k 0 (by omega))
theorem sumNow_loop {from_ many : Nat} {r : Nat → Nat} {μ : Mem} (hk : from_ + many < 92) (h : RowM μ 33 r) : ∀ (m i : Nat), i + m = many → X10_sumNow_at5 d (nI from_) (nI many) (nI (sumA (fun k => r (from_ + k)) i)) (nI (from_ + i)) μ (nI (sumA (fun k => r (from_ + k)) many)) μ
  | 0, i, hi => by
    have hi : i = many := hi
    subst hi
    refine X10_sumNow_at5_ok (tpos ?_ ⟨rfl, rfl⟩)
    rw [nJ_add]
    exact nI_le (Nat.le_refl _) (by omega)
  | m + 1, i, hi => by
    refine X10_sumNow_at5_ok (tneg ?_ ⟨vp_inN (by omega) (by decide), ?_⟩)
    · rw [nJ_add]
      exact nI_ge (by omega) (by omega)
    · rw [nI_clamp (by omega), h _ (by omega), nJ_add, ← nI_succ]
      exact sumNow_loop hk h m (i + 1) (by omega)
theorem sumNow_m {from_ many : Nat} {r : Nat → Nat} {μ : Mem} (hk : from_ + many < 92) (h : RowM μ 33 r) : X10_sumNow d (nI from_) (nI many) μ (nI (sumA (fun k => r (from_ + k)) many)) μ := X10_sumNow_ok (sumNow_loop hk h many 0 (by omega))
theorem sumNow_0 {r : Nat → Nat} {μ : Mem} (h : RowM μ 33 r) : X10_sumNow d 0 48 μ (nI (sumA r 48)) μ := by
  have := sumNow_m (d := d) (from_ := 0) (many := 48) (r := r) (by decide) h
  simp only [Nat.zero_add] at this
  exact this
theorem woven_c {P : Pl} {B : Nat} {r : Nat → Nat} {μ : Mem} (pw : PW P) (hR : RowC P 13 μ r) (hS : SW P B r) : X5_woven (d + 2) 13 μ (nI (r 90)) μ := by
  have h4 := pw.2.2.2.1
  have w : ∀ l, l < 4 → μ.1 15 (8 * l + 6) = nI (r (68 + l)) := fun l hl => by
    by_cases q : l < pL P
    · exact (hR.2.2.2.1 l q).2.2.2.2.2.2.1
    · rw [hS.2.2.2.1 l (by omega) hl]
      exact hR.2.2.2.2.1 l (by omega) hl
  have st : ∀ l s, l < 4 → X5_woven_at4 (d + 1) 13 (nI (s + r (68 + l))) (nI (l + 1)) μ (nI (r 90)) μ → X5_woven_at4 (d + 1) 13 (nI s) (nI l) μ (nI (r 90)) μ := fun l s hl k => by
    have pc := part_c (d := d) (s := 13) (μ := μ) (l := l) (k := 6) hl (by decide)
    rw [show (13 : Nat) + 2 = 15 from rfl, w l hl] at pc
    refine X5_woven_at4_ok (tneg (nI_ge (b := 4) hl (by decide)) ⟨_, μ, pc, ?_⟩)
    rw [nJ_add, ← nI_succ]
    exact k
  refine X5_woven_ok (st 0 0 (by decide) (st 1 _ (by decide) (st 2 _ (by decide) (st 3 _ (by decide) (X5_woven_at4_ok (tpos (by decide) ⟨?_, rfl⟩))))))
  show nI (r 90) = nI (0 + r 68 + r 69 + r 70 + r 71)
  rw [hS.2.2.2.2]
  congr 1
  omega
theorem heldSlots_c {hd : Nat → Bool} {μ : Mem} (h : ∀ s, s < 3 → μ.1 191 s = bI (hd s)) : X9_heldSlots d μ (nI (cntA hd 3)) μ := by
  have st : ∀ s, s < 3 → X9_heldSlots_at4 d (nI (cntA hd (s + 1))) (nI (s + 1)) μ (nI (cntA hd 3)) μ → X9_heldSlots_at4 d (nI (cntA hd s)) (nI s) μ (nI (cntA hd 3)) μ := fun s hs k => by
    refine X9_heldSlots_at4_ok (tneg (nI_ge (b := 3) hs (by decide)) ⟨vp_inN hs (by decide), ?_⟩)
    rw [nI_clamp (by omega), h s hs, ← nI_succ s]
    have e : cntA hd (s + 1) = cntA hd s + if hd s then 1 else 0 := rfl
    rw [e] at k
    cases hh : hd s with
    | false => rw [hh] at k; exact tpos rfl k
    | true => rw [hh, if_pos rfl, nI_succ] at k; exact tneg (by decide) k
  exact X9_heldSlots_ok (st 0 (by decide) (st 1 (by decide) (st 2 (by decide) (X9_heldSlots_at4_ok (tpos (by decide) ⟨rfl, rfl⟩)))))
theorem held_m {hd : Nat → Bool} {μ : Mem} (h : ∀ s, s < 3 → μ.1 45 s = bI (hd s)) : (((μ.1 45 0) = 0 → X10_count_at173 d 0 μ (nI (cntA hd 3)) μ) ∧ (¬ (μ.1 45 0) = 0 → X10_count_at173 d 1 μ (nI (cntA hd 3)) μ)) := by
  have k2 : ∀ s, s + (if hd 2 then 1 else 0) = cntA hd 3 → X10_count_at187 d (nI s) 0 μ (nI (cntA hd 3)) μ := fun s e => by
    refine X10_count_at187_ok ?_
    rw [h 2 (by decide), show nI s + 0 = nI s from nJ_add s 0]
    cases hh : hd 2 with
    | false =>
      rw [hh] at e
      exact tpos rfl (X10_count_at202_ok ⟨by rw [← e]; exact (nJ_add s 0).symm, rfl⟩)
    | true =>
      rw [hh] at e
      exact tneg (by decide) (X10_count_at202_ok ⟨by rw [← e]; exact (nJ_add s 1).symm, rfl⟩)
  have k2' : ∀ s, s + 1 + (if hd 2 then 1 else 0) = cntA hd 3 → X10_count_at187 d (nI s) 1 μ (nI (cntA hd 3)) μ := fun s e => by
    refine X10_count_at187_ok ?_
    rw [h 2 (by decide), ← nI_succ]
    cases hh : hd 2 with
    | false =>
      rw [hh] at e
      exact tpos rfl (X10_count_at202_ok ⟨by rw [← e]; exact (nJ_add (s + 1) 0).symm, rfl⟩)
    | true =>
      rw [hh] at e
      exact tneg (by decide) (X10_count_at202_ok ⟨by rw [← e]; exact (nJ_add (s + 1) 1).symm, rfl⟩)
  have k1 : ∀ s, s + (if hd 1 then 1 else 0) + (if hd 2 then 1 else 0) = cntA hd 3 → X10_count_at173 d (nI s) μ (nI (cntA hd 3)) μ := fun s e => by
    refine X10_count_at173_ok ?_
    rw [h 1 (by decide)]
    cases hh : hd 1 with
    | false => rw [hh] at e; exact tpos rfl (k2 s e)
    | true => rw [hh] at e; exact tneg (by decide) (k2' s e)
  have e3 : cntA hd 3 = (0 + if hd 0 then 1 else 0) + (if hd 1 then 1 else 0) + (if hd 2 then 1 else 0) := rfl
  rw [h 0 (by decide)]
  cases hh : hd 0 with
  | false => rw [hh] at e3; exact tpos rfl (k1 0 e3.symm)
  | true => rw [hh] at e3; exact tneg (by decide) (k1 1 e3.symm)
theorem fI_eq {o : Option Nat} {f : Nat} (ho : ∀ g, o = some g → g < 6) (hf : f < 6) : fI o = nI f ↔ o = some f := by
  cases o with
  | none =>
    refine ⟨fun z => ?_, fun z => by cases z⟩
    have := nI_pos' (n := f) (by omega)
    rw [← z] at this
    exact absurd this (by decide)
  | some g =>
    have := ho g rfl
    refine ⟨fun z => ?_, fun z => by cases z; rfl⟩
    rw [nI_inj (by omega) (by omega) z]
theorem landI_eq {P : Pl} (pw : PW P) {c f : Nat} (hf : f < 6) : landI P c = nI f ↔ (onL P c && decide (pFld P c = some f)) = true := by
  unfold landI
  cases ho : onL P c with
  | false =>
    rw [if_neg Bool.false_ne_true]
    refine ⟨fun z => ?_, fun z => by cases z⟩
    have := nI_pos' (n := f) (by omega)
    rw [← z] at this
    exact absurd this (by decide)
  | true =>
    rw [if_pos rfl, Bool.true_and, decide_eq_true_iff]
    exact fI_eq (fld6 pw ho) hf
theorem waterOf_loop {P : Pl} {p f : Nat} {r : Nat → Nat} {μ : Mem} (hf : f < pF P) (hC : CP P p μ) (hR : RowC P 13 μ r) : ∀ (m c : Nat), c + m = 48 → X5_waterOf_at5 d 13 p (nI f) (nI (watA P r f c)) (nI c) μ (nI (watA P r f 48)) μ
  | 0, c, hc => by
    have hc : c = 48 := hc
    subst hc
    exact X5_waterOf_at5_ok (tpos (by decide) ⟨rfl, rfl⟩)
  | m + 1, c, hc => by
    have pw := hC.1
    have f6 := pw.2.2.1
    have ih := waterOf_loop hf hC hR m (c + 1) (by omega)
    refine X5_waterOf_at5_ok (tneg (nI_ge (b := 48) (by omega) (by decide)) ⟨vp_inN (by omega) (by decide), ?_⟩)
    rw [nI_clamp (by omega), hC.land (by omega), hR.2.2.1 c (by omega), nJ_add, ← nI_succ]
    have e : watA P r f (c + 1) = watA P r f c + if onL P c && decide (pFld P c = some f) then r c else 0 := rfl
    rw [e] at ih
    have le := landI_eq pw (c := c) (show f < 6 by omega)
    cases hh : onL P c && decide (pFld P c = some f) with
    | false =>
      rw [hh] at ih le
      exact tne (fun z => by cases le.mp z) ih
    | true =>
      rw [hh] at ih le
      exact teq (le.mpr rfl) ⟨vp_inN (by omega) (by decide), ih⟩
theorem waterOf_c {P : Pl} {p f : Nat} {r : Nat → Nat} {μ : Mem} (hf : f < pF P) (hC : CP P p μ) (hR : RowC P 13 μ r) : X5_waterOf d 13 p (nI f) μ (nI (watA P r f 48)) μ := X5_waterOf_ok (waterOf_loop hf hC hR 48 0 (by omega))
theorem field_loop' {P : Pl} {f : Nat} {r : Nat → Nat} {μ : Mem} (hf : f < pF P) (hM : MP P μ) (hR : RowM μ 33 r) : ∀ (m c : Nat), c + m = 48 → X10_field_at55 (d + 2) (nI f) (nI (watA P r f c)) (nI c) μ (nI (watA P r f 48)) μ
  | 0, c, hc => by
    have hc : c = 48 := hc
    subst hc
    exact X10_field_at55_ok (tpos (by decide) ⟨rfl, rfl⟩)
  | m + 1, c, hc => by
    have pw := hM.1
    have f6 := pw.2.2.1
    have ih := field_loop' hf hM hR m (c + 1) (by omega)
    have e : watA P r f (c + 1) = watA P r f c + if onL P c && decide (pFld P c = some f) then r c else 0 := rfl
    rw [e, nI_succ] at ih
    refine X10_field_at55_ok (tneg (nI_ge (b := 48) (by omega) (by decide)) ⟨_, μ, isLand_m (by omega) hM, ?_⟩)
    cases ho : onL P c with
    | false => rw [ho] at ih; exact tpos rfl ih
    | true =>
      rw [ho, Bool.true_and] at ih
      refine tneg (by decide) ⟨_, μ, fieldAt_m (by omega) ho hM, ?_⟩
      have le := fI_eq (fld6 pw ho) (show f < 6 by omega)
      by_cases q : pFld P c = some f
      · rw [decide_eq_true q] at ih
        refine teq (le.mpr q) ⟨vp_inN (by omega) (by decide), ?_⟩
        rw [nI_clamp (by omega), hR c (by omega), nJ_add]
        exact ih
      · rw [decide_eq_false q] at ih
        exact tne (fun z => q (le.mp z)) ih
theorem field_loop {P : Pl} {f : Nat} {r : Nat → Nat} {μ : Mem} (hf : f < pF P) (hM : MP P μ) (hR : RowM μ 33 r) : X10_field_at55 (d + 2) (nI f) 0 0 μ (nI (watA P r f 48)) μ := field_loop' hf hM hR 48 0 (by omega)
theorem cellsOf_loop {P : Pl} {f : Nat} {μ : Mem} (hf : f < pF P) (hM : MP P μ) : ∀ (m c : Nat), c + m = 48 → X10_cellsOf_at4 (d + 2) (nI f) (nI (cellsA P f c)) (nI c) μ (nI (cellsA P f 48)) μ
  | 0, c, hc => by
    have hc : c = 48 := hc
    subst hc
    exact X10_cellsOf_at4_ok (tpos (by decide) ⟨rfl, rfl⟩)
  | m + 1, c, hc => by
    have pw := hM.1
    have f6 := pw.2.2.1
    have ih := cellsOf_loop hf hM m (c + 1) (by omega)
    have e : cellsA P f (c + 1) = cellsA P f c + if onL P c && decide (pFld P c = some f) then 1 else 0 := rfl
    rw [e, nI_succ c] at ih
    refine X10_cellsOf_at4_ok (tneg (nI_ge (b := 48) (by omega) (by decide)) ⟨_, μ, isLand_m (by omega) hM, ?_⟩)
    cases ho : onL P c with
    | false => rw [ho] at ih; exact tpos rfl ih
    | true =>
      rw [ho, Bool.true_and] at ih
      refine tneg (by decide) ⟨_, μ, fieldAt_m (by omega) ho hM, ?_⟩
      have le := fI_eq (fld6 pw ho) (show f < 6 by omega)
      by_cases q : pFld P c = some f
      · rw [decide_eq_true q] at ih
        refine teq (le.mpr q) ?_
        rw [← nI_succ (cellsA P f c)]
        exact ih
      · rw [decide_eq_false q] at ih
        exact tne (fun z => q (le.mp z)) ih
theorem cellsOf_m {P : Pl} {f : Nat} {μ : Mem} (hf : f < pF P) (hM : MP P μ) : X10_cellsOf (d + 3) (nI f) μ (nI (cellsA P f 48)) μ := X10_cellsOf_ok (cellsOf_loop hf hM 48 0 (by omega))
theorem needAll_m {P : Pl} {f : Nat} {μ : Mem} (hf : f < pF P) (hM : MP P μ) : X10_needAll (d + 4) (nI f) μ (nI (cellsA P f 48 * pNe P f)) μ := by
  have f6 := hM.1.2.2.1
  obtain ⟨L, h1, h2, _, m⟩ := hM.eL
  refine X10_needAll_ok ⟨_, μ, cellsOf_m hf hM, ?_⟩
  rw [h2, show (6 : Int32) = nI 6 from rfl, nI_mul, nJ_add, nI_clamp (by omega), (m.2.2.2.2.2.2.2.2.2.2.1 f hf).1, nI_mul]
  exact ⟨vp_inN (by omega) (by decide), rfl, rfl⟩
theorem needOf_c {P : Pl} {p f : Nat} {μ : Mem} (hf : f < pF P) (hC : CP P p μ) : X3_needOf (d + 1) p (nI f) μ (nI (cellsA P f 48 * pNe P f)) μ := by
  have f6 := hC.1.2.2.1
  refine X3_needOf_ok ⟨_, μ, hasField_c hC, ?_⟩
  rw [inN_nI (by omega), decide_eq_true hf, nI_clamp (by omega), (hC.fld hf).1, (hC.fld hf).2.1, nI_mul]
  exact tneg (by decide) ⟨vp_inN (by omega) (by decide), vp_inN (by omega) (by decide), rfl, rfl⟩
theorem fieldAt_c {P : Pl} {p x y : Nat} {μ : Mem} (hx : x < pW P) (hy : y < pH P) (hC : CP P p μ) : X3_fieldAt (d + 1) p (nI x) (nI y) μ (landI P (8 * y + x)) μ := by
  have px := hC.1.1
  have py := hC.1.2.1
  refine X3_fieldAt_ok ⟨_, μ, hasCell_c hC, ?_⟩
  rw [inN_nI (by omega), inN_nI (by omega), decide_eq_true hx, decide_eq_true hy, part_e, nI_clamp (by omega), hC.land (by omega)]
  exact tneg (by decide) ⟨vp_inN (by omega) (by decide), rfl, rfl⟩
theorem waterAt_c {P : Pl} {s x y : Nat} {r : Nat → Nat} {μ : Mem} (hx : x < 8) (hy : y < 6) (hR : RowC P s μ r) : X5_waterAt d s (nI x) (nI y) μ (nI (r (8 * y + x))) μ := by
  refine X5_waterAt_ok (tneg (nI_pos (by omega)) (tneg (nI_ge (b := 8) hx (by decide)) (tneg (nI_pos (by omega)) (tneg (nI_ge (b := 6) hy (by decide)) (tneg (by decide) ?_)))))
  rw [part_e, nI_clamp (by omega), hR.2.2.1 _ (by omega)]
  exact ⟨vp_inN (by omega) (by decide), rfl, rfl⟩
theorem call_count {a : Int32} (hn : n ≤ 512) : Both (X9_count (d + 8) a) (X10_count (d + 8) a) n := by
  rintro μC μM ⟨P, p, r, h⟩
  obtain ⟨⟨hC, hK, hR⟩, ⟨hM, hRM⟩, hS, ⟨T, t1, t2, t3, t4, t5⟩, ⟨t, nx, H, hP⟩, ⟨hd, S, hSl⟩, ⟨tt, X, Y, W, hW⟩, hD⟩ := id h
  have pw := hC.1
  obtain ⟨L, h1, h2, _, m⟩ := hM.eL
  rcases i_cases (x := a) 14 (by decide) with ⟨k, hk, rfl⟩ | hout
  · have hk14 : k = 0 ∨ k = 1 ∨ k = 2 ∨ k = 3 ∨ k = 4 ∨ k = 5 ∨ k = 6 ∨ k = 7 ∨ k = 8 ∨ k = 9 ∨ k = 10 ∨ k = 11 ∨ k = 12 ∨ k = 13 := by omega
    rcases hk14 with rfl | rfl | rfl | rfl | rfl | rfl | rfl | rfl | rfl | rfl | rfl | rfl | rfl | rfl
    · exact ⟨nI (pW P), μC, μM, X9_count_ok ⟨fun _ => ⟨by rw [hC.ptr0]; exact hC.num.1.symm, rfl⟩, fun q => absurd q (by decide), fun q => absurd q (by decide), fun q => absurd q (by decide), fun q => absurd q (by decide), fun q => absurd q (by decide), fun q => absurd q (by decide), fun q => absurd q (by decide), fun q => absurd q (by decide), fun q => absurd q (by decide), fun q => absurd q (by decide), fun q => absurd q (by decide), fun q => absurd q (by decide), fun q => absurd q (by decide), fun q => absurd q (by decide)⟩, X10_count_ok ⟨fun _ => ⟨hM.live, by rw [h2, nI_clamp (by omega)]; exact m.2.2.1.symm, rfl⟩, fun q => absurd q (by decide), fun q => absurd q (by decide), fun q => absurd q (by decide), fun q => absurd q (by decide), fun q => absurd q (by decide), fun q => absurd q (by decide), fun q => absurd q (by decide), fun q => absurd q (by decide), fun q => absurd q (by decide), fun q => absurd q (by decide), fun q => absurd q (by decide), fun q => absurd q (by decide), fun q => absurd q (by decide), fun q => absurd q (by decide)⟩, h.next⟩
    · exact ⟨nI (pH P), μC, μM, X9_count_ok ⟨fun q => absurd q (by decide), fun _ => ⟨by rw [hC.ptr0]; exact hC.num.2.1.symm, rfl⟩, fun q => absurd q (by decide), fun q => absurd q (by decide), fun q => absurd q (by decide), fun q => absurd q (by decide), fun q => absurd q (by decide), fun q => absurd q (by decide), fun q => absurd q (by decide), fun q => absurd q (by decide), fun q => absurd q (by decide), fun q => absurd q (by decide), fun q => absurd q (by decide), fun q => absurd q (by decide), fun q => absurd q (by decide)⟩, X10_count_ok ⟨fun q => absurd q (by decide), fun _ => ⟨hM.live, by rw [h2, nI_clamp (by omega)]; exact m.2.2.2.1.symm, rfl⟩, fun q => absurd q (by decide), fun q => absurd q (by decide), fun q => absurd q (by decide), fun q => absurd q (by decide), fun q => absurd q (by decide), fun q => absurd q (by decide), fun q => absurd q (by decide), fun q => absurd q (by decide), fun q => absurd q (by decide), fun q => absurd q (by decide), fun q => absurd q (by decide), fun q => absurd q (by decide), fun q => absurd q (by decide)⟩, h.next⟩
    · exact ⟨nI (pF P), μC, μM, X9_count_ok ⟨fun q => absurd q (by decide), fun q => absurd q (by decide), fun _ => ⟨by rw [hC.ptr0]; exact hC.num.2.2.1.symm, rfl⟩, fun q => absurd q (by decide), fun q => absurd q (by decide), fun q => absurd q (by decide), fun q => absurd q (by decide), fun q => absurd q (by decide), fun q => absurd q (by decide), fun q => absurd q (by decide), fun q => absurd q (by decide), fun q => absurd q (by decide), fun q => absurd q (by decide), fun q => absurd q (by decide), fun q => absurd q (by decide)⟩, X10_count_ok ⟨fun q => absurd q (by decide), fun q => absurd q (by decide), fun _ => ⟨hM.live, by rw [h2, nI_clamp (by omega)]; exact m.2.2.2.2.1.symm, rfl⟩, fun q => absurd q (by decide), fun q => absurd q (by decide), fun q => absurd q (by decide), fun q => absurd q (by decide), fun q => absurd q (by decide), fun q => absurd q (by decide), fun q => absurd q (by decide), fun q => absurd q (by decide), fun q => absurd q (by decide), fun q => absurd q (by decide), fun q => absurd q (by decide), fun q => absurd q (by decide)⟩, h.next⟩
    · exact ⟨nI (pL P), μC, μM, X9_count_ok ⟨fun q => absurd q (by decide), fun q => absurd q (by decide), fun q => absurd q (by decide), fun _ => ⟨by rw [hC.ptr0]; exact hC.num.2.2.2.1.symm, rfl⟩, fun q => absurd q (by decide), fun q => absurd q (by decide), fun q => absurd q (by decide), fun q => absurd q (by decide), fun q => absurd q (by decide), fun q => absurd q (by decide), fun q => absurd q (by decide), fun q => absurd q (by decide), fun q => absurd q (by decide), fun q => absurd q (by decide), fun q => absurd q (by decide)⟩, X10_count_ok ⟨fun q => absurd q (by decide), fun q => absurd q (by decide), fun q => absurd q (by decide), fun _ => ⟨hM.live, by rw [h2, nI_clamp (by omega)]; exact m.2.2.2.2.2.1.symm, rfl⟩, fun q => absurd q (by decide), fun q => absurd q (by decide), fun q => absurd q (by decide), fun q => absurd q (by decide), fun q => absurd q (by decide), fun q => absurd q (by decide), fun q => absurd q (by decide), fun q => absurd q (by decide), fun q => absurd q (by decide), fun q => absurd q (by decide), fun q => absurd q (by decide)⟩, h.next⟩
    · exact ⟨nI (r 89), μC, μM, X9_count_ok ⟨fun q => absurd q (by decide), fun q => absurd q (by decide), fun q => absurd q (by decide), fun q => absurd q (by decide), fun _ => ⟨hR.1.symm, rfl⟩, fun q => absurd q (by decide), fun q => absurd q (by decide), fun q => absurd q (by decide), fun q => absurd q (by decide), fun q => absurd q (by decide), fun q => absurd q (by decide), fun q => absurd q (by decide), fun q => absurd q (by decide), fun q => absurd q (by decide), fun q => absurd q (by decide)⟩, X10_count_ok ⟨fun q => absurd q (by decide), fun q => absurd q (by decide), fun q => absurd q (by decide), fun q => absurd q (by decide), fun _ => ⟨(hRM 89 (by decide)).symm, rfl⟩, fun q => absurd q (by decide), fun q => absurd q (by decide), fun q => absurd q (by decide), fun q => absurd q (by decide), fun q => absurd q (by decide), fun q => absurd q (by decide), fun q => absurd q (by decide), fun q => absurd q (by decide), fun q => absurd q (by decide), fun q => absurd q (by decide)⟩, h.next⟩
    · exact ⟨nI (r 88), μC, μM, X9_count_ok ⟨fun q => absurd q (by decide), fun q => absurd q (by decide), fun q => absurd q (by decide), fun q => absurd q (by decide), fun q => absurd q (by decide), fun _ => ⟨hR.2.1.symm, rfl⟩, fun q => absurd q (by decide), fun q => absurd q (by decide), fun q => absurd q (by decide), fun q => absurd q (by decide), fun q => absurd q (by decide), fun q => absurd q (by decide), fun q => absurd q (by decide), fun q => absurd q (by decide), fun q => absurd q (by decide)⟩, X10_count_ok ⟨fun q => absurd q (by decide), fun q => absurd q (by decide), fun q => absurd q (by decide), fun q => absurd q (by decide), fun q => absurd q (by decide), fun _ => ⟨(hRM 88 (by decide)).symm, rfl⟩, fun q => absurd q (by decide), fun q => absurd q (by decide), fun q => absurd q (by decide), fun q => absurd q (by decide), fun q => absurd q (by decide), fun q => absurd q (by decide), fun q => absurd q (by decide), fun q => absurd q (by decide), fun q => absurd q (by decide)⟩, h.next⟩
    · exact ⟨nI (sumA r 48), μC, μM, X9_count_ok ⟨fun q => absurd q (by decide), fun q => absurd q (by decide), fun q => absurd q (by decide), fun q => absurd q (by decide), fun q => absurd q (by decide), fun q => absurd q (by decide), fun _ => ⟨_, μC, sum_c (f := r) (by decide) hR.2.2.1, rfl, rfl⟩, fun q => absurd q (by decide), fun q => absurd q (by decide), fun q => absurd q (by decide), fun q => absurd q (by decide), fun q => absurd q (by decide), fun q => absurd q (by decide), fun q => absurd q (by decide), fun q => absurd q (by decide)⟩, X10_count_ok ⟨fun q => absurd q (by decide), fun q => absurd q (by decide), fun q => absurd q (by decide), fun q => absurd q (by decide), fun q => absurd q (by decide), fun q => absurd q (by decide), fun _ => ⟨_, μM, sumNow_0 hRM, rfl, rfl⟩, fun q => absurd q (by decide), fun q => absurd q (by decide), fun q => absurd q (by decide), fun q => absurd q (by decide), fun q => absurd q (by decide), fun q => absurd q (by decide), fun q => absurd q (by decide), fun q => absurd q (by decide)⟩, h.next⟩
    · exact ⟨nI (r 90), μC, μM, X9_count_ok ⟨fun q => absurd q (by decide), fun q => absurd q (by decide), fun q => absurd q (by decide), fun q => absurd q (by decide), fun q => absurd q (by decide), fun q => absurd q (by decide), fun q => absurd q (by decide), fun _ => ⟨_, μC, woven_c pw hR hS, rfl, rfl⟩, fun q => absurd q (by decide), fun q => absurd q (by decide), fun q => absurd q (by decide), fun q => absurd q (by decide), fun q => absurd q (by decide), fun q => absurd q (by decide), fun q => absurd q (by decide)⟩, X10_count_ok ⟨fun q => absurd q (by decide), fun q => absurd q (by decide), fun q => absurd q (by decide), fun q => absurd q (by decide), fun q => absurd q (by decide), fun q => absurd q (by decide), fun q => absurd q (by decide), fun _ => ⟨(hRM 90 (by decide)).symm, rfl⟩, fun q => absurd q (by decide), fun q => absurd q (by decide), fun q => absurd q (by decide), fun q => absurd q (by decide), fun q => absurd q (by decide), fun q => absurd q (by decide), fun q => absurd q (by decide)⟩, h.next⟩
    · exact ⟨nI T, μC, μM, X9_count_ok ⟨fun q => absurd q (by decide), fun q => absurd q (by decide), fun q => absurd q (by decide), fun q => absurd q (by decide), fun q => absurd q (by decide), fun q => absurd q (by decide), fun q => absurd q (by decide), fun q => absurd q (by decide), fun _ => ⟨t2.symm, rfl⟩, fun q => absurd q (by decide), fun q => absurd q (by decide), fun q => absurd q (by decide), fun q => absurd q (by decide), fun q => absurd q (by decide), fun q => absurd q (by decide)⟩, X10_count_ok ⟨fun q => absurd q (by decide), fun q => absurd q (by decide), fun q => absurd q (by decide), fun q => absurd q (by decide), fun q => absurd q (by decide), fun q => absurd q (by decide), fun q => absurd q (by decide), fun q => absurd q (by decide), fun _ => ⟨t3.symm, rfl⟩, fun q => absurd q (by decide), fun q => absurd q (by decide), fun q => absurd q (by decide), fun q => absurd q (by decide), fun q => absurd q (by decide), fun q => absurd q (by decide)⟩, h.next⟩
    · exact ⟨nI t, μC, μM, X9_count_ok ⟨fun q => absurd q (by decide), fun q => absurd q (by decide), fun q => absurd q (by decide), fun q => absurd q (by decide), fun q => absurd q (by decide), fun q => absurd q (by decide), fun q => absurd q (by decide), fun q => absurd q (by decide), fun q => absurd q (by decide), fun _ => ⟨hP.2.2.1.symm, rfl⟩, fun q => absurd q (by decide), fun q => absurd q (by decide), fun q => absurd q (by decide), fun q => absurd q (by decide), fun q => absurd q (by decide)⟩, X10_count_ok ⟨fun q => absurd q (by decide), fun q => absurd q (by decide), fun q => absurd q (by decide), fun q => absurd q (by decide), fun q => absurd q (by decide), fun q => absurd q (by decide), fun q => absurd q (by decide), fun q => absurd q (by decide), fun q => absurd q (by decide), fun _ => ⟨hP.M.1.symm, rfl⟩, fun q => absurd q (by decide), fun q => absurd q (by decide), fun q => absurd q (by decide), fun q => absurd q (by decide), fun q => absurd q (by decide)⟩, h.next⟩
    · exact ⟨nI tt, μC, μM, X9_count_ok ⟨fun q => absurd q (by decide), fun q => absurd q (by decide), fun q => absurd q (by decide), fun q => absurd q (by decide), fun q => absurd q (by decide), fun q => absurd q (by decide), fun q => absurd q (by decide), fun q => absurd q (by decide), fun q => absurd q (by decide), fun q => absurd q (by decide), fun _ => ⟨hW.2.1.symm, rfl⟩, fun q => absurd q (by decide), fun q => absurd q (by decide), fun q => absurd q (by decide), fun q => absurd q (by decide)⟩, X10_count_ok ⟨fun q => absurd q (by decide), fun q => absurd q (by decide), fun q => absurd q (by decide), fun q => absurd q (by decide), fun q => absurd q (by decide), fun q => absurd q (by decide), fun q => absurd q (by decide), fun q => absurd q (by decide), fun q => absurd q (by decide), fun q => absurd q (by decide), fun _ => ⟨hW.2.2.1.symm, rfl⟩, fun q => absurd q (by decide), fun q => absurd q (by decide), fun q => absurd q (by decide), fun q => absurd q (by decide)⟩, h.next⟩
    · have hc := held_m (d := d + 7) (μ := μM) (hd := hd) (fun s hs => (hSl s hs).2.1)
      exact ⟨nI (cntA hd 3), μC, μM, X9_count_ok ⟨fun q => absurd q (by decide), fun q => absurd q (by decide), fun q => absurd q (by decide), fun q => absurd q (by decide), fun q => absurd q (by decide), fun q => absurd q (by decide), fun q => absurd q (by decide), fun q => absurd q (by decide), fun q => absurd q (by decide), fun q => absurd q (by decide), fun q => absurd q (by decide), fun _ => ⟨_, μC, heldSlots_c (fun s hs => (hSl s hs).1), rfl, rfl⟩, fun q => absurd q (by decide), fun q => absurd q (by decide), fun q => absurd q (by decide)⟩, X10_count_ok ⟨fun q => absurd q (by decide), fun q => absurd q (by decide), fun q => absurd q (by decide), fun q => absurd q (by decide), fun q => absurd q (by decide), fun q => absurd q (by decide), fun q => absurd q (by decide), fun q => absurd q (by decide), fun q => absurd q (by decide), fun q => absurd q (by decide), fun q => absurd q (by decide), fun _ => hc, fun q => absurd q (by decide), fun q => absurd q (by decide), fun q => absurd q (by decide)⟩, h.next⟩
    · exact ⟨nI (sumA (fun k => r (76 + k)) 6), μC, μM, X9_count_ok ⟨fun q => absurd q (by decide), fun q => absurd q (by decide), fun q => absurd q (by decide), fun q => absurd q (by decide), fun q => absurd q (by decide), fun q => absurd q (by decide), fun q => absurd q (by decide), fun q => absurd q (by decide), fun q => absurd q (by decide), fun q => absurd q (by decide), fun q => absurd q (by decide), fun q => absurd q (by decide), fun _ => ⟨_, μC, sum_c (f := fun k => r (76 + k)) (by decide) (fun f hf => (hR.2.2.2.2.2 f hf).1), rfl, rfl⟩, fun q => absurd q (by decide), fun q => absurd q (by decide)⟩, X10_count_ok ⟨fun q => absurd q (by decide), fun q => absurd q (by decide), fun q => absurd q (by decide), fun q => absurd q (by decide), fun q => absurd q (by decide), fun q => absurd q (by decide), fun q => absurd q (by decide), fun q => absurd q (by decide), fun q => absurd q (by decide), fun q => absurd q (by decide), fun q => absurd q (by decide), fun q => absurd q (by decide), fun _ => ⟨_, μM, sumNow_m (from_ := 76) (many := 6) (by decide) hRM, rfl, rfl⟩, fun q => absurd q (by decide), fun q => absurd q (by decide)⟩, h.next⟩
    · exact ⟨nI (sumA (fun k => r (82 + k)) 6), μC, μM, X9_count_ok ⟨fun q => absurd q (by decide), fun q => absurd q (by decide), fun q => absurd q (by decide), fun q => absurd q (by decide), fun q => absurd q (by decide), fun q => absurd q (by decide), fun q => absurd q (by decide), fun q => absurd q (by decide), fun q => absurd q (by decide), fun q => absurd q (by decide), fun q => absurd q (by decide), fun q => absurd q (by decide), fun q => absurd q (by decide), fun _ => ⟨_, μC, sum_c (f := fun k => r (82 + k)) (by decide) (fun f hf => (hR.2.2.2.2.2 f hf).2), rfl, rfl⟩, fun q => absurd q (by decide)⟩, X10_count_ok ⟨fun q => absurd q (by decide), fun q => absurd q (by decide), fun q => absurd q (by decide), fun q => absurd q (by decide), fun q => absurd q (by decide), fun q => absurd q (by decide), fun q => absurd q (by decide), fun q => absurd q (by decide), fun q => absurd q (by decide), fun q => absurd q (by decide), fun q => absurd q (by decide), fun q => absurd q (by decide), fun q => absurd q (by decide), fun _ => ⟨_, μM, sumNow_m (from_ := 82) (many := 6) (by decide) hRM, rfl, rfl⟩, fun q => absurd q (by decide)⟩, h.next⟩
  · exact ⟨-1, μC, μM, X9_count_ok ⟨fun q => absurd hout (by rw [q]; decide), fun q => absurd hout (by rw [q]; decide), fun q => absurd hout (by rw [q]; decide), fun q => absurd hout (by rw [q]; decide), fun q => absurd hout (by rw [q]; decide), fun q => absurd hout (by rw [q]; decide), fun q => absurd hout (by rw [q]; decide), fun q => absurd hout (by rw [q]; decide), fun q => absurd hout (by rw [q]; decide), fun q => absurd hout (by rw [q]; decide), fun q => absurd hout (by rw [q]; decide), fun q => absurd hout (by rw [q]; decide), fun q => absurd hout (by rw [q]; decide), fun q => absurd hout (by rw [q]; decide), fun _ => ⟨rfl, rfl⟩⟩, X10_count_ok ⟨fun q => absurd hout (by rw [q]; decide), fun q => absurd hout (by rw [q]; decide), fun q => absurd hout (by rw [q]; decide), fun q => absurd hout (by rw [q]; decide), fun q => absurd hout (by rw [q]; decide), fun q => absurd hout (by rw [q]; decide), fun q => absurd hout (by rw [q]; decide), fun q => absurd hout (by rw [q]; decide), fun q => absurd hout (by rw [q]; decide), fun q => absurd hout (by rw [q]; decide), fun q => absurd hout (by rw [q]; decide), fun q => absurd hout (by rw [q]; decide), fun q => absurd hout (by rw [q]; decide), fun q => absurd hout (by rw [q]; decide), fun _ => ⟨rfl, rfl⟩⟩, h.next⟩
theorem call_field {a b : Int32} (hn : n ≤ 512) : Both (X9_field (d + 8) a b) (X10_field (d + 8) a b) n := by
  rintro μC μM ⟨P, p, r, h⟩
  obtain ⟨⟨hC, hK, hR⟩, ⟨hM, hRM⟩, hS, hT, ⟨t, nx, H, hP⟩, _, _, _⟩ := id h
  have pw := hC.1
  have p1 := hasField_c (d := d + 7) (x := a) hC
  have p2 := isField_m (d := d + 6) (f := a) hM
  cases hp : inN a (pF P) with
  | false =>
    rw [hp] at p1 p2
    exact ⟨-1, μC, μM, X9_field_ok ⟨_, μC, by rw [hC.ptr0]; exact p1, teq rfl ⟨rfl, rfl⟩⟩, X10_field_ok ⟨_, μM, p2, teq rfl ⟨rfl, rfl⟩⟩, h.next⟩
  | true =>
    rw [hp] at p1 p2
    obtain ⟨f, hf, rfl⟩ := inN_ex hp
    have f6 := pw.2.2.1
    have cf : (nI f).toNatClampNeg = f := nI_clamp (by omega)
    have e76 : (76 : Int32) + nI f = nI (76 + f) := nJ_add 76 f
    have e82 : (82 : Int32) + nI f = nI (82 + f) := nJ_add 82 f
    rcases i_cases (x := b) 5 (by decide) with ⟨k, hk, rfl⟩ | hout
    · have hk5 : k = 0 ∨ k = 1 ∨ k = 2 ∨ k = 3 ∨ k = 4 := by omega
      rcases hk5 with rfl | rfl | rfl | rfl | rfl
      · exact ⟨nI (cellsA P f 48), μC, μM, X9_field_ok ⟨_, μC, by rw [hC.ptr0]; exact p1, tne (by decide) ⟨fun _ => ⟨vp_inN (by omega) (by decide), by rw [hC.ptr0, cf]; exact (hC.fld hf).1.symm, rfl⟩, fun q => absurd q (by decide), fun q => absurd q (by decide), fun q => absurd q (by decide), fun q => absurd q (by decide), fun q => absurd q (by decide)⟩⟩, X10_field_ok ⟨_, μM, p2, tne (by decide) ⟨fun _ => ⟨_, μM, cellsOf_m (d := d + 4) hf hM, rfl, rfl⟩, fun q => absurd q (by decide), fun q => absurd q (by decide), fun q => absurd q (by decide), fun q => absurd q (by decide), fun q => absurd q (by decide)⟩⟩, h.next⟩
      · exact ⟨nI (watA P r f 48), μC, μM, X9_field_ok ⟨_, μC, by rw [hC.ptr0]; exact p1, tne (by decide) ⟨fun q => absurd q (by decide), fun _ => ⟨_, μC, by rw [hC.ptr0]; exact waterOf_c (d := d + 7) hf hC hR, rfl, rfl⟩, fun q => absurd q (by decide), fun q => absurd q (by decide), fun q => absurd q (by decide), fun q => absurd q (by decide)⟩⟩, X10_field_ok ⟨_, μM, p2, tne (by decide) ⟨fun q => absurd q (by decide), fun _ => field_loop (d := d + 5) hf hM hRM, fun q => absurd q (by decide), fun q => absurd q (by decide), fun q => absurd q (by decide), fun q => absurd q (by decide)⟩⟩, h.next⟩
      · exact ⟨nI (r (76 + f)), μC, μM, X9_field_ok ⟨_, μC, by rw [hC.ptr0]; exact p1, tne (by decide) ⟨fun q => absurd q (by decide), fun q => absurd q (by decide), fun _ => ⟨vp_inN (by omega) (by decide), by rw [cf]; exact (hR.2.2.2.2.2 f (by omega)).1.symm, rfl⟩, fun q => absurd q (by decide), fun q => absurd q (by decide), fun q => absurd q (by decide)⟩⟩, X10_field_ok ⟨_, μM, p2, tne (by decide) ⟨fun q => absurd q (by decide), fun q => absurd q (by decide), fun _ => (by rw [e76, nI_clamp (by omega)]; exact ⟨vp_inN (by omega) (by decide), (hRM _ (by omega)).symm, rfl⟩), fun q => absurd q (by decide), fun q => absurd q (by decide), fun q => absurd q (by decide)⟩⟩, h.next⟩
      · exact ⟨nI (r (82 + f)), μC, μM, X9_field_ok ⟨_, μC, by rw [hC.ptr0]; exact p1, tne (by decide) ⟨fun q => absurd q (by decide), fun q => absurd q (by decide), fun q => absurd q (by decide), fun _ => ⟨vp_inN (by omega) (by decide), by rw [cf]; exact (hR.2.2.2.2.2 f (by omega)).2.symm, rfl⟩, fun q => absurd q (by decide), fun q => absurd q (by decide)⟩⟩, X10_field_ok ⟨_, μM, p2, tne (by decide) ⟨fun q => absurd q (by decide), fun q => absurd q (by decide), fun q => absurd q (by decide), fun _ => (by rw [e82, nI_clamp (by omega)]; exact ⟨vp_inN (by omega) (by decide), (hRM _ (by omega)).symm, rfl⟩), fun q => absurd q (by decide), fun q => absurd q (by decide)⟩⟩, h.next⟩
      · exact ⟨nI (cellsA P f 48 * pNe P f), μC, μM, X9_field_ok ⟨_, μC, by rw [hC.ptr0]; exact p1, tne (by decide) ⟨fun q => absurd q (by decide), fun q => absurd q (by decide), fun q => absurd q (by decide), fun q => absurd q (by decide), fun _ => ⟨_, μC, by rw [hC.ptr0]; exact needOf_c (d := d + 6) hf hC, rfl, rfl⟩, fun q => absurd q (by decide)⟩⟩, X10_field_ok ⟨_, μM, p2, tne (by decide) ⟨fun q => absurd q (by decide), fun q => absurd q (by decide), fun q => absurd q (by decide), fun q => absurd q (by decide), fun _ => ⟨_, μM, needAll_m (d := d + 3) hf hM, rfl, rfl⟩, fun q => absurd q (by decide)⟩⟩, h.next⟩
    · exact ⟨-1, μC, μM, X9_field_ok ⟨_, μC, by rw [hC.ptr0]; exact p1, tne (by decide) ⟨fun q => absurd hout (by rw [q]; decide), fun q => absurd hout (by rw [q]; decide), fun q => absurd hout (by rw [q]; decide), fun q => absurd hout (by rw [q]; decide), fun q => absurd hout (by rw [q]; decide), fun _ => ⟨rfl, rfl⟩⟩⟩, X10_field_ok ⟨_, μM, p2, tne (by decide) ⟨fun q => absurd hout (by rw [q]; decide), fun q => absurd hout (by rw [q]; decide), fun q => absurd hout (by rw [q]; decide), fun q => absurd hout (by rw [q]; decide), fun q => absurd hout (by rw [q]; decide), fun _ => ⟨rfl, rfl⟩⟩⟩, h.next⟩
theorem call_cell {a b c : Int32} (hn : n ≤ 512) : Both (X9_cell (d + 8) a b c) (X10_cell (d + 8) a b c) n := by
  rintro μC μM ⟨P, p, r, h⟩
  obtain ⟨⟨hC, hK, hR⟩, ⟨hM, hRM⟩, hS, hT, ⟨t, nx, H, hP⟩, _, _, _⟩ := id h
  have pw := hC.1
  have p1 := hasCell_c (d := d + 7) (x := a) (y := b) hC
  have p2 := isCell_m (d := d + 6) (x := a) (y := b) hM
  cases hp : inN a (pW P) && inN b (pH P) with
  | false =>
    rw [hp] at p1 p2
    exact ⟨-1, μC, μM, X9_cell_ok ⟨_, μC, by rw [hC.ptr0]; exact p1, tpos rfl ⟨rfl, rfl⟩⟩, X10_cell_ok ⟨_, μM, p2, teq rfl ⟨rfl, rfl⟩⟩, h.next⟩
  | true =>
    rw [hp] at p1 p2
    obtain ⟨x, y, rfl, rfl, hx, hy⟩ := cellA hp
    have px := pw.1
    have py := pw.2.1
    obtain ⟨n1, b1, b2, b3, b4⟩ := copies_m (d := d + 7) hM hRM
    have hM1 : MP P n1 := hM.kp (scM_M (fC_scM b2))
    have hs1 : SimP n P p r μC n1 := h.scr Kq.refl hK (fC_scM b2)
    have hc48 : 8 * y + x < 48 := by omega
    have ho : onL P (8 * y + x) = true := by
      unfold onL
      rw [show (8 * y + x) % 8 = x by omega, show (8 * y + x) / 8 = y by omega, decide_eq_true hx, decide_eq_true hy]
      rfl
    have el : landI P (8 * y + x) = fI (pFld P (8 * y + x)) := by unfold landI; rw [ho]; rfl
    have e8 : (8 : Int32) * nI y + nI x = nI (8 * y + x) := by rw [show (8 : Int32) = nI 8 from rfl, nI_mul, nJ_add]
    have wb := hS.1.1 _ hc48
    have fa := fieldAt_c (d := d + 6) hx hy hC
    have wa := waterAt_c (d := d + 7) (s := 13) (x := x) (y := y) (by omega) (by omega) hR
    have lc := lacks_c (d := d + 6) (c := 8 * y + x) (w := r (8 * y + x)) hC hc48 (by omega)
    have dc := drowned_c (d := d + 6) (c := 8 * y + x) (w := r (8 * y + x)) hC hc48 (by omega)
    rw [ho, Bool.true_and] at lc dc
    have lm := isLacking_m (d := d + 5) (c := 8 * y + x) (w := r (8 * y + x)) hc48 ho hM1 (b3 _ (by omega)) (by omega)
    have fm := isFlooded_m (d := d + 5) (c := 8 * y + x) (w := r (8 * y + x)) hc48 ho hM1 (b3 _ (by omega)) (by omega)
    have fi := fieldAt_m (d := d + 7) (c := 8 * y + x) hc48 ho hM1
    have bb : ∀ (v : Bool) (μ' μ1 : Mem), μ' = μ1 → ((bI v = 0 → (bI v = 0 ∧ μ' = μ1)) ∧ (¬ bI v = 0 → (bI v = 1 ∧ μ' = μ1))) := fun v μ' μ1 e => by cases v; exact tpos rfl ⟨rfl, e⟩; exact tneg (by decide) ⟨rfl, e⟩
    rcases i_cases (x := c) 4 (by decide) with ⟨k, hk, rfl⟩ | hout
    · have hk4 : k = 0 ∨ k = 1 ∨ k = 2 ∨ k = 3 := by omega
      rcases hk4 with rfl | rfl | rfl | rfl
      · exact ⟨landI P (8 * y + x), μC, n1, X9_cell_ok ⟨_, μC, by rw [hC.ptr0]; exact p1, tneg (by decide) (tneg (by decide) (tpos (by decide) ⟨_, μC, by rw [hC.ptr0]; exact fa, _, μC, wa, ⟨fun _ => ⟨rfl, rfl⟩, fun q => absurd q (by decide), fun q => absurd q (by decide), fun q => absurd q (by decide)⟩⟩))⟩, X10_cell_ok ⟨_, μM, p2, tne (by decide) ⟨n1, b1, ⟨fun _ => ⟨_, n1, by rw [e8]; exact fi, el, rfl⟩, fun q => absurd q (by decide), fun q => absurd q (by decide), fun q => absurd q (by decide), fun q => absurd q (by decide)⟩⟩⟩, hs1.next⟩
      · exact ⟨nI (r (8 * y + x)), μC, n1, X9_cell_ok ⟨_, μC, by rw [hC.ptr0]; exact p1, tneg (by decide) (tneg (by decide) (tpos (by decide) ⟨_, μC, by rw [hC.ptr0]; exact fa, _, μC, wa, ⟨fun q => absurd q (by decide), fun _ => ⟨rfl, rfl⟩, fun q => absurd q (by decide), fun q => absurd q (by decide)⟩⟩))⟩, X10_cell_ok ⟨_, μM, p2, tne (by decide) ⟨n1, b1, ⟨fun q => absurd q (by decide), fun _ => (by rw [e8, nI_clamp (by omega)]; exact ⟨vp_inN (by omega) (by decide), (b3 _ (by omega)).symm, rfl⟩), fun q => absurd q (by decide), fun q => absurd q (by decide), fun q => absurd q (by decide)⟩⟩⟩, hs1.next⟩
      · exact ⟨bI (lackA P (8 * y + x) (r (8 * y + x))), μC, n1, X9_cell_ok ⟨_, μC, by rw [hC.ptr0]; exact p1, tneg (by decide) (tneg (by decide) (tpos (by decide) ⟨_, μC, by rw [hC.ptr0]; exact fa, _, μC, wa, ⟨fun q => absurd q (by decide), fun q => absurd q (by decide), fun _ => ⟨_, μC, by rw [hC.ptr0]; exact lc, bb _ _ _ rfl⟩, fun q => absurd q (by decide)⟩⟩))⟩, X10_cell_ok ⟨_, μM, p2, tne (by decide) ⟨n1, b1, ⟨fun q => absurd q (by decide), fun q => absurd q (by decide), fun _ => ⟨_, n1, by rw [e8]; exact lm, bb _ _ _ rfl⟩, fun q => absurd q (by decide), fun q => absurd q (by decide)⟩⟩⟩, hs1.next⟩
      · exact ⟨bI (floodA P (8 * y + x) (r (8 * y + x))), μC, n1, X9_cell_ok ⟨_, μC, by rw [hC.ptr0]; exact p1, tneg (by decide) (tneg (by decide) (tpos (by decide) ⟨_, μC, by rw [hC.ptr0]; exact fa, _, μC, wa, ⟨fun q => absurd q (by decide), fun q => absurd q (by decide), fun q => absurd q (by decide), fun _ => ⟨_, μC, by rw [hC.ptr0]; exact dc, bb _ _ _ rfl⟩⟩⟩))⟩, X10_cell_ok ⟨_, μM, p2, tne (by decide) ⟨n1, b1, ⟨fun q => absurd q (by decide), fun q => absurd q (by decide), fun q => absurd q (by decide), fun _ => ⟨_, n1, by rw [e8]; exact fm, bb _ _ _ rfl⟩, fun q => absurd q (by decide)⟩⟩⟩, hs1.next⟩
    · refine ⟨-1, μC, n1, X9_cell_ok ⟨_, μC, by rw [hC.ptr0]; exact p1, tneg (by decide) ⟨fun _ => ⟨rfl, rfl⟩, fun q => tneg ?_ ⟨rfl, rfl⟩⟩⟩, X10_cell_ok ⟨_, μM, p2, tne (by decide) ⟨n1, b1, ⟨fun q => absurd hout (by rw [q]; decide), fun q => absurd hout (by rw [q]; decide), fun q => absurd hout (by rw [q]; decide), fun q => absurd hout (by rw [q]; decide), fun _ => ⟨rfl, rfl⟩⟩⟩⟩, hs1.next⟩
      intro q2
      rw [Int32.le_iff_toInt_le, show (3 : Int32).toInt = 3 from rfl] at q2
      rw [Int32.lt_iff_toInt_lt, show (0 : Int32).toInt = 0 from rfl] at q
      omega
theorem call_loom {a b : Int32} (hn : n ≤ 512) : Both (X9_loom (d + 8) a b) (X10_loom (d + 8) a b) n := by
  rintro μC μM ⟨P, p, r, h⟩
  obtain ⟨⟨hC, hK, hR⟩, ⟨hM, hRM⟩, hS, hT, ⟨t, nx, H, hP⟩, _, _, _⟩ := id h
  have pw := hC.1
  have h4 := pw.2.2.2.1
  obtain ⟨L, h1, h2, _, m⟩ := hM.eL
  have p1 := hasLoom_c (d := d + 7) (x := a) hC
  have p2 := isLoom_m (d := d + 6) (f := a) hM
  cases hp : inN a (pL P) with
  | false =>
    rw [hp] at p1 p2
    exact ⟨-1, μC, μM, X9_loom_ok ⟨_, μC, by rw [hC.ptr0]; exact p1, tpos rfl ⟨rfl, rfl⟩⟩, X10_loom_ok ⟨_, μM, p2, teq rfl ⟨rfl, rfl⟩⟩, h.next⟩
  | true =>
    rw [hp] at p1 p2
    obtain ⟨l, hl, rfl⟩ := inN_ex hp
    obtain ⟨L0, L1, L2, L3, L4, L5, L6, L7⟩ := hR.2.2.2.1 l hl
    have pc : ∀ k, k < 8 → X5_part (d + 7) 13 (nI l) (nI k) μC (μC.1 15 (8 * l + k)) μC := fun k hk => part_c (d := d + 6) (s := 13) (μ := μC) (l := l) (k := k) (by omega) hk
    have e52 : (52 : Int32) + nI l = nI (52 + l) := nJ_add 52 l
    have ord : ∀ b, b < 28 → ((μM.1 33 (52 + l) ≠ 0 → vp_in (nI (44 + b + l)) 92 ∧ (ordI r l (44 + b) = μM.1 33 (44 + b + l) ∧ μM = μM)) ∧ (μM.1 33 (52 + l) = 0 → (ordI r l (44 + b) = -2 ∧ μM = μM))) := fun b hb => by
      rw [hRM _ (by omega), hRM (44 + b + l) (by omega)]
      unfold ordI
      by_cases z : r (52 + l) = 0
      · rw [z, if_pos rfl]
        exact teq rfl ⟨rfl, rfl⟩
      · have := hS.ordIn pw hl z
        rw [if_neg z]
        exact tne (nI_ne0 (by omega) (by omega)) ⟨vp_inN (by omega) (by decide), rfl, rfl⟩
    rcases i_cases (x := b) 8 (by decide) with ⟨k, hk, rfl⟩ | hout
    · have hk8 : k = 0 ∨ k = 1 ∨ k = 2 ∨ k = 3 ∨ k = 4 ∨ k = 5 ∨ k = 6 ∨ k = 7 := by omega
      rcases hk8 with rfl | rfl | rfl | rfl | rfl | rfl | rfl | rfl
      · exact ⟨nI (pWi P l), μC, μM, X9_loom_ok ⟨_, μC, by rw [hC.ptr0]; exact p1, tneg (by decide) (tneg (by decide) (tpos (by decide) ⟨_, μC, pc 0 (by decide), L0.symm, rfl⟩))⟩, X10_loom_ok ⟨_, μM, p2, tne (by decide) ⟨fun _ => (by rw [h2, show (4 : Int32) = nI 4 from rfl, nI_mul, nJ_add, nI_clamp (by omega)]; exact ⟨vp_inN (by omega) (by decide), (m.2.2.2.2.2.2.2.2.2.2.2.1 l hl).1.symm, rfl⟩), fun q => absurd q (by decide), fun q => absurd q (by decide), fun q => absurd q (by decide), fun q => absurd q (by decide), fun q => absurd q (by decide), fun q => absurd q (by decide), fun q => absurd q (by decide), fun q => absurd q (by decide)⟩⟩, h.next⟩
      · exact ⟨nI (r (48 + l)), μC, μM, X9_loom_ok ⟨_, μC, by rw [hC.ptr0]; exact p1, tneg (by decide) (tneg (by decide) (tpos (by decide) ⟨_, μC, pc 1 (by decide), L1.symm, rfl⟩))⟩, X10_loom_ok ⟨_, μM, p2, tne (by decide) ⟨fun q => absurd q (by decide), fun _ => (by rw [show (48 : Int32) + nI l = nI (48 + l) from nJ_add 48 l, nI_clamp (by omega)]; exact ⟨vp_inN (by omega) (by decide), (hRM _ (by omega)).symm, rfl⟩), fun q => absurd q (by decide), fun q => absurd q (by decide), fun q => absurd q (by decide), fun q => absurd q (by decide), fun q => absurd q (by decide), fun q => absurd q (by decide), fun q => absurd q (by decide)⟩⟩, h.next⟩
      · exact ⟨ordI r l 52, μC, μM, X9_loom_ok ⟨_, μC, by rw [hC.ptr0]; exact p1, tneg (by decide) (tneg (by decide) (tpos (by decide) ⟨_, μC, pc 2 (by decide), L2.symm, rfl⟩))⟩, X10_loom_ok ⟨_, μM, p2, tne (by decide) ⟨fun q => absurd q (by decide), fun q => absurd q (by decide), fun _ => (by rw [e52, nI_clamp (show 52 + l < 2 ^ 31 by omega), show (44 : Int32) + 4 * nI 2 + nI l = nI (52 + l) from nJ_add 52 l, nI_clamp (show 52 + l < 2 ^ 31 by omega)]; exact ⟨vp_inN (by omega) (by decide), ord 8 (by decide)⟩), fun q => absurd q (by decide), fun q => absurd q (by decide), fun q => absurd q (by decide), fun q => absurd q (by decide), fun q => absurd q (by decide), fun q => absurd q (by decide)⟩⟩, h.next⟩
      · exact ⟨ordI r l 56, μC, μM, X9_loom_ok ⟨_, μC, by rw [hC.ptr0]; exact p1, tneg (by decide) (tneg (by decide) (tpos (by decide) ⟨_, μC, pc 3 (by decide), L3.symm, rfl⟩))⟩, X10_loom_ok ⟨_, μM, p2, tne (by decide) ⟨fun q => absurd q (by decide), fun q => absurd q (by decide), fun q => absurd q (by decide), fun _ => (by rw [e52, nI_clamp (show 52 + l < 2 ^ 31 by omega), show (44 : Int32) + 4 * nI 3 + nI l = nI (56 + l) from nJ_add 56 l, nI_clamp (show 56 + l < 2 ^ 31 by omega)]; exact ⟨vp_inN (by omega) (by decide), ord 12 (by decide)⟩), fun q => absurd q (by decide), fun q => absurd q (by decide), fun q => absurd q (by decide), fun q => absurd q (by decide), fun q => absurd q (by decide)⟩⟩, h.next⟩
      · exact ⟨ordI r l 60, μC, μM, X9_loom_ok ⟨_, μC, by rw [hC.ptr0]; exact p1, tneg (by decide) (tneg (by decide) (tpos (by decide) ⟨_, μC, pc 4 (by decide), L4.symm, rfl⟩))⟩, X10_loom_ok ⟨_, μM, p2, tne (by decide) ⟨fun q => absurd q (by decide), fun q => absurd q (by decide), fun q => absurd q (by decide), fun q => absurd q (by decide), fun _ => (by rw [e52, nI_clamp (show 52 + l < 2 ^ 31 by omega), show (44 : Int32) + 4 * nI 4 + nI l = nI (60 + l) from nJ_add 60 l, nI_clamp (show 60 + l < 2 ^ 31 by omega)]; exact ⟨vp_inN (by omega) (by decide), ord 16 (by decide)⟩), fun q => absurd q (by decide), fun q => absurd q (by decide), fun q => absurd q (by decide), fun q => absurd q (by decide)⟩⟩, h.next⟩
      · exact ⟨ordI r l 64, μC, μM, X9_loom_ok ⟨_, μC, by rw [hC.ptr0]; exact p1, tneg (by decide) (tneg (by decide) (tpos (by decide) ⟨_, μC, pc 5 (by decide), L5.symm, rfl⟩))⟩, X10_loom_ok ⟨_, μM, p2, tne (by decide) ⟨fun q => absurd q (by decide), fun q => absurd q (by decide), fun q => absurd q (by decide), fun q => absurd q (by decide), fun q => absurd q (by decide), fun _ => (by rw [e52, nI_clamp (show 52 + l < 2 ^ 31 by omega), show (44 : Int32) + 4 * nI 5 + nI l = nI (64 + l) from nJ_add 64 l, nI_clamp (show 64 + l < 2 ^ 31 by omega)]; exact ⟨vp_inN (by omega) (by decide), ord 20 (by decide)⟩), fun q => absurd q (by decide), fun q => absurd q (by decide), fun q => absurd q (by decide)⟩⟩, h.next⟩
      · exact ⟨nI (r (68 + l)), μC, μM, X9_loom_ok ⟨_, μC, by rw [hC.ptr0]; exact p1, tneg (by decide) (tneg (by decide) (tpos (by decide) ⟨_, μC, pc 6 (by decide), L6.symm, rfl⟩))⟩, X10_loom_ok ⟨_, μM, p2, tne (by decide) ⟨fun q => absurd q (by decide), fun q => absurd q (by decide), fun q => absurd q (by decide), fun q => absurd q (by decide), fun q => absurd q (by decide), fun q => absurd q (by decide), fun _ => (by rw [show (44 : Int32) + 4 * nI 6 + nI l = nI (68 + l) from nJ_add 68 l, nI_clamp (show 68 + l < 2 ^ 31 by omega)]; exact ⟨vp_inN (by omega) (by decide), (hRM _ (by omega)).symm, rfl⟩), fun q => absurd q (by decide), fun q => absurd q (by decide)⟩⟩, h.next⟩
      · exact ⟨nI (r (72 + l)), μC, μM, X9_loom_ok ⟨_, μC, by rw [hC.ptr0]; exact p1, tneg (by decide) (tneg (by decide) (tpos (by decide) ⟨_, μC, pc 7 (by decide), L7.symm, rfl⟩))⟩, X10_loom_ok ⟨_, μM, p2, tne (by decide) ⟨fun q => absurd q (by decide), fun q => absurd q (by decide), fun q => absurd q (by decide), fun q => absurd q (by decide), fun q => absurd q (by decide), fun q => absurd q (by decide), fun q => absurd q (by decide), fun _ => (by rw [show (44 : Int32) + 4 * nI 7 + nI l = nI (72 + l) from nJ_add 72 l, nI_clamp (show 72 + l < 2 ^ 31 by omega)]; exact ⟨vp_inN (by omega) (by decide), (hRM _ (by omega)).symm, rfl⟩), fun q => absurd q (by decide)⟩⟩, h.next⟩
    · refine ⟨-1, μC, μM, X9_loom_ok ⟨_, μC, by rw [hC.ptr0]; exact p1, tneg (by decide) ⟨fun _ => ⟨rfl, rfl⟩, fun q => tneg ?_ ⟨rfl, rfl⟩⟩⟩, X10_loom_ok ⟨_, μM, p2, tne (by decide) ⟨fun q => absurd hout (by rw [q]; decide), fun q => absurd hout (by rw [q]; decide), fun q => absurd hout (by rw [q]; decide), fun q => absurd hout (by rw [q]; decide), fun q => absurd hout (by rw [q]; decide), fun q => absurd hout (by rw [q]; decide), fun q => absurd hout (by rw [q]; decide), fun q => absurd hout (by rw [q]; decide), fun _ => ⟨rfl, rfl⟩⟩⟩, h.next⟩
      intro q2
      rw [Int32.lt_iff_toInt_lt, show (8 : Int32).toInt = 8 from rfl] at q2
      rw [Int32.lt_iff_toInt_lt, show (0 : Int32).toInt = 0 from rfl] at q
      omega
end Calls
