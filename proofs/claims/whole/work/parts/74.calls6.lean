/-! ===== calls: wettest, year, now, thread ===== -/
section Calls
variable {d n : Nat}
/-- the wettest CELL of those below c + 1 -/
def wetA (s : Nat → Nat) : Nat → Nat
  | 0 => 0
  | c + 1 => if s (wetA s c) < s (c + 1) then c + 1 else wetA s c
theorem wetA_le {s : Nat → Nat} : ∀ c, wetA s c ≤ c
  | 0 => Nat.le_refl _
  | c + 1 => by
    unfold wetA
    split
    · exact Nat.le_refl _
    · exact Nat.le_succ_of_le (wetA_le c)
def wetV (s : Nat → Nat) (k : Nat) : Int32 := nI (if k = 0 then s (wetA s 47) else if k = 1 then wetA s 47 % 8 else wetA s 47 / 8)
theorem wet_c {P : Pl} {p k : Nat} {s : Nat → Nat} {μ : Mem} (hk : k < 3) (hs : SB s) (hR : RowC P 18 μ s) : ∀ (m c : Nat), c + m = 47 → X9_wettest_at64 d (nI k) (nI (wetA s c)) (nI (c + 1)) μ (wetV s k) μ
  | 0, c, hc => by
    have hc : c = 47 := hc
    subst hc
    have w := wetA_le (s := s) 47
    refine X9_wettest_at64_ok (tpos (by decide) ?_)
    unfold wetV
    rw [show (8 : Int32) = nI 8 from rfl, nI_div (by omega) (by decide), nI_mul, nI_clamp (by omega), hR.2.2.1 _ (by omega)]
    have e : nI (wetA s 47) - nI (wetA s 47 / 8 * 8) = nI (wetA s 47 % 8) := by
      have := nI_rem (a := wetA s 47) (b := 8) (by omega) (by decide)
      rwa [nI_div (by omega) (by decide), nI_mul] at this
    rw [e]
    have hk3 : k = 0 ∨ k = 1 ∨ k = 2 := by omega
    rcases hk3 with rfl | rfl | rfl
    · exact teq rfl ⟨vp_inN (by omega) (by decide), rfl, rfl⟩
    · exact tne (by decide) (teq rfl ⟨rfl, rfl⟩)
    · exact tne (by decide) (tne (by decide) ⟨rfl, rfl⟩)
  | m + 1, c, hc => by
    have w := wetA_le (s := s) c
    have b1 := hs.1 (wetA s c) (by omega)
    have b2 := hs.1 (c + 1) (by omega)
    have ih := wet_c (p := p) hk hs hR m (c + 1) (by omega)
    refine X9_wettest_at64_ok (tneg (nI_ge (b := 48) (by omega) (by decide)) ⟨vp_inN (by omega) (by decide), vp_inN (by omega) (by decide), ?_⟩)
    rw [nI_clamp (by omega), nI_clamp (by omega), hR.2.2.1 _ (by omega), hR.2.2.1 _ (by omega)]
    rw [nI_succ (c + 1)] at ih
    by_cases q : s (wetA s c) < s (c + 1)
    · rw [show wetA s (c + 1) = c + 1 from if_pos q] at ih
      exact tneg (nI_ge q (by omega)) ih
    · rw [show wetA s (c + 1) = wetA s c from if_neg q] at ih
      exact tpos (nI_le (by omega) (by omega)) ih
theorem wet_m {P : Pl} {k B : Nat} {s : Nat → Nat} {μ : Mem} (hk : k < 3) (hs : SW P B s) (hM : MP P μ) (hR : RowM μ 34 s) (h0 : onL P 0 = true) : ∀ (m c : Nat), c + m = 47 → X10_wettest_at32 (d + 2) (nI k) (nI (wetA s c)) (nI (c + 1)) μ (wetV s k) μ
  | 0, c, hc => by
    have hc : c = 47 := hc
    subst hc
    have w := wetA_le (s := s) 47
    refine X10_wettest_at32_ok (tpos (by decide) (tpos (nI_pos' (by omega)) ?_))
    unfold wetV
    rw [show (8 : Int32) = nI 8 from rfl, nI_div (by omega) (by decide), nI_mul, nI_clamp (by omega), hR _ (by omega)]
    have e : nI (wetA s 47) - nI (wetA s 47 / 8 * 8) = nI (wetA s 47 % 8) := by
      have := nI_rem (a := wetA s 47) (b := 8) (by omega) (by decide)
      rwa [nI_div (by omega) (by decide), nI_mul] at this
    rw [e]
    have hk3 : k = 0 ∨ k = 1 ∨ k = 2 := by omega
    rcases hk3 with rfl | rfl | rfl
    · exact teq rfl ⟨vp_inN (by omega) (by decide), rfl, rfl⟩
    · exact tne (by decide) (teq rfl ⟨rfl, rfl⟩)
    · exact tne (by decide) (tne (by decide) ⟨rfl, rfl⟩)
  | m + 1, c, hc => by
    have w := wetA_le (s := s) c
    have b1 := hs.1.1 (wetA s c) (by omega)
    have b2 := hs.1.1 (c + 1) (by omega)
    have ih := wet_m hk hs hM hR h0 m (c + 1) (by omega)
    rw [nI_succ (c + 1)] at ih
    refine X10_wettest_at32_ok (tneg (nI_ge (b := 48) (by omega) (by decide)) ⟨_, μ, isLand_m (by omega) hM, ?_⟩)
    cases ho : onL P (c + 1) with
    | false =>
      have z := hs.2.1 (c + 1) (by omega) ho
      rw [show wetA s (c + 1) = wetA s c from if_neg (by omega)] at ih
      exact tpos rfl ih
    | true =>
      refine tneg (by decide) (tneg (nI_pos (by omega)) ⟨vp_inN (by omega) (by decide), vp_inN (by omega) (by decide), ?_⟩)
      rw [nI_clamp (by omega), nI_clamp (by omega), hR _ (by omega), hR _ (by omega)]
      by_cases q : s (wetA s c) < s (c + 1)
      · rw [show wetA s (c + 1) = c + 1 from if_pos q] at ih
        exact tneg (nI_ge q (by omega)) ih
      · rw [show wetA s (c + 1) = wetA s c from if_neg q] at ih
        exact tpos (nI_le (by omega) (by omega)) ih
theorem wet_0 {P : Pl} {x2 : Int32} {μ : Mem} (hM : MP P μ) (h0 : ∀ c, onL P c = false) : ∀ (m c : Nat), c + m = 48 → X10_wettest_at32 (d + 2) x2 (-1) (nI c) μ (-2) μ
  | 0, c, hc => by
    have hc : c = 48 := hc
    subst hc
    exact X10_wettest_at32_ok (tpos (by decide) (tneg (by decide) ⟨rfl, rfl⟩))
  | m + 1, c, hc => by
    have ih := wet_0 (x2 := x2) hM h0 m (c + 1) (by omega)
    rw [nI_succ] at ih
    refine X10_wettest_at32_ok (tneg (nI_ge (b := 48) (by omega) (by decide)) ⟨_, μ, isLand_m (by omega) hM, ?_⟩)
    rw [h0 c]
    exact tpos rfl ih
theorem call_wettest {a b : Int32} (hn : n ≤ 512) : Both (X9_wettest (d + 8) a b) (X10_wettest (d + 8) a b) n := by
  rintro μC μM ⟨P, p, r, h⟩
  obtain ⟨⟨hC, hK, hR⟩, ⟨hM, hRM⟩, hS, _⟩ := id h
  have pw := hC.1
  have q1 := isAhead_c (d := d + 7) (x := a) (μ := μC)
  have q2 := isLong_m (d := d + 6) (x := a) (μ := μM)
  cases hc : inN a 61 with
  | false =>
    rw [hc] at q1 q2
    exact ⟨-1, μC, μM, X9_wettest_ok ⟨_, μC, q1, tpos rfl ⟨rfl, rfl⟩⟩, X10_wettest_ok ⟨_, μM, q2, tpos rfl ⟨rfl, rfl⟩⟩, h.next⟩
  | true =>
    rw [hc] at q1 q2
    obtain ⟨k, hk, rfl⟩ := inN_ex hc
    have i1 := in_s (d := d + 7) (v := b) (a := 0) (b := nI 2) (μ := μM)
    rw [i3_0 (by decide)] at i1
    cases hb : inN b 3 with
    | false =>
      rw [hb] at i1
      refine ⟨-1, μC, μM, X9_wettest_ok ⟨_, μC, q1, tneg (by decide) ?_⟩, X10_wettest_ok ⟨_, μM, q2, tneg (by decide) ⟨_, μM, i1, teq rfl ⟨rfl, rfl⟩⟩⟩, h.next⟩
      have := rng_le (x := b) (n := 2) (A := fun z => z = 0) (by decide) (by rw [hb]; rfl)
      exact ⟨fun _ => ⟨rfl, rfl⟩, fun q => ⟨fun q2 => absurd ((this.2 q).1 q2) (by decide), fun _ => ⟨rfl, rfl⟩⟩⟩
    | true =>
      rw [hb] at i1
      obtain ⟨j, hj, rfl⟩ := inN_ex hb
      obtain ⟨m1, m2, a1, a2, a3, a4, a5, a6, a7, a8⟩ := ahead_c (d := d + 1) (sd := nI (pSe P)) hn (show k ≤ 60 by omega) h
      obtain ⟨n1, n2, b1, b2, b3, b4, b5, b6⟩ := ahead0_m (d := d + 2) hn (show k ≤ 60 by omega) h
      have sw := hS.goes pw (sd := nI (pSe P)) k
      have hc0 := hasCell_c (d := d + 7) (x := nI 0) (y := nI 0) hC
      rw [inN_nI (by decide), inN_nI (by decide)] at hc0
      have c0 : ¬ nI j < 0 := nI_pos (by omega)
      have c2 : nI j ≤ 2 := nI_le (b := 2) (by omega) (by decide)
      have e0 : onL P 0 = (decide (0 < pW P) && decide (0 < pH P)) := rfl
      cases ho : onL P 0 with
      | false =>
        rw [← e0, ho] at hc0
        have h00 : ∀ c, onL P c = false := fun c => by
          rw [ho] at e0
          have : pW P = 0 ∨ pH P = 0 := by
            rcases Nat.eq_zero_or_pos (pW P) with z | z
            · exact Or.inl z
            · rcases Nat.eq_zero_or_pos (pH P) with z2 | z2
              · exact Or.inr z2
              · rw [decide_eq_true z, decide_eq_true z2] at e0
                cases e0
          unfold onL
          rcases this with z | z
          · rw [z, decide_eq_false (Nat.not_lt_zero _)]; rfl
          · rw [z, decide_eq_false (Nat.not_lt_zero (c / 8))]; exact Bool.and_false _
        refine ⟨-2, μC, n2, X9_wettest_ok ⟨_, μC, q1, tneg (by decide) (tneg c0 (tpos c2 ⟨_, μC, by rw [hC.ptr0]; exact hc0, teq rfl ⟨rfl, rfl⟩⟩))⟩, X10_wettest_ok ⟨_, μM, q2, tneg (by decide) ⟨_, μM, i1, tne (by decide) ⟨n1, b1, n2, b2, wet_0 (d := d + 5) b4 h00 48 0 (by omega)⟩⟩⟩, (h.scr Kq.refl hK b3).next⟩
      | true =>
        rw [← e0, ho] at hc0
        refine ⟨wetV (goesA P (nI (pSe P)) r k) j, m2, n2, X9_wettest_ok ⟨_, μC, q1, tneg (by decide) (tneg c0 (tpos c2 ⟨_, μC, by rw [hC.ptr0]; exact hc0, tne (by decide) ⟨_, m1, a1, m2, by rw [a2.ptr0, a2.num.2.2.2.2.2.2]; exact a3, wet_c (d := d + 7) (p := p) hj sw.1 a7 47 0 (by omega)⟩⟩))⟩, X10_wettest_ok ⟨_, μM, q2, tneg (by decide) ⟨_, μM, i1, tne (by decide) ⟨n1, b1, n2, b2, X10_wettest_at32_ok (tneg (by decide) ⟨_, n2, isLand_m (c := 0) (by decide) b4, tneg (by rw [ho]; decide) (tpos (by decide) (wet_m (d := d + 5) hj sw b4 b5 ho 47 0 (by omega)))⟩)⟩⟩⟩, (h.scr a4 a5 b3).next⟩
/-- the FIELD's CELLS that lack or are flooded -/
def nowC (P : Pl) (r : Nat → Nat) (f : Nat) (fl : Bool) (c : Nat) : Bool := onL P c && (decide (pFld P c = some f) && (if fl then floodA P c (r c) else lackA P c (r c)))
theorem lackA_f {P : Pl} {c f w : Nat} (h : pFld P c = some f) : lackA P c w = decide (w < pNe P f) ∧ floodA P c w = decide (pDr P f < w) := by
  unfold lackA floodA needO drownO
  rw [h]
  exact ⟨rfl, rfl⟩
theorem lacksF_c {P : Pl} {p f w : Nat} {μ : Mem} (hC : CP P p μ) (hf : f < pF P) (hw : w < 2 ^ 31) : X3_lacks (d + 1) p (nI f) (nI w) μ (bI (decide (w < pNe P f))) μ := by
  have pw := hC.1
  have f6 := pw.2.2.1
  have n9 := (pw.2.2.2.2.2.2.2.2.1 f hf).1
  refine X3_lacks_ok ⟨_, μ, hasField_c hC, ?_⟩
  rw [inN_nI (by omega), decide_eq_true hf, nI_clamp (by omega), (hC.fld hf).2.1]
  refine tneg (by decide) ⟨vp_inN (by omega) (by decide), ?_⟩
  by_cases q : w < pNe P f
  · rw [decide_eq_true q]
    exact tneg (nI_ge q (by omega)) ⟨rfl, rfl⟩
  · rw [decide_eq_false q]
    exact tpos (nI_le (by omega) hw) ⟨rfl, rfl⟩
theorem drownedF_c {P : Pl} {p f w : Nat} {μ : Mem} (hC : CP P p μ) (hf : f < pF P) (hw : w < 2 ^ 31) : X3_drowned (d + 1) p (nI f) (nI w) μ (bI (decide (pDr P f < w))) μ := by
  have pw := hC.1
  have f6 := pw.2.2.1
  have n9 := (pw.2.2.2.2.2.2.2.2.1 f hf).2
  refine X3_drowned_ok ⟨_, μ, hasField_c hC, ?_⟩
  rw [inN_nI (by omega), decide_eq_true hf, nI_clamp (by omega), (hC.fld hf).2.2]
  refine tneg (by decide) ⟨vp_inN (by omega) (by decide), ?_⟩
  by_cases q : pDr P f < w
  · rw [decide_eq_true q]
    exact tneg (nI_ge q hw) ⟨rfl, rfl⟩
  · rw [decide_eq_false q]
    exact tpos (nI_le (by omega) (by omega)) ⟨rfl, rfl⟩
theorem now_c {P : Pl} {p f : Nat} {b : Int32} {r : Nat → Nat} {μ : Mem} (hf : f < pF P) (hs : SB r) (hC : CP P p μ) (hR : RowC P 13 μ r) : ∀ (m c : Nat), c + m = 48 → X9_now_at18 (d + 1) (nI f) b (nI (cntA (nowC P r f (decide (b ≠ 0))) c)) (nI c) μ (nI (cntA (nowC P r f (decide (b ≠ 0))) 48)) μ
  | 0, c, hc => by
    have hc : c = 48 := hc
    subst hc
    exact X9_now_at18_ok (tpos (by decide) ⟨rfl, rfl⟩)
  | m + 1, c, hc => by
    have pw := hC.1
    have f6 := pw.2.2.1
    have ih := now_c (b := b) hf hs hC hR m (c + 1) (by omega)
    have e : cntA (nowC P r f (decide (b ≠ 0))) (c + 1) = cntA (nowC P r f (decide (b ≠ 0))) c + if nowC P r f (decide (b ≠ 0)) c then 1 else 0 := rfl
    rw [e, nI_succ c] at ih
    have wb := hs.1 c (by omega)
    have vc : vp_in (nI c) 48 := vp_inN (by omega) (by decide)
    have le := landI_eq pw (c := c) (show f < 6 by omega)
    refine X9_now_at18_ok (tneg (nI_ge (b := 48) (by omega) (by decide)) ?_)
    have key : ∀ v : Bool, (nowC P r f (decide (b ≠ 0)) c = (onL P c && decide (pFld P c = some f) && v)) → ((landI P c ≠ nI f → X9_now_at18 (d + 1) (nI f) b (nI (cntA (nowC P r f (decide (b ≠ 0))) c)) (nI c + 1) μ (nI (cntA (nowC P r f (decide (b ≠ 0))) 48)) μ) ∧ (landI P c = nI f → ((bI v = 0 → X9_now_at18 (d + 1) (nI f) b (nI (cntA (nowC P r f (decide (b ≠ 0))) c)) (nI c + 1) μ (nI (cntA (nowC P r f (decide (b ≠ 0))) 48)) μ) ∧ (¬ bI v = 0 → X9_now_at18 (d + 1) (nI f) b (nI (cntA (nowC P r f (decide (b ≠ 0))) c) + 1) (nI c + 1) μ (nI (cntA (nowC P r f (decide (b ≠ 0))) 48)) μ)))) := by
      intro v hv
      cases hh : onL P c && decide (pFld P c = some f) with
      | false =>
        rw [hv, hh] at ih
        rw [hh] at le
        exact tne (fun z => by cases le.mp z) ih
      | true =>
        rw [hv, hh] at ih
        rw [hh] at le
        refine teq (le.mpr rfl) ?_
        cases v with
        | false => exact tpos rfl ih
        | true =>
          refine tneg (by decide) ?_
          rw [← nI_succ]
          exact ih
    rw [nI_clamp (by omega), hR.2.2.1 c (by omega), hC.ptr0]
    by_cases hb : b = 0
    · refine tpos hb ⟨vc, _, μ, lacksF_c hC hf (by omega), vc, ?_⟩
      rw [hC.ptr0, hC.land (by omega)]
      refine key _ ?_
      unfold nowC
      rw [decide_eq_false (show ¬ (b ≠ 0) from fun z => z hb), Bool.and_assoc]
      by_cases q : pFld P c = some f
      · rw [(lackA_f q).1]; rfl
      · rw [decide_eq_false q]; rfl
    · refine tneg hb ⟨vc, _, μ, drownedF_c hC hf (by omega), vc, ?_⟩
      rw [hC.ptr0, hC.land (by omega)]
      refine key _ ?_
      unfold nowC
      rw [decide_eq_true (show b ≠ 0 from hb), Bool.and_assoc]
      by_cases q : pFld P c = some f
      · rw [(lackA_f q).2]; rfl
      · rw [decide_eq_false q]; rfl
theorem now_m {P : Pl} {f : Nat} {b : Int32} {r : Nat → Nat} {μ : Mem} (hf : f < pF P) (hs : SB r) (hM : MP P μ) (hR : RowM μ 34 r) : ∀ (m c : Nat), c + m = 48 → X10_now_at19 (d + 2) (nI f) b (nI (cntA (nowC P r f (decide (b ≠ 0))) c)) (nI c) μ (nI (cntA (nowC P r f (decide (b ≠ 0))) 48)) μ
  | 0, c, hc => by
    have hc : c = 48 := hc
    subst hc
    exact X10_now_at19_ok (tpos (by decide) ⟨rfl, rfl⟩)
  | m + 1, c, hc => by
    have pw := hM.1
    have f6 := pw.2.2.1
    have ih := now_m (b := b) hf hs hM hR m (c + 1) (by omega)
    have e : cntA (nowC P r f (decide (b ≠ 0))) (c + 1) = cntA (nowC P r f (decide (b ≠ 0))) c + if nowC P r f (decide (b ≠ 0)) c then 1 else 0 := rfl
    rw [e, nI_succ c] at ih
    have wb := hs.1 c (by omega)
    refine X10_now_at19_ok (tneg (nI_ge (b := 48) (by omega) (by decide)) ⟨_, μ, isLand_m (by omega) hM, ?_⟩)
    unfold nowC at ih ⊢
    cases ho : onL P c with
    | false => rw [ho] at ih; exact tpos rfl ih
    | true =>
      rw [ho, Bool.true_and] at ih
      refine tneg (by decide) ⟨_, μ, fieldAt_m (by omega) ho hM, ?_⟩
      have le := fI_eq (fld6 pw ho) (show f < 6 by omega)
      by_cases q : pFld P c = some f
      · rw [decide_eq_true q, Bool.true_and] at ih
        refine teq (le.mpr q) ?_
        by_cases hb : b = 0
        · rw [decide_eq_false (show ¬ (b ≠ 0) from fun z => z hb)] at ih ⊢
          refine tpos hb ⟨_, μ, isLacking_m (by omega) ho hM (hR c (by omega)) (by omega), ?_⟩
          cases hv : lackA P c (r c) with
          | false =>
            rw [show (if false = true then floodA P c (r c) else lackA P c (r c)) = lackA P c (r c) from rfl, hv] at ih
            exact tpos rfl ih
          | true =>
            rw [show (if false = true then floodA P c (r c) else lackA P c (r c)) = lackA P c (r c) from rfl, hv, if_pos rfl, nI_succ] at ih
            exact tneg (by decide) ih
        · rw [decide_eq_true (show b ≠ 0 from hb)] at ih ⊢
          refine tneg hb ⟨_, μ, isFlooded_m (by omega) ho hM (hR c (by omega)) (by omega), ?_⟩
          cases hv : floodA P c (r c) with
          | false =>
            rw [show (if true = true then floodA P c (r c) else lackA P c (r c)) = floodA P c (r c) from rfl, hv] at ih
            exact tpos rfl ih
          | true =>
            rw [show (if true = true then floodA P c (r c) else lackA P c (r c)) = floodA P c (r c) from rfl, hv, if_pos rfl, nI_succ] at ih
            exact tneg (by decide) ih
      · rw [decide_eq_false q] at ih
        exact tne (fun z => q (le.mp z)) ih
theorem call_now {a b : Int32} (hn : n ≤ 512) : Both (X9_now (d + 8) a b) (X10_now (d + 8) a b) n := by
  rintro μC μM ⟨P, p, r, h⟩
  obtain ⟨⟨hC, hK, hR⟩, ⟨hM, hRM⟩, hS, _⟩ := id h
  have p1 := hasField_c (d := d + 7) (x := a) hC
  have p2 := isField_m (d := d + 6) (f := a) hM
  cases hp : inN a (pF P) with
  | false =>
    rw [hp] at p1 p2
    exact ⟨-1, μC, μM, X9_now_ok ⟨_, μC, by rw [hC.ptr0]; exact p1, teq rfl ⟨rfl, rfl⟩⟩, X10_now_ok ⟨_, μM, p2, teq rfl ⟨rfl, rfl⟩⟩, h.next⟩
  | true =>
    rw [hp] at p1 p2
    obtain ⟨f, hf, rfl⟩ := inN_ex hp
    obtain ⟨n1, e1, e2, e3, e4⟩ := copies_m (d := d + 7) hM hRM
    have k1 := fC_scM e2
    exact ⟨_, μC, n1, X9_now_ok ⟨_, μC, by rw [hC.ptr0]; exact p1, tne (by decide) (now_c (d := d + 6) hf hS.1 hC hR 48 0 (by omega))⟩, X10_now_ok ⟨_, μM, p2, tne (by decide) ⟨n1, e1, now_m (d := d + 5) hf hS.1 (hM.kp (scM_M k1)) e3 48 0 (by omega)⟩⟩, (h.scr Kq.refl hK k1).next⟩
theorem call_thread {a b c : Int32} (hn : n ≤ 512) : Both (X9_thread (d + 8) a b c) (X10_thread (d + 8) a b c) n := by
  rintro μC μM ⟨P, p, r, h⟩
  obtain ⟨⟨hC, hK, hR⟩, ⟨hM, hRM⟩, hS, _⟩ := id h
  have pw := hC.1
  have h4 := pw.2.2.2.1
  obtain ⟨L, h1, h2, _, m⟩ := hM.eL
  have p1 := hasLoom_c (d := d + 7) (x := a) hC
  have p2 := isLoom_m (d := d + 6) (f := a) hM
  cases hp : inN a (pL P) with
  | false =>
    rw [hp] at p1 p2
    exact ⟨-1, μC, μM, X9_thread_ok ⟨_, μC, by rw [hC.ptr0]; exact p1, tpos rfl ⟨rfl, rfl⟩⟩, X10_thread_ok ⟨_, μM, p2, tpos rfl ⟨rfl, rfl⟩⟩, h.next⟩
  | true =>
    rw [hp] at p1 p2
    obtain ⟨l, hl, rfl⟩ := inN_ex hp
    have w8 := (pw.2.2.2.2.2.2.2.2.2.1 l hl).2.1
    have i1 := in_s (d := d + 7) (v := b) (a := 0) (b := nI (pWi P l) - 1) (μ := μM)
    rw [inI_N (by omega)] at i1
    have i2 := in_s (d := d + 7) (v := c) (a := 0) (b := nI 9999) (μ := μM)
    rw [i3_0 (by decide)] at i2
    have el : (nI l).toNatClampNeg = l := nI_clamp (by omega)
    have vl : vp_in (nI l) 4 := vp_inN (by omega) (by decide)
    have em : ∀ T : Prop, (X10_in (d + 7) b 0 (nI (pWi P l) - 1) μM (bI (inN b (pWi P l))) μM → T) → T := fun T f => f i1
    have mx : ∀ x μ', (((bI (inN b (pWi P l))) = 0 → (x = (-1) ∧ μ' = μM)) ∧ (¬ (bI (inN b (pWi P l))) = 0 → (∃ (y9 : Int32) (μ7 : Mem), X10_in (d + 7) c 0 9999 μM y9 μ7 ∧ ((y9 ≠ 0 → (∃ (y12 : Int32) (μ10 : Mem), X10_threadOf (d + 7) (nI l) b c μ7 y12 μ10 ∧ (x = y12 ∧ μ' = μ10))) ∧ (y9 = 0 → (x = (-1) ∧ μ' = μ7)))))) → X10_thread (d + 8) (nI l) b c μM x μ' := fun x μ' z => X10_thread_ok ⟨_, μM, p2, tneg (by decide) (by
      rw [h2, show (4 : Int32) = nI 4 from rfl, nI_mul, nJ_add, nI_clamp (by omega), (m.2.2.2.2.2.2.2.2.2.2.2.1 l hl).1]
      exact ⟨vp_inN (by omega) (by decide), _, μM, i1, z⟩)⟩
    cases hb : inN b (pWi P l) with
    | false =>
      rw [hb] at mx
      refine ⟨-1, μC, μM, X9_thread_ok ⟨_, μC, by rw [hC.ptr0]; exact p1, tneg (by decide) ?_⟩, mx _ _ (tpos rfl ⟨rfl, rfl⟩), h.next⟩
      have := rng_c (x := b) (n := pWi P l) (A := fun z => z = 0) (by omega) (by rw [hb]; rfl)
      rw [hC.ptr0, el, (hC.loo hl).1]
      exact ⟨fun _ => ⟨rfl, rfl⟩, fun q => ⟨vl, fun _ => ⟨rfl, rfl⟩, fun q2 => absurd ((this.2 q).2 q2) (by decide)⟩⟩
    | true =>
      rw [hb] at mx
      obtain ⟨w, hw, rfl⟩ := inN_ex hb
      have cb : ∀ x μ', ((c < 0 → (x = (-1) ∧ μ' = μC)) ∧ (¬ c < 0 → ((c ≤ 9999 → (∃ (y6 : Int32) (μ4 : Mem), X7_rowAt (d + 7) (nI l) c μC y6 μ4 ∧ (∃ (y9 : Int32) (μ7 : Mem), X7_threadOf (d + 7) y6 (nI w) μ4 y9 μ7 ∧ (x = y9 ∧ μ' = μ7)))) ∧ (¬ c ≤ 9999 → (x = (-1) ∧ μ' = μC))))) → X9_thread (d + 8) (nI l) (nI w) c μC x μ' := fun x μ' z => X9_thread_ok ⟨_, μC, by rw [hC.ptr0]; exact p1, tneg (by decide) (tneg (nI_pos (by omega)) ⟨vl, by
        rw [hC.ptr0, el, (hC.loo hl).1]
        exact tneg (nI_ge hw (by omega)) z⟩)⟩
      cases hc : inN c 10000 with
      | false =>
        rw [hc] at i2
        refine ⟨-1, μC, μM, cb _ _ ?_, mx _ _ (tneg (by decide) ⟨_, μM, i2, teq rfl ⟨rfl, rfl⟩⟩), h.next⟩
        have := rng_le (x := c) (n := 9999) (A := fun z => z = 0) (by decide) (by rw [hc]; rfl)
        exact ⟨fun _ => ⟨rfl, rfl⟩, fun q => ⟨fun q2 => absurd ((this.2 q).1 q2) (by decide), fun _ => ⟨rfl, rfl⟩⟩⟩
      | true =>
        rw [hc] at i2
        obtain ⟨k, hk, rfl⟩ := inN_ex hc
        obtain ⟨m1, a1, a2, a3⟩ := rowAt_c (d := d + 5) (l := l) (pick := k) hl (by omega) hC hK
        obtain ⟨n1, b1, b2⟩ := threadOf_m (d := d + 5) (l := l) (warp := w) (pick := k) hl (by omega) hM
        have tc := threadOf_c (P := P) (d := d + 7) (l := l) (pick := k) (w := w) (μ := m1) (by omega) w8
        rw [if_pos hw] at tc
        exact ⟨_, m1, n1, cb _ _ (tneg (nI_pos (by omega)) (tpos (nI_le (b := 9999) (by omega) (by decide)) ⟨_, m1, a1, _, m1, tc, rfl, rfl⟩)), mx _ _ (tneg (by decide) ⟨_, μM, i2, tne (by decide) ⟨_, n1, b1, rfl, rfl⟩⟩), (h.scr (sWv_sc (sRw_v a2)) a3 (fV_scM b2)).next⟩
end Calls
