/-! ===== calls: what would be in days ===== -/
section Calls
variable {d n : Nat}
theorem i_ring {a b c e : Int32} : a - b + (c - e) = (a + c) - (b + e) := by
  rw [Int32.sub_eq_add_neg, Int32.sub_eq_add_neg, Int32.sub_eq_add_neg, Int32.neg_add, Int32.sub_eq_add_neg]
  ac_rfl
theorem isAhead_c {x : Int32} {μ : Mem} : X9_isAhead d x μ (bI (inN x 61)) μ := by
  refine X9_isAhead_ok ?_
  have := rng_le (x := x) (n := 60) (A := fun z => bI (inN x 61) = z ∧ μ = μ) (by decide) ⟨rfl, rfl⟩
  exact ⟨this.1, fun q => ⟨fun q2 => (this.2 q).2 (i_lt_nle q2), fun q2 => (this.2 q).1 (i_nlt q2)⟩⟩
theorem isLong_m {x : Int32} {μ : Mem} : X10_isLong (d + 1) x μ (bI (inN x 61)) μ := by
  have i1 := in_s (d := d) (v := x) (a := 0) (b := nI 60) (μ := μ)
  rw [i3_0 (by decide)] at i1
  exact X10_isLong_ok ⟨_, μ, i1, bI_B _, rfl, rfl⟩
theorem ahead_c {P : Pl} {p k : Nat} {r : Nat → Nat} {sd : Int32} {μC μM : Mem} (hn : n ≤ 512) (hk : k ≤ 60) (h : SimP n P p r μC μM) : ∃ m1 m2, X5_copy (d + 6) 18 13 μC 18 m1 ∧ CP P p m1 ∧ X7_passDays (d + 6) 18 (nI k) sd m1 m2 ∧ Kq (scC p) μC m2 ∧ Kc P m2 ∧ CP P p m2 ∧ RowC P 18 m2 (goesA P sd r k) ∧ RowC P 13 m2 r := by
  obtain ⟨⟨hC, hK, hR⟩, ⟨hM, hRM⟩, hS, _⟩ := id h
  have pw := hC.1
  have hpp := hC.pp
  obtain ⟨m1, a1, a2, a3⟩ := copy_c (d := d + 6) (a := 18) (b := 13) pw (Or.inr (by omega)) hR
  have k1 : Kq (scC p) μC m1 := a2.mono fun a k q => by unfold sCp at q; unfold scC; omega
  have hC1 := hC.kq (scC_n hpp k1)
  obtain ⟨m2, b1, b2, b3, b4⟩ := passDays_c (d := d) (n := k) (sd := sd) (s := 18) (by omega) (by omega) (by omega) hS hC1 (hK.of (a2.row fun j => by unfold sCp; omega) (a2.row fun j => by unfold sCp; omega)) a3
  have k2 := k1.trans (sDy_sc b2)
  exact ⟨m1, m2, a1, hC1, b1, k2, b3, hC.kq (scC_n hpp k2), b4, hR.kq k2 fun a j q1 q2 => by unfold scC; omega⟩
theorem ahead_m {P : Pl} {p k j : Nat} {r : Nat → Nat} {μC μM : Mem} (hn : n ≤ 512) (hk : k ≤ 60) (h : SimP n P p r μC μM) : ∃ n1 n2, X10_copies (d + 5) μM n1 ∧ n1.1 0 52 = nI (pSe P) ∧ X10_goes (d + 5) (nI k) (sI n1 0 52 (nI (pSe P) + nI j)) n2 ∧ Kq scM μM n2 ∧ MP P n2 ∧ RowM n2 34 (goesA P (nI (pSe P) + nI j) r k) ∧ RowM n2 33 r := by
  obtain ⟨⟨hC, hK, hR⟩, ⟨hM, hRM⟩, hS, _⟩ := id h
  obtain ⟨n1, e1, e2, e3, e4⟩ := copies_m (d := d + 5) hM hRM
  have k1 : Kq scM μM (sI n1 0 52 (nI (pSe P) + nI j)) := (fC_scM e2).trans (Kq.sI (by unfold scM; omega))
  obtain ⟨n2, f1, f2, f3⟩ := goes_m (d := d) (n := k) (sd := nI (pSe P) + nI j) (by omega) (by omega) hS (hM.kp (scM_M k1)) sI_1 (show RowM _ 34 r from fun i hi => by rw [sI_n (by decide)]; exact e3 i hi)
  have k2 := k1.trans (fR_scM f2)
  exact ⟨n1, n2, e1, e4, f1, k2, hM.kp (scM_M k2), f3, fun i hi => by rw [k2.at (by unfold scM; omega)]; exact hRM i hi⟩
theorem ahead0_m {P : Pl} {p k : Nat} {r : Nat → Nat} {μC μM : Mem} (hn : n ≤ 512) (hk : k ≤ 60) (h : SimP n P p r μC μM) : ∃ n1 n2, X10_copies (d + 5) μM n1 ∧ X10_goes (d + 5) (nI k) n1 n2 ∧ Kq scM μM n2 ∧ MP P n2 ∧ RowM n2 34 (goesA P (nI (pSe P)) r k) ∧ RowM n2 33 r := by
  obtain ⟨⟨hC, hK, hR⟩, ⟨hM, hRM⟩, hS, _⟩ := id h
  obtain ⟨n1, e1, e2, e3, e4⟩ := copies_m (d := d + 5) hM hRM
  obtain ⟨n2, f1, f2, f3⟩ := goes_m (d := d) (n := k) (sd := nI (pSe P)) (by omega) (by omega) hS (hM.kp (scM_M (fC_scM e2))) e4 e3
  have k2 := (fC_scM e2).trans (fR_scM f2)
  exact ⟨n1, n2, e1, f1, k2, hM.kp (scM_M k2), f3, fun i hi => by rw [k2.at (by unfold scM; omega)]; exact hRM i hi⟩
theorem call_then {a b c : Int32} (hn : n ≤ 512) : Both (X9_then (d + 8) a b c) (X10_then (d + 8) a b c) n := by
  rintro μC μM ⟨P, p, r, h⟩
  obtain ⟨⟨hC, hK, hR⟩, ⟨hM, hRM⟩, hS, _⟩ := id h
  have pw := hC.1
  have p1 := hasCell_c (d := d + 7) (x := a) (y := b) hC
  have p2 := isCell_m (d := d + 6) (x := a) (y := b) hM
  cases hp : inN a (pW P) && inN b (pH P) with
  | false =>
    rw [hp] at p1 p2
    exact ⟨-1, μC, μM, X9_then_ok ⟨_, μC, by rw [hC.ptr0]; exact p1, tpos rfl ⟨rfl, rfl⟩⟩, X10_then_ok ⟨_, μM, p2, tpos rfl ⟨rfl, rfl⟩⟩, h.next⟩
  | true =>
    rw [hp] at p1 p2
    obtain ⟨x, y, rfl, rfl, hx, hy⟩ := cellA hp
    have q1 := isAhead_c (d := d + 7) (x := c) (μ := μC)
    have q2 := isLong_m (d := d + 6) (x := c) (μ := μM)
    cases hc : inN c 61 with
    | false =>
      rw [hc] at q1 q2
      exact ⟨-1, μC, μM, X9_then_ok ⟨_, μC, by rw [hC.ptr0]; exact p1, tneg (by decide) ⟨_, μC, q1, teq rfl ⟨rfl, rfl⟩⟩⟩, X10_then_ok ⟨_, μM, p2, tneg (by decide) ⟨_, μM, q2, teq rfl ⟨rfl, rfl⟩⟩⟩, h.next⟩
    | true =>
      rw [hc] at q1 q2
      obtain ⟨k, hk, rfl⟩ := inN_ex hc
      have px := pw.1
      have py := pw.2.1
      obtain ⟨m1, m2, a1, a2, a3, a4, a5, a6, a7, a8⟩ := ahead_c (d := d + 1) (sd := nI (pSe P)) hn (show k ≤ 60 by omega) h
      obtain ⟨n1, n2, b1, b2, b3, b4, b5, b6⟩ := ahead0_m (d := d + 2) hn (show k ≤ 60 by omega) h
      refine ⟨nI (goesA P (nI (pSe P)) r k (8 * y + x)), m2, n2, X9_then_ok ⟨_, μC, by rw [hC.ptr0]; exact p1, tneg (by decide) ⟨_, μC, q1, tne (by decide) ⟨_, m1, a1, m2, by rw [a2.ptr0, a2.num.2.2.2.2.2.2]; exact a3, _, m2, waterAt_c (by omega) (by omega) a7, rfl, rfl⟩⟩⟩, X10_then_ok ⟨_, μM, p2, tneg (by decide) ⟨_, μM, q2, tne (by decide) ⟨n1, b1, n2, b2, ?_⟩⟩⟩, (h.scr a4 a5 b3).next⟩
      rw [show (8 : Int32) = nI 8 from rfl, nI_mul, nJ_add, nI_clamp (by omega), b5 _ (by omega)]
      exact ⟨vp_inN (by omega) (by decide), rfl, rfl⟩
theorem moreIn_loop {from_ : Nat} {r s : Nat → Nat} {μ : Mem} (hk : from_ + 6 < 92) (h4 : RowM μ 34 s) (h3 : RowM μ 33 r) : ∀ (m i : Nat), i + m = 6 → X10_moreIn_at4 d (nI from_) (nI (sumA (fun k => s (from_ + k)) i) - nI (sumA (fun k => r (from_ + k)) i)) (nI (from_ + i)) μ (nI (sumA (fun k => s (from_ + k)) 6) - nI (sumA (fun k => r (from_ + k)) 6)) μ
  | 0, i, hi => by
    have hi : i = 6 := hi
    subst hi
    refine X10_moreIn_at4_ok (tpos ?_ ⟨rfl, rfl⟩)
    rw [show nI from_ + 6 = nI (from_ + 6) from nJ_add from_ 6]
    exact nI_le (Nat.le_refl _) (by omega)
  | m + 1, i, hi => by
    refine X10_moreIn_at4_ok (tneg ?_ ⟨vp_inN (by omega) (by decide), vp_inN (by omega) (by decide), ?_⟩)
    · rw [show nI from_ + 6 = nI (from_ + 6) from nJ_add from_ 6]
      exact nI_ge (by omega) (by omega)
    · rw [nI_clamp (by omega), h4 _ (by omega), h3 _ (by omega), i_ring, nJ_add, nJ_add, ← nI_succ]
      exact moreIn_loop hk h4 h3 m (i + 1) (by omega)
theorem moreIn_m {from_ : Nat} {r s : Nat → Nat} {μ : Mem} (hk : from_ + 6 < 92) (h4 : RowM μ 34 s) (h3 : RowM μ 33 r) : X10_moreIn d (nI from_) μ (nI (sumA (fun k => s (from_ + k)) 6) - nI (sumA (fun k => r (from_ + k)) 6)) μ := by
  have := moreIn_loop (d := d) hk h4 h3 6 0 (by omega)
  have e : nI (sumA (fun k => s (from_ + k)) 0) - nI (sumA (fun k => r (from_ + k)) 0) = 0 := (by decide : nI 0 - nI 0 = 0)
  rw [e] at this
  exact X10_moreIn_ok this
theorem sub_0 {k b : Int32} (h : ¬ k < 0) (h2 : ¬ k ≤ 2) (hb : inN k 3 = true) : False := by
  obtain ⟨j, hj, rfl⟩ := inN_ex hb
  exact h2 (nI_le (b := 2) (by omega) (by decide))
theorem call_all {a b : Int32} (hn : n ≤ 512) : Both (X9_all (d + 8) a b) (X10_all (d + 8) a b) n := by
  rintro μC μM ⟨P, p, r, h⟩
  obtain ⟨⟨hC, hK, hR⟩, ⟨hM, hRM⟩, hS, _⟩ := id h
  have q1 := isAhead_c (d := d + 7) (x := a) (μ := μC)
  have q2 := isLong_m (d := d + 6) (x := a) (μ := μM)
  cases hc : inN a 61 with
  | false =>
    rw [hc] at q1 q2
    exact ⟨-1, μC, μM, X9_all_ok ⟨_, μC, q1, tpos rfl ⟨rfl, rfl⟩⟩, X10_all_ok ⟨_, μM, q2, tpos rfl ⟨rfl, rfl⟩⟩, h.next⟩
  | true =>
    rw [hc] at q1 q2
    obtain ⟨k, hk, rfl⟩ := inN_ex hc
    have i1 := in_s (d := d + 7) (v := b) (a := 0) (b := nI 2) (μ := μM)
    rw [i3_0 (by decide)] at i1
    cases hb : inN b 3 with
    | false =>
      rw [hb] at i1
      refine ⟨-1, μC, μM, X9_all_ok ⟨_, μC, q1, tneg (by decide) ?_⟩, X10_all_ok ⟨_, μM, q2, tneg (by decide) ⟨_, μM, i1, teq rfl ⟨rfl, rfl⟩⟩⟩, h.next⟩
      have := rng_le (x := b) (n := 2) (A := fun z => z = 0) (by decide) (by rw [hb]; rfl)
      exact ⟨fun _ => ⟨rfl, rfl⟩, fun q => ⟨fun q2 => absurd ((this.2 q).1 q2) (by decide), fun _ => ⟨rfl, rfl⟩⟩⟩
    | true =>
      rw [hb] at i1
      obtain ⟨j, hj, rfl⟩ := inN_ex hb
      obtain ⟨m1, m2, a1, a2, a3, a4, a5, a6, a7, a8⟩ := ahead_c (d := d + 1) (sd := nI (pSe P)) hn (show k ≤ 60 by omega) h
      obtain ⟨n1, n2, b1, b2, b3, b4, b5, b6⟩ := ahead0_m (d := d + 2) hn (show k ≤ 60 by omega) h
      have fin := (h.scr a4 a5 b3).next
      have sC : ∀ f g, f < 192 → (∀ i, i < 6 → m2.1 f i = nI (g i)) → X5_sum (d + 7) 6 f m2 (nI (sumA g 6)) m2 := fun f g _ hh => sum_c (by decide) hh
      have hj3 : j = 0 ∨ j = 1 ∨ j = 2 := by omega
      rcases hj3 with rfl | rfl | rfl
      · exact ⟨_, m2, n2, X9_all_ok ⟨_, μC, q1, tneg (by decide) (tneg (by decide) (tpos (by decide) ⟨_, m1, a1, m2, by rw [a2.ptr0, a2.num.2.2.2.2.2.2]; exact a3, fun _ => ⟨_, m2, sC 21 (fun k' => goesA P (nI (pSe P)) r k (76 + k')) (by decide) (fun i hi => (a7.2.2.2.2.2 i hi).1), _, m2, sC 16 (fun k' => r (76 + k')) (by decide) (fun i hi => (a8.2.2.2.2.2 i hi).1), rfl, rfl⟩, fun q => absurd q (by decide), fun q => absurd q.1 (by decide)⟩))⟩, X10_all_ok ⟨_, μM, q2, tneg (by decide) ⟨_, μM, i1, tne (by decide) ⟨n1, b1, n2, b2, tne (by decide) ⟨_, n2, moreIn_m (from_ := 76) (by decide) b5 b6, rfl, rfl⟩⟩⟩⟩, fin⟩
      · exact ⟨_, m2, n2, X9_all_ok ⟨_, μC, q1, tneg (by decide) (tneg (by decide) (tpos (by decide) ⟨_, m1, a1, m2, by rw [a2.ptr0, a2.num.2.2.2.2.2.2]; exact a3, fun q => absurd q (by decide), fun _ => ⟨_, m2, sC 22 (fun k' => goesA P (nI (pSe P)) r k (82 + k')) (by decide) (fun i hi => (a7.2.2.2.2.2 i hi).2), _, m2, sC 17 (fun k' => r (82 + k')) (by decide) (fun i hi => (a8.2.2.2.2.2 i hi).2), rfl, rfl⟩, fun q => absurd q.2 (by decide)⟩))⟩, X10_all_ok ⟨_, μM, q2, tneg (by decide) ⟨_, μM, i1, tne (by decide) ⟨n1, b1, n2, b2, tne (by decide) ⟨_, n2, moreIn_m (from_ := 82) (by decide) b5 b6, rfl, rfl⟩⟩⟩⟩, fin⟩
      · exact ⟨_, m2, n2, X9_all_ok ⟨_, μC, q1, tneg (by decide) (tneg (by decide) (tpos (by decide) ⟨_, m1, a1, m2, by rw [a2.ptr0, a2.num.2.2.2.2.2.2]; exact a3, fun q => absurd q (by decide), fun q => absurd q (by decide), fun _ => ⟨a7.2.1.symm, rfl⟩⟩))⟩, X10_all_ok ⟨_, μM, q2, tneg (by decide) ⟨_, μM, i1, tne (by decide) ⟨n1, b1, n2, b2, teq rfl ⟨(b5 88 (by decide)).symm, rfl⟩⟩⟩⟩, fin⟩
/-- counts over the land -/
theorem cnt_skip {g : Nat → Bool} {a : Nat} : ∀ (m : Nat), (∀ c, a ≤ c → c < a + m → g c = false) → cntA g (a + m) = cntA g a
  | 0, _ => rfl
  | m + 1, h => by
    show cntA g (a + m) + (if g (a + m) then 1 else 0) = _
    rw [h (a + m) (by omega) (by omega), cnt_skip m fun c h1 h2 => h c h1 (by omega)]
    rfl
def dryC (P : Pl) (s : Nat → Nat) (c : Nat) : Bool := onL P c && decide (s c = 0)
theorem onL_at {P : Pl} {x y : Nat} (hx : x < 8) : onL P (8 * y + x) = (decide (x < pW P) && decide (y < pH P)) := by
  unfold onL
  rw [show (8 * y + x) % 8 = x by omega, show (8 * y + x) / 8 = y by omega]
theorem dry_in {P : Pl} {p y : Nat} {s : Nat → Nat} {μ : Mem} (hy : y < pH P) (hs : SB s) (hC : CP P p μ) (hR : RowC P 18 μ s) (hk : X9_dry_at39 d (nI (cntA (dryC P s) (8 * (y + 1)))) (nI (y + 1)) μ (nI (cntA (dryC P s) 48)) μ) : ∀ (m x : Nat), x + m = pW P → X9_dry_at53 d (nI (cntA (dryC P s) (8 * y + x))) (nI y) (nI x) μ (nI (cntA (dryC P s) 48)) μ
  | 0, x, hx => by
    have hx : x = pW P := hx
    subst hx
    have px := hC.1.1
    refine X9_dry_at53_ok ?_
    rw [hC.ptr0, hC.num.1]
    refine tpos (nI_le (Nat.le_refl _) (by omega)) ?_
    have e : cntA (dryC P s) (8 * (y + 1)) = cntA (dryC P s) (8 * y + pW P) := by
      have := cnt_skip (g := dryC P s) (a := 8 * y + pW P) (8 - pW P) (fun c h1 h2 => by
        have : onL P c = false := by
          have e2 : c = 8 * y + (c - 8 * y) := by omega
          rw [e2, onL_at (by omega), decide_eq_false (by omega)]
          rfl
        unfold dryC
        rw [this]
        rfl)
      rw [← this]
      congr 1
      omega
    rw [e, nI_succ] at hk
    exact hk
  | m + 1, x, hx => by
    have px := hC.1.1
    have py := hC.1.2.1
    have ih := dry_in hy hs hC hR hk m (x + 1) (by omega)
    refine X9_dry_at53_ok ?_
    rw [hC.ptr0, hC.num.1]
    refine tneg (nI_ge (by omega) (by omega)) ⟨_, μ, waterAt_c (x := x) (y := y) (by omega) (by omega) hR, ?_⟩
    have e : cntA (dryC P s) (8 * y + (x + 1)) = cntA (dryC P s) (8 * y + x) + if dryC P s (8 * y + x) then 1 else 0 := rfl
    have ho : dryC P s (8 * y + x) = decide (s (8 * y + x) = 0) := by
      unfold dryC
      rw [onL_at (by omega), decide_eq_true (by omega), decide_eq_true hy]
      rfl
    have wb := hs.1 (8 * y + x) (by omega)
    rw [e, ho, nI_succ x] at ih
    by_cases z : s (8 * y + x) = 0
    · rw [decide_eq_true z, if_pos rfl, nI_succ] at ih
      exact teq (by rw [z]; rfl) ih
    · rw [decide_eq_false z] at ih
      exact tne (nI_ne0 (by omega) (by omega)) ih
theorem dry_out {P : Pl} {p : Nat} {s : Nat → Nat} {μ : Mem} (hs : SB s) (hC : CP P p μ) (hR : RowC P 18 μ s) : ∀ (m y : Nat), y + m = pH P → X9_dry_at39 d (nI (cntA (dryC P s) (8 * y))) (nI y) μ (nI (cntA (dryC P s) 48)) μ
  | 0, y, hy => by
    have hy : y = pH P := hy
    subst hy
    have py := hC.1.2.1
    refine X9_dry_at39_ok ?_
    rw [hC.ptr0, hC.num.2.1]
    refine tpos (nI_le (Nat.le_refl _) (by omega)) ⟨?_, rfl⟩
    have := cnt_skip (g := dryC P s) (a := 8 * pH P) (48 - 8 * pH P) (fun c h1 h2 => by
      have : onL P c = false := by
        unfold onL
        rw [decide_eq_false (show ¬ c / 8 < pH P by omega)]
        exact Bool.and_false _
      unfold dryC
      rw [this]
      rfl)
    rw [← this]
    congr 2
    omega
  | m + 1, y, hy => by
    have py := hC.1.2.1
    refine X9_dry_at39_ok ?_
    rw [hC.ptr0, hC.num.2.1]
    exact tneg (nI_ge (by omega) (by omega)) (dry_in (by omega) hs hC hR (dry_out hs hC hR m (y + 1) (by omega)) (pW P) 0 (by omega))
theorem dry_m {P : Pl} {s : Nat → Nat} {μ : Mem} (hs : SB s) (hM : MP P μ) (hR : RowM μ 34 s) : ∀ (m c : Nat), c + m = 48 → X10_dry_at22 (d + 2) (nI (cntA (dryC P s) c)) (nI c) μ (nI (cntA (dryC P s) 48)) μ
  | 0, c, hc => by
    have hc : c = 48 := hc
    subst hc
    exact X10_dry_at22_ok (tpos (by decide) ⟨rfl, rfl⟩)
  | m + 1, c, hc => by
    have ih := dry_m hs hM hR m (c + 1) (by omega)
    have e : cntA (dryC P s) (c + 1) = cntA (dryC P s) c + if dryC P s c then 1 else 0 := rfl
    rw [e, nI_succ c] at ih
    have wb := hs.1 c (by omega)
    refine X10_dry_at22_ok (tneg (nI_ge (b := 48) (by omega) (by decide)) ⟨_, μ, isLand_m (by omega) hM, ?_⟩)
    unfold dryC at ih
    cases ho : onL P c with
    | false => rw [ho] at ih; exact tpos rfl ih
    | true =>
      rw [ho, Bool.true_and] at ih
      refine tneg (by decide) ⟨vp_inN (by omega) (by decide), ?_⟩
      rw [nI_clamp (by omega), hR c (by omega)]
      by_cases z : s c = 0
      · rw [decide_eq_true z, if_pos rfl, nI_succ] at ih
        exact teq (by rw [z]; rfl) ih
      · rw [decide_eq_false z] at ih
        exact tne (nI_ne0 (by omega) (by omega)) ih
theorem call_dry {a : Int32} (hn : n ≤ 512) : Both (X9_dry (d + 8) a) (X10_dry (d + 8) a) n := by
  rintro μC μM ⟨P, p, r, h⟩
  obtain ⟨⟨hC, hK, hR⟩, ⟨hM, hRM⟩, hS, _⟩ := id h
  have pw := hC.1
  have q1 := isAhead_c (d := d + 7) (x := a) (μ := μC)
  have q2 := isLong_m (d := d + 6) (x := a) (μ := μM)
  cases hc : inN a 61 with
  | false =>
    rw [hc] at q1 q2
    exact ⟨-1, μC, μM, X9_dry_ok ⟨_, μC, q1, teq rfl ⟨rfl, rfl⟩⟩, X10_dry_ok ⟨_, μM, q2, teq rfl ⟨rfl, rfl⟩⟩, h.next⟩
  | true =>
    rw [hc] at q1 q2
    obtain ⟨k, hk, rfl⟩ := inN_ex hc
    obtain ⟨m1, m2, a1, a2, a3, a4, a5, a6, a7, a8⟩ := ahead_c (d := d + 1) (sd := nI (pSe P)) hn (show k ≤ 60 by omega) h
    obtain ⟨n1, n2, b1, b2, b3, b4, b5, b6⟩ := ahead0_m (d := d + 2) hn (show k ≤ 60 by omega) h
    have sb := (hS.goes pw (sd := nI (pSe P)) k).1
    exact ⟨_, m2, n2, X9_dry_ok ⟨_, μC, q1, tne (by decide) ⟨_, m1, a1, m2, by rw [a2.ptr0, a2.num.2.2.2.2.2.2]; exact a3, dry_out (d := d + 7) sb a6 a7 (pH P) 0 (by omega)⟩⟩, X10_dry_ok ⟨_, μM, q2, tne (by decide) ⟨n1, b1, n2, b2, dry_m (d := d + 5) sb b4 b5 48 0 (by omega)⟩⟩, (h.scr a4 a5 b3).next⟩
end Calls
