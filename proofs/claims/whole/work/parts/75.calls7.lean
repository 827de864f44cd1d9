/-! ===== calls: year, emptyBy, holds ===== -/
section Calls
variable {d n : Nat}
def yrA (P : Pl) (r : Nat → Nat) (k : Nat) : Nat → Int32
  | 0 => 0
  | j + 1 => yrA P r k j + (nI (sumA (fun f => goesA P (nI (pSe P + j)) r k (76 + f)) 6) - nI (sumA (fun f => r (76 + f)) 6))
theorem year_c {P : Pl} {p k s : Nat} {r : Nat → Nat} (hn : n ≤ 512) (hk : k ≤ 60) (hs : s ≤ 20) : ∀ (m j : Nat) (μC μM : Mem), j + m = s → SimP n P p r μC μM → ∃ μ', X9_year_at43 (d + 7) (nI k) (nI s) (nI (sumA (fun f => r (76 + f)) 6)) (yrA P r k j) (nI (pSe P + j)) μC (yrA P r k s) μ' ∧ Kq (scC p) μC μ' ∧ SimP n P p r μ' μM
  | 0, j, μC, μM, hj, h => by
    have hj : j = s := hj
    subst hj
    have hC := h.1.1
    have se := hC.1.2.2.2.2.2.2.1
    refine ⟨μC, X9_year_at43_ok ?_, Kq.refl, h⟩
    rw [hC.ptr0, hC.num.2.2.2.2.2.2, nJ_add]
    exact tpos (nI_le (Nat.le_refl _) (by omega)) ⟨rfl, rfl⟩
  | m + 1, j, μC, μM, hj, h => by
    have hC := h.1.1
    have se := hC.1.2.2.2.2.2.2.1
    obtain ⟨m1, m2, a1, a2, a3, a4, a5, a6, a7, a8⟩ := ahead_c (d := d + 1) (sd := nI (pSe P + j)) hn hk h
    obtain ⟨μ', g1, g2, g3⟩ := year_c hn hk hs m (j + 1) m2 μM (by omega) (h.scr a4 a5 Kq.refl)
    rw [← Nat.add_assoc, nI_succ] at g1
    refine ⟨μ', X9_year_at43_ok ?_, a4.trans g2, g3⟩
    rw [hC.ptr0, hC.num.2.2.2.2.2.2, nJ_add]
    exact tneg (nI_ge (by omega) (by omega)) ⟨_, m1, a1, m2, a3, _, m2, sum_c (f := fun f => goesA P (nI (pSe P + j)) r k (76 + f)) (by decide) (fun i hi => (a7.2.2.2.2.2 i hi).1), g1⟩
theorem year_m {P : Pl} {p k s : Nat} {r : Nat → Nat} (hn : n ≤ 512) (hk : k ≤ 60) (hs : s ≤ 20) : ∀ (m j : Nat) (μC μM : Mem), j + m = s → SimP n P p r μC μM → ∃ μ', X10_year_at24 (d + 7) (nI k) (nI s) (yrA P r k j) (nI j) μM (yrA P r k s) μ' ∧ Kq scM μM μ'
  | 0, j, μC, μM, hj, h => by
    have hj : j = s := hj
    subst hj
    exact ⟨μM, X10_year_at24_ok (tpos (nI_le (Nat.le_refl _) (by omega)) ⟨rfl, rfl⟩), Kq.refl⟩
  | m + 1, j, μC, μM, hj, h => by
    obtain ⟨n1, n2, b1, b2, b3, b4, b5, b6, b7⟩ := ahead_m (d := d + 2) (j := j) hn hk h
    rw [nJ_add] at b3 b6
    obtain ⟨μ', g1, g2⟩ := year_m hn hk hs m (j + 1) μC n2 (by omega) (h.scr Kq.refl h.1.2.1 b4)
    rw [nI_succ] at g1
    refine ⟨μ', X10_year_at24_ok (tneg (nI_ge (by omega) (by omega)) ⟨n1, b1, ?_⟩), b4.trans g2⟩
    rw [b2, nJ_add]
    rintro μ3 rfl
    exact ⟨n2, b3, _, n2, moreIn_m (from_ := 76) (by decide) b6 b7, g1⟩
theorem call_year {a b : Int32} (hn : n ≤ 512) : Both (X9_year (d + 8) a b) (X10_year (d + 8) a b) n := by
  rintro μC μM ⟨P, p, r, h⟩
  obtain ⟨⟨hC, hK, hR⟩, ⟨hM, hRM⟩, hS, _⟩ := id h
  have q1 := isAhead_c (d := d + 7) (x := a) (μ := μC)
  have q2 := isLong_m (d := d + 6) (x := a) (μ := μM)
  cases hc : inN a 61 with
  | false =>
    rw [hc] at q1 q2
    exact ⟨-1, μC, μM, X9_year_ok ⟨_, μC, q1, tpos rfl ⟨rfl, rfl⟩⟩, X10_year_ok ⟨_, μM, q2, tpos rfl ⟨rfl, rfl⟩⟩, h.next⟩
  | true =>
    rw [hc] at q1 q2
    obtain ⟨k, hk, rfl⟩ := inN_ex hc
    have i1 := in_s (d := d + 7) (v := b) (a := 1) (b := nI 20) (μ := μM)
    rw [in1 (by decide)] at i1
    cases hb : inN (b - 1) 20 with
    | false =>
      rw [hb] at i1
      refine ⟨-1, μC, μM, X9_year_ok ⟨_, μC, q1, tneg (by decide) ?_⟩, X10_year_ok ⟨_, μM, q2, tneg (by decide) ⟨_, μM, i1, teq rfl ⟨rfl, rfl⟩⟩⟩, h.next⟩
      rcases rng1_f (by decide) hb with q | q
      · exact tpos q ⟨rfl, rfl⟩
      · exact ⟨fun _ => ⟨rfl, rfl⟩, fun _ => tneg (i_lt_nle q) ⟨rfl, rfl⟩⟩
    | true =>
      rw [hb] at i1
      obtain ⟨s, s1, s2, rfl⟩ := (rng1 (by decide)).mp hb
      obtain ⟨mC, g1, g2, g3⟩ := year_c (d := d) (s := s) hn (show k ≤ 60 by omega) s2 s 0 μC μM (by omega) h
      obtain ⟨mM, f1, f2⟩ := year_m (d := d) (s := s) hn (show k ≤ 60 by omega) s2 s 0 μC μM (by omega) h
      refine ⟨_, mC, mM, X9_year_ok ⟨_, μC, q1, tneg (by decide) (tneg (nI_nlt (b := 1) s1 (by omega)) (tpos (nI_le (b := 20) s2 (by decide)) ⟨_, μC, sum_c (f := fun k => r (76 + k)) (by decide) (fun i hi => (hR.2.2.2.2.2 i hi).1), ?_⟩))⟩, X10_year_ok ⟨_, μM, q2, tneg (by decide) ⟨_, μM, i1, tne (by decide) f1⟩⟩, (g3.scr Kq.refl g3.1.2.1 f2).next⟩
      rw [hC.ptr0, hC.num.2.2.2.2.2.2]
      exact g1
/-- two scenes that differ in the land alone -/
def stEq (r s : Nat → Nat) : Prop := ∀ j, 48 ≤ j → j < 76 ∨ 88 ≤ j → r j = s j
theorem stEq.fall {P : Pl} {l w h x y x' y' : Nat} {r s : Nat → Nat} (pw : PW P) (hl : l < 4) (hw : 1 ≤ w) (hr : SB r) (hs : SB s) (e : stEq r s) : stEq (fallR P l w h x y r) (fallR P l w h x' y' s) := by
  have p8 := pw.1
  have p6 := pw.2.1
  intro j hj hj2
  unfold fallR
  rw [e (48 + l) (by omega) (by omega)]
  obtain ⟨a1, a2, _⟩ := fallS_eq (l := l) (x := x) (y := y) (pick := s (48 + l)) hr hw p8 p6 (w * h)
  obtain ⟨b1, b2, _⟩ := fallS_eq (l := l) (x := x') (y := y') (pick := s (48 + l)) hs hw p8 p6 (w * h)
  have e88 := e 88 (by omega) (by omega)
  rw [e88] at a1 a2
  have n1 : ∀ i, i ≠ 88 → 48 ≤ i → (fallS P l w x y (s (48 + l)) r (w * h)).1 i = r i := fun i q1 q2 => fallS_ne q1 q2 p8 p6 _
  have n2 : ∀ i, i ≠ 88 → 48 ≤ i → (fallS P l w x' y' (s (48 + l)) s (w * h)).1 i = s i := fun i q1 q2 => fallS_ne q1 q2 p8 p6 _
  by_cases c1 : j = 48 + l
  · rw [c1, fallE_pick hl, fallE_pick hl]
  · by_cases c2 : j = 68 + l
    · rw [c2, fallE_woven hl, fallE_woven hl, n1 _ (by omega) (by omega), n2 _ (by omega) (by omega), a1, b1, e _ (by omega) (by omega)]
    · by_cases c3 : j = 72 + l
      · rw [c3, fallE_torn hl, fallE_torn hl, n1 _ (by omega) (by omega), n2 _ (by omega) (by omega), a1, b1, e _ (by omega) (by omega)]
      · by_cases c4 : j = 90
        · rw [c4, fallE_all hl, fallE_all hl, n1 _ (by omega) (by omega), n2 _ (by omega) (by omega), a1, b1, e _ (by omega) (by omega)]
        · rw [fallE_ne c1 c2 c3 c4, fallE_ne c1 c2 c3 c4]
          by_cases c5 : j = 88
          · rw [c5, a2, b2]
          · rw [n1 _ c5 hj, n2 _ c5 hj, e j hj hj2]
theorem stEq.ord {P : Pl} {B C : Nat} {sd : Int32} {r s : Nat → Nat} (pw : PW P) (hr : SW P B r) (hs : SW P C s) (e : stEq r s) : ∀ l, l ≤ pL P → stEq (ordS P sd r l) (ordS P sd s l)
  | 0, _ => e
  | l + 1, hl => by
    have h4 := pw.2.2.2.1
    have ih := stEq.ord (sd := sd) pw hr hs e l (by omega)
    have w1 := hr.ord (sd := sd) pw l (by omega)
    have w2 := hs.ord (sd := sd) pw l (by omega)
    unfold ordS
    rw [ih (52 + l) (by omega) (by omega), ih (56 + l) (by omega) (by omega), ih (60 + l) (by omega) (by omega), ih (64 + l) (by omega) (by omega), ih 89 (by omega) (by omega)]
    split
    · exact ih
    · exact ih.fall pw (by omega) (by omega) w1.1 w2.1
def stDay (P : Pl) (sd : Int32) (r : Nat → Nat) : Nat → Nat := endS P (ordS P sd r (pL P))
def stGo (P : Pl) (sd : Int32) (r : Nat → Nat) : Nat → Nat → Nat
  | 0 => r
  | k + 1 => stDay P sd (stGo P sd r k)
theorem SW.st {P : Pl} (pw : PW P) {B : Nat} {sd : Int32} {r : Nat → Nat} (hr : SW P B r) : ∀ k, SW P (B + 24 * k) (stGo P sd r k)
  | 0 => hr
  | k + 1 => by
    have h4 := pw.2.2.2.1
    exact (((SW.st pw hr k).ord (sd := sd) pw (pL P) (Nat.le_refl _)).end pw).mono (by omega)
theorem stEq.go {P : Pl} {B : Nat} {sd : Int32} {r : Nat → Nat} (pw : PW P) (hr : SW P B r) : ∀ k, stEq (goesA P sd r k) (stGo P sd r k)
  | 0 => fun _ _ _ => rfl
  | k + 1 => by
    have ih := (stEq.go (sd := sd) pw hr k).ord (sd := sd) pw (hr.goes pw k) (hr.st pw k) (pL P) (Nat.le_refl _)
    have e : stEq (drS P (talS P (ordS P sd (goesA P sd r k) (pL P)) 48) 48) (ordS P sd (stGo P sd r k) (pL P)) := fun j h1 h2 => by
      rw [drS_ne 48 (Or.inl (by omega)), talS_ne pw h2]
      exact ih j h1 h2
    intro j h1 h2
    show endS P _ j = endS P _ j
    unfold endS
    rw [e 88 (by omega) (by omega), e 89 (by omega) (by omega)]
    unfold updN
    split
    · split
      · rfl
      · rw [e 89 (by omega) (by omega)]
    · split
      · rfl
      · exact e j h1 h2
theorem storeDay_c {P : Pl} {p B : Nat} {r : Nat → Nat} {μ : Mem} (hB : B + 24 < 1000000) (hr0 : SW P B r) (hC : CP P p μ) (hK : Kc P μ) (hR : RowC P 18 μ r) : ∃ μ', X7_passStoreDay (d + 6) 18 μ μ' ∧ Kq (scC p) μ μ' ∧ Kc P μ' ∧ CP P p μ' ∧ RowC P 18 μ' (stDay P (nI (pSe P)) r) := by
  have pw := hC.1
  have hpp := hC.pp
  obtain ⟨m1, a1, a2, a3, a4⟩ := letOrders_c (d := d) (s := 18) (sd := nI (pSe P)) hB (by omega) hr0 hC hK hR
  have k1 := sDy_sc (sFl_d a2)
  obtain ⟨m2, b1, b2, b3⟩ := endDay_c (d := d + 3) (s := 18) (hr0.ord (sd := nI (pSe P)) pw (pL P) (Nat.le_refl _)).1 (by omega) (hC.kq (scC_n hpp k1)) a4
  have k2 := k1.trans (sDy_sc (sEn_d b2))
  refine ⟨m2, X7_passStoreDay_ok ⟨m1, ?_, m2, b1, rfl⟩, k2, a3.of (b2.row fun j => by unfold sEn; omega) (b2.row fun j => by unfold sEn; omega), hC.kq (scC_n hpp k2), b3⟩
  rw [hC.ptr, hC.num.2.2.2.2.2.2]
  exact a1
/-- the first day without a STORE -/
def empA (P : Pl) (r : Nat → Nat) : Nat → Nat → Int32
  | 0, _ => -2
  | m + 1, j => if goesA P (nI (pSe P)) r j 88 = 0 then nI j else empA P r m (j + 1)
theorem empty_c {P : Pl} {p B : Nat} {r : Nat → Nat} (hB : B + 24 * 201 < 1000000) (hS : SW P B r) : ∀ (m j : Nat) (μ : Mem), j + m = 201 → CP P p μ → Kc P μ → RowC P 18 μ (stGo P (nI (pSe P)) r j) → ∃ μ', X9_emptyBy_at14 (d + 6) (nI j) μ (empA P r m j) μ' ∧ Kq (scC p) μ μ' ∧ Kc P μ'
  | 0, j, μ, hj, hC, hK, hR => by
    have hj : j = 201 := hj
    subst hj
    exact ⟨μ, X9_emptyBy_at14_ok (tpos (by decide) ⟨rfl, rfl⟩), Kq.refl, hK⟩
  | m + 1, j, μ, hj, hC, hK, hR => by
    have pw := hC.1
    have e := stEq.go (sd := nI (pSe P)) pw hS j 88 (by omega) (by omega)
    have hn : ¬ (200 : Int32) < nI j := nI_nlt (a := 200) (by omega) (by decide)
    have sb := (hS.st (sd := nI (pSe P)) pw j)
    unfold empA
    by_cases z : goesA P (nI (pSe P)) r j 88 = 0
    · rw [if_pos z]
      exact ⟨μ, X9_emptyBy_at14_ok (tneg hn (teq (by rw [hR.2.1, ← e, z]; rfl) ⟨rfl, rfl⟩)), Kq.refl, hK⟩
    · rw [if_neg z]
      obtain ⟨m1, a1, a2, a3, a4, a5⟩ := storeDay_c (d := d) (by omega) sb hC hK hR
      obtain ⟨μ', g1, g2, g3⟩ := empty_c hB hS m (j + 1) m1 (by omega) a4 a3 a5
      rw [nI_succ] at g1
      have := sb.1.2
      exact ⟨μ', X9_emptyBy_at14_ok (tneg hn (tne (by rw [hR.2.1]; exact nI_ne0 (by omega) (by omega)) ⟨m1, a1, g1⟩)), a2.trans g2, g3⟩
theorem empty_m {P : Pl} {B : Nat} {r : Nat → Nat} (hB : B + 24 * 201 < 1000000) (hS : SW P B r) : ∀ (m j : Nat) (μ : Mem), j + m = 201 → MP P μ → μ.1 0 52 = nI (pSe P) → RowM μ 34 (goesA P (nI (pSe P)) r j) → ∃ μ', X10_emptyBy_at6 (d + 6) (nI j) μ (empA P r m j) μ' ∧ Kq scM μ μ'
  | 0, j, μ, hj, hM, h52, hR => by
    have hj : j = 201 := hj
    subst hj
    exact ⟨μ, X10_emptyBy_at6_ok (tpos (by decide) ⟨rfl, rfl⟩), Kq.refl⟩
  | m + 1, j, μ, hj, hM, h52, hR => by
    have pw := hM.1
    have hn : ¬ (200 : Int32) < nI j := nI_nlt (a := 200) (by omega) (by decide)
    have sb := (hS.goes (sd := nI (pSe P)) pw j)
    unfold empA
    by_cases z : goesA P (nI (pSe P)) r j 88 = 0
    · rw [if_pos z]
      exact ⟨μ, X10_emptyBy_at6_ok (tneg hn (teq (by rw [hR 88 (by decide), z]; rfl) ⟨rfl, rfl⟩)), Kq.refl⟩
    · rw [if_neg z]
      obtain ⟨m1, a1, a2, a3⟩ := dayGoes_m (d := d + 2) (by omega) sb hM h52 hR
      obtain ⟨μ', g1, g2⟩ := empty_m hB hS m (j + 1) m1 (by omega) (hM.kp (fR_M a2)) ((fC_lots a2).trans h52) a3
      rw [nI_succ] at g1
      have := sb.1.2
      exact ⟨μ', X10_emptyBy_at6_ok (tneg hn (tne (by rw [hR 88 (by decide)]; exact nI_ne0 (by omega) (by omega)) ⟨m1, a1, g1⟩)), (fR_scM a2).trans g2⟩
theorem call_emptyBy (hn : n ≤ 512) : Both (X9_emptyBy (d + 8)) (X10_emptyBy (d + 8)) n := by
  rintro μC μM ⟨P, p, r, h⟩
  obtain ⟨⟨hC, hK, hR⟩, ⟨hM, hRM⟩, hS, _⟩ := id h
  have pw := hC.1
  have hpp := hC.pp
  obtain ⟨m1, a1, a2, a3⟩ := copy_c (d := d + 7) (a := 18) (b := 13) pw (Or.inr (by omega)) hR
  have k1 : Kq (scC p) μC m1 := a2.mono fun a k q => by unfold sCp at q; unfold scC; omega
  obtain ⟨mC, b1, b2, b3⟩ := empty_c (d := d + 1) (by omega) hS 201 0 m1 (by omega) (hC.kq (scC_n hpp k1)) (hK.of (a2.row fun j => by unfold sCp; omega) (a2.row fun j => by unfold sCp; omega)) a3
  obtain ⟨n1, e1, e2, e3, e4⟩ := copies_m (d := d + 7) hM hRM
  obtain ⟨mM, f1, f2⟩ := empty_m (d := d + 1) (by omega) hS 201 0 n1 (by omega) (hM.kp (scM_M (fC_scM e2))) e4 e3
  exact ⟨_, mC, mM, X9_emptyBy_ok ⟨_, m1, a1, b1⟩, X10_emptyBy_ok ⟨n1, e1, f1⟩, (h.scr (k1.trans b2) b3 ((fC_scM e2).trans f2)).next⟩
end Calls
