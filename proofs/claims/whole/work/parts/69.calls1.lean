/-! ===== calls: fall, turn, days, stop, order, undo ===== -/
section Calls
variable {d n : Nat}
theorem cellA {P : Pl} {x y : Int32} (h : (inN x (pW P) && inN y (pH P)) = true) : ∃ a b, x = nI a ∧ y = nI b ∧ a < pW P ∧ b < pH P := by
  rw [Bool.and_eq_true] at h
  obtain ⟨a, ha, rfl⟩ := inN_ex h.1
  obtain ⟨b, hb, rfl⟩ := inN_ex h.2
  exact ⟨a, b, rfl, rfl, ha, hb⟩
theorem sFl13 {p : Nat} {μ μ' : Mem} (h : Kq (sFl p 13) μ μ') : Kq (sDy p 13) μ μ' := sFl_d h
theorem dn_c {μ m m' : Mem} (h : Kp fC μ m) (k : Kq scM m m') : Kq dnM μ m' := ((fC_scM h).trans k).mono fun a k q => Or.inr (Or.inr (Or.inr q))
theorem dn_k {μ m m' : Mem} (h : Kq dnM μ m) (k : Kq (fun a k => a = 33 ∨ a = 35 ∨ (a = 0 ∧ k = 53)) m m') : Kq dnM μ m' := h.trans (k.mono fun a j q => by
  unfold dnM
  omega)
theorem call_fall {a b c x y : Int32} (hn : n ≤ 512) : Both (X9_fall (d + 8) a b c x y) (X10_fall (d + 8) a b c x y) n := by
  rintro μC μM ⟨P, p, r, h⟩
  obtain ⟨⟨hC, hK, hR⟩, ⟨hM, hRM⟩, hS, hT, ⟨t, nx, H, hP⟩, _, _, _⟩ := id h
  have pw := hC.1
  have p1 := isPiece_c (d := d + 6) (a := a) (b := b) (c := c) hC
  have p2 := isPiece_m (d := d + 5) (a := a) (b := b) (c := c) hM
  cases hp : pieceA P a b c with
  | false =>
    rw [hp] at p1 p2
    exact ⟨-1, μC, μM, X9_fall_ok ⟨_, μC, p1, tpos rfl ⟨rfl, rfl⟩⟩, X10_fall_ok ⟨_, μM, p2, tpos rfl ⟨rfl, rfl⟩⟩, h.next⟩
  | true =>
    rw [hp] at p1 p2
    have c1 := hasCell_c (d := d + 7) (x := x) (y := y) hC
    have c2 := isCell_m (d := d + 6) (x := x) (y := y) hM
    cases hc : inN x (pW P) && inN y (pH P) with
    | false =>
      rw [hc] at c1 c2
      refine ⟨-1, μC, μM, X9_fall_ok ⟨_, μC, p1, tneg (by decide) ⟨_, μC, by rw [hC.ptr0]; exact c1, teq rfl ⟨rfl, rfl⟩⟩⟩, X10_fall_ok ⟨_, μM, p2, tneg (by decide) ⟨_, μM, c2, teq rfl ⟨rfl, rfl⟩⟩⟩, h.next⟩
    | true =>
      rw [hc] at c1 c2
      obtain ⟨l, w, k, rfl, rfl, rfl, hl, w1, w2, k1, k2⟩ := pieceA_ex pw hp
      obtain ⟨xx, yy, rfl, rfl, hx, hy⟩ := cellA hc
      have w8 := (pw.2.2.2.2.2.2.2.2.2.1 l hl).2.1
      have px := pw.1
      have py := pw.2.1
      have hpk := (hS.2.2.1 l hl).1
      obtain ⟨m1, a1, a2, a3⟩ := remember_c (d := d + 6) pw hR hP.C
      have hR1 : RowC P 13 m1 r := hR.kq a2 fun a j q1 q2 => by unfold sPa; omega
      have hC1 : CP P p m1 := hC.kq (a2.mono fun a k q => by unfold sPa at q; unfold nPl; have := hC.pp; omega)
      have hK1 : Kc P m1 := hK.of (a2.row fun j => by unfold sPa; omega) (a2.row fun j => by unfold sPa; omega)
      obtain ⟨m2, b1, b2, b3, b4⟩ := letFall_c (d := d + 3) (l := l) (w := w) (h := k) (x := xx) (y := yy) hl w1 w2 k2 (by omega) (by omega) (by omega) hS.1 (by omega) hC1 hK1 hR1
      obtain ⟨n1, e1, e2, e3, e4⟩ := copies_m (d := d + 7) hM hRM
      have hM1 : MP P n1 := hM.kp (scM_M (fC_scM e2))
      obtain ⟨n2, f1, f2, f3⟩ := falls_m (d := d + 4) (l := l) (w := w) (h := k) (x := xx) (y := yy) hl w1 (by omega) k2 (by omega) (by omega) (by omega) hS.1 hM1 e3
      have kk : Kq dnM μM n2 := dn_c e2 (fR_scM f2)
      have hRM2 : RowM n2 33 r := fun j hj => by
        rw [f2.at rfl, e2.at rfl]
        exact hRM j hj
      obtain ⟨n3, g1, g2, g3, g4⟩ := keeps_m (d := d + 6) hP.1 hRM2 f3 (show PastM t H n2 from ⟨by rw [f2.at rfl, e2.at rfl]; exact hP.M.1, fun i hi j hj => by
        rw [f2.at rfl, e2.at rfl]
        exact hP.M.2 i hi j hj⟩)
      refine ⟨_, m2, n3, X9_fall_ok ⟨_, μC, p1, tneg (by decide) ⟨_, μC, by rw [hC.ptr0]; exact c1, tne (by decide) ⟨m1, a1, _, m2, b1, rfl, rfl⟩⟩⟩, X10_fall_ok ⟨_, μM, p2, tneg (by decide) ⟨_, μM, c2, tne (by decide) ⟨n1, e1, _, n2, f1, n3, g1, rfl, rfl⟩⟩⟩, ?_⟩
      exact done h hP a2 a3 (sFl13 b2) b3 b4 (dn_k kk g4) g2 g3 ((hS.fall pw hl k2).mono (by omega))
theorem SW.pick {P : Pl} (pw : PW P) {B l k : Nat} {r : Nat → Nat} (h : SW P B r) (hl : l < pL P) : SW P (B + k) (updN r (48 + l) (r (48 + l) + k)) := by
  have h4 := pw.2.2.2.1
  refine ⟨⟨fun c hc => by rw [updN_ne (by omega)]; exact h.1.1 c hc, by rw [updN_ne (by omega)]; exact h.1.2⟩, fun c hc ho => by rw [updN_ne (by omega)]; exact h.2.1 c hc ho, fun i hi => ⟨?_, ?_⟩, fun i q1 q2 => by rw [updN_ne (by omega)]; exact h.2.2.2.1 i q1 q2, ?_⟩
  · have := (h.2.2.1 i hi).1
    by_cases e : i = l
    · subst e
      rw [updN_same]
      omega
    · rw [updN_ne (by omega)]
      omega
  · have := (h.2.2.1 i hi).2
    unfold OrdOK at this ⊢
    rw [updN_ne (j := 52 + i) (by omega), updN_ne (j := 56 + i) (by omega), updN_ne (j := 60 + i) (by omega), updN_ne (j := 64 + i) (by omega)]
    exact this
  · rw [updN_ne (by omega), updN_ne (by omega), updN_ne (by omega), updN_ne (by omega), updN_ne (by omega)]
    exact h.2.2.2.2
theorem call_turn {a b : Int32} (hn : n ≤ 512) : Both (X9_turn (d + 8) a b) (X10_turn (d + 8) a b) n := by
  rintro μC μM ⟨P, p, r, h⟩
  obtain ⟨⟨hC, hK, hR⟩, ⟨hM, hRM⟩, hS, hT, ⟨t, nx, H, hP⟩, _, _, _⟩ := id h
  have pw := hC.1
  have h4 := pw.2.2.2.1
  have p1 := hasLoom_c (d := d + 7) (x := a) hC
  have p2 := isLoom_m (d := d + 6) (f := a) hM
  cases hp : inN a (pL P) with
  | false =>
    rw [hp] at p1 p2
    exact ⟨-1, μC, μM, X9_turn_ok ⟨_, μC, by rw [hC.ptr0]; exact p1, tpos rfl ⟨rfl, rfl⟩⟩, X10_turn_ok ⟨_, μM, p2, tpos rfl ⟨rfl, rfl⟩⟩, h.next⟩
  | true =>
    rw [hp] at p1 p2
    obtain ⟨l, hl, rfl⟩ := inN_ex hp
    have i1 := in_s (d := d + 7) (v := b) (a := 1) (b := nI 99) (μ := μM)
    rw [in1 (by decide)] at i1
    cases hb : inN (b - 1) 99 with
    | false =>
      rw [hb] at i1
      refine ⟨-1, μC, μM, X9_turn_ok ⟨_, μC, by rw [hC.ptr0]; exact p1, tneg (by decide) ?_⟩, X10_turn_ok ⟨_, μM, p2, tneg (by decide) ⟨_, μM, i1, teq rfl ⟨rfl, rfl⟩⟩⟩, h.next⟩
      rcases rng1_f (by decide) hb with q | q
      · exact tpos q ⟨rfl, rfl⟩
      · exact ⟨fun _ => ⟨rfl, rfl⟩, fun _ => tneg (i_lt_nle q) ⟨rfl, rfl⟩⟩
    | true =>
      rw [hb] at i1
      obtain ⟨k, k1, k2, rfl⟩ := (rng1 (by decide)).mp hb
      obtain ⟨m1, a1, a2, a3⟩ := remember_c (d := d + 6) pw hR hP.C
      have hR1 : RowC P 13 m1 r := hR.kq a2 fun a j q1 q2 => by unfold sPa; omega
      have hK1 : Kc P m1 := hK.of (a2.row fun j => by unfold sPa; omega) (a2.row fun j => by unfold sPa; omega)
      obtain ⟨m2, hm2⟩ : ∃ m, m = sI m1 15 (8 * l + 1) (m1.1 15 (8 * l + 1) + nI k) := ⟨_, rfl⟩
      have ap := addPart_c (d := d + 6) (s := 13) (μ := m1) (l := l) (k := 1) (x := nI k) (by omega) (by decide)
      have ap : X5_addPart (d + 7) 13 (nI l) 1 (nI k) m1 m2 := by rw [hm2]; exact ap
      have pc := part_c (d := d + 6) (s := 13) (μ := m2) (l := l) (k := 1) (by omega) (by decide)
      have e21 : m2.1 15 (8 * l + 1) = nI (r (48 + l) + k) := by rw [hm2, sI_1, (hR1.2.2.2.1 l hl).2.1, nJ_add]
      rw [show (13 : Nat) + 2 = 15 from rfl, e21] at pc
      have e2 : ∀ a, a ≠ 15 → m2.1 a = m1.1 a := fun a q => by rw [hm2, sI_n q]
      have k2' : Kq (sDy p 13) m1 m2 := by rw [hm2]; exact Kq.sI (by unfold sDy; omega)
      have hR2 : RowC P 13 m2 (updN r (48 + l) (r (48 + l) + k)) := by
        obtain ⟨r0, r1, r2, r3, r4, r5⟩ := hR1
        refine ⟨by rw [e2 _ (by decide), updN_ne (by omega)]; exact r0, by rw [e2 _ (by decide), updN_ne (by omega)]; exact r1, fun c hc => by rw [e2 _ (by decide), updN_ne (by omega)]; exact r2 c hc, fun i hi => ?_, fun i q1 q2 => by rw [show (13 : Nat) + 2 = 15 from rfl, hm2, sI_k (by omega)]; exact r4 i q1 q2, fun f hf => by rw [e2 _ (by decide), e2 _ (by decide), updN_ne (by omega), updN_ne (by omega)]; exact r5 f hf⟩
        obtain ⟨L0, L1, L2, L3, L4, L5, L6, L7⟩ := r3 i hi
        have g : ∀ j, j ≠ 8 * l + 1 → m2.1 15 j = m1.1 15 j := fun j q => by rw [hm2, sI_k q]
        unfold LoomC ordI at *
        rw [show (13 : Nat) + 2 = 15 from rfl, updN_ne (j := 52 + i) (by omega), updN_ne (j := 56 + i) (by omega), updN_ne (j := 60 + i) (by omega), updN_ne (j := 64 + i) (by omega), updN_ne (j := 68 + i) (by omega), updN_ne (j := 72 + i) (by omega), g (8 * i) (by omega), g (8 * i + 2) (by omega), g (8 * i + 3) (by omega), g (8 * i + 4) (by omega), g (8 * i + 5) (by omega), g (8 * i + 6) (by omega), g (8 * i + 7) (by omega)]
        refine ⟨L0, ?_, L2, L3, L4, L5, L6, L7⟩
        by_cases e : i = l
        · subst e
          rw [e21, updN_same]
        · rw [g _ (by omega), updN_ne (by omega)]
          exact L1
      obtain ⟨n1, b1, b2, b3, b4⟩ := copies_m (d := d + 7) hM hRM
      obtain ⟨n2, hn2⟩ : ∃ m, m = sI n1 34 (48 + l) (nI (r (48 + l) + k)) := ⟨_, rfl⟩
      have r34 : RowM n2 34 (updN r (48 + l) (r (48 + l) + k)) := by rw [hn2]; exact b3.upd
      have kk : Kq dnM μM n2 := dn_c b2 (by rw [hn2]; exact Kq.sI (by unfold scM; omega))
      have e33 : n2.1 33 = μM.1 33 := by rw [hn2, sI_n (by decide)]; exact b2.row fun _ => rfl
      have e35 : n2.1 35 = μM.1 35 := by rw [hn2, sI_n (by decide)]; exact b2.row fun _ => rfl
      have e53 : n2.1 0 53 = μM.1 0 53 := by rw [hn2, sI_n (by decide)]; exact b2.at rfl
      obtain ⟨n3, g1, g2, g3, g4⟩ := keeps_m (d := d + 6) hP.1 (show RowM n2 33 r from fun j hj => by rw [e33]; exact hRM j hj) r34 (show PastM t H n2 from ⟨by rw [e53]; exact hP.M.1, fun i hi j hj => by rw [e35]; exact hP.M.2 i hi j hj⟩)
      refine ⟨_, m2, n3, X9_turn_ok ⟨_, μC, by rw [hC.ptr0]; exact p1, tneg (by decide) (tneg (nI_nlt (b := 1) k1 (by omega)) (tpos (nI_le (b := 99) k2 (by decide)) ⟨m1, a1, m2, ap, _, m2, pc, rfl, rfl⟩))⟩, X10_turn_ok ⟨_, μM, p2, tneg (by decide) ⟨_, μM, i1, tne (by decide) ⟨n1, b1, ?_⟩⟩⟩, ?_⟩
      · have e48 : (48 : Int32) + nI l = nI (48 + l) := nJ_add 48 l
        rw [e48, nI_clamp (by omega), b3 _ (by omega), nJ_add]
        refine ⟨vp_inN (by omega) (by decide), vp_inN (by omega) (by decide), ?_⟩
        rintro μ9 e9
        rw [← hn2] at e9
        subst e9
        refine ⟨n3, g1, vp_inN (by omega) (by decide), ?_, rfl⟩
        rw [g2 _ (by omega), updN_same]
      · exact done h hP a2 a3 k2' (hK1.of (e2 10 (by decide)) (e2 11 (by decide))) hR2 (dn_k kk g4) g2 g3 ((hS.pick (k := k) pw hl).mono (by omega))
theorem i3_0 {x : Int32} {k : Nat} (hk : k < 2 ^ 30) : inI x 0 (nI k) = bI (inN x (k + 1)) := by
  have := inI_N (x := x) (n := k + 1) (by omega)
  rwa [nI_pred] at this
/-- a range with its last number told, the class's way -/
theorem rng_le {x : Int32} {n : Nat} {A : Int32 → Prop} (hn : n < 2 ^ 30) (h : A (bI (inN x (n + 1)))) : ((x < 0 → A 0) ∧ (¬ x < 0 → ((x ≤ nI n → A 1) ∧ (¬ x ≤ nI n → A 0)))) := by
  have := rng_c (x := x) (n := n + 1) (A := A) (by omega) h
  refine ⟨this.1, fun q => ⟨fun q2 => (this.2 q).2 ?_, fun q2 => (this.2 q).1 ?_⟩⟩
  · obtain ⟨k, hk, rfl⟩ := nI_ex (i_nlt q)
    rw [nI_le_iff hk (by omega)] at q2
    exact nI_ge (by omega) (by omega)
  · obtain ⟨k, hk, rfl⟩ := nI_ex (i_nlt q)
    rw [nI_le_iff hk (by omega)] at q2
    exact nI_le (by omega) hk
theorem call_days {a : Int32} (hn : n ≤ 512) : Both (X9_days (d + 8) a) (X10_days (d + 8) a) n := by
  rintro μC μM ⟨P, p, r, h⟩
  obtain ⟨⟨hC, hK, hR⟩, ⟨hM, hRM⟩, hS, hT, ⟨t, nx, H, hP⟩, _, _, _⟩ := id h
  have pw := hC.1
  have hpp := hC.pp
  have i1 := in_s (d := d + 7) (v := a) (a := 0) (b := nI 30) (μ := μM)
  rw [i3_0 (by decide)] at i1
  cases ha : inN a 31 with
  | false =>
    rw [ha] at i1
    refine ⟨-1, μC, μM, X9_days_ok ?_, X10_days_ok ⟨_, μM, i1, teq rfl ⟨rfl, rfl⟩⟩, h.next⟩
    have := rng_le (x := a) (n := 30) (A := fun z => z = 0) (by decide) (by rw [ha]; rfl)
    exact ⟨fun _ => ⟨rfl, rfl⟩, fun q => ⟨fun q2 => absurd ((this.2 q).1 q2) (by decide), fun _ => ⟨rfl, rfl⟩⟩⟩
  | true =>
    rw [ha] at i1
    obtain ⟨k, hk, rfl⟩ := inN_ex ha
    have c0 : ¬ nI k < 0 := nI_pos (by omega)
    have c3 : nI k ≤ 30 := nI_le (b := 30) (by omega) (by decide)
    rcases Nat.eq_zero_or_pos k with rfl | hk0
    · refine ⟨nI (r 89), μC, μM, X9_days_ok (tneg c0 (tpos c3 (tpos (by decide) ⟨hR.1.symm, rfl⟩))), X10_days_ok ⟨_, μM, i1, tne (by decide) (teq rfl ⟨(hRM 89 (by decide)).symm, rfl⟩)⟩, h.next⟩
    · obtain ⟨m1, a1, a2, a3⟩ := remember_c (d := d + 6) pw hR hP.C
      have hR1 : RowC P 13 m1 r := hR.kq a2 fun a j q1 q2 => by unfold sPa; omega
      have hC1 : CP P p m1 := hC.kq (a2.mono fun a k q => by unfold sPa at q; unfold nPl; omega)
      have hK1 : Kc P m1 := hK.of (a2.row fun j => by unfold sPa; omega) (a2.row fun j => by unfold sPa; omega)
      obtain ⟨m2, b1, b2, b3, b4⟩ := passDays_c (d := d + 1) (n := k) (sd := nI (pSe P)) (by omega) (by omega) (by omega) hS hC1 hK1 hR1
      obtain ⟨n1, e1, e2, e3, e4⟩ := copies_m (d := d + 7) hM hRM
      have hM1 : MP P n1 := hM.kp (scM_M (fC_scM e2))
      obtain ⟨n2, f1, f2, f3⟩ := goes_m (d := d + 2) (n := k) (sd := nI (pSe P)) (by omega) (by omega) hS hM1 e4 e3
      have kk : Kq dnM μM n2 := dn_c e2 (fR_scM f2)
      obtain ⟨n3, g1, g2, g3, g4⟩ := keeps_m (d := d + 6) hP.1 (show RowM n2 33 r from fun j hj => by rw [f2.at rfl, e2.at rfl]; exact hRM j hj) f3 (show PastM t H n2 from ⟨by rw [f2.at rfl, e2.at rfl]; exact hP.M.1, fun i hi j hj => by
        rw [f2.at rfl, e2.at rfl]
        exact hP.M.2 i hi j hj⟩)
      refine ⟨_, m2, n3, X9_days_ok (tneg c0 (tpos c3 (tneg (nI_nle hk0 (by omega)) ⟨m1, a1, m2, ?_, b4.1.symm, rfl⟩))), X10_days_ok ⟨_, μM, i1, tne (by decide) (tne (nI_ne0 hk0 (by omega)) ⟨n1, e1, n2, f1, n3, g1, ?_, rfl⟩)⟩, ?_⟩
      · rw [hC1.ptr0, hC1.num.2.2.2.2.2.2]
        exact b1
      · exact (g2 89 (by decide)).symm
      · exact done h hP a2 a3 b2 b3 b4 (dn_k kk g4) g2 g3 ((hS.goes pw k).mono (by omega))
end Calls
