/-! ===== the class: days ===== -/
section Days
variable {P : Pl} {p s : Nat} {d : Nat}
def sDy (p s a k : Nat) : Prop := sWv p a k ∨ a = p + 13 ∨ (a = p + 14 ∧ (k = 3 ∨ k = 4 ∨ k = 5 ∨ k = 6)) ∨ a = p + 17 ∨ (a = p + 18 ∧ k = 6) ∨ (a = s ∧ (k = 0 ∨ k = 1)) ∨ a = s + 1 ∨ a = s + 2 ∨ a = s + 3 ∨ a = s + 4
theorem sDy_n {μ μ' : Mem} (hp : p = 214 ∨ p = 233) (hs : 13 ≤ s ∧ s + 4 < 192) (h : Kq (sDy p s) μ μ') : Kq (nPl p) μ μ' := h.mono fun a k q => by
  unfold sDy sWv at q
  unfold nPl
  omega
theorem sFl_d {μ μ' : Mem} (h : Kq (sFl p s) μ μ') : Kq (sDy p s) μ μ' := h.mono fun a k q => by
  unfold sFl at q
  unfold sDy
  rcases q with q | q
  · exact Or.inl q
  · omega
theorem mix_c {a b : Int32} {μ : Mem} : X7_mix d a b μ (mixA a b) μ := X7_mix_ok ⟨rfl, rfl⟩
theorem lot_c {sd w : Int32} {μ : Mem} : X7_lot (d + 1) 100 sd w μ (lotA sd w) μ := X7_lot_ok ⟨_, _, mix_c, _, _, mix_c, tneg (by decide) ⟨by decide, rfl, rfl⟩⟩
theorem hasOrder_c {μ : Mem} {l B : Nat} {r : Nat → Nat} (pw : PW P) (hl : l < pL P) (hR : RowC P s μ r) (hS : SW P B r) : X5_hasOrder (d + 2) s (nI l) μ (bI (decide (r (52 + l) ≠ 0))) μ := by
  have h4 := pw.2.2.2.1
  have pc := part_c (d := d) (s := s) (μ := μ) (l := l) (k := 2) (by omega) (by decide)
  rw [(hR.2.2.2.1 l hl).2.2.1] at pc
  refine X5_hasOrder_ok ⟨_, μ, pc, ?_⟩
  unfold ordI
  by_cases h : r (52 + l) = 0
  · rw [if_pos h, decide_eq_false (fun z => z h)]
    exact tpos (by decide) ⟨rfl, rfl⟩
  · have := hS.ordIn pw hl h
    rw [if_neg h, decide_eq_true h]
    exact tneg (nI_nle (by omega) (by omega)) ⟨rfl, rfl⟩
theorem letOrders_loop {r : Nat → Nat} {B : Nat} {sd : Int32} (hB : B + 24 < 1000000) (hs : 13 ≤ s ∧ s + 4 < 192) (hr0 : SW P B r) : ∀ (m l : Nat) (μ : Mem), l + m = pL P → CP P p μ → Kc P μ → RowC P s μ (ordS P sd r l) → ∃ μ', X7_letOrdersFall_at2 (d + 4) s sd (nI l) μ μ' ∧ Kq (sFl p s) μ μ' ∧ Kc P μ' ∧ RowC P s μ' (ordS P sd r (pL P))
  | 0, l, μ, hl, hC, hK, hR => by
    have hl : l = pL P := hl
    subst hl
    refine ⟨μ, X7_letOrdersFall_at2_ok ?_, Kq.refl, hK, hR⟩
    rw [hC.ptr, hC.num.2.2.2.1]
    exact tpos (nI_le (Nat.le_refl _) (by have := hC.1.2.2.2.1; omega)) rfl
  | m + 1, l, μ, hl, hC, hK, hR => by
    have pw := hC.1
    have hpp := hC.pp
    have h4 := pw.2.2.2.1
    have sw := hr0.ord (sd := sd) pw l (by omega)
    have hn : ¬ nI (pL P) ≤ nI l := nI_ge (by omega) (by omega)
    have ho := hasOrder_c (d := d + 2) pw (show l < pL P by omega) hR sw
    by_cases h0 : ordS P sd r l (52 + l) = 0
    · have es : ordS P sd r (l + 1) = ordS P sd r l := by
        rw [ordS, if_pos h0]
      obtain ⟨μ', g1, g2⟩ := letOrders_loop hB hs hr0 m (l + 1) μ (by omega) hC hK (by rw [es]; exact hR)
      rw [nI_succ] at g1
      refine ⟨μ', X7_letOrdersFall_at2_ok ?_, g2⟩
      rw [hC.ptr, hC.num.2.2.2.1]
      refine tneg hn ⟨_, μ, ho, tpos ?_ g1⟩
      rw [decide_eq_false (fun z => z h0)]
      rfl
    · obtain ⟨o1, o2, o3, o4, o5, o6, o7⟩ := sw.ordIn pw (by omega) h0
      have gl := gust_le (P := P) (sd := sd) (day := ordS P sd r l 89) (l := l)
      have hp := (sw.2.2.1 l (by omega)).1
      obtain ⟨m1, a1, a2, a3, a4⟩ := letFall_c (d := d) (μ := μ) (l := l) (w := ordS P sd r l (52 + l)) (h := ordS P sd r l (56 + l)) (x := ordS P sd r l (60 + l) + gust P sd (ordS P sd r l 89) l) (y := ordS P sd r l (64 + l)) (by omega) o1 o7 o4 (by omega) (by omega) (by omega) sw.1 hs hC hK hR
      have es : ordS P sd r (l + 1) = fallR P l (ordS P sd r l (52 + l)) (ordS P sd r l (56 + l)) (ordS P sd r l (60 + l) + gust P sd (ordS P sd r l 89) l) (ordS P sd r l (64 + l)) (ordS P sd r l) := by
        rw [ordS, if_neg h0]
      obtain ⟨μ', g1, g2, g3⟩ := letOrders_loop hB hs hr0 m (l + 1) m1 (by omega) (hC.kq (sFl_n hpp hs a2)) a3 (by rw [es]; exact a4)
      rw [nI_succ] at g1
      obtain ⟨L0, L1, L2, L3, L4, L5, L6, L7⟩ := hR.2.2.2.1 l (by omega)
      have oi : ∀ b, ordI (ordS P sd r l) l b = nI (ordS P sd r l (b + l)) := fun b => by unfold ordI; rw [if_neg h0]
      rw [oi] at L2 L3 L4 L5
      have p4 := part_c (d := d + 3) (s := s) (μ := μ) (l := l) (k := 4) (by omega) (by decide)
      have p2 := part_c (d := d + 3) (s := s) (μ := μ) (l := l) (k := 2) (by omega) (by decide)
      have p3 := part_c (d := d + 3) (s := s) (μ := μ) (l := l) (k := 3) (by omega) (by decide)
      have p5 := part_c (d := d + 3) (s := s) (μ := μ) (l := l) (k := 5) (by omega) (by decide)
      rw [L4] at p4
      rw [L2] at p2
      rw [L3] at p3
      rw [L5] at p5
      refine ⟨μ', X7_letOrdersFall_at2_ok ?_, a2.trans g2, g3⟩
      rw [hC.ptr, hC.num.2.2.2.1]
      refine tneg hn ⟨_, μ, ho, tneg (by rw [decide_eq_true h0]; decide) ⟨_, μ, p4, _, μ, lot_c, ?_⟩⟩
      rw [hC.ptr, hC.num.2.2.2.2.2.1, hR.1]
      by_cases hg : nI (pGu P) ≤ lotA sd (8 * nI (ordS P sd r l 89) + nI l)
      · have eg : gust P sd (ordS P sd r l 89) l = 0 := if_pos hg
        rw [eg, Nat.add_zero] at a1
        exact tpos hg ⟨_, μ, p2, _, μ, p3, _, μ, p5, _, m1, a1, g1⟩
      · have eg : gust P sd (ordS P sd r l 89) l = 1 := if_neg hg
        rw [eg] at a1
        exact tneg hg ⟨_, μ, p2, _, μ, p3, _, μ, p5, _, m1, by rw [← nI_succ]; exact a1, g1⟩
theorem letOrders_c {μ : Mem} {r : Nat → Nat} {B : Nat} {sd : Int32} (hB : B + 24 < 1000000) (hs : 13 ≤ s ∧ s + 4 < 192) (hr0 : SW P B r) (hC : CP P p μ) (hK : Kc P μ) (hR : RowC P s μ r) : ∃ μ', X7_letOrdersFall (d + 5) s sd μ μ' ∧ Kq (sFl p s) μ μ' ∧ Kc P μ' ∧ RowC P s μ' (ordS P sd r (pL P)) := by
  obtain ⟨μ', g1, g2⟩ := letOrders_loop (d := d) (p := p) (sd := sd) hB hs hr0 (pL P) 0 μ (by omega) hC hK hR
  exact ⟨μ', X7_letOrdersFall_ok g1, g2⟩
/-- what lies on a CELL, lacks there, drowns there -/
theorem lacks_c {μ : Mem} {c w : Nat} (hC : CP P p μ) (hc : c < 48) (hw : w < 2 ^ 31) : X3_lacks (d + 1) p (landI P c) (nI w) μ (bI (onL P c && lackA P c w)) μ := by
  refine X3_lacks_ok ⟨_, μ, hasField_c hC, ?_⟩
  unfold landI lackA needO
  have pw := hC.1
  cases ho : onL P c with
  | false => exact tpos (by rfl) ⟨rfl, rfl⟩
  | true =>
    cases hf : pFld P c with
    | none => exact tpos (by rfl) ⟨rfl, rfl⟩
    | some f =>
      have f1 := pw.2.2.2.2.2.2.2.1 c f ho hf
      have f6 := pw.2.2.1
      have n9 := (pw.2.2.2.2.2.2.2.2.1 f f1).1
      have e : (if (true = true) then fI (some f) else (-2 : Int32)) = nI f := rfl
      rw [e, inN_nI (by omega), decide_eq_true f1, nI_clamp (by omega), (hC.fld f1).2.1]
      refine tneg (by decide) ⟨vp_inN (by omega) (by decide), ?_⟩
      by_cases q : w < pNe P f
      · exact tneg (nI_ge q (by omega)) ⟨by show bI (decide (w < pNe P f)) = 1; rw [decide_eq_true q]; rfl, rfl⟩
      · exact tpos (nI_le (by omega) hw) ⟨by show bI (decide (w < pNe P f)) = 0; rw [decide_eq_false q]; rfl, rfl⟩
theorem drowned_c {μ : Mem} {c w : Nat} (hC : CP P p μ) (hc : c < 48) (hw : w < 2 ^ 31) : X3_drowned (d + 1) p (landI P c) (nI w) μ (bI (onL P c && floodA P c w)) μ := by
  refine X3_drowned_ok ⟨_, μ, hasField_c hC, ?_⟩
  unfold landI floodA drownO
  have pw := hC.1
  cases ho : onL P c with
  | false => exact tpos (by rfl) ⟨rfl, rfl⟩
  | true =>
    cases hf : pFld P c with
    | none => exact tpos (by rfl) ⟨rfl, rfl⟩
    | some f =>
      have f1 := pw.2.2.2.2.2.2.2.1 c f ho hf
      have f6 := pw.2.2.1
      have n9 := (pw.2.2.2.2.2.2.2.2.1 f f1).2
      have e : (if (true = true) then fI (some f) else (-2 : Int32)) = nI f := rfl
      rw [e, inN_nI (by omega), decide_eq_true f1, nI_clamp (by omega), (hC.fld f1).2.2]
      refine tneg (by decide) ⟨vp_inN (by omega) (by decide), ?_⟩
      by_cases q : pDr P f < w
      · exact tneg (nI_ge q hw) ⟨by show bI (decide (pDr P f < w)) = 1; rw [decide_eq_true q]; rfl, rfl⟩
      · exact tpos (nI_le (by omega) (by omega)) ⟨by show bI (decide (pDr P f < w)) = 0; rw [decide_eq_false q]; rfl, rfl⟩
/-- a tally of a scene goes up by one -/
theorem RowC.lack {μ : Mem} {r : Nat → Nat} {f : Nat} (pw : PW P) (h : RowC P s μ r) (hf : f < 6) : RowC P s (sI μ (s + 3) f (μ.1 (s + 3) f + 1)) (updN r (76 + f) (r (76 + f) + 1)) := by
  have h4 := pw.2.2.2.1
  obtain ⟨h0, h1, h2, h3, h5, h6⟩ := h
  have e : ∀ a, a ≠ s + 3 → (sI μ (s + 3) f (μ.1 (s + 3) f + 1)).1 a = μ.1 a := fun a n => sI_n n
  refine ⟨by rw [e s (by omega), updN_ne (by omega)]; exact h0, by rw [e s (by omega), updN_ne (by omega)]; exact h1, fun c hc => by rw [e _ (by omega), updN_ne (by omega)]; exact h2 c hc, fun l hl => ?_, fun l q1 q2 => by rw [e _ (by omega)]; exact h5 l q1 q2, fun g hg => ⟨?_, ?_⟩⟩
  · have := h3 l hl
    rw [e _ (by omega)]
    unfold LoomC ordI at this ⊢
    rw [updN_ne (j := 48 + l) (by omega), updN_ne (j := 52 + l) (by omega), updN_ne (j := 56 + l) (by omega), updN_ne (j := 60 + l) (by omega), updN_ne (j := 64 + l) (by omega), updN_ne (j := 68 + l) (by omega), updN_ne (j := 72 + l) (by omega)]
    exact this
  · by_cases q : g = f
    · subst q
      rw [sI_1, updN_same, (h6 g hg).1, ← nI_succ]
    · rw [sI_k q, updN_ne (by omega)]
      exact (h6 g hg).1
  · rw [e _ (by omega), updN_ne (by omega)]
    exact (h6 g hg).2
theorem RowC.flood {μ : Mem} {r : Nat → Nat} {f : Nat} (pw : PW P) (h : RowC P s μ r) (hf : f < 6) : RowC P s (sI μ (s + 4) f (μ.1 (s + 4) f + 1)) (updN r (82 + f) (r (82 + f) + 1)) := by
  have h4 := pw.2.2.2.1
  obtain ⟨h0, h1, h2, h3, h5, h6⟩ := h
  have e : ∀ a, a ≠ s + 4 → (sI μ (s + 4) f (μ.1 (s + 4) f + 1)).1 a = μ.1 a := fun a n => sI_n n
  refine ⟨by rw [e s (by omega), updN_ne (by omega)]; exact h0, by rw [e s (by omega), updN_ne (by omega)]; exact h1, fun c hc => by rw [e _ (by omega), updN_ne (by omega)]; exact h2 c hc, fun l hl => ?_, fun l q1 q2 => by rw [e _ (by omega)]; exact h5 l q1 q2, fun g hg => ⟨?_, ?_⟩⟩
  · have := h3 l hl
    rw [e _ (by omega)]
    unfold LoomC ordI at this ⊢
    rw [updN_ne (j := 48 + l) (by omega), updN_ne (j := 52 + l) (by omega), updN_ne (j := 56 + l) (by omega), updN_ne (j := 60 + l) (by omega), updN_ne (j := 64 + l) (by omega), updN_ne (j := 68 + l) (by omega), updN_ne (j := 72 + l) (by omega)]
    exact this
  · rw [e _ (by omega), updN_ne (by omega)]
    exact (h6 g hg).1
  · by_cases q : g = f
    · subst q
      rw [sI_1, updN_same, (h6 g hg).2, ← nI_succ]
    · rw [sI_k q, updN_ne (by omega)]
      exact (h6 g hg).2
def sTl (s a k : Nat) : Prop := a = s + 3 ∨ a = s + 4
theorem sTl_d {μ μ' : Mem} (h : Kq (sTl s) μ μ') : Kq (sDy p s) μ μ' := h.mono fun a k q => by
  unfold sTl at q
  unfold sDy
  omega
theorem tally_loop {r : Nat → Nat} (hb : SB r) (hs : 13 ≤ s ∧ s + 4 < 192) : ∀ (m c : Nat) (μ : Mem), c + m = 48 → CP P p μ → RowC P s μ (talS P r c) → ∃ μ', X7_tally_at2 (d + 1) s (nI c) μ μ' ∧ Kq (sTl s) μ μ' ∧ RowC P s μ' (talS P r 48)
  | 0, c, μ, hc, hC, hR => by
    have hc : c = 48 := hc
    subst hc
    exact ⟨μ, X7_tally_at2_ok (tpos (by decide) rfl), Kq.refl, hR⟩
  | m + 1, c, μ, hc, hC, hR => by
    have pw := hC.1
    have hpp := hC.pp
    have hn : ¬ (48 : Int32) ≤ nI c := nI_ge (b := 48) (by omega) (by decide)
    have vc : vp_in (nI c) 48 := vp_inN (by omega) (by decide)
    have cl : (nI c).toNatClampNeg = c := nI_clamp (by omega)
    have wl : talS P r c c < 2 ^ 31 := by rw [talS_ne pw (Or.inl (by omega))]; have := hb.1 c (by omega); omega
    have hw := hR.2.2.1 c (by omega)
    have hl := hC.land (c := c) (by omega)
    have la := lacks_c (d := d) (c := c) (w := talS P r c c) hC (by omega) wl
    have es : talS P r (c + 1) = if onL P c then talC P (talS P r c) c else talS P r c := by rw [talS]
    have nk : ∀ {μ1 : Mem}, Kq (sTl s) μ μ1 → CP P p μ1 := fun q => hC.kq (q.mono fun a k z => by unfold sTl at z; unfold nPl; omega)
    have next : ∀ μ1, Kq (sTl s) μ μ1 → RowC P s μ1 (talS P r (c + 1)) → ∃ μ', X7_tally_at2 (d + 1) s (nI c + 1) μ1 μ' ∧ Kq (sTl s) μ μ' ∧ RowC P s μ' (talS P r 48) := by
      intro μ1 k1 k2
      obtain ⟨μ', g1, g2, g3⟩ := tally_loop hb hs m (c + 1) μ1 (by omega) (nk k1) k2
      rw [nI_succ] at g1
      exact ⟨μ', g1, k1.trans g2, g3⟩
    have fo : ∀ {b : Bool}, (onL P c && b) = true → b = lackA P c (talS P r c c) ∨ b = floodA P c (talS P r c c) → ∃ f, pFld P c = some f ∧ f < 6 ∧ landI P c = nI f := by
      intro b q q2
      have ho : onL P c = true := by cases h : onL P c with | true => rfl | false => rw [h] at q; cases q
      have hb' : b = true := by rw [ho] at q; exact q
      cases hf : pFld P c with
      | none =>
        unfold lackA floodA at q2
        rw [hf, hb'] at q2
        rcases q2 with q2 | q2 <;> cases q2
      | some f =>
        refine ⟨f, rfl, fld6 pw ho f hf, ?_⟩
        unfold landI
        rw [ho, hf]
        rfl
    have fin : ∀ (μ1 : Mem) (s1 : Nat → Nat), Kq (sTl s) μ μ1 → RowC P s μ1 s1 → s1 c = talS P r c c → talS P r (c + 1) = (if onL P c && floodA P c (talS P r c c) then updN s1 (82 + (pFld P c).getD 0) (s1 (82 + (pFld P c).getD 0) + 1) else s1) → ∃ μ', (vp_in (nI c) 48 ∧ (∃ (y6 : Int32) (μ4 : Mem), X3_drowned (d + 1) p (landI P c) (μ1.1 (s + 1) c) μ1 y6 μ4 ∧ ((y6 = 0 → X7_tally_at2 (d + 1) s (nI c + 1) μ4 μ') ∧ (¬ y6 = 0 → vp_in (landI P c) 6 ∧ vp_in (landI P c) 6 ∧ (∀ μ7 : Mem, μ7 = sI μ4 (s + 4) ((landI P c).toNatClampNeg) ((μ4.1 (s + 4) ((landI P c).toNatClampNeg)) + 1) → X7_tally_at2 (d + 1) s (nI c + 1) μ7 μ'))))) ∧ Kq (sTl s) μ μ' ∧ RowC P s μ' (talS P r 48) := by
      intro μ1 s1 k1 hR1 hs1 ht
      have dr := drowned_c (d := d) (c := c) (w := talS P r c c) (nk k1) (by omega) wl
      have w1 := hR1.2.2.1 c (by omega)
      rw [hs1] at w1
      rw [w1]
      cases hf : (onL P c && floodA P c (talS P r c c)) with
      | false =>
        rw [hf] at ht dr
        obtain ⟨μ', g1, g2, g3⟩ := next μ1 k1 (by rw [ht]; exact hR1)
        exact ⟨μ', ⟨vc, _, μ1, dr, tpos rfl g1⟩, g2, g3⟩
      | true =>
        obtain ⟨f, e1, e2, e3⟩ := fo hf (Or.inr rfl)
        rw [hf, e1] at ht
        rw [hf] at dr
        have k2 : Kq (sTl s) μ (sI μ1 (s + 4) f (μ1.1 (s + 4) f + 1)) := k1.trans (Kq.sI (Or.inr rfl))
        obtain ⟨μ', g1, g2, g3⟩ := next _ k2 (by rw [ht]; exact hR1.flood pw e2)
        refine ⟨μ', ⟨vc, _, μ1, dr, tneg (by decide) ?_⟩, g2, g3⟩
        rw [e3, nI_clamp (by omega)]
        exact ⟨vp_inN e2 (by decide), vp_inN e2 (by decide), fun μ7 e => e ▸ g1⟩
    cases hla : (onL P c && lackA P c (talS P r c c)) with
    | false =>
      rw [hla] at la
      obtain ⟨μ', g1, g2, g3⟩ := fin μ (talS P r c) Kq.refl hR rfl (by
        rw [es]
        cases ho : onL P c with
        | false => rfl
        | true =>
          rw [ho] at hla
          have hla : lackA P c (talS P r c c) = false := hla
          unfold talC
          rw [hla]
          rfl)
      refine ⟨μ', X7_tally_at2_ok (tneg hn ⟨vc, vc, ?_⟩), g2, g3⟩
      rw [hC.ptr, cl, hl, hw]
      refine ⟨_, μ, la, tpos rfl ?_⟩
      rw [hC.ptr]
      exact g1
    | true =>
      obtain ⟨f, e1, e2, e3⟩ := fo hla (Or.inl rfl)
      rw [hla] at la
      have ho : onL P c = true := by cases h : onL P c with | true => rfl | false => rw [h] at hla; cases hla
      obtain ⟨m1, hm1⟩ : ∃ q, q = sI μ (s + 3) f (μ.1 (s + 3) f + 1) := ⟨_, rfl⟩
      have k1 : Kq (sTl s) μ m1 := by rw [hm1]; exact Kq.sI (Or.inl rfl)
      obtain ⟨μ', g1, g2, g3⟩ := fin m1 (updN (talS P r c) (76 + f) (talS P r c (76 + f) + 1)) k1 (by rw [hm1]; exact hR.lack pw e2) (updN_ne (by omega)) (by
        rw [es, ho]
        rw [ho] at hla
        have hla : lackA P c (talS P r c c) = true := hla
        unfold talC
        rw [hla, e1]
        rfl)
      refine ⟨μ', X7_tally_at2_ok (tneg hn ⟨vc, vc, ?_⟩), g2, g3⟩
      rw [hC.ptr, cl, hl, hw]
      refine ⟨_, μ, la, tneg (by decide) ?_⟩
      have v6 : vp_in (landI P c) 6 := by rw [e3]; exact vp_inN e2 (by decide)
      refine ⟨v6, v6, ?_⟩
      have cf : (landI P c).toNatClampNeg = f := by rw [e3]; exact nI_clamp (by omega)
      rw [cf]
      rintro μ8 e8
      have e8 : μ8 = m1 := e8.trans hm1.symm
      subst e8
      rw [(nk k1).ptr]
      rw [cf] at g1
      exact g1
theorem tally_c {μ : Mem} {r : Nat → Nat} (hb : SB r) (hs : 13 ≤ s ∧ s + 4 < 192) (hC : CP P p μ) (hR : RowC P s μ r) : ∃ μ', X7_tally (d + 2) s μ μ' ∧ Kq (sTl s) μ μ' ∧ RowC P s μ' (talS P r 48) := by
  obtain ⟨μ', g1, g2⟩ := tally_loop (d := d) (p := p) hb hs 48 0 μ (by omega) hC hR
  exact ⟨μ', X7_tally_ok g1, g2⟩
end Days
