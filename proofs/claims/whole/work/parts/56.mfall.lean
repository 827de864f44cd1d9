/-! ===== the model: a piece falls, days go ===== -/
def hits (P : Pl) (x y : Nat) : Bool := decide (x < pW P) && decide (y < pH P)
def rain (P : Pl) (r : Nat → Nat) (x y t : Nat) : Nat → Nat := if hits P x y then updN (updN r 88 (r 88 - t)) (8 * y + x) (min 999 (r (8 * y + x) + t)) else updN r 88 (r 88 - t)
/-- the first k threads of a piece, fallen: the row, what was woven, torn -/
def fallS (P : Pl) (l w x y pick : Nat) (r : Nat → Nat) : Nat → (Nat → Nat) × Nat × Bool
  | 0 => (r, 0, false)
  | k + 1 => if (fallS P l w x y pick r k).2.2 then fallS P l w x y pick r k else if (fallS P l w x y pick r k).1 88 < thr P l (k % w) (pick + k / w) then ((fallS P l w x y pick r k).1, (fallS P l w x y pick r k).2.1, true) else
      (rain P (fallS P l w x y pick r k).1 (x + k % w) (y + k / w) (thr P l (k % w) (pick + k / w)), (fallS P l w x y pick r k).2.1 + thr P l (k % w) (pick + k / w), false)
def fallE (l h pick : Nat) (s : (Nat → Nat) × Nat × Bool) : Nat → Nat :=
  let r2 := updN (updN s.1 (48 + l) (pick + h)) (68 + l) (updN s.1 (48 + l) (pick + h) (68 + l) + s.2.1)
  let r3 := if s.2.2 then updN r2 (72 + l) (r2 (72 + l) + 1) else r2
  updN r3 90 (r3 90 + s.2.1)
def fallR (P : Pl) (l w h x y : Nat) (r : Nat → Nat) : Nat → Nat := fallE l h (r (48 + l)) (fallS P l w x y (r (48 + l)) r (w * h))
def fallW (P : Pl) (l w h x y : Nat) (r : Nat → Nat) : Nat := (fallS P l w x y (r (48 + l)) r (w * h)).2.1
def SB (r : Nat → Nat) : Prop := (∀ c, c < 48 → r c ≤ 999) ∧ r 88 ≤ 9999
theorem rain_SB {P : Pl} {r : Nat → Nat} {x y t : Nat} (h : SB r) (hx : pW P ≤ 8) (hy : pH P ≤ 6) : SB (rain P r x y t) := by
  have h1 : SB (updN r 88 (r 88 - t)) := ⟨fun c hc => by rw [updN_ne (by omega)]; exact h.1 c hc, by rw [updN_same]; have := h.2; omega⟩
  unfold rain
  split
  · rename_i hh
    have : x < pW P ∧ y < pH P := by simpa [hits] using hh
    refine ⟨fun c hc => ?_, ?_⟩
    · by_cases e : c = 8 * y + x
      · rw [e, updN_same]
        omega
      · rw [updN_ne e]
        exact h1.1 c hc
    · rw [updN_ne (by omega)]
      exact h1.2
  · exact h1
theorem fallS_SB {P : Pl} {l w x y pick : Nat} {r : Nat → Nat} (h : SB r) (hx : pW P ≤ 8) (hy : pH P ≤ 6) : ∀ k, SB (fallS P l w x y pick r k).1
  | 0 => h
  | k + 1 => by
    unfold fallS
    split
    · exact fallS_SB h hx hy k
    · split
      · exact fallS_SB h hx hy k
      · exact rain_SB (fallS_SB h hx hy k) hx hy
theorem fallS_torn {P : Pl} {l w x y pick k : Nat} {r : Nat → Nat} (h : (fallS P l w x y pick r k).2.2 = true) : ∀ m, fallS P l w x y pick r (k + m) = fallS P l w x y pick r k
  | 0 => rfl
  | m + 1 => by
    have ih := fallS_torn h m
    show fallS P l w x y pick r (k + m + 1) = _
    rw [fallS, ih, if_pos h]
def fR : Fr := fun a k => a == 34 || (a == 31 || a == 32 || (a == 0 && k == 49))
theorem fV_R {μ μ' : Mem} (h : Kp fVr μ μ') : Kp fR μ μ' := h.mono fun a k q => by
  unfold fR at q
  exact (Bool.or_eq_false_iff.mp q).2
theorem fR_M {μ μ' : Mem} (h : Kp fR μ μ') : Kp fM μ μ' := h.mono fun a k q => by
  unfold fM at q
  unfold fR
  by_cases h0 : a = 0
  · subst h0
    rw [if_pos rfl] at q
    have : k = 18 := by simpa using q
    subst this
    rfl
  · rw [if_neg h0] at q
    have h1 : (a == 31) = false := by rw [beq_eq_false_iff_ne]; rintro rfl; cases q
    have h2 : (a == 32) = false := by rw [beq_eq_false_iff_ne]; rintro rfl; cases q
    have h4 : (a == 34) = false := by rw [beq_eq_false_iff_ne]; rintro rfl; cases q
    have h3 : (a == 0) = false := by rw [beq_eq_false_iff_ne]; exact h0
    rw [h1, h2, h3, h4]
    rfl
section Falls
variable {P : Pl} {d : Nat}
theorem RowM.sI34 {μ : Mem} {k v : Nat} {x : Int32} {r : Nat → Nat} (h : RowM μ 34 r) (hx : x = nI v) : RowM (sI μ 34 k x) 34 (updN r k v) := by
  rw [hx]
  exact h.upd
theorem RowM.add {μ : Mem} {k v : Nat} {r : Nat → Nat} (h : RowM μ 34 r) (hk : k < 92) : RowM (sI μ 34 k (μ.1 34 k + nI v)) 34 (updN r k (r k + v)) := h.sI34 (by rw [h k hk, nJ_add])
/-- the end of falls -/
theorem fall_end {μ : Mem} {l h pick : Nat} {s : (Nat → Nat) × Nat × Bool} (hl : l < 4) (hr : RowM μ 34 s.1) : ∃ μ', Kp fR μ μ' ∧ RowM μ' 34 (fallE l h pick s) ∧ ∀ x, x = nI s.2.1 →
    (vp_in (48 + nI l) 92 ∧ (∀ μ1 : Mem, μ1 = sI μ 34 ((48 + nI l).toNatClampNeg) (nI pick + nI h) → vp_in (68 + nI l) 92 ∧ vp_in (68 + nI l) 92 ∧ (∀ μ2 : Mem, μ2 = sI μ1 34 ((68 + nI l).toNatClampNeg) ((μ1.1 34 ((68 + nI l).toNatClampNeg)) + nI s.2.1) → ((bI s.2.2 = 0 → (∀ μ3 : Mem, μ3 = sI μ2 34 90 ((μ2.1 34 90) + nI s.2.1) → (x = nI s.2.1 ∧ μ' = μ3))) ∧ (¬ bI s.2.2 = 0 → vp_in (72 + nI l) 92 ∧ vp_in (72 + nI l) 92 ∧ (∀ μ4 : Mem, μ4 = sI μ2 34 ((72 + nI l).toNatClampNeg) ((μ2.1 34 ((72 + nI l).toNatClampNeg)) + 1) → (∀ μ5 : Mem, μ5 = sI μ4 34 90 ((μ4.1 34 90) + nI s.2.1) → (x = nI s.2.1 ∧ μ' = μ5)))))))) := by
  have e48 : (48 : Int32) + nI l = nI (48 + l) := nJ_add 48 l
  have e68 : (68 : Int32) + nI l = nI (68 + l) := nJ_add 68 l
  have e72 : (72 : Int32) + nI l = nI (72 + l) := nJ_add 72 l
  have c48 : (nI (48 + l)).toNatClampNeg = 48 + l := nI_clamp (by omega)
  have c68 : (nI (68 + l)).toNatClampNeg = 68 + l := nI_clamp (by omega)
  have c72 : (nI (72 + l)).toNatClampNeg = 72 + l := nI_clamp (by omega)
  rw [e48, e68, e72, c48, c68, c72, nJ_add]
  have v1 : vp_in (nI (48 + l)) 92 := vp_inN (by omega) (by decide)
  have v2 : vp_in (nI (68 + l)) 92 := vp_inN (by omega) (by decide)
  have v3 : vp_in (nI (72 + l)) 92 := vp_inN (by omega) (by decide)
  have r1 := hr.upd (k := 48 + l) (v := pick + h)
  obtain ⟨m1, hm1⟩ : ∃ m, m = sI μ 34 (48 + l) (nI (pick + h)) := ⟨_, rfl⟩
  have k1 : Kp fR μ m1 := by rw [hm1]; exact Kp.sI rfl
  rw [← hm1] at r1
  obtain ⟨m2, hm2⟩ : ∃ m, m = sI m1 34 (68 + l) (m1.1 34 (68 + l) + nI s.2.1) := ⟨_, rfl⟩
  have k2 : Kp fR μ m2 := k1.trans (by rw [hm2]; exact Kp.sI rfl)
  have r2 := r1.add (k := 68 + l) (v := s.2.1) (by omega)
  rw [← hm2] at r2
  cases ht : s.2.2 with
  | false =>
    have r3 := r2.add (k := 90) (v := s.2.1) (by omega)
    refine ⟨_, k2.trans (Kp.sI (a := 34) (k := 90) (x := m2.1 34 90 + nI s.2.1) rfl), ?_, fun x hx => ⟨v1, ?_⟩⟩
    · unfold fallE
      rw [ht]
      exact r3
    · rintro μ1 h1
      rw [← hm1] at h1
      subst h1
      refine ⟨v2, v2, ?_⟩
      rintro μ2 h2
      rw [← hm2] at h2
      subst h2
      refine tpos rfl ?_
      rintro μ3 rfl
      exact ⟨hx, rfl⟩
  | true =>
    have r2b := r2.add (k := 72 + l) (v := 1) (by omega)
    obtain ⟨m3, hm3⟩ : ∃ m, m = sI m2 34 (72 + l) (m2.1 34 (72 + l) + nI 1) := ⟨_, rfl⟩
    have k3 : Kp fR μ m3 := k2.trans (by rw [hm3]; exact Kp.sI rfl)
    rw [← hm3] at r2b
    have r3 := r2b.add (k := 90) (v := s.2.1) (by omega)
    refine ⟨_, k3.trans (Kp.sI (a := 34) (k := 90) (x := m3.1 34 90 + nI s.2.1) rfl), ?_, fun x hx => ⟨v1, ?_⟩⟩
    · unfold fallE
      rw [ht]
      exact r3
    · rintro μ1 h1
      rw [← hm1] at h1
      subst h1
      refine ⟨v2, v2, ?_⟩
      rintro μ2 h2
      rw [← hm2] at h2
      subst h2
      refine tneg (by decide) ⟨v3, v3, ?_⟩
      rintro μ4 h4
      have h4 : μ4 = m3 := h4.trans hm3.symm
      subst h4
      rintro μ5 rfl
      exact ⟨hx, rfl⟩
theorem falls_loop {l w h x y pick : Nat} {r : Nat → Nat} (hl : l < pL P) (hw : 1 ≤ w) (hw8 : w ≤ 8) (hh : h ≤ 6) (hx : x < 1000) (hy : y < 1000) (hp : pick < 1000000) (hb : SB r) : ∀ (m k : Nat) (μ : Mem), k + m = w * h → MP P μ → RowM μ 34 (fallS P l w x y pick r k).1 →
    ∃ μ', X10_falls_at20 (d + 2) (nI l) (nI w) (nI h) (nI x) (nI y) (nI (fallS P l w x y pick r k).2.1) (nI pick) (bI (fallS P l w x y pick r k).2.2) (nI k) μ (nI (fallS P l w x y pick r (w * h)).2.1) μ' ∧ Kp fR μ μ' ∧ RowM μ' 34 (fallE l h pick (fallS P l w x y pick r (w * h)))
  | 0, k, μ, hk, hM, hr => by
    have hk : k = w * h := hk
    subst hk
    have h4 := hM.1.2.2.2.1
    obtain ⟨μ', h1, h2, h3⟩ := fall_end (h := h) (pick := pick) (show l < 4 by omega) hr
    refine ⟨μ', X10_falls_at20_ok ?_, h1, h2⟩
    rw [nI_mul]
    exact tpos (nI_le (Nat.le_refl _) (by have : w * h ≤ 8 * 6 := Nat.mul_le_mul hw8 hh; omega)) (h3 _ rfl)
  | m + 1, k, μ, hk, hM, hr => by
    have hwh : w * h ≤ 8 * 6 := Nat.mul_le_mul hw8 hh
    have h4 := hM.1.2.2.2.1
    have pw := hM.1
    have hn : ¬ nI (w * h) ≤ nI k := nI_ge (by omega) (by omega)
    cases ht : (fallS P l w x y pick r k).2.2 with
    | true =>
      have e := fallS_torn ht (m + 1)
      rw [hk] at e
      rw [← ht, e]
      obtain ⟨μ', h1, h2, h3⟩ := fall_end (h := h) (pick := pick) (show l < 4 by omega) hr
      refine ⟨μ', X10_falls_at20_ok ?_, h1, h2⟩
      rw [nI_mul]
      exact tneg hn (tne (by rw [ht]; decide) (h3 _ rfl))
    | false =>
      have hkw : k / w < 1000 := Nat.lt_of_le_of_lt (Nat.div_le_self k w) (by omega)
      have hkm : k % w < w := Nat.mod_lt _ hw
      have hw0 : ¬ nI w = 0 := nI_ne0 hw (by omega)
      obtain ⟨μ1, t1, t2⟩ := threadOf_m (d := d) (l := l) (warp := k % w) (pick := pick + k / w) hl (by omega) hM
      have hM1 := hM.kp (fV_M t2)
      have hr1 : RowM μ1 34 (fallS P l w x y pick r k).1 := hr.kp t2 fun _ => rfl
      have sb := fallS_SB (l := l) (w := w) (x := x) (y := y) (pick := pick) hb pw.1 pw.2.1 k
      have tl := thr_le (P := P) (l := l) (warp := k % w) (pick := pick + k / w)
      have es : fallS P l w x y pick r (k + 1) = if (fallS P l w x y pick r k).1 88 < thr P l (k % w) (pick + k / w) then ((fallS P l w x y pick r k).1, (fallS P l w x y pick r k).2.1, true) else
          (rain P (fallS P l w x y pick r k).1 (x + k % w) (y + k / w) (thr P l (k % w) (pick + k / w)), (fallS P l w x y pick r k).2.1 + thr P l (k % w) (pick + k / w), false) := by
        rw [fallS, ht]
        rfl
      have go : ∀ (μ2 : Mem) (wv : Nat) (tn : Bool), (fallS P l w x y pick r (k + 1)).2.1 = wv → (fallS P l w x y pick r (k + 1)).2.2 = tn → MP P μ2 → RowM μ2 34 (fallS P l w x y pick r (k + 1)).1 → Kp fR μ μ2 → ∃ μ', X10_falls_at20 (d + 2) (nI l) (nI w) (nI h) (nI x) (nI y) (nI wv) (nI pick) (bI tn) (nI k + 1) μ2 (nI (fallS P l w x y pick r (w * h)).2.1) μ' ∧ Kp fR μ μ' ∧ RowM μ' 34 (fallE l h pick (fallS P l w x y pick r (w * h))) := by
        intro μ2 wv tn q1 q2 q3 q4 q5
        obtain ⟨μ', g1, g2, g3⟩ := falls_loop hl hw hw8 hh hx hy hp hb m (k + 1) μ2 (by omega) q3 q4
        rw [q1, q2, nI_succ] at g1
        exact ⟨μ', g1, q5.trans g2, g3⟩
      have e88 : μ1.1 34 88 = nI ((fallS P l w x y pick r k).1 88) := hr1 88 (by decide)
      have enter : ∀ X μ', _ → X10_falls_at20 (d + 2) (nI l) (nI w) (nI h) (nI x) (nI y) (nI (fallS P l w x y pick r k).2.1) (nI pick) (bI false) (nI k) μ X μ' := fun X μ' z => X10_falls_at20_ok (tneg (by rw [nI_mul]; exact hn) (teq rfl ⟨hw0, hw0, nI (thr P l (k % w) (pick + k / w)), μ1, by rw [nI_rem (by omega) (by omega), nI_div (by omega) (by omega), nJ_add]; exact t1, z⟩))
      by_cases hlt : (fallS P l w x y pick r k).1 88 < thr P l (k % w) (pick + k / w)
      · rw [if_pos hlt] at es
        obtain ⟨μ', g1, g2, g3⟩ := go μ1 (fallS P l w x y pick r k).2.1 true (by rw [es]) (by rw [es]) hM1 (by rw [es]; exact hr1) (fV_R t2)
        refine ⟨μ', enter _ _ ?_, g2, g3⟩
        rw [e88]
        exact tneg (nI_ge hlt (by omega)) (tneg (by decide) g1)
      · rw [if_neg hlt] at es
        have s88 := sb.2
        have r2 : RowM (sI μ1 34 88 (μ1.1 34 88 - nI (thr P l (k % w) (pick + k / w)))) 34 (updN (fallS P l w x y pick r k).1 88 ((fallS P l w x y pick r k).1 88 - thr P l (k % w) (pick + k / w))) := hr1.sI34 (by rw [e88, nI_sub (by omega)])
        have kp2 : Kp fR μ (sI μ1 34 88 (μ1.1 34 88 - nI (thr P l (k % w) (pick + k / w)))) := (fV_R t2).trans (Kp.sI rfl)
        have hM2 := hM.kp (fR_M kp2)
        have ex : nI x + (nI k - nI k / nI w * nI w) = nI (x + k % w) := by rw [nI_rem (by omega) (by omega), nJ_add]
        have ey : nI y + nI k / nI w = nI (y + k / w) := by rw [nI_div (by omega) (by omega), nJ_add]
        have ic := isCell_m (d := d + 1) (x := nI (x + k % w)) (y := nI (y + k / w)) hM2
        rw [inN_nI (by omega), inN_nI (by omega)] at ic
        have ec : (8 : Int32) * nI (y + k / w) + nI (x + k % w) = nI (8 * (y + k / w) + (x + k % w)) := by rw [show (8 : Int32) = nI 8 from rfl, nI_mul, nJ_add]
        cases hc : hits P (x + k % w) (y + k / w) with
        | false =>
          have er : rain P (fallS P l w x y pick r k).1 (x + k % w) (y + k / w) (thr P l (k % w) (pick + k / w)) = updN (fallS P l w x y pick r k).1 88 ((fallS P l w x y pick r k).1 88 - thr P l (k % w) (pick + k / w)) := by
            unfold rain
            rw [hc]
            rfl
          obtain ⟨μ', g1, g2, g3⟩ := go _ ((fallS P l w x y pick r k).2.1 + thr P l (k % w) (pick + k / w)) false (by rw [es]) (by rw [es]) hM2 (by rw [es, er]; exact r2) kp2
          refine ⟨μ', enter _ _ ?_, g2, g3⟩
          refine tpos (by rw [e88]; exact nI_le (by omega) (by omega)) (tpos rfl ?_)
          rintro μ14 rfl
          refine ⟨hw0, hw0, _, _, by rw [ex, ey]; exact ic, teq (by show bI (hits P (x + k % w) (y + k / w)) = 0; rw [hc]; rfl) ?_⟩
          rw [nJ_add]
          exact g1
        | true =>
          have hxy : x + k % w < pW P ∧ y + k / w < pH P := by simpa [hits] using hc
          have hlt48 : 8 * (y + k / w) + (x + k % w) < 48 := by have := pw.1; have := pw.2.1; omega
          have er : rain P (fallS P l w x y pick r k).1 (x + k % w) (y + k / w) (thr P l (k % w) (pick + k / w)) = updN (updN (fallS P l w x y pick r k).1 88 ((fallS P l w x y pick r k).1 88 - thr P l (k % w) (pick + k / w))) (8 * (y + k / w) + (x + k % w)) (min 999 ((fallS P l w x y pick r k).1 (8 * (y + k / w) + (x + k % w)) + thr P l (k % w) (pick + k / w))) := by
            unfold rain
            rw [hc]
            rfl
          have rc := r2 (8 * (y + k / w) + (x + k % w)) (by omega)
          rw [updN_ne (by omega)] at rc
          have wb := sb.1 _ hlt48
          have r3 : ∀ v : Int32, v = nI (min 999 ((fallS P l w x y pick r k).1 (8 * (y + k / w) + (x + k % w)) + thr P l (k % w) (pick + k / w))) → ∃ μ', X10_falls_at20 (d + 2) (nI l) (nI w) (nI h) (nI x) (nI y) (nI ((fallS P l w x y pick r k).2.1 + thr P l (k % w) (pick + k / w))) (nI pick) (bI false) (nI k + 1) (sI (sI μ1 34 88 (μ1.1 34 88 - nI (thr P l (k % w) (pick + k / w)))) 34 (8 * (y + k / w) + (x + k % w)) v) (nI (fallS P l w x y pick r (w * h)).2.1) μ' ∧ Kp fR μ μ' ∧ RowM μ' 34 (fallE l h pick (fallS P l w x y pick r (w * h))) := by
            intro v hv
            have kp3 : Kp fR μ (sI (sI μ1 34 88 (μ1.1 34 88 - nI (thr P l (k % w) (pick + k / w)))) 34 (8 * (y + k / w) + (x + k % w)) v) := kp2.trans (Kp.sI rfl)
            exact go _ _ false (by rw [es]) (by rw [es]) (hM.kp (fR_M kp3)) (by rw [es, er]; exact r2.sI34 hv) kp3
          have vc : vp_in (nI (8 * (y + k / w) + (x + k % w))) 92 := vp_inN (by omega) (by decide)
          have cc : (nI (8 * (y + k / w) + (x + k % w))).toNatClampNeg = 8 * (y + k / w) + (x + k % w) := nI_clamp (by omega)
          by_cases h9 : (fallS P l w x y pick r k).1 (8 * (y + k / w) + (x + k % w)) + thr P l (k % w) (pick + k / w) ≤ 999
          · obtain ⟨μ', g1, g2, g3⟩ := r3 _ (by rw [Nat.min_eq_right h9])
            refine ⟨μ', enter _ _ ?_, g2, g3⟩
            refine tpos (by rw [e88]; exact nI_le (by omega) (by omega)) (tpos rfl ?_)
            rintro μ14 rfl
            refine ⟨hw0, hw0, _, _, by rw [ex, ey]; exact ic, tne (by show bI (hits P (x + k % w) (y + k / w)) ≠ 0; rw [hc]; decide) ?_⟩
            rw [ex, ey, ec, cc, rc, nJ_add, nJ_add]
            refine ⟨vc, tpos (nI_le (b := 999) h9 (by decide)) ⟨vc, ?_⟩⟩
            rintro μ18 rfl
            exact g1
          · obtain ⟨μ', g1, g2, g3⟩ := r3 999 (by rw [Nat.min_eq_left (by omega)]; rfl)
            refine ⟨μ', enter _ _ ?_, g2, g3⟩
            refine tpos (by rw [e88]; exact nI_le (by omega) (by omega)) (tpos rfl ?_)
            rintro μ14 rfl
            refine ⟨hw0, hw0, _, _, by rw [ex, ey]; exact ic, tne (by show bI (hits P (x + k % w) (y + k / w)) ≠ 0; rw [hc]; decide) ?_⟩
            rw [ex, ey, ec, cc, rc, nJ_add, nJ_add]
            refine ⟨vc, tneg (nI_ge (a := 999) (by omega) (by omega)) ⟨vc, ?_⟩⟩
            rintro μ18 rfl
            exact g1
theorem falls_m {μ : Mem} {l w h x y : Nat} {r : Nat → Nat} (hl : l < pL P) (hw : 1 ≤ w) (hw8 : w ≤ 8) (hh : h ≤ 6) (hx : x < 1000) (hy : y < 1000) (hp : r (48 + l) < 1000000) (hb : SB r) (hM : MP P μ) (hr : RowM μ 34 r) :
    ∃ μ', X10_falls (d + 3) (nI l) (nI w) (nI h) (nI x) (nI y) μ (nI (fallW P l w h x y r)) μ' ∧ Kp fR μ μ' ∧ RowM μ' 34 (fallR P l w h x y r) := by
  have h4 := hM.1.2.2.2.1
  obtain ⟨μ', h1, h2, h3⟩ := falls_loop (d := d) hl hw hw8 hh hx hy hp hb (w * h) 0 μ (by omega) hM hr
  refine ⟨μ', X10_falls_ok ?_, h2, h3⟩
  have e48 : (48 : Int32) + nI l = nI (48 + l) := nJ_add 48 l
  rw [e48, nI_clamp (by omega), hr (48 + l) (by omega)]
  exact ⟨vp_inN (by omega) (by decide), h1⟩
end Falls
