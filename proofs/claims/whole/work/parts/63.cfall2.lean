/-! ===== the class: a piece falls, days pass ===== -/
section Fall
variable {P : Pl} {p s : Nat} {d : Nat} {l w h x y : Nat} {r : Nat → Nat}
theorem FlM.wat {μ : Mem} {k k' : Nat} (hF : FlM P s l w h x y r μ k) (hh : ∀ c, c < 48 → watF P r w x y (amA P l w (r (48 + l)) (r 88)) k c = watF P r w x y (amA P l w (r (48 + l)) (r 88)) k' c) : FlM P s l w h x y r μ k' := ⟨hF.1, hF.2.1, fun c hc => by rw [← hh c hc]; exact hF.2.2.1 c hc, hF.2.2.2⟩
theorem mul_lt_c {a b w : Nat} (h : a * w < b * w) : a < b := Nat.lt_of_mul_lt_mul_right h
theorem letFall_in {i : Nat} (hl : l < pL P) (hw : 1 ≤ w) (hw8 : w ≤ 8) (hh : h ≤ 6) (hi : i < h) (hx : x < 1000) (hy : y < 1000) (hb : SB r) (hs : 13 ≤ s ∧ s + 4 < 192) (hyi : y + i < pH P)
    (hk : ∀ μ1, CP P p μ1 → Kc P μ1 → FlM P s l w h x y r μ1 ((i + 1) * w) → ∃ μ', X7_letFall_at21 (d + 1) s (nI l) (nI w) (nI h) (nI x) (nI y) (nI (i + 1)) μ1 (nI (fallW P l w h x y r)) μ' ∧ Kq (sFl p s) μ1 μ' ∧ Kc P μ' ∧ RowC P s μ' (fallR P l w h x y r)) :
    ∀ (m j : Nat) (μ : Mem), j + m = w → CP P p μ → Kc P μ → FlM P s l w h x y r μ (i * w + j) → ∃ μ', X7_letFall_at46 (d + 1) s (nI l) (nI w) (nI h) (nI x) (nI y) (nI i) (nI j) μ (nI (fallW P l w h x y r)) μ' ∧ Kq (sFl p s) μ μ' ∧ Kc P μ' ∧ RowC P s μ' (fallR P l w h x y r)
  | 0, j, μ, hj, hC, hK, hF => by
    have hj : j = w := hj
    subst hj
    rw [show i * j + j = (i + 1) * j by rw [Nat.add_mul, Nat.one_mul]] at hF
    obtain ⟨μ', g1, g2⟩ := hk μ hC hK hF
    rw [nI_succ i] at g1
    exact ⟨μ', X7_letFall_at46_ok (tpos (nI_le (Nat.le_refl _) (by omega)) g1), g2⟩
  | m + 1, j, μ, hj, hC, hK, hF => by
    have pw := hC.1
    have hpp := hC.pp
    have p8 := pw.1
    have p6 := pw.2.1
    have hn : ¬ nI w ≤ nI j := nI_ge (by omega) (by omega)
    by_cases hxw : pW P ≤ x + j
    · obtain ⟨μ', g1, g2⟩ := hk μ hC hK (hF.wat fun c hc => watF_skip (by rw [Nat.add_mul, Nat.one_mul]; omega) (by
        intro a1 a2 a3 a4 a5 a6
        have ho : c % 8 < pW P ∧ c / 8 < pH P := by simpa [onL] using a1
        have q1 : c / 8 - y < i + 1 := mul_lt_c (w := w) (by omega)
        have q2 : i < c / 8 - y + 1 := mul_lt_c (w := w) (by rw [Nat.add_mul (c / 8 - y), Nat.one_mul]; omega)
        have q3 : c / 8 - y = i := by omega
        rw [q3] at a5
        omega))
      rw [nI_succ i] at g1
      refine ⟨μ', X7_letFall_at46_ok (tneg hn ?_), g2⟩
      rw [hC.ptr, hC.num.1, nJ_add]
      exact tpos (nI_le hxw (by omega)) g1
    · have hkk : i * w + j < 48 := by
        have : (i + 1) * w ≤ 6 * 8 := Nat.mul_le_mul (by omega) (by omega)
        rw [Nat.add_mul, Nat.one_mul] at this
        omega
      have hwh : i * w + j < w * h := by
        have : (i + 1) * w ≤ h * w := Nat.mul_le_mul (by omega) (Nat.le_refl _)
        rw [Nat.add_mul, Nat.one_mul] at this
        rw [Nat.mul_comm w h]
        omega
      obtain ⟨d1, d2⟩ := dm (show j < w by omega) (rfl : i * w + j = i * w + j)
      obtain ⟨f0, f1, f2, f3, f4, f5, f6⟩ := hF
      have hc48 : 8 * (y + i) + (x + j) < 48 := by omega
      have ec : (((nI y + nI i) * 8 + nI x) + nI j) = nI (8 * (y + i) + (x + j)) := by
        rw [show (8 : Int32) = nI 8 from rfl, nJ_add, nI_mul, nJ_add, nJ_add]
        congr 1
        omega
      have ea : nI i * nI w + nI j = nI (i * w + j) := by rw [nI_mul, nJ_add]
      have cc : (nI (8 * (y + i) + (x + j))).toNatClampNeg = 8 * (y + i) + (x + j) := nI_clamp (by omega)
      have ca : (nI (i * w + j)).toNatClampNeg = i * w + j := nI_clamp (by omega)
      have wb := hb.1 _ hc48
      have w1 := f2 _ hc48
      rw [watF_now (by omega) (by omega)] at w1
      have am9 : amA P l w (r (48 + l)) (r 88) (i * w + j) ≤ 9 := by
        unfold amA
        split
        · omega
        · exact thr_le
      obtain ⟨m1, hm1⟩ : ∃ q, q = sI μ (s + 1) (8 * (y + i) + (x + j)) (nI (min 999 (r (8 * (y + i) + (x + j)) + amA P l w (r (48 + l)) (r 88) (i * w + j)))) := ⟨_, rfl⟩
      have k1 : Kq (sFl p s) μ m1 := by rw [hm1]; exact Kq.sI (Or.inr (Or.inr (Or.inl rfl)))
      have e : ∀ a, a ≠ s + 1 → m1.1 a = μ.1 a := fun a n => by rw [hm1, sI_n n]
      obtain ⟨μ', g1, g2, g3⟩ := letFall_in hl hw hw8 hh hi hx hy hb hs hyi hk m (j + 1) m1 (by omega) (hC.kq (sFl_n hpp hs k1)) (hK.of (e 10 (by omega)) (e 11 (by omega))) ⟨by rw [e s (by omega)]; exact f0, by rw [e s (by omega)]; exact f1, fun c hc => by
          rw [← Nat.add_assoc, watF_s hw hc p8, d1, d2]
          by_cases eq : c = 8 * (y + i) + (x + j)
          · rw [if_pos ⟨by unfold hits; rw [decide_eq_true (by omega), decide_eq_true (by omega)]; rfl, eq⟩, hm1, eq, sI_1]
          · rw [if_neg (fun z => eq z.2), hm1, sI_k eq]
            exact f2 c hc, by rw [e _ (by omega)]; exact f3, by rw [e _ (by omega)]; exact f4, by rw [e _ (by omega), e _ (by omega)]; exact f5, by unfold WvM; rw [e 9 (by omega), e 12 (by omega)]; exact f6⟩
      rw [nI_succ j] at g1
      refine ⟨μ', X7_letFall_at46_ok (tneg hn ?_), k1.trans g2, g3⟩
      rw [hC.ptr, hC.num.1, ec, ea, cc, ca, w1, f6.2.2 _ hwh]
      refine tneg (by rw [nJ_add]; exact nI_ge (by omega) (by omega)) ⟨vp_inN hc48 (by decide), vp_inN hkk (by decide), _, μ, wetter_c (by omega), vp_inN hc48 (by decide), ?_⟩
      rintro μ4 e4
      rw [← hm1] at e4
      rw [e4]
      exact g1
theorem letFall_out (hl : l < pL P) (hw : 1 ≤ w) (hw8 : w ≤ 8) (hh : h ≤ 6) (hx : x < 1000) (hy : y < 1000) (hb : SB r) (hs : 13 ≤ s ∧ s + 4 < 192) :
    ∀ (m i : Nat) (μ : Mem), i + m = h → CP P p μ → Kc P μ → FlM P s l w h x y r μ (i * w) → ∃ μ', X7_letFall_at21 (d + 1) s (nI l) (nI w) (nI h) (nI x) (nI y) (nI i) μ (nI (fallW P l w h x y r)) μ' ∧ Kq (sFl p s) μ μ' ∧ Kc P μ' ∧ RowC P s μ' (fallR P l w h x y r)
  | 0, i, μ, hi, hC, hK, hF => by
    have hi : i = h := hi
    subst hi
    rw [Nat.mul_comm] at hF
    obtain ⟨μ', g1, g2⟩ := letFall_end (d := d) (p := p) hl hw hb hs hC hK hF
    exact ⟨μ', X7_letFall_at21_ok (tpos (nI_le (Nat.le_refl _) (by omega)) g1), g2⟩
  | m + 1, i, μ, hi, hC, hK, hF => by
    have pw := hC.1
    have p6 := pw.2.1
    have hn : ¬ nI h ≤ nI i := nI_ge (by omega) (by omega)
    by_cases hyi : pH P ≤ y + i
    · obtain ⟨μ', g1, g2⟩ := letFall_end (d := d) (p := p) hl hw hb hs hC hK (hF.wat (k' := w * h) fun c hc => watF_skip (by rw [Nat.mul_comm w h]; exact Nat.mul_le_mul (by omega) (Nat.le_refl _)) (by
        intro a1 a2 a3 a4 a5 a6
        have ho : c % 8 < pW P ∧ c / 8 < pH P := by simpa [onL] using a1
        have q2 : i < c / 8 - y + 1 := mul_lt_c (w := w) (by rw [Nat.add_mul (c / 8 - y), Nat.one_mul]; omega)
        omega))
      refine ⟨μ', X7_letFall_at21_ok (tneg hn ?_), g2⟩
      rw [hC.ptr, hC.num.2.1, nJ_add]
      exact tpos (nI_le hyi (by omega)) g1
    · obtain ⟨μ', g1, g2⟩ := letFall_in (d := d) hl hw hw8 hh (show i < h by omega) hx hy hb hs (by omega) (fun μ1 c1 c2 c3 => letFall_out hl hw hw8 hh hx hy hb hs m (i + 1) μ1 (by omega) c1 c2 c3) w 0 μ (by omega) hC hK hF
      refine ⟨μ', X7_letFall_at21_ok (tneg hn ?_), g2⟩
      rw [hC.ptr, hC.num.2.1, nJ_add]
      exact tneg (nI_ge (by omega) (by omega)) g1
theorem letFall_c {μ : Mem} (hl : l < pL P) (hw : 1 ≤ w) (hwl : w ≤ pWi P l) (hh : h ≤ 6) (hx : x < 1000) (hy : y < 1000) (hp : r (48 + l) < 1000000) (hb : SB r) (hs : 13 ≤ s ∧ s + 4 < 192) (hC : CP P p μ) (hK : Kc P μ) (hR : RowC P s μ r) :
    ∃ μ', X7_letFall (d + 4) s (nI l) (nI w) (nI h) (nI x) (nI y) μ (nI (fallW P l w h x y r)) μ' ∧ Kq (sFl p s) μ μ' ∧ Kc P μ' ∧ RowC P s μ' (fallR P l w h x y r) := by
  have pw := hC.1
  have hpp := hC.pp
  have h4 := pw.2.2.2.1
  have w8 := (pw.2.2.2.2.2.2.2.2.2.1 l hl).2.1
  obtain ⟨m1, a1, a2, a3, a4⟩ := weave_c (d := d) (pick := r (48 + l)) (st := r 88) (h := h) hl hw hwl hh hb.2 (by omega) hC hK
  have k1 : Kq (sFl p s) μ m1 := a2.mono fun a k q => Or.inl q
  have hR1 : RowC P s m1 r := hR.kq a2 fun a j h1 h2 => by unfold sWv; omega
  obtain ⟨f0, f1, f2, f3, f4, f5⟩ := hR1
  obtain ⟨μ', g1, g2, g3⟩ := letFall_out (d := d + 2) (p := p) hl hw (by omega) hh hx hy hb hs h 0 m1 (by omega) (hC.kq (sWv_n hpp a2)) a3 ⟨f0, f1, fun c hc => by rw [Nat.zero_mul, watF_0]; exact f2 c hc, f3, f4, f5, a4⟩
  have pc := part_c (d := d + 2) (s := s) (μ := μ) (l := l) (k := 1) (by omega) (by decide)
  rw [(hR.2.2.2.1 l hl).2.1] at pc
  refine ⟨μ', X7_letFall_ok ⟨_, μ, pc, m1, ?_, g1⟩, k1.trans g2, g3⟩
  rw [hR.2.1]
  exact a1
end Fall
