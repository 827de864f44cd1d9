/-! ===== calls: feed, where ===== -/
section Calls
variable {d n : Nat}
theorem low_bv (x : BitVec 32) {s : Nat} (hs : s ≤ 24) : (x.sshiftRight s).signExtend 8 = (x >>> s).signExtend 8 := by
  rw [BitVec.signExtend_eq_setWidth_of_le _ (by decide), BitVec.signExtend_eq_setWidth_of_le _ (by decide)]
  apply BitVec.eq_of_getLsbD_eq
  intro i hi
  rw [BitVec.getLsbD_setWidth, BitVec.getLsbD_setWidth, BitVec.getLsbD_sshiftRight, BitVec.getLsbD_ushiftRight, if_pos (show s + i < 32 by omega), decide_eq_false (show ¬ 32 ≤ i by omega)]
  rfl
theorem low_eq {x x2 : Int32} {s : Nat} (hs : s ≤ 24) (h1 : x2 &&& 31 = nI s) (h2 : (x2.toUInt32 &&& Int32.toUInt32 31).toNat = s) : ((x.toUInt32 >>> (x2.toUInt32 &&& Int32.toUInt32 31)).toInt32).toInt8 = (x >>> (x2 &&& 31)).toInt8 := by
  apply Int8.toBitVec_inj.mp
  show ((x.toUInt32 >>> (x2.toUInt32 &&& Int32.toUInt32 31)).toBitVec).signExtend 8 = ((x >>> (x2 &&& 31)).toBitVec).signExtend 8
  rw [h1]
  have e1 : (x >>> nI s).toBitVec = x.toBitVec.sshiftRight s := by
    show BitVec.sshiftRight' x.toBitVec ((BitVec.ofNat 32 s).smod 32) = _
    rw [sm32 s (by omega)]
    show x.toBitVec.sshiftRight (BitVec.ofNat 32 s).toNat = _
    rw [BitVec.toNat_ofNat, Nat.mod_eq_of_lt (by omega)]
  have e2 : (x.toUInt32 >>> (x2.toUInt32 &&& Int32.toUInt32 31)).toBitVec = x.toBitVec >>> s := by
    apply BitVec.eq_of_toNat_eq
    show (x.toUInt32 >>> (x2.toUInt32 &&& Int32.toUInt32 31)).toNat = _
    rw [UInt32.toNat_shiftRight, h2, Nat.mod_eq_of_lt (by omega), BitVec.toNat_ushiftRight]
    rfl
  rw [e1, e2, low_bv _ hs]
theorem isByte_8 (x : Int32) : isByte (vp_nar .byte x) := by
  rw [vp_nar_byte]
  unfold isByte
  rw [Int8.toInt_toInt32]
  have h1 := x.toInt8.toInt_lt
  have h2 := x.toInt8.le_toInt
  omega
def TapeB (T : Nat) (μC μM : Mem) : Prop := μC.1 0 1 = nI T ∧ μM.1 0 2 = nI T ∧ ∀ k, k < T → μC.1 1 k = μM.1 1 k ∧ isByte (μC.1 1 k)
def tpC (a k : Nat) : Prop := a = 1 ∨ (a = 0 ∧ k = 1)
def tpM (a k : Nat) : Prop := a = 1 ∨ (a = 0 ∧ k = 2)
theorem put1 {x x2 : Int32} {T s : Nat} {μC μM : Mem} {G : Mem → Mem → Prop} (hx2 : ¬ x2 < 0) (hs : s ≤ 24) (h1 : x2 &&& 31 = nI s) (h2 : (x2.toUInt32 &&& Int32.toUInt32 31).toNat = s) (hT : T < 2000) (h : TapeB T μC μM)
    (hk : ∀ μC1 μM1, TapeB (T + 1) μC1 μM1 → Kq tpC μC μC1 → Kq tpM μM μM1 → ∃ μC' μM', X9_putFour_at3 d x (x2 + (-8)) μC1 μC' ∧ X10_put_at3 d x (x2 + (-8)) μM1 μM' ∧ G μC' μM') : ∃ μC' μM', X9_putFour_at3 d x x2 μC μC' ∧ X10_put_at3 d x x2 μM μM' ∧ G μC' μM' := by
  obtain ⟨t1, t2, t3⟩ := h
  have e : vp_nar .byte (((x.toUInt32 >>> (x2.toUInt32 &&& Int32.toUInt32 31)).toInt32).toInt8.toInt32) = vp_nar .byte ((x >>> (x2 &&& 31)).toInt8.toInt32) := by rw [low_eq hs h1 h2]
  have b := isByte_8 ((x >>> (x2 &&& 31)).toInt8.toInt32)
  generalize hv : vp_nar .byte ((x >>> (x2 &&& 31)).toInt8.toInt32) = v at e b
  obtain ⟨mC, mM, g1, g2, g3⟩ := hk (sI (sI μC 1 T v) 0 1 (nI (T + 1))) (sI (sI μM 1 T v) 0 2 (nI (T + 1))) ⟨sI_1, sI_1, fun k hk => by
    rw [sI_n (show 1 ≠ 0 by decide), sI_n (show 1 ≠ 0 by decide)]
    by_cases q : k = T
    · rw [q, sI_1, sI_1]
      exact ⟨rfl, b⟩
    · rw [sI_k q, sI_k q]
      exact t3 k (by omega)⟩ ((Kq.sI (Or.inl rfl)).trans (Kq.sI (Or.inr ⟨rfl, rfl⟩))) ((Kq.sI (Or.inl rfl)).trans (Kq.sI (Or.inr ⟨rfl, rfl⟩)))
  refine ⟨mC, mM, X9_putFour_at3_ok (tneg hx2 ?_), X10_put_at3_ok (tneg hx2 ?_), g3⟩
  · rw [t1, e]
    refine tneg (nI_ge (b := 2000) hT (by decide)) ⟨vp_inN hT (by decide), ?_⟩
    rintro μ1 rfl μ2 rfl
    rw [nI_clamp (by omega), sI_n (show 0 ≠ 1 by decide), t1, nI_1]
    exact g1
  · rw [t2, hv]
    refine ⟨vp_inN hT (by decide), ?_⟩
    rintro μ1 rfl μ2 rfl
    rw [nI_clamp (by omega), sI_n (show 0 ≠ 1 by decide), t2, nI_1]
    exact g2
theorem put4 {x : Int32} {T : Nat} {μC μM : Mem} (hT : T + 4 ≤ 2000) (h : TapeB T μC μM) : ∃ μC' μM', X9_putFour d x μC μC' ∧ X10_put d x μM μM' ∧ (TapeB (T + 4) μC' μM' ∧ Kq tpC μC μC' ∧ Kq tpM μM μM') := by
  obtain ⟨a, b, h1, h2, h3⟩ := put1 (d := d) (x := x) (x2 := 24) (s := 24) (G := fun a b => TapeB (T + 4) a b ∧ Kq tpC μC a ∧ Kq tpM μM b) (by decide) (by decide) (by decide) (by decide) (by omega) h (fun c1 m1 q1 k1 l1 =>
    put1 (x2 := 24 + (-8)) (s := 16) (by decide) (by decide) (by decide) (by decide) (by omega) q1 (fun c2 m2 q2 k2 l2 =>
      put1 (x2 := 24 + (-8) + (-8)) (s := 8) (by decide) (by decide) (by decide) (by decide) (by omega) q2 (fun c3 m3 q3 k3 l3 =>
        put1 (x2 := 24 + (-8) + (-8) + (-8)) (s := 0) (by decide) (by decide) (by decide) (by decide) (by omega) q3 (fun c4 m4 q4 k4 l4 =>
          ⟨c4, m4, X9_putFour_at3_ok (tpos (by decide) rfl), X10_put_at3_ok (tpos (by decide) rfl), q4, ((k1.trans k2).trans k3).trans k4, ((l1.trans l2).trans l3).trans l4⟩))))
  exact ⟨a, b, X9_putFour_ok h1, X10_put_ok h2, h3⟩
theorem call_feed {a b c e f : Int32} (hn : n ≤ 512) : Both (X9_feed (d + 8) a b c e f) (X10_feed (d + 8) a b c e f) n := by
  rintro μC μM ⟨P, p, r, h⟩
  obtain ⟨⟨hC, hK, hR⟩, ⟨hM, hRM⟩, hS, ⟨T, t1, t2, t3, t4, t5⟩, ⟨t, nx, H, hP⟩, ⟨hd, S, hSl⟩, ⟨tt, X, Y, W, hW⟩, hD⟩ := id h
  have hpp := hC.pp
  have e20 : nI T + 20 = nI (T + 20) := nJ_add T 20
  by_cases hT : T + 20 ≤ 2000
  · obtain ⟨c1, m1, a1, b1, g1, k1, l1⟩ := put4 (d := d + 7) (x := a) (by omega) (show TapeB T μC μM from ⟨t2, t3, t4⟩)
    obtain ⟨c2, m2, a2, b2, g2, k2, l2⟩ := put4 (d := d + 7) (x := b) (by omega) g1
    obtain ⟨c3, m3, a3, b3, g3, k3, l3⟩ := put4 (d := d + 7) (x := c) (by omega) g2
    obtain ⟨c4, m4, a4, b4, g4, k4, l4⟩ := put4 (d := d + 7) (x := e) (by omega) g3
    obtain ⟨c5, m5, a5, b5, g5, k5, l5⟩ := put4 (d := d + 7) (x := f) (by omega) g4
    have kC := (((k1.trans k2).trans k3).trans k4).trans k5
    have kM := (((l1.trans l2).trans l3).trans l4).trans l5
    clear k1 k2 k3 k4 k5 l1 l2 l3 l4 l5 g1 g2 g3 g4
    obtain ⟨u1, u2, u3⟩ := g5
    refine ⟨nI (T + 4 + 4 + 4 + 4 + 4), c5, m5, X9_feed_ok ?_, X10_feed_ok ?_, ?_⟩
    · rw [t2, e20]
      exact tpos (nI_le (b := 2000) hT (by decide)) ⟨c1, a1, c2, a2, c3, a3, c4, a4, c5, a5, u1.symm, rfl⟩
    · rw [t3, e20]
      exact tpos (nI_le (b := 2000) hT (by decide)) ⟨m1, b1, m2, b2, m3, b3, m4, b4, m5, b5, u2.symm, rfl⟩
    · unfold tpC at kC
      unfold tpM at kM
      refine ⟨P, p, r, ⟨hC.kq (kC.mono fun a k q => ?_), hK.of (kC.row fun j => ?_) (kC.row fun j => ?_), hR.kq kC fun a j q1 q2 => ?_⟩, ⟨hM.kp (kM.p fun a k q => ?_), fun k hk => ?_⟩, hS.mono (by omega), ⟨T + 4 + 4 + 4 + 4 + 4, by omega, u1, u2, u3, ?_⟩, ⟨t, nx, H, PastR.mk ⟨hP.1, hP.2.1, ?_, ?_, fun i hi => (hP.C.2.2.2.2 i hi).kq kC fun a j q1 q2 => ?_⟩ ⟨?_, fun i hi k hk => ?_⟩ fun i hi => ((hP.2.2.2.2.2 i hi).2.1).mono (by omega)⟩, ⟨hd, S, (hSl.kq kC kM (fun a k q1 q2 => ?_) (fun k => ?_) (fun k => ?_)).mono (by omega)⟩, ⟨tt, X, Y, W, hW.kq kC kM ?_ (fun a k q1 q2 => ?_) ?_ (fun k => ?_) (fun k => ?_)⟩, hD.kq kC kM (fun a k q => ?_)⟩
      · unfold nPl; omega
      · omega
      · omega
      · omega
      · intro z
        unfold fM at q
        by_cases h0 : a = 0
        · rw [if_pos h0] at q
          have : k = 18 := by simpa using q
          omega
        · rw [if_neg h0] at q
          have : ¬ a < 9 ∧ ¬ 29 < a := by simpa using q
          omega
      · rw [kM.at (by omega)]; exact hRM k hk
      · rw [kC.at (by omega), kM.at (by omega)]; exact t5
      · rw [kC.at (by omega)]; exact hP.2.2.1
      · rw [kC.at (by omega)]; exact hP.2.2.2.1
      · omega
      · rw [kM.at (by omega)]; exact hP.2.2.2.2.1
      · rw [kM.at (by omega)]; exact (hP.2.2.2.2.2 i hi).2.2 k hk
      · omega
      · omega
      · omega
      · omega
      · omega
      · omega
      · omega
      · omega
      · omega
  · refine ⟨-1, μC, μM, X9_feed_ok ?_, X10_feed_ok ?_, h.next⟩
    · rw [t2, e20]
      exact tneg (nI_ge (a := 2000) (by omega) (by omega)) ⟨rfl, rfl⟩
    · rw [t3, e20]
      exact tneg (nI_ge (a := 2000) (by omega) (by omega)) ⟨rfl, rfl⟩
/-- what changes in a cell -/
def dB (A B C D : Bool) : Int32 := (if A && !B then 1 else 0) + (if !C && D then -1 else 0)
def sumI (g : Nat → Int32) : Nat → Int32
  | 0 => 0
  | c + 1 => sumI g c + g c
theorem sumI_skip {g : Nat → Int32} {a b : Nat} (hab : a ≤ b) (h : ∀ c, a ≤ c → c < b → g c = 0) : sumI g b = sumI g a := by
  obtain ⟨m, rfl⟩ := Nat.exists_eq_add_of_le hab
  induction m with
  | zero => rfl
  | succ m ih =>
    show sumI g (a + m) + g (a + m) = _
    rw [h (a + m) (by omega) (by omega), Int32.add_zero]
    exact ih (by omega) fun c h1 h2 => h c h1 (by omega)
theorem sumI_congr {g k : Nat → Int32} : ∀ m, (∀ c, c < m → g c = k c) → sumI g m = sumI k m
  | 0, _ => rfl
  | m + 1, h => by
    show sumI g m + g m = sumI k m + k m
    rw [h m (by omega), sumI_congr m fun c hc => h c (by omega)]
def gA (P : Pl) (r s : Nat → Nat) (c : Nat) : Int32 := dB (lackA P c (r c)) (lackA P c (s c)) (floodA P c (r c)) (floodA P c (s c))
theorem dB_1 : ∀ A B C D : Bool, -1 ≤ (dB A B C D).toInt ∧ (dB A B C D).toInt ≤ 1 := by decide
theorem dB_v : (∀ B D, dB false B true D = 0) ∧ (∀ B, dB false B false false = 0) ∧ (∀ B, dB false B false true = -1) ∧ (∀ D, dB true true true D = 0) ∧ dB true true false false = 0 ∧ dB true true false true = -1 ∧ (∀ D, dB true false true D = 1) ∧ dB true false false false = 1 ∧ dB true false false true = 0 := by decide
theorem dB_0 : ∀ A C : Bool, dB A A C C = 0 := by decide
theorem gA_0 {P : Pl} {r s : Nat → Nat} {c : Nat} (h : s c = r c) : gA P r s c = 0 := by
  unfold gA
  rw [h]
  exact dB_0 _ _
theorem gA_le {P : Pl} {r s : Nat → Nat} : ∀ c : Nat, c ≤ 48 → -(c : Int) ≤ (sumI (gA P r s) c).toInt ∧ (sumI (gA P r s) c).toInt ≤ c
  | 0, _ => by
    show -((0 : Nat) : Int) ≤ (0 : Int32).toInt ∧ (0 : Int32).toInt ≤ ((0 : Nat) : Int)
    decide
  | c + 1, h => by
    have ih := gA_le (P := P) (r := r) (s := s) c (by omega)
    have q := dB_1 (lackA P c (r c)) (lackA P c (s c)) (floodA P c (r c)) (floodA P c (s c))
    show -((c + 1 : Nat) : Int) ≤ (sumI (gA P r s) c + gA P r s c).toInt ∧ (sumI (gA P r s) c + gA P r s c).toInt ≤ ((c + 1 : Nat) : Int)
    unfold gA at q ih ⊢
    rw [Int32.toInt_add, Int.bmod_eq_of_le (by omega) (by omega)]
    omega
theorem gA_big {P : Pl} {r s : Nat → Nat} : ¬ sumI (gA P r s) 48 ≤ -1000 := by
  have h := gA_le (P := P) (r := r) (s := s) 48 (by decide)
  rw [Int32.le_iff_toInt_le, show (-1000 : Int32).toInt = -1000 by decide]
  omega
section
variable {P : Pl} {p l w h x y : Nat} {r : Nat → Nat}
/-- how wet it is behind the fall -/
def wf (P : Pl) (l w h x y : Nat) (r : Nat → Nat) (c : Nat) : Nat := watF P r w x y (amA P l w (r (48 + l)) (r 88)) (w * h) c
theorem wf_off {c : Nat} (hc : ¬ (onL P c = true ∧ x ≤ c % 8 ∧ c % 8 < x + w ∧ y ≤ c / 8 ∧ c / 8 < y + h)) : wf P l w h x y r c = r c := by
  unfold wf watF
  refine if_neg fun q => hc ⟨q.1, q.2.1, q.2.2.1, q.2.2.2.1, ?_⟩
  refine Nat.lt_of_not_le fun z => ?_
  have h1 : h * w ≤ (c / 8 - y) * w := Nat.mul_le_mul_right w (by omega)
  have h2 := q.2.2.2.2
  rw [Nat.mul_comm w h] at h2
  omega
theorem wf_at {i j : Nat} (hi : i < h) (hj : j < w) (hx : x + w ≤ pW P) (hy : y + h ≤ pH P) (h8 : pW P ≤ 8) : wf P l w h x y r (8 * (y + i) + (x + j)) = min 999 (r (8 * (y + i) + (x + j)) + amA P l w (r (48 + l)) (r 88) (i * w + j)) := by
  unfold wf watF
  have e1 : (8 * (y + i) + (x + j)) % 8 = x + j := by omega
  have e2 : (8 * (y + i) + (x + j)) / 8 = y + i := by omega
  rw [e1, e2, show y + i - y = i by omega, show x + j - x = j by omega, if_pos]
  refine ⟨?_, by omega, by omega, by omega, ?_⟩
  · rw [onL_at (by omega), decide_eq_true (show x + j < pW P by omega), decide_eq_true (show y + i < pH P by omega)]
    rfl
  · have : (i + 1) * w ≤ h * w := Nat.mul_le_mul_right w (by omega)
    rw [Nat.succ_mul] at this
    rw [Nat.mul_comm w h]
    omega
theorem fallR_wf {c : Nat} (hc : c < 48) (hl : l < 4) (hb : SB r) (hw : 1 ≤ w) (h8 : pW P ≤ 8) (h6 : pH P ≤ 6) : fallR P l w h x y r c = wf P l w h x y r c := by
  unfold fallR wf
  rw [fallE_ne (by omega) (by omega) (by omega) (by omega)]
  exact (fallS_eq hb hw h8 h6 (w * h)).2.2 c hc
/-- the class's gain -/
theorem gain_in {i : Nat} {X : Int32} {μ : Mem} (hi : i < h) (hw8 : w ≤ 8) (hx : x + w ≤ pW P) (hy : y + h ≤ pH P) (hC : CP P p μ) (hR : RowC P 13 μ r) (hb : SB r) (ha : ∀ k, k < w * h → μ.1 12 k = nI (amA P l w (r (48 + l)) (r 88) k))
    (hk : X7_gain_at6 (d + 1) 13 (nI w) (nI h) (nI x) (nI y) (sumI (gA P r (wf P l w h x y r)) (8 * (y + i) + (x + w))) (nI i + 1) μ X μ) : ∀ (m j : Nat), j + m = w → X7_gain_at15 (d + 1) 13 (nI w) (nI h) (nI x) (nI y) (sumI (gA P r (wf P l w h x y r)) (8 * (y + i) + (x + j))) (nI i) (nI j) μ X μ
  | 0, j, hj => by
    have hj : j = w := hj
    subst hj
    exact X7_gain_at15_ok (tpos (nI_le (Nat.le_refl _) (by omega)) hk)
  | m + 1, j, hj => by
    have pw := hC.1
    have h8 : pW P ≤ 8 := pw.1
    have h6 : pH P ≤ 6 := pw.2.1
    have ih := gain_in hi hw8 hx hy hC hR hb ha hk m (j + 1) (by omega)
    have hc : 8 * (y + i) + (x + j) < 48 := by omega
    have ho : onL P (8 * (y + i) + (x + j)) = true := by
      rw [onL_at (by omega), decide_eq_true (show x + j < pW P by omega), decide_eq_true (show y + i < pH P by omega)]
      rfl
    have hiw : i * w + j < w * h := by
      have : (i + 1) * w ≤ h * w := Nat.mul_le_mul_right w (by omega)
      rw [Nat.succ_mul] at this
      rw [Nat.mul_comm w h]
      omega
    have h48 := wh48 hw8 (show h ≤ 6 by omega)
    have ea : amA P l w (r (48 + l)) (r 88) (i * w + j) ≤ 9 := by
      unfold amA
      split
      · omega
      · exact thr_le
    have hr9 := hb.1 _ hc
    have f1 := fieldAt_c (d := d) (x := x + j) (y := y + i) (μ := μ) (by omega) (by omega) hC
    have f2 := waterAt_c (d := d + 1) (s := 13) (x := x + j) (y := y + i) (by omega) (by omega) hR
    have f3 := wetter_c (d := d + 1) (μ := μ) (a := r (8 * (y + i) + (x + j))) (b := amA P l w (r (48 + l)) (r 88) (i * w + j)) (by omega)
    rw [← wf_at hi (show j < w by omega) hx hy h8] at f3
    have wl : wf P l w h x y r (8 * (y + i) + (x + j)) ≤ 999 := by rw [wf_at hi (show j < w by omega) hx hy h8]; omega
    have L1 := lacks_c (d := d) (c := 8 * (y + i) + (x + j)) (w := r (8 * (y + i) + (x + j))) hC hc (by omega)
    have L2 := lacks_c (d := d) (c := 8 * (y + i) + (x + j)) (w := wf P l w h x y r (8 * (y + i) + (x + j))) hC hc (by omega)
    have D1 := drowned_c (d := d) (c := 8 * (y + i) + (x + j)) (w := r (8 * (y + i) + (x + j))) hC hc (by omega)
    have D2 := drowned_c (d := d) (c := 8 * (y + i) + (x + j)) (w := wf P l w h x y r (8 * (y + i) + (x + j))) hC hc (by omega)
    rw [ho, Bool.true_and] at L1 L2 D1 D2
    have hg : ∀ s, s = sumI (gA P r (wf P l w h x y r)) (8 * (y + i) + (x + j)) + gA P r (wf P l w h x y r) (8 * (y + i) + (x + j)) → X7_gain_at15 (d + 1) 13 (nI w) (nI h) (nI x) (nI y) s (nI i) (nI j + 1) μ X μ := by
      rintro s rfl
      rw [nI_succ] at ih
      exact ih
    have e1 : nI x + nI j = nI (x + j) := nJ_add x j
    have e2 : nI y + nI i = nI (y + i) := nJ_add y i
    have e3 : nI i * nI w + nI j = nI (i * w + j) := by rw [nI_mul, nJ_add]
    have ptr := hC.ptr
    refine X7_gain_at15_ok (tneg (nI_ge (by omega) (by omega)) ?_)
    rw [ptr, e1, e2, e3, nI_clamp (show i * w + j < 2 ^ 31 by omega)]
    refine ⟨_, μ, f1, _, μ, f2, vp_inN (by omega) (by decide), _, μ, by rw [ha _ hiw]; exact f3, _, μ, by rw [ptr]; exact L1, ?_⟩
    rw [ptr]
    rw [show gA P r (wf P l w h x y r) (8 * (y + i) + (x + j)) = dB (lackA P (8 * (y + i) + (x + j)) (r (8 * (y + i) + (x + j)))) (lackA P (8 * (y + i) + (x + j)) (wf P l w h x y r (8 * (y + i) + (x + j)))) (floodA P (8 * (y + i) + (x + j)) (r (8 * (y + i) + (x + j)))) (floodA P (8 * (y + i) + (x + j)) (wf P l w h x y r (8 * (y + i) + (x + j)))) from rfl] at hg
    generalize sumI (gA P r (wf P l w h x y r)) (8 * (y + i) + (x + j)) = s at hg ⊢
    generalize hA : lackA P (8 * (y + i) + (x + j)) (r (8 * (y + i) + (x + j))) = A at hg L1
    generalize hB : lackA P (8 * (y + i) + (x + j)) (wf P l w h x y r (8 * (y + i) + (x + j))) = B at hg L2
    generalize hCC : floodA P (8 * (y + i) + (x + j)) (r (8 * (y + i) + (x + j))) = C at hg D1
    generalize hD : floodA P (8 * (y + i) + (x + j)) (wf P l w h x y r (8 * (y + i) + (x + j))) = D at hg D2
    obtain ⟨v1, v2, v3, v4, v5, v6, v7, v8, v9⟩ := dB_v
    have z1 : s + 1 + -1 = s + 0 := by rw [Int32.add_assoc, show (1 : Int32) + -1 = 0 by decide]
    cases A with
    | false =>
      refine tpos rfl ⟨_, μ, D1, ?_⟩
      cases C with
      | true => exact tne (by decide) (hg _ (by rw [v1, Int32.add_zero]))
      | false =>
        refine teq rfl ⟨_, μ, by rw [ptr]; exact D2, ?_⟩
        cases D with
        | false => exact tpos rfl (hg _ (by rw [v2, Int32.add_zero]))
        | true => exact tneg (by decide) (hg _ (by rw [v3]))
    | true =>
      refine tneg (by decide) ⟨_, μ, L2, ?_⟩
      cases B with
      | true =>
        refine tne (by decide) ⟨_, μ, by rw [ptr]; exact D1, ?_⟩
        cases C with
        | true => exact tne (by decide) (hg _ (by rw [v4, Int32.add_zero]))
        | false =>
          refine teq rfl ⟨_, μ, by rw [ptr]; exact D2, ?_⟩
          cases D with
          | false => exact tpos rfl (hg _ (by rw [v5, Int32.add_zero]))
          | true => exact tneg (by decide) (hg _ (by rw [v6]))
      | false =>
        refine teq rfl ⟨_, μ, by rw [ptr]; exact D1, ?_⟩
        cases C with
        | true => exact tne (by decide) (hg _ (by rw [v7]))
        | false =>
          refine teq rfl ⟨_, μ, by rw [ptr]; exact D2, ?_⟩
          cases D with
          | false => exact tpos rfl (hg _ (by rw [v8]))
          | true => exact tneg (by decide) (hg _ (by rw [v9]; exact z1))
theorem gain_out {μ : Mem} (hw : 1 ≤ w) (hw8 : w ≤ 8) (hh : h ≤ 6) (hx : x + w ≤ pW P) (hy : y + h ≤ pH P) (hC : CP P p μ) (hR : RowC P 13 μ r) (hb : SB r) (ha : ∀ k, k < w * h → μ.1 12 k = nI (amA P l w (r (48 + l)) (r 88) k)) : ∀ (m i : Nat), i + m = h → X7_gain_at6 (d + 1) 13 (nI w) (nI h) (nI x) (nI y) (sumI (gA P r (wf P l w h x y r)) (8 * (y + i) + x)) (nI i) μ (sumI (gA P r (wf P l w h x y r)) 48) μ
  | 0, i, hi => by
    have hi : i = h := hi
    subst hi
    have h8 : pW P ≤ 8 := hC.1.1
    have h6 : pH P ≤ 6 := hC.1.2.1
    refine X7_gain_at6_ok (tpos (nI_le (Nat.le_refl _) (by omega)) ⟨?_, rfl⟩)
    have z : ∀ c, 8 * (y + i) + x ≤ c ∨ 48 ≤ c → gA P r (wf P l w i x y r) c = 0 := fun c hc => gA_0 (wf_off fun q => by
      have q1 := q.1
      unfold onL at q1
      have q2 := Bool.and_eq_true _ _ ▸ q1
      have q3 := of_decide_eq_true q2.2
      omega)
    by_cases q : 8 * (y + i) + x ≤ 48
    · exact sumI_skip q fun c h1 _ => z c (Or.inl h1)
    · exact (sumI_skip (by omega) fun c h1 _ => z c (Or.inr h1)).symm
  | m + 1, i, hi => by
    have h8 : pW P ≤ 8 := hC.1.1
    have ih := gain_out hw hw8 hh hx hy hC hR hb ha m (i + 1) (by omega)
    refine X7_gain_at6_ok (tneg (nI_ge (by omega) (by omega)) (gain_in (by omega) hw8 hx hy hC hR hb ha ?_ w 0 (by omega)))
    rw [nI_succ] at ih
    have e : sumI (gA P r (wf P l w h x y r)) (8 * (y + (i + 1)) + x) = sumI (gA P r (wf P l w h x y r)) (8 * (y + i) + (x + w)) := sumI_skip (by omega) fun c h1 h2 => gA_0 (wf_off fun q => by omega)
    rw [e] at ih
    exact ih
theorem gain_c {μ : Mem} (hw : 1 ≤ w) (hw8 : w ≤ 8) (hh : h ≤ 6) (hx : x + w ≤ pW P) (hy : y + h ≤ pH P) (hC : CP P p μ) (hR : RowC P 13 μ r) (hb : SB r) (ha : ∀ k, k < w * h → μ.1 12 k = nI (amA P l w (r (48 + l)) (r 88) k)) : X7_gain (d + 2) 13 (nI w) (nI h) (nI x) (nI y) μ (sumI (gA P r (wf P l w h x y r)) 48) μ := by
  have h8 : pW P ≤ 8 := hC.1.1
  have g := gain_out (d := d) (l := l) hw hw8 hh hx hy hC hR hb ha h 0 (by omega)
  have e : sumI (gA P r (wf P l w h x y r)) (8 * (y + 0) + x) = sumI (gA P r (wf P l w h x y r)) 0 := sumI_skip (Nat.zero_le _) fun c h1 h2 => gA_0 (wf_off fun q => by omega)
  rw [e] at g
  exact X7_gain_ok g
end
/-- the model's moreBy -/
def fMo : Fr := fun a k => a == 34 || (a == 31 || (a == 32 || (a == 0 && (k == 49 || k == 52))))
theorem fC_Mo {μ μ' : Mem} (h : Kp fC μ μ') : Kp fMo μ μ' := h.mono fun a k q => by
  have q : ¬ (a = 34) ∧ ¬ a = 31 ∧ ¬ a = 32 ∧ (a = 0 → ¬ k = 49 ∧ ¬ k = 52) := by simpa [fMo] using q
  simp [fC]
  omega
theorem fR_Mo {μ μ' : Mem} (h : Kp fR μ μ') : Kp fMo μ μ' := h.mono fun a k q => by
  have q : ¬ (a = 34) ∧ ¬ a = 31 ∧ ¬ a = 32 ∧ (a = 0 → ¬ k = 49 ∧ ¬ k = 52) := by simpa [fMo] using q
  simp [fR]
  omega
theorem fC_M {μ μ' : Mem} (h : Kp fC μ μ') : Kp fM μ μ' := scM_M (fC_scM h)
theorem moreBy_loop {P : Pl} {r s : Nat → Nat} {μ : Mem} (hb : SB r) (hs : SB s) (hM : MP P μ) (h3 : RowM μ 33 r) (h4 : RowM μ 34 s) (hoff : ∀ c, c < 48 → onL P c = false → s c = r c) : ∀ (m c : Nat), c + m = 48 → X10_moreBy_at22 (d + 2) (sumI (gA P r s) c) (nI c) μ (sumI (gA P r s) 48) μ
  | 0, c, hc => by
    have hc : c = 48 := hc
    subst hc
    exact X10_moreBy_at22_ok (tpos (nI_le (a := 48) (b := 48) (by decide) (by decide)) ⟨rfl, rfl⟩)
  | m + 1, c, hc => by
    have pw := hM.1
    have ih := moreBy_loop hb hs hM h3 h4 hoff m (c + 1) (by omega)
    have hg : ∀ z, z = sumI (gA P r s) c + gA P r s c → X10_moreBy_at22 (d + 2) z (nI c + 1) μ (sumI (gA P r s) 48) μ := by
      rintro z rfl
      rw [nI_succ] at ih
      exact ih
    have i1 := isLand_m (d := d) (c := c) (by omega) hM
    have z0 : sumI (gA P r s) c = sumI (gA P r s) c + 0 := (Int32.add_zero _).symm
    refine X10_moreBy_at22_ok (tneg (nI_ge (b := 48) (by omega) (by decide)) ⟨_, μ, i1, ?_⟩)
    cases ho : onL P c with
    | false => exact tpos rfl (hg _ (by rw [gA_0 (hoff c (by omega) ho)]; exact z0))
    | true =>
      have f1 := fieldAt_m (d := d + 2) (c := c) (by omega) ho hM
      have fs := fI_neg (fld6 pw ho)
      refine tneg (by decide) ⟨_, μ, f1, ?_⟩
      cases hf : (pFld P c).isSome with
      | false =>
        refine tneg (i_lt_nle (fs.2 hf)) (hg _ ?_)
        have : gA P r s c = 0 := by
          unfold gA lackA floodA
          rw [hf]
          rfl
        rw [this]
        exact z0
      | true =>
        refine tpos (i_nlt (fs.1 hf)) ?_
        have n1 := needOf_m (d := d + 1) (c := c) (by omega) ho hM
        have d1 := drownOf_m (d := d + 1) (c := c) (by omega) ho hM
        have nd := fld_need pw ho
        have vc : vp_in (nI c) 92 := vp_inN (by omega) (by decide)
        have rc := hb.1 c (by omega)
        have sc := hs.1 c (by omega)
        have ec : (nI c).toNatClampNeg = c := nI_clamp (by omega)
        have e3 : μ.1 33 (nI c).toNatClampNeg = nI (r c) := by rw [ec]; exact h3 c (by omega)
        have e4 : μ.1 34 (nI c).toNatClampNeg = nI (s c) := by rw [ec]; exact h4 c (by omega)
        have eg : gA P r s c = dB (decide (r c < needO P c)) (decide (s c < needO P c)) (decide (drownO P c < r c)) (decide (drownO P c < s c)) := by
          unfold gA lackA floodA
          rw [hf]
          rfl
        rw [eg] at hg
        generalize sumI (gA P r s) c = z at hg ⊢
        obtain ⟨v1, v2, v3, v4, v5, v6, v7, v8, v9⟩ := dB_v
        have z1 : z + 1 + -1 = z + 0 := by rw [Int32.add_assoc, show (1 : Int32) + -1 = 0 by decide]
        refine ⟨vc, _, μ, n1, ?_⟩
        rw [e3]
        by_cases qa : r c < needO P c
        · rw [decide_eq_true qa] at hg
          refine tneg (nI_ge qa (by omega)) ⟨vc, _, μ, n1, ?_⟩
          rw [e4]
          by_cases qb : s c < needO P c
          · rw [decide_eq_true qb] at hg
            refine tpos (nI_lt qb (by omega)) ⟨vc, _, μ, d1, ?_⟩
            rw [e3]
            by_cases qc : drownO P c < r c
            · rw [decide_eq_true qc] at hg
              exact tpos (nI_lt qc (by omega)) (hg _ (by rw [v4, Int32.add_zero]))
            · rw [decide_eq_false qc] at hg
              refine tneg (nI_nlt (by omega) (by omega)) ⟨vc, _, μ, d1, ?_⟩
              rw [e4]
              by_cases qd : drownO P c < s c
              · rw [decide_eq_true qd] at hg
                exact tneg (nI_ge qd (by omega)) (hg _ (by rw [v6]))
              · rw [decide_eq_false qd] at hg
                exact tpos (nI_le (by omega) (by omega)) (hg _ (by rw [v5, Int32.add_zero]))
          · rw [decide_eq_false qb] at hg
            refine tneg (nI_nlt (by omega) (by omega)) ⟨vc, _, μ, d1, ?_⟩
            rw [e3]
            by_cases qc : drownO P c < r c
            · rw [decide_eq_true qc] at hg
              exact tpos (nI_lt qc (by omega)) (hg _ (by rw [v7]))
            · rw [decide_eq_false qc] at hg
              refine tneg (nI_nlt (by omega) (by omega)) ⟨vc, _, μ, d1, ?_⟩
              rw [e4]
              by_cases qd : drownO P c < s c
              · rw [decide_eq_true qd] at hg
                exact tneg (nI_ge qd (by omega)) (hg _ (by rw [v9]; exact z1))
              · rw [decide_eq_false qd] at hg
                exact tpos (nI_le (by omega) (by omega)) (hg _ (by rw [v8]))
        · rw [decide_eq_false qa] at hg
          refine tpos (nI_le (by omega) (by omega)) ⟨vc, _, μ, d1, ?_⟩
          by_cases qc : drownO P c < r c
          · rw [decide_eq_true qc] at hg
            exact tpos (nI_lt qc (by omega)) (hg _ (by rw [v1, Int32.add_zero]))
          · rw [decide_eq_false qc] at hg
            refine tneg (nI_nlt (by omega) (by omega)) ⟨vc, _, μ, d1, ?_⟩
            rw [e4]
            by_cases qd : drownO P c < s c
            · rw [decide_eq_true qd] at hg
              exact tneg (nI_ge qd (by omega)) (hg _ (by rw [v3]))
            · rw [decide_eq_false qd] at hg
              exact tpos (nI_le (by omega) (by omega)) (hg _ (by rw [v2, Int32.add_zero]))
theorem moreBy_m {P : Pl} {l w h x y : Nat} {r : Nat → Nat} {μ : Mem} (hl : l < pL P) (hw : 1 ≤ w) (hw8 : w ≤ 8) (hh : h ≤ 6) (hx : x < 1000) (hy : y < 1000) (hp : r (48 + l) < 1000000) (hb : SB r) (hM : MP P μ) (h3 : RowM μ 33 r) : ∃ μ', X10_moreBy (d + 4) (nI l) (nI w) (nI h) (nI x) (nI y) μ (sumI (gA P r (wf P l w h x y r)) 48) μ' ∧ Kp fMo μ μ' := by
  have pw := hM.1
  have h4 := pw.2.2.2.1
  obtain ⟨m1, a1, a2, a3, _⟩ := copies_m (d := d + 3) hM h3
  have hM1 := hM.kp (fC_M a2)
  obtain ⟨m2, b1, b2, b3⟩ := falls_m (d := d) (x := x) (y := y) hl hw hw8 hh hx hy hp hb hM1 a3
  have hM2 := hM1.kp (fR_M b2)
  have r1 : RowM m1 33 r := h3.kp a2 fun _ => rfl
  have r2 : RowM m2 33 r := r1.kp b2 fun _ => rfl
  have ew : ∀ c, c < 48 → fallR P l w h x y r c = wf P l w h x y r c := fun c hc => fallR_wf hc (by omega) hb hw pw.1 pw.2.1
  have hs : SB (fallR P l w h x y r) := by
    have z := fallS_SB (P := P) (l := l) (w := w) (x := x) (y := y) (pick := r (48 + l)) hb pw.1 pw.2.1 (w * h)
    unfold fallR
    refine ⟨fun c hc => ?_, ?_⟩
    · rw [fallE_ne (by omega) (by omega) (by omega) (by omega)]
      exact z.1 c hc
    · rw [fallE_ne (by omega) (by omega) (by omega) (by omega)]
      exact z.2
  have lp := moreBy_loop (d := d + 1) hb hs hM2 r2 b3 (fun c hc ho => by rw [ew c hc]; exact wf_off fun q => by rw [ho] at q; cases q.1) 48 0 (by omega)
  rw [sumI_congr (k := gA P r (wf P l w h x y r)) 48 fun c hc => by unfold gA; rw [ew c hc]] at lp
  exact ⟨m2, X10_moreBy_ok ⟨m1, a1, _, m2, b1, lp⟩, (fC_Mo a2).trans (fR_Mo b2)⟩
/-- the scan for the best place -/
abbrev Wh : Type := Option (Int32 × Nat × Nat)
def whStep (G : Nat → Nat → Int32) (y x : Nat) (o : Wh) : Wh := match o with
  | none => some (G y x, x, y)
  | some q => if q.1 < G y x then some (G y x, x, y) else some q
def whIn (G : Nat → Nat → Int32) (y : Nat) : Nat → Nat → Wh → Wh
  | 0, _, o => o
  | m + 1, x, o => whIn G y m (x + 1) (whStep G y x o)
def whOut (G : Nat → Nat → Int32) (A : Nat) : Nat → Nat → Wh → Wh
  | 0, _, o => o
  | m + 1, y, o => whOut G A m (y + 1) (whIn G y A 0 o)
def whOK (o : Wh) : Prop := ∀ q, o = some q → q.2.1 < 8 ∧ q.2.2 < 6
theorem whStep_OK {G : Nat → Nat → Int32} {y x : Nat} {o : Wh} (hy : y < 6) (hx : x < 8) (h : whOK o) : whOK (whStep G y x o) ∧ (whStep G y x o).isSome = true := by
  unfold whStep
  cases o with
  | none => exact ⟨fun q e => by cases e; exact ⟨hx, hy⟩, rfl⟩
  | some b =>
    dsimp only
    split
    · exact ⟨fun q e => by cases e; exact ⟨hx, hy⟩, rfl⟩
    · exact ⟨h, rfl⟩
theorem whIn_OK {G : Nat → Nat → Int32} {y : Nat} (hy : y < 6) : ∀ (m x : Nat) (o : Wh), x + m ≤ 8 → whOK o → whOK (whIn G y m x o) ∧ ((o.isSome = true ∨ 0 < m) → (whIn G y m x o).isSome = true)
  | 0, x, o, _, h => ⟨h, fun q => q.elim id fun z => absurd z (Nat.lt_irrefl 0)⟩
  | m + 1, x, o, hx, h => by
    obtain ⟨h1, h2⟩ := whStep_OK (G := G) hy (show x < 8 by omega) h
    obtain ⟨g1, g2⟩ := whIn_OK (G := G) hy m (x + 1) (whStep G y x o) (by omega) h1
    exact ⟨g1, fun _ => g2 (Or.inl h2)⟩
theorem whOut_some {G : Nat → Nat → Int32} {A : Nat} (hA : A ≤ 8) (hA0 : 0 < A) : ∀ (m y : Nat) (o : Wh), y + m ≤ 6 → whOK o → (o.isSome = true ∨ 0 < m) → whOK (whOut G A m y o) ∧ (whOut G A m y o).isSome = true
  | 0, y, o, _, h, q => ⟨h, q.elim id fun z => absurd z (Nat.lt_irrefl 0)⟩
  | m + 1, y, o, hy, h, _ => by
    obtain ⟨h1, h2⟩ := whIn_OK (G := G) (show y < 6 by omega) A 0 o (by omega) h
    exact whOut_some hA hA0 m (y + 1) _ (by omega) h1 (Or.inl (h2 (Or.inr hA0)))
def oB (o : Wh) : Int32 := match o with
  | none => -1000
  | some q => q.1
def oX (o : Wh) : Int32 := match o with
  | none => 0
  | some q => nI q.2.1
def oY (o : Wh) : Int32 := match o with
  | none => 0
  | some q => nI q.2.2
def whV (k : Nat) (o : Wh) : Int32 := if k = 0 then oB o else if k = 1 then oX o else oY o
section
variable {P : Pl} {p l w h : Nat} {r : Nat → Nat}
def whG (P : Pl) (l w h : Nat) (r : Nat → Nat) (y x : Nat) : Int32 := sumI (gA P r (wf P l w h x y r)) 48
theorem whG_big {y x : Nat} : ¬ whG P l w h r y x ≤ -1000 := gA_big
theorem where_in {k y : Nat} {X : Int32} {μ : Mem} (hw : 1 ≤ w) (hw8 : w ≤ pW P) (hh : h ≤ 6) (hy : y + h ≤ pH P) (hC : CP P p μ) (hR : RowC P 13 μ r) (hb : SB r) (ha : ∀ k, k < w * h → μ.1 12 k = nI (amA P l w (r (48 + l)) (r 88) k))
    (hk : ∀ o, o = X → True) {F : Wh → Int32} (hc : ∀ o, X9_where_at87 (d + 2) (nI w) (nI h) (nI k) (oB o) (oX o) (oY o) (nI y + 1) μ (F o) μ) : ∀ (m x : Nat) (o : Wh), x + m = pW P + 1 - w → X9_where_at104 (d + 2) (nI w) (nI h) (nI k) (oB o) (oX o) (oY o) (nI y) (nI x) μ (F (whIn (whG P l w h r) y m x o)) μ
  | 0, x, o, hx => by
    have h8 : pW P ≤ 8 := hC.1.1
    refine X9_where_at104_ok ?_
    rw [hC.ptr0, hC.num.1, nJ_add]
    exact tpos (nI_lt (by omega) (by omega)) (hc o)
  | m + 1, x, o, hx => by
    have h8 : pW P ≤ 8 := hC.1.1
    have ih := where_in hw hw8 hh hy hC hR hb ha hk hc m (x + 1) (whStep (whG P l w h r) y x o) (by omega)
    have g := gain_c (d := d) (l := l) (x := x) (y := y) hw (by omega) hh (by omega) hy hC hR hb ha
    rw [nI_succ] at ih
    refine X9_where_at104_ok ?_
    rw [hC.ptr0, hC.num.1, nJ_add]
    refine tneg (nI_nlt (by omega) (by omega)) ⟨_, μ, g, ?_⟩
    show (whG P l w h r y x ≤ oB o → X9_where_at104 (d + 2) (nI w) (nI h) (nI k) (oB o) (oX o) (oY o) (nI y) (nI x + 1) μ (F (whIn (whG P l w h r) y m (x + 1) (whStep (whG P l w h r) y x o))) μ) ∧ (¬ whG P l w h r y x ≤ oB o → X9_where_at104 (d + 2) (nI w) (nI h) (nI k) (whG P l w h r y x) (nI x) (nI y) (nI y) (nI x + 1) μ (F (whIn (whG P l w h r) y m (x + 1) (whStep (whG P l w h r) y x o))) μ)
    cases o with
    | none => exact tneg whG_big ih
    | some q =>
      by_cases c : q.1 < whG P l w h r y x
      · rw [show whStep (whG P l w h r) y x (some q) = some (whG P l w h r y x, x, y) from if_pos c] at ih ⊢
        exact tneg (i_lt_nle c) ih
      · rw [show whStep (whG P l w h r) y x (some q) = some q from if_neg c] at ih ⊢
        exact tpos (i_nlt c) ih
theorem where_out {k : Nat} {μ : Mem} (hk : k < 3) (hw : 1 ≤ w) (hw8 : w ≤ pW P) (hh : h ≤ 6) (hhr : h ≤ pH P) (hC : CP P p μ) (hR : RowC P 13 μ r) (hb : SB r) (ha : ∀ k, k < w * h → μ.1 12 k = nI (amA P l w (r (48 + l)) (r 88) k)) : ∀ (m y : Nat) (o : Wh), y + m = pH P + 1 - h → X9_where_at87 (d + 2) (nI w) (nI h) (nI k) (oB o) (oX o) (oY o) (nI y) μ (whV k (whOut (whG P l w h r) (pW P + 1 - w) m y o)) μ
  | 0, y, o, hy => by
    have h6 : pH P ≤ 6 := hC.1.2.1
    refine X9_where_at87_ok ?_
    rw [hC.ptr0, hC.num.2.1, nJ_add]
    refine tpos (nI_lt (by omega) (by omega)) ?_
    show (nI k ≠ 0 → _) ∧ _
    unfold whV
    by_cases q0 : k = 0
    · subst q0
      exact teq rfl ⟨rfl, rfl⟩
    · refine tne (nI_ne0 (by omega) (by omega)) ?_
      rw [if_neg q0]
      by_cases q1 : k = 1
      · subst q1
        exact teq rfl ⟨rfl, rfl⟩
      · rw [if_neg q1]
        exact tne (fun z => q1 (nI_inj (b := 1) (by omega) (by decide) z)) ⟨rfl, rfl⟩
  | m + 1, y, o, hy => by
    have h6 : pH P ≤ 6 := hC.1.2.1
    refine X9_where_at87_ok ?_
    rw [hC.ptr0, hC.num.2.1, nJ_add]
    refine tneg (nI_nlt (by omega) (by omega)) (where_in (X := 0) (F := fun o => whV k (whOut (whG P l w h r) (pW P + 1 - w) m (y + 1) o)) hw hw8 hh (by omega) hC hR hb ha (fun _ _ => trivial) (fun o => ?_) (pW P + 1 - w) 0 o (by omega))
    have ih := where_out hk hw hw8 hh hhr hC hR hb ha m (y + 1) o (by omega)
    rw [nI_succ] at ih
    exact ih
def fillM (o : Wh) (μ : Mem) : Prop := match o with
  | none => μ.1 0 56 = -1
  | some q => μ.1 0 55 = q.1 ∧ μ.1 0 56 = nI (8 * q.2.2 + q.2.1)
theorem fills_in {y : Nat} {Z : Wh → Wh} (hl : l < pL P) (hw : 1 ≤ w) (hw8 : w ≤ 8) (hh : h ≤ 6) (hy : y + h ≤ pH P) (hy6 : y < 6) (hp : r (48 + l) < 1000000) (hb : SB r)
    (hc : ∀ o μ, whOK o → MP P μ → RowM μ 33 r → fillM o μ → ∃ μ', X10_fillsWhere_at8 (d + 4) (nI l) (nI w) (nI h) (nI y + 1) μ μ' ∧ Kq scM μ μ' ∧ fillM (Z o) μ') : ∀ (m x : Nat) (o : Wh) (μ : Mem), (x + m = pW P + 1 - w) → whOK o → MP P μ → RowM μ 33 r → fillM o μ → ∃ μ', X10_fillsWhere_at27 (d + 4) (nI l) (nI w) (nI h) (nI y) (nI x) μ μ' ∧ Kq scM μ μ' ∧ fillM (Z (whIn (whG P l w h r) y m x o)) μ'
  | 0, x, o, μ, hx, hO, hM, hR, hF => by
    have h8 : pW P ≤ 8 := hM.1.1
    have e := hM.wide
    unfold mWide mL at e
    obtain ⟨μ', c1, c2, c3⟩ := hc o μ hO hM hR hF
    refine ⟨μ', X10_fillsWhere_at27_ok ⟨hM.live, ?_⟩, c2, c3⟩
    rw [e, nJ_add]
    exact tpos (nI_lt (by omega) (by omega)) c1
  | m + 1, x, o, μ, hx, hO, hM, hR, hF => by
    have h8 : pW P ≤ 8 := hM.1.1
    have h6 : pH P ≤ 6 := hM.1.2.1
    have e := hM.wide
    unfold mWide mL at e
    obtain ⟨m1, a1, a2⟩ := moreBy_m (d := d) (x := x) (y := y) hl hw hw8 hh (by omega) (by omega) hp hb hM hR
    have e55 : m1.1 0 55 = μ.1 0 55 := a2.at rfl
    have e56 : m1.1 0 56 = μ.1 0 56 := a2.at rfl
    have k1 : Kq scM μ m1 := a2.q fun a k q => by
      have : a = 34 ∨ a = 31 ∨ a = 32 ∨ a = 0 ∧ (k = 49 ∨ k = 52) := by simpa [fMo] using q
      unfold scM
      omega
    have R1 : RowM m1 33 r := hR.kp a2 fun _ => rfl
    have M1 := hM.kp (scM_M k1)
    have e8 : (8 : Int32) * nI y + nI x = nI (8 * y + x) := by rw [show (8 : Int32) = nI 8 from rfl, nI_mul, nJ_add]
    have k2 : Kq scM m1 (sI (sI m1 0 55 (whG P l w h r y x)) 0 56 (nI (8 * y + x))) := (Kq.sI (by unfold scM; omega)).trans (Kq.sI (by unfold scM; omega))
    obtain ⟨s1, s2⟩ := whStep_OK (G := whG P l w h r) hy6 (show x < 8 by omega) hO
    have upd : whStep (whG P l w h r) y x o = some (whG P l w h r y x, x, y) → ∃ μ', X10_fillsWhere_at27 (d + 4) (nI l) (nI w) (nI h) (nI y) (nI x + 1) (sI (sI m1 0 55 (whG P l w h r y x)) 0 56 (nI (8 * y + x))) μ' ∧ Kq scM μ μ' ∧ fillM (Z (whIn (whG P l w h r) y (m + 1) x o)) μ' := fun q => by
      obtain ⟨μ', g1, g2, g3⟩ := fills_in hl hw hw8 hh hy hy6 hp hb hc m (x + 1) (whStep (whG P l w h r) y x o) (sI (sI m1 0 55 (whG P l w h r y x)) 0 56 (nI (8 * y + x))) (by omega) s1 (M1.kp (scM_M k2)) (fun k hk => by rw [sI_n (by decide), sI_n (by decide)]; exact R1 k hk) (by
        rw [q]
        exact ⟨by rw [sI_k (by decide), sI_1], sI_1⟩)
      rw [nI_succ] at g1
      exact ⟨μ', g1, (k1.trans k2).trans g2, g3⟩
    cases o with
    | none =>
      obtain ⟨μ', g1, g2, g3⟩ := upd rfl
      refine ⟨μ', X10_fillsWhere_at27_ok ⟨hM.live, ?_⟩, g2, g3⟩
      rw [e, nJ_add]
      refine tneg (nI_nlt (by omega) (by omega)) ⟨_, m1, a1, ?_⟩
      rw [e56, show μ.1 0 56 = -1 from hF]
      refine tpos (by decide) ?_
      rintro μ4 rfl μ5 rfl
      rw [e8]
      exact g1
    | some q =>
      obtain ⟨q1, q2⟩ := hO q rfl
      by_cases c : q.1 < whG P l w h r y x
      · obtain ⟨μ', g1, g2, g3⟩ := upd (if_pos c)
        refine ⟨μ', X10_fillsWhere_at27_ok ⟨hM.live, ?_⟩, g2, g3⟩
        rw [e, nJ_add]
        refine tneg (nI_nlt (by omega) (by omega)) ⟨_, m1, a1, ?_⟩
        rw [e56, e55, hF.1, hF.2]
        refine tneg (nI_pos (by omega)) (tpos c ?_)
        rintro μ4 rfl μ5 rfl
        rw [e8]
        exact g1
      · have es : whStep (whG P l w h r) y x (some q) = some q := if_neg c
        obtain ⟨μ', g1, g2, g3⟩ := fills_in hl hw hw8 hh hy hy6 hp hb hc m (x + 1) (some q) m1 (by omega) hO M1 R1 ⟨by rw [e55]; exact hF.1, by rw [e56]; exact hF.2⟩
        rw [nI_succ] at g1
        refine ⟨μ', X10_fillsWhere_at27_ok ⟨hM.live, ?_⟩, k1.trans g2, ?_⟩
        · rw [e, nJ_add]
          refine tneg (nI_nlt (by omega) (by omega)) ⟨_, m1, a1, ?_⟩
          rw [e56, e55, hF.1, hF.2]
          exact tneg (nI_pos (by omega)) (tneg c g1)
        · rw [show whIn (whG P l w h r) y (m + 1) x (some q) = whIn (whG P l w h r) y m (x + 1) (some q) by rw [whIn, es]]
          exact g3
theorem fills_out (hl : l < pL P) (hw : 1 ≤ w) (hw8 : w ≤ 8) (hh : h ≤ 6) (hh1 : 1 ≤ h) (hp : r (48 + l) < 1000000) (hb : SB r) : ∀ (m y : Nat) (o : Wh) (μ : Mem), y + m = pH P + 1 - h → whOK o → MP P μ → RowM μ 33 r → fillM o μ → ∃ μ', X10_fillsWhere_at8 (d + 4) (nI l) (nI w) (nI h) (nI y) μ μ' ∧ Kq scM μ μ' ∧ fillM (whOut (whG P l w h r) (pW P + 1 - w) m y o) μ'
  | 0, y, o, μ, hy, hO, hM, hR, hF => by
    have h6 : pH P ≤ 6 := hM.1.2.1
    have e := hM.rows
    unfold mRows mL at e
    refine ⟨μ, X10_fillsWhere_at8_ok ⟨hM.live, ?_⟩, Kq.refl, hF⟩
    rw [e, nJ_add]
    exact tpos (nI_lt (by omega) (by omega)) rfl
  | m + 1, y, o, μ, hy, hO, hM, hR, hF => by
    have h6 : pH P ≤ 6 := hM.1.2.1
    have h8 : pW P ≤ 8 := hM.1.1
    have e := hM.rows
    unfold mRows mL at e
    by_cases hx : w ≤ pW P
    · obtain ⟨μ', g1, g2, g3⟩ := fills_in (d := d) (y := y) (Z := fun o => whOut (whG P l w h r) (pW P + 1 - w) m (y + 1) o) hl hw hw8 hh (by omega) (by omega) hp hb (fun o μ hO hM hR hF => by
        obtain ⟨μ', q1, q2, q3⟩ := fills_out hl hw hw8 hh hh1 hp hb m (y + 1) o μ (by omega) hO hM hR hF
        rw [nI_succ] at q1
        exact ⟨μ', q1, q2, q3⟩) (pW P + 1 - w) 0 o μ (by omega) hO hM hR hF
      refine ⟨μ', X10_fillsWhere_at8_ok ⟨hM.live, ?_⟩, g2, g3⟩
      rw [e, nJ_add]
      exact tneg (nI_nlt (by omega) (by omega)) g1
    · have e2 := hM.wide
      unfold mWide mL at e2
      obtain ⟨μ', q1, q2, q3⟩ := fills_out hl hw hw8 hh hh1 hp hb m (y + 1) o μ (by omega) hO hM hR hF
      rw [nI_succ] at q1
      refine ⟨μ', X10_fillsWhere_at8_ok ⟨hM.live, ?_⟩, q2, ?_⟩
      · rw [e, nJ_add]
        refine tneg (nI_nlt (by omega) (by omega)) (X10_fillsWhere_at27_ok ⟨hM.live, ?_⟩)
        rw [e2]
        refine tpos ?_ q1
        rw [Int32.zero_add]
        exact nI_lt (by omega) (by omega)
      · rw [show whOut (whG P l w h r) (pW P + 1 - w) (m + 1) y o = whOut (whG P l w h r) (pW P + 1 - w) m (y + 1) o by rw [whOut, show pW P + 1 - w = 0 by omega]; rfl]
        exact q3
theorem whOut_none {G : Nat → Nat → Int32} : ∀ (m y : Nat), whOut G 0 m y none = none
  | 0, _ => rfl
  | m + 1, y => whOut_none m (y + 1)
end
theorem call_where {a b c e : Int32} (hn : n ≤ 512) : Both (X9_where (d + 8) a b c e) (X10_where (d + 8) a b c e) n := by
  rintro μC μM ⟨P, p, r, h⟩
  obtain ⟨⟨hC, hK, hR⟩, ⟨hM, hRM⟩, hS, _⟩ := id h
  have pw := hC.1
  have h8 : pW P ≤ 8 := pw.1
  have h6 : pH P ≤ 6 := pw.2.1
  have h4 := pw.2.2.2.1
  have p1 := isPiece_c (d := d + 6) (a := a) (b := b) (c := c) hC
  have p2 := isPiece_m (d := d + 5) (a := a) (b := b) (c := c) hM
  cases hp : pieceA P a b c with
  | false =>
    rw [hp] at p1 p2
    exact ⟨-1000, μC, μM, X9_where_ok ⟨_, μC, p1, tpos rfl ⟨rfl, rfl⟩⟩, X10_where_ok ⟨_, μM, p2, tpos rfl ⟨rfl, rfl⟩⟩, h.next⟩
  | true =>
    rw [hp] at p1 p2
    obtain ⟨l, w, k, rfl, rfl, rfl, hl, w1, w2, k1, k2⟩ := pieceA_ex pw hp
    have w8 := (pw.2.2.2.2.2.2.2.2.2.1 l hl).2.1
    have hpk := (hS.2.2.1 l hl).1
    have i1 := in_s (d := d + 7) (v := e) (a := 0) (b := nI 2) (μ := μM)
    rw [i3_0 (by decide)] at i1
    cases he : inN e 3 with
    | false =>
      rw [he] at i1
      refine ⟨-1000, μC, μM, X9_where_ok ⟨_, μC, p1, tneg (by decide) ⟨fun _ => ⟨rfl, rfl⟩, fun q => tpos ?_ ⟨rfl, rfl⟩⟩⟩, X10_where_ok ⟨_, μM, p2, tneg (by decide) ⟨_, μM, i1, teq rfl ⟨rfl, rfl⟩⟩⟩, h.next⟩
      obtain ⟨j, j1, rfl⟩ := nI_ex (i_nlt q)
      rw [inN_nI j1] at he
      exact nI_lt (a := 2) (by have := of_decide_eq_false he; omega) j1
    | true =>
      rw [he] at i1
      obtain ⟨j, hj, rfl⟩ := inN_ex he
      have e1 : ¬ nI j < 0 := nI_pos (by omega)
      have e2 : ¬ (2 : Int32) < nI j := nI_nlt (a := 2) (by omega) (by decide)
      obtain ⟨mM, b1, b2, b3⟩ := fills_out (d := d + 2) (h := k) hl w1 (by omega) k2 k1 (by omega) hS.1 (pH P + 1 - k) 0 none (sI μM 0 56 (-1)) (by omega) (fun q z => by cases z) (hM.kp (scM_M (Kq.sI (by unfold scM; omega)))) (fun i hi => by rw [sI_n (by decide)]; exact hRM i hi) (by exact sI_1)
      have kM : Kq scM μM mM := (Kq.sI (by unfold scM; omega)).trans b2
      have f1 : X10_fillsWhere (d + 7) (nI l) (nI w) (nI k) μM mM := X10_fillsWhere_ok (by rintro μ1 rfl; exact b1)
      by_cases hw : w ≤ pW P
      · by_cases hk : k ≤ pH P
        · obtain ⟨m1, a1, a2, a3, a4⟩ := weave_c (d := d + 4) (pick := r (48 + l)) (st := r 88) (h := k) hl w1 w2 k2 hS.1.2 (by omega) hC hK
          have pc := part_c (d := d + 6) (s := 13) (μ := μC) (l := l) (k := 1) (by omega) (by decide)
          rw [(hR.2.2.2.1 l hl).2.1] at pc
          have kC := sWv_sc a2
          have hC1 := hC.kq (scC_n hC.pp kC)
          have hR1 : RowC P 13 m1 r := hR.kq kC fun a j q1 q2 => by have := hC.pp; unfold scC; omega
          have g := where_out (d := d + 5) (l := l) (h := k) hj w1 hw k2 hk hC1 hR1 hS.1 a4.2.2 (pH P + 1 - k) 0 none (by omega)
          obtain ⟨o1, o2⟩ := whOut_some (G := whG P l w k r) (show pW P + 1 - w ≤ 8 by omega) (by omega) (pH P + 1 - k) 0 none (by omega) (fun q z => by cases z) (Or.inr (by omega))
          generalize whOut (whG P l w k r) (pW P + 1 - w) (pH P + 1 - k) 0 none = o at g b3 o1 o2
          cases o with
          | none => cases o2
          | some q =>
            obtain ⟨q1, q2⟩ := o1 q rfl
            refine ⟨whV j (some q), m1, mM, X9_where_ok ⟨_, μC, p1, tneg (by decide) (tneg e1 (tneg e2 ?_))⟩, X10_where_ok ⟨_, μM, p2, tneg (by decide) ⟨_, μM, i1, tne (by decide) ⟨mM, f1, ?_⟩⟩⟩, (h.scr kC a3 kM).next⟩
            · rw [hC.ptr0, hC.num.1, hC.num.2.1]
              refine tneg (nI_nlt hw (by omega)) (tpos (nI_le hk (by omega)) ⟨_, μC, pc, m1, ?_, g⟩)
              rw [hR.2.1]
              exact a1
            · rw [b3.1, b3.2]
              refine tpos (nI_pos' (by omega)) ?_
              unfold whV
              by_cases z0 : j = 0
              · subst z0
                exact teq rfl ⟨rfl, rfl⟩
              · refine tne (nI_ne0 (by omega) (by omega)) ?_
                rw [if_neg z0]
                by_cases z1 : j = 1
                · subst z1
                  refine teq rfl ⟨?_, rfl⟩
                  rw [show (8 : Int32) = nI 8 from rfl, nI_rem (by omega) (by decide), show (8 * q.2.2 + q.2.1) % 8 = q.2.1 by omega]
                  rfl
                · rw [if_neg z1]
                  refine tne (fun z => z1 (nI_inj (b := 1) (by omega) (by decide) z)) ⟨?_, rfl⟩
                  rw [show (8 : Int32) = nI 8 from rfl, nI_div (by omega) (by decide), show (8 * q.2.2 + q.2.1) / 8 = q.2.2 by omega]
                  rfl
        · rw [show pH P + 1 - k = 0 by omega] at b3
          refine ⟨-1000, μC, mM, X9_where_ok ⟨_, μC, p1, tneg (by decide) (tneg e1 (tneg e2 ?_))⟩, X10_where_ok ⟨_, μM, p2, tneg (by decide) ⟨_, μM, i1, tne (by decide) ⟨mM, f1, ?_⟩⟩⟩, (h.scr Kq.refl hK kM).next⟩
          · rw [hC.ptr0, hC.num.1, hC.num.2.1]
            exact tneg (nI_nlt hw (by omega)) (tneg (nI_ge (by omega) (by omega)) ⟨rfl, rfl⟩)
          · rw [show mM.1 0 56 = -1 from b3]
            exact tneg (by decide) ⟨rfl, rfl⟩
      · rw [show pW P + 1 - w = 0 by omega, whOut_none] at b3
        refine ⟨-1000, μC, mM, X9_where_ok ⟨_, μC, p1, tneg (by decide) (tneg e1 (tneg e2 ?_))⟩, X10_where_ok ⟨_, μM, p2, tneg (by decide) ⟨_, μM, i1, tne (by decide) ⟨mM, f1, ?_⟩⟩⟩, (h.scr Kq.refl hK kM).next⟩
        · rw [hC.ptr0, hC.num.1]
          exact tpos (nI_lt (by omega) (by omega)) ⟨rfl, rfl⟩
        · rw [show mM.1 0 56 = -1 from b3]
          exact tneg (by decide) ⟨rfl, rfl⟩
end Calls
