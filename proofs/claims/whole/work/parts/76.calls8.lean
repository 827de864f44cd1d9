/-! ===== calls: holds, suits ===== -/
section Calls
variable {d n : Nat}
def heldA (P : Pl) (l w pick : Nat) : Nat → Nat
  | 0 => 0
  | k + 1 => heldA P l w pick k + thr P l (k % w) (pick + k / w)
theorem heldA_le {P : Pl} {l w pick : Nat} : ∀ k, heldA P l w pick k ≤ 9 * k
  | 0 => Nat.le_refl _
  | k + 1 => by
    have ih := heldA_le (P := P) (l := l) (w := w) (pick := pick) k
    have t := thr_le (P := P) (l := l) (warp := k % w) (pick := pick + k / w)
    show heldA P l w pick k + _ ≤ _
    omega
theorem wvS_whole {P : Pl} {l w pick : Nat} : ∀ k, k ≤ 48 → wvS P l w pick 9999 k = (heldA P l w pick k, false)
  | 0, _ => rfl
  | k + 1, h => by
    have ih := wvS_whole (P := P) (l := l) (w := w) (pick := pick) k (by omega)
    have t := thr_le (P := P) (l := l) (warp := k % w) (pick := pick + k / w)
    have hl := heldA_le (P := P) (l := l) (w := w) (pick := pick) k
    rw [wvS, ih]
    show (if (false || decide (9999 - heldA P l w pick k < thr P l (k % w) (pick + k / w))) = true then _ else _) = _
    rw [decide_eq_false (by omega)]
    rfl
theorem am_whole {P : Pl} {l w pick k : Nat} (hk : k < 48) : amA P l w pick 9999 k = thr P l (k % w) (pick + k / w) := by
  unfold amA
  rw [wvS_whole (k + 1) (by omega)]
  rfl
theorem wh48 {w h : Nat} (hw : w ≤ 8) (hh : h ≤ 6) : w * h ≤ 48 := Nat.mul_le_mul hw hh
theorem weaveWhole_c {P : Pl} {p l w h : Nat} {r : Nat → Nat} {μ : Mem} (hl : l < pL P) (hw : 1 ≤ w) (hwl : w ≤ pWi P l) (hh : h ≤ 6) (hp : r (48 + l) < 1000000) (hC : CP P p μ) (hK : Kc P μ) (hR : RowC P 13 μ r) : ∃ μ', X9_weaveWhole (d + 4) (nI l) (nI w) (nI h) μ μ' ∧ Kq (scC p) μ μ' ∧ Kc P μ' ∧ μ'.1 9 4 = nI (heldA P l w (r (48 + l)) (w * h)) ∧ ∀ j, j < w * h → μ'.1 12 j = nI (thr P l (j % w) (r (48 + l) + j / w)) := by
  have pw := hC.1
  have h4 := pw.2.2.2.1
  have w8 := (pw.2.2.2.2.2.2.2.2.2.1 l hl).2.1
  have h48 := wh48 (show w ≤ 8 by omega) hh
  obtain ⟨m1, a1, a2, a3, a4⟩ := weave_c (d := d) (pick := r (48 + l)) (st := 9999) (h := h) hl hw hwl hh (by decide) (by omega) hC hK
  have pc := part_c (d := d + 2) (s := 13) (μ := μ) (l := l) (k := 1) (by omega) (by decide)
  rw [(hR.2.2.2.1 l hl).2.1] at pc
  refine ⟨m1, X9_weaveWhole_ok ⟨_, μ, pc, m1, a1, rfl⟩, sWv_sc a2, a3, ?_, fun j hj => ?_⟩
  · rw [a4.1, wvS_whole _ h48]
  · rw [a4.2.2 j hj, am_whole (by omega)]
theorem heldBy_c {P : Pl} {p l w h : Nat} {r : Nat → Nat} {μ : Mem} (hl : l < pL P) (hw : 1 ≤ w) (hwl : w ≤ pWi P l) (hh : h ≤ 6) (hp : r (48 + l) < 1000000) (hC : CP P p μ) (hK : Kc P μ) (hR : RowC P 13 μ r) : ∃ μ', X9_heldBy (d + 5) (nI l) (nI w) (nI h) μ (nI (heldA P l w (r (48 + l)) (w * h))) μ' ∧ Kq (scC p) μ μ' ∧ Kc P μ' := by
  obtain ⟨m1, a1, a2, a3, a4, _⟩ := weaveWhole_c (d := d) hl hw hwl hh hp hC hK hR
  exact ⟨m1, X9_heldBy_ok ⟨m1, a1, a4.symm, rfl⟩, a2, a3⟩
theorem heldBy_loop {P : Pl} {l w h : Nat} {r : Nat → Nat} (hl : l < pL P) (hw : 1 ≤ w) (hw8 : w ≤ 8) (hh : h ≤ 6) (hp : r (48 + l) < 1000000) : ∀ (m k : Nat) (μ : Mem), k + m = w * h → MP P μ → RowM μ 33 r → ∃ μ', X10_heldBy_at6 (d + 2) (nI l) (nI w) (nI h) (nI (heldA P l w (r (48 + l)) k)) (nI k) μ (nI (heldA P l w (r (48 + l)) (w * h))) μ' ∧ Kp fVr μ μ'
  | 0, k, μ, hk, hM, hR => by
    have hk : k = w * h := hk
    subst hk
    have h48 := wh48 hw8 hh
    refine ⟨μ, X10_heldBy_at6_ok ?_, Kp.refl⟩
    rw [nI_mul]
    exact tpos (nI_le (Nat.le_refl _) (by omega)) ⟨rfl, rfl⟩
  | m + 1, k, μ, hk, hM, hR => by
    have h48 := wh48 hw8 hh
    have h4 := hM.1.2.2.2.1
    have hkw : k / w ≤ k := Nat.div_le_self k w
    have hw0 : ¬ nI w = 0 := nI_ne0 hw (by omega)
    obtain ⟨m1, a1, a2⟩ := threadOf_m (d := d) (l := l) (warp := k % w) (pick := r (48 + l) + k / w) hl (by omega) hM
    obtain ⟨μ', g1, g2⟩ := heldBy_loop hl hw hw8 hh hp m (k + 1) m1 (by omega) (hM.kp (fV_M a2)) (hR.kp a2 fun _ => rfl)
    rw [nI_succ] at g1
    refine ⟨μ', X10_heldBy_at6_ok ?_, a2.trans g2⟩
    rw [nI_mul, show (48 : Int32) + nI l = nI (48 + l) from nJ_add 48 l, nI_clamp (by omega), hR _ (by omega), nI_rem (by omega) (by omega), nI_div (by omega) (by omega), nJ_add]
    refine tneg (nI_ge (by omega) (by omega)) ⟨hw0, vp_inN (by omega) (by decide), hw0, _, m1, a1, ?_⟩
    rw [nJ_add]
    exact g1
theorem heldBy_m {P : Pl} {l w h : Nat} {r : Nat → Nat} {μ : Mem} (hl : l < pL P) (hw : 1 ≤ w) (hw8 : w ≤ 8) (hh : h ≤ 6) (hp : r (48 + l) < 1000000) (hM : MP P μ) (hR : RowM μ 33 r) : ∃ μ', X10_heldBy (d + 3) (nI l) (nI w) (nI h) μ (nI (heldA P l w (r (48 + l)) (w * h))) μ' ∧ Kp fVr μ μ' := by
  obtain ⟨μ', g1, g2⟩ := heldBy_loop (d := d) hl hw hw8 hh hp (w * h) 0 μ (by omega) hM hR
  exact ⟨μ', X10_heldBy_ok g1, g2⟩
def zerA (P : Pl) (l w pick k : Nat) : Bool := decide (thr P l (k % w) (pick + k / w) = 0)
theorem empties_c {P : Pl} {l w h pick : Nat} {μ : Mem} (hw8 : w ≤ 8) (hh : h ≤ 6) (ha : ∀ j, j < w * h → μ.1 12 j = nI (thr P l (j % w) (pick + j / w))) : ∀ (m k : Nat), k + m = w * h → X7_emptyThreads_at5 d (nI w) (nI h) (nI (cntA (zerA P l w pick) k)) (nI k) μ (nI (cntA (zerA P l w pick) (w * h))) μ
  | 0, k, hk => by
    have hk : k = w * h := hk
    subst hk
    have h48 := wh48 hw8 hh
    refine X7_emptyThreads_at5_ok ?_
    rw [nI_mul]
    exact tpos (nI_le (Nat.le_refl _) (by omega)) ⟨rfl, rfl⟩
  | m + 1, k, hk => by
    have h48 := wh48 hw8 hh
    have ih := empties_c (P := P) (l := l) (pick := pick) hw8 hh ha m (k + 1) (by omega)
    have t := thr_le (P := P) (l := l) (warp := k % w) (pick := pick + k / w)
    have e : cntA (zerA P l w pick) (k + 1) = cntA (zerA P l w pick) k + if zerA P l w pick k then 1 else 0 := rfl
    rw [e, nI_succ k] at ih
    refine X7_emptyThreads_at5_ok ?_
    rw [nI_mul, nI_clamp (by omega), ha k (by omega)]
    refine tneg (nI_ge (by omega) (by omega)) (tneg (nI_ge (b := 48) (by omega) (by decide)) ⟨vp_inN (by omega) (by decide), ?_⟩)
    unfold zerA at ih ⊢
    by_cases z : thr P l (k % w) (pick + k / w) = 0
    · rw [decide_eq_true z, if_pos rfl, nI_succ] at ih
      exact teq (by rw [z]; rfl) ih
    · rw [decide_eq_false z] at ih
      exact tne (nI_ne0 (by omega) (by omega)) ih
theorem holds_loop {P : Pl} {l w h : Nat} {r : Nat → Nat} (hl : l < pL P) (hw : 1 ≤ w) (hw8 : w ≤ 8) (hh : h ≤ 6) (hp : r (48 + l) < 1000000) : ∀ (m k : Nat) (μ : Mem), k + m = w * h → MP P μ → RowM μ 33 r → ∃ μ', X10_holds_at31 (d + 2) (nI l) (nI w) (nI h) (nI (cntA (zerA P l w (r (48 + l))) k)) (nI k) μ (nI (cntA (zerA P l w (r (48 + l))) (w * h))) μ' ∧ Kp fVr μ μ'
  | 0, k, μ, hk, hM, hR => by
    have hk : k = w * h := hk
    subst hk
    have h48 := wh48 hw8 hh
    refine ⟨μ, X10_holds_at31_ok ?_, Kp.refl⟩
    rw [nI_mul]
    exact tpos (nI_le (Nat.le_refl _) (by omega)) ⟨rfl, rfl⟩
  | m + 1, k, μ, hk, hM, hR => by
    have h48 := wh48 hw8 hh
    have h4 := hM.1.2.2.2.1
    have hkw : k / w ≤ k := Nat.div_le_self k w
    have hw0 : ¬ nI w = 0 := nI_ne0 hw (by omega)
    have t := thr_le (P := P) (l := l) (warp := k % w) (pick := r (48 + l) + k / w)
    obtain ⟨m1, a1, a2⟩ := threadOf_m (d := d) (l := l) (warp := k % w) (pick := r (48 + l) + k / w) hl (by omega) hM
    obtain ⟨μ', g1, g2⟩ := holds_loop hl hw hw8 hh hp m (k + 1) m1 (by omega) (hM.kp (fV_M a2)) (hR.kp a2 fun _ => rfl)
    have e : cntA (zerA P l w (r (48 + l))) (k + 1) = cntA (zerA P l w (r (48 + l))) k + if zerA P l w (r (48 + l)) k then 1 else 0 := rfl
    rw [e, nI_succ k] at g1
    refine ⟨μ', X10_holds_at31_ok ?_, a2.trans g2⟩
    rw [nI_mul, show (48 : Int32) + nI l = nI (48 + l) from nJ_add 48 l, nI_clamp (by omega), hR _ (by omega), nI_rem (by omega) (by omega), nI_div (by omega) (by omega), nJ_add]
    refine tneg (nI_ge (by omega) (by omega)) ⟨hw0, vp_inN (by omega) (by decide), hw0, _, m1, a1, ?_⟩
    unfold zerA at g1 ⊢
    by_cases z : thr P l (k % w) (r (48 + l) + k / w) = 0
    · rw [decide_eq_true z, if_pos rfl, nI_succ] at g1
      exact teq (by rw [z]; rfl) g1
    · rw [decide_eq_false z] at g1
      exact tne (nI_ne0 (by omega) (by omega)) g1
theorem call_holds {a b c e : Int32} (hn : n ≤ 512) : Both (X9_holds (d + 8) a b c e) (X10_holds (d + 8) a b c e) n := by
  rintro μC μM ⟨P, p, r, h⟩
  obtain ⟨⟨hC, hK, hR⟩, ⟨hM, hRM⟩, hS, _⟩ := id h
  have pw := hC.1
  have p1 := isPiece_c (d := d + 6) (a := a) (b := b) (c := c) hC
  have p2 := isPiece_m (d := d + 5) (a := a) (b := b) (c := c) hM
  cases hp : pieceA P a b c with
  | false =>
    rw [hp] at p1 p2
    exact ⟨-1, μC, μM, X9_holds_ok ⟨_, μC, p1, teq rfl ⟨rfl, rfl⟩⟩, X10_holds_ok ⟨_, μM, p2, teq rfl ⟨rfl, rfl⟩⟩, h.next⟩
  | true =>
    rw [hp] at p1 p2
    obtain ⟨l, w, k, rfl, rfl, rfl, hl, w1, w2, k1, k2⟩ := pieceA_ex pw hp
    have w8 := (pw.2.2.2.2.2.2.2.2.2.1 l hl).2.1
    have hpk := (hS.2.2.1 l hl).1
    obtain ⟨m1, a1, a2, a3, a4, a5⟩ := weaveWhole_c (d := d + 3) (h := k) hl w1 w2 k2 (by omega) hC hK hR
    by_cases he : e = 0
    · obtain ⟨n1, b1, b2⟩ := heldBy_m (d := d + 4) (h := k) hl w1 (by omega) k2 (by omega) hM hRM
      exact ⟨_, m1, n1, X9_holds_ok ⟨_, μC, p1, tne (by decide) ⟨m1, a1, tpos he ⟨a4.symm, rfl⟩⟩⟩, X10_holds_ok ⟨_, μM, p2, tne (by decide) (teq he ⟨_, n1, b1, rfl, rfl⟩)⟩, (h.scr a2 a3 (fV_scM b2)).next⟩
    · obtain ⟨n1, b1, b2⟩ := holds_loop (d := d + 5) (h := k) hl w1 (by omega) k2 (by omega) (w * k) 0 μM (by omega) hM hRM
      exact ⟨_, m1, n1, X9_holds_ok ⟨_, μC, p1, tne (by decide) ⟨m1, a1, tneg he ⟨_, m1, X7_emptyThreads_ok (empties_c (P := P) (by omega) k2 a5 (w * k) 0 (by omega)), rfl, rfl⟩⟩⟩, X10_holds_ok ⟨_, μM, p2, tne (by decide) (tne he b1)⟩, (h.scr a2 a3 (fV_scM b2)).next⟩
/-- how far apart -/
def absd (a b : Nat) : Nat := if b ≤ a then a - b else b - a
theorem sub_neg {a b : Nat} (h : a < b) (hb : b < 2 ^ 31) : ¬ (0 : Int32) ≤ nI a - nI b ∧ 0 - (nI a - nI b) = nI (b - a) := by
  constructor
  · intro q
    rw [Int32.le_iff_toInt_le, Int32.toInt_sub, nI_toInt (by omega), nI_toInt hb, show (0 : Int32).toInt = 0 from rfl, Int.bmod_eq_of_le (by omega) (by omega)] at q
    omega
  · rw [Int32.zero_sub, Int32.neg_sub, nI_sub (by omega)]
theorem ab_nI {a b : Nat} (ha : a < 2 ^ 31) (hb : b < 2 ^ 31) : ab (nI a - nI b) = nI (absd a b) := by
  unfold ab absd
  by_cases h : b ≤ a
  · rw [nI_sub h, if_pos (nI_pos' (by omega)), if_pos h]
  · obtain ⟨q1, q2⟩ := sub_neg (show a < b by omega) hb
    rw [if_neg q1, if_neg h, q2]
def offA (P : Pl) (r : Nat → Nat) (w h f l : Nat) : Nat := absd (heldA P l w (r (48 + l)) (w * h)) (cellsA P f 48 * pNe P f)
theorem cellsA_le {P : Pl} {f : Nat} : ∀ c, cellsA P f c ≤ c
  | 0 => Nat.le_refl _
  | c + 1 => by
    have := cellsA_le (P := P) (f := f) c
    show cellsA P f c + _ ≤ _
    split <;> omega
theorem need_le {P : Pl} (pw : PW P) {f : Nat} (hf : f < pF P) : cellsA P f 48 * pNe P f ≤ 4752 := by
  have h1 := cellsA_le (P := P) (f := f) 48
  have h2 := (pw.2.2.2.2.2.2.2.2.1 f hf).1
  exact Nat.le_trans (Nat.mul_le_mul h1 h2) (by decide)
theorem offA_le {P : Pl} (pw : PW P) {r : Nat → Nat} {w h f l : Nat} (hw8 : w ≤ 8) (hh : h ≤ 6) (hf : f < pF P) : offA P r w h f l ≤ 4752 := by
  have h48 := wh48 hw8 hh
  have a1 := heldA_le (P := P) (l := l) (w := w) (pick := r (48 + l)) (w * h)
  have a2 := need_le pw hf
  unfold offA absd
  split <;> omega
theorem offBy_m {P : Pl} {l w h f : Nat} {r : Nat → Nat} {μ : Mem} (hl : l < pL P) (hf : f < pF P) (hw : 1 ≤ w) (hw8 : w ≤ 8) (hh : h ≤ 6) (hp : r (48 + l) < 1000000) (hM : MP P μ) (hR : RowM μ 33 r) : ∃ μ', X10_offBy (d + 5) (nI l) (nI f) (nI w) (nI h) μ (nI (offA P r w h f l)) μ' ∧ Kp fVr μ μ' := by
  have pw := hM.1
  have h48 := wh48 hw8 hh
  have a1 := heldA_le (P := P) (l := l) (w := w) (pick := r (48 + l)) (w * h)
  have a2 := need_le pw hf
  obtain ⟨m1, b1, b2⟩ := heldBy_m (d := d + 1) (h := h) hl hw hw8 hh hp hM hR
  refine ⟨m1, X10_offBy_ok ⟨_, m1, b1, _, m1, needAll_m hf (hM.kp (fV_M b2)), ?_⟩, b2⟩
  unfold offA absd
  by_cases q : cellsA P f 48 * pNe P f ≤ heldA P l w (r (48 + l)) (w * h)
  · rw [nI_sub q, if_pos q]
    exact tpos (nI_pos' (by omega)) ⟨rfl, rfl⟩
  · obtain ⟨q1, q2⟩ := sub_neg (show heldA P l w (r (48 + l)) (w * h) < cellsA P f 48 * pNe P f by omega) (by omega)
    rw [if_neg q]
    refine tneg q1 ⟨?_, rfl⟩
    rw [← q2, Int32.zero_sub]
/-- the LOOM that suits best, of those below l (none yet: no) -/
def suitA (P : Pl) (r : Nat → Nat) (w h f : Nat) : Nat → Option Nat
  | 0 => none
  | l + 1 => if pWi P l < w then suitA P r w h f l else match suitA P r w h f l with
    | none => some l
    | some b => if offA P r w h f l < offA P r w h f b then some l else some b
theorem suitA_lt {P : Pl} {r : Nat → Nat} {w h f : Nat} : ∀ l b, suitA P r w h f l = some b → b < l ∧ w ≤ pWi P b
  | 0, b, q => by cases q
  | l + 1, b, q => by
    unfold suitA at q
    by_cases c : pWi P l < w
    · rw [if_pos c] at q
      have := suitA_lt l b q
      exact ⟨by omega, this.2⟩
    · rw [if_neg c] at q
      cases hs : suitA P r w h f l with
      | none =>
        rw [hs] at q
        cases q
        exact ⟨by omega, by omega⟩
      | some b' =>
        rw [hs] at q
        have i := suitA_lt l b' hs
        dsimp only at q
        split at q
        · cases q; exact ⟨by omega, by omega⟩
        · cases q; exact ⟨by omega, i.2⟩
theorem isSize_c {a b : Int32} {μ : Mem} : X9_isSize d a b μ (bI (inN (a - 1) 8 && inN (b - 1) 6)) μ := by
  refine X9_isSize_ok ?_
  cases ha : inN (a - 1) 8 with
  | false =>
    rcases rng1_f (by decide) ha with q | q
    · exact tpos q ⟨rfl, rfl⟩
    · exact ⟨fun _ => ⟨rfl, rfl⟩, fun _ => tpos q ⟨rfl, rfl⟩⟩
  | true =>
    obtain ⟨w, w1, w2, rfl⟩ := (rng1 (by decide)).mp ha
    refine tneg (nI_nlt (b := 1) w1 (by omega)) (tneg (nI_nlt (a := 8) w2 (by decide)) ?_)
    cases hb : inN (b - 1) 6 with
    | false =>
      rcases rng1_f (by decide) hb with q | q
      · exact tpos q ⟨rfl, rfl⟩
      · exact ⟨fun _ => ⟨rfl, rfl⟩, fun _ => tpos q ⟨rfl, rfl⟩⟩
    | true =>
      obtain ⟨k, k1, k2, rfl⟩ := (rng1 (by decide)).mp hb
      exact tneg (nI_nlt (b := 1) k1 (by omega)) (tneg (nI_nlt (a := 6) k2 (by decide)) ⟨rfl, rfl⟩)
theorem suits_c {P : Pl} {p w h f : Nat} {r : Nat → Nat} (hn : n ≤ 512) (hf : f < pF P) (hw : 1 ≤ w) (hw8 : w ≤ 8) (hh : h ≤ 6) : ∀ (m l : Nat) (μC μM : Mem), l + m = pL P → SimP n P p r μC μM → ∃ μ', X9_suits_at43 (d + 6) (nI w) (nI h) (nI (cellsA P f 48 * pNe P f)) (fI (suitA P r w h f l)) (match suitA P r w h f l with | none => 1000000 | some b => nI (offA P r w h f b)) (nI l) μC (fI (suitA P r w h f (pL P))) μ' ∧ Kq (scC p) μC μ' ∧ Kc P μ'
  | 0, l, μC, μM, hl, hs => by
    have hl : l = pL P := hl
    subst hl
    have hC := hs.1.1
    have h4 := hC.1.2.2.2.1
    refine ⟨μC, X9_suits_at43_ok ?_, Kq.refl, hs.1.2.1⟩
    rw [hC.ptr0, hC.num.2.2.2.1]
    exact tpos (nI_le (Nat.le_refl _) (by omega)) ⟨rfl, rfl⟩
  | m + 1, l, μC, μM, hl, hs => by
    obtain ⟨⟨hC, hK, hR⟩, _, hS, _⟩ := id hs
    have pw := hC.1
    have h4 := pw.2.2.2.1
    have w9 := (pw.2.2.2.2.2.2.2.2.2.1 l (by omega)).2.1
    have hn1 : ¬ nI (pL P) ≤ nI l := nI_ge (by omega) (by omega)
    have vl : vp_in (nI l) 4 := vp_inN (by omega) (by decide)
    by_cases c : pWi P l < w
    · have es : suitA P r w h f (l + 1) = suitA P r w h f l := if_pos c
      obtain ⟨μ', g1, g2⟩ := suits_c hn hf hw hw8 hh m (l + 1) μC μM (by omega) hs
      rw [es, nI_succ] at g1
      refine ⟨μ', X9_suits_at43_ok ?_, g2⟩
      rw [hC.ptr0, hC.num.2.2.2.1, nI_clamp (by omega), (hC.loo (show l < pL P by omega)).1]
      exact tneg hn1 ⟨vl, tpos (nI_lt c (by omega)) g1⟩
    · have hpk := (hS.2.2.1 l (by omega)).1
      obtain ⟨m1, a1, a2, a3⟩ := heldBy_c (d := d + 1) (h := h) (show l < pL P by omega) hw (by omega) hh (by omega) hC hK hR
      obtain ⟨μ', g1, g2, g3⟩ := suits_c hn hf hw hw8 hh m (l + 1) m1 μM (by omega) (hs.scr a2 a3 Kq.refl)
      have h48 := wh48 hw8 hh
      have b1 := heldA_le (P := P) (l := l) (w := w) (pick := r (48 + l)) (w * h)
      have b2 := need_le pw hf
      have ea : ab (nI (heldA P l w (r (48 + l)) (w * h)) - nI (cellsA P f 48 * pNe P f)) = nI (offA P r w h f l) := ab_nI (by omega) (by omega)
      have ol := offA_le (r := r) (l := l) pw hw8 hh hf
      rw [nI_succ] at g1
      have es : suitA P r w h f (l + 1) = match suitA P r w h f l with
        | none => some l
        | some b => if offA P r w h f l < offA P r w h f b then some l else some b := by
        rw [suitA, if_neg c]
      refine ⟨μ', X9_suits_at43_ok ?_, a2.trans g2, g3⟩
      rw [hC.ptr0, hC.num.2.2.2.1, nI_clamp (by omega), (hC.loo (show l < pL P by omega)).1]
      refine tneg hn1 ⟨vl, tneg (nI_nlt (by omega) (by omega)) ⟨_, m1, a1, ?_⟩⟩
      rw [ea]
      cases hq : suitA P r w h f l with
      | none =>
        rw [hq] at es
        rw [es] at g1
        exact tneg (nI_ge (b := 1000000) (by omega) (by decide)) g1
      | some b =>
        rw [hq] at es
        have ob := offA_le (r := r) (l := b) pw hw8 hh hf
        dsimp only at es ⊢
        by_cases q : offA P r w h f l < offA P r w h f b
        · rw [if_pos q] at es
          rw [es] at g1
          exact tneg (nI_ge q (by omega)) g1
        · rw [if_neg q] at es
          rw [es] at g1
          exact tpos (nI_le (by omega) (by omega)) g1
theorem suits_m {P : Pl} {w h f B : Nat} {r : Nat → Nat} (hB : B < 900000) (hf : f < pF P) (hw : 1 ≤ w) (hw8 : w ≤ 8) (hh : h ≤ 6) (hS : SW P B r) : ∀ (m l : Nat) (μ : Mem), l + m = pL P → MP P μ → RowM μ 33 r → ∃ μ', X10_suits_at37 (d + 5) (nI f) (nI w) (nI h) (fI (suitA P r w h f l)) (nI l) μ (fI (suitA P r w h f (pL P))) μ' ∧ Kp fVr μ μ'
  | 0, l, μ, hl, hM, hR => by
    have hl : l = pL P := hl
    subst hl
    have h4 := hM.1.2.2.2.1
    obtain ⟨L, h1, h2, _, mm⟩ := hM.eL
    refine ⟨μ, X10_suits_at37_ok ⟨hM.live, ?_⟩, Kp.refl⟩
    rw [h2, nI_clamp (by omega), mm.2.2.2.2.2.1]
    exact tpos (nI_le (Nat.le_refl _) (by omega)) ⟨rfl, rfl⟩
  | m + 1, l, μ, hl, hM, hR => by
    have pw := hM.1
    have h4 := pw.2.2.2.1
    have w9 := (pw.2.2.2.2.2.2.2.2.2.1 l (by omega)).2.1
    obtain ⟨L, h1, h2, _, mm⟩ := hM.eL
    have hn1 : ¬ nI (pL P) ≤ nI l := nI_ge (by omega) (by omega)
    have e4 : (4 : Int32) * μ.1 0 18 + nI l = nI (4 * L + l) := by rw [h2, show (4 : Int32) = nI 4 from rfl, nI_mul, nJ_add]
    have ewi := (mm.2.2.2.2.2.2.2.2.2.2.2.1 l (by omega)).1
    have v8 : vp_in (nI (4 * L + l)) 8 := vp_inN (by omega) (by decide)
    by_cases c : pWi P l < w
    · have es : suitA P r w h f (l + 1) = suitA P r w h f l := if_pos c
      obtain ⟨μ', g1, g2⟩ := suits_m hB hf hw hw8 hh hS m (l + 1) μ (by omega) hM hR
      rw [es, nI_succ] at g1
      refine ⟨μ', X10_suits_at37_ok ⟨hM.live, ?_⟩, g2⟩
      rw [e4, h2, nI_clamp (by omega), mm.2.2.2.2.2.1, nI_clamp (show 4 * L + l < 2 ^ 31 by omega), ewi]
      exact tneg hn1 ⟨v8, tpos (nI_lt c (by omega)) g1⟩
    · have es : suitA P r w h f (l + 1) = match suitA P r w h f l with
        | none => some l
        | some b => if offA P r w h f l < offA P r w h f b then some l else some b := by
        rw [suitA, if_neg c]
      cases hq : suitA P r w h f l with
      | none =>
        rw [hq] at es
        obtain ⟨μ', g1, g2⟩ := suits_m hB hf hw hw8 hh hS m (l + 1) μ (by omega) hM hR
        rw [es, nI_succ] at g1
        refine ⟨μ', X10_suits_at37_ok ⟨hM.live, ?_⟩, g2⟩
        rw [e4, h2, nI_clamp (by omega), mm.2.2.2.2.2.1, nI_clamp (show 4 * L + l < 2 ^ 31 by omega), ewi]
        exact tneg hn1 ⟨v8, tneg (nI_nlt (by omega) (by omega)) (tpos (by decide) g1)⟩
      | some b =>
        obtain ⟨bl, bw⟩ := suitA_lt l b hq
        have p1 := (hS.2.2.1 l (by omega)).1
        have p2 := (hS.2.2.1 b (by omega)).1
        obtain ⟨n1, a1, a2⟩ := offBy_m (d := d) (h := h) (f := f) (show l < pL P by omega) hf hw hw8 hh (by omega) hM hR
        have hM1 := hM.kp (fV_M a2)
        have hR1 : RowM n1 33 r := hR.kp a2 fun _ => rfl
        obtain ⟨n2, b1, b2⟩ := offBy_m (d := d) (h := h) (f := f) (show b < pL P by omega) hf hw hw8 hh (by omega) hM1 hR1
        obtain ⟨μ', g1, g2⟩ := suits_m hB hf hw hw8 hh hS m (l + 1) n2 (by omega) (hM1.kp (fV_M b2)) (hR1.kp b2 fun _ => rfl)
        rw [hq] at es
        rw [nI_succ] at g1
        have ol := offA_le (r := r) (l := l) pw hw8 hh hf
        have ob := offA_le (r := r) (l := b) pw hw8 hh hf
        refine ⟨μ', X10_suits_at37_ok ⟨hM.live, ?_⟩, (a2.trans b2).trans g2⟩
        rw [e4, h2, nI_clamp (by omega), mm.2.2.2.2.2.1, nI_clamp (show 4 * L + l < 2 ^ 31 by omega), ewi]
        refine tneg hn1 ⟨v8, tneg (nI_nlt (by omega) (by omega)) (tneg (nI_pos (n := b) (by omega)) ⟨_, n1, a1, _, n2, b1, ?_⟩)⟩
        dsimp only at es
        by_cases q : offA P r w h f l < offA P r w h f b
        · rw [if_pos q] at es
          rw [es] at g1
          exact tneg (nI_ge q (by omega)) g1
        · rw [if_neg q] at es
          rw [es] at g1
          exact tpos (nI_le (by omega) (by omega)) g1
theorem call_suits {a b c : Int32} (hn : n ≤ 512) : Both (X9_suits (d + 8) a b c) (X10_suits (d + 8) a b c) n := by
  rintro μC μM ⟨P, p, r, h⟩
  obtain ⟨⟨hC, hK, hR⟩, ⟨hM, hRM⟩, hS, _⟩ := id h
  have pw := hC.1
  have p1 := hasField_c (d := d + 7) (x := a) hC
  have p2 := isField_m (d := d + 6) (f := a) hM
  cases hp : inN a (pF P) with
  | false =>
    rw [hp] at p1 p2
    exact ⟨-1, μC, μM, X9_suits_ok ⟨_, μC, by rw [hC.ptr0]; exact p1, tpos rfl ⟨rfl, rfl⟩⟩, X10_suits_ok ⟨_, μM, p2, tpos rfl ⟨rfl, rfl⟩⟩, h.next⟩
  | true =>
    rw [hp] at p1 p2
    obtain ⟨f, hf, rfl⟩ := inN_ex hp
    have s1 := isSize_c (d := d + 7) (a := b) (b := c) (μ := μC)
    have i1 := in_s (d := d + 7) (v := b) (a := 1) (b := nI 8) (μ := μM)
    rw [in1 (by decide)] at i1
    have i2 := in_s (d := d + 7) (v := c) (a := 1) (b := nI 6) (μ := μM)
    rw [in1 (by decide)] at i2
    cases hb : inN (b - 1) 8 with
    | false =>
      rw [hb] at s1 i1
      exact ⟨-1, μC, μM, X9_suits_ok ⟨_, μC, by rw [hC.ptr0]; exact p1, tneg (by decide) ⟨_, μC, s1, teq rfl ⟨rfl, rfl⟩⟩⟩, X10_suits_ok ⟨_, μM, p2, tneg (by decide) ⟨_, μM, i1, tpos rfl ⟨rfl, rfl⟩⟩⟩, h.next⟩
    | true =>
      rw [hb] at s1 i1
      cases hc : inN (c - 1) 6 with
      | false =>
        rw [hc] at s1 i2
        exact ⟨-1, μC, μM, X9_suits_ok ⟨_, μC, by rw [hC.ptr0]; exact p1, tneg (by decide) ⟨_, μC, s1, teq rfl ⟨rfl, rfl⟩⟩⟩, X10_suits_ok ⟨_, μM, p2, tneg (by decide) ⟨_, μM, i1, tneg (by decide) ⟨_, μM, i2, teq rfl ⟨rfl, rfl⟩⟩⟩⟩, h.next⟩
      | true =>
        rw [hc] at s1 i2
        obtain ⟨w, w1, w2, rfl⟩ := (rng1 (by decide)).mp hb
        obtain ⟨k, k1, k2, rfl⟩ := (rng1 (by decide)).mp hc
        obtain ⟨mC, a1, a2, a3⟩ := suits_c (d := d + 1) (h := k) hn hf w1 w2 k2 (pL P) 0 μC μM (by omega) h
        obtain ⟨mM, b1, b2⟩ := suits_m (d := d + 2) (h := k) (B := 99 + 720 * n) (by omega) hf w1 w2 k2 hS (pL P) 0 μM (by omega) hM hRM
        exact ⟨_, mC, mM, X9_suits_ok ⟨_, μC, by rw [hC.ptr0]; exact p1, tneg (by decide) ⟨_, μC, s1, tne (by decide) ⟨_, μC, by rw [hC.ptr0]; exact needOf_c hf hC, a1⟩⟩⟩, X10_suits_ok ⟨_, μM, p2, tneg (by decide) ⟨_, μM, i1, tneg (by decide) ⟨_, μM, i2, tne (by decide) b1⟩⟩⟩, (h.scr a2 a3 (fV_scM b2)).next⟩
end Calls
