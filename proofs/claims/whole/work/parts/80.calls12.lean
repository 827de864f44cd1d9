/-! ===== calls: fell, look ===== -/
section Calls
variable {d n : Nat}
section
variable {P : Pl} {p w h k : Nat} {r X Y W : Nat → Nat}
def wetE (P : Pl) (r : Nat → Nat) (w h c cx cy : Nat) : Nat := if c % 8 ≤ cx ∧ cx < c % 8 + w ∧ c / 8 % 8 ≤ cy ∧ cy < c / 8 % 8 + h then thr P (c / 64) (cx - c % 8) (r (48 + c / 64) + (cy - c / 8 % 8)) else 0
theorem wetE_le {c cx cy : Nat} : wetE P r w h c cx cy ≤ 9 := by
  unfold wetE
  split
  · exact thr_le
  · omega
def agF (P : Pl) (r : Nat → Nat) (w h : Nat) (X Y W : Nat → Nat) (c : Nat) : Nat → Nat → Bool
  | 0, _ => true
  | m + 1, i => decide (wetE P r w h c (X i) (Y i) = W i) && agF P r w h X Y W c m (i + 1)
def isW (P : Pl) (r : Nat → Nat) (w h : Nat) (X Y W : Nat → Nat) (k c : Nat) : Bool := decide (c / 64 < pL P) && (decide (w ≤ pWi P (c / 64)) && (decide (c % 8 + w ≤ pW P) && (decide (c / 8 % 8 + h ≤ pH P) && agF P r w h X Y W c k 0)))
def cod (c : Nat) : Nat := 100 * (c / 64) + 10 * (c / 8 % 8) + c % 8
theorem inN_sub {a b v : Nat} (ha : a < 1000) (hb : b < 1000) : inN (nI a - nI b) v = decide (b ≤ a ∧ a < b + v) := by
  by_cases q : b ≤ a
  · rw [nI_sub q, inN_nI (by omega)]
    by_cases z : a - b < v
    · rw [decide_eq_true z, decide_eq_true (by omega)]
    · rw [decide_eq_false z, decide_eq_false (by omega)]
  · obtain ⟨q1, _⟩ := sub_neg (show a < b by omega) (by omega)
    rw [decide_eq_false (by omega)]
    cases e : inN (nI a - nI b) v with
    | false => rfl
    | true =>
      obtain ⟨j, hj, e2⟩ := inN_ex e
      refine absurd ?_ q1
      exact i_nlt fun z => (inN_iff.mp e) (Or.inl z)
theorem wetBy_m {c cx cy : Nat} {μ : Mem} (hl : c / 64 < pL P) (hc : c < 256) (hx : cx < 8) (hy : cy < 8) (hw : 1 ≤ w) (hw8 : w ≤ 8) (hh : 1 ≤ h) (hh6 : h ≤ 6) (hp : r (48 + c / 64) < 1000000) (hM : MP P μ) (hR : RowM μ 33 r) : ∃ μ', X10_wetBy (d + 3) (nI c) (nI w) (nI h) (nI (8 * cy + cx)) μ (nI (wetE P r w h c cx cy)) μ' ∧ Kp fVr μ μ' := by
  have h4 := hM.1.2.2.2.1
  have e8 : (8 : Int32) = nI 8 := rfl
  have e1 : nI (8 * cy + cx) - nI (8 * cy + cx) / 8 * 8 = nI cx := by rw [e8, nI_rem (by omega) (by decide), show (8 * cy + cx) % 8 = cx by omega]
  have e2 : nI c - nI c / 8 * 8 = nI (c % 8) := by rw [e8, nI_rem (by omega) (by decide)]
  have e3 : nI (8 * cy + cx) / 8 = nI cy := by rw [e8, nI_div (by omega) (by decide), show (8 * cy + cx) / 8 = cy by omega]
  have e4 : nI c / 8 - nI c / 8 / 8 * 8 = nI (c / 8 % 8) := by rw [e8, nI_div (by omega) (by decide), nI_rem (by omega) (by decide)]
  have e5 : nI c / 64 = nI (c / 64) := by rw [show (64 : Int32) = nI 64 from rfl, nI_div (by omega) (by decide)]
  have i1 := in_s (d := d + 2) (v := nI cx - nI (c % 8)) (a := 0) (b := nI w - 1) (μ := μ)
  rw [inI_N (by omega), inN_sub (by omega) (by omega)] at i1
  have i2 := in_s (d := d + 2) (v := nI cy - nI (c / 8 % 8)) (a := 0) (b := nI h - 1) (μ := μ)
  rw [inI_N (by omega), inN_sub (by omega) (by omega)] at i2
  by_cases q1 : c % 8 ≤ cx ∧ cx < c % 8 + w
  · rw [decide_eq_true q1] at i1
    by_cases q2 : c / 8 % 8 ≤ cy ∧ cy < c / 8 % 8 + h
    · rw [decide_eq_true q2] at i2
      obtain ⟨v1, v2⟩ := now48_m (show c / 64 < 4 by omega) hR
      obtain ⟨m1, a1, a2⟩ := threadOf_m (d := d) (l := c / 64) (warp := cx - c % 8) (pick := r (48 + c / 64) + (cy - c / 8 % 8)) hl (by omega) hM
      refine ⟨m1, X10_wetBy_ok ?_, a2⟩
      rw [e1, e2, e3, e4, e5]
      refine ⟨_, μ, i1, tneg (by decide) ⟨_, μ, i2, tneg (by decide) ⟨v1, nI (thr P (c / 64) (cx - c % 8) (r (48 + c / 64) + (cy - c / 8 % 8))), m1, ?_, ?_, rfl⟩⟩⟩
      · rw [v2, nI_sub q1.1, nI_sub q2.1, nJ_add]
        exact a1
      · unfold wetE
        rw [if_pos ⟨q1.1, q1.2, q2.1, q2.2⟩]
    · rw [decide_eq_false q2] at i2
      refine ⟨μ, X10_wetBy_ok ?_, Kp.refl⟩
      rw [e1, e2, e3, e4, e5]
      refine ⟨_, μ, i1, tneg (by decide) ⟨_, μ, i2, tpos rfl ⟨?_, rfl⟩⟩⟩
      unfold wetE
      rw [if_neg fun z => q2 ⟨z.2.2.1, z.2.2.2⟩]
      rfl
  · rw [decide_eq_false q1] at i1
    refine ⟨μ, X10_wetBy_ok ?_, Kp.refl⟩
    rw [e1, e2, e3, e4, e5]
    refine ⟨_, μ, i1, tpos rfl ⟨?_, rfl⟩⟩
    unfold wetE
    rw [if_neg fun z => q1 ⟨z.1, z.2.1⟩]
    rfl
def TdM (X Y W : Nat → Nat) (k : Nat) (μ : Mem) : Prop := k ≤ 20 ∧ ∀ i, i < k → X i < 8 ∧ Y i < 8 ∧ W i ≤ 999 ∧ μ.1 41 i = nI (8 * Y i + X i) ∧ μ.1 42 i = nI (W i)
theorem TdM.kp {μ μ' : Mem} (hT : TdM X Y W k μ) (q : Kp fVr μ μ') : TdM X Y W k μ' := ⟨hT.1, fun i hi => by
  obtain ⟨t1, t2, t3, t4, t5⟩ := hT.2 i hi
  exact ⟨t1, t2, t3, (q.at rfl).trans t4, (q.at rfl).trans t5⟩⟩
theorem isWay75 {c : Nat} (hl : c / 64 < pL P) (hc : c < 256) (hw : 1 ≤ w) (hw8 : w ≤ 8) (hh : 1 ≤ h) (hh6 : h ≤ 6) (hp : r (48 + c / 64) < 1000000) : ∀ (m i : Nat) (μ : Mem), i + m = k → MP P μ → RowM μ 33 r → TdM X Y W k μ → ∃ μ', X10_isWay_at75 (d + 3) (nI c) (nI w) (nI h) (nI k) (nI i) μ (bI (agF P r w h X Y W c m i)) μ' ∧ Kp fVr μ μ'
  | 0, i, μ, hi, hM, hR, hT => by
    have hi : i = k := hi
    subst hi
    have := hT.1
    exact ⟨μ, X10_isWay_at75_ok (tpos (nI_le (Nat.le_refl _) (by omega)) ⟨rfl, rfl⟩), Kp.refl⟩
  | m + 1, i, μ, hi, hM, hR, hT => by
    have hk := hT.1
    obtain ⟨t1, t2, t3, t4, t5⟩ := hT.2 i (by omega)
    have wl := wetE_le (P := P) (r := r) (w := w) (h := h) (c := c) (cx := X i) (cy := Y i)
    obtain ⟨m1, a1, a2⟩ := wetBy_m (d := d) hl hc t1 t2 hw hw8 hh hh6 hp hM hR
    have ec : (nI i).toNatClampNeg = i := nI_clamp (by omega)
    have v20 : vp_in (nI i) 20 := vp_inN (by omega) (by decide)
    have u5 : m1.1 42 i = nI (W i) := (a2.at rfl).trans t5
    by_cases e : wetE P r w h c (X i) (Y i) = W i
    · obtain ⟨μ', g1, g2⟩ := isWay75 hl hc hw hw8 hh hh6 hp m (i + 1) m1 (by omega) (hM.kp (fV_M a2)) (hR.kp a2 fun _ => rfl) (hT.kp a2)
      rw [nI_succ] at g1
      refine ⟨μ', X10_isWay_at75_ok (tneg (nI_ge (by omega) (by omega)) ⟨v20, _, m1, by rw [ec, t4]; exact a1, v20, ?_⟩), a2.trans g2⟩
      rw [ec, u5, agF, decide_eq_true e, Bool.true_and]
      exact tpos (by rw [e]) g1
    · refine ⟨m1, X10_isWay_at75_ok (tneg (nI_ge (by omega) (by omega)) ⟨v20, _, m1, by rw [ec, t4]; exact a1, v20, ?_⟩), a2⟩
      rw [ec, u5, agF, decide_eq_false e]
      exact tneg (fun q => e (nI_inj (by omega) (by omega) q)) ⟨rfl, rfl⟩
theorem isWay_m {c B : Nat} {μ : Mem} (hB : B < 900000) (hc : c < 256) (hw : 1 ≤ w) (hw8 : w ≤ 8) (hh : 1 ≤ h) (hh6 : h ≤ 6) (hS : SW P B r) (hM : MP P μ) (hR : RowM μ 33 r) (hT : TdM X Y W k μ) : ∃ μ', X10_isWay (d + 4) (nI c) (nI w) (nI h) (nI k) μ (bI (isW P r w h X Y W k c)) μ' ∧ Kp fVr μ μ' := by
  have pw := hM.1
  have h8 : pW P ≤ 8 := pw.1
  have h6 : pH P ≤ 6 := pw.2.1
  have h4 := pw.2.2.2.1
  have e8 : (8 : Int32) = nI 8 := rfl
  have e2 : nI c - nI c / 8 * 8 = nI (c % 8) := by rw [e8, nI_rem (by omega) (by decide)]
  have e4 : nI c / 8 - nI c / 8 / 8 * 8 = nI (c / 8 % 8) := by rw [e8, nI_div (by omega) (by decide), nI_rem (by omega) (by decide)]
  have e5 : nI c / 64 = nI (c / 64) := by rw [show (64 : Int32) = nI 64 from rfl, nI_div (by omega) (by decide)]
  have i1 := isLoom_m (d := d + 2) (f := nI (c / 64)) hM
  rw [inN_nI (by omega)] at i1
  have eW := hM.wide
  unfold mWide mL at eW
  have eH := hM.rows
  unfold mRows mL at eH
  by_cases q1 : c / 64 < pL P
  · have hpk := (hS.2.2.1 _ q1).1
    have w9 := (pw.2.2.2.2.2.2.2.2.2.1 _ q1).2.1
    rw [decide_eq_true q1] at i1
    obtain ⟨v8, ew⟩ := wideOf_m q1 hM
    by_cases q2 : w ≤ pWi P (c / 64)
    · by_cases q3 : c % 8 + w ≤ pW P
      · by_cases q4 : c / 8 % 8 + h ≤ pH P
        · obtain ⟨μ', g1, g2⟩ := isWay75 (d := d) (X := X) (Y := Y) (W := W) q1 hc hw hw8 hh hh6 (by omega) k 0 μ (by omega) hM hR hT
          refine ⟨μ', X10_isWay_ok ?_, g2⟩
          rw [e5, e2, e4]
          refine ⟨_, μ, i1, tneg (by decide) ⟨v8, ?_⟩⟩
          rw [ew, eW, eH, nJ_add, nJ_add]
          unfold isW
          rw [decide_eq_true q1, decide_eq_true q2, decide_eq_true q3, decide_eq_true q4]
          exact tneg (nI_nlt q2 (by omega)) ⟨hM.live, tneg (nI_nlt q3 (by omega)) ⟨hM.live, tpos (nI_le q4 (by omega)) g1⟩⟩
        · refine ⟨μ, X10_isWay_ok ?_, Kp.refl⟩
          rw [e5, e2, e4]
          refine ⟨_, μ, i1, tneg (by decide) ⟨v8, ?_⟩⟩
          rw [ew, eW, eH, nJ_add, nJ_add]
          unfold isW
          rw [decide_eq_true q1, decide_eq_true q2, decide_eq_true q3, decide_eq_false q4]
          exact tneg (nI_nlt q2 (by omega)) ⟨hM.live, tneg (nI_nlt q3 (by omega)) ⟨hM.live, tneg (nI_ge (by omega) (by omega)) ⟨rfl, rfl⟩⟩⟩
      · refine ⟨μ, X10_isWay_ok ?_, Kp.refl⟩
        rw [e5, e2, e4]
        refine ⟨_, μ, i1, tneg (by decide) ⟨v8, ?_⟩⟩
        rw [ew, eW, eH, nJ_add, nJ_add]
        unfold isW
        rw [decide_eq_true q1, decide_eq_true q2, decide_eq_false q3]
        exact tneg (nI_nlt q2 (by omega)) ⟨hM.live, tpos (nI_lt (by omega) (by omega)) ⟨rfl, rfl⟩⟩
    · refine ⟨μ, X10_isWay_ok ?_, Kp.refl⟩
      rw [e5, e2, e4]
      refine ⟨_, μ, i1, tneg (by decide) ⟨v8, ?_⟩⟩
      rw [ew]
      unfold isW
      rw [decide_eq_true q1, decide_eq_false q2]
      exact tpos (nI_lt (by omega) (by omega)) ⟨rfl, rfl⟩
  · rw [decide_eq_false q1] at i1
    refine ⟨μ, X10_isWay_ok ?_, Kp.refl⟩
    rw [e5]
    unfold isW
    rw [decide_eq_false q1]
    exact ⟨_, μ, i1, tpos rfl ⟨rfl, rfl⟩⟩
/-! counting -/
theorem cnt_mono {f : Nat → Bool} : ∀ {a b : Nat}, a ≤ b → cntA f a ≤ cntA f b := by
  intro a b h
  obtain ⟨m, rfl⟩ := Nat.exists_eq_add_of_le h
  induction m with
  | zero => exact Nat.le_refl _
  | succ m ih =>
    have := ih (by omega)
    show _ ≤ cntA f (a + m) + _
    omega
theorem cnt_s {f : Nat → Bool} {c : Nat} (h : f c = true) : cntA f (c + 1) = cntA f c + 1 := by
  show cntA f c + (if f c then 1 else 0) = _
  rw [h]
  rfl
theorem cnt_n {f : Nat → Bool} {c : Nat} (h : f c = false) : cntA f (c + 1) = cntA f c := by
  show cntA f c + (if f c then 1 else 0) = _
  rw [h]
  rfl
theorem cnt_le {f g : Nat → Bool} (h : ∀ c, f c = true → g c = true) : ∀ c, cntA f c ≤ cntA g c
  | 0 => Nat.le_refl _
  | c + 1 => by
    have ih := cnt_le h c
    cases e : f c with
    | false =>
      rw [cnt_n e]
      show _ ≤ cntA g c + _
      omega
    | true =>
      rw [cnt_s e, cnt_s (h c e)]
      omega
def wyA (f : Nat → Bool) : Nat → Nat → Nat
  | 0, _ => 0
  | c + 1, j => if f c = true ∧ cntA f c = j then c else wyA f c j
theorem wyA_of {f : Nat → Bool} {c : Nat} (h : f c = true) : ∀ m, wyA f (c + 1 + m) (cntA f c) = c
  | 0 => if_pos ⟨h, rfl⟩
  | m + 1 => by
    have h1 : cntA f (c + 1) ≤ cntA f (c + 1 + m) := cnt_mono (by omega)
    rw [cnt_s h] at h1
    show (if f (c + 1 + m) = true ∧ cntA f (c + 1 + m) = cntA f c then _ else _) = _
    rw [if_neg (by omega)]
    exact wyA_of h m
theorem wyA_at {f : Nat → Bool} {b c : Nat} (h : f c = true) (hc : c < b) : wyA f b (cntA f c) = c := by
  have := wyA_of h (b - (c + 1))
  rwa [show c + 1 + (b - (c + 1)) = b by omega] at this
theorem wyA_ex {f : Nat → Bool} : ∀ (b j : Nat), j < cntA f b → ∃ c, c < b ∧ f c = true ∧ cntA f c = j
  | 0, j, h => absurd h (Nat.not_lt_zero _)
  | b + 1, j, h => by
    cases e : f b with
    | false =>
      rw [cnt_n e] at h
      obtain ⟨c, h1, h2, h3⟩ := wyA_ex b j h
      exact ⟨c, by omega, h2, h3⟩
    | true =>
      rw [cnt_s e] at h
      by_cases q : j = cntA f b
      · exact ⟨b, by omega, e, q.symm⟩
      · obtain ⟨c, h1, h2, h3⟩ := wyA_ex b j (show j < cntA f b by omega)
        exact ⟨c, by omega, h2, h3⟩
theorem cnt6 : ∀ c, c < 256 → c / 8 % 8 < 6 → cntA (fun c => decide (c / 8 % 8 < 6)) c < 192 := by decide +kernel
theorem isW_6 {c : Nat} (hh : 1 ≤ h) (h6 : pH P ≤ 6) (q : isW P r w h X Y W k c = true) : c / 64 < pL P ∧ w ≤ pWi P (c / 64) ∧ c % 8 + w ≤ pW P ∧ c / 8 % 8 + h ≤ pH P ∧ c / 8 % 8 < 6 := by
  unfold isW at q
  simp only [Bool.and_eq_true, decide_eq_true_iff] at q
  obtain ⟨q1, q2, q3, q4, _⟩ := q
  exact ⟨q1, q2, q3, q4, by omega⟩
theorem isW_192 {c : Nat} (hh : 1 ≤ h) (h6 : pH P ≤ 6) (hc : c < 256) (q : isW P r w h X Y W k c = true) : cntA (isW P r w h X Y W k) c < 192 :=
  Nat.lt_of_le_of_lt (cnt_le (fun b qb => decide_eq_true (isW_6 hh h6 qb).2.2.2.2) c) (cnt6 c hc (isW_6 hh h6 q).2.2.2.2)
/-! the model's fell -/
def fellV (f : Nat → Bool) (x : Int32) : Int32 := if x = -1 then nI (cntA f 256) else if inN x (cntA f 256) then nI (cod (wyA f 256 x.toNatClampNeg)) else -1
theorem cod_lt {c : Nat} (hc : c < 256) : cod c < 1000 := by unfold cod; omega
theorem fell24 {B : Nat} {x : Int32} (hB : B < 900000) (hx : ¬ x < -1) (hw : 1 ≤ w) (hw8 : w ≤ 8) (hh : 1 ≤ h) (hh6 : h ≤ 6) (hS : SW P B r) : ∀ (m c : Nat) (μ : Mem), c + m = 256 → MP P μ → RowM μ 33 r → TdM X Y W k μ → (∀ j, x = nI j → j < 2 ^ 31 → cntA (isW P r w h X Y W k) c ≤ j) → ∃ μ', X10_fell_at24 (d + 4) (nI k) (nI w) (nI h) x (nI (cntA (isW P r w h X Y W k) c)) (nI c) μ (fellV (isW P r w h X Y W k) x) μ' ∧ Kp fVr μ μ'
  | 0, c, μ, hc, hM, hR, hT, hj => by
    have hc : c = 256 := hc
    subst hc
    refine ⟨μ, X10_fell_at24_ok (tpos (nI_le (a := 256) (b := 256) (by decide) (by decide)) ?_), Kp.refl⟩
    unfold fellV
    by_cases e : x = -1
    · rw [if_pos e]
      exact teq e ⟨rfl, rfl⟩
    · rw [if_neg e]
      refine tne e ⟨?_, rfl⟩
      cases q : inN x (cntA (isW P r w h X Y W k) 256) with
      | false => rfl
      | true =>
        obtain ⟨j, j1, rfl⟩ := inN_ex q
        have c2 : cntA (isW P r w h X Y W k) 256 ≤ 256 := by
          have : ∀ (f : Nat → Bool) c, cntA f c ≤ c := fun f c => by
            induction c with
            | zero => exact Nat.le_refl _
            | succ c ih => show cntA f c + (if f c then 1 else 0) ≤ _; split <;> omega
          exact this _ _
        have := hj j rfl (by omega)
        omega
  | m + 1, c, μ, hc, hM, hR, hT, hj => by
    obtain ⟨m1, a1, a2⟩ := isWay_m (d := d) (c := c) hB (by omega) hw hw8 hh hh6 hS hM hR hT
    have cl : ∀ (f : Nat → Bool) c, cntA f c ≤ c := fun f c => by
      induction c with
      | zero => exact Nat.le_refl _
      | succ c ih => show cntA f c + (if f c then 1 else 0) ≤ _; split <;> omega
    have c1 := cl (isW P r w h X Y W k) c
    have hn1 : ¬ (256 : Int32) ≤ nI c := nI_ge (b := 256) (by omega) (by decide)
    cases e : isW P r w h X Y W k c with
    | false =>
      rw [e] at a1
      obtain ⟨μ', g1, g2⟩ := fell24 hB hx hw hw8 hh hh6 hS m (c + 1) m1 (by omega) (hM.kp (fV_M a2)) (hR.kp a2 fun _ => rfl) (hT.kp a2) (fun j q1 q2 => by rw [cnt_n e]; exact hj j q1 q2)
      rw [cnt_n e, nI_succ c] at g1
      exact ⟨μ', X10_fell_at24_ok (tneg hn1 ⟨_, m1, a1, teq rfl g1⟩), a2.trans g2⟩
    | true =>
      rw [e] at a1
      by_cases q : nI (cntA (isW P r w h X Y W k) c) = x
      · refine ⟨m1, X10_fell_at24_ok (tneg hn1 ⟨_, m1, a1, tne (by decide) (teq q ⟨?_, rfl⟩)⟩), a2⟩
        have e8 : (8 : Int32) = nI 8 := rfl
        have e2 : nI c - nI c / 8 * 8 = nI (c % 8) := by rw [e8, nI_rem (by omega) (by decide)]
        have e4 : nI c / 8 - nI c / 8 / 8 * 8 = nI (c / 8 % 8) := by rw [e8, nI_div (by omega) (by decide), nI_rem (by omega) (by decide)]
        have e5 : nI c / 64 = nI (c / 64) := by rw [show (64 : Int32) = nI 64 from rfl, nI_div (by omega) (by decide)]
        have h2 : cntA (isW P r w h X Y W k) (c + 1) ≤ cntA (isW P r w h X Y W k) 256 := cnt_mono (by omega)
        rw [cnt_s e] at h2
        subst q
        unfold fellV
        rw [if_neg (fun z => by
          have z1 := nI_pos (n := cntA (isW P r w h X Y W k) c) (by omega)
          rw [z] at z1
          exact z1 (by decide)), inN_nI (by omega), decide_eq_true (by omega), if_pos rfl, nI_clamp (by omega), wyA_at e (by omega), e2, e4, e5, show (100 : Int32) = nI 100 from rfl, show (10 : Int32) = nI 10 from rfl, nI_mul, nI_mul, nJ_add, nJ_add]
        rfl
      · obtain ⟨μ', g1, g2⟩ := fell24 hB hx hw hw8 hh hh6 hS m (c + 1) m1 (by omega) (hM.kp (fV_M a2)) (hR.kp a2 fun _ => rfl) (hT.kp a2) (fun j q1 q2 => by
          have := hj j q1 q2
          have z : cntA (isW P r w h X Y W k) c ≠ j := fun z => q (by rw [z, q1])
          rw [cnt_s e]
          omega)
        rw [cnt_s e, nI_succ, nI_succ c] at g1
        exact ⟨μ', X10_fell_at24_ok (tneg hn1 ⟨_, m1, a1, tne (by decide) (tne q g1)⟩), a2.trans g2⟩
/-! the class's ways -/
def PcC (P : Pl) (r : Nat → Nat) (w h l : Nat) (μ : Mem) : Prop := ∀ j, j < w * h → μ.1 (197 + l) j = nI (thr P l (j % w) (r (48 + l) + j / w))
theorem waterBy_c {c cx cy : Nat} {μ : Mem} (hl : c / 64 < 4) (hc : c < 256) (hx : cx < 8) (hy : cy < 8) (hw : 1 ≤ w) (hw8 : w ≤ 8) (hh6 : h ≤ 6) (e4 : μ.1 192 4 = nI w) (e5 : μ.1 192 5 = nI h) (hP : PcC P r w h (c / 64) μ) : X8_waterBy d (nI (cod c)) (nI cx) (nI cy) μ (nI (wetE P r w h c cx cy)) μ := by
  have hcd : cod c < 1000 := cod_lt hc
  have e10 : (10 : Int32) = nI 10 := rfl
  have x1 : nI (cod c) - nI (cod c) / 10 * 10 = nI (c % 8) := by rw [e10, nI_rem (by omega) (by decide)]; congr 1; unfold cod; omega
  have x2 : nI (cod c) / 10 - nI (cod c) / 10 / 10 * 10 = nI (c / 8 % 8) := by rw [e10, nI_div (by omega) (by decide), nI_rem (by omega) (by decide)]; congr 1; unfold cod; omega
  have x3 : nI (cod c) / 100 = nI (c / 64) := by rw [show (100 : Int32) = nI 100 from rfl, nI_div (by omega) (by decide)]; congr 1; unfold cod; omega
  refine X8_waterBy_ok ?_
  rw [x1, x2, x3, e4, e5]
  have z : (0 : Int32) = nI 0 := rfl
  by_cases q1 : c % 8 ≤ cx
  · rw [nI_sub q1]
    refine tneg (nI_pos (by omega)) ?_
    by_cases q2 : cx < c % 8 + w
    · refine tneg (nI_ge (by omega) (by omega)) ?_
      by_cases q3 : c / 8 % 8 ≤ cy
      · rw [nI_sub q3]
        refine tneg (nI_pos (by omega)) ?_
        by_cases q4 : cy < c / 8 % 8 + h
        · have hj : (cy - c / 8 % 8) * w + (cx - c % 8) < w * h := by
            have : (cy - c / 8 % 8 + 1) * w ≤ h * w := Nat.mul_le_mul_right w (by omega)
            rw [Nat.succ_mul] at this
            rw [Nat.mul_comm w h]
            omega
          have h48 := wh48 hw8 hh6
          obtain ⟨d1, d2⟩ := dm (a := cy - c / 8 % 8) (b := cx - c % 8) (k := (cy - c / 8 % 8) * w + (cx - c % 8)) (w := w) (by omega) rfl
          refine tpos (nI_lt (by omega) (by omega)) ?_
          rw [nI_mul, nJ_add, nI_clamp (by omega), nI_clamp (by omega), Nat.one_mul, hP _ hj, d1, d2]
          refine ⟨vp_inN (by omega) (by decide), vp_inN (by omega) (by decide), ?_, rfl⟩
          unfold wetE
          rw [if_pos ⟨q1, q2, q3, q4⟩]
        · refine tneg (nI_nlt (by omega) (by omega)) ⟨?_, rfl⟩
          unfold wetE
          rw [if_neg fun y => q4 y.2.2.2]
          rfl
      · obtain ⟨s1, _⟩ := sub_neg (show cy < c / 8 % 8 by omega) (by omega)
        refine tpos (i_nle s1) ⟨?_, rfl⟩
        unfold wetE
        rw [if_neg fun y => q3 y.2.2.1]
        rfl
    · refine tpos (nI_le (by omega) (by omega)) ⟨?_, rfl⟩
      unfold wetE
      rw [if_neg fun y => q2 y.2.1]
      rfl
  · obtain ⟨s1, _⟩ := sub_neg (show cx < c % 8 by omega) (by omega)
    refine tpos (i_nle s1) ⟨?_, rfl⟩
    unfold wetE
    rw [if_neg fun y => q1 y.1]
    rfl
def TdC (X Y W : Nat → Nat) (k : Nat) (μ : Mem) : Prop := k ≤ 20 ∧ ∀ i, i < k → X i < 8 ∧ Y i < 8 ∧ W i ≤ 999 ∧ μ.1 193 i = nI (X i) ∧ μ.1 194 i = nI (Y i) ∧ μ.1 195 i = nI (W i)
theorem agrees_c {c : Nat} {μ : Mem} (hl : c / 64 < 4) (hc : c < 256) (hw : 1 ≤ w) (hw8 : w ≤ 8) (hh6 : h ≤ 6) (e4 : μ.1 192 4 = nI w) (e5 : μ.1 192 5 = nI h) (hP : PcC P r w h (c / 64) μ) (hT : TdC X Y W k μ) : ∀ (m i : Nat), i + m = k → X8_agreesWithKnown_at2 d (nI (cod c)) (nI k) (nI i) μ (bI (agF P r w h X Y W c m i)) μ
  | 0, i, hi => by
    have hi : i = k := hi
    subst hi
    have := hT.1
    exact X8_agreesWithKnown_at2_ok (tpos (nI_le (Nat.le_refl _) (by omega)) ⟨rfl, rfl⟩)
  | m + 1, i, hi => by
    have hk := hT.1
    obtain ⟨t1, t2, t3, t4, t5, t6⟩ := hT.2 i (by omega)
    have wl := wetE_le (P := P) (r := r) (w := w) (h := h) (c := c) (cx := X i) (cy := Y i)
    have ec : (nI i).toNatClampNeg = i := nI_clamp (by omega)
    have v20 : vp_in (nI i) 20 := vp_inN (by omega) (by decide)
    have ih := agrees_c hl hc hw hw8 hh6 e4 e5 hP hT m (i + 1) (by omega)
    rw [nI_succ] at ih
    refine X8_agreesWithKnown_at2_ok (tneg (nI_ge (by omega) (by omega)) ⟨v20, v20, _, μ, by rw [ec, t4, t5]; exact waterBy_c hl hc t1 t2 hw hw8 hh6 e4 e5 hP, v20, ?_⟩)
    rw [ec, t6, agF]
    by_cases e : wetE P r w h c (X i) (Y i) = W i
    · rw [decide_eq_true e, Bool.true_and]
      exact tpos (by rw [e]) ih
    · rw [decide_eq_false e]
      exact tneg (fun q => e (nI_inj (by omega) (by omega) q)) ⟨rfl, rfl⟩
def sWy (a k : Nat) : Prop := a = 201 ∨ (a = 192 ∧ k = 8)
def WyC (f : Nat → Bool) (c : Nat) (μ : Mem) : Prop := μ.1 192 8 = nI (cntA f c) ∧ ∀ b, b < c → f b = true → μ.1 201 (cntA f b) = nI (cod b)
theorem WyC.skip {f : Nat → Bool} {a b : Nat} {μ : Mem} (h : WyC f a μ) (hab : a ≤ b) (q : ∀ c, a ≤ c → c < b → f c = false) : WyC f b μ := by
  have e : cntA f b = cntA f a := by
    have := cnt_skip (g := f) (a := a) (b - a) (fun c h1 h2 => q c h1 (by omega))
    rwa [show a + (b - a) = b by omega] at this
  refine ⟨by rw [e]; exact h.1, fun c hc fc => ?_⟩
  by_cases z : c < a
  · exact h.2 c z fc
  · rw [q c (by omega) hc] at fc
    cases fc
theorem addWays_in {l y : Nat} {Z : Mem → Prop} (hl : l < pL P) (h4 : pL P ≤ 4) (h8 : pW P ≤ 8) (h6 : pH P ≤ 6) (hw : 1 ≤ w) (hw8 : w ≤ 8) (hwl : w ≤ pWi P l) (hh : 1 ≤ h) (hh6 : h ≤ 6) (hy : y + h ≤ pH P)
    (hc : ∀ μ, μ.1 192 4 = nI w → μ.1 192 5 = nI h → PcC P r w h l μ → TdC X Y W k μ → WyC (isW P r w h X Y W k) (64 * l + 8 * (y + 1)) μ → ∃ μ', X8_addWays_at3 (d + 1) (nI l) (nI k) (nI (pW P)) (nI (pH P)) (nI y + 1) μ μ' ∧ Kq sWy μ μ' ∧ Z μ') : ∀ (m x : Nat) (μ : Mem), x + m = pW P + 1 - w → μ.1 192 4 = nI w → μ.1 192 5 = nI h → PcC P r w h l μ → TdC X Y W k μ → WyC (isW P r w h X Y W k) (64 * l + 8 * y + x) μ → ∃ μ', X8_addWays_at18 (d + 1) (nI l) (nI k) (nI (pW P)) (nI (pH P)) (nI y) (nI x) μ μ' ∧ Kq sWy μ μ' ∧ Z μ'
  | 0, x, μ, hx, e4, e5, hP, hT, hW => by
    obtain ⟨μ', g1, g2, g3⟩ := hc μ e4 e5 hP hT (hW.skip (by omega) fun c h1 h2 => by
      cases q : isW P r w h X Y W k c with
      | false => rfl
      | true =>
        have := (isW_6 hh h6 q).2.2.1
        omega)
    refine ⟨μ', X8_addWays_at18_ok ?_, g2, g3⟩
    rw [e4, nJ_add]
    exact tpos (nI_lt (by omega) (by omega)) g1
  | m + 1, x, μ, hx, e4, e5, hP, hT, hW => by
    have hcl : (64 * l + 8 * y + x) / 64 = l := by omega
    have hcy : (64 * l + 8 * y + x) / 8 % 8 = y := by omega
    have hcx : (64 * l + 8 * y + x) % 8 = x := by omega
    have hk := hT.1
    have ag := agrees_c (d := d) (c := 64 * l + 8 * y + x) (by omega) (by omega) hw hw8 hh6 e4 e5 (by rw [hcl]; exact hP) hT k 0 (by omega)
    have ag1 : X8_agreesWithKnown (d + 1) (nI (cod (64 * l + 8 * y + x))) (nI k) μ (bI (agF P r w h X Y W (64 * l + 8 * y + x) k 0)) μ := X8_agreesWithKnown_ok ag
    have ei : isW P r w h X Y W k (64 * l + 8 * y + x) = agF P r w h X Y W (64 * l + 8 * y + x) k 0 := by
      unfold isW
      rw [hcl, hcy, hcx, decide_eq_true hl, decide_eq_true hwl, decide_eq_true (show x + w ≤ pW P by omega), decide_eq_true hy]
      rfl
    rw [← ei] at ag1
    have ecd : (100 : Int32) * nI l + 10 * nI y + nI x = nI (cod (64 * l + 8 * y + x)) := by
      unfold cod
      rw [hcl, hcy, hcx, show (100 : Int32) = nI 100 from rfl, show (10 : Int32) = nI 10 from rfl, nI_mul, nI_mul, nJ_add, nJ_add]
    have hn1 : ¬ nI (pW P) < nI x + μ.1 192 4 := by rw [e4, nJ_add]; exact nI_nlt (by omega) (by omega)
    cases e : isW P r w h X Y W k (64 * l + 8 * y + x) with
    | false =>
      rw [e] at ag1
      obtain ⟨μ', g1, g2, g3⟩ := addWays_in hl h4 h8 h6 hw hw8 hwl hh hh6 hy hc m (x + 1) μ (by omega) e4 e5 hP hT (hW.skip (by omega) fun c h1 h2 => by rw [show c = 64 * l + 8 * y + x by omega]; exact e)
      rw [nI_succ] at g1
      refine ⟨μ', X8_addWays_at18_ok (tneg hn1 ?_), g2, g3⟩
      rw [ecd]
      exact ⟨_, μ, ag1, tpos rfl g1⟩
    | true =>
      rw [e] at ag1
      have c192 := isW_192 hh h6 (by omega) e
      have k1 : Kq sWy μ (sI (sI μ 201 (cntA (isW P r w h X Y W k) (64 * l + 8 * y + x)) (nI (cod (64 * l + 8 * y + x)))) 192 8 (nI (cntA (isW P r w h X Y W k) (64 * l + 8 * y + x) + 1))) := (Kq.sI (Or.inl rfl)).trans (Kq.sI (Or.inr ⟨rfl, rfl⟩))
      obtain ⟨μ', g1, g2, g3⟩ := addWays_in hl h4 h8 h6 hw hw8 hwl hh hh6 hy hc m (x + 1) _ (by omega) (by rw [k1.at (by unfold sWy; omega)]; exact e4) (by rw [k1.at (by unfold sWy; omega)]; exact e5) (fun j hj => by rw [k1.at (by unfold sWy; omega)]; exact hP j hj) ⟨hk, fun i hi => by
          rw [k1.at (by unfold sWy; omega), k1.at (by unfold sWy; omega), k1.at (by unfold sWy; omega)]
          exact hT.2 i hi⟩ ⟨by rw [sI_1, show 64 * l + 8 * y + (x + 1) = 64 * l + 8 * y + x + 1 by omega, cnt_s e], fun b hb fb => by
          rw [sI_n (by decide)]
          by_cases z : b = 64 * l + 8 * y + x
          · rw [z, sI_1]
          · have h1 : cntA (isW P r w h X Y W k) (b + 1) ≤ cntA (isW P r w h X Y W k) (64 * l + 8 * y + x) := cnt_mono (by omega)
            rw [cnt_s fb] at h1
            rw [sI_k (by omega)]
            exact hW.2 b (by omega) fb⟩
      rw [nI_succ x] at g1
      refine ⟨μ', X8_addWays_at18_ok (tneg hn1 ?_), k1.trans g2, g3⟩
      rw [ecd]
      refine ⟨_, μ, ag1, tneg (by decide) ?_⟩
      rw [hW.1]
      refine tneg (nI_ge (b := 192) c192 (by decide)) ⟨vp_inN c192 (by decide), ?_⟩
      rintro μ4 rfl μ5 rfl
      rw [nI_clamp (by omega), sI_n (show 192 ≠ 201 by decide), hW.1, nI_1 (cntA (isW P r w h X Y W k) (64 * l + 8 * y + x))]
      exact g1
theorem addWays_out {l : Nat} (hl : l < pL P) (h4 : pL P ≤ 4) (h8 : pW P ≤ 8) (h6 : pH P ≤ 6) (hw : 1 ≤ w) (hw8 : w ≤ 8) (hwl : w ≤ pWi P l) (hh : 1 ≤ h) (hh6 : h ≤ 6) : ∀ (m y : Nat) (μ : Mem), y + m = pH P + 1 - h → μ.1 192 4 = nI w → μ.1 192 5 = nI h → PcC P r w h l μ → TdC X Y W k μ → WyC (isW P r w h X Y W k) (64 * l + 8 * y) μ → ∃ μ', X8_addWays_at3 (d + 1) (nI l) (nI k) (nI (pW P)) (nI (pH P)) (nI y) μ μ' ∧ Kq sWy μ μ' ∧ WyC (isW P r w h X Y W k) (64 * (l + 1)) μ'
  | 0, y, μ, hy, e4, e5, hP, hT, hW => by
    refine ⟨μ, X8_addWays_at3_ok ?_, Kq.refl, hW.skip (by omega) fun c h1 h2 => ?_⟩
    · rw [e5, nJ_add]
      exact tpos (nI_lt (by omega) (by omega)) rfl
    · cases q : isW P r w h X Y W k c with
      | false => rfl
      | true =>
        have := (isW_6 hh h6 q).2.2.2.1
        omega
  | m + 1, y, μ, hy, e4, e5, hP, hT, hW => by
    obtain ⟨μ', g1, g2, g3⟩ := addWays_in (d := d) (y := y) (Z := fun μ' => WyC (isW P r w h X Y W k) (64 * (l + 1)) μ') hl h4 h8 h6 hw hw8 hwl hh hh6 (by omega) (fun μ e4 e5 hP hT hW => by
      obtain ⟨μ', q1, q2, q3⟩ := addWays_out hl h4 h8 h6 hw hw8 hwl hh hh6 m (y + 1) μ (by omega) e4 e5 hP hT hW
      rw [nI_succ] at q1
      exact ⟨μ', q1, q2, q3⟩) (pW P + 1 - w) 0 μ (by omega) e4 e5 hP hT hW
    refine ⟨μ', X8_addWays_at3_ok ?_, g2, g3⟩
    rw [e5, nJ_add]
    exact tneg (nI_nlt (by omega) (by omega)) g1
theorem addWays_wide {l : Nat} {μ : Mem} (hl : l < 4) (h8 : pW P ≤ 8) (h6 : pH P ≤ 6) (hw : pW P < w) (hw8 : w ≤ 8) (hh6 : h ≤ 6) (e4 : μ.1 192 4 = nI w) (e5 : μ.1 192 5 = nI h) : ∀ (m y : Nat), y + m = pH P + 1 - h → X8_addWays_at3 (d + 1) (nI l) (nI k) (nI (pW P)) (nI (pH P)) (nI y) μ μ
  | 0, y, hy => by
    refine X8_addWays_at3_ok ?_
    rw [e5, nJ_add]
    exact tpos (nI_lt (by omega) (by omega)) rfl
  | m + 1, y, hy => by
    have ih := addWays_wide hl h8 h6 hw hw8 hh6 e4 e5 m (y + 1) (by omega)
    rw [nI_succ] at ih
    refine X8_addWays_at3_ok ?_
    rw [e5, nJ_add]
    refine tneg (nI_nlt (by omega) (by omega)) (X8_addWays_at18_ok ?_)
    rw [e4, Int32.zero_add]
    exact tpos (nI_lt (by omega) (by omega)) ih
def AllP (P : Pl) (r : Nat → Nat) (w h b : Nat) (μ : Mem) : Prop := ∀ l, l < b → w ≤ pWi P l → PcC P r w h l μ
theorem gather_c (hn : n ≤ 512) (hw : 1 ≤ w) (hw8 : w ≤ 8) (hh : 1 ≤ h) (hh6 : h ≤ 6) : ∀ (m l : Nat) (μ μM : Mem), l + m = pL P → SimP n P p r μ μM → μ.1 192 4 = nI w → μ.1 192 5 = nI h → AllP P r w h l μ → TdC X Y W k μ → WyC (isW P r w h X Y W k) (64 * l) μ → ∃ μ', X9_gatherWays_at12 (d + 5) (nI k) (nI w) (nI h) (nI l) μ μ' ∧ Kq (scC p) μ μ' ∧ SimP n P p r μ' μM ∧ μ'.1 192 4 = nI w ∧ μ'.1 192 5 = nI h ∧ AllP P r w h (pL P) μ' ∧ WyC (isW P r w h X Y W k) 256 μ'
  | 0, l, μ, μM, hl, hs, e4, e5, hA, hT, hW => by
    have hC := hs.1.1
    have h4 := hC.1.2.2.2.1
    have hl : l = pL P := hl
    subst hl
    refine ⟨μ, X9_gatherWays_at12_ok ?_, Kq.refl, hs, e4, e5, hA, hW.skip (by omega) fun c h1 h2 => ?_⟩
    · rw [hC.ptr0, hC.num.2.2.2.1]
      exact tpos (nI_le (Nat.le_refl _) (by omega)) rfl
    · cases q : isW P r w h X Y W k c with
      | false => rfl
      | true =>
        have := (isW_6 hh hC.1.2.1 q).1
        omega
  | m + 1, l, μ, μM, hl, hs, e4, e5, hA, hT, hW => by
    obtain ⟨⟨hC, hK, hR⟩, _, hS, _⟩ := id hs
    have pw := hC.1
    have h8 : pW P ≤ 8 := pw.1
    have h6 : pH P ≤ 6 := pw.2.1
    have h4 := pw.2.2.2.1
    have hpp := hC.pp
    have w9 := (pw.2.2.2.2.2.2.2.2.2.1 l (by omega)).2.1
    have hpk := (hS.2.2.1 l (by omega)).1
    have hn1 : ¬ nI (pL P) ≤ nI l := nI_ge (by omega) (by omega)
    have v4 : vp_in (nI l) 4 := vp_inN (by omega) (by decide)
    have ec : (nI l).toNatClampNeg = l := nI_clamp (by omega)
    by_cases q : pWi P l < w
    · obtain ⟨μ', g1, g2⟩ := gather_c hn hw hw8 hh hh6 m (l + 1) μ μM (by omega) hs e4 e5 (fun i hi hi2 => by
        by_cases z : i = l
        · rw [z] at hi2; omega
        · exact hA i (by omega) hi2) hT (hW.skip (by omega) fun c h1 h2 => by
        cases z : isW P r w h X Y W k c with
        | false => rfl
        | true =>
          have := (isW_6 hh h6 z).2.1
          rw [show c / 64 = l by omega] at this
          omega)
      rw [nI_succ] at g1
      refine ⟨μ', X9_gatherWays_at12_ok ?_, g2⟩
      rw [hC.ptr0, hC.num.2.2.2.1, ec, (hC.loo (show l < pL P by omega)).1]
      exact tneg hn1 ⟨v4, tpos (nI_lt q (by omega)) g1⟩
    · obtain ⟨m1, a1, a2', a3, _, a5⟩ := weaveWhole_v (d := d + 1) (h := h) (show l < pL P by omega) hw (by omega) hh6 (by omega) hC hK hR
      have a2 := sWv_sc a2'
      have hs1 := hs.scr a2 a3 Kq.refl
      have kv : ∀ a j, 192 ≤ a → a ≤ 213 → m1.1 a j = μ.1 a j := fun a j q1 q2 => a2'.at (by unfold sWv; omega)
      have k2 : Kq (scC p) m1 (sA m1 (197 + l) (va_cpy (m1.1 12) (m1.1 (197 + l)) 0 0 48)) := Kq.sA fun j => by unfold scC; omega
      have kp1 : X8_keepPiece (d + 5) (nI l) m1 (sA m1 (197 + l) (va_cpy (m1.1 12) (m1.1 (197 + l)) 0 0 48)) := by
        refine X8_keepPiece_ok (tneg (nI_pos (by omega)) (tneg (nI_ge (b := 4) (by omega) (by decide)) (tneg (by decide) ⟨v4, ?_⟩)))
        rintro μ1 rfl
        rw [ec, Nat.one_mul]
      have hs2 := hs1.scr k2 (a3.of (by rw [sA_n (by omega)]) (by rw [sA_n (by omega)])) Kq.refl
      generalize hm2 : sA m1 (197 + l) (va_cpy (m1.1 12) (m1.1 (197 + l)) 0 0 48) = m2 at k2 kp1 hs2
      have h48 := wh48 hw8 hh6
      have kn : ∀ a j, 192 ≤ a → a ≤ 213 → a ≠ 197 + l → m2.1 a j = μ.1 a j := fun a j q1 q2 q3 => by rw [← hm2, sA_n q3]; exact kv a j q1 q2
      have hP2 : PcC P r w h l m2 := fun j hj => by
        rw [← hm2, sA_1, cpy_lt (by omega)]
        exact a5 j hj
      have hA2 : AllP P r w h (l + 1) m2 := fun i hi hi2 => by
        by_cases z : i = l
        · rw [z]; exact hP2
        · intro j hj
          rw [kn _ _ (by omega) (by omega) (by omega)]
          exact hA i (by omega) hi2 j hj
      have hT2 : TdC X Y W k m2 := ⟨hT.1, fun i hi => by
        rw [kn _ _ (by omega) (by omega) (by omega), kn _ _ (by omega) (by omega) (by omega), kn _ _ (by omega) (by omega) (by omega)]
        exact hT.2 i hi⟩
      have hW2 : WyC (isW P r w h X Y W k) (64 * l) m2 := ⟨by rw [kn _ _ (by omega) (by omega) (by omega)]; exact hW.1, fun b hb fb => by rw [kn _ _ (by omega) (by omega) (by omega)]; exact hW.2 b hb fb⟩
      have f4 : m2.1 192 4 = nI w := by rw [kn _ _ (by omega) (by omega) (by omega)]; exact e4
      have f5 : m2.1 192 5 = nI h := by rw [kn _ _ (by omega) (by omega) (by omega)]; exact e5
      have hC2 := hs2.1.1
      have adds : ∃ m3, X8_addWays (d + 5) (nI l) (nI k) (m2.1 (m2.2.2 0 4) 0) (m2.1 (m2.2.2 0 4) 1) m2 m3 ∧ Kq sWy m2 m3 ∧ WyC (isW P r w h X Y W k) (64 * (l + 1)) m3 := by
        rw [hC2.ptr0, hC2.num.1, hC2.num.2.1]
        by_cases z : w ≤ pW P
        · obtain ⟨m3, b1, b2, b3⟩ := addWays_out (d := d + 3) (show l < pL P by omega) h4 h8 h6 hw hw8 (show w ≤ pWi P l by omega) hh hh6 (pH P + 1 - h) 0 m2 (by omega) f4 f5 hP2 hT2 hW2
          exact ⟨m3, X8_addWays_ok b1, b2, b3⟩
        · refine ⟨m2, X8_addWays_ok (addWays_wide (show l < 4 by omega) h8 h6 (by omega) hw8 hh6 f4 f5 (pH P + 1 - h) 0 (by omega)), Kq.refl, hW2.skip (by omega) fun c h1 h2 => ?_⟩
          cases y : isW P r w h X Y W k c with
          | false => rfl
          | true =>
            have := (isW_6 hh h6 y).2.2.1
            omega
      obtain ⟨m3, b1, b2, b3⟩ := adds
      have k3 : Kq (scC p) m2 m3 := b2.mono fun a j q => by unfold sWy at q; unfold scC; omega
      have kk : ∀ a j, ¬ sWy a j → m3.1 a j = m2.1 a j := fun a j q => b2.at q
      have hs3 := hs2.scr k3 (hs2.1.2.1.of (b2.row fun j => by unfold sWy; omega) (b2.row fun j => by unfold sWy; omega)) Kq.refl
      obtain ⟨μ', g1, g2, g3⟩ := gather_c hn hw hw8 hh hh6 m (l + 1) m3 μM (by omega) hs3 (by rw [kk _ _ (by unfold sWy; omega)]; exact f4) (by rw [kk _ _ (by unfold sWy; omega)]; exact f5) (fun i hi hi2 j hj => by rw [kk _ _ (by unfold sWy; omega)]; exact hA2 i hi hi2 j hj) ⟨hT.1, fun i hi => by
          rw [kk _ _ (by unfold sWy; omega), kk _ _ (by unfold sWy; omega), kk _ _ (by unfold sWy; omega)]
          exact hT2.2 i hi⟩ b3
      rw [nI_succ] at g1
      refine ⟨μ', X9_gatherWays_at12_ok ?_, ((a2.trans k2).trans k3).trans g2, g3⟩
      rw [hC.ptr0, hC.num.2.2.2.1, ec, (hC.loo (show l < pL P by omega)).1]
      exact tneg hn1 ⟨v4, tneg (nI_nlt (by omega) (by omega)) ⟨m1, a1, m2, kp1, m3, b1, g1⟩⟩
theorem gatherWays_c {μ μM : Mem} (hn : n ≤ 512) (hw : 1 ≤ w) (hw8 : w ≤ 8) (hh : 1 ≤ h) (hh6 : h ≤ 6) (hs : SimP n P p r μ μM) (hT : TdC X Y W k μ) : ∃ μ', X9_gatherWays (d + 6) (nI k) (nI w) (nI h) μ μ' ∧ Kq (scC p) μ μ' ∧ SimP n P p r μ' μM ∧ μ'.1 192 4 = nI w ∧ μ'.1 192 5 = nI h ∧ AllP P r w h (pL P) μ' ∧ WyC (isW P r w h X Y W k) 256 μ' := by
  have hpp := hs.1.1.pp
  have k1 : Kq (fun a k => a = 192 ∧ (k = 4 ∨ k = 5 ∨ k = 8)) μ (sI (sI (sI μ 192 4 (nI w)) 192 5 (nI h)) 192 8 0) := ((Kq.sI (by omega)).trans (Kq.sI (by omega))).trans (Kq.sI (by omega))
  have k2 : Kq (scC p) μ (sI (sI (sI μ 192 4 (nI w)) 192 5 (nI h)) 192 8 0) := k1.mono fun a k q => by unfold scC; omega
  have hs1 := hs.scr k2 (hs.1.2.1.of (k1.row fun j => by omega) (k1.row fun j => by omega)) Kq.refl
  obtain ⟨μ', g1, g2, g3⟩ := gather_c (d := d) (X := X) (Y := Y) (W := W) (k := k) hn hw hw8 hh hh6 (pL P) 0 _ μM (by omega) hs1 (by rw [sI_k (by decide), sI_k (by decide), sI_1]) (by rw [sI_k (by decide), sI_1]) (fun l hl => by omega) ⟨hT.1, fun i hi => by
    rw [k1.at (by omega), k1.at (by omega), k1.at (by omega)]
    exact hT.2 i hi⟩ ⟨sI_1, fun b hb => by omega⟩
  exact ⟨μ', X9_gatherWays_ok ⟨_, X8_beginWays_ok (by rintro μ1 rfl μ2 rfl μ3 rfl; rfl), g1⟩, k2.trans g2, g3⟩
end
theorem asked_m {P : Pl} {t : Nat} {a b c : Int32} {μ : Mem} (ht : t ≤ 20) (h : μ.1 0 65 = nI t) : X10_isAsked (d + 1) a b c μ (bI (inN a (t + 1) && (inN (b - 1) 8 && inN (c - 1) 6))) μ := by
  have i1 := in_s (d := d) (v := a) (a := 0) (b := nI t) (μ := μ)
  rw [i3_0 (by omega)] at i1
  have i2 := in_s (d := d) (v := b) (a := 1) (b := nI 8) (μ := μ)
  rw [in1 (by decide)] at i2
  have i3 := in_s (d := d) (v := c) (a := 1) (b := nI 6) (μ := μ)
  rw [in1 (by decide)] at i3
  refine X10_isAsked_ok ⟨_, μ, by rw [h]; exact i1, ?_⟩
  cases ha : inN a (t + 1) with
  | false => exact tpos rfl ⟨rfl, rfl⟩
  | true =>
    refine tneg (by decide) ⟨_, μ, i2, ?_⟩
    cases hb : inN (b - 1) 8 with
    | false => exact tpos rfl ⟨rfl, rfl⟩
    | true =>
      refine tneg (by decide) ⟨_, μ, i3, ?_⟩
      cases hc : inN (c - 1) 6 with
      | false => exact tpos rfl ⟨rfl, rfl⟩
      | true => exact tneg (by decide) ⟨rfl, rfl⟩
theorem knows_c {t : Nat} {a : Int32} {μ : Mem} (ht : t ≤ 20) (h : μ.1 192 3 = nI t) : X8_knows d a μ (bI (inN a (t + 1))) μ := by
  refine X8_knows_ok ?_
  rw [h]
  cases ha : inN a (t + 1) with
  | false =>
    refine ⟨fun _ => ⟨rfl, rfl⟩, fun q => tpos ?_ ⟨rfl, rfl⟩⟩
    obtain ⟨k, k1, rfl⟩ := nI_ex (i_nlt q)
    rw [inN_nI k1] at ha
    exact nI_lt (by have := of_decide_eq_false ha; omega) k1
  | true =>
    obtain ⟨k, k1, rfl⟩ := inN_ex ha
    exact tneg (nI_pos (by omega)) (tneg (nI_nlt (by omega) (by omega)) ⟨rfl, rfl⟩)
theorem told_both {P : Pl} {t k : Nat} {X Y W : Nat → Nat} {μC μM : Mem} (pw : PW P) (h : ToldR P t X Y W μC μM) (hk : k ≤ t) : TdC X Y W k μC ∧ TdM X Y W k μM := by
  obtain ⟨t1, t2, t3, t4⟩ := h
  have h8 : pW P ≤ 8 := pw.1
  have h6 : pH P ≤ 6 := pw.2.1
  refine ⟨⟨by omega, fun i hi => ?_⟩, ⟨by omega, fun i hi => ?_⟩⟩
  · obtain ⟨q1, q2, q3, q4, q5, q6, _, _⟩ := t4 i (by omega)
    exact ⟨by omega, by omega, q3, q4, q5, q6⟩
  · obtain ⟨q1, q2, q3, _, _, _, q7, q8⟩ := t4 i (by omega)
    exact ⟨by omega, by omega, q3, q7, q8⟩
theorem cntA_le (f : Nat → Bool) : ∀ c, cntA f c ≤ c
  | 0 => Nat.le_refl _
  | c + 1 => by
    have := cntA_le f c
    show cntA f c + (if f c then 1 else 0) ≤ _
    split <;> omega
theorem call_fell {a b c e : Int32} (hn : n ≤ 512) : Both (X9_fell (d + 8) a b c e) (X10_fell (d + 8) a b c e) n := by
  rintro μC μM ⟨P, p, r, h⟩
  obtain ⟨⟨hC, hK, hR⟩, ⟨hM, hRM⟩, hS, _, _, _, ⟨t, X, Y, W, hT⟩, _⟩ := id h
  have pw := hC.1
  have h6 : pH P ≤ 6 := pw.2.1
  have k1 := knows_c (d := d + 7) (a := a) hT.1 hT.2.1
  have s1 := isSize_c (d := d + 7) (a := b) (b := c) (μ := μC)
  have q1 := asked_m (P := P) (d := d + 6) (a := a) (b := b) (c := c) hT.1 hT.2.2.1
  cases ha : inN a (t + 1) with
  | false =>
    rw [ha] at k1 q1
    exact ⟨-1, μC, μM, X9_fell_ok ⟨_, μC, k1, tpos rfl ⟨rfl, rfl⟩⟩, X10_fell_ok ⟨_, μM, q1, tpos rfl ⟨rfl, rfl⟩⟩, h.next⟩
  | true =>
    rw [ha] at k1 q1
    cases hb : inN (b - 1) 8 && inN (c - 1) 6 with
    | false =>
      rw [hb] at s1 q1
      exact ⟨-1, μC, μM, X9_fell_ok ⟨_, μC, k1, tneg (by decide) ⟨_, μC, s1, tpos rfl ⟨rfl, rfl⟩⟩⟩, X10_fell_ok ⟨_, μM, q1, tpos rfl ⟨rfl, rfl⟩⟩, h.next⟩
    | true =>
      rw [hb] at s1 q1
      obtain ⟨b1, b2⟩ := Bool.and_eq_true _ _ ▸ hb
      obtain ⟨k, hk, rfl⟩ := inN_ex ha
      obtain ⟨w, w1, w2, rfl⟩ := (rng1 (by decide)).mp b1
      obtain ⟨v, v1, v2, rfl⟩ := (rng1 (by decide)).mp b2
      by_cases he : e < -1
      · exact ⟨-1, μC, μM, X9_fell_ok ⟨_, μC, k1, tneg (by decide) ⟨_, μC, s1, tneg (by decide) (tneg (i_lt_nle he) ⟨rfl, rfl⟩)⟩⟩, X10_fell_ok ⟨_, μM, q1, tneg (by decide) (tneg (i_lt_nle he) ⟨rfl, rfl⟩)⟩, h.next⟩
      · obtain ⟨tC, tM⟩ := told_both (k := k) pw hT (by omega)
        obtain ⟨mC, g1, g2, g3, _, _, _, g7⟩ := gatherWays_c (d := d + 1) hn w1 w2 v1 v2 h tC
        obtain ⟨mM, f1, f2⟩ := fell24 (d := d + 3) (B := 99 + 720 * n) (x := e) (by omega) he w1 w2 v1 v2 hS 256 0 μM (by omega) hM hRM tM (fun j _ _ => Nat.zero_le _)
        refine ⟨_, mC, mM, X9_fell_ok ⟨_, μC, k1, tneg (by decide) ⟨_, μC, s1, tneg (by decide) (tpos (i_nlt he) ⟨mC, g1, ?_⟩)⟩⟩, X10_fell_ok ⟨_, μM, q1, tneg (by decide) (tpos (i_nlt he) f1)⟩, (h.scr g2 g3.1.2.1 (fV_scM f2)).next⟩
        have cl := cntA_le (isW P r w v X Y W k) 256
        rw [g7.1]
        unfold fellV
        by_cases z : e = -1
        · rw [if_pos z]
          exact teq z ⟨rfl, rfl⟩
        · rw [if_neg z]
          have e0 : ¬ e < 0 := fun y => by
            rw [Int32.lt_iff_toInt_lt] at y he
            have t1 : (-1 : Int32).toInt = -1 := by decide
            have t0 : (0 : Int32).toInt = 0 := rfl
            exact z (i_inj (by omega))
          obtain ⟨j, hj, rfl⟩ := nI_ex (i_nlt e0)
          rw [inN_nI hj, nI_clamp hj]
          refine tne z ?_
          by_cases y : j < cntA (isW P r w v X Y W k) 256
          · obtain ⟨u, u1, u2, u3⟩ := wyA_ex 256 j y
            have c192 := isW_192 v1 h6 u1 u2
            rw [decide_eq_true y, if_pos rfl, ← u3, wyA_at u2 u1, g7.2 u u1 u2]
            exact tneg (nI_ge (by omega) (by omega)) ⟨vp_inN c192 (by decide), rfl, rfl⟩
          · rw [decide_eq_false y]
            exact tpos (nI_le (by omega) hj) ⟨rfl, rfl⟩
end Calls
