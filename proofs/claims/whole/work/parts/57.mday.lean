/-! ===== days, told once ===== -/
def mixA (a b : Int32) : Int32 := (((a ^^^ b) * 1103515245) + 12345) ^^^ (((((a ^^^ b) * 1103515245) + 12345).toUInt32 >>> ((15 : Int32).toUInt32 &&& Int32.toUInt32 31)).toInt32)
def lotA (sd which : Int32) : Int32 := (((mixA (mixA sd 75) which).toUInt32 >>> ((1 : Int32).toUInt32 &&& Int32.toUInt32 31)).toInt32) - (((mixA (mixA sd 75) which).toUInt32 >>> ((1 : Int32).toUInt32 &&& Int32.toUInt32 31)).toInt32) / 100 * 100
def gust (P : Pl) (sd : Int32) (day l : Nat) : Nat := if nI (pGu P) ≤ lotA sd (8 * nI day + nI l) then 0 else 1
def ordS (P : Pl) (sd : Int32) (r : Nat → Nat) : Nat → Nat → Nat
  | 0 => r
  | l + 1 => if ordS P sd r l (52 + l) = 0 then ordS P sd r l else fallR P l (ordS P sd r l (52 + l)) (ordS P sd r l (56 + l)) (ordS P sd r l (60 + l) + gust P sd (ordS P sd r l 89) l) (ordS P sd r l (64 + l)) (ordS P sd r l)
def talC (P : Pl) (s : Nat → Nat) (c : Nat) : Nat → Nat :=
  let s1 := if lackA P c (s c) then updN s (76 + (pFld P c).getD 0) (s (76 + (pFld P c).getD 0) + 1) else s
  if floodA P c (s c) then updN s1 (82 + (pFld P c).getD 0) (s1 (82 + (pFld P c).getD 0) + 1) else s1
def talS (P : Pl) (r : Nat → Nat) : Nat → Nat → Nat
  | 0 => r
  | c + 1 => if onL P c then talC P (talS P r c) c else talS P r c
def drS (P : Pl) (r : Nat → Nat) : Nat → Nat → Nat
  | 0 => r
  | c + 1 => if onL P c then updN (drS P r c) c (drS P r c c - dryA P (drS P r c c) (needO P c) (drownO P c) (drS P r c 89)) else drS P r c
def endS (P : Pl) (s : Nat → Nat) : Nat → Nat := updN (updN s 88 (min 9999 (s 88 + gathA P (s 89)))) 89 (updN s 88 (min 9999 (s 88 + gathA P (s 89))) 89 + 1)
def dayA (P : Pl) (sd : Int32) (r : Nat → Nat) : Nat → Nat := endS P (drS P (talS P (ordS P sd r (pL P)) 48) 48)
def goesA (P : Pl) (sd : Int32) (r : Nat → Nat) : Nat → Nat → Nat
  | 0 => r
  | n + 1 => dayA P sd (goesA P sd r n)
/-- a scene that can be: B bounds the picks -/
def OrdOK (P : Pl) (r : Nat → Nat) (l : Nat) : Prop := r (52 + l) = 0 ∨ (1 ≤ r (52 + l) ∧ r (52 + l) ≤ pWi P l ∧ 1 ≤ r (56 + l) ∧ r (56 + l) ≤ 6 ∧ r (60 + l) < pW P ∧ r (64 + l) < pH P)
def SW (P : Pl) (B : Nat) (r : Nat → Nat) : Prop := SB r ∧ (∀ c, c < 48 → onL P c = false → r c = 0) ∧ (∀ l, l < pL P → r (48 + l) ≤ B ∧ OrdOK P r l) ∧ (∀ l, pL P ≤ l → l < 4 → r (68 + l) = 0) ∧ r 90 = r 68 + r 69 + r 70 + r 71
theorem SW.mono {P : Pl} {B C : Nat} {r : Nat → Nat} (h : SW P B r) (hB : B ≤ C) : SW P C r := ⟨h.1, h.2.1, fun l hl => ⟨Nat.le_trans (h.2.2.1 l hl).1 hB, (h.2.2.1 l hl).2⟩, h.2.2.2⟩
theorem rain_ne {P : Pl} {r : Nat → Nat} {x y t j : Nat} (h88 : j ≠ 88) (h48 : 48 ≤ j) (hx : pW P ≤ 8) (hy : pH P ≤ 6) : rain P r x y t j = r j := by
  unfold rain
  split
  · rename_i hh
    have : x < pW P ∧ y < pH P := by simpa [hits] using hh
    rw [updN_ne (by omega), updN_ne h88]
  · rw [updN_ne h88]
theorem rain_off {P : Pl} {r : Nat → Nat} {x y t c : Nat} (hc : c < 48) (ho : onL P c = false) (hx : pW P ≤ 8) : rain P r x y t c = r c := by
  unfold rain
  split
  · rename_i hh
    have hxy : x < pW P ∧ y < pH P := by simpa [hits] using hh
    rw [updN_ne, updN_ne (by omega)]
    rintro rfl
    have : onL P (8 * y + x) = true := by
      unfold onL
      rw [show (8 * y + x) % 8 = x by omega, show (8 * y + x) / 8 = y by omega, decide_eq_true hxy.1, decide_eq_true hxy.2]
      rfl
    rw [this] at ho
    cases ho
  · rw [updN_ne (by omega)]
theorem fallS_ne {P : Pl} {l w x y pick j : Nat} {r : Nat → Nat} (h88 : j ≠ 88) (h48 : 48 ≤ j) (hx : pW P ≤ 8) (hy : pH P ≤ 6) : ∀ k, (fallS P l w x y pick r k).1 j = r j
  | 0 => rfl
  | k + 1 => by
    unfold fallS
    split
    · exact fallS_ne h88 h48 hx hy k
    · split
      · exact fallS_ne h88 h48 hx hy k
      · exact (rain_ne h88 h48 hx hy).trans (fallS_ne h88 h48 hx hy k)
theorem fallS_off {P : Pl} {l w x y pick c : Nat} {r : Nat → Nat} (hc : c < 48) (ho : onL P c = false) (hx : pW P ≤ 8) : ∀ k, (fallS P l w x y pick r k).1 c = r c
  | 0 => rfl
  | k + 1 => by
    unfold fallS
    split
    · exact fallS_off hc ho hx k
    · split
      · exact fallS_off hc ho hx k
      · exact (rain_off hc ho hx).trans (fallS_off hc ho hx k)
theorem fallE_ne {l h pick j : Nat} {s : (Nat → Nat) × Nat × Bool} (h1 : j ≠ 48 + l) (h2 : j ≠ 68 + l) (h3 : j ≠ 72 + l) (h4 : j ≠ 90) : fallE l h pick s j = s.1 j := by
  unfold fallE
  split
  · rw [updN_ne h4, updN_ne h3, updN_ne h2, updN_ne h1]
  · rw [updN_ne h4, updN_ne h2, updN_ne h1]
theorem fallE_pick {l h pick : Nat} {s : (Nat → Nat) × Nat × Bool} (hl : l < 4) : fallE l h pick s (48 + l) = pick + h := by
  unfold fallE
  split
  · rw [updN_ne (by omega), updN_ne (by omega), updN_ne (by omega), updN_same]
  · rw [updN_ne (by omega), updN_ne (by omega), updN_same]
theorem fallE_woven {l h pick : Nat} {s : (Nat → Nat) × Nat × Bool} (hl : l < 4) : fallE l h pick s (68 + l) = s.1 (68 + l) + s.2.1 := by
  unfold fallE
  split
  · rw [updN_ne (by omega), updN_ne (by omega), updN_same, updN_ne (by omega)]
  · rw [updN_ne (by omega), updN_same, updN_ne (by omega)]
theorem fallE_torn {l h pick : Nat} {s : (Nat → Nat) × Nat × Bool} (hl : l < 4) : fallE l h pick s (72 + l) = s.1 (72 + l) + if s.2.2 then 1 else 0 := by
  unfold fallE
  split
  · rw [updN_ne (by omega), updN_same, updN_ne (by omega), updN_ne (by omega)]
  · rw [updN_ne (by omega), updN_ne (by omega), updN_ne (by omega)]
    rfl
theorem fallE_all {l h pick : Nat} {s : (Nat → Nat) × Nat × Bool} (hl : l < 4) : fallE l h pick s 90 = s.1 90 + s.2.1 := by
  unfold fallE
  split
  · rw [updN_same, updN_ne (by omega), updN_ne (by omega), updN_ne (by omega)]
  · rw [updN_same, updN_ne (by omega), updN_ne (by omega)]
theorem SW.fall {P : Pl} (pw : PW P) {B l w h x y : Nat} {r : Nat → Nat} (hr : SW P B r) (hl : l < pL P) (hh : h ≤ 6) : SW P (B + 6) (fallR P l w h x y r) := by
  have p1 := pw.1
  have p2 := pw.2.1
  have p4 := pw.2.2.2.1
  unfold fallR
  generalize hs : fallS P l w x y (r (48 + l)) r (w * h) = s
  have sb : SB s.1 := by rw [← hs]; exact fallS_SB hr.1 p1 p2 _
  have sne : ∀ j, j ≠ 88 → 48 ≤ j → s.1 j = r j := fun j a b => by rw [← hs]; exact fallS_ne a b p1 p2 _
  have soff : ∀ c, c < 48 → onL P c = false → s.1 c = r c := fun c a b => by rw [← hs]; exact fallS_off a b p1 _
  refine ⟨⟨fun c hc => ?_, ?_⟩, fun c hc ho => ?_, fun i hi => ⟨?_, ?_⟩, fun i h1 h2 => ?_, ?_⟩
  · rw [fallE_ne (by omega) (by omega) (by omega) (by omega)]
    exact sb.1 c hc
  · rw [fallE_ne (by omega) (by omega) (by omega) (by omega)]
    exact sb.2
  · rw [fallE_ne (by omega) (by omega) (by omega) (by omega), soff c hc ho]
    exact hr.2.1 c hc ho
  · have := (hr.2.2.1 i hi).1
    have := (hr.2.2.1 l hl).1
    by_cases e : i = l
    · subst e
      rw [fallE_pick (by omega)]
      omega
    · rw [fallE_ne (by omega) (by omega) (by omega) (by omega), sne _ (by omega) (by omega)]
      omega
  · have := (hr.2.2.1 i hi).2
    unfold OrdOK at this ⊢
    rw [fallE_ne (j := 52 + i) (by omega) (by omega) (by omega) (by omega), fallE_ne (j := 56 + i) (by omega) (by omega) (by omega) (by omega), fallE_ne (j := 60 + i) (by omega) (by omega) (by omega) (by omega), fallE_ne (j := 64 + i) (by omega) (by omega) (by omega) (by omega), sne _ (by omega) (by omega), sne _ (by omega) (by omega), sne _ (by omega) (by omega), sne _ (by omega) (by omega)]
    exact this
  · rw [fallE_ne (by omega) (by omega) (by omega) (by omega), sne _ (by omega) (by omega)]
    exact hr.2.2.2.1 i h1 h2
  · have e := hr.2.2.2.2
    rw [fallE_all (by omega), sne 90 (by decide) (by decide), e]
    have q : ∀ i, i < 4 → fallE l h (r (48 + l)) s (68 + i) = r (68 + i) + if i = l then s.2.1 else 0 := fun i hi => by
      by_cases e : i = l
      · subst e
        rw [fallE_woven hi, sne _ (by omega) (by omega), if_pos rfl]
      · rw [fallE_ne (by omega) (by omega) (by omega) (by omega), sne _ (by omega) (by omega), if_neg e]
        rfl
    have q0 := q 0 (by decide)
    have q1 := q 1 (by decide)
    have q2 := q 2 (by decide)
    have q3 := q 3 (by decide)
    simp only [Nat.add_zero, Nat.reduceAdd] at q0 q1 q2 q3
    rw [q0, q1, q2, q3]
    have hl4 : l = 0 ∨ l = 1 ∨ l = 2 ∨ l = 3 := by omega
    rcases hl4 with rfl | rfl | rfl | rfl
    · rw [if_pos rfl, if_neg (by decide), if_neg (by decide), if_neg (by decide)]; omega
    · rw [if_neg (by decide), if_pos rfl, if_neg (by decide), if_neg (by decide)]; omega
    · rw [if_neg (by decide), if_neg (by decide), if_pos rfl, if_neg (by decide)]; omega
    · rw [if_neg (by decide), if_neg (by decide), if_neg (by decide), if_pos rfl]; omega
theorem SW.ord {P : Pl} (pw : PW P) {B : Nat} {sd : Int32} {r : Nat → Nat} (hr : SW P B r) : ∀ l, l ≤ pL P → SW P (B + 6 * l) (ordS P sd r l)
  | 0, _ => hr
  | l + 1, h => by
    have ih := SW.ord (sd := sd) pw hr l (by omega)
    unfold ordS
    split
    · exact ih.mono (by omega)
    · rename_i hne
      rcases (ih.2.2.1 l (by omega)).2 with q | q
      · exact absurd q hne
      · exact (ih.fall pw (by omega) q.2.2.2.1).mono (by omega)
/-- what a change of the tallies keeps -/
theorem SW.tal {P : Pl} (pw : PW P) {B : Nat} {r s : Nat → Nat} (hr : SW P B r) (h : ∀ j, j < 76 ∨ 88 ≤ j → s j = r j) : SW P B s := by
  have e : ∀ j, j < 76 → s j = r j := fun j q => h j (Or.inl q)
  refine ⟨⟨fun c hc => by rw [e c (by omega)]; exact hr.1.1 c hc, by rw [h 88 (by omega)]; exact hr.1.2⟩, fun c hc ho => by rw [e c (by omega)]; exact hr.2.1 c hc ho, fun l hl => ?_, fun l h1 h2 => by rw [e _ (by omega)]; exact hr.2.2.2.1 l h1 h2, ?_⟩
  · have := hr.2.2.1 l hl
    have h4 := pw.2.2.2.1
    rw [e _ (by omega)]
    refine ⟨this.1, ?_⟩
    unfold OrdOK
    rw [e (52 + l) (by omega), e (56 + l) (by omega), e (60 + l) (by omega), e (64 + l) (by omega)]
    exact this.2
  · rw [h 90 (by omega), e 68 (by omega), e 69 (by omega), e 70 (by omega), e 71 (by omega)]
    exact hr.2.2.2.2
theorem talC_ne {P : Pl} {s : Nat → Nat} {c j : Nat} (hf : ∀ f, pFld P c = some f → f < 6) (hj : j < 76 ∨ 88 ≤ j) : talC P s c j = s j := by
  have g : (pFld P c).getD 0 < 6 := by
    cases h : pFld P c with
    | none => exact (by decide : 0 < 6)
    | some f => exact hf f h
  unfold talC
  split <;> split
  · rw [updN_ne (by omega), updN_ne (by omega)]
  · rw [updN_ne (by omega)]
  · rw [updN_ne (by omega)]
  · rfl
theorem talS_ne {P : Pl} (pw : PW P) {r : Nat → Nat} {j : Nat} (hj : j < 76 ∨ 88 ≤ j) : ∀ c, talS P r c j = r j
  | 0 => rfl
  | c + 1 => by
    unfold talS
    split
    · rename_i ho
      rw [talC_ne (fld6 pw ho) hj]
      exact talS_ne pw hj c
    · exact talS_ne pw hj c
theorem drS_ne {P : Pl} {r : Nat → Nat} {j : Nat} : ∀ c, (c ≤ j ∨ onL P j = false) → drS P r c j = r j
  | 0, _ => rfl
  | c + 1, h => by
    unfold drS
    split
    · rename_i ho
      rw [updN_ne (fun e => by subst e; rcases h with h | h; omega; rw [ho] at h; cases h)]
      exact drS_ne c (h.imp (by omega) id)
    · exact drS_ne c (h.imp (by omega) id)
theorem drS_le {P : Pl} {r : Nat → Nat} {j : Nat} : ∀ c, drS P r c j ≤ r j
  | 0 => Nat.le_refl _
  | c + 1 => by
    unfold drS
    split
    · by_cases e : j = c
      · subst e
        rw [updN_same]
        exact Nat.le_trans (Nat.sub_le _ _) (drS_le j)
      · rw [updN_ne e]
        exact drS_le c
    · exact drS_le c
theorem SW.dr {P : Pl} (pw : PW P) {B : Nat} {r : Nat → Nat} (hr : SW P B r) {c : Nat} (hc : c ≤ 48) : SW P B (drS P r c) := by
  have e : ∀ j, 48 ≤ j → drS P r c j = r j := fun j q => drS_ne c (Or.inl (by omega))
  refine ⟨⟨fun i hi => Nat.le_trans (drS_le c) (hr.1.1 i hi), by rw [e 88 (by decide)]; exact hr.1.2⟩, fun i hi ho => by rw [drS_ne c (Or.inr ho)]; exact hr.2.1 i hi ho, fun l hl => ?_, fun l h1 h2 => by rw [e _ (by omega)]; exact hr.2.2.2.1 l h1 h2, ?_⟩
  · have := hr.2.2.1 l hl
    rw [e _ (by omega)]
    refine ⟨this.1, ?_⟩
    unfold OrdOK
    rw [e (52 + l) (by omega), e (56 + l) (by omega), e (60 + l) (by omega), e (64 + l) (by omega)]
    exact this.2
  · rw [e 90 (by omega), e 68 (by omega), e 69 (by omega), e 70 (by omega), e 71 (by omega)]
    exact hr.2.2.2.2
theorem SW.end {P : Pl} (pw : PW P) {B : Nat} {r : Nat → Nat} (hr : SW P B r) : SW P B (endS P r) := by
  have h4 := pw.2.2.2.1
  have e : ∀ j, j ≠ 88 → j ≠ 89 → endS P r j = r j := fun j q1 q2 => by unfold endS; rw [updN_ne q2, updN_ne q1]
  refine ⟨⟨fun i hi => by rw [e i (by omega) (by omega)]; exact hr.1.1 i hi, by unfold endS; rw [updN_ne (by decide), updN_same]; omega⟩, fun i hi ho => by rw [e i (by omega) (by omega)]; exact hr.2.1 i hi ho, fun l hl => ?_, fun l h1 h2 => by rw [e _ (by omega) (by omega)]; exact hr.2.2.2.1 l h1 h2, ?_⟩
  · have := hr.2.2.1 l hl
    rw [e _ (by omega) (by omega)]
    refine ⟨this.1, ?_⟩
    unfold OrdOK
    rw [e (52 + l) (by omega) (by omega), e (56 + l) (by omega) (by omega), e (60 + l) (by omega) (by omega), e (64 + l) (by omega) (by omega)]
    exact this.2
  · rw [e 90 (by omega) (by omega), e 68 (by omega) (by omega), e 69 (by omega) (by omega), e 70 (by omega) (by omega), e 71 (by omega) (by omega)]
    exact hr.2.2.2.2
theorem SW.day {P : Pl} (pw : PW P) {B : Nat} {sd : Int32} {r : Nat → Nat} (hr : SW P B r) : SW P (B + 24) (dayA P sd r) := by
  have h4 := pw.2.2.2.1
  exact ((((hr.ord (sd := sd) pw (pL P) (Nat.le_refl _)).mono (C := B + 24) (by omega)).tal pw fun j hj => talS_ne pw hj 48).dr pw (Nat.le_refl _)).end pw
theorem SW.goes {P : Pl} (pw : PW P) {B : Nat} {sd : Int32} {r : Nat → Nat} (hr : SW P B r) : ∀ n, SW P (B + 24 * n) (goesA P sd r n)
  | 0 => hr
  | n + 1 => ((SW.goes pw hr n).day pw).mono (by omega)
section Days
variable {P : Pl} {d : Nat}
theorem mixed_m {a b : Int32} {μ : Mem} : X10_mixed d a b μ (mixA a b) μ := X10_mixed_ok ⟨rfl, rfl⟩
theorem lotOf_m {w sd : Int32} {μ : Mem} (h : μ.1 0 52 = sd) : X10_lotOf (d + 1) w μ (lotA sd w) μ := X10_lotOf_ok ⟨_, _, mixed_m, _, _, mixed_m, by rw [h]; rfl, rfl⟩
theorem SW.ordIn {P : Pl} {B : Nat} {r : Nat → Nat} (pw : PW P) (hr : SW P B r) {l : Nat} (hl : l < pL P) (h : r (52 + l) ≠ 0) : 1 ≤ r (52 + l) ∧ r (52 + l) ≤ 8 ∧ 1 ≤ r (56 + l) ∧ r (56 + l) ≤ 6 ∧ r (60 + l) < 8 ∧ r (64 + l) < 6 ∧ r (52 + l) ≤ pWi P l := by
  rcases (hr.2.2.1 l hl).2 with q | q
  · exact absurd q h
  · have := pw.2.2.2.2.2.2.2.2.2.1 l hl
    have := pw.1
    have := pw.2.1
    omega
theorem gust_le {P : Pl} {sd : Int32} {day l : Nat} : gust P sd day l ≤ 1 := by
  unfold gust
  split <;> omega
theorem fC_lots {μ μ' : Mem} (h : Kp fR μ μ') : μ'.1 0 52 = μ.1 0 52 := h.at rfl
theorem fR_r {μ μ' : Mem} (h : Kp fR μ μ') {a : Nat} (ha : a = 33 ∨ 34 < a ∨ a < 31) (h0 : a ≠ 0) : μ'.1 a = μ.1 a := h.row fun k => by
  unfold fR
  have h1 : (a == 31) = false := by rw [beq_eq_false_iff_ne]; omega
  have h2 : (a == 32) = false := by rw [beq_eq_false_iff_ne]; omega
  have h4 : (a == 34) = false := by rw [beq_eq_false_iff_ne]; omega
  have h3 : (a == 0) = false := by rw [beq_eq_false_iff_ne]; exact h0
  rw [h1, h2, h3, h4]
  rfl
/-- from the dries on -/
theorem dayGoes_end {μ : Mem} {r : Nat → Nat} (hM : MP P μ) (hr : RowM μ 34 r) (hb : SB r) : ∃ μ', X10_dayGoes_at191 (d + 2) 48 μ μ' ∧ Kp fR μ μ' ∧ RowM μ' 34 (endS P r) := by
  have ev : ∀ f : Nat → Int32, Kp fVr μ (sA μ 31 f) := fun f => Kp.sA fun _ => rfl
  obtain ⟨m1, hm1⟩ : ∃ m, m = sA μ 31 (upd (fillTo (μ.1 31) 9 0) 6 (nI (r 89))) := ⟨_, rfl⟩
  have k1 : Kp fVr μ m1 := by rw [hm1]; exact ev _
  have r1 : RowM m1 34 r := hr.kp k1 fun _ => rfl
  obtain ⟨m2, a1, a2⟩ := asks_v (d := d + 1) (k := 2) (pl := 0) (most := 999) (by decide) (by decide) (hM.kp (fV_M k1)) (vs := vG (r 89)) (by rw [hm1, sA_1]; exact upd_congr fill9)
  have k2 : Kp fR μ m2 := (fV_R k1).trans (fV_R (fT_V a2))
  have r2 : RowM m2 34 r := r1.kp a2 fun _ => rfl
  have gl := gathA_le (P := P) (day := r 89)
  have hs := hb.2
  have r3 : RowM (sI m2 34 88 (nI (min 9999 (r 88 + gathA P (r 89))))) 34 (updN r 88 (min 9999 (r 88 + gathA P (r 89)))) := r2.upd
  have r4 := r3.add (k := 89) (v := 1) (by decide)
  refine ⟨_, X10_dayGoes_at191_ok (tpos (by decide) ⟨_, looks_s, ?_⟩), k2.trans ((Kp.sI (a := 34) (k := 88) rfl).trans (Kp.sI (a := 34) (k := 89) rfl)), r4⟩
  rintro μ3 e3
  have e3 : μ3 = m1 := by
    rw [e3, hm1, sA_n (show 34 ≠ 31 by decide), hr 89 (by decide)]
    unfold sI
    rw [sA_1, sA_sA]
  subst e3
  refine ⟨nI (gathA P (r 89)), m2, a1, ?_⟩
  rw [r1 88 (by decide), nJ_add]
  by_cases h9 : r 88 + gathA P (r 89) ≤ 9999
  · rw [Nat.min_eq_right h9]
    refine tpos (nI_le (b := 9999) h9 (by decide)) ?_
    rintro μ7 rfl μ8 rfl
    rfl
  · rw [Nat.min_eq_left (by omega)]
    refine tneg (nI_ge (a := 9999) (by omega) (by omega)) ?_
    rintro μ7 rfl μ8 rfl
    rfl
theorem dayGoes_dr {r : Nat → Nat} (hb : SB r) : ∀ (m c : Nat) (μ : Mem), c + m = 48 → MP P μ → RowM μ 34 (drS P r c) → ∃ μ', X10_dayGoes_at191 (d + 2) (nI c) μ μ' ∧ Kp fR μ μ' ∧ RowM μ' 34 (endS P (drS P r 48))
  | 0, c, μ, hc, hM, hr => by
    have hc : c = 48 := hc
    subst hc
    exact dayGoes_end hM hr ⟨fun i hi => Nat.le_trans (drS_le 48) (hb.1 i hi), Nat.le_trans (drS_le 48) hb.2⟩
  | m + 1, c, μ, hc, hM, hr => by
    have hn : ¬ (48 : Int32) ≤ nI c := nI_ge (b := 48) (by omega) (by decide)
    cases ho : onL P c with
    | false =>
      have es : drS P r (c + 1) = drS P r c := by
        rw [drS, ho]
        rfl
      obtain ⟨μ', g1, g2, g3⟩ := dayGoes_dr hb m (c + 1) μ (by omega) hM (by rw [es]; exact hr)
      rw [nI_succ] at g1
      exact ⟨μ', X10_dayGoes_at191_ok (tneg hn ⟨_, _, isLand_m (by omega) hM, teq (by rw [ho]; rfl) g1⟩), g2, g3⟩
    | true =>
      obtain ⟨m1, a1, a2⟩ := driesIn_m (d := d) (c := c) (w := drS P r c c) (day := drS P r c 89) (by omega) ho hM (hr c (by omega)) (hr 89 (by decide))
      have r1 : RowM m1 34 (drS P r c) := hr.kp a2 fun _ => rfl
      have es : drS P r (c + 1) = updN (drS P r c) c (drS P r c c - dryA P (drS P r c c) (needO P c) (drownO P c) (drS P r c 89)) := by
        rw [drS, ho]
        rfl
      have hle := Nat.le_trans (drS_le (P := P) (r := r) (j := c) c) (hb.1 c (by omega))
      have dl := dryA_le (P := P) (w := drS P r c c) (n := needO P c) (d := drownO P c) (y := drS P r c 89)
      generalize hD : dryA P (drS P r c c) (needO P c) (drownO P c) (drS P r c 89) = D at es a1 dl
      have kp : Kp fR μ (sI m1 34 c (nI (drS P r c c - D))) := (fV_R a2).trans (Kp.sI rfl)
      obtain ⟨μ', g1, g2, g3⟩ := dayGoes_dr hb m (c + 1) (sI m1 34 c (nI (drS P r c c - D))) (by omega) (hM.kp (fR_M kp)) (by rw [es]; exact r1.upd)
      rw [nI_succ] at g1
      have vc : vp_in (nI c) 92 := vp_inN (by omega) (by decide)
      refine ⟨μ', X10_dayGoes_at191_ok (tneg hn ⟨_, _, isLand_m (by omega) hM, tne (by rw [ho]; decide) ⟨_, m1, a1, vc, ?_⟩⟩), kp.trans g2, g3⟩
      rw [nI_clamp (by omega), r1 c (by omega)]
      by_cases hlt : drS P r c c ≤ D
      · rw [Nat.sub_eq_zero_of_le hlt] at g1
        exact tpos (nI_le hlt (by omega)) ⟨vc, fun μ17 e => e ▸ g1⟩
      · refine tneg (nI_ge (by omega) (by omega)) ⟨vc, vc, fun μ18 e => ?_⟩
        rw [nI_sub (by omega)] at e
        exact e ▸ g1
theorem dayGoes_tal {r : Nat → Nat} (hb : SB r) : ∀ (m c : Nat) (μ : Mem), c + m = 48 → MP P μ → RowM μ 34 (talS P r c) → ∃ μ', X10_dayGoes_at116 (d + 2) (nI c) μ μ' ∧ Kp fR μ μ' ∧ RowM μ' 34 (endS P (drS P (talS P r 48) 48))
  | 0, c, μ, hc, hM, hr => by
    have hc : c = 48 := hc
    subst hc
    have sb : SB (talS P r 48) := ⟨fun i hi => by rw [talS_ne hM.1 (Or.inl (by omega))]; exact hb.1 i hi, by rw [talS_ne hM.1 (Or.inr (by omega))]; exact hb.2⟩
    obtain ⟨μ', g1, g2, g3⟩ := dayGoes_dr (d := d) sb 48 0 μ (by omega) hM hr
    exact ⟨μ', X10_dayGoes_at116_ok (tpos (by decide) g1), g2, g3⟩
  | m + 1, c, μ, hc, hM, hr => by
    have hn : ¬ (48 : Int32) ≤ nI c := nI_ge (b := 48) (by omega) (by decide)
    cases ho : onL P c with
    | false =>
      have es : talS P r (c + 1) = talS P r c := by
        rw [talS, ho]
        rfl
      obtain ⟨μ', g1, g2, g3⟩ := dayGoes_tal hb m (c + 1) μ (by omega) hM (by rw [es]; exact hr)
      rw [nI_succ] at g1
      exact ⟨μ', X10_dayGoes_at116_ok (tneg hn ⟨_, _, isLand_m (by omega) hM, teq (by rw [ho]; rfl) g1⟩), g2, g3⟩
    | true =>
      have es : talS P r (c + 1) = talC P (talS P r c) c := by
        rw [talS, ho]
        rfl
      have f6 := fld6 hM.1 ho
      have wl : talS P r c c < 2 ^ 31 := by rw [talS_ne hM.1 (Or.inl (by omega))]; have := hb.1 c (by omega); omega
      have hw := hr c (by omega)
      have next : ∀ μ1, Kp fR μ μ1 → RowM μ1 34 (talC P (talS P r c) c) → ∃ μ', X10_dayGoes_at116 (d + 2) (nI c + 1) μ1 μ' ∧ Kp fR μ μ' ∧ RowM μ' 34 (endS P (drS P (talS P r 48) 48)) := by
        intro μ1 k1 k2
        obtain ⟨μ', g1, g2, g3⟩ := dayGoes_tal hb m (c + 1) μ1 (by omega) (hM.kp (fR_M k1)) (by rw [es]; exact k2)
        rw [nI_succ] at g1
        exact ⟨μ', g1, k1.trans g2, g3⟩
      have sm : ∀ b, lackA P c b = true ∨ floodA P c b = true → ∃ f, pFld P c = some f ∧ f < 6 := by
        intro b q
        unfold lackA floodA at q
        cases hp : pFld P c with
        | none => rw [hp] at q; rcases q with q | q <;> cases q
        | some f => exact ⟨f, rfl, f6 f hp⟩
      have fin : ∀ (μ1 : Mem) (s1 : Nat → Nat), MP P μ1 → Kp fR μ μ1 → RowM μ1 34 s1 → s1 c = talS P r c c → talC P (talS P r c) c = (if floodA P c (talS P r c c) then updN s1 (82 + (pFld P c).getD 0) (s1 (82 + (pFld P c).getD 0) + 1) else s1) → ∃ μ', (∃ (y9 : Int32) (μ7 : Mem), X10_isFlooded (d + 2) (nI c) μ1 y9 μ7 ∧ ((y9 = 0 → X10_dayGoes_at116 (d + 2) (nI c + 1) μ7 μ') ∧ (¬ y9 = 0 → (∃ (y12 : Int32) (μ10 : Mem), X10_fieldAt (d + 2) (nI c) μ7 y12 μ10 ∧ vp_in (82 + y12) 92 ∧ vp_in (82 + y12) 92 ∧ (∀ μ13 : Mem, μ13 = sI μ10 34 ((82 + y12).toNatClampNeg) ((μ10.1 34 ((82 + y12).toNatClampNeg)) + 1) → X10_dayGoes_at116 (d + 2) (nI c + 1) μ13 μ'))))) ∧ Kp fR μ μ' ∧ RowM μ' 34 (endS P (drS P (talS P r 48) 48)) := by
        intro μ1 s1 hM1 kp1 hr1 hs1 ht
        have iff := isFlooded_m (d := d) (c := c) (by omega) ho hM1 ((hr1 c (by omega)).trans (by rw [hs1])) wl
        cases hf : floodA P c (talS P r c c) with
        | false =>
          rw [hf] at ht
          obtain ⟨μ', g1, g2, g3⟩ := next μ1 kp1 (by rw [ht]; exact hr1)
          rw [hf] at iff
          exact ⟨μ', ⟨_, μ1, iff, tpos rfl g1⟩, g2, g3⟩
        | true =>
          rw [hf] at ht iff
          obtain ⟨f, hf1, hf2⟩ := sm _ (Or.inr hf)
          rw [hf1] at ht
          have kp2 : Kp fR μ (sI μ1 34 (82 + f) (μ1.1 34 (82 + f) + nI 1)) := kp1.trans (Kp.sI rfl)
          obtain ⟨μ', g1, g2, g3⟩ := next _ kp2 (by rw [ht]; exact hr1.add (by omega))
          have fa := fieldAt_m (d := d + 2) (c := c) (by omega) ho hM1
          rw [hf1] at fa
          have e82 : (82 : Int32) + fI (some f) = nI (82 + f) := nJ_add 82 f
          refine ⟨μ', ⟨_, μ1, iff, tneg (by decide) ⟨_, μ1, fa, ?_⟩⟩, g2, g3⟩
          rw [e82, nI_clamp (by omega)]
          exact ⟨vp_inN (by omega) (by decide), vp_inN (by omega) (by decide), fun μ13 e => e ▸ g1⟩
      have il := isLacking_m (d := d) (c := c) (by omega) ho hM hw wl
      cases hl : lackA P c (talS P r c c) with
      | false =>
        rw [hl] at il
        obtain ⟨μ', g1, g2, g3⟩ := fin μ (talS P r c) hM Kp.refl hr rfl (by unfold talC; rw [hl]; rfl)
        exact ⟨μ', X10_dayGoes_at116_ok (tneg hn ⟨_, _, isLand_m (by omega) hM, tne (by rw [ho]; decide) ⟨_, μ, il, tpos rfl g1⟩⟩), g2, g3⟩
      | true =>
        rw [hl] at il
        obtain ⟨f, hf1, hf2⟩ := sm _ (Or.inl hl)
        have kp2 : Kp fR μ (sI μ 34 (76 + f) (μ.1 34 (76 + f) + nI 1)) := Kp.sI rfl
        obtain ⟨μ', g1, g2, g3⟩ := fin (sI μ 34 (76 + f) (μ.1 34 (76 + f) + nI 1)) (updN (talS P r c) (76 + f) (talS P r c (76 + f) + 1)) (hM.kp (fR_M kp2)) kp2 (hr.add (by omega)) (updN_ne (by omega)) (by unfold talC; rw [hl, hf1]; rfl)
        have fa := fieldAt_m (d := d + 2) (c := c) (by omega) ho hM
        rw [hf1] at fa
        have e76 : (76 : Int32) + fI (some f) = nI (76 + f) := nJ_add 76 f
        refine ⟨μ', X10_dayGoes_at116_ok (tneg hn ⟨_, _, isLand_m (by omega) hM, tne (by rw [ho]; decide) ⟨_, μ, il, tneg (by decide) ⟨_, μ, fa, ?_⟩⟩⟩), g2, g3⟩
        rw [e76, nI_clamp (by omega)]
        exact ⟨vp_inN (by omega) (by decide), vp_inN (by omega) (by decide), fun μ13 e => e ▸ g1⟩
theorem dayGoes_ord {r : Nat → Nat} {B : Nat} {sd : Int32} (hB : B + 24 < 1000000) (hr0 : SW P B r) : ∀ (m l : Nat) (μ : Mem), l + m = pL P → MP P μ → μ.1 0 52 = sd → RowM μ 34 (ordS P sd r l) → ∃ μ', X10_dayGoes_at2 (d + 3) (nI l) μ μ' ∧ Kp fR μ μ' ∧ RowM μ' 34 (dayA P sd r)
  | 0, l, μ, hl, hM, hsd, hr => by
    have hl : l = pL P := hl
    subst hl
    have pw := hM.1
    have sw := hr0.ord (sd := sd) pw (pL P) (Nat.le_refl _)
    obtain ⟨L, h1, h2, _, mm⟩ := hM.eL
    obtain ⟨μ', g1, g2, g3⟩ := dayGoes_tal (d := d + 1) sw.1 48 0 μ (by omega) hM hr
    refine ⟨μ', X10_dayGoes_at2_ok ⟨hM.live, ?_⟩, g2, g3⟩
    rw [h2, nI_clamp (by omega), mm.2.2.2.2.2.1]
    exact tpos (nI_le (Nat.le_refl _) (by have := pw.2.2.2.1; omega)) g1
  | m + 1, l, μ, hl, hM, hsd, hr => by
    have pw := hM.1
    have h4 := pw.2.2.2.1
    have sw := hr0.ord (sd := sd) pw l (by omega)
    obtain ⟨L, h1, h2, _, mm⟩ := hM.eL
    have hn : ¬ nI (pL P) ≤ nI l := nI_ge (by omega) (by omega)
    have e52 : (52 : Int32) + nI l = nI (52 + l) := nJ_add 52 l
    have e56 : (56 : Int32) + nI l = nI (56 + l) := nJ_add 56 l
    have e60 : (60 : Int32) + nI l = nI (60 + l) := nJ_add 60 l
    have e64 : (64 : Int32) + nI l = nI (64 + l) := nJ_add 64 l
    by_cases h0 : ordS P sd r l (52 + l) = 0
    · have es : ordS P sd r (l + 1) = ordS P sd r l := by
        rw [ordS, if_pos h0]
      obtain ⟨μ', g1, g2, g3⟩ := dayGoes_ord hB hr0 m (l + 1) μ (by omega) hM hsd (by rw [es]; exact hr)
      rw [nI_succ] at g1
      refine ⟨μ', X10_dayGoes_at2_ok ⟨hM.live, ?_⟩, g2, g3⟩
      rw [h2, nI_clamp (show L < 2 ^ 31 by omega), mm.2.2.2.2.2.1, e52, nI_clamp (show 52 + l < 2 ^ 31 by omega), hr (52 + l) (by omega)]
      exact tneg hn ⟨vp_inN (by omega) (by decide), teq (by rw [h0]; rfl) g1⟩
    · obtain ⟨o1, o2, o3, o4, o5, o6, _⟩ := sw.ordIn pw (by omega) h0
      have gl := gust_le (P := P) (sd := sd) (day := ordS P sd r l 89) (l := l)
      have hp := (sw.2.2.1 l (by omega)).1
      obtain ⟨m1, a1, a2, a3⟩ := falls_m (d := d) (μ := μ) (l := l) (w := ordS P sd r l (52 + l)) (h := ordS P sd r l (56 + l)) (x := ordS P sd r l (60 + l) + gust P sd (ordS P sd r l 89) l) (y := ordS P sd r l (64 + l)) (by omega) o1 o2 o4 (by omega) (by omega) (by omega) sw.1 hM hr
      have es : ordS P sd r (l + 1) = fallR P l (ordS P sd r l (52 + l)) (ordS P sd r l (56 + l)) (ordS P sd r l (60 + l) + gust P sd (ordS P sd r l 89) l) (ordS P sd r l (64 + l)) (ordS P sd r l) := by
        rw [ordS, if_neg h0]
      obtain ⟨μ', g1, g2, g3⟩ := dayGoes_ord hB hr0 m (l + 1) m1 (by omega) (hM.kp (fR_M a2)) ((fC_lots a2).trans hsd) (by rw [es]; exact a3)
      rw [nI_succ] at g1
      refine ⟨μ', X10_dayGoes_at2_ok ⟨hM.live, ?_⟩, a2.trans g2, g3⟩
      rw [h2, nI_clamp (show L < 2 ^ 31 by omega), mm.2.2.2.2.2.1, e52, nI_clamp (show 52 + l < 2 ^ 31 by omega), hr (52 + l) (by omega)]
      refine tneg hn ⟨vp_inN (by omega) (by decide), tne (nI_ne0 (by omega) (by omega)) ⟨_, μ, lotOf_m hsd, hM.live, ?_⟩⟩
      rw [h2, nI_clamp (show L < 2 ^ 31 by omega), mm.2.2.2.2.2.2.2.1, hr 89 (by decide), e56, e60, e64, nI_clamp (show 56 + l < 2 ^ 31 by omega), nI_clamp (show 60 + l < 2 ^ 31 by omega), nI_clamp (show 64 + l < 2 ^ 31 by omega), hr (52 + l) (by omega), hr (56 + l) (by omega), hr (60 + l) (by omega), hr (64 + l) (by omega)]
      have v2 : vp_in (nI (52 + l)) 92 := vp_inN (by omega) (by decide)
      have v6 : vp_in (nI (56 + l)) 92 := vp_inN (by omega) (by decide)
      have v0 : vp_in (nI (60 + l)) 92 := vp_inN (by omega) (by decide)
      have v4 : vp_in (nI (64 + l)) 92 := vp_inN (by omega) (by decide)
      by_cases hg : nI (pGu P) ≤ lotA sd (8 * nI (ordS P sd r l 89) + nI l)
      · have eg : gust P sd (ordS P sd r l 89) l = 0 := if_pos hg
        rw [eg] at a1
        exact tpos hg ⟨v2, v6, v0, v4, _, m1, by rw [show nI (ordS P sd r l (60 + l)) + 0 = nI (ordS P sd r l (60 + l) + 0) from nJ_add _ 0]; exact a1, g1⟩
      · have eg : gust P sd (ordS P sd r l 89) l = 1 := if_neg hg
        rw [eg] at a1
        exact tneg hg ⟨v2, v6, v0, v4, _, m1, by rw [show nI (ordS P sd r l (60 + l)) + 1 = nI (ordS P sd r l (60 + l) + 1) from nJ_add _ 1]; exact a1, g1⟩
theorem dayGoes_m {μ : Mem} {r : Nat → Nat} {B : Nat} {sd : Int32} (hB : B + 24 < 1000000) (hr0 : SW P B r) (hM : MP P μ) (hsd : μ.1 0 52 = sd) (hr : RowM μ 34 r) : ∃ μ', X10_dayGoes (d + 4) μ μ' ∧ Kp fR μ μ' ∧ RowM μ' 34 (dayA P sd r) := by
  obtain ⟨μ', g1, g2, g3⟩ := dayGoes_ord (d := d) hB hr0 (pL P) 0 μ (by omega) hM hsd hr
  exact ⟨μ', X10_dayGoes_ok g1, g2, g3⟩
theorem goes_loop {r : Nat → Nat} {B n : Nat} {sd : Int32} (hn : n < 1000) (hB : B + 24 * n < 1000000) (hr0 : SW P B r) : ∀ (m k : Nat) (μ : Mem), k + m = n → MP P μ → μ.1 0 52 = sd → RowM μ 34 (goesA P sd r k) → ∃ μ', X10_goes_at2 (d + 4) (nI n) (nI k) μ μ' ∧ Kp fR μ μ' ∧ RowM μ' 34 (goesA P sd r n)
  | 0, k, μ, hk, hM, hsd, hr => by
    have hk : k = n := hk
    subst hk
    exact ⟨μ, X10_goes_at2_ok (tpos (nI_le (Nat.le_refl _) (by omega)) rfl), Kp.refl, hr⟩
  | m + 1, k, μ, hk, hM, hsd, hr => by
    obtain ⟨m1, a1, a2, a3⟩ := dayGoes_m (d := d) (by omega) (hr0.goes hM.1 (sd := sd) k) hM hsd hr
    obtain ⟨μ', g1, g2, g3⟩ := goes_loop hn hB hr0 m (k + 1) m1 (by omega) (hM.kp (fR_M a2)) ((fC_lots a2).trans hsd) a3
    rw [nI_succ] at g1
    exact ⟨μ', X10_goes_at2_ok (tneg (nI_ge (by omega) (by omega)) ⟨m1, a1, g1⟩), a2.trans g2, g3⟩
theorem goes_m {μ : Mem} {r : Nat → Nat} {B n : Nat} {sd : Int32} (hn : n < 1000) (hB : B + 24 * n < 1000000) (hr0 : SW P B r) (hM : MP P μ) (hsd : μ.1 0 52 = sd) (hr : RowM μ 34 r) : ∃ μ', X10_goes (d + 5) (nI n) μ μ' ∧ Kp fR μ μ' ∧ RowM μ' 34 (goesA P sd r n) := by
  obtain ⟨μ', g1, g2, g3⟩ := goes_loop (d := d) hn hB hr0 n 0 μ (by omega) hM hsd hr
  exact ⟨μ', X10_goes_ok g1, g2, g3⟩
end Days
