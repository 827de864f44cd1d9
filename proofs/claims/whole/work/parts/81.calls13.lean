/-! ===== calls: look ===== -/
section Calls
variable {d n : Nat}
def wrA (E : Nat → Nat) : Nat → Nat
  | 0 => 0
  | j + 1 => max (wrA E j) (cntA (fun i => decide (E i = E j)) (j + 1))
def mxA (g : Nat → Nat) : Nat → Nat
  | 0 => 0
  | v + 1 => max (mxA g v) (g v)
theorem mxA_spec {g : Nat → Nat} : ∀ n, (∀ v, v < n → g v ≤ mxA g n) ∧ (mxA g n = 0 ∨ ∃ v, v < n ∧ mxA g n = g v)
  | 0 => ⟨fun v h => absurd h (Nat.not_lt_zero _), Or.inl rfl⟩
  | n + 1 => by
    obtain ⟨h1, h2⟩ := mxA_spec (g := g) n
    have e : mxA g (n + 1) = max (mxA g n) (g n) := rfl
    rw [e]
    refine ⟨fun v hv => ?_, ?_⟩
    · by_cases q : v = n
      · rw [q]; omega
      · have := h1 v (by omega)
        omega
    · by_cases q : mxA g n ≤ g n
      · exact Or.inr ⟨n, by omega, by omega⟩
      · rcases h2 with h2 | ⟨v, h3, h4⟩
        · omega
        · exact Or.inr ⟨v, by omega, by omega⟩
theorem cnt_eq {E : Nat → Nat} {v j : Nat} : cntA (fun i => decide (E i = v)) (j + 1) = cntA (fun i => decide (E i = v)) j + if E j = v then 1 else 0 := by
  show _ + (if decide (E j = v) = true then 1 else 0) = _
  by_cases q : E j = v
  · rw [decide_eq_true q, if_pos rfl, if_pos q]
  · rw [decide_eq_false q, if_neg q]
    rfl
theorem wrA_spec {E : Nat → Nat} (hE : ∀ j, E j < 10) : ∀ j, (∀ v, v < 10 → cntA (fun i => decide (E i = v)) j ≤ wrA E j) ∧ (wrA E j = 0 ∨ ∃ v, v < 10 ∧ wrA E j = cntA (fun i => decide (E i = v)) j)
  | 0 => ⟨fun v _ => Nat.le_refl _, Or.inl rfl⟩
  | j + 1 => by
    obtain ⟨h1, h2⟩ := wrA_spec hE j
    have e : wrA E (j + 1) = max (wrA E j) (cntA (fun i => decide (E i = E j)) (j + 1)) := rfl
    have c0 : cntA (fun i => decide (E i = E j)) (j + 1) = cntA (fun i => decide (E i = E j)) j + 1 := by rw [cnt_eq, if_pos rfl]
    rw [e]
    refine ⟨fun v hv => ?_, ?_⟩
    · by_cases q : E j = v
      · rw [← q]; omega
      · rw [cnt_eq, if_neg q]
        have := h1 v hv
        omega
    · by_cases q : wrA E j ≤ cntA (fun i => decide (E i = E j)) (j + 1)
      · exact Or.inr ⟨E j, hE j, by omega⟩
      · rcases h2 with h2 | ⟨v, h3, h4⟩
        · omega
        · refine Or.inr ⟨v, h3, ?_⟩
          by_cases z : E j = v
          · rw [z] at c0 q
            omega
          · rw [cnt_eq (v := v), if_neg z]
            omega
theorem wr_mx {E : Nat → Nat} (hE : ∀ j, E j < 10) (j : Nat) : wrA E j = mxA (fun v => cntA (fun i => decide (E i = v)) j) 10 := by
  obtain ⟨a1, a2⟩ := wrA_spec hE j
  obtain ⟨b1, b2⟩ := mxA_spec (g := fun v => cntA (fun i => decide (E i = v)) j) 10
  apply Nat.le_antisymm
  · rcases a2 with a2 | ⟨v, h1, h2⟩
    · omega
    · rw [h2]; exact b1 v h1
  · rcases b2 with b2 | ⟨v, h1, h2⟩
    · omega
    · rw [h2]; exact a1 v h1
theorem cnt_wy {f : Nat → Bool} {g : Nat → Nat} {v : Nat} : ∀ c, c ≤ 256 → cntA (fun b => f b && decide (g b = v)) c = cntA (fun i => decide (g (wyA f 256 i) = v)) (cntA f c)
  | 0, _ => rfl
  | c + 1, h => by
    have ih := cnt_wy (f := f) (g := g) (v := v) c (by omega)
    show cntA (fun b => f b && decide (g b = v)) c + (if (f c && decide (g c = v)) = true then 1 else 0) = _
    cases e : f c with
    | false =>
      rw [cnt_n e, ih]
      rfl
    | true =>
      rw [cnt_s e, cnt_eq (E := fun i => g (wyA f 256 i)), wyA_at e (by omega), ih, Bool.true_and]
      by_cases q : g c = v
      · rw [decide_eq_true q, if_pos rfl, if_pos q]
      · rw [decide_eq_false q, if_neg q]
        rfl
theorem mxA_congr {g k : Nat → Nat} : ∀ n, (∀ v, v < n → g v = k v) → mxA g n = mxA k n
  | 0, _ => rfl
  | n + 1, h => by
    show max (mxA g n) (g n) = max (mxA k n) (k n)
    rw [mxA_congr n fun v hv => h v (by omega), h n (by omega)]
theorem mxA_le {g : Nat → Nat} {B : Nat} (h : ∀ v, g v ≤ B) : ∀ n, mxA g n ≤ B
  | 0 => Nat.zero_le _
  | n + 1 => by
    have := mxA_le h n
    have := h n
    show max (mxA g n) (g n) ≤ B
    omega
section
variable {P : Pl} {p w h k : Nat} {r X Y W : Nat → Nat}
def wayV (P : Pl) (r : Nat → Nat) (w h : Nat) (f : Nat → Bool) (cx cy v c : Nat) : Nat := cntA (fun b => f b && decide (wetE P r w h b cx cy = v)) c
def worstV (P : Pl) (r : Nat → Nat) (w h : Nat) (f : Nat → Bool) (cx cy : Nat) : Nat := mxA (fun v => wayV P r w h f cx cy v 256) 10
theorem worstV_le {f : Nat → Bool} {cx cy : Nat} : worstV P r w h f cx cy ≤ 256 := mxA_le (fun v => cntA_le _ _) 10
/-! the model's worst -/
theorem worst75 {g : Nat → Nat} {μ : Mem} (hg : ∀ v, v < 10 → μ.1 44 v = nI (g v)) (hb : ∀ v, g v ≤ 256) : ∀ (m v : Nat), v + m = 10 → X10_worstAt_at75 d (nI (mxA g v)) (nI v) μ (nI (mxA g 10)) μ
  | 0, v, hv => by
    have hv : v = 10 := hv
    subst hv
    exact X10_worstAt_at75_ok (tpos (nI_le (a := 10) (b := 10) (by decide) (by decide)) ⟨rfl, rfl⟩)
  | m + 1, v, hv => by
    have ih := worst75 (μ := μ) hg hb m (v + 1) (by omega)
    have b1 := mxA_le hb v
    have b2 := hb v
    rw [nI_succ] at ih
    have v10 : vp_in (nI v) 10 := vp_inN (by omega) (by decide)
    refine X10_worstAt_at75_ok (tneg (nI_ge (b := 10) (by omega) (by decide)) ⟨v10, ?_⟩)
    rw [nI_clamp (by omega), hg v (by omega)]
    have e : mxA g (v + 1) = max (mxA g v) (g v) := rfl
    by_cases q : g v ≤ mxA g v
    · rw [e, show max (mxA g v) (g v) = mxA g v by omega] at ih
      exact tpos (nI_le q (by omega)) ih
    · rw [e, show max (mxA g v) (g v) = g v by omega] at ih
      exact tneg (nI_ge (by omega) (by omega)) ⟨v10, ih⟩
def fLk : Fr := fun a k => a == 31 || (a == 32 || (a == 44 || (a == 0 && k == 49)))
theorem fV_Lk {μ μ' : Mem} (h : Kp fVr μ μ') : Kp fLk μ μ' := h.mono fun a k q => by
  have q : ¬ (a = 31) ∧ ¬ a = 32 ∧ ¬ a = 44 ∧ (a = 0 → ¬ k = 49) := by simpa [fLk] using q
  simp [fVr]
  omega
theorem fLk_sc {μ μ' : Mem} (h : Kp fLk μ μ') : Kq scM μ μ' := h.q fun a k q => by
  have : a = 31 ∨ a = 32 ∨ a = 44 ∨ a = 0 ∧ k = 49 := by simpa [fLk] using q
  unfold scM
  omega
theorem worst27 {B cx cy : Nat} {f : Nat → Bool} (hB : B < 900000) (hf : ∀ b, f b = true → b / 64 < pL P) (hx : cx < 8) (hy : cy < 8) (hw : 1 ≤ w) (hw8 : w ≤ 8) (hh : 1 ≤ h) (hh6 : h ≤ 6) (hS : SW P B r) : ∀ (m c : Nat) (μ : Mem), c + m = 256 → MP P μ → RowM μ 33 r → (∀ b, b < 256 → μ.1 43 b = bI (f b)) → (∀ v, v < 10 → μ.1 44 v = nI (wayV P r w h f cx cy v c)) → ∃ μ', X10_worstAt_at27 (d + 3) (nI (8 * cy + cx)) (nI w) (nI h) (nI c) μ (nI (worstV P r w h f cx cy)) μ' ∧ Kp fLk μ μ'
  | 0, c, μ, hc, hM, hR, hO, hV => by
    have hc : c = 256 := hc
    subst hc
    exact ⟨μ, X10_worstAt_at27_ok (tpos (nI_le (a := 256) (b := 256) (by decide) (by decide)) (worst75 hV (fun v => cntA_le _ _) 10 0 (by omega))), Kp.refl⟩
  | m + 1, c, μ, hc, hM, hR, hO, hV => by
    have hn1 : ¬ (256 : Int32) ≤ nI c := nI_ge (b := 256) (by omega) (by decide)
    have v256 : vp_in (nI c) 256 := vp_inN (by omega) (by decide)
    have ec : (nI c).toNatClampNeg = c := nI_clamp (by omega)
    have st : ∀ v, wayV P r w h f cx cy v (c + 1) = wayV P r w h f cx cy v c + if (f c && decide (wetE P r w h c cx cy = v)) = true then 1 else 0 := fun v => rfl
    cases e : f c with
    | false =>
      obtain ⟨μ', g1, g2⟩ := worst27 hB hf hx hy hw hw8 hh hh6 hS m (c + 1) μ (by omega) hM hR hO (fun v hv => by
        rw [st, e]
        exact hV v hv)
      rw [nI_succ] at g1
      refine ⟨μ', X10_worstAt_at27_ok (tneg hn1 ⟨v256, ?_⟩), g2⟩
      rw [ec, hO c (by omega), e]
      exact tpos rfl g1
    | true =>
      have hl := hf c e
      have hpk := (hS.2.2.1 _ hl).1
      obtain ⟨m1, a1, a2⟩ := wetBy_m (d := d) hl (show c < 256 by omega) hx hy hw hw8 hh hh6 (show r (48 + c / 64) < 1000000 by omega) hM hR
      have wl := wetE_le (P := P) (r := r) (w := w) (h := h) (c := c) (cx := cx) (cy := cy)
      have k1 : Kp fLk m1 (sI m1 44 (wetE P r w h c cx cy) (m1.1 44 (wetE P r w h c cx cy) + 1)) := Kp.sI rfl
      have M1 := hM.kp (fV_M a2)
      have R1 : RowM m1 33 r := hR.kp a2 fun _ => rfl
      obtain ⟨μ', g1, g2⟩ := worst27 hB hf hx hy hw hw8 hh hh6 hS m (c + 1) (sI m1 44 (wetE P r w h c cx cy) (m1.1 44 (wetE P r w h c cx cy) + 1)) (by omega) (M1.kp (scM_M (fLk_sc k1))) (fun i hi => by rw [sI_n (by decide)]; exact R1 i hi) (fun b hb => by rw [sI_n (by decide), a2.at rfl]; exact hO b hb) (fun v hv => by
        rw [st, e, Bool.true_and]
        by_cases q : wetE P r w h c cx cy = v
        · rw [decide_eq_true q, if_pos rfl, q, sI_1, a2.at rfl, hV v hv, nI_1]
        · rw [decide_eq_false q, sI_k (fun z => q z.symm), a2.at rfl, hV v hv]
          rfl)
      rw [nI_succ] at g1
      have v10 : vp_in (nI (wetE P r w h c cx cy)) 10 := vp_inN (by omega) (by decide)
      refine ⟨μ', X10_worstAt_at27_ok (tneg hn1 ⟨v256, ?_⟩), ((fV_Lk a2).trans k1).trans g2⟩
      rw [ec, hO c (by omega), e]
      refine tneg (by decide) ⟨_, m1, a1, v10, v10, ?_⟩
      rintro μ4 rfl
      rw [nI_clamp (by omega)]
      exact g1
theorem worst3 {B cx cy : Nat} {f : Nat → Bool} (hB : B < 900000) (hf : ∀ b, f b = true → b / 64 < pL P) (hx : cx < 8) (hy : cy < 8) (hw : 1 ≤ w) (hw8 : w ≤ 8) (hh : 1 ≤ h) (hh6 : h ≤ 6) (hS : SW P B r) : ∀ (m v : Nat) (μ : Mem), v + m = 10 → MP P μ → RowM μ 33 r → (∀ b, b < 256 → μ.1 43 b = bI (f b)) → (∀ u, u < v → μ.1 44 u = 0) → ∃ μ', X10_worstAt_at3 (d + 3) (nI (8 * cy + cx)) (nI w) (nI h) (nI v) μ (nI (worstV P r w h f cx cy)) μ' ∧ Kp fLk μ μ'
  | 0, v, μ, hv, hM, hR, hO, hV => by
    have hv : v = 10 := hv
    subst hv
    obtain ⟨μ', g1, g2⟩ := worst27 (d := d) hB hf hx hy hw hw8 hh hh6 hS 256 0 μ (by omega) hM hR hO (fun v hv => hV v hv)
    exact ⟨μ', X10_worstAt_at3_ok (tpos (nI_le (a := 10) (b := 10) (by decide) (by decide)) g1), g2⟩
  | m + 1, v, μ, hv, hM, hR, hO, hV => by
    have k1 : Kp fLk μ (sI μ 44 v 0) := Kp.sI rfl
    obtain ⟨μ', g1, g2⟩ := worst3 hB hf hx hy hw hw8 hh hh6 hS m (v + 1) (sI μ 44 v 0) (by omega) (hM.kp (scM_M (fLk_sc k1))) (fun i hi => by rw [sI_n (by decide)]; exact hR i hi) (fun b hb => by rw [sI_n (by decide)]; exact hO b hb) (fun u hu => by
      by_cases q : u = v
      · rw [q, sI_1]
      · rw [sI_k q]; exact hV u (by omega))
    rw [nI_succ] at g1
    refine ⟨μ', X10_worstAt_at3_ok (tneg (nI_ge (b := 10) (by omega) (by decide)) ⟨vp_inN (by omega) (by decide), ?_⟩), k1.trans g2⟩
    rintro μ1 rfl
    rw [nI_clamp (by omega)]
    exact g1
theorem worstAt_m {B cx cy : Nat} {f : Nat → Bool} {μ : Mem} (hB : B < 900000) (hf : ∀ b, f b = true → b / 64 < pL P) (hx : cx < 8) (hy : cy < 8) (hw : 1 ≤ w) (hw8 : w ≤ 8) (hh : 1 ≤ h) (hh6 : h ≤ 6) (hS : SW P B r) (hM : MP P μ) (hR : RowM μ 33 r) (hO : ∀ b, b < 256 → μ.1 43 b = bI (f b)) : ∃ μ', X10_worstAt (d + 4) (nI (8 * cy + cx)) (nI w) (nI h) μ (nI (worstV P r w h f cx cy)) μ' ∧ Kp fLk μ μ' := by
  obtain ⟨μ', g1, g2⟩ := worst3 (d := d) hB hf hx hy hw hw8 hh hh6 hS 10 0 μ (by omega) hM hR hO (fun u hu => by omega)
  exact ⟨μ', X10_worstAt_ok g1, g2⟩
/-! the scan -/
abbrev Lk : Type := Option (Nat × Nat)
def lkS (P : Pl) (G : Nat → Nat) : Nat → Lk
  | 0 => none
  | c + 1 => if onL P c = true then (match lkS P G c with
    | none => some (G c, c)
    | some q => if G c < q.1 then some (G c, c) else some q) else lkS P G c
theorem lk_skip {G : Nat → Nat} {a b : Nat} (hab : a ≤ b) (h : ∀ c, a ≤ c → c < b → onL P c = false) : lkS P G b = lkS P G a := by
  obtain ⟨m, rfl⟩ := Nat.exists_eq_add_of_le hab
  induction m with
  | zero => rfl
  | succ m ih =>
    show (if onL P (a + m) = true then _ else lkS P G (a + m)) = _
    rw [h (a + m) (by omega) (by omega), if_neg (by decide)]
    exact ih (by omega) fun c h1 h2 => h c h1 (by omega)
theorem lk_OK {G : Nat → Nat} (hG : ∀ c, G c ≤ 256) : ∀ c q, lkS P G c = some q → q.1 ≤ 256 ∧ q.2 < c
  | 0, q, e => by cases e
  | c + 1, q, e => by
    have hg := hG c
    unfold lkS at e
    split at e
    · cases hc : lkS P G c with
      | none =>
        rw [hc] at e
        cases e
        exact ⟨hg, by omega⟩
      | some b =>
        rw [hc] at e
        have := lk_OK hG c b hc
        dsimp only at e
        split at e
        · cases e; exact ⟨hg, by omega⟩
        · cases e; exact ⟨this.1, by omega⟩
    · have := lk_OK hG c q e
      exact ⟨this.1, by omega⟩
theorem lk_some {G : Nat → Nat} (h0 : onL P 0 = true) : ∀ c, (lkS P G (c + 1)).isSome = true
  | 0 => by
    show (if onL P 0 = true then some (G 0, 0) else none).isSome = true
    rw [if_pos h0]
    rfl
  | c + 1 => by
    have ih := lk_some (G := G) h0 c
    rw [lkS]
    split
    · split
      · rfl
      · split <;> rfl
    · exact ih
def lkC (c : Nat) : Nat := 10 * (c / 8) + c % 8
def lB (z : Int32) (o : Lk) : Int32 := match o with
  | none => z
  | some q => nI (lkC q.2)
def lV (z : Int32) (o : Lk) : Int32 := match o with
  | none => z
  | some q => nI q.1
def lkG (P : Pl) (r : Nat → Nat) (w h : Nat) (f : Nat → Bool) (c : Nat) : Nat := worstV P r w h f (c % 8) (c / 8)
theorem look55 {B : Nat} {f : Nat → Bool} (hB : B < 900000) (hf : ∀ b, f b = true → b / 64 < pL P) (hw : 1 ≤ w) (hw8 : w ≤ 8) (hh : 1 ≤ h) (hh6 : h ≤ 6) (hS : SW P B r) : ∀ (m c : Nat) (μ : Mem), c + m = 48 → MP P μ → RowM μ 33 r → (∀ b, b < 256 → μ.1 43 b = bI (f b)) → ∃ μ', X10_look_at55 (d + 4) (nI w) (nI h) (lB (-2) (lkS P (lkG P r w h f) c)) (lV 0 (lkS P (lkG P r w h f) c)) (nI c) μ (lB (-2) (lkS P (lkG P r w h f) 48)) μ' ∧ Kp fLk μ μ'
  | 0, c, μ, hc, hM, hR, hO => by
    have hc : c = 48 := hc
    subst hc
    exact ⟨μ, X10_look_at55_ok (tpos (nI_le (a := 48) (b := 48) (by decide) (by decide)) ⟨rfl, rfl⟩), Kp.refl⟩
  | m + 1, c, μ, hc, hM, hR, hO => by
    have hn1 : ¬ (48 : Int32) ≤ nI c := nI_ge (b := 48) (by omega) (by decide)
    have i1 := isLand_m (d := d + 2) (c := c) (by omega) hM
    have hG : ∀ c, lkG P r w h f c ≤ 256 := fun c => worstV_le
    cases ho : onL P c with
    | false =>
      rw [ho] at i1
      obtain ⟨μ', g1, g2⟩ := look55 hB hf hw hw8 hh hh6 hS m (c + 1) μ (by omega) hM hR hO
      have es : lkS P (lkG P r w h f) (c + 1) = lkS P (lkG P r w h f) c := if_neg (by rw [ho]; decide)
      rw [es, nI_succ] at g1
      exact ⟨μ', X10_look_at55_ok (tneg hn1 ⟨_, μ, i1, teq rfl g1⟩), g2⟩
    | true =>
      rw [ho] at i1
      obtain ⟨m1, a1, a2⟩ := worstAt_m (d := d) (cx := c % 8) (cy := c / 8) hB hf (by omega) (by omega) hw hw8 hh hh6 hS hM hR hO
      rw [show 8 * (c / 8) + c % 8 = c by omega] at a1
      obtain ⟨μ', g1, g2⟩ := look55 hB hf hw hw8 hh hh6 hS m (c + 1) m1 (by omega) (hM.kp (scM_M (fLk_sc a2))) (hR.kp a2 fun _ => rfl) (fun b hb => by rw [a2.at rfl]; exact hO b hb)
      have es : lkS P (lkG P r w h f) (c + 1) = match lkS P (lkG P r w h f) c with
        | none => some (lkG P r w h f c, c)
        | some q => if lkG P r w h f c < q.1 then some (lkG P r w h f c, c) else some q := if_pos ho
      have ek : nI c / 8 * 10 + (nI c - nI c / 8 * 8) = nI (lkC c) := by
        rw [show (8 : Int32) = nI 8 from rfl, nI_rem (by omega) (by decide), nI_div (by omega) (by decide), show (10 : Int32) = nI 10 from rfl, nI_mul, nJ_add, Nat.mul_comm]
        rfl
      have hgc := hG c
      rw [nI_succ] at g1
      refine ⟨μ', X10_look_at55_ok (tneg hn1 ⟨_, μ, i1, tne (by decide) ⟨_, m1, a1, ?_⟩⟩), a2.trans g2⟩
      rw [ek]
      cases hq : lkS P (lkG P r w h f) c with
      | none =>
        rw [hq] at es
        rw [es] at g1
        exact tpos (by decide) g1
      | some q =>
        obtain ⟨q1, q2⟩ := lk_OK hG c q hq
        rw [hq] at es
        dsimp only at es
        refine tneg (nI_pos (by unfold lkC; omega)) ?_
        by_cases z : lkG P r w h f c < q.1
        · rw [if_pos z] at es
          rw [es] at g1
          exact tpos (nI_lt z (by omega)) g1
        · rw [if_neg z] at es
          rw [es] at g1
          exact tneg (nI_nlt (a := lkG P r w h f c) (b := q.1) (by omega) (by omega)) g1
theorem look15 {B : Nat} {Xv : Int32} (hB : B < 900000) (hw : 1 ≤ w) (hw8 : w ≤ 8) (hh : 1 ≤ h) (hh6 : h ≤ 6) (hS : SW P B r)
    (hc : ∀ μ, MP P μ → RowM μ 33 r → (∀ b, b < 256 → μ.1 43 b = bI (isW P r w h X Y W k b)) → ∃ μ', X10_look_at55 (d + 4) (nI w) (nI h) (-2) 0 0 μ Xv μ' ∧ Kp fLk μ μ') : ∀ (m c : Nat) (μ : Mem), c + m = 256 → MP P μ → RowM μ 33 r → TdM X Y W k μ → (∀ b, b < c → μ.1 43 b = bI (isW P r w h X Y W k b)) → ∃ μ', X10_look_at15 (d + 4) (nI k) (nI w) (nI h) (nI c) μ Xv μ' ∧ Kq scM μ μ'
  | 0, c, μ, he, hM, hR, hT, hO => by
    have he : c = 256 := he
    subst he
    obtain ⟨μ', g1, g2⟩ := hc μ hM hR hO
    exact ⟨μ', X10_look_at15_ok (tpos (nI_le (a := 256) (b := 256) (by decide) (by decide)) g1), fLk_sc g2⟩
  | m + 1, c, μ, he, hM, hR, hT, hO => by
    obtain ⟨m1, a1, a2⟩ := isWay_m (d := d) (c := c) hB (by omega) hw hw8 hh hh6 hS hM hR hT
    have k1 : Kq (fun a _ => a = 43) m1 (sI m1 43 c (bI (isW P r w h X Y W k c))) := Kq.sI rfl
    have k2 : Kq scM m1 (sI m1 43 c (bI (isW P r w h X Y W k c))) := k1.mono fun a k q => by unfold scM; omega
    have M1 := hM.kp (fV_M a2)
    have R1 : RowM m1 33 r := hR.kp a2 fun _ => rfl
    have T1 := hT.kp a2
    obtain ⟨μ', g1, g2⟩ := look15 hB hw hw8 hh hh6 hS hc m (c + 1) (sI m1 43 c (bI (isW P r w h X Y W k c))) (by omega) (M1.kp (scM_M k2)) (fun i hi => by rw [sI_n (by decide)]; exact R1 i hi) ⟨T1.1, fun i hi => by
        rw [sI_n (by decide), sI_n (by decide)]
        exact T1.2 i hi⟩ (fun b hb => by
      by_cases q : b = c
      · rw [q, sI_1]
      · rw [sI_k q, a2.at rfl]
        exact hO b (by omega))
    rw [nI_succ] at g1
    refine ⟨μ', X10_look_at15_ok (tneg (nI_ge (b := 256) (by omega) (by decide)) ⟨_, m1, a1, vp_inN (by omega) (by decide), ?_⟩), ((fV_scM a2).trans k2).trans g2⟩
    rintro μ4 rfl
    rw [nI_clamp (by omega), show vp_nar .boolean (bI (isW P r w h X Y W k c)) = bI (isW P r w h X Y W k c) by cases isW P r w h X Y W k c <;> rfl]
    exact g1
/-! the class's look -/
theorem left13 {cx cy : Nat} {f : Nat → Bool} (hf : ∀ b, b < 256 → f b = true → b / 64 < pL P ∧ w ≤ pWi P (b / 64) ∧ cntA f b < 192) (h4 : pL P ≤ 4) (hx : cx < 8) (hy : cy < 8) (hw : 1 ≤ w) (hw8 : w ≤ 8) (hh6 : h ≤ 6) : ∀ (m j : Nat) (μ : Mem), j + m = cntA f 256 → μ.1 192 4 = nI w → μ.1 192 5 = nI h → AllP P r w h (pL P) μ → WyC f 256 μ → (∀ v, v < 10 → μ.1 202 v = nI (cntA (fun i => decide (wetE P r w h (wyA f 256 i) cx cy = v)) j)) → ∃ μ', X8_leftAtWorst_at13 (d + 1) (nI cx) (nI cy) (nI (wrA (fun i => wetE P r w h (wyA f 256 i) cx cy) j)) (nI j) μ (nI (wrA (fun i => wetE P r w h (wyA f 256 i) cx cy) (cntA f 256))) μ' ∧ Kq (fun a _ => a = 202) μ μ'
  | 0, j, μ, hj, e4, e5, hA, hW, hV => by
    have hj : j = cntA f 256 := hj
    have := cntA_le f 256
    refine ⟨μ, X8_leftAtWorst_at13_ok ?_, Kq.refl⟩
    rw [hW.1, hj]
    exact tpos (nI_le (Nat.le_refl _) (by omega)) ⟨rfl, rfl⟩
  | m + 1, j, μ, hj, e4, e5, hA, hW, hV => by
    have c256 := cntA_le f 256
    obtain ⟨u, u1, u2, u3⟩ := wyA_ex (f := f) 256 j (by omega)
    obtain ⟨f1, f2, f3⟩ := hf u u1 u2
    have eu : wyA f 256 j = u := by rw [← u3]; exact wyA_at u2 u1
    have wb := waterBy_c (d := d + 1) (P := P) (r := r) (h := h) (c := u) (cx := cx) (cy := cy) (by omega) u1 hx hy hw hw8 hh6 e4 e5 (hA _ f1 f2)
    have wl := wetE_le (P := P) (r := r) (w := w) (h := h) (c := u) (cx := cx) (cy := cy)
    have k1 : Kq (fun a _ => a = 202) μ (sI μ 202 (wetE P r w h u cx cy) (μ.1 202 (wetE P r w h u cx cy) + 1)) := Kq.sI rfl
    have hcw := cntA_le (fun i => decide (wetE P r w h (wyA f 256 i) cx cy = wetE P r w h u cx cy)) (j + 1)
    have wm : wrA (fun i => wetE P r w h (wyA f 256 i) cx cy) j ≤ 256 := by
      have z := (wrA_spec (E := fun i => wetE P r w h (wyA f 256 i) cx cy) (fun j => Nat.lt_succ_of_le wetE_le) j).2
      rcases z with z | ⟨v, _, z⟩
      · omega
      · rw [z]
        exact Nat.le_trans (cntA_le _ _) (by omega)
    have hs : sI μ 202 (wetE P r w h u cx cy) (μ.1 202 (wetE P r w h u cx cy) + 1) = sI μ 202 (wetE P r w h u cx cy) (nI (cntA (fun i => decide (wetE P r w h (wyA f 256 i) cx cy = wetE P r w h u cx cy)) (j + 1))) := by
      rw [hV _ (by omega), nI_1, cnt_eq (E := fun i => wetE P r w h (wyA f 256 i) cx cy), eu, if_pos rfl]
    obtain ⟨μ', g1, g2⟩ := left13 hf h4 hx hy hw hw8 hh6 m (j + 1) (sI μ 202 (wetE P r w h u cx cy) (μ.1 202 (wetE P r w h u cx cy) + 1)) (by omega) (by rw [k1.at (by omega)]; exact e4) (by rw [k1.at (by omega)]; exact e5) (fun l h1 h2 i hi => by rw [k1.at (by omega)]; exact hA l h1 h2 i hi) ⟨by rw [k1.at (by omega)]; exact hW.1, fun b h1 h2 => by rw [k1.at (by omega)]; exact hW.2 b h1 h2⟩ (fun v hv => by
      rw [cnt_eq (E := fun i => wetE P r w h (wyA f 256 i) cx cy), eu]
      by_cases q : wetE P r w h u cx cy = v
      · rw [if_pos q, q, sI_1, hV v hv, nI_1]
      · rw [if_neg q, sI_k (fun z => q z.symm), hV v hv]
        rfl)
    have er : wrA (fun i => wetE P r w h (wyA f 256 i) cx cy) (j + 1) = max (wrA (fun i => wetE P r w h (wyA f 256 i) cx cy) j) (cntA (fun i => decide (wetE P r w h (wyA f 256 i) cx cy = wetE P r w h u cx cy)) (j + 1)) := by
      rw [wrA, eu]
    rw [er, nI_succ] at g1
    have v10 : vp_in (nI (wetE P r w h u cx cy)) 10 := vp_inN (by omega) (by decide)
    refine ⟨μ', X8_leftAtWorst_at13_ok ?_, k1.trans g2⟩
    rw [hW.1, nI_clamp (by omega), ← u3, hW.2 u u1 u2, u3]
    refine tneg (nI_ge (by omega) (by omega)) ⟨vp_inN (by omega) (by decide), _, μ, wb, tneg (nI_pos (by omega)) (tneg (nI_ge (b := 10) (by omega) (by decide)) ⟨v10, v10, ?_⟩)⟩
    rintro μ4 rfl
    rw [nI_clamp (by omega)]
    refine ⟨v10, ?_⟩
    rw [hs, sI_1, mx_nI (by omega) (by omega), ← hs]
    exact g1
theorem leftAtWorst_c {cx cy : Nat} {f : Nat → Bool} {μ : Mem} (hf : ∀ b, b < 256 → f b = true → b / 64 < pL P ∧ w ≤ pWi P (b / 64) ∧ cntA f b < 192) (h4 : pL P ≤ 4) (hx : cx < 8) (hy : cy < 8) (hw : 1 ≤ w) (hw8 : w ≤ 8) (hh6 : h ≤ 6) (e4 : μ.1 192 4 = nI w) (e5 : μ.1 192 5 = nI h) (hA : AllP P r w h (pL P) μ) (hW : WyC f 256 μ) : ∃ μ', X8_leftAtWorst (d + 2) (nI cx) (nI cy) μ (nI (worstV P r w h f cx cy)) μ' ∧ Kq (fun a _ => a = 202) μ μ' := by
  have k1 : Kq (fun a _ => a = 202) μ (sA μ 202 (fillTo (μ.1 202) 10 0)) := Kq.sA fun _ => rfl
  obtain ⟨μ', g1, g2⟩ := left13 (d := d) (cx := cx) (cy := cy) hf h4 hx hy hw hw8 hh6 (cntA f 256) 0 (sA μ 202 (fillTo (μ.1 202) 10 0)) (by omega) (by rw [k1.at (by omega)]; exact e4) (by rw [k1.at (by omega)]; exact e5) (fun l h1 h2 i hi => by rw [k1.at (by omega)]; exact hA l h1 h2 i hi) ⟨by rw [k1.at (by omega)]; exact hW.1, fun b h1 h2 => by rw [k1.at (by omega)]; exact hW.2 b h1 h2⟩ (fun v hv => by
    rw [sA_1]
    exact if_pos hv)
  have e : wrA (fun i => wetE P r w h (wyA f 256 i) cx cy) (cntA f 256) = worstV P r w h f cx cy := by
    rw [wr_mx (fun j => Nat.lt_succ_of_le wetE_le)]
    unfold worstV
    refine mxA_congr 10 fun v hv => ?_
    exact (cnt_wy (f := f) (g := fun b => wetE P r w h b cx cy) (v := v) 256 (Nat.le_refl _)).symm
  rw [e] at g1
  exact ⟨μ', X8_leftAtWorst_ok ⟨_, fill_spec (by decide), g1⟩, k1.trans g2⟩
def LkI (P : Pl) (p : Nat) (r : Nat → Nat) (w h : Nat) (f : Nat → Bool) (μ : Mem) : Prop := CP P p μ ∧ μ.1 192 4 = nI w ∧ μ.1 192 5 = nI h ∧ AllP P r w h (pL P) μ ∧ WyC f 256 μ
theorem LkI.kq {f : Nat → Bool} {μ μ' : Mem} (h1 : LkI P p r w h f μ) (k1 : Kq (fun a _ => a = 202) μ μ') : LkI P p r w h f μ' := by
  obtain ⟨hC, e4, e5, hA, hW⟩ := h1
  have hpp := hC.pp
  have h4 := hC.1.2.2.2.1
  exact ⟨hC.kq (k1.mono fun a k q => by unfold nPl; omega), by rw [k1.at (by omega)]; exact e4, by rw [k1.at (by omega)]; exact e5, fun l h1 h2 i hi => by rw [k1.at (by omega)]; exact hA l h1 h2 i hi, by rw [k1.at (by omega)]; exact hW.1, fun b h1 h2 => by rw [k1.at (by omega)]; exact hW.2 b h1 h2⟩
theorem bestLook_in {y : Nat} {f : Nat → Bool} {Xv : Int32} (hf : ∀ b, b < 256 → f b = true → b / 64 < pL P ∧ w ≤ pWi P (b / 64) ∧ cntA f b < 192) (hw : 1 ≤ w) (hw8 : w ≤ 8) (hh6 : h ≤ 6) (hy : y < pH P)
    (hc : ∀ μ, LkI P p r w h f μ → ∃ μ', X9_bestLook_at8 (d + 2) (lB 0 (lkS P (lkG P r w h f) (8 * (y + 1)))) (lV 1000000 (lkS P (lkG P r w h f) (8 * (y + 1)))) (nI y + 1) μ Xv μ' ∧ Kq (fun a _ => a = 202) μ μ') : ∀ (m x : Nat) (μ : Mem), x + m = pW P → LkI P p r w h f μ → ∃ μ', X9_bestLook_at22 (d + 2) (lB 0 (lkS P (lkG P r w h f) (8 * y + x))) (lV 1000000 (lkS P (lkG P r w h f) (8 * y + x))) (nI y) (nI x) μ Xv μ' ∧ Kq (fun a _ => a = 202) μ μ'
  | 0, x, μ, hx, hI => by
    have hx : x = pW P := hx
    have hC := hI.1
    have h8 : pW P ≤ 8 := hC.1.1
    obtain ⟨μ', g1, g2⟩ := hc μ hI
    have e : lkS P (lkG P r w h f) (8 * (y + 1)) = lkS P (lkG P r w h f) (8 * y + x) := lk_skip (by omega) fun c h1 h2 => by
      unfold onL
      rw [decide_eq_false (show ¬ c % 8 < pW P by omega)]
      rfl
    rw [e] at g1
    refine ⟨μ', X9_bestLook_at22_ok ?_, g2⟩
    rw [hC.ptr0, hC.num.1]
    exact tpos (by rw [hx]; exact nI_le (Nat.le_refl _) (by omega)) g1
  | m + 1, x, μ, hx, hI => by
    obtain ⟨hC, e4, e5, hA, hW⟩ := id hI
    have h8 : pW P ≤ 8 := hC.1.1
    have h6 : pH P ≤ 6 := hC.1.2.1
    have hG : ∀ c, lkG P r w h f c ≤ 256 := fun c => worstV_le
    obtain ⟨m1, a1, a2⟩ := leftAtWorst_c (d := d) (cx := x) (cy := y) hf hC.1.2.2.2.1 (by omega) (by omega) hw hw8 hh6 e4 e5 hA hW
    obtain ⟨μ', g1, g2⟩ := bestLook_in hf hw hw8 hh6 hy hc m (x + 1) m1 (by omega) (hI.kq a2)
    have ho : onL P (8 * y + x) = true := by
      rw [onL_at (by omega), decide_eq_true (show x < pW P by omega), decide_eq_true hy]
      rfl
    have eg : worstV P r w h f x y = lkG P r w h f (8 * y + x) := by
      unfold lkG
      rw [show (8 * y + x) % 8 = x by omega, show (8 * y + x) / 8 = y by omega]
    rw [eg] at a1
    have es : lkS P (lkG P r w h f) (8 * y + (x + 1)) = match lkS P (lkG P r w h f) (8 * y + x) with
      | none => some (lkG P r w h f (8 * y + x), 8 * y + x)
      | some q => if lkG P r w h f (8 * y + x) < q.1 then some (lkG P r w h f (8 * y + x), 8 * y + x) else some q := if_pos ho
    have ek : (10 : Int32) * nI y + nI x = nI (lkC (8 * y + x)) := by
      unfold lkC
      rw [show (10 : Int32) = nI 10 from rfl, nI_mul, nJ_add, show (8 * y + x) % 8 = x by omega, show (8 * y + x) / 8 = y by omega]
    have hgc := hG (8 * y + x)
    rw [nI_succ] at g1
    refine ⟨μ', X9_bestLook_at22_ok ?_, a2.trans g2⟩
    rw [hC.ptr0, hC.num.1, ek]
    refine tneg (nI_ge (by omega) (by omega)) ⟨_, m1, a1, ?_⟩
    cases hq : lkS P (lkG P r w h f) (8 * y + x) with
    | none =>
      rw [hq] at es
      rw [es] at g1
      exact tneg (nI_ge (b := 1000000) (by omega) (by decide)) g1
    | some q =>
      obtain ⟨q1, q2⟩ := lk_OK hG _ q hq
      rw [hq] at es
      dsimp only at es
      by_cases z : lkG P r w h f (8 * y + x) < q.1
      · rw [if_pos z] at es
        rw [es] at g1
        exact tneg (nI_ge z (by omega)) g1
      · rw [if_neg z] at es
        rw [es] at g1
        exact tpos (nI_le (by omega) (by omega)) g1
theorem bestLook_out {f : Nat → Bool} (hf : ∀ b, b < 256 → f b = true → b / 64 < pL P ∧ w ≤ pWi P (b / 64) ∧ cntA f b < 192) (hw : 1 ≤ w) (hw8 : w ≤ 8) (hh6 : h ≤ 6) : ∀ (m y : Nat) (μ : Mem), y + m = pH P → LkI P p r w h f μ → ∃ μ', X9_bestLook_at8 (d + 2) (lB 0 (lkS P (lkG P r w h f) (8 * y))) (lV 1000000 (lkS P (lkG P r w h f) (8 * y))) (nI y) μ (lB 0 (lkS P (lkG P r w h f) 48)) μ' ∧ Kq (fun a _ => a = 202) μ μ'
  | 0, y, μ, hy, hI => by
    have hy : y = pH P := hy
    have hC := hI.1
    have h6 : pH P ≤ 6 := hC.1.2.1
    have e : lkS P (lkG P r w h f) 48 = lkS P (lkG P r w h f) (8 * y) := lk_skip (by omega) fun c h1 h2 => by
      unfold onL
      rw [decide_eq_false (show ¬ c / 8 < pH P by omega), Bool.and_false]
    refine ⟨μ, X9_bestLook_at8_ok ?_, Kq.refl⟩
    rw [hC.ptr0, hC.num.2.1]
    exact tpos (by rw [hy]; exact nI_le (Nat.le_refl _) (by omega)) ⟨by rw [e], rfl⟩
  | m + 1, y, μ, hy, hI => by
    have hC := hI.1
    have h6 : pH P ≤ 6 := hC.1.2.1
    obtain ⟨μ', g1, g2⟩ := bestLook_in (d := d) (y := y) (p := p) (Xv := lB 0 (lkS P (lkG P r w h f) 48)) hf hw hw8 hh6 (by omega) (fun μ hI => by
      obtain ⟨μ', q1, q2⟩ := bestLook_out hf hw hw8 hh6 m (y + 1) μ (by omega) hI
      rw [nI_succ] at q1
      exact ⟨μ', q1, q2⟩) (pW P) 0 μ (by omega) hI
    refine ⟨μ', X9_bestLook_at8_ok ?_, g2⟩
    rw [hC.ptr0, hC.num.2.1]
    exact tneg (nI_ge (by omega) (by omega)) g1
end
theorem call_look {a b c : Int32} (hn : n ≤ 512) : Both (X9_look (d + 8) a b c) (X10_look (d + 8) a b c) n := by
  rintro μC μM ⟨P, p, r, h⟩
  obtain ⟨⟨hC, hK, hR⟩, ⟨hM, hRM⟩, hS, _, _, _, ⟨t, X, Y, W, hT⟩, _⟩ := id h
  have pw := hC.1
  have h6 : pH P ≤ 6 := pw.2.1
  have h4 := pw.2.2.2.1
  have hpp := hC.pp
  have k1 := knows_c (d := d + 7) (a := a) hT.1 hT.2.1
  have s1 := isSize_c (d := d + 7) (a := b) (b := c) (μ := μC)
  have q1 := asked_m (P := P) (d := d + 6) (a := a) (b := b) (c := c) hT.1 hT.2.2.1
  cases ha : inN a (t + 1) with
  | false =>
    rw [ha] at k1 q1
    exact ⟨-1, μC, μM, X9_look_ok ⟨_, μC, k1, tpos rfl ⟨rfl, rfl⟩⟩, X10_look_ok ⟨_, μM, q1, teq rfl ⟨rfl, rfl⟩⟩, h.next⟩
  | true =>
    rw [ha] at k1 q1
    cases hb : inN (b - 1) 8 && inN (c - 1) 6 with
    | false =>
      rw [hb] at s1 q1
      exact ⟨-1, μC, μM, X9_look_ok ⟨_, μC, k1, tneg (by decide) ⟨_, μC, s1, teq rfl ⟨rfl, rfl⟩⟩⟩, X10_look_ok ⟨_, μM, q1, teq rfl ⟨rfl, rfl⟩⟩, h.next⟩
    | true =>
      rw [hb] at s1 q1
      obtain ⟨b1, b2⟩ := Bool.and_eq_true _ _ ▸ hb
      obtain ⟨k, hk, rfl⟩ := inN_ex ha
      obtain ⟨w, w1, w2, rfl⟩ := (rng1 (by decide)).mp b1
      obtain ⟨v, v1, v2, rfl⟩ := (rng1 (by decide)).mp b2
      obtain ⟨tC, tM⟩ := told_both (k := k) pw hT (by omega)
      have hc0 := hasCell_c (d := d + 7) (x := 0) (y := 0) hC
      rw [← hC.ptr0] at hc0
      have hfW : ∀ b, isW P r w v X Y W k b = true → b / 64 < pL P := fun b q => (isW_6 v1 h6 q).1
      obtain ⟨mM, f1, f2⟩ := look15 (d := d + 3) (B := 99 + 720 * n) (X := X) (Y := Y) (W := W) (k := k) (Xv := lB (-2) (lkS P (lkG P r w v (isW P r w v X Y W k)) 48)) (by omega) w1 w2 v1 v2 hS (fun μ hM hR hO => look55 (by omega) hfW w1 w2 v1 v2 hS 48 0 μ (by omega) hM hR hO) 256 0 μM (by omega) hM hRM tM (fun b hb => by omega)
      have e00 : (inN 0 (pW P) && inN 0 (pH P)) = onL P 0 := by
        unfold onL
        rw [show (0 : Int32) = nI 0 from rfl, inN_nI (by decide), inN_nI (by decide)]
      rw [e00] at hc0
      cases h0 : onL P 0 with
      | false =>
        rw [h0] at hc0
        have hno : lkS P (lkG P r w v (isW P r w v X Y W k)) 48 = none := by
          have : lkS P (lkG P r w v (isW P r w v X Y W k)) 48 = lkS P (lkG P r w v (isW P r w v X Y W k)) 0 := lk_skip (by omega) fun c h1 h2 => by
            have z := pw.2.2.2.2.2.2.2.2.2.2.1
            unfold onL at h0 ⊢
            have : pW P = 0 ∨ pH P = 0 := by
              rcases Nat.eq_zero_or_pos (pW P) with y | y
              · exact Or.inl y
              · rcases Nat.eq_zero_or_pos (pH P) with x | x
                · exact Or.inr x
                · rw [decide_eq_true (show 0 % 8 < pW P by omega), decide_eq_true (show 0 / 8 < pH P by omega)] at h0
                  cases h0
            have h00 : pW P = 0 := by
              rcases this with y | y
              · exact y
              · exact z.mpr y
            rw [decide_eq_false (show ¬ c % 8 < pW P by omega)]
            rfl
          exact this
        rw [hno] at f1
        exact ⟨-2, μC, mM, X9_look_ok ⟨_, μC, k1, tneg (by decide) ⟨_, μC, s1, tne (by decide) ⟨_, μC, hc0, teq rfl ⟨rfl, rfl⟩⟩⟩⟩, X10_look_ok ⟨_, μM, q1, tne (by decide) f1⟩, (h.scr Kq.refl hK f2).next⟩
      | true =>
        rw [h0] at hc0
        obtain ⟨mC, g1, g2, g3, g4, g5, g6, g7⟩ := gatherWays_c (d := d + 1) hn w1 w2 v1 v2 h tC
        obtain ⟨m2, l1, l2⟩ := bestLook_out (d := d + 4) (f := isW P r w v X Y W k) (fun b hb q => ⟨(isW_6 v1 h6 q).1, (isW_6 v1 h6 q).2.1, isW_192 v1 h6 hb q⟩) w1 w2 v2 (pH P) 0 mC (by omega) ⟨g3.1.1, g4, g5, g6, g7⟩
        have l3 : Kq (scC p) mC m2 := l2.mono fun a k q => by unfold scC; omega
        have hs := lk_some (P := P) (G := lkG P r w v (isW P r w v X Y W k)) h0 47
        cases hz : lkS P (lkG P r w v (isW P r w v X Y W k)) 48 with
        | none => rw [hz] at hs; cases hs
        | some q =>
          rw [hz] at l1 f1
          have hK2 : Kc P m2 := g3.1.2.1.of (l2.row fun j => by omega) (l2.row fun j => by omega)
          exact ⟨nI (lkC q.2), m2, mM, X9_look_ok ⟨_, μC, k1, tneg (by decide) ⟨_, μC, s1, tne (by decide) ⟨_, μC, hc0, tne (by decide) ⟨mC, g1, _, m2, X9_bestLook_ok l1, rfl, rfl⟩⟩⟩⟩, X10_look_ok ⟨_, μM, q1, tne (by decide) f1⟩, (h.scr (g2.trans l3) hK2 f2).next⟩
end Calls
