/-! ===== a piece woven ===== -/
def wvS (P : Pl) (l w pick st : Nat) : Nat → Nat × Bool
  | 0 => (0, false)
  | k + 1 => if (wvS P l w pick st k).2 || decide (st - (wvS P l w pick st k).1 < thr P l (k % w) (pick + k / w)) then ((wvS P l w pick st k).1, true) else ((wvS P l w pick st k).1 + thr P l (k % w) (pick + k / w), false)
/-- what lies in the k-th thread of the piece -/
def amA (P : Pl) (l w pick st k : Nat) : Nat := if (wvS P l w pick st (k + 1)).2 then 0 else thr P l (k % w) (pick + k / w)
theorem wvS_le {P : Pl} {l w pick st : Nat} : ∀ k, (wvS P l w pick st k).1 ≤ st
  | 0 => Nat.zero_le _
  | k + 1 => by
    have ih := wvS_le (P := P) (l := l) (w := w) (pick := pick) (st := st) k
    unfold wvS
    split
    · exact ih
    · rename_i h
      have : ¬ st - (wvS P l w pick st k).1 < thr P l (k % w) (pick + k / w) := fun q => h (by rw [decide_eq_true q]; exact Bool.or_true _)
      show (wvS P l w pick st k).1 + thr P l (k % w) (pick + k / w) ≤ st
      omega
theorem wvS_9 {P : Pl} {l w pick st : Nat} : ∀ k, (wvS P l w pick st k).1 ≤ 9 * k
  | 0 => Nat.zero_le _
  | k + 1 => by
    have ih := wvS_9 (P := P) (l := l) (w := w) (pick := pick) (st := st) k
    have t := thr_le (P := P) (l := l) (warp := k % w) (pick := pick + k / w)
    unfold wvS
    split
    · show (wvS P l w pick st k).1 ≤ _
      omega
    · show (wvS P l w pick st k).1 + thr P l (k % w) (pick + k / w) ≤ _
      omega
theorem wvS_am {P : Pl} {l w pick st k : Nat} : wvS P l w pick st (k + 1) = ((wvS P l w pick st k).1 + amA P l w pick st k, (wvS P l w pick st k).2 || decide (st - (wvS P l w pick st k).1 < thr P l (k % w) (pick + k / w))) := by
  unfold amA
  rw [wvS]
  split
  · rename_i h
    rw [if_pos rfl, h]
    rfl
  · rename_i h
    rw [if_neg (show ¬ (false = true) from Bool.false_ne_true)]
    simp only [Bool.not_eq_true] at h
    rw [h]
/-- once torn, nothing more is woven -/
theorem wvS_torn {P : Pl} {l w pick st k : Nat} (h : (wvS P l w pick st k).2 = true) : wvS P l w pick st (k + 1) = wvS P l w pick st k := by
  rw [wvS, h]
  show ((wvS P l w pick st k).1, true) = _
  rw [← h]
theorem am_torn {P : Pl} {l w pick st k : Nat} (h : (wvS P l w pick st k).2 = true) : amA P l w pick st k = 0 := by
  unfold amA
  rw [wvS_torn h, h]
  rfl
section Fit
variable {P : Pl} {l w x y pick : Nat} {r : Nat → Nat}
/-- how wet a CELL is when k threads have fallen -/
def watF (P : Pl) (r : Nat → Nat) (w x y : Nat) (am : Nat → Nat) (k c : Nat) : Nat := if onL P c = true ∧ x ≤ c % 8 ∧ c % 8 < x + w ∧ y ≤ c / 8 ∧ (c / 8 - y) * w + (c % 8 - x) < k then min 999 (r c + am ((c / 8 - y) * w + (c % 8 - x))) else r c
theorem dm {a b k w : Nat} (hb : b < w) (h : a * w + b = k) : k / w = a ∧ k % w = b := by
  subst h
  constructor
  · rw [Nat.add_comm, Nat.add_mul_div_right _ _ (by omega), Nat.div_eq_of_lt hb, Nat.zero_add]
  · rw [Nat.add_comm, Nat.add_mul_mod_self_right, Nat.mod_eq_of_lt hb]
theorem watF_0 {am : Nat → Nat} {c : Nat} : watF P r w x y am 0 c = r c := if_neg (fun h => absurd h.2.2.2.2 (Nat.not_lt_zero _))
/-- one more thread -/
theorem watF_s {am : Nat → Nat} {k c : Nat} (hw : 1 ≤ w) (hc : c < 48) (h8 : pW P ≤ 8) : watF P r w x y am (k + 1) c = if hits P (x + k % w) (y + k / w) = true ∧ c = 8 * (y + k / w) + (x + k % w) then min 999 (r c + am k) else watF P r w x y am k c := by
  have hm := Nat.mod_lt k (show w > 0 by omega)
  have hk := Nat.div_add_mod k w
  by_cases h : hits P (x + k % w) (y + k / w) = true ∧ c = 8 * (y + k / w) + (x + k % w)
  · rw [if_pos h]
    have hxy : x + k % w < pW P ∧ y + k / w < pH P := by simpa [hits] using h.1
    have c1 : c % 8 = x + k % w := by omega
    have c2 : c / 8 = y + k / w := by
      have := h.2
      generalize k / w = q at this
      omega
    have e : (c / 8 - y) * w + (c % 8 - x) = k := by
      rw [c1, c2, Nat.add_sub_cancel_left, Nat.add_sub_cancel_left, Nat.mul_comm]
      exact hk
    have ho : onL P c = true := by
      unfold onL
      rw [c1, c2, decide_eq_true hxy.1, decide_eq_true hxy.2]
      rfl
    unfold watF
    rw [e, if_pos ⟨ho, by omega, by omega, by rw [c2]; exact Nat.le_add_right _ _, by omega⟩]
  · rw [if_neg h]
    unfold watF
    by_cases q : onL P c = true ∧ x ≤ c % 8 ∧ c % 8 < x + w ∧ y ≤ c / 8 ∧ (c / 8 - y) * w + (c % 8 - x) < k
    · rw [if_pos q, if_pos ⟨q.1, q.2.1, q.2.2.1, q.2.2.2.1, by omega⟩]
    · rw [if_neg q]
      by_cases q2 : onL P c = true ∧ x ≤ c % 8 ∧ c % 8 < x + w ∧ y ≤ c / 8 ∧ (c / 8 - y) * w + (c % 8 - x) < k + 1
      · exfalso
        obtain ⟨a1, a2, a3, a4, a5⟩ := q2
        have e : (c / 8 - y) * w + (c % 8 - x) = k := by
          have : ¬ (c / 8 - y) * w + (c % 8 - x) < k := fun z => q ⟨a1, a2, a3, a4, z⟩
          omega
        obtain ⟨d1, d2⟩ := dm (show c % 8 - x < w by omega) e
        have ho : c % 8 < pW P ∧ c / 8 < pH P := by simpa [onL] using a1
        refine h ?_
        rw [d1, d2]
        unfold hits
        rw [decide_eq_true (by omega), decide_eq_true (by omega)]
        exact ⟨rfl, by omega⟩
      · rw [if_neg q2]
/-- falls, told by what was woven -/
theorem fallS_eq (hb : SB r) (hw : 1 ≤ w) (h8 : pW P ≤ 8) (h6 : pH P ≤ 6) : ∀ k, (fallS P l w x y pick r k).2 = wvS P l w pick (r 88) k ∧ (fallS P l w x y pick r k).1 88 = r 88 - (wvS P l w pick (r 88) k).1 ∧ ∀ c, c < 48 → (fallS P l w x y pick r k).1 c = watF P r w x y (amA P l w pick (r 88)) k c
  | 0 => ⟨rfl, rfl, fun c _ => watF_0.symm⟩
  | k + 1 => by
    obtain ⟨i1, i2, i3⟩ := fallS_eq hb hw h8 h6 k
    have wl := wvS_le (P := P) (l := l) (w := w) (pick := pick) (st := r 88) k
    by_cases ht : (wvS P l w pick (r 88) k).2 = true
    · have e : fallS P l w x y pick r (k + 1) = fallS P l w x y pick r k := fallS_torn (by rw [i1]; exact ht) 1
      rw [e, wvS_torn ht]
      refine ⟨i1, i2, fun c hc => ?_⟩
      rw [i3 c hc, watF_s hw hc h8, am_torn ht]
      split
      · rename_i hh
        unfold watF
        split
        · rename_i q
          exfalso
          obtain ⟨hx1, rfl⟩ := hh
          have hxy : x + k % w < pW P ∧ y + k / w < pH P := by simpa [hits] using hx1
          have hm := Nat.mod_lt k (show w > 0 by omega)
          have hk := Nat.div_add_mod k w
          have := q.2.2.2.2
          rw [show (8 * (y + k / w) + (x + k % w)) / 8 - y = k / w by omega, show (8 * (y + k / w) + (x + k % w)) % 8 - x = k % w by omega, Nat.mul_comm, hk] at this
          omega
        · have := hb.1 c hc
          omega
      · rfl
    · have hf : (fallS P l w x y pick r k).2.2 = false := by rw [i1]; simpa using ht
      have es : fallS P l w x y pick r (k + 1) = if (fallS P l w x y pick r k).1 88 < thr P l (k % w) (pick + k / w) then ((fallS P l w x y pick r k).1, (fallS P l w x y pick r k).2.1, true) else
          (rain P (fallS P l w x y pick r k).1 (x + k % w) (y + k / w) (thr P l (k % w) (pick + k / w)), (fallS P l w x y pick r k).2.1 + thr P l (k % w) (pick + k / w), false) := by
        rw [fallS, hf]
        rfl
      have ht' : (wvS P l w pick (r 88) k).2 = false := by simpa using ht
      rw [es, i2]
      by_cases hlt : r 88 - (wvS P l w pick (r 88) k).1 < thr P l (k % w) (pick + k / w)
      · have e2 : wvS P l w pick (r 88) (k + 1) = ((wvS P l w pick (r 88) k).1, true) := by
          rw [wvS, decide_eq_true hlt, Bool.or_true]
          rfl
        have ea : amA P l w pick (r 88) k = 0 := by unfold amA; rw [e2]; rfl
        rw [if_pos hlt, e2]
        refine ⟨by rw [i1], i2, fun c hc => ?_⟩
        show (fallS P l w x y pick r k).1 c = _
        rw [i3 c hc, watF_s hw hc h8, ea]
        split
        · rename_i hh
          unfold watF
          split
          · rename_i q
            exfalso
            obtain ⟨hx1, rfl⟩ := hh
            have hxy : x + k % w < pW P ∧ y + k / w < pH P := by simpa [hits] using hx1
            have hm := Nat.mod_lt k (show w > 0 by omega)
            have hk := Nat.div_add_mod k w
            have := q.2.2.2.2
            rw [show (8 * (y + k / w) + (x + k % w)) / 8 - y = k / w by omega, show (8 * (y + k / w) + (x + k % w)) % 8 - x = k % w by omega, Nat.mul_comm, hk] at this
            omega
          · have := hb.1 c hc
            omega
        · rfl
      · have e2 : wvS P l w pick (r 88) (k + 1) = ((wvS P l w pick (r 88) k).1 + thr P l (k % w) (pick + k / w), false) := by
          rw [wvS, decide_eq_false hlt, ht']
          rfl
        have ea : amA P l w pick (r 88) k = thr P l (k % w) (pick + k / w) := by unfold amA; rw [e2]; rfl
        rw [if_neg hlt, e2]
        refine ⟨by rw [i1], ?_, fun c hc => ?_⟩
        · show rain P _ _ _ _ 88 = _
          unfold rain
          split
          · rename_i hh
            have hxy : x + k % w < pW P ∧ y + k / w < pH P := by simpa [hits] using hh
            rw [updN_ne (by omega), updN_same, i2]
            show _ = r 88 - ((wvS P l w pick (r 88) k).1 + thr P l (k % w) (pick + k / w))
            omega
          · rw [updN_same, i2]
            show _ = r 88 - ((wvS P l w pick (r 88) k).1 + thr P l (k % w) (pick + k / w))
            omega
        · show rain P _ _ _ _ c = _
          rw [watF_s hw hc h8, ea]
          unfold rain
          cases hh : hits P (x + k % w) (y + k / w) with
          | false =>
            rw [if_neg (by decide), if_neg (fun z => by cases z.1), updN_ne (by omega)]
            exact i3 c hc
          | true =>
            rw [if_pos rfl]
            by_cases e : c = 8 * (y + k / w) + (x + k % w)
            · rw [if_pos ⟨rfl, e⟩, e, updN_same, ← e]
              have : (fallS P l w x y pick r k).1 c = r c := by
                rw [i3 c hc]
                unfold watF
                rw [if_neg]
                intro q
                have hxy : x + k % w < pW P ∧ y + k / w < pH P := by simpa [hits] using hh
                have hm := Nat.mod_lt k (show w > 0 by omega)
                have hk := Nat.div_add_mod k w
                have := q.2.2.2.2
                rw [e, show (8 * (y + k / w) + (x + k % w)) / 8 - y = k / w by omega, show (8 * (y + k / w) + (x + k % w)) % 8 - x = k % w by omega, Nat.mul_comm, hk] at this
                omega
              rw [this]
            · rw [if_neg (fun z => e z.2), updN_ne e, updN_ne (by omega)]
              exact i3 c hc
end Fit
