/-! ===== the class's least length; the model's way of laying ===== -/
section Cut
variable {d : Nat}
section
variable {n bd : Nat} {W H Pl : Nat → Nat}
theorem usd0 {u : Nat} : ¬ usd 0 u := fun q => by
  unfold usd at q
  rw [Nat.zero_div] at q
  exact absurd q (by decide)
def WH (n : Nat) (W H : Nat → Nat) (μ : Mem) : Prop := μ.1 203 4 = nI n ∧ ∀ i, i < n → μ.1 204 i = nI (W i) ∧ μ.1 205 i = nI (H i)
theorem WH.kq {μ μ' : Mem} (h : WH n W H μ) (k : Kq (fun a k => (a = 203 ∧ (k = 5 ∨ k = 6)) ∨ a = 206 ∨ a = 208) μ μ') : WH n W H μ' := ⟨by rw [k.at (by omega)]; exact h.1, fun i hi => by rw [k.at (by omega), k.at (by omega)]; exact h.2 i hi⟩
theorem plB_lt (hW : ∀ k, W k ≤ 8) {i : Nat} : ∀ k, plB W i k < 2 ^ (8 * k + 1)
  | 0 => by show 1 < 2 ^ 1; decide
  | k + 1 => by
    have ih := plB_lt hW (i := i) k
    have up : 2 ^ (8 * k + 1) ≤ 2 ^ (8 * (k + 1) + 1) := Nat.pow_le_pow_right (by decide) (by omega)
    show (if k = i then plB W i k else plB W i k ||| (plB W i k * 2 ^ W k)) < _
    split
    · omega
    · refine Nat.or_lt_two_pow (by omega) ?_
      have h2 : plB W i k * 2 ^ W k < 2 ^ (8 * k + 1) * 2 ^ W k := Nat.mul_lt_mul_of_pos_right ih (Nat.pow_pos (by decide))
      rw [← Nat.pow_add] at h2
      have := hW k
      exact Nat.lt_of_lt_of_le h2 (Nat.pow_le_pow_right (by decide) (by omega))
theorem places_c {i : Nat} {μ : Mem} (hs : SzP n W H) (hi : i < n) (hC : WH n W H μ) : ∀ (m k : Nat), k + m = n → X0_placesFor_at4 d (nI i) (nI (plB W i k)) (nI k) μ (nI (plB W i n &&& (2 ^ (9 - W i) - 1))) μ
  | 0, k, hk => by
    have h4 := hs.1
    have hk : k = n := hk
    subst hk
    have si := hs.2 i hi
    obtain ⟨e1, e2⟩ := shl1 (9 - W i) (by omega)
    refine X0_placesFor_at4_ok ?_
    rw [hC.1]
    refine tpos (nI_le (Nat.le_refl _) (by omega)) ⟨vp_inN (by omega) (by decide), ?_, rfl⟩
    rw [nI_clamp (by omega), (hC.2 i hi).1, show (8 : Int32) = nI 8 from rfl, nI_sub si.2.1, nI_1, show 8 - W i + 1 = 9 - W i by omega, e1, show nI (2 ^ (9 - W i)) - 1 = nI (2 ^ (9 - W i) - 1) from nI_sub (b := 1) Nat.one_le_two_pow, and_nI]
  | m + 1, k, hk => by
    have h4 := hs.1
    have sk := hs.2 k (by omega)
    have ih := places_c hs hi hC m (k + 1) (by omega)
    rw [nI_succ] at ih
    refine X0_placesFor_at4_ok ?_
    rw [hC.1]
    refine tneg (nI_ge (by omega) (by omega)) ?_
    by_cases e : k = i
    · rw [show plB W i (k + 1) = plB W i k from if_pos e] at ih
      exact tpos (by rw [e]) ih
    · rw [show plB W i (k + 1) = plB W i k ||| (plB W i k * 2 ^ W k) from if_neg e] at ih
      refine tneg (fun z => e (nI_inj (by omega) (by omega) z)) ⟨vp_inN (by omega) (by decide), ?_⟩
      rw [nI_clamp (by omega), (hC.2 k (by omega)).1, n31 _ (by omega), shl_nI (by omega), or_nI']
      exact ih
theorem pl_ok (hs : SzP n W H) : PlOK n W H (fun i => plB W i n &&& (2 ^ (9 - W i) - 1)) := by
  refine ⟨fun i hi => ?_, fun L x y h i hi => ?_⟩
  · have si := hs.2 i hi
    show plB W i n &&& (2 ^ (9 - W i) - 1) < 256
    rw [Nat.and_two_pow_sub_one_eq_mod]
    have h1 : plB W i n % 2 ^ (9 - W i) < 2 ^ (9 - W i) := Nat.mod_lt _ (Nat.pow_pos (by decide))
    have h2 : 2 ^ (9 - W i) ≤ 2 ^ 8 := Nat.pow_le_pow_right (by decide) (by omega)
    omega
  · have si := hs.2 i hi
    have li := h.1.1 i hi
    have t := pl_norm hs h hi
    show (plB W i n &&& (2 ^ (9 - W i) - 1)) / 2 ^ x i % 2 = 1
    have t2 : (plB W i n &&& (2 ^ (9 - W i) - 1)).testBit (x i) = true := by
      rw [Nat.and_two_pow_sub_one_eq_mod, Nat.testBit_mod_two_pow, decide_eq_true (show x i < 9 - W i by omega), t]
      rfl
    rw [Nat.testBit_eq_decide_div_mod_eq] at t2
    exact of_decide_eq_true t2
def bdA (n : Nat) (W H : Nat → Nat) : Nat := max (mxA H n) ((sumN (fun i => W i * H i) n + 7) / 8)
theorem bd_fit {L : Nat} (h : Fit n W H L) : bdA n W H ≤ L := by
  have a := fit_area h
  have m := (mxA_spec (g := H) n).2
  unfold bdA
  have : mxA H n ≤ L := by
    rcases m with z | ⟨i, h1, h2⟩
    · omega
    · rw [h2]; exact fit_long h h1
  omega
theorem sumN_b {f : Nat → Nat} {B : Nat} : ∀ n, (∀ i, i < n → f i ≤ B) → sumN f n ≤ B * n
  | 0, _ => Nat.le_refl _
  | n + 1, h => by
    have a := sumN_b n fun i hi => h i (by omega)
    have b := h n (by omega)
    show sumN f n + f n ≤ B * (n + 1)
    rw [Nat.mul_succ]
    omega
theorem least14 (hs : SzP n W H) (hn : 1 ≤ n) : ∀ (m k : Nat) (μ : Mem), k + m = n → WH n W H μ → μ.1 203 5 = nI (sumN H k) → μ.1 203 6 = nI (mxA H k) → (∀ i, i < k → μ.1 206 i = nI (plB W i n &&& (2 ^ (9 - W i) - 1))) → ∃ R μ', X0_leastLength_at14 (d + 2 * n + 1) (nI (sumN (fun i => W i * H i) k)) (nI k) μ (nI R) μ' ∧ Kq (fun a k => (a = 203 ∧ (k = 5 ∨ k = 6)) ∨ a = 206 ∨ (208 ≤ a ∧ a ≤ 212)) μ μ' ∧ Fit n W H R ∧ ∀ L, Fit n W H L → R ≤ L
  | 0, k, μ, hk, hC, h5, h6, hp => by
    have h4 := hs.1
    have hk : k = n := hk
    subst hk
    have hA : sumN (fun i => W i * H i) k ≤ 48 * k := sumN_b k fun i hi => wh48 (hs.2 i hi).2.1 (hs.2 i hi).2.2.2
    have hS : sumN H k ≤ 6 * k := sumN_b k fun i hi => (hs.2 i hi).2.2.2
    have hX : mxA H k ≤ sumN H k := by
      have : ∀ m, mxA H m ≤ sumN H m := by
        intro m
        induction m with
        | zero => exact Nat.le_refl _
        | succ m ih => show max (mxA H m) (H m) ≤ sumN H m + H m; omega
      exact this k
    have k1 : Kq (fun a k => (a = 203 ∧ (k = 5 ∨ k = 6)) ∨ a = 206 ∨ a = 208) μ (sA (sI μ 203 6 (nI (bdA k W H))) 208 (fillTo ((sI μ 203 6 (nI (bdA k W H))).1 208) 8 0)) := (Kq.sI (by omega)).trans (Kq.sA fun j => by omega)
    generalize hm : sA (sI μ 203 6 (nI (bdA k W H))) 208 (fillTo ((sI μ 203 6 (nI (bdA k W H))).1 208) 8 0) = m1 at k1
    have hW1 := hC.kq k1
    have bb : bdA k W H ≤ 100 := by unfold bdA; omega
    have C1 : CuC k (bdA k W H) W H (fun i => plB W i k &&& (2 ^ (9 - W i) - 1)) m1 := ⟨hW1.1, by rw [← hm, sA_n (by decide), sI_1], fun i hi => ⟨(hW1.2 i hi).1, (hW1.2 i hi).2, by
      rw [← hm, sA_n (by decide), sI_n (by decide)]
      exact hp i hi⟩⟩
    have E1 : EdC 0 (fun _ => 0) m1 := fun c hc => by
      rw [← hm, sA_1]
      exact if_pos hc
    have ln := layNext_c (d := d) hs (pl_ok hs) bb k 0 0 0 (fun _ => 0) (sumN H k) m1 (by omega) (by
      unfold cU
      have : ∀ m, cntA (fun u => decide (0 / 2 ^ u % 2 = 1)) m = 0 := by
        intro m
        induction m with
        | zero => rfl
        | succ m ih =>
          show cntA (fun u => decide (0 / 2 ^ u % 2 = 1)) m + (if decide (0 / 2 ^ m % 2 = 1) then 1 else 0) = 0
          rw [ih, Nat.zero_div]
          rfl
      exact this k) (by decide) (fun c _ => Nat.zero_le _) (Nat.zero_le _) ⟨fun _ => 0, fun _ => 0, fun u _ q => absurd q usd0, fun u v _ _ _ q _ => absurd q usd0⟩ ⟨C1, E1, by rw [← hm, sA_n (by decide), sI_k (by decide)]; exact h5, by omega, fit_all hs⟩
    obtain ⟨R, m2, g1, g2, g3, g4, g5⟩ := ln
    refine ⟨R, m2, X0_leastLength_at14_ok ?_, (k1.mono fun a k q => by omega).trans (g2.mono fun a k q => by unfold sCu at q; omega), g3.2.2.2.2, fun L hL => ?_⟩
    · rw [hC.1]
      refine tpos (nI_le (Nat.le_refl _) (by omega)) ?_
      have e : mx (μ.1 203 6) (((nI (sumN (fun i => W i * H i) k) + 8) - 1) / 8) = nI (bdA k W H) := by
        rw [h6, show nI (sumN (fun i => W i * H i) k) + 8 = nI (sumN (fun i => W i * H i) k + 8) from nJ_add _ 8, show nI (sumN (fun i => W i * H i) k + 8) - 1 = nI (sumN (fun i => W i * H i) k + 8 - 1) from nI_sub (b := 1) (by omega), show (8 : Int32) = nI 8 from rfl, nI_div (by omega) (by decide), mx_nI (by omega) (by omega), show sumN (fun i => W i * H i) k + 8 - 1 = sumN (fun i => W i * H i) k + 7 by omega]
        rfl
      rintro μ1 rfl
      rw [e]
      refine ⟨m1, by rw [← hm]; exact fill_spec (by decide), m2, g1, g3.2.2.1.symm, rfl⟩
    · obtain ⟨x, y, hl⟩ := id hL
      obtain ⟨x', y', hN⟩ := norm_ex (sumN x k) x y rfl hl
      have := bd_fit hL
      rcases g5 L x' y' ⟨Nat.zero_le _, hN, fun c _ => Or.inl rfl, fun u v _ _ q _ => absurd q usd0⟩ with o | o
      · omega
      · exact o
  | m + 1, k, μ, hk, hC, h5, h6, hp => by
    have h4 := hs.1
    have sk := hs.2 k (by omega)
    have v4 : vp_in (nI k) 4 := vp_inN (by omega) (by decide)
    have ec : (nI k).toNatClampNeg = k := nI_clamp (by omega)
    obtain ⟨w1, w2⟩ := hC.2 k (by omega)
    have hS : sumN H k ≤ 6 * k := sumN_b k fun i hi => (hs.2 i (by omega)).2.2.2
    have hX : mxA H k ≤ sumN H k := by
      have : ∀ m, mxA H m ≤ sumN H m := by
        intro m
        induction m with
        | zero => exact Nat.le_refl _
        | succ m ih => show max (mxA H m) (H m) ≤ sumN H m + H m; omega
      exact this k
    have k1 : Kq (fun a k => (a = 203 ∧ (k = 5 ∨ k = 6)) ∨ a = 206 ∨ a = 208) μ (sI (sI μ 203 5 (nI (sumN H (k + 1)))) 203 6 (nI (mxA H (k + 1)))) := (Kq.sI (by omega)).trans (Kq.sI (by omega))
    have hC1 := hC.kq k1
    have pf : X0_placesFor (d + 2 * n + 1) (nI k) (sI (sI μ 203 5 (nI (sumN H (k + 1)))) 203 6 (nI (mxA H (k + 1)))) (nI (plB W k n &&& (2 ^ (9 - W k) - 1))) (sI (sI μ 203 5 (nI (sumN H (k + 1)))) 203 6 (nI (mxA H (k + 1)))) := X0_placesFor_ok (places_c hs (by omega) hC1 n 0 (by omega))
    have k2 : Kq (fun a k => (a = 203 ∧ (k = 5 ∨ k = 6)) ∨ a = 206 ∨ a = 208) (sI (sI μ 203 5 (nI (sumN H (k + 1)))) 203 6 (nI (mxA H (k + 1)))) (sI (sI (sI μ 203 5 (nI (sumN H (k + 1)))) 203 6 (nI (mxA H (k + 1)))) 206 k (nI (plB W k n &&& (2 ^ (9 - W k) - 1)))) := Kq.sI (by omega)
    obtain ⟨R, μ', g1, g2, g3, g4⟩ := least14 hs hn m (k + 1) _ (by omega) (hC1.kq k2) (by rw [sI_n (by decide), sI_k (by decide), sI_1]) (by rw [sI_n (by decide), sI_1]) (fun i hi => by
      by_cases e : i = k
      · rw [e, sI_1]
      · rw [sI_k e, sI_n (by decide), sI_n (by decide)]
        exact hp i (by omega))
    rw [nI_succ] at g1
    refine ⟨R, μ', X0_leastLength_at14_ok ?_, ((k1.trans k2).mono fun a k q => by omega).trans g2, g3, g4⟩
    rw [hC.1]
    refine tneg (nI_ge (by omega) (by omega)) ⟨v4, ?_⟩
    rw [ec, h5, w2, nJ_add]
    rintro μ6 rfl
    refine ⟨v4, ?_⟩
    rw [sI_k (show 6 ≠ 5 by decide), h6, sI_n (show 205 ≠ 203 by decide), w2, mx_nI (by omega) (by omega)]
    rintro μ7 rfl
    refine ⟨v4, v4, _, _, pf, v4, ?_⟩
    rintro μ11 rfl
    rw [sI_n (show 204 ≠ 203 by decide), sI_n (show 204 ≠ 203 by decide), sI_n (show 205 ≠ 203 by decide), sI_n (show 205 ≠ 203 by decide), w1, w2, nI_mul, nJ_add]
    exact g1
/-! the model's side -/
def PM (n : Nat) (W H : Nat → Nat) (μ : Mem) : Prop := μ.1 0 61 = nI n ∧ ∀ i, i < n → μ.1 36 i = nI (W i) ∧ μ.1 37 i = nI (H i)
def sGo (a : Nat) : Prop := a = 38 ∨ a = 39
theorem PM.kq {μ μ' : Mem} (h : PM n W H μ) (k : Kq (fun a _ => a = 38 ∨ a = 39) μ μ') : PM n W H μ' := ⟨by rw [k.at (by omega)]; exact h.1, fun i hi => by rw [k.at (by omega), k.at (by omega)]; exact h.2 i hi⟩
def msk (w x : Nat) : Nat := (2 ^ w - 1) * 2 ^ x
def tk (W H l : Nat → Nat) : Nat → Nat → Nat
  | 0, _ => 0
  | j + 1, t => tk W H l j t ^^^ (if l j / 8 ≤ t ∧ t < l j / 8 + H j then msk (W j) (l j % 8) else 0)
theorem msk_bit {w x c : Nat} : (msk w x).testBit c = decide (x ≤ c ∧ c < x + w) := by
  unfold msk
  rw [← Nat.shiftLeft_eq, Nat.testBit_shiftLeft, Nat.testBit_two_pow_sub_one]
  by_cases q : x ≤ c
  · rw [decide_eq_true q, Bool.true_and]
    by_cases z : c < x + w
    · rw [decide_eq_true (show c - x < w by omega), decide_eq_true ⟨q, z⟩]
    · rw [decide_eq_false (show ¬ c - x < w by omega), decide_eq_false (fun u => z u.2)]
  · rw [decide_eq_false q, decide_eq_false (show ¬ (x ≤ c ∧ c < x + w) from fun u => q u.1)]
    rfl
def LM (W H l : Nat → Nat) (k : Nat) : Prop := ∀ i j, i < k → j < k → i ≠ j → Apt W H (fun i => l i % 8) (fun i => l i / 8) i j
theorem tk_bit {l : Nat → Nat} {c t : Nat} : ∀ k, LM W H l k → ((tk W H l k t).testBit c = true ↔ ∃ j, j < k ∧ (l j / 8 ≤ t ∧ t < l j / 8 + H j) ∧ (l j % 8 ≤ c ∧ c < l j % 8 + W j))
  | 0, _ => by
    constructor
    · intro h
      have h : (0 : Nat).testBit c = true := h
      rw [Nat.zero_testBit] at h
      cases h
    · rintro ⟨j, hj, _⟩
      omega
  | k + 1, hL => by
    have ih := tk_bit (c := c) (t := t) k fun i j hi hj => hL i j (by omega) (by omega)
    show ((tk W H l k t) ^^^ (if l k / 8 ≤ t ∧ t < l k / 8 + H k then msk (W k) (l k % 8) else 0)).testBit c = true ↔ _
    rw [Nat.testBit_xor]
    by_cases q : (l k / 8 ≤ t ∧ t < l k / 8 + H k) ∧ (l k % 8 ≤ c ∧ c < l k % 8 + W k)
    · rw [if_pos q.1, msk_bit, decide_eq_true q.2]
      have no : (tk W H l k t).testBit c = false := by
        cases e : (tk W H l k t).testBit c with
        | false => rfl
        | true =>
          obtain ⟨j, j1, j2, j3⟩ := ih.mp e
          have ap := hL j k (by omega) (by omega) (by omega)
          unfold Apt at ap
          have ap : l j % 8 + W j ≤ l k % 8 ∨ l k % 8 + W k ≤ l j % 8 ∨ l j / 8 + H j ≤ l k / 8 ∨ l k / 8 + H k ≤ l j / 8 := ap
          exfalso
          omega
      rw [no]
      exact ⟨fun _ => ⟨k, by omega, q⟩, fun _ => rfl⟩
    · have z : (if l k / 8 ≤ t ∧ t < l k / 8 + H k then msk (W k) (l k % 8) else 0).testBit c = false := by
        by_cases y : l k / 8 ≤ t ∧ t < l k / 8 + H k
        · rw [if_pos y, msk_bit]
          exact decide_eq_false fun u => q ⟨y, u⟩
        · rw [if_neg y, Nat.zero_testBit]
      rw [z, Bool.xor_false, ih]
      constructor
      · rintro ⟨j, j1, j2⟩
        exact ⟨j, by omega, j2⟩
      · rintro ⟨j, j1, j2⟩
        by_cases e : j = k
        · rw [e] at j2
          exact absurd j2 q
        · exact ⟨j, by omega, j2⟩
def TkM (W H l : Nat → Nat) (k : Nat) (μ : Mem) : Prop := ∀ t, t < 24 → μ.1 39 t = nI (tk W H l k t)
theorem tk_lt {l : Nat → Nat} {t : Nat} : ∀ k, (∀ j, j < k → l j % 8 + W j ≤ 8) → tk W H l k t < 256
  | 0, _ => by show 0 < 256; decide
  | k + 1, h => by
    have ih := tk_lt (t := t) k fun j hj => h j (by omega)
    show (tk W H l k t ^^^ (if l k / 8 ≤ t ∧ t < l k / 8 + H k then msk (W k) (l k % 8) else 0)) < 2 ^ 8
    refine Nat.xor_lt_two_pow ih ?_
    split
    · unfold msk
      have hk := h k (by omega)
      have h1 : (2 ^ W k - 1) * 2 ^ (l k % 8) < 2 ^ W k * 2 ^ (l k % 8) := Nat.mul_lt_mul_of_pos_right (by have : 0 < 2 ^ W k := Nat.pow_pos (by decide); omega) (Nat.pow_pos (by decide))
      rw [← Nat.pow_add] at h1
      exact Nat.lt_of_lt_of_le h1 (Nat.pow_le_pow_right (by decide) (by omega))
    · decide
theorem msk_m {w x : Nat} (hw : w ≤ 8) (hx : x < 8) : ((1 : Int32) <<< (nI w &&& 31) - 1) <<< (nI x &&& 31) = nI (msk w x) := by
  obtain ⟨e1, _⟩ := shl1 w (by omega)
  rw [e1, show nI (2 ^ w) - 1 = nI (2 ^ w - 1) from nI_sub (b := 1) Nat.one_le_two_pow, n31 x (by omega), shl_nI (by omega)]
  rfl
/-- is it free there -/
def FrA (W H l : Nat → Nat) (k a : Nat) : Prop := ∀ t, a / 8 ≤ t → t < a / 8 + H k → tk W H l k t &&& msk (W k) (a % 8) = 0
theorem free_c {k a : Nat} {l : Nat → Nat} {μ : Mem} (hs : SzP n W H) (hk : k < n) (ha : a / 8 + H k ≤ 24) (hv : ∀ j, j < k → l j % 8 + W j ≤ 8) (hP : PM n W H μ) (hT : TkM W H l k μ) : ∀ (m t : Nat), t + m = a / 8 + H k → ∃ y, X10_isFree_at22 d (nI k) (nI a) (nI (msk (W k) (a % 8))) (nI t) μ y μ ∧ ((∀ u, t ≤ u → u < a / 8 + H k → tk W H l k u &&& msk (W k) (a % 8) = 0) ↔ y = 1) ∧ (y = 0 ∨ y = 1)
  | 0, t, ht => by
    have h4 := hs.1
    have ht : t = a / 8 + H k := ht
    refine ⟨1, X10_isFree_at22_ok ⟨vp_inN (by omega) (by decide), ?_⟩, ⟨fun _ => rfl, fun _ u h1 h2 => by omega⟩, Or.inr rfl⟩
    rw [nI_clamp (by omega), (hP.2 k hk).2, show (8 : Int32) = nI 8 from rfl, nI_div (by omega) (by decide), nJ_add]
    exact tpos (nI_le (by omega) (by omega)) ⟨rfl, rfl⟩
  | m + 1, t, ht => by
    have h4 := hs.1
    have v4 : vp_in (nI k) 4 := vp_inN (by omega) (by decide)
    have tl := tk_lt (H := H) (t := t) k hv
    have al : tk W H l k t &&& msk (W k) (a % 8) ≤ tk W H l k t := Nat.and_le_left
    obtain ⟨y, g1, g2, g3⟩ := free_c hs hk ha hv hP hT m (t + 1) (by omega)
    rw [nI_succ] at g1
    by_cases q : tk W H l k t &&& msk (W k) (a % 8) = 0
    · refine ⟨y, X10_isFree_at22_ok ⟨v4, ?_⟩, ⟨fun z => g2.mp fun u h1 h2 => z u (by omega) h2, fun z u h1 h2 => ?_⟩, g3⟩
      · rw [nI_clamp (by omega), (hP.2 k hk).2, show (8 : Int32) = nI 8 from rfl, nI_div (by omega) (by decide), nJ_add, nI_clamp (by omega), hT t (by omega), and_nI, q]
        exact tneg (nI_ge (by omega) (by omega)) ⟨vp_inN (by omega) (by decide), tpos rfl g1⟩
      · by_cases e : u = t
        · rw [e]; exact q
        · exact g2.mpr z u (by omega) h2
    · refine ⟨0, X10_isFree_at22_ok ⟨v4, ?_⟩, ⟨fun z => absurd (z t (Nat.le_refl _) (by omega)) q, fun z => by cases z⟩, Or.inl rfl⟩
      rw [nI_clamp (by omega), (hP.2 k hk).2, show (8 : Int32) = nI 8 from rfl, nI_div (by omega) (by decide), nJ_add, nI_clamp (by omega), hT t (by omega), and_nI]
      exact tneg (nI_ge (by omega) (by omega)) ⟨vp_inN (by omega) (by decide), tneg (nI_ne0 (by omega) (by omega)) ⟨rfl, rfl⟩⟩
theorem flips_c {k a : Nat} {f : Nat → Nat} (hs : SzP n W H) (hk : k < n) (ha : a / 8 + H k ≤ 24) : ∀ (m t : Nat) (μ : Mem), t + m = a / 8 + H k → PM n W H μ → (∀ u, u < 24 → μ.1 39 u = nI (f u ^^^ (if a / 8 ≤ u ∧ u < t then msk (W k) (a % 8) else 0))) → a / 8 ≤ t → ∃ μ', X10_flips_at22 d (nI k) (nI a) (nI (msk (W k) (a % 8))) (nI t) μ μ' ∧ Kq (fun a _ => a = 39) μ μ' ∧ ∀ u, u < 24 → μ'.1 39 u = nI (f u ^^^ (if a / 8 ≤ u ∧ u < a / 8 + H k then msk (W k) (a % 8) else 0))
  | 0, t, μ, ht, hP, hT, hat => by
    have h4 := hs.1
    have ht : t = a / 8 + H k := ht
    refine ⟨μ, X10_flips_at22_ok ⟨vp_inN (by omega) (by decide), ?_⟩, Kq.refl, by rw [← ht]; exact hT⟩
    rw [nI_clamp (by omega), (hP.2 k hk).2, show (8 : Int32) = nI 8 from rfl, nI_div (by omega) (by decide), nJ_add]
    exact tpos (nI_le (by omega) (by omega)) rfl
  | m + 1, t, μ, ht, hP, hT, hat => by
    have h4 := hs.1
    have k1 : Kq (fun a _ => a = 39) μ (sI μ 39 t (nI (f t ^^^ msk (W k) (a % 8)))) := Kq.sI rfl
    obtain ⟨μ', g1, g2, g3⟩ := flips_c (f := f) hs hk ha m (t + 1) (sI μ 39 t (nI (f t ^^^ msk (W k) (a % 8)))) (by omega) (hP.kq (k1.mono fun a _ q => Or.inr q)) (fun u hu => by
      by_cases e : u = t
      · rw [e, sI_1, if_pos (by omega)]
      · rw [sI_k e, hT u hu]
        by_cases q : a / 8 ≤ u ∧ u < t
        · rw [if_pos q, if_pos (by omega)]
        · rw [if_neg q, if_neg (by omega)]) (by omega)
    rw [nI_succ] at g1
    refine ⟨μ', X10_flips_at22_ok ⟨vp_inN (by omega) (by decide), ?_⟩, k1.trans g2, g3⟩
    rw [nI_clamp (by omega), (hP.2 k hk).2, show (8 : Int32) = nI 8 from rfl, nI_div (by omega) (by decide), nJ_add]
    refine tneg (nI_ge (by omega) (by omega)) ⟨vp_inN (by omega) (by decide), vp_inN (by omega) (by decide), ?_⟩
    rw [nI_clamp (by omega), hT t (by omega), if_neg (by omega), Nat.xor_zero, xor_nI]
    rintro μ1 rfl
    exact g1
end
end Cut
