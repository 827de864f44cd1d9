/-! ===== rows of cloth in bits ===== -/
theorem bvN (n : Nat) : (nI n).toBitVec = BitVec.ofNat 32 n := rfl
theorem i_bv {x y : Int32} (h : x.toBitVec.toNat = y.toBitVec.toNat) : x = y := Int32.toBitVec_inj.mp (BitVec.eq_of_toNat_eq h)
theorem sm32 : ∀ s, s < 32 → (BitVec.ofNat 32 s).smod 32 = BitVec.ofNat 32 s := by decide
theorem shl_nI {t s : Nat} (hs : s < 32) : nI t <<< nI s = nI (t * 2 ^ s) := by
  apply i_bv
  show ((BitVec.ofNat 32 t) <<< ((BitVec.ofNat 32 s).smod 32)).toNat = (BitVec.ofNat 32 (t * 2 ^ s)).toNat
  rw [sm32 s hs, BitVec.shiftLeft_eq', BitVec.toNat_shiftLeft]
  simp only [BitVec.toNat_ofNat]
  rw [Nat.mod_eq_of_lt (show s < 2 ^ 32 by omega), Nat.shiftLeft_eq, Nat.mod_mul_mod]
theorem or_nI {a b s : Nat} (ha : a < 2 ^ s) (hb : a + b * 2 ^ s < 2 ^ 32) : nI a ||| nI (b * 2 ^ s) = nI (a + b * 2 ^ s) := by
  apply i_bv
  show ((BitVec.ofNat 32 a) ||| (BitVec.ofNat 32 (b * 2 ^ s))).toNat = (BitVec.ofNat 32 (a + b * 2 ^ s)).toNat
  rw [BitVec.toNat_or]
  simp only [BitVec.toNat_ofNat]
  rw [Nat.mod_eq_of_lt (show a < 2 ^ 32 by omega), Nat.mod_eq_of_lt (show b * 2 ^ s < 2 ^ 32 by omega), Nat.mod_eq_of_lt hb, Nat.or_comm, ← Nat.shiftLeft_eq, ← Nat.shiftLeft_add_eq_or_of_lt ha, Nat.add_comm]
theorem m31 : ∀ w, w < 8 → (4 * nI w) &&& 31 = nI (4 * w) ∧ ((4 * nI w : Int32).toUInt32 &&& Int32.toUInt32 31).toNat = 4 * w := by decide
theorem bit_nI {R w : Nat} (hw : w < 8) (hR : R < 2 ^ 32) : (((nI R).toUInt32 >>> ((4 * nI w : Int32).toUInt32 &&& Int32.toUInt32 31)).toInt32) &&& 15 = nI (R / 16 ^ w % 16) := by
  apply i_bv
  show (((nI R).toUInt32 >>> ((4 * nI w : Int32).toUInt32 &&& Int32.toUInt32 31)).toBitVec &&& (15 : BitVec 32)).toNat = (BitVec.ofNat 32 (R / 16 ^ w % 16)).toNat
  rw [BitVec.toNat_and]
  have e : ((nI R).toUInt32 >>> ((4 * nI w : Int32).toUInt32 &&& Int32.toUInt32 31)).toBitVec.toNat = R / 16 ^ w := by
    show ((nI R).toUInt32 >>> ((4 * nI w : Int32).toUInt32 &&& Int32.toUInt32 31)).toNat = _
    rw [UInt32.toNat_shiftRight, (m31 w hw).2, Nat.mod_eq_of_lt (show 4 * w < 32 by omega)]
    have e2 : (nI R).toUInt32.toNat = R := by
      show (BitVec.ofNat 32 R).toNat = R
      rw [BitVec.toNat_ofNat, Nat.mod_eq_of_lt hR]
    rw [e2, Nat.shiftRight_eq_div_pow, show (16 : Nat) = 2 ^ 4 from rfl, ← Nat.pow_mul]
  rw [e, show (15 : BitVec 32).toNat = 2 ^ 4 - 1 from rfl, Nat.and_two_pow_sub_one_eq_mod, BitVec.toNat_ofNat]
  rw [Nat.mod_eq_of_lt (show R / 16 ^ w % 16 < 2 ^ 32 by omega)]
/-- a row of cloth, four bits a thread -/
def rowN (P : Pl) (l pick : Nat) : Nat → Nat
  | 0 => 0
  | w + 1 => rowN P l pick w + thr P l w pick * 16 ^ w
def rowI (P : Pl) (l pick : Nat) : Int32 := nI (rowN P l pick (pWi P l))
theorem rowN_lt {P : Pl} {l pick : Nat} : ∀ w, rowN P l pick w < 16 ^ w
  | 0 => (by decide : 0 < 1)
  | w + 1 => by
    have h := rowN_lt (P := P) (l := l) (pick := pick) w
    have t := thr_le (P := P) (l := l) (warp := w) (pick := pick)
    have : thr P l w pick * 16 ^ w ≤ 9 * 16 ^ w := Nat.mul_le_mul_right _ t
    show rowN P l pick w + thr P l w pick * 16 ^ w < 16 ^ (w + 1)
    rw [Nat.pow_succ]
    omega
theorem rowN_at {P : Pl} {l pick w : Nat} : ∀ n, w < n → rowN P l pick n / 16 ^ w % 16 = thr P l w pick
  | 0, h => absurd h (Nat.not_lt_zero _)
  | n + 1, h => by
    have t := thr_le (P := P) (l := l) (warp := w) (pick := pick)
    show (rowN P l pick n + thr P l n pick * 16 ^ n) / 16 ^ w % 16 = _
    by_cases e : w = n
    · subst e
      rw [Nat.add_mul_div_right _ _ (Nat.pow_pos (by decide)), Nat.div_eq_of_lt (rowN_lt w)]
      omega
    · have ih := rowN_at (P := P) (l := l) (pick := pick) (w := w) n (by omega)
      rw [show n = w + ((n - w - 1) + 1) by omega, Nat.pow_add, Nat.pow_succ, show thr P l (w + (n - w - 1 + 1)) pick * (16 ^ w * (16 ^ (n - w - 1) * 16)) = (thr P l (w + (n - w - 1 + 1)) pick * 16 ^ (n - w - 1) * 16) * 16 ^ w by ac_rfl, Nat.add_mul_div_right _ _ (Nat.pow_pos (by decide)), Nat.add_mul_mod_self_right]
      rw [show w + (n - w - 1 + 1) = n by omega]
      exact ih
theorem rowN_off {P : Pl} {l pick w n : Nat} (h : n ≤ w) : rowN P l pick n / 16 ^ w = 0 := Nat.div_eq_of_lt (Nat.lt_of_lt_of_le (rowN_lt n) (Nat.pow_le_pow_right (by decide) h))
theorem p16 {n : Nat} (h : n ≤ 8) : 16 ^ n ≤ 2 ^ 32 := Nat.le_trans (Nat.pow_le_pow_right (by decide) h) (by decide)
theorem rowN_or {P : Pl} {l pick w : Nat} (hw : w < 8) : nI (rowN P l pick w) ||| (nI (thr P l w pick) <<< ((4 * nI w) &&& 31)) = nI (rowN P l pick (w + 1)) := by
  have h1 := rowN_lt (P := P) (l := l) (pick := pick) w
  have h2 := rowN_lt (P := P) (l := l) (pick := pick) (w + 1)
  have h3 := p16 (n := w + 1) (by omega)
  have e : (16 : Nat) ^ w = 2 ^ (4 * w) := by rw [show (16 : Nat) = 2 ^ 4 from rfl, ← Nat.pow_mul]
  have h2' : rowN P l pick w + thr P l w pick * 16 ^ w < 16 ^ (w + 1) := h2
  show _ = nI (rowN P l pick w + thr P l w pick * 16 ^ w)
  rw [(m31 w hw).1, shl_nI (by omega)]
  rw [e] at h1 h2' ⊢
  exact or_nI h1 (by omega)
theorem threadOf_c {P : Pl} {d l pick w : Nat} {μ : Mem} (hw : w < 8) (h8 : pWi P l ≤ 8) : X7_threadOf d (rowI P l pick) (nI w) μ (nI (if w < pWi P l then thr P l w pick else 0)) μ := by
  refine X7_threadOf_ok ⟨?_, rfl⟩
  have hR := Nat.lt_of_lt_of_le (rowN_lt (P := P) (l := l) (pick := pick) (pWi P l)) (p16 h8)
  unfold rowI
  rw [bit_nI hw hR]
  split
  · rename_i h
    rw [rowN_at _ h]
  · rename_i h
    rw [rowN_off (by omega)]
/-! ===== the class: frames, plan ===== -/
def Kq (S : Nat → Nat → Prop) (μ μ' : Mem) : Prop := μ'.2 = μ.2 ∧ ∀ a k, ¬ S a k → μ'.1 a k = μ.1 a k
theorem Kq.refl {S : Nat → Nat → Prop} {μ : Mem} : Kq S μ μ := ⟨rfl, fun _ _ _ => rfl⟩
theorem Kq.trans {S : Nat → Nat → Prop} {μ μ1 μ2 : Mem} (h : Kq S μ μ1) (k : Kq S μ1 μ2) : Kq S μ μ2 := ⟨k.1.trans h.1, fun a j q => (k.2 a j q).trans (h.2 a j q)⟩
theorem Kq.mono {S T : Nat → Nat → Prop} {μ μ' : Mem} (h : Kq S μ μ') (m : ∀ a k, S a k → T a k) : Kq T μ μ' := ⟨h.1, fun a k q => h.2 a k (fun z => q (m a k z))⟩
theorem Kq.at {S : Nat → Nat → Prop} {μ μ' : Mem} (h : Kq S μ μ') {a k : Nat} (q : ¬ S a k) : μ'.1 a k = μ.1 a k := h.2 a k q
theorem Kq.row {S : Nat → Nat → Prop} {μ μ' : Mem} (h : Kq S μ μ') {a : Nat} (q : ∀ k, ¬ S a k) : μ'.1 a = μ.1 a := funext fun k => h.2 a k (q k)
theorem Kq.sI {S : Nat → Nat → Prop} {μ : Mem} {a k : Nat} {x : Int32} (h : S a k) : Kq S μ (sI μ a k x) := by
  refine ⟨rfl, fun b j q => ?_⟩
  by_cases e : b = a
  · subst e
    by_cases e2 : j = k
    · subst e2
      exact absurd h q
    · exact sI_k e2
  · rw [sI_n e]
theorem Kq.sA {S : Nat → Nat → Prop} {μ : Mem} {a : Nat} {f : Nat → Int32} (h : ∀ k, S a k) : Kq S μ (sA μ a f) := by
  refine ⟨rfl, fun b k q => ?_⟩
  by_cases e : b = a
  · subst e
    exact absurd (h k) q
  · rw [sA_n e]
theorem Kp.q {S : Fr} {T : Nat → Nat → Prop} {μ μ' : Mem} (h : Kp S μ μ') (m : ∀ a k, S a k = true → T a k) : Kq T μ μ' := ⟨h.1, fun a k q => h.2 a k (by
  cases e : S a k with
  | false => rfl
  | true => exact absurd (m a k e) q)⟩
theorem Kp.qS {a : Nat} {T : Nat → Nat → Prop} {μ μ' : Mem} (h : Kp (fS a) μ μ') (m : ∀ k, T (a + 2) k) : Kq T μ μ' := h.q fun b k q => by
  have : b = a + 2 := by simpa [fS] using q
  rw [this]
  exact m k
/-- what may change while the plan at p stands -/
def nPl (p a k : Nat) : Prop := a < p ∨ p + 19 ≤ a ∨ a = p + 9 ∨ a = p + 13 ∨ a = p + 17 ∨ (a = p + 10 ∧ (k = 0 ∨ k = 1 ∨ k = 2 ∨ k = 7 ∨ k = 8)) ∨ (a = p + 14 ∧ (k = 3 ∨ k = 4 ∨ k = 5 ∨ k = 6)) ∨ (a = p + 18 ∧ k = 6)
def cellsA (P : Pl) (f : Nat) : Nat → Nat
  | 0 => 0
  | c + 1 => cellsA P f c + if onL P c && decide (pFld P c = some f) then 1 else 0
def cLawAt (μ : Mem) (a pl : Nat) (L : Lw) : Prop := ∃ n, n ≤ 512 ∧ μ.1 a 3 = nI n ∧ cLaw μ a 0 (if L = [] then [(none, [(0, pl)])] else L) n
def landI (P : Pl) (c : Nat) : Int32 := if onL P c then fI (pFld P c) else -2
def CP (P : Pl) (p : Nat) (μ : Mem) : Prop := PW P ∧ (p = 214 ∨ p = 233) ∧ μ.2.2 0 4 = p ∧ μ.2.2 9 0 = p ∧
  (μ.1 p 0 = nI (pW P) ∧ μ.1 p 1 = nI (pH P) ∧ μ.1 p 2 = nI (pF P) ∧ μ.1 p 3 = nI (pL P) ∧ μ.1 p 4 = nI (pSt P) ∧ μ.1 p 5 = nI (pGu P) ∧ μ.1 p 6 = nI (pSe P)) ∧
  (∀ c, c < 48 → μ.1 (p + 1) c = landI P c) ∧ (∀ f, f < pF P → μ.1 (p + 2) f = nI (cellsA P f 48) ∧ μ.1 (p + 3) f = nI (pNe P f) ∧ μ.1 (p + 4) f = nI (pDr P f)) ∧
  (∀ l, l < pL P → μ.1 (p + 5) l = nI (pWi P l) ∧ μ.1 (p + 6) l = nI (pPi P l)) ∧ (cLawAt μ (p + 7) 1 (pLw P 0) ∧ cLawAt μ (p + 11) 1 (pLw P 1) ∧ cLawAt μ (p + 15) 0 (pLw P 2)) ∧
  ((μ.1 (p + 10) 3 = 0 ∧ μ.1 (p + 10) 4 = 0 ∧ μ.1 (p + 10) 5 = 0 ∧ μ.1 (p + 10) 6 = 0) ∧ (μ.1 (p + 14) 0 = 0 ∧ μ.1 (p + 14) 1 = 0 ∧ μ.1 (p + 14) 2 = 0 ∧ μ.1 (p + 14) 7 = 0 ∧ μ.1 (p + 14) 8 = 0) ∧ ∀ i, i < 9 → i ≠ 6 → μ.1 (p + 18) i = 0)
theorem cLawAt.of {μ μ' : Mem} {a pl : Nat} {L : Lw} (h : cLawAt μ a pl L) (h0 : μ'.1 a 3 = μ.1 a 3) (h1 : μ'.1 (a + 1) = μ.1 (a + 1)) : cLawAt μ' a pl L := by
  obtain ⟨n, k1, k2, k3⟩ := h
  exact ⟨n, k1, h0.trans k2, k3.of h1⟩
theorem CP.kq {P : Pl} {p : Nat} {μ μ' : Mem} (h : CP P p μ) (k : Kq (nPl p) μ μ') : CP P p μ' := by
  obtain ⟨pw, hp, g1, g2, ⟨n0, n1, n2, n3, n4, n5, n6⟩, hl, hf, hw, ⟨w0, w1, w2⟩, ⟨⟨z1, z2, z3, z4⟩, ⟨y1, y2, y3, y4, y5⟩, x1⟩⟩ := h
  have e : ∀ a j, ¬ nPl p a j → μ'.1 a j = μ.1 a j := k.2
  have r : ∀ a, (∀ j, ¬ nPl p a j) → μ'.1 a = μ.1 a := fun a q => k.row q
  refine ⟨pw, hp, by rw [k.1]; exact g1, by rw [k.1]; exact g2, ⟨?_, ?_, ?_, ?_, ?_, ?_, ?_⟩, fun c hc => ?_, fun f q => ⟨?_, ?_, ?_⟩, fun l q => ⟨?_, ?_⟩, ⟨w0.of (e _ _ ?_) (r _ ?_), w1.of (e _ _ ?_) (r _ ?_), w2.of (e _ _ ?_) (r _ ?_)⟩, ⟨⟨?_, ?_, ?_, ?_⟩, ⟨?_, ?_, ?_, ?_, ?_⟩, fun i q1 q2 => ?_⟩⟩
  · rw [e _ _ (by unfold nPl; omega)]; exact n0
  · rw [e _ _ (by unfold nPl; omega)]; exact n1
  · rw [e _ _ (by unfold nPl; omega)]; exact n2
  · rw [e _ _ (by unfold nPl; omega)]; exact n3
  · rw [e _ _ (by unfold nPl; omega)]; exact n4
  · rw [e _ _ (by unfold nPl; omega)]; exact n5
  · rw [e _ _ (by unfold nPl; omega)]; exact n6
  · rw [e _ _ (by unfold nPl; omega)]; exact hl c hc
  · rw [e _ _ (by unfold nPl; omega)]; exact (hf f q).1
  · rw [e _ _ (by unfold nPl; omega)]; exact (hf f q).2.1
  · rw [e _ _ (by unfold nPl; omega)]; exact (hf f q).2.2
  · rw [e _ _ (by unfold nPl; omega)]; exact (hw l q).1
  · rw [e _ _ (by unfold nPl; omega)]; exact (hw l q).2
  · unfold nPl; omega
  · intro j; unfold nPl; omega
  · unfold nPl; omega
  · intro j; unfold nPl; omega
  · unfold nPl; omega
  · intro j; unfold nPl; omega
  · rw [e _ _ (by unfold nPl; omega)]; exact z1
  · rw [e _ _ (by unfold nPl; omega)]; exact z2
  · rw [e _ _ (by unfold nPl; omega)]; exact z3
  · rw [e _ _ (by unfold nPl; omega)]; exact z4
  · rw [e _ _ (by unfold nPl; omega)]; exact y1
  · rw [e _ _ (by unfold nPl; omega)]; exact y2
  · rw [e _ _ (by unfold nPl; omega)]; exact y3
  · rw [e _ _ (by unfold nPl; omega)]; exact y4
  · rw [e _ _ (by unfold nPl; omega)]; exact y5
  · rw [e _ _ (by unfold nPl; omega)]; exact x1 i q1 q2
section Class
variable {P : Pl} {p : Nat} {μ : Mem} {d : Nat}
theorem CP.pp (h : CP P p μ) : p = 214 ∨ p = 233 := h.2.1
theorem CP.ptr (h : CP P p μ) : μ.2.2 9 0 = p := h.2.2.2.1
theorem CP.ptr0 (h : CP P p μ) : μ.2.2 0 4 = p := h.2.2.1
theorem CP.num (h : CP P p μ) : μ.1 p 0 = nI (pW P) ∧ μ.1 p 1 = nI (pH P) ∧ μ.1 p 2 = nI (pF P) ∧ μ.1 p 3 = nI (pL P) ∧ μ.1 p 4 = nI (pSt P) ∧ μ.1 p 5 = nI (pGu P) ∧ μ.1 p 6 = nI (pSe P) := h.2.2.2.2.1
theorem CP.land (h : CP P p μ) {c : Nat} (hc : c < 48) : μ.1 (p + 1) c = landI P c := h.2.2.2.2.2.1 c hc
theorem CP.fld (h : CP P p μ) {f : Nat} (hf : f < pF P) : μ.1 (p + 2) f = nI (cellsA P f 48) ∧ μ.1 (p + 3) f = nI (pNe P f) ∧ μ.1 (p + 4) f = nI (pDr P f) := h.2.2.2.2.2.2.1 f hf
theorem CP.loo (h : CP P p μ) {l : Nat} (hl : l < pL P) : μ.1 (p + 5) l = nI (pWi P l) ∧ μ.1 (p + 6) l = nI (pPi P l) := h.2.2.2.2.2.2.2.1 l hl
theorem CP.law (h : CP P p μ) : cLawAt μ (p + 7) 1 (pLw P 0) ∧ cLawAt μ (p + 11) 1 (pLw P 1) ∧ cLawAt μ (p + 15) 0 (pLw P 2) := h.2.2.2.2.2.2.2.2.1
/-- a range asked the class's way -/
theorem rng_c {x : Int32} {n : Nat} {A : Int32 → Prop} (hn : n < 2 ^ 31) (h : A (bI (inN x n))) : ((x < 0 → A 0) ∧ (¬ x < 0 → ((nI n ≤ x → A 0) ∧ (¬ nI n ≤ x → A 1)))) := by
  by_cases h0 : x < 0
  · have : inN x n = false := by unfold inN; rw [decide_eq_true h0]; rfl
    rw [this] at h
    exact tpos h0 h
  · obtain ⟨k, hk, rfl⟩ := nI_ex (i_nlt h0)
    rw [inN_nI hk] at h
    refine tneg h0 ?_
    by_cases q : k < n
    · rw [decide_eq_true q] at h
      exact tneg (nI_ge q hn) h
    · rw [decide_eq_false q] at h
      exact tpos (nI_le (by omega) hk) h
theorem hasLoom_c {x : Int32} (h : CP P p μ) : X3_hasLoom d p x μ (bI (inN x (pL P))) μ := by
  refine X3_hasLoom_ok ?_
  rw [h.num.2.2.2.1]
  exact rng_c (A := fun r => (bI (inN x (pL P))) = r ∧ μ = μ) (by have := h.1.2.2.2.1; omega) ⟨rfl, rfl⟩
theorem hasField_c {x : Int32} (h : CP P p μ) : X3_hasField d p x μ (bI (inN x (pF P))) μ := by
  refine X3_hasField_ok ?_
  rw [h.num.2.2.1]
  exact rng_c (A := fun r => (bI (inN x (pF P))) = r ∧ μ = μ) (by have := h.1.2.2.1; omega) ⟨rfl, rfl⟩
theorem hasCell_c {x y : Int32} (h : CP P p μ) : X3_hasCell d p x y μ (bI (inN x (pW P) && inN y (pH P))) μ := by
  refine X3_hasCell_ok ?_
  rw [h.num.1, h.num.2.1]
  have hw := h.1.1
  have hh := h.1.2.1
  cases hx : inN x (pW P) with
  | false =>
    have := rng_c (x := x) (n := pW P) (A := fun r => r = 0) (by omega) (by rw [hx]; rfl)
    refine ⟨fun q => ⟨rfl, rfl⟩, fun q => ⟨fun q2 => ⟨rfl, rfl⟩, fun q2 => ?_⟩⟩
    have := (this.2 q).2 q2
    exact absurd this (by decide)
  | true =>
    have := rng_c (x := x) (n := pW P) (A := fun r => r = 1) (by omega) (by rw [hx]; rfl)
    refine ⟨fun q => absurd (this.1 q) (by decide), fun q => ⟨fun q2 => absurd ((this.2 q).1 q2) (by decide), fun q2 => ?_⟩⟩
    exact rng_c (A := fun r => (bI (true && inN y (pH P))) = r ∧ μ = μ) (by omega) ⟨by rw [Bool.true_and], rfl⟩
end Class
