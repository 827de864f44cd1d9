/-! ===== read: later faults and numbers, both sides ===== -/
section Rd
variable {d : Nat}
section
variable {S M : Nat} {T : Nat → Tk}
abbrev Lt : Type := Nat × Nat
def ltS (b : Bool) (k pl : Nat) (l : Lt) : Lt := if b && l.1 == 0 then (k, pl) else l
def LC' (l : Lt) (μ : Mem) : Prop := l.1 ≤ 6 ∧ μ.1 2 8 = nI l.1 ∧ μ.1 2 9 = (if l.1 = 0 then -1 else nI l.2)
def LM' (l : Lt) (μ : Mem) : Prop := l.1 ≤ 6 ∧ μ.1 0 15 = nI l.1 ∧ (l.1 ≠ 0 → μ.1 0 16 = nI l.2)
def Lo (l : Lt) (k pl : Nat) : Prop := l.1 ≠ 0 → l.2 < pl ∨ (l.2 = pl ∧ l.1 ≤ k)
def laC (a k : Nat) : Prop := a = 2 ∧ (k = 2 ∨ k = 3 ∨ k = 6 ∨ k = 7 ∨ k = 8 ∨ k = 9)
def laM (a k : Nat) : Prop := a = 0 ∧ (k = 11 ∨ k = 13 ∨ k = 14 ∨ k = 15 ∨ k = 16)
abbrev KC (μ μ' : Mem) : Prop := Kz laC (fun _ => False) μ μ'
abbrev KMl (μ μ' : Mem) : Prop := Kz laM (fun _ => False) μ μ'
theorem KA.c {μ μ' : Mem} (h : KA μ μ') : KC μ μ' := h.mono (fun a k q => by unfold adv at q; unfold laC; omega) (fun _ q => q)
theorem KV.c {μ μ' : Mem} (h : KV μ μ') : KMl μ μ' := h.mono (fun a k q => by unfold mvM at q; unfold laM; omega) (fun _ q => q)
theorem TC.kc {μ μ' : Mem} (h : TC M T μ) (k : KC μ μ') : TC M T μ' := h.kz k (fun j => by unfold laC; omega) (fun j => by unfold laC; omega) (fun z => z)
theorem TM.kc {μ μ' : Mem} (h : TM M T μ) (k : KMl μ μ') : TM M T μ' := h.kz k (fun j => by unfold laM; omega) (fun j => by unfold laM; omega) (fun j => by unfold laM; omega) (fun z => z)
theorem LC'.ka {l : Lt} {μ μ' : Mem} (h : LC' l μ) (k : KA μ μ') : LC' l μ' := ⟨h.1, (k.at (by unfold adv; omega)).trans h.2.1, (k.at (by unfold adv; omega)).trans h.2.2⟩
theorem LM'.kv {l : Lt} {μ μ' : Mem} (h : LM' l μ) (k : KV μ μ') : LM' l μ' := ⟨h.1, (k.at (by unfold mvM; omega)).trans h.2.1, fun z => (k.at (by unfold mvM; omega)).trans (h.2.2 z)⟩
theorem ltS_f {k pl : Nat} {l : Lt} : ltS false k pl l = l := rfl
theorem ltS_0 {k pl : Nat} {l : Lt} (h : l.1 = 0) : ltS true k pl l = (k, pl) := by unfold ltS; rw [h]; rfl
theorem ltS_n {b : Bool} {k pl : Nat} {l : Lt} (h : l.1 ≠ 0) : ltS b k pl l = l := by
  unfold ltS
  rw [show (l.1 == 0) = false from by rw [beq_eq_false_iff_ne]; exact h, Bool.and_false]
  rfl
theorem ltS_lo {b : Bool} {k pl k' pl' : Nat} {l : Lt} (h : Lo l k pl) (hp : pl < pl' ∨ (pl = pl' ∧ k ≤ k')) (hk : Lo l k' pl') : Lo (ltS b k pl l) k' pl' := by
  by_cases e : l.1 = 0
  · cases b with
    | false => rw [ltS_f]; exact hk
    | true => rw [ltS_0 e]; exact fun _ => hp
  · rw [ltS_n e]; exact hk
theorem later_c {k pl : Nat} {l : Lt} {μ : Mem} (hk : 1 ≤ k ∧ k ≤ 6) (h : LC' l μ) : ∃ μ', X4_blameLater d (nI k) (nI pl) μ μ' ∧ LC' (ltS true k pl l) μ' ∧ Kz (fun a j => a = 2 ∧ (j = 8 ∨ j = 9)) (fun _ => False) μ μ' := by
  by_cases e : l.1 = 0
  · rw [ltS_0 e]
    refine ⟨sI (sI μ 2 8 (nI k)) 2 9 (nI pl), X4_blameLater_ok (teq (by rw [h.2.1, e]; rfl) ?_), ⟨hk.2, by rw [sI_k (by decide), sI_1], by rw [if_neg (show ¬ k = 0 by omega), sI_1]⟩, (Kz.sI (by omega)).trans (Kz.sI (by omega))⟩
    rintro μ1 rfl μ2 rfl
    rfl
  · rw [ltS_n e]
    exact ⟨μ, X4_blameLater_ok (tne (by rw [h.2.1]; exact nI_ne0 (by omega) (by have := h.1; omega)) rfl), h, Kz.refl⟩
theorem wrong_m {k t : Nat} {l : Lt} {μ : Mem} (hV : TV S M T) (hT : TM M T μ) (h0 : μ.1 0 13 = 0) (ht : t < M) (hk : k ≤ 6) (h : LM' l μ) (ho : Lo l k (pc' T t)) : ∃ μ', X10_wrong d (nI k) (nI t) μ μ' ∧ LM' (ltS true k (pc' T t) l) μ' ∧ Kz (fun a j => a = 0 ∧ (j = 15 ∨ j = 16)) (fun _ => False) μ μ' := by
  have hm := hV.2.1
  have vt := hV.2.2.1 t ht
  have vin : vp_in (nI t) 403 := vp_inN (by omega) (by decide)
  have f0 : ¬ 0 < μ.1 0 13 := by rw [h0]; decide
  by_cases e : l.1 = 0
  · rw [ltS_0 e]
    refine ⟨sI (sI μ 0 15 (nI k)) 0 16 (nI (pc' T t)), X10_wrong_ok ⟨vin, tneg f0 (tpos (by rw [h.2.1, e]; rfl) ?_)⟩, ⟨hk, by rw [sI_k (by decide), sI_1], fun _ => sI_1⟩, (Kz.sI (by omega)).trans (Kz.sI (by omega))⟩
    rw [nI_clamp (by omega), (hT t ht).2.1]
    rintro μ1 rfl μ2 rfl
    rfl
  · rw [ltS_n e]
    have l6 := h.1
    refine ⟨μ, X10_wrong_ok ⟨vin, tneg f0 (tneg (by rw [h.2.1]; exact nI_ne0 (by omega) (by omega)) ?_)⟩, h, Kz.refl⟩
    rw [nI_clamp (by omega), (hT t ht).2.1, h.2.2 e, h.2.1]
    rcases ho e with z | ⟨z, z'⟩
    · exact tpos (nI_lt z (by omega)) rfl
    · exact tneg (nI_nlt (by omega) (by omega)) (teq (by rw [z]) (tneg (nI_nlt (by omega) (by omega)) rfl))
def outR (lo hi v : Nat) : Bool := decide (v < lo) || decide (hi < v)
theorem lI_i32 {v : Nat} (h : v ≤ 9999) : (lI v).toInt32 = nI v := by
  apply i_bv
  show ((BitVec.ofNat 64 v).signExtend 32).toNat = (BitVec.ofNat 32 v).toNat
  rw [BitVec.signExtend_eq_setWidth_of_le _ (by decide), BitVec.toNat_setWidth, BitVec.toNat_ofNat, BitVec.toNat_ofNat, Nat.mod_eq_of_lt (show v < 2 ^ 64 by omega)]
theorem int_c {lo hi : Nat} {x1 x2 : Int32} {q : Qs} {l : Lt} {μ : Mem} (hV : TV S M T) (hT : TC M T μ) (h : QSc M T q μ) (hl : ∀ i, q = .inl i → LC' l μ) (hx1 : x1 = nI lo) (hx2 : x2 = nI hi) (hh : hi ≤ 9999) (hlo : lo ≤ 9999) : ∃ x μ', X4_readInt (d + 2) x1 x2 μ x μ' ∧ QSc M T (acq T 22 q) μ' ∧ KC μ μ' ∧ ∀ j, acq T 22 q = .inl j → ∃ i, q = .inl i ∧ i < M ∧ j = i + 1 ∧ kd T i = 22 ∧ x = nI (vl' T i) ∧ LC' (ltS (outR lo hi (vl' T i)) 5 (pc' T i) l) μ' := by
  subst hx1 hx2
  have hm := hV.2.1
  have hn : ∃ i, i ≤ 400 ∧ μ.1 2 2 = nI i := by
    cases q with
    | inl i => exact ⟨i, by have := h.1; omega, h.2.2.1⟩
    | inr e => exact h.2.2.2.2
  obtain ⟨n, n1, n2⟩ := hn
  have vc := value_c (d := d + 1) n1 n2
  have sc := start_c (d := d + 1) n1 n2
  obtain ⟨m1, a1, a2, a3⟩ := accQ (d := d) (k := 22) hV hT (by decide) (by decide) h
  cases hq : acq T 22 q with
  | inr e =>
    rw [hq] at a1 a2
    exact ⟨_, m1, X4_readInt_ok ⟨_, μ, vc, _, μ, sc, _, m1, a1, tpos rfl ⟨rfl, rfl⟩⟩, a2, a3.c, fun j z => by cases z⟩
  | inl j =>
    rw [hq] at a1 a2
    obtain ⟨i, rfl, hk, _, rfl⟩ := acq_inl hq
    have ei : n = i := by
      have z := h.2.2.1
      rw [n2] at z
      exact nI_inj (by omega) (by have := h.1; omega) z
    subst ei
    have hl := hl n rfl
    have vi := hV.2.2.1 n h.1
    have v9 := vi.2.2.1 hk
    have ex : (μ.2.1 7 n).toInt32 = nI (vl' T n) := by rw [(hT n h.1).2.2.1 hk]; exact lI_i32 v9
    have ep : μ.1 6 n = nI (pc' T n) := (hT n h.1).2.1
    obtain ⟨m2, g1, g2, g3⟩ := later_c (d := d + 1) (k := 5) (pl := pc' T n) (by decide) (hl.ka a3)
    have fin : ∀ (b : Bool) (m : Mem), LC' (ltS b 5 (pc' T n) l) m → outR lo hi (vl' T n) = b → ∀ j', (.inl (n + 1) : Qs) = .inl j' → ∃ i, (.inl n : Qs) = .inl i ∧ i < M ∧ j' = i + 1 ∧ kd T i = 22 ∧ nI (vl' T n) = nI (vl' T i) ∧ LC' (ltS (outR lo hi (vl' T i)) 5 (pc' T i) l) m := fun b m z1 z2 j' z => by
      cases z
      exact ⟨n, rfl, h.1, rfl, hk, rfl, by rw [z2]; exact z1⟩
    have K2 : KC μ m2 := a3.c.trans (g3.mono (fun a k q => by unfold laC; omega) (fun _ q => q))
    have Q2 : QSc M T (.inl (n + 1)) m2 := ⟨a2.1, ⟨(g3.at (by omega)).trans a2.2.1, (g3.at (by omega)).trans a2.2.2.1, (g3.at (by omega)).trans a2.2.2.2⟩⟩
    by_cases b1 : vl' T n < lo
    · refine ⟨nI (vl' T n), m2, X4_readInt_ok ⟨_, μ, vc, _, μ, sc, _, m1, a1, tneg (show ¬ (1 : Int32) = 0 by decide) ?_⟩, Q2, K2, fin true m2 g2 (by unfold outR; rw [decide_eq_true b1, Bool.true_or])⟩
      rw [ex, ep]
      exact tpos (nI_lt b1 (by omega)) ⟨m2, g1, rfl, rfl⟩
    · by_cases b2 : hi < vl' T n
      · refine ⟨nI (vl' T n), m2, X4_readInt_ok ⟨_, μ, vc, _, μ, sc, _, m1, a1, tneg (show ¬ (1 : Int32) = 0 by decide) ?_⟩, Q2, K2, fin true m2 g2 (by unfold outR; rw [decide_eq_true b2, Bool.or_true])⟩
        rw [ex, ep]
        refine tneg (nI_nlt (by omega) (by omega)) (tneg (fun z => ?_) ⟨m2, g1, rfl, rfl⟩)
        have := (nI_le_iff (by omega) (by omega)).1 z
        omega
      · refine ⟨nI (vl' T n), m1, X4_readInt_ok ⟨_, μ, vc, _, μ, sc, _, m1, a1, tneg (show ¬ (1 : Int32) = 0 by decide) ?_⟩, a2, a3.c, fin false m1 (hl.ka a3) (by unfold outR; rw [decide_eq_false b1, decide_eq_false b2]; rfl)⟩
        rw [ex]
        exact tneg (nI_nlt (by omega) (by omega)) (tpos ((nI_le_iff (by omega) (by omega)).2 (by omega)) ⟨rfl, rfl⟩)
theorem int_m {lo hi : Nat} {x1 x2 : Int32} {q : Qs} {l : Lt} {μ : Mem} (hV : TV S M T) (hT : TM M T μ) (h : QSm M T q μ) (hl : ∀ i, q = .inl i → LM' l μ) (ho : ∀ i, q = .inl i → Lo l 5 (pc' T i)) (hx1 : x1 = nI lo) (hx2 : x2 = nI hi) (hh : hi ≤ 9999) (hlo : lo ≤ 9999) : ∃ x μ', X10_bounded (d + 2) x1 x2 μ x μ' ∧ QSm M T (acq T 22 q) μ' ∧ KMl μ μ' ∧ ∀ j, acq T 22 q = .inl j → ∃ i, q = .inl i ∧ x = nI (vl' T i) ∧ LM' (ltS (outR lo hi (vl' T i)) 5 (pc' T i) l) μ' := by
  subst hx1 hx2
  have hm := hV.2.1
  cases q with
  | inr e =>
    refine ⟨nI lo, μ, X10_bounded_ok (tpos ?_ ⟨μ, fail_F h.2, rfl, rfl⟩), h, Kz.refl, fun j z => by cases z⟩
    rw [h.2.2.1]
    exact nI_lt (a := 0) h.2.1.1 (by have := h.2.1.2; omega)
  | inl i =>
    have hl := hl i rfl
    have f0 : ¬ 0 < μ.1 0 13 := by rw [h.2.1.1]; decide
    have vi := hV.2.2.1 i h.1
    have hi' := h.1
    by_cases hk : kd T i = 22
    · have y := is_y (d := d + 1) (x := 2) hV hT h.2.1 h.1 rfl hk
      have v9 := vi.2.2.1 hk
      have ev : μ.1 5 ((μ.1 0 11).toNatClampNeg) = nI (vl' T i) := by rw [h.2.1.2, nI_clamp (by omega), (hT i h.1).2.2.1 hk]
      have vin : vp_in (μ.1 0 11) 403 := by rw [h.2.1.2]; exact vp_inN (by omega) (by decide)
      have h32 : kd T i ≠ 32 := by omega
      by_cases b : outR lo hi (vl' T i) = true
      · obtain ⟨m1, g1, g2, g3⟩ := wrong_m (d := d + 1) (k := 5) hV hT h.2.1.1 h.1 (by decide) hl (ho i rfl)
        have T1 : TM M T m1 := hT.kz g3 (fun j => by omega) (fun j => by omega) (fun j => by omega) (fun z => z)
        have Q1 : QSm M T (.inl i) m1 := h.of (g3.at (by omega)) (g3.at (by omega)) (g3.at (by omega)) (g3.at (by omega))
        obtain ⟨m2, t1, t2, t3⟩ := goQ (d := d) hV T1 Q1 h32
        rw [hk] at t2
        refine ⟨nI (vl' T i), m2, X10_bounded_ok (tneg f0 ⟨1, μ, y, tne (by decide) ⟨vin, ?_⟩⟩), t2, (g3.mono (fun a k q => by unfold laM; omega) (fun _ q => q)).trans t3.c, fun j z => ⟨i, rfl, rfl, by rw [b]; exact g2.kv t3⟩⟩
        rw [ev, h.2.1.2]
        by_cases b1 : vl' T i < lo
        · exact tpos (nI_lt b1 (by omega)) ⟨m1, g1, m2, t1, rfl, rfl⟩
        · refine tneg (nI_nlt (by omega) (by omega)) (tneg (fun z => ?_) ⟨m1, g1, m2, t1, rfl, rfl⟩)
          have := (nI_le_iff (by omega) (by omega)).1 z
          unfold outR at b
          rw [decide_eq_false b1, Bool.false_or] at b
          have := of_decide_eq_true b
          omega
      · have b : outR lo hi (vl' T i) = false := by
          cases hb : outR lo hi (vl' T i) with
          | true => exact absurd hb b
          | false => rfl
        obtain ⟨m2, t1, t2, t3⟩ := goQ (d := d) hV hT h h32
        rw [hk] at t2
        have b1 : ¬ vl' T i < lo := fun z => by unfold outR at b; rw [decide_eq_true z, Bool.true_or] at b; cases b
        have b2 : ¬ hi < vl' T i := fun z => by unfold outR at b; rw [decide_eq_true z, Bool.or_true] at b; cases b
        refine ⟨nI (vl' T i), m2, X10_bounded_ok (tneg f0 ⟨1, μ, y, tne (by decide) ⟨vin, ?_⟩⟩), t2, t3.c, fun j z => ⟨i, rfl, rfl, by rw [b]; exact hl.kv t3⟩⟩
        rw [ev]
        exact tneg (nI_nlt (by omega) (by omega)) (tpos ((nI_le_iff (by omega) (by omega)).2 (by omega)) ⟨m2, t1, rfl, rfl⟩)
    · have n := is_n (d := d + 1) (k := 22) (x := 2) hV hT h.2.1 h.1 rfl (by decide) hk
      obtain ⟨m1, g1, g2, g3⟩ := fail_m (d := d + 1) (f := 1) (x := 1) hV hT h.2.1 h.1 (by omega) rfl
      rw [acq_i, if_neg hk]
      exact ⟨nI lo, m1, X10_bounded_ok (tneg f0 ⟨0, μ, n, teq rfl ⟨m1, g1, rfl, rfl⟩⟩), ⟨h.1, g2⟩, g3.c, fun j z => by cases z⟩
end
end Rd
