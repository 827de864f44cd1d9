/-! ===== read: FIELDs and LOOMs told, both sides ===== -/
section Rd
variable {d : Nat}
section
variable {S M : Nat} {T : Nat → Tk}
/-- the words of a FIELD or a LOOM that is told -/
def fq1 (T : Nat → Tk) (k i : Nat) : Qs := acq T k (.inl i)
def fq2 (T : Nat → Tk) (k i : Nat) : Qs := acq T 21 (fq1 T k i)
def fq3 (T : Nat → Tk) (k i : Nat) : Qs := acq T 22 (fq2 T k i)
def fq4 (T : Nat → Tk) (k i : Nat) : Qs := acq T 22 (fq3 T k i)
def fq5 (T : Nat → Tk) (k i : Nat) : Qs := acq T 23 (fq4 T k i)
theorem fq_at {k i j : Nat} : (fq1 T k i = .inl j → kd T i = k ∧ j = i + 1) ∧ (fq2 T k i = .inl j → fq1 T k i = .inl (i + 1) ∧ kd T (i + 1) = 21 ∧ j = i + 2) ∧ (fq3 T k i = .inl j → fq2 T k i = .inl (i + 2) ∧ kd T (i + 2) = 22 ∧ j = i + 3) ∧ (fq4 T k i = .inl j → fq3 T k i = .inl (i + 3) ∧ kd T (i + 3) = 22 ∧ j = i + 4) ∧ (fq5 T k i = .inl j → fq4 T k i = .inl (i + 4) ∧ j = i + 5) := by
  have h1 : ∀ {j}, fq1 T k i = .inl j → kd T i = k ∧ j = i + 1 := fun {j} h => by
    obtain ⟨x, e1, e2, _, e3⟩ := acq_inl h
    cases e1
    exact ⟨e2, e3⟩
  have h2 : ∀ {j}, fq2 T k i = .inl j → fq1 T k i = .inl (i + 1) ∧ kd T (i + 1) = 21 ∧ j = i + 2 := fun {j} h => by
    obtain ⟨x, e1, e2, _, e3⟩ := acq_inl h
    have := (h1 e1).2
    subst this
    exact ⟨e1, e2, e3⟩
  have h3 : ∀ {j}, fq3 T k i = .inl j → fq2 T k i = .inl (i + 2) ∧ kd T (i + 2) = 22 ∧ j = i + 3 := fun {j} h => by
    obtain ⟨x, e1, e2, _, e3⟩ := acq_inl h
    have := (h2 e1).2.2
    subst this
    exact ⟨e1, e2, e3⟩
  have h4 : ∀ {j}, fq4 T k i = .inl j → fq3 T k i = .inl (i + 3) ∧ kd T (i + 3) = 22 ∧ j = i + 4 := fun {j} h => by
    obtain ⟨x, e1, e2, _, e3⟩ := acq_inl h
    have := (h3 e1).2.2
    subst this
    exact ⟨e1, e2, e3⟩
  refine ⟨h1, h2, h3, h4, fun h => ?_⟩
  obtain ⟨x, e1, e2, _, e3⟩ := acq_inl h
  have := (h4 e1).2.2
  subst this
  exact ⟨e1, e3⟩
def fl1 (T : Nat → Tk) (N : List (List Nat)) (i : Nat) (l : Lt) : Lt := ltS (hs N (nm' T (i + 1)) 0 N.length) 3 (pc' T (i + 1)) l
def fl2 (T : Nat → Tk) (N : List (List Nat)) (lo hi i : Nat) (l : Lt) : Lt := ltS (outR lo hi (vl' T (i + 2))) 5 (pc' T (i + 2)) (fl1 T N i l)
def fl3 (T : Nat → Tk) (N : List (List Nat)) (lo hi lo' hi' i : Nat) (l : Lt) : Lt := ltS (outR lo' hi' (vl' T (i + 3))) 5 (pc' T (i + 3)) (fl2 T N lo hi i l)
theorem QSc.n {q : Qs} {a k : Nat} {x : Int32} {μ : Mem} (h : QSc M T q μ) (ha : a ≠ 2) : QSc M T q (sI μ a k x) := QSc.same h (fun j => by rw [sI_n (Ne.symm ha)])
theorem TC.n {a k : Nat} {x : Int32} {μ : Mem} (h : TC M T μ) (h5 : a ≠ 5) (h6 : a ≠ 6) : TC M T (sI μ a k x) := fun i hi => by rw [sI_n (Ne.symm h5), sI_n (Ne.symm h6), sI_2]; exact h i hi
theorem TM.n {a k : Nat} {x : Int32} {μ : Mem} (h : TM M T μ) (h3 : a ≠ 3) (h4 : a ≠ 4) (h5 : a ≠ 5) : TM M T (sI μ a k x) := fun i hi => by rw [sI_n (Ne.symm h3), sI_n (Ne.symm h4), sI_n (Ne.symm h5), sI_2]; exact h i hi
theorem LC'.n {l : Lt} {a k : Nat} {x : Int32} {μ : Mem} (h : LC' l μ) (ha : a ≠ 2) : LC' l (sI μ a k x) := ⟨h.1, by rw [sI_n (Ne.symm ha)]; exact h.2.1, by rw [sI_n (Ne.symm ha)]; exact h.2.2⟩
theorem LM'.n {l : Lt} {a k : Nat} {x : Int32} {μ : Mem} (h : LM' l μ) (ha : a ≠ 0) : LM' l (sI μ a k x) := ⟨h.1, by rw [sI_n (Ne.symm ha)]; exact h.2.1, fun z => by rw [sI_n (Ne.symm ha)]; exact h.2.2 z⟩
theorem NC.n {N : List (List Nat)} {a k : Nat} {x : Int32} {μ : Mem} (h : NC N μ) (ha : a ≠ 2) : NC N (sI μ a k x) := ⟨by rw [sI_n (Ne.symm ha)]; exact h.1, h.2⟩
theorem NMn.n {N : List (List Nat)} {a k : Nat} {x : Int32} {μ : Mem} (h : NMn N μ) (ha : a ≠ 0) : NMn N (sI μ a k x) := ⟨by rw [sI_n (Ne.symm ha)]; exact h.1, h.2⟩
theorem TC.kn {μ μ' : Mem} (h : TC M T μ) (k : KNc μ μ') : TC M T μ' := h.kz k (fun j => by unfold naC; omega) (fun j => by unfold naC; omega) (by decide)
theorem TM.kn {μ μ' : Mem} (h : TM M T μ) (k : KNm μ μ') : TM M T μ' := h.kz k (fun j => by unfold naM; omega) (fun j => by unfold naM; omega) (fun j => by unfold naM; omega) (by decide)
def tfC (q c e f n a k : Nat) : Prop := naC a k ∨ (a = q ∧ k = c) ∨ ((a = q + e ∨ a = q + f) ∧ k = n)
def tfM (s c e f n v m a k : Nat) : Prop := naM a k ∨ (a = c ∧ k = s) ∨ ((a = e ∨ a = f) ∧ k = n ∧ v < m)
theorem field_c {q n i : Nat} {N : List (List Nat)} {l : Lt} {μ : Mem} (hq : 200 < q) (hN : okN N) (hV : TV S M T) (hT : TC M T μ) (h : QSc M T (.inl i) μ) (hk : kd T i = 1) (hC : NC N μ) (hl : LC' l μ) (hn : n ≤ 6) (h10 : n < 6 → N.length < 10) (hp : μ.2.2 2 1 = q) (hc : μ.1 q 2 = nI n) : ∃ μ', X4_readTell (d + 17) μ μ' ∧ QSc M T (if n = 6 then .inr (2, i) else fq5 T 1 i) μ' ∧ Kz (tfC q 2 3 4 n) (fun a => a = 8) μ μ' ∧ ∀ j, n ≠ 6 → fq5 T 1 i = .inl j → μ'.1 q 2 = nI (n + 1) ∧ μ'.1 (q + 3) n = nI (vl' T (i + 2)) ∧ μ'.1 (q + 4) n = nI (vl' T (i + 3)) ∧ NC (N ++ [nm' T (i + 1)]) μ' ∧ LC' (fl3 T N 0 99 0 999 i l) μ' := by
  have ek : μ.1 2 3 = 1 := by rw [h.2.2.2, hk]; rfl
  have ent : ∀ m μ', X4_readField (d + 16) μ m → (∃ y, X4_accept (d + 16) 23 m y μ') → X4_readTell (d + 17) μ μ' := fun m μ' z1 z2 => by
    obtain ⟨y, z2⟩ := z2
    refine X4_readTell_ok ?_
    rw [ek]
    exact ⟨fun z => absurd z (by decide), fun _ => ⟨m, z1, y, μ', z2, rfl⟩, fun z => absurd z (by decide), fun z => absurd z (by decide), fun z => absurd z (by decide), fun z => absurd z (by decide), fun z => absurd z (by decide), fun z => absurd z (by decide), fun z => absurd z (by decide), fun z => absurd z (by decide)⟩
  by_cases e6 : n = 6
  · rw [if_pos e6]
    obtain ⟨m1, g1, g2, g3⟩ := blame_c (d := d + 15) (f := 2) hT hV.2.1 h.2.1 h.2.2.1 h.1 (by omega)
    refine ⟨m1, ent m1 m1 (X4_readField_ok ?_) ⟨0, accF g2.ne⟩, ⟨h.1, g2⟩, g3.mono (fun a k q => by unfold adv at q; unfold tfC naC; omega) (fun _ q => q.elim), fun j z => absurd e6 z⟩
    rw [hp, hc, e6]
    exact tneg (by decide) ⟨m1, g1, rfl⟩
  · rw [if_neg e6]
    obtain ⟨m1, a1, a2, a3⟩ := accQ (d := d + 14) (k := 1) hV hT (by decide) (by decide) h
    have T1 := hT.kc a3.c
    have CL1 : NC N m1 ∧ LC' l m1 := ⟨hC.kc a3.c, hl.ka a3⟩
    obtain ⟨m2, b1, b2, b3, b4⟩ := name_c (d := d + 13) hN (h10 (by omega)) hV T1 a2 (fun _ _ => CL1)
    have T2 := T1.kn b3
    have L2 : ∀ x, fq2 T 1 i = .inl x → NC (N ++ [nm' T (i + 1)]) m2 ∧ LC' (fl1 T N i l) m2 := fun x hx => by
      obtain ⟨z, z1, _, _, _, z2, z3⟩ := b4 x hx
      have z1 : fq1 T 1 i = .inl z := z1
      have := (fq_at.1 z1).2
      subst this
      exact ⟨z2, z3⟩
    obtain ⟨x3, m3, c1, c2, c3, c4⟩ := int_c (d := d + 13) (lo := 0) (hi := 99) (x1 := 0) (x2 := 99) hV T2 b2 (l := fl1 T N i l) (fun x hx => (L2 x hx).2) rfl rfl (by decide) (by decide)
    have p2 : m2.2.2 2 1 = q ∧ m2.1 q 2 = nI n := ⟨by rw [b3.2.2, a3.2.2]; exact hp, by rw [b3.at (by unfold naC; omega), a3.at (by unfold adv; omega)]; exact hc⟩
    have p3 : m3.2.2 2 1 = q ∧ m3.1 q 2 = nI n := ⟨by rw [c3.2.2]; exact p2.1, by rw [c3.at (by unfold laC; omega)]; exact p2.2⟩
    have T3 := (T2.kc c3).n (a := q + 3) (k := n) (x := x3) (by omega) (by omega)
    have L3 : ∀ x, fq3 T 1 i = .inl x → (x3 = nI (vl' T (i + 2)) ∧ LC' (fl2 T N 0 99 i l) m3) := fun x hx => by
      obtain ⟨z, z1, _, _, _, z2, z3⟩ := c4 x hx
      have z1 : fq2 T 1 i = .inl z := z1
      have := (fq_at.2.1 z1).2.2
      subst this
      exact ⟨z2, z3⟩
    obtain ⟨x4, m4, d1, d2, d3, d4⟩ := int_c (d := d + 13) (lo := 0) (hi := 999) (x1 := 0) (x2 := 999) hV T3 (QSc.n c2 (by omega)) (l := fl2 T N 0 99 i l) (fun x hx => (L3 x hx).2.n (by omega)) rfl rfl (by decide) (by decide)
    have k5 : Kz (fun a k => (a = q ∧ k = 2) ∨ (a = q + 4 ∧ k = n)) (fun _ => False) m4 (sI (sI m4 (q + 4) n x4) q 2 (nI (n + 1))) := Kz.trans (Kz.sI (by omega)) (Kz.sI (by omega))
    have Q5 : QSc M T (fq4 T 1 i) (sI (sI m4 (q + 4) n x4) q 2 (nI (n + 1))) := QSc.n (QSc.n d2 (by omega)) (by omega)
    have T5 : TC M T (sI (sI m4 (q + 4) n x4) q 2 (nI (n + 1))) := ((T3.kc d3).n (by omega) (by omega)).n (by omega) (by omega)
    obtain ⟨m6, e1, e2, e3⟩ := accQ (d := d + 15) (k := 23) hV T5 (by decide) (by decide) Q5
    have wide : ∀ {x y : Mem}, KC x y → Kz (tfC q 2 3 4 n) (fun a => a = 8) x y := fun z => z.mono (fun a k q => by unfold laC at q; unfold tfC naC; omega) (fun _ q => q.elim)
    have K6 : Kz (tfC q 2 3 4 n) (fun a => a = 8) μ m6 := ((wide a3.c).trans (b3.mono (fun a k q => Or.inl q) (fun _ q => q))).trans ((wide c3).trans (Kz.trans (Kz.sI (by unfold tfC; omega)) ((wide d3).trans ((k5.mono (fun a k q => by unfold tfC; omega) (fun _ q => q.elim)).trans (wide e3.c)))))
    refine ⟨m6, ent (sI (sI m4 (q + 4) n x4) q 2 (nI (n + 1))) m6 (X4_readField_ok ?_) ⟨_, e1⟩, e2, K6, fun j _ hj => ?_⟩
    · rw [hp, hc]
      refine tpos (nI_lt (b := 6) (by omega) (by decide)) ⟨_, m1, a1, m2, b1, x3, m3, c1, ?_⟩
      rw [p2.1, p2.2]
      refine ⟨vp_inN (by omega) (by decide), ?_⟩
      rw [nI_clamp (by omega)]
      rintro μ9 rfl
      refine ⟨x4, m4, d1, ?_⟩
      rw [sI_2, p3.1, sI_n (show q ≠ q + 3 by omega), p3.2]
      refine ⟨vp_inN (by omega) (by decide), ?_⟩
      rw [nI_clamp (by omega)]
      rintro μ13 rfl
      have p4 : m4.2.2 2 1 = q ∧ m4.1 q 2 = nI n := ⟨by rw [d3.2.2, sI_2]; exact p3.1, by rw [d3.at (by unfold laC; omega), sI_n (show q ≠ q + 3 by omega)]; exact p3.2⟩
      rw [sI_2, p4.1, sI_n (show q ≠ q + 4 by omega), p4.2, nI_1]
      rintro μ14 rfl
      rfl
    · obtain ⟨f4, _⟩ := fq_at.2.2.2.2 hj
      obtain ⟨f3, _⟩ := fq_at.2.2.2.1 f4
      obtain ⟨f2, _⟩ := fq_at.2.2.1 f3
      obtain ⟨z, z1, _, _, _, z2, z3⟩ := d4 _ f4
      have z1 : fq3 T 1 i = .inl z := z1
      have := (fq_at.2.2.1 z1).2.2
      subst this
      refine ⟨?_, ?_, ?_, ?_, ?_⟩
      · rw [e3.at (by unfold adv; omega), sI_1]
      · rw [e3.at (by unfold adv; omega), k5.at (by omega), d3.at (by unfold laC; omega), sI_1]
        exact (L3 _ f3).1
      · rw [e3.at (by unfold adv; omega), sI_n (by omega), sI_1]
        exact z2
      · exact ((((((L2 _ f2).1.kc c3).n (by omega)).kc d3).n (by omega)).n (by omega)).kc e3.c
      · exact ((z3.n (by omega)).n (by omega)).ka e3
theorem loom_c {q n i : Nat} {N : List (List Nat)} {l : Lt} {μ : Mem} (hq : 200 < q) (hN : okN N) (hV : TV S M T) (hT : TC M T μ) (h : QSc M T (.inl i) μ) (hk : kd T i = 2) (hC : NC N μ) (hl : LC' l μ) (hn : n ≤ 4) (h10 : n < 4 → N.length < 10) (hp : μ.2.2 2 1 = q) (hc : μ.1 q 3 = nI n) : ∃ μ', X4_readTell (d + 17) μ μ' ∧ QSc M T (if n = 4 then .inr (2, i) else fq5 T 2 i) μ' ∧ Kz (tfC q 3 5 6 n) (fun a => a = 8) μ μ' ∧ ∀ j, n ≠ 4 → fq5 T 2 i = .inl j → μ'.1 q 3 = nI (n + 1) ∧ μ'.1 (q + 5) n = nI (vl' T (i + 2)) ∧ μ'.1 (q + 6) n = nI (vl' T (i + 3)) ∧ NC (N ++ [nm' T (i + 1)]) μ' ∧ LC' (fl3 T N 1 8 0 99 i l) μ' := by
  have ek : μ.1 2 3 = 2 := by rw [h.2.2.2, hk]; rfl
  have ent : ∀ m μ', X4_readLoom (d + 16) μ m → (∃ y, X4_accept (d + 16) 23 m y μ') → X4_readTell (d + 17) μ μ' := fun m μ' z1 z2 => by
    obtain ⟨y, z2⟩ := z2
    refine X4_readTell_ok ?_
    rw [ek]
    exact ⟨fun z => absurd z (by decide), fun z => absurd z (by decide), fun _ => ⟨m, z1, y, μ', z2, rfl⟩, fun z => absurd z (by decide), fun z => absurd z (by decide), fun z => absurd z (by decide), fun z => absurd z (by decide), fun z => absurd z (by decide), fun z => absurd z (by decide), fun z => absurd z (by decide)⟩
  by_cases e6 : n = 4
  · rw [if_pos e6]
    obtain ⟨m1, g1, g2, g3⟩ := blame_c (d := d + 15) (f := 2) hT hV.2.1 h.2.1 h.2.2.1 h.1 (by omega)
    refine ⟨m1, ent m1 m1 (X4_readLoom_ok ?_) ⟨0, accF g2.ne⟩, ⟨h.1, g2⟩, g3.mono (fun a k q => by unfold adv at q; unfold tfC naC; omega) (fun _ q => q.elim), fun j z => absurd e6 z⟩
    rw [hp, hc, e6]
    exact tneg (by decide) ⟨m1, g1, rfl⟩
  · rw [if_neg e6]
    obtain ⟨m1, a1, a2, a3⟩ := accQ (d := d + 14) (k := 2) hV hT (by decide) (by decide) h
    have T1 := hT.kc a3.c
    have CL1 : NC N m1 ∧ LC' l m1 := ⟨hC.kc a3.c, hl.ka a3⟩
    obtain ⟨m2, b1, b2, b3, b4⟩ := name_c (d := d + 13) hN (h10 (by omega)) hV T1 a2 (fun _ _ => CL1)
    have T2 := T1.kn b3
    have L2 : ∀ x, fq2 T 2 i = .inl x → NC (N ++ [nm' T (i + 1)]) m2 ∧ LC' (fl1 T N i l) m2 := fun x hx => by
      obtain ⟨z, z1, _, _, _, z2, z3⟩ := b4 x hx
      have z1 : fq1 T 2 i = .inl z := z1
      have := (fq_at.1 z1).2
      subst this
      exact ⟨z2, z3⟩
    obtain ⟨x3, m3, c1, c2, c3, c4⟩ := int_c (d := d + 13) (lo := 1) (hi := 8) (x1 := 1) (x2 := 8) hV T2 b2 (l := fl1 T N i l) (fun x hx => (L2 x hx).2) rfl rfl (by decide) (by decide)
    have p2 : m2.2.2 2 1 = q ∧ m2.1 q 3 = nI n := ⟨by rw [b3.2.2, a3.2.2]; exact hp, by rw [b3.at (by unfold naC; omega), a3.at (by unfold adv; omega)]; exact hc⟩
    have p3 : m3.2.2 2 1 = q ∧ m3.1 q 3 = nI n := ⟨by rw [c3.2.2]; exact p2.1, by rw [c3.at (by unfold laC; omega)]; exact p2.2⟩
    have T3 := (T2.kc c3).n (a := q + 5) (k := n) (x := x3) (by omega) (by omega)
    have L3 : ∀ x, fq3 T 2 i = .inl x → (x3 = nI (vl' T (i + 2)) ∧ LC' (fl2 T N 1 8 i l) m3) := fun x hx => by
      obtain ⟨z, z1, _, _, _, z2, z3⟩ := c4 x hx
      have z1 : fq2 T 2 i = .inl z := z1
      have := (fq_at.2.1 z1).2.2
      subst this
      exact ⟨z2, z3⟩
    obtain ⟨x4, m4, d1, d2, d3, d4⟩ := int_c (d := d + 13) (lo := 0) (hi := 99) (x1 := 0) (x2 := 99) hV T3 (QSc.n c2 (by omega)) (l := fl2 T N 1 8 i l) (fun x hx => (L3 x hx).2.n (by omega)) rfl rfl (by decide) (by decide)
    have k5 : Kz (fun a k => (a = q ∧ k = 3) ∨ (a = q + 6 ∧ k = n)) (fun _ => False) m4 (sI (sI m4 (q + 6) n x4) q 3 (nI (n + 1))) := Kz.trans (Kz.sI (by omega)) (Kz.sI (by omega))
    have Q5 : QSc M T (fq4 T 2 i) (sI (sI m4 (q + 6) n x4) q 3 (nI (n + 1))) := QSc.n (QSc.n d2 (by omega)) (by omega)
    have T5 : TC M T (sI (sI m4 (q + 6) n x4) q 3 (nI (n + 1))) := ((T3.kc d3).n (by omega) (by omega)).n (by omega) (by omega)
    obtain ⟨m6, e1, e2, e3⟩ := accQ (d := d + 15) (k := 23) hV T5 (by decide) (by decide) Q5
    have wide : ∀ {x y : Mem}, KC x y → Kz (tfC q 3 5 6 n) (fun a => a = 8) x y := fun z => z.mono (fun a k q => by unfold laC at q; unfold tfC naC; omega) (fun _ q => q.elim)
    have K6 : Kz (tfC q 3 5 6 n) (fun a => a = 8) μ m6 := ((wide a3.c).trans (b3.mono (fun a k q => Or.inl q) (fun _ q => q))).trans ((wide c3).trans (Kz.trans (Kz.sI (by unfold tfC; omega)) ((wide d3).trans ((k5.mono (fun a k q => by unfold tfC; omega) (fun _ q => q.elim)).trans (wide e3.c)))))
    refine ⟨m6, ent (sI (sI m4 (q + 6) n x4) q 3 (nI (n + 1))) m6 (X4_readLoom_ok ?_) ⟨_, e1⟩, e2, K6, fun j _ hj => ?_⟩
    · rw [hp, hc]
      refine tpos (nI_lt (b := 4) (by omega) (by decide)) ⟨_, m1, a1, m2, b1, x3, m3, c1, ?_⟩
      rw [p2.1, p2.2]
      refine ⟨vp_inN (by omega) (by decide), ?_⟩
      rw [nI_clamp (by omega)]
      rintro μ9 rfl
      refine ⟨x4, m4, d1, ?_⟩
      rw [sI_2, p3.1, sI_n (show q ≠ q + 5 by omega), p3.2]
      refine ⟨vp_inN (by omega) (by decide), ?_⟩
      rw [nI_clamp (by omega)]
      rintro μ13 rfl
      have p4 : m4.2.2 2 1 = q ∧ m4.1 q 3 = nI n := ⟨by rw [d3.2.2, sI_2]; exact p3.1, by rw [d3.at (by unfold laC; omega), sI_n (show q ≠ q + 5 by omega)]; exact p3.2⟩
      rw [sI_2, p4.1, sI_n (show q ≠ q + 6 by omega), p4.2, nI_1]
      rintro μ14 rfl
      rfl
    · obtain ⟨f4, _⟩ := fq_at.2.2.2.2 hj
      obtain ⟨f3, _⟩ := fq_at.2.2.2.1 f4
      obtain ⟨f2, _⟩ := fq_at.2.2.1 f3
      obtain ⟨z, z1, _, _, _, z2, z3⟩ := d4 _ f4
      have z1 : fq3 T 2 i = .inl z := z1
      have := (fq_at.2.2.1 z1).2.2
      subst this
      refine ⟨?_, ?_, ?_, ?_, ?_⟩
      · rw [e3.at (by unfold adv; omega), sI_1]
      · rw [e3.at (by unfold adv; omega), k5.at (by omega), d3.at (by unfold laC; omega), sI_1]
        exact (L3 _ f3).1
      · rw [e3.at (by unfold adv; omega), sI_n (by omega), sI_1]
        exact z2
      · exact ((((((L2 _ f2).1.kc c3).n (by omega)).kc d3).n (by omega)).n (by omega)).kc e3.c
      · exact ((z3.n (by omega)).n (by omega)).ka e3
theorem field_m {s n i : Nat} {N : List (List Nat)} {l : Lt} {μ : Mem} (hs2 : s < 2) (hN : okN N) (hV : TV S M T) (hT : TM M T μ) (h : QSm M T (.inl i) μ) (hk : kd T i = 1) (hC : NMn N μ) (hl : LM' l μ) (hlo : l.1 ≠ 0 → l.2 < pc' T i) (hn : n ≤ 6) (h10 : n < 6 → N.length < 10) (h19 : μ.1 0 19 = nI s) (hc : μ.1 12 s = nI n) : ∃ μ', X10_tellOne (d + 6) μ μ' ∧ QSm M T (if n = 6 then .inr (2, i) else fq5 T 1 i) μ' ∧ Kz (tfM s 12 13 14 (6 * s + n) n 6) (fun a => a = 8) μ μ' ∧ ∀ j, n ≠ 6 → fq5 T 1 i = .inl j → μ'.1 12 s = nI (n + 1) ∧ μ'.1 13 (6 * s + n) = nI (vl' T (i + 2)) ∧ μ'.1 14 (6 * s + n) = nI (vl' T (i + 3)) ∧ NMn (N ++ [nm' T (i + 1)]) μ' ∧ LM' (fl3 T N 0 99 0 999 i l) μ' := by
  have hm := hV.2.1
  have hi := h.1
  have vs : vp_in (nI s) 2 := vp_inN hs2 (by decide)
  have e3 : μ.1 3 ((μ.1 0 11).toNatClampNeg) = 21 := by rw [h.2.1.2, nI_clamp (by omega), (hT i hi).1, hk]; rfl
  have ent : ∀ μ', (vp_in (μ.1 0 19) 2 ∧ (∃ (μ1 : Mem), X10_roomFor (d + 5) (μ.1 12 ((μ.1 0 19).toNatClampNeg)) 6 μ μ1 ∧ (((μ1.1 0 13) ≠ 0 → X10_tellOne_at285 (d + 5) μ1 μ') ∧ ((μ1.1 0 13) = 0 → (∃ (μ3 : Mem), X10_tellField (d + 5) μ1 μ3 ∧ X10_tellOne_at285 (d + 5) μ3 μ'))))) → X10_tellOne (d + 6) μ μ' := fun μ' z => by
    refine X10_tellOne_ok ⟨by rw [h.2.1.2]; exact vp_inN (by omega) (by decide), ?_⟩
    rw [e3]
    exact ⟨fun y => absurd y (by decide), fun _ => z, fun y => absurd y (by decide), fun y => absurd y (by decide), fun y => absurd y (by decide), fun y => absurd y (by decide), fun y => absurd y (by decide), fun y => absurd y (by decide), fun y => absurd y (by decide), fun y => absurd y (by decide)⟩
  by_cases e6 : n = 6
  · rw [if_pos e6]
    obtain ⟨m1, g1, g2, g3⟩ := fail_m (d := d + 4) (f := 2) (x := 2) hV hT h.2.1 h.1 (by omega) rfl
    refine ⟨m1, ent m1 ⟨by rw [h19]; exact vs, m1, X10_roomFor_ok ?_, tne g2.ne (X10_tellOne_at285_ok rfl)⟩, ⟨h.1, g2⟩, g3.mono (fun a k q => by unfold mvM at q; unfold tfM naM; omega) (fun _ q => q.elim), fun j z => absurd e6 z⟩
    rw [h19, nI_clamp (by omega), hc, e6]
    exact teq rfl ⟨m1, g1, tne g2.ne rfl⟩
  · rw [if_neg e6]
    obtain ⟨m1, a1, a2, a3⟩ := goQ (d := d + 3) hV hT h (by omega)
    rw [hk] at a2
    have a2 : QSm M T (fq1 T 1 i) m1 := a2
    have rf : X10_roomFor (d + 5) (μ.1 12 ((μ.1 0 19).toNatClampNeg)) 6 μ m1 := by
      refine X10_roomFor_ok ?_
      rw [h19, nI_clamp (by omega), hc]
      exact tne (fun z => e6 (nI_inj (b := 6) (by omega) (by decide) z)) (teq h.2.1.1 ⟨m1, a1, rfl⟩)
    have T1 := hT.kc a3.c
    have wide : ∀ {x y : Mem}, KMl x y → Kz (tfM s 12 13 14 (6 * s + n) n 6) (fun a => a = 8) x y := fun z => z.mono (fun a k q => by unfold laM at q; unfold tfM naM; omega) (fun _ q => q.elim)
    have plt : ∀ a b, a < b → b < M → pc' T a < pc' T b := hV.2.2.2.1
    have s1 : m1.1 0 19 = nI s := (a3.at (by unfold mvM; omega)).trans h19
    have c1' : m1.1 12 s = nI n := (a3.at (by unfold mvM; omega)).trans hc
    have lo1 : ∀ x, fq1 T 1 i = .inl x → Lo l 3 (pc' T x) := fun x hx z => by
      have e := (fq_at.1 hx).2
      rw [hx] at a2
      have := plt i x (by omega) a2.1
      have := hlo z
      exact Or.inl (by omega)
    obtain ⟨x2, m2, b1, b2, b3, ⟨t, t1, t2⟩, b4⟩ := named_m (d := d + 1) hN (h10 (by omega)) hV T1 a2 (fun _ _ => ⟨hC.kc a3.c, hl.kv a3⟩) lo1
    subst t2
    have T2 := T1.kc b3
    have N2 : NMn N m2 := (hC.kc a3.c).kc b3
    have L2 : ∀ x, fq2 T 1 i = .inl x → (t = i + 1 ∧ i + 1 < M ∧ kd T (i + 1) = 21) ∧ LM' (fl1 T N i l) m2 := fun x hx => by
      obtain ⟨z, z1, z2, z3⟩ := b4 x hx
      have z1 : fq1 T 1 i = .inl z := z1
      have := (fq_at.1 z1).2
      subst this
      rw [z1] at a2
      exact ⟨⟨nI_inj (by omega) (by have := a2.1; omega) z2, a2.1, (fq_at.2.1 hx).2.1⟩, z3⟩
    have lo2 : ∀ x, fq2 T 1 i = .inl x → Lo (fl1 T N i l) 5 (pc' T x) := fun x hx => by
      have e := (fq_at.2.1 hx)
      have b2 : QSm M T (fq2 T 1 i) m2 := b2
      rw [hx] at b2
      have p := plt (i + 1) x (by omega) b2.1
      have p0 := plt i (i + 1) (by omega) (L2 x hx).1.2.1
      exact ltS_lo (fun z => Or.inl (by have := hlo z; omega)) (Or.inl p) (fun z => Or.inl (by have := hlo z; omega))
    obtain ⟨x3, m3, c1, c2, c3, c4⟩ := int_m (d := d + 2) (lo := 0) (hi := 99) (x1 := 0) (x2 := 99) hV T2 b2 (l := fl1 T N i l) (fun x hx => (L2 x hx).2) lo2 rfl rfl (by decide) (by decide)
    have L3 : ∀ x, fq3 T 1 i = .inl x → (x3 = nI (vl' T (i + 2)) ∧ LM' (fl2 T N 0 99 i l) m3) := fun x hx => by
      obtain ⟨z, z1, z2, z3⟩ := c4 x hx
      have z1 : fq2 T 1 i = .inl z := z1
      have := (fq_at.2.1 z1).2.2
      subst this
      exact ⟨z2, z3⟩
    have lo3 : ∀ x, fq3 T 1 i = .inl x → Lo (fl2 T N 0 99 i l) 5 (pc' T x) := fun x hx => by
      have e := (fq_at.2.2.1 hx)
      have c2 : QSm M T (fq3 T 1 i) m3 := c2
      rw [hx] at c2
      have p := plt (i + 2) x (by omega) c2.1
      have q2 := lo2 _ e.1
      refine ltS_lo q2 (Or.inl p) (fun z => ?_)
      rcases q2 z with y | y
      · exact Or.inl (by omega)
      · exact Or.inl (by omega)
    have Q3 : QSm M T (fq3 T 1 i) (sI m3 13 (6 * s + n) x3) := QSm.n c2 (by decide)
    have T3 : TM M T (sI m3 13 (6 * s + n) x3) := (T2.kc c3).n (by decide) (by decide) (by decide)
    obtain ⟨x4, m4, d1, d2, d3, d4⟩ := int_m (d := d + 2) (lo := 0) (hi := 999) (x1 := 0) (x2 := 999) hV T3 Q3 (l := fl2 T N 0 99 i l) (fun x hx => (L3 x hx).2.n (by decide)) lo3 rfl rfl (by decide) (by decide)
    have L4 : ∀ x, fq4 T 1 i = .inl x → (x4 = nI (vl' T (i + 3)) ∧ LM' (fl3 T N 0 99 0 999 i l) m4) := fun x hx => by
      obtain ⟨z, z1, z2, z3⟩ := d4 x hx
      have z1 : fq3 T 1 i = .inl z := z1
      have := (fq_at.2.2.1 z1).2.2
      subst this
      exact ⟨z2, z3⟩
    have Q5 : QSm M T (fq4 T 1 i) (sI m4 14 (6 * s + n) x4) := QSm.n d2 (by decide)
    have T5 : TM M T (sI m4 14 (6 * s + n) x4) := (T3.kc d3).n (by decide) (by decide) (by decide)
    have N5 : NMn N (sI m4 14 (6 * s + n) x4) := (((N2.kc c3).n (a := 13) (k := 6 * s + n) (x := x3) (by decide)).kc d3).n (by decide)
    obtain ⟨m6, f1, f2, f3, f4, f5⟩ := ends_m (d := d + 1) (t := t) (show N.length < 10 from h10 (by omega)) hV T5 Q5 (fun _ _ => N5) t1
    have s6 : m6.1 0 19 = nI s := by rw [f3.at (by unfold naM; omega), sI_n (by decide), d3.at (by unfold laM; omega), sI_n (by decide), c3.at (by unfold laM; omega), b3.at (by unfold laM; omega)]; exact s1
    have c6 : m6.1 12 s = nI n := by rw [f3.at (by unfold naM; omega), sI_n (by decide), d3.at (by unfold laM; omega), sI_n (by decide), c3.at (by unfold laM; omega), b3.at (by unfold laM; omega)]; exact c1'
    have vi : vp_in (nI (6 * s + n)) 12 := vp_inN (by omega) (by decide)
    have ix : (6 * (nI s : Int32)) + nI n = nI (6 * s + n) := by
      rw [show (6 : Int32) = nI 6 from rfl, nI_mul, nJ_add]
    have K6 : Kz (tfM s 12 13 14 (6 * s + n) n 6) (fun a => a = 8) μ m6 := ((wide a3.c).trans (wide b3)).trans ((wide c3).trans (Kz.trans (Kz.sI (by unfold tfM; omega)) ((wide d3).trans (Kz.trans (Kz.sI (by unfold tfM; omega)) (f3.mono (fun a k q => Or.inl q) (fun _ q => q))))))
    -- from tellField's first word to its last
    have run : ∀ μ', ((((m6.1 0 13) ≠ 0 → μ' = m6) ∧ ((m6.1 0 13) = 0 → vp_in (m6.1 0 19) 2 ∧ vp_in (m6.1 0 19) 2 ∧ (∀ μ14 : Mem, μ14 = sI m6 12 ((m6.1 0 19).toNatClampNeg) ((m6.1 12 ((m6.1 0 19).toNatClampNeg)) + 1) → μ' = μ14)))) → X10_tellField (d + 5) m1 μ' := fun μ' z => by
      refine X10_tellField_ok ⟨by rw [s1]; exact vs, nI t, m2, b1, x3, m3, c1, ?_⟩
      rw [s1, nI_clamp (by omega), c1', ix]
      refine ⟨vi, ?_⟩
      rw [nI_clamp (by omega)]
      rintro μ7 rfl
      refine ⟨x4, m4, d1, vi, ?_⟩
      rintro μ11 rfl
      exact ⟨m6, f1, z⟩
    have s0 : vp_in (μ.1 0 19) 2 := by rw [h19]; exact vs
    -- a fault at the first word ends it there
    have ent2 : ∀ μ', (∀ e, fq1 T 1 i = .inr e → μ' = m1) → (∀ x, fq1 T 1 i = .inl x → X10_tellField (d + 5) m1 μ') → X10_tellOne (d + 6) μ μ' := fun μ' z1 z2 => by
      cases hq1 : fq1 T 1 i with
      | inr e =>
        have a2' := a2
        rw [hq1] at a2'
        have := z1 e hq1
        subst this
        exact ent _ ⟨s0, _, rf, tne a2'.2.ne (X10_tellOne_at285_ok rfl)⟩
      | inl x =>
        have a2' := a2
        rw [hq1] at a2'
        exact ent _ ⟨s0, _, rf, teq a2'.2.1.1 ⟨μ', z2 x hq1, X10_tellOne_at285_ok rfl⟩⟩
    cases hq1 : fq1 T 1 i with
    | inr e =>
      have e5 : fq5 T 1 i = .inr e := by unfold fq5 fq4 fq3 fq2; rw [hq1]; rfl
      refine ⟨m1, ent2 m1 (fun _ _ => rfl) (fun x hx => by rw [hq1] at hx; cases hx), ?_, wide a3.c, fun j _ hj => by rw [e5] at hj; cases hj⟩
      rw [e5, ← hq1]; exact a2
    | inl x1 =>
      cases hq5 : fq5 T 1 i with
      | inr e =>
        have f2 : QSm M T (fq5 T 1 i) m6 := f2
        rw [hq5] at f2
        exact ⟨m6, ent2 m6 (fun e he => by rw [hq1] at he; cases he) (fun x hx => run m6 (tne f2.2.ne rfl)), f2, K6, fun j _ hj => by cases hj⟩
      | inl j =>
        have f2 : QSm M T (fq5 T 1 i) m6 := f2
        rw [hq5] at f2
        obtain ⟨y4, _⟩ := fq_at.2.2.2.2 hq5
        obtain ⟨y3, _⟩ := fq_at.2.2.2.1 y4
        obtain ⟨y2, _⟩ := fq_at.2.2.1 y3
        obtain ⟨⟨w1, w2, w3⟩, _⟩ := L2 _ y2
        subst w1
        refine ⟨sI m6 12 s (nI (n + 1)), ent2 _ (fun e he => by rw [hq1] at he; cases he) (fun x hx => run _ (teq f2.2.1.1 ?_)), QSm.n f2 (by decide), K6.trans (Kz.sI (by unfold tfM; omega)), fun j' _ hj => ⟨sI_1, ?_, ?_, ?_, ?_⟩⟩
        · rw [s6, nI_clamp (by omega), c6, nI_1]
          refine ⟨vs, vs, ?_⟩
          rintro μ14 rfl
          rfl
        · rw [sI_n (by decide), f3.at (by unfold naM; omega), sI_n (by decide), d3.at (by unfold laM; omega), sI_1]
          exact (L3 _ y3).1
        · rw [sI_n (by decide), f3.at (by unfold naM; omega), sI_1]
          exact (L4 _ y4).1
        · exact (f5 j hq5 w2 w3).n (by decide)
        · have z := (L4 _ y4).2.n (a := 14) (k := 6 * s + n) (x := x4) (by decide)
          exact LM'.n ⟨z.1, f4.1.trans z.2.1, fun y => f4.2.trans (z.2.2 y)⟩ (by decide)
theorem loom_m {s n i : Nat} {N : List (List Nat)} {l : Lt} {μ : Mem} (hs2 : s < 2) (hN : okN N) (hV : TV S M T) (hT : TM M T μ) (h : QSm M T (.inl i) μ) (hk : kd T i = 2) (hC : NMn N μ) (hl : LM' l μ) (hlo : l.1 ≠ 0 → l.2 < pc' T i) (hn : n ≤ 4) (h10 : n < 4 → N.length < 10) (h19 : μ.1 0 19 = nI s) (hc : μ.1 15 s = nI n) : ∃ μ', X10_tellOne (d + 6) μ μ' ∧ QSm M T (if n = 4 then .inr (2, i) else fq5 T 2 i) μ' ∧ Kz (tfM s 15 16 17 (4 * s + n) n 4) (fun a => a = 8) μ μ' ∧ ∀ j, n ≠ 4 → fq5 T 2 i = .inl j → μ'.1 15 s = nI (n + 1) ∧ μ'.1 16 (4 * s + n) = nI (vl' T (i + 2)) ∧ μ'.1 17 (4 * s + n) = nI (vl' T (i + 3)) ∧ NMn (N ++ [nm' T (i + 1)]) μ' ∧ LM' (fl3 T N 1 8 0 99 i l) μ' := by
  have hm := hV.2.1
  have hi := h.1
  have vs : vp_in (nI s) 2 := vp_inN hs2 (by decide)
  have e3 : μ.1 3 ((μ.1 0 11).toNatClampNeg) = 22 := by rw [h.2.1.2, nI_clamp (by omega), (hT i hi).1, hk]; rfl
  have ent : ∀ μ', (vp_in (μ.1 0 19) 2 ∧ (∃ (μ1 : Mem), X10_roomFor (d + 5) (μ.1 15 ((μ.1 0 19).toNatClampNeg)) 4 μ μ1 ∧ (((μ1.1 0 13) ≠ 0 → X10_tellOne_at285 (d + 5) μ1 μ') ∧ ((μ1.1 0 13) = 0 → (∃ (μ3 : Mem), X10_tellLoom (d + 5) μ1 μ3 ∧ X10_tellOne_at285 (d + 5) μ3 μ'))))) → X10_tellOne (d + 6) μ μ' := fun μ' z => by
    refine X10_tellOne_ok ⟨by rw [h.2.1.2]; exact vp_inN (by omega) (by decide), ?_⟩
    rw [e3]
    exact ⟨fun y => absurd y (by decide), fun y => absurd y (by decide), fun _ => z, fun y => absurd y (by decide), fun y => absurd y (by decide), fun y => absurd y (by decide), fun y => absurd y (by decide), fun y => absurd y (by decide), fun y => absurd y (by decide), fun y => absurd y (by decide)⟩
  by_cases e6 : n = 4
  · rw [if_pos e6]
    obtain ⟨m1, g1, g2, g3⟩ := fail_m (d := d + 4) (f := 2) (x := 2) hV hT h.2.1 h.1 (by omega) rfl
    refine ⟨m1, ent m1 ⟨by rw [h19]; exact vs, m1, X10_roomFor_ok ?_, tne g2.ne (X10_tellOne_at285_ok rfl)⟩, ⟨h.1, g2⟩, g3.mono (fun a k q => by unfold mvM at q; unfold tfM naM; omega) (fun _ q => q.elim), fun j z => absurd e6 z⟩
    rw [h19, nI_clamp (by omega), hc, e6]
    exact teq rfl ⟨m1, g1, tne g2.ne rfl⟩
  · rw [if_neg e6]
    obtain ⟨m1, a1, a2, a3⟩ := goQ (d := d + 3) hV hT h (by omega)
    rw [hk] at a2
    have a2 : QSm M T (fq1 T 2 i) m1 := a2
    have rf : X10_roomFor (d + 5) (μ.1 15 ((μ.1 0 19).toNatClampNeg)) 4 μ m1 := by
      refine X10_roomFor_ok ?_
      rw [h19, nI_clamp (by omega), hc]
      exact tne (fun z => e6 (nI_inj (b := 4) (by omega) (by decide) z)) (teq h.2.1.1 ⟨m1, a1, rfl⟩)
    have T1 := hT.kc a3.c
    have wide : ∀ {x y : Mem}, KMl x y → Kz (tfM s 15 16 17 (4 * s + n) n 4) (fun a => a = 8) x y := fun z => z.mono (fun a k q => by unfold laM at q; unfold tfM naM; omega) (fun _ q => q.elim)
    have plt : ∀ a b, a < b → b < M → pc' T a < pc' T b := hV.2.2.2.1
    have s1 : m1.1 0 19 = nI s := (a3.at (by unfold mvM; omega)).trans h19
    have c1' : m1.1 15 s = nI n := (a3.at (by unfold mvM; omega)).trans hc
    have lo1 : ∀ x, fq1 T 2 i = .inl x → Lo l 3 (pc' T x) := fun x hx z => by
      have e := (fq_at.1 hx).2
      rw [hx] at a2
      have := plt i x (by omega) a2.1
      have := hlo z
      exact Or.inl (by omega)
    obtain ⟨x2, m2, b1, b2, b3, ⟨t, t1, t2⟩, b4⟩ := named_m (d := d + 1) hN (h10 (by omega)) hV T1 a2 (fun _ _ => ⟨hC.kc a3.c, hl.kv a3⟩) lo1
    subst t2
    have T2 := T1.kc b3
    have N2 : NMn N m2 := (hC.kc a3.c).kc b3
    have L2 : ∀ x, fq2 T 2 i = .inl x → (t = i + 1 ∧ i + 1 < M ∧ kd T (i + 1) = 21) ∧ LM' (fl1 T N i l) m2 := fun x hx => by
      obtain ⟨z, z1, z2, z3⟩ := b4 x hx
      have z1 : fq1 T 2 i = .inl z := z1
      have := (fq_at.1 z1).2
      subst this
      rw [z1] at a2
      exact ⟨⟨nI_inj (by omega) (by have := a2.1; omega) z2, a2.1, (fq_at.2.1 hx).2.1⟩, z3⟩
    have lo2 : ∀ x, fq2 T 2 i = .inl x → Lo (fl1 T N i l) 5 (pc' T x) := fun x hx => by
      have e := (fq_at.2.1 hx)
      have b2 : QSm M T (fq2 T 2 i) m2 := b2
      rw [hx] at b2
      have p := plt (i + 1) x (by omega) b2.1
      have p0 := plt i (i + 1) (by omega) (L2 x hx).1.2.1
      exact ltS_lo (fun z => Or.inl (by have := hlo z; omega)) (Or.inl p) (fun z => Or.inl (by have := hlo z; omega))
    obtain ⟨x3, m3, c1, c2, c3, c4⟩ := int_m (d := d + 2) (lo := 1) (hi := 8) (x1 := 1) (x2 := 8) hV T2 b2 (l := fl1 T N i l) (fun x hx => (L2 x hx).2) lo2 rfl rfl (by decide) (by decide)
    have L3 : ∀ x, fq3 T 2 i = .inl x → (x3 = nI (vl' T (i + 2)) ∧ LM' (fl2 T N 1 8 i l) m3) := fun x hx => by
      obtain ⟨z, z1, z2, z3⟩ := c4 x hx
      have z1 : fq2 T 2 i = .inl z := z1
      have := (fq_at.2.1 z1).2.2
      subst this
      exact ⟨z2, z3⟩
    have lo3 : ∀ x, fq3 T 2 i = .inl x → Lo (fl2 T N 1 8 i l) 5 (pc' T x) := fun x hx => by
      have e := (fq_at.2.2.1 hx)
      have c2 : QSm M T (fq3 T 2 i) m3 := c2
      rw [hx] at c2
      have p := plt (i + 2) x (by omega) c2.1
      have q2 := lo2 _ e.1
      refine ltS_lo q2 (Or.inl p) (fun z => ?_)
      rcases q2 z with y | y
      · exact Or.inl (by omega)
      · exact Or.inl (by omega)
    have Q3 : QSm M T (fq3 T 2 i) (sI m3 16 (4 * s + n) x3) := QSm.n c2 (by decide)
    have T3 : TM M T (sI m3 16 (4 * s + n) x3) := (T2.kc c3).n (by decide) (by decide) (by decide)
    obtain ⟨x4, m4, d1, d2, d3, d4⟩ := int_m (d := d + 2) (lo := 0) (hi := 99) (x1 := 0) (x2 := 99) hV T3 Q3 (l := fl2 T N 1 8 i l) (fun x hx => (L3 x hx).2.n (by decide)) lo3 rfl rfl (by decide) (by decide)
    have L4 : ∀ x, fq4 T 2 i = .inl x → (x4 = nI (vl' T (i + 3)) ∧ LM' (fl3 T N 1 8 0 99 i l) m4) := fun x hx => by
      obtain ⟨z, z1, z2, z3⟩ := d4 x hx
      have z1 : fq3 T 2 i = .inl z := z1
      have := (fq_at.2.2.1 z1).2.2
      subst this
      exact ⟨z2, z3⟩
    have Q5 : QSm M T (fq4 T 2 i) (sI m4 17 (4 * s + n) x4) := QSm.n d2 (by decide)
    have T5 : TM M T (sI m4 17 (4 * s + n) x4) := (T3.kc d3).n (by decide) (by decide) (by decide)
    have N5 : NMn N (sI m4 17 (4 * s + n) x4) := (((N2.kc c3).n (a := 16) (k := 4 * s + n) (x := x3) (by decide)).kc d3).n (by decide)
    obtain ⟨m6, f1, f2, f3, f4, f5⟩ := ends_m (d := d + 1) (t := t) (show N.length < 10 from h10 (by omega)) hV T5 Q5 (fun _ _ => N5) t1
    have s6 : m6.1 0 19 = nI s := by rw [f3.at (by unfold naM; omega), sI_n (by decide), d3.at (by unfold laM; omega), sI_n (by decide), c3.at (by unfold laM; omega), b3.at (by unfold laM; omega)]; exact s1
    have c6 : m6.1 15 s = nI n := by rw [f3.at (by unfold naM; omega), sI_n (by decide), d3.at (by unfold laM; omega), sI_n (by decide), c3.at (by unfold laM; omega), b3.at (by unfold laM; omega)]; exact c1'
    have vi : vp_in (nI (4 * s + n)) 8 := vp_inN (by omega) (by decide)
    have ix : (4 * (nI s : Int32)) + nI n = nI (4 * s + n) := by
      rw [show (4 : Int32) = nI 4 from rfl, nI_mul, nJ_add]
    have K6 : Kz (tfM s 15 16 17 (4 * s + n) n 4) (fun a => a = 8) μ m6 := ((wide a3.c).trans (wide b3)).trans ((wide c3).trans (Kz.trans (Kz.sI (by unfold tfM; omega)) ((wide d3).trans (Kz.trans (Kz.sI (by unfold tfM; omega)) (f3.mono (fun a k q => Or.inl q) (fun _ q => q))))))
    -- from tellField's first word to its last
    have run : ∀ μ', ((((m6.1 0 13) ≠ 0 → μ' = m6) ∧ ((m6.1 0 13) = 0 → vp_in (m6.1 0 19) 2 ∧ vp_in (m6.1 0 19) 2 ∧ (∀ μ14 : Mem, μ14 = sI m6 15 ((m6.1 0 19).toNatClampNeg) ((m6.1 15 ((m6.1 0 19).toNatClampNeg)) + 1) → μ' = μ14)))) → X10_tellLoom (d + 5) m1 μ' := fun μ' z => by
      refine X10_tellLoom_ok ⟨by rw [s1]; exact vs, nI t, m2, b1, x3, m3, c1, ?_⟩
      rw [s1, nI_clamp (by omega), c1', ix]
      refine ⟨vi, ?_⟩
      rw [nI_clamp (by omega)]
      rintro μ7 rfl
      refine ⟨x4, m4, d1, vi, ?_⟩
      rintro μ11 rfl
      exact ⟨m6, f1, z⟩
    have s0 : vp_in (μ.1 0 19) 2 := by rw [h19]; exact vs
    -- a fault at the first word ends it there
    have ent2 : ∀ μ', (∀ e, fq1 T 2 i = .inr e → μ' = m1) → (∀ x, fq1 T 2 i = .inl x → X10_tellLoom (d + 5) m1 μ') → X10_tellOne (d + 6) μ μ' := fun μ' z1 z2 => by
      cases hq1 : fq1 T 2 i with
      | inr e =>
        have a2' := a2
        rw [hq1] at a2'
        have := z1 e hq1
        subst this
        exact ent _ ⟨s0, _, rf, tne a2'.2.ne (X10_tellOne_at285_ok rfl)⟩
      | inl x =>
        have a2' := a2
        rw [hq1] at a2'
        exact ent _ ⟨s0, _, rf, teq a2'.2.1.1 ⟨μ', z2 x hq1, X10_tellOne_at285_ok rfl⟩⟩
    cases hq1 : fq1 T 2 i with
    | inr e =>
      have e5 : fq5 T 2 i = .inr e := by unfold fq5 fq4 fq3 fq2; rw [hq1]; rfl
      refine ⟨m1, ent2 m1 (fun _ _ => rfl) (fun x hx => by rw [hq1] at hx; cases hx), ?_, wide a3.c, fun j _ hj => by rw [e5] at hj; cases hj⟩
      rw [e5, ← hq1]; exact a2
    | inl x1 =>
      cases hq5 : fq5 T 2 i with
      | inr e =>
        have f2 : QSm M T (fq5 T 2 i) m6 := f2
        rw [hq5] at f2
        exact ⟨m6, ent2 m6 (fun e he => by rw [hq1] at he; cases he) (fun x hx => run m6 (tne f2.2.ne rfl)), f2, K6, fun j _ hj => by cases hj⟩
      | inl j =>
        have f2 : QSm M T (fq5 T 2 i) m6 := f2
        rw [hq5] at f2
        obtain ⟨y4, _⟩ := fq_at.2.2.2.2 hq5
        obtain ⟨y3, _⟩ := fq_at.2.2.2.1 y4
        obtain ⟨y2, _⟩ := fq_at.2.2.1 y3
        obtain ⟨⟨w1, w2, w3⟩, _⟩ := L2 _ y2
        subst w1
        refine ⟨sI m6 15 s (nI (n + 1)), ent2 _ (fun e he => by rw [hq1] at he; cases he) (fun x hx => run _ (teq f2.2.1.1 ?_)), QSm.n f2 (by decide), K6.trans (Kz.sI (by unfold tfM; omega)), fun j' _ hj => ⟨sI_1, ?_, ?_, ?_, ?_⟩⟩
        · rw [s6, nI_clamp (by omega), c6, nI_1]
          refine ⟨vs, vs, ?_⟩
          rintro μ14 rfl
          rfl
        · rw [sI_n (by decide), f3.at (by unfold naM; omega), sI_n (by decide), d3.at (by unfold laM; omega), sI_1]
          exact (L3 _ y3).1
        · rw [sI_n (by decide), f3.at (by unfold naM; omega), sI_1]
          exact (L4 _ y4).1
        · exact (f5 j hq5 w2 w3).n (by decide)
        · have z := (L4 _ y4).2.n (a := 17) (k := 4 * s + n) (x := x4) (by decide)
          exact LM'.n ⟨z.1, f4.1.trans z.2.1, fun y => f4.2.trans (z.2.2 y)⟩ (by decide)
end
end Rd
