/-! ===== read: numbers, LAWs and what is no tell, both sides ===== -/
section Rd
variable {d : Nat}
section
variable {S M : Nat} {T : Nat → Tk}
def nq1 (T : Nat → Tk) (k i : Nat) : Qs := acq T k (.inl i)
def nq2 (T : Nat → Tk) (k i : Nat) : Qs := acq T 22 (nq1 T k i)
def nq3 (T : Nat → Tk) (k i : Nat) : Qs := acq T 23 (nq2 T k i)
theorem nq_at {k i j : Nat} : (nq1 T k i = .inl j → j = i + 1) ∧ (nq2 T k i = .inl j → nq1 T k i = .inl (i + 1) ∧ kd T (i + 1) = 22 ∧ j = i + 2) ∧ (nq3 T k i = .inl j → nq2 T k i = .inl (i + 2) ∧ j = i + 3) := by
  have h1 : ∀ {j}, nq1 T k i = .inl j → j = i + 1 := fun {j} h => by
    obtain ⟨x, e1, e2, _, e3⟩ := acq_inl h
    cases e1
    exact e3
  have h2 : ∀ {j}, nq2 T k i = .inl j → nq1 T k i = .inl (i + 1) ∧ kd T (i + 1) = 22 ∧ j = i + 2 := fun {j} h => by
    obtain ⟨x, e1, e2, _, e3⟩ := acq_inl h
    have := h1 e1
    subst this
    exact ⟨e1, e2, e3⟩
  refine ⟨h1, h2, fun h => ?_⟩
  obtain ⟨x, e1, e2, _, e3⟩ := acq_inl h
  have := (h2 e1).2.2
  subst this
  exact ⟨e1, e3⟩
def nuC (q c a k : Nat) : Prop := laC a k ∨ (a = q ∧ k = c)
def nuM (s c a k : Nat) : Prop := laM a k ∨ (a = c ∧ k = s)
/-- an E never goes back -/
theorem parE_le : ∀ (f dep i : Nat) (b : Bool) (s p : Nat) (cs : List Cd) (j : Nat), parE T f dep i b s p = .inl (cs, j) → i ≤ j
  | 0, _, _, _, _, _, _, _, h => by cases h
  | f + 1, dep, i, false, s, p, cs, j, h => by
    rw [parE] at h
    by_cases k30 : kd T i = 30
    · rw [if_pos k30] at h
      by_cases d6 : 6 ≤ dep
      · rw [if_pos d6] at h; cases h
      · rw [if_neg d6] at h
        by_cases i4 : i = 400
        · rw [if_pos i4] at h; cases h
        · rw [if_neg i4] at h
          cases hq : parE T f (dep + 1) (i + 1) true 0 0 with
          | inr x => rw [hq] at h; cases h
          | inl q =>
            obtain ⟨c', j'⟩ := q
            rw [hq] at h
            have := parE_le f (dep + 1) (i + 1) true 0 0 c' j' hq
            dsimp only at h
            by_cases k31 : kd T j' = 31
            · rw [if_pos k31] at h
              by_cases j4 : j' = 400
              · rw [if_pos j4] at h; cases h
              · rw [if_neg j4] at h; cases h; omega
            · rw [if_neg k31] at h; cases h
    · rw [if_neg k30] at h
      by_cases kv : 12 ≤ kd T i ∧ kd T i ≤ 20
      · rw [if_pos kv] at h
        by_cases i4 : i = 400
        · rw [if_pos i4] at h; cases h
        · rw [if_neg i4] at h; cases h; omega
      · rw [if_neg kv] at h
        by_cases k22 : kd T i = 22
        · rw [if_pos k22] at h
          by_cases i4 : i = 400
          · rw [if_pos i4] at h; cases h
          · rw [if_neg i4] at h; cases h; omega
        · rw [if_neg k22] at h; cases h
  | f + 1, dep, i, true, s, p, cs, j, h => by
    rw [parE] at h
    cases hq : parE T f dep i false 0 0 with
    | inr x => rw [hq] at h; cases h
    | inl q =>
      obtain ⟨c1, j1⟩ := q
      rw [hq] at h
      have l1 := parE_le f dep i false 0 0 c1 j1 hq
      dsimp only at h
      by_cases kp : kd T j1 = 27 ∨ kd T j1 = 28
      · rw [if_pos kp] at h
        by_cases j4 : j1 = 400
        · rw [if_pos j4] at h; cases h
        · rw [if_neg j4] at h
          cases hr : parE T f dep (j1 + 1) true s (kd T j1 - 23) with
          | inr x => rw [hr] at h; cases h
          | inl r =>
            obtain ⟨c2, j2⟩ := r
            rw [hr] at h
            cases h
            have := parE_le f dep (j1 + 1) true s (kd T j1 - 23) c2 j2 hr
            show i ≤ j2
            omega
      · rw [if_neg kp] at h
        by_cases ks : kd T j1 = 25 ∨ kd T j1 = 26
        · rw [if_pos ks] at h
          by_cases j4 : j1 = 400
          · rw [if_pos j4] at h; cases h
          · rw [if_neg j4] at h
            cases hr : parE T f dep (j1 + 1) true (kd T j1 - 23) 0 with
            | inr x => rw [hr] at h; cases h
            | inl r =>
              obtain ⟨c2, j2⟩ := r
              rw [hr] at h
              cases h
              have := parE_le f dep (j1 + 1) true (kd T j1 - 23) 0 c2 j2 hr
              show i ≤ j2
              omega
        · rw [if_neg ks] at h
          cases h
          exact l1
theorem stor_c {q i : Nat} {l : Lt} {μ : Mem} (hq : 200 < q) (hV : TV S M T) (hT : TC M T μ) (h : QSc M T (.inl i) μ) (hk : kd T i = 6) (hl : LC' l μ) (hp : μ.2.2 2 1 = q) : ∃ μ', X4_readTell (d + 17) μ μ' ∧ QSc M T (nq3 T 6 i) μ' ∧ Kz (nuC q 4) (fun _ => False) μ μ' ∧ ∀ j, nq3 T 6 i = .inl j → μ'.1 q 4 = nI (vl' T (i + 1)) ∧ LC' (ltS (outR 0 9999 (vl' T (i + 1))) 5 (pc' T (i + 1)) l) μ' := by
  have ek : μ.1 2 3 = 6 := by rw [h.2.2.2, hk]; rfl
  obtain ⟨m1, a1, a2, a3⟩ := accQ (d := d + 15) (k := 6) hV hT (by decide) (by decide) h
  have T1 := hT.kc a3.c
  obtain ⟨x2, m2, b1, b2, b3, b4⟩ := int_c (d := d + 14) (lo := 0) (hi := 9999) (x1 := 0) (x2 := 9999) hV T1 a2 (l := l) (fun _ _ => hl.ka a3) rfl rfl (by decide) (by decide)
  have Q3 : QSc M T (nq2 T 6 i) (sI m2 q 4 x2) := QSc.n b2 (by omega)
  have T3 : TC M T (sI m2 q 4 x2) := (T1.kc b3).n (by omega) (by omega)
  obtain ⟨m4, c1, c2, c3⟩ := accQ (d := d + 15) (k := 23) hV T3 (by decide) (by decide) Q3
  have wide : ∀ {x y : Mem}, KC x y → Kz (nuC q 4) (fun _ => False) x y := fun z => z.mono (fun a k q => Or.inl q) (fun _ q => q)
  refine ⟨m4, X4_readTell_ok ?_, c2, (wide a3.c).trans ((wide b3).trans (Kz.trans (Kz.sI (by unfold nuC; omega)) (wide c3.c))), fun j hj => ?_⟩
  · rw [ek]
    have fin : (∃ (y33 : Int32) (μ31 : Mem), X4_accept (d + 16) 6 μ y33 μ31 ∧ (∃ (y36 : Int32) (μ34 : Mem), X4_readInt (d + 16) 0 9999 μ31 y36 μ34 ∧ (∀ μ37 : Mem, μ37 = sI μ34 (μ31.2.2 2 1) 4 y36 → (∃ (y40 : Int32) (μ38 : Mem), X4_accept (d + 16) 23 μ37 y40 μ38 ∧ m4 = μ38)))) := by
      refine ⟨_, m1, a1, x2, m2, b1, ?_⟩
      rw [a3.2.2, hp]
      rintro μ37 rfl
      exact ⟨_, m4, c1, rfl⟩
    exact ⟨fun y => absurd y (by decide), fun y => absurd y (by decide), fun y => absurd y (by decide), fun y => absurd y (by decide), fun y => absurd y (by decide), fun y => absurd y (by decide), fun _ => fin, fun y => absurd y (by decide), fun y => absurd y (by decide), fun y => absurd y (by decide)⟩
  · obtain ⟨f2, _⟩ := nq_at.2.2 hj
    obtain ⟨z, z1, _, _, _, z2, z3⟩ := b4 _ f2
    have z1 : nq1 T 6 i = .inl z := z1
    have := nq_at.1 z1
    subst this
    exact ⟨by rw [c3.at (by unfold adv; omega), sI_1]; exact z2, (z3.n (by omega)).ka c3⟩
theorem stor_m {s i : Nat} {l : Lt} {μ : Mem} (hs2 : s < 2) (hV : TV S M T) (hT : TM M T μ) (h : QSm M T (.inl i) μ) (hk : kd T i = 6) (hl : LM' l μ) (hlo : l.1 ≠ 0 → l.2 < pc' T i) (h19 : μ.1 0 19 = nI s) : ∃ μ', X10_tellOne (d + 6) μ μ' ∧ QSm M T (nq3 T 6 i) μ' ∧ Kz (nuM s 18) (fun _ => False) μ μ' ∧ ∀ j, nq3 T 6 i = .inl j → μ'.1 18 s = nI (vl' T (i + 1)) ∧ LM' (ltS (outR 0 9999 (vl' T (i + 1))) 5 (pc' T (i + 1)) l) μ' := by
  have hm := hV.2.1
  have hi := h.1
  have e3 : μ.1 3 ((μ.1 0 11).toNatClampNeg) = 26 := by rw [h.2.1.2, nI_clamp (by omega), (hT i hi).1, hk]; rfl
  obtain ⟨m1, a1, a2, a3⟩ := goQ (d := d + 4) hV hT h (by omega)
  rw [hk] at a2
  have a2 : QSm M T (nq1 T 6 i) m1 := a2
  have T1 := hT.kc a3.c
  have lo1 : ∀ x, nq1 T 6 i = .inl x → Lo l 5 (pc' T x) := fun x hx z => by
    have e := nq_at.1 hx
    rw [hx] at a2
    have := hV.2.2.2.1 i x (by omega) a2.1
    have := hlo z
    exact Or.inl (by omega)
  obtain ⟨x2, m2, b1, b2, b3, b4⟩ := int_m (d := d + 3) (lo := 0) (hi := 9999) (x1 := 0) (x2 := 9999) hV T1 a2 (l := l) (fun _ _ => hl.kv a3) lo1 rfl rfl (by decide) (by decide)
  have Q3 : QSm M T (nq2 T 6 i) (sI m2 18 s x2) := QSm.n b2 (by decide)
  have T3 : TM M T (sI m2 18 s x2) := (T1.kc b3).n (by decide) (by decide) (by decide)
  obtain ⟨m4, c1, c2, c3⟩ := mustQ (d := d + 3) (k := 23) (x := 4) hV T3 rfl (by decide) (by decide) Q3
  have wide : ∀ {x y : Mem}, KMl x y → Kz (nuM s 18) (fun _ => False) x y := fun z => z.mono (fun a k q => Or.inl q) (fun _ q => q)
  refine ⟨m4, X10_tellOne_ok ⟨by rw [h.2.1.2]; exact vp_inN (by omega) (by decide), ?_⟩, c2, (wide a3.c).trans ((wide b3).trans (Kz.trans (Kz.sI (by unfold nuM; omega)) (wide c3.c))), fun j hj => ?_⟩
  · rw [e3]
    have fin : (∃ (μ13 : Mem), X10_goesOn (d + 5) μ μ13 ∧ (∃ (y17 : Int32) (μ15 : Mem), X10_bounded (d + 5) 0 9999 μ13 y17 μ15 ∧ vp_in (μ13.1 0 19) 2 ∧ (∀ μ18 : Mem, μ18 = sI μ15 18 ((μ13.1 0 19).toNatClampNeg) y17 → (∃ (μ19 : Mem), X10_must (d + 5) 4 μ18 μ19 ∧ X10_tellOne_at285 (d + 5) μ19 m4)))) := by
      refine ⟨m1, a1, x2, m2, b1, ?_⟩
      rw [a3.at (by unfold mvM; omega), h19, nI_clamp (by omega)]
      refine ⟨vp_inN hs2 (by decide), ?_⟩
      rintro μ18 rfl
      exact ⟨m4, c1, X10_tellOne_at285_ok rfl⟩
    exact ⟨fun y => absurd y (by decide), fun y => absurd y (by decide), fun y => absurd y (by decide), fun y => absurd y (by decide), fun y => absurd y (by decide), fun y => absurd y (by decide), fun _ => fin, fun y => absurd y (by decide), fun y => absurd y (by decide), fun y => absurd y (by decide)⟩
  · obtain ⟨f2, _⟩ := nq_at.2.2 hj
    obtain ⟨z, z1, z2, z3⟩ := b4 _ f2
    have z1 : nq1 T 6 i = .inl z := z1
    have := nq_at.1 z1
    subst this
    exact ⟨by rw [c3.at (by unfold mvM; omega), sI_1]; exact z2, (z3.n (by decide)).kv c3⟩
theorem gust_c {q i : Nat} {l : Lt} {μ : Mem} (hq : 200 < q) (hV : TV S M T) (hT : TC M T μ) (h : QSc M T (.inl i) μ) (hk : kd T i = 7) (hl : LC' l μ) (hp : μ.2.2 2 1 = q) : ∃ μ', X4_readTell (d + 17) μ μ' ∧ QSc M T (nq3 T 7 i) μ' ∧ Kz (nuC q 5) (fun _ => False) μ μ' ∧ ∀ j, nq3 T 7 i = .inl j → μ'.1 q 5 = nI (vl' T (i + 1)) ∧ LC' (ltS (outR 0 100 (vl' T (i + 1))) 5 (pc' T (i + 1)) l) μ' := by
  have ek : μ.1 2 3 = 7 := by rw [h.2.2.2, hk]; rfl
  obtain ⟨m1, a1, a2, a3⟩ := accQ (d := d + 15) (k := 7) hV hT (by decide) (by decide) h
  have T1 := hT.kc a3.c
  obtain ⟨x2, m2, b1, b2, b3, b4⟩ := int_c (d := d + 14) (lo := 0) (hi := 100) (x1 := 0) (x2 := 100) hV T1 a2 (l := l) (fun _ _ => hl.ka a3) rfl rfl (by decide) (by decide)
  have Q3 : QSc M T (nq2 T 7 i) (sI m2 q 5 x2) := QSc.n b2 (by omega)
  have T3 : TC M T (sI m2 q 5 x2) := (T1.kc b3).n (by omega) (by omega)
  obtain ⟨m4, c1, c2, c3⟩ := accQ (d := d + 15) (k := 23) hV T3 (by decide) (by decide) Q3
  have wide : ∀ {x y : Mem}, KC x y → Kz (nuC q 5) (fun _ => False) x y := fun z => z.mono (fun a k q => Or.inl q) (fun _ q => q)
  refine ⟨m4, X4_readTell_ok ?_, c2, (wide a3.c).trans ((wide b3).trans (Kz.trans (Kz.sI (by unfold nuC; omega)) (wide c3.c))), fun j hj => ?_⟩
  · rw [ek]
    have fin : (∃ (y33 : Int32) (μ31 : Mem), X4_accept (d + 16) 7 μ y33 μ31 ∧ (∃ (y36 : Int32) (μ34 : Mem), X4_readInt (d + 16) 0 100 μ31 y36 μ34 ∧ (∀ μ37 : Mem, μ37 = sI μ34 (μ31.2.2 2 1) 5 y36 → (∃ (y40 : Int32) (μ38 : Mem), X4_accept (d + 16) 23 μ37 y40 μ38 ∧ m4 = μ38)))) := by
      refine ⟨_, m1, a1, x2, m2, b1, ?_⟩
      rw [a3.2.2, hp]
      rintro μ37 rfl
      exact ⟨_, m4, c1, rfl⟩
    exact ⟨fun y => absurd y (by decide), fun y => absurd y (by decide), fun y => absurd y (by decide), fun y => absurd y (by decide), fun y => absurd y (by decide), fun y => absurd y (by decide), fun y => absurd y (by decide), fun _ => fin, fun y => absurd y (by decide), fun y => absurd y (by decide)⟩
  · obtain ⟨f2, _⟩ := nq_at.2.2 hj
    obtain ⟨z, z1, _, _, _, z2, z3⟩ := b4 _ f2
    have z1 : nq1 T 7 i = .inl z := z1
    have := nq_at.1 z1
    subst this
    exact ⟨by rw [c3.at (by unfold adv; omega), sI_1]; exact z2, (z3.n (by omega)).ka c3⟩
theorem gust_m {s i : Nat} {l : Lt} {μ : Mem} (hs2 : s < 2) (hV : TV S M T) (hT : TM M T μ) (h : QSm M T (.inl i) μ) (hk : kd T i = 7) (hl : LM' l μ) (hlo : l.1 ≠ 0 → l.2 < pc' T i) (h19 : μ.1 0 19 = nI s) : ∃ μ', X10_tellOne (d + 6) μ μ' ∧ QSm M T (nq3 T 7 i) μ' ∧ Kz (nuM s 19) (fun _ => False) μ μ' ∧ ∀ j, nq3 T 7 i = .inl j → μ'.1 19 s = nI (vl' T (i + 1)) ∧ LM' (ltS (outR 0 100 (vl' T (i + 1))) 5 (pc' T (i + 1)) l) μ' := by
  have hm := hV.2.1
  have hi := h.1
  have e3 : μ.1 3 ((μ.1 0 11).toNatClampNeg) = 27 := by rw [h.2.1.2, nI_clamp (by omega), (hT i hi).1, hk]; rfl
  obtain ⟨m1, a1, a2, a3⟩ := goQ (d := d + 4) hV hT h (by omega)
  rw [hk] at a2
  have a2 : QSm M T (nq1 T 7 i) m1 := a2
  have T1 := hT.kc a3.c
  have lo1 : ∀ x, nq1 T 7 i = .inl x → Lo l 5 (pc' T x) := fun x hx z => by
    have e := nq_at.1 hx
    rw [hx] at a2
    have := hV.2.2.2.1 i x (by omega) a2.1
    have := hlo z
    exact Or.inl (by omega)
  obtain ⟨x2, m2, b1, b2, b3, b4⟩ := int_m (d := d + 3) (lo := 0) (hi := 100) (x1 := 0) (x2 := 100) hV T1 a2 (l := l) (fun _ _ => hl.kv a3) lo1 rfl rfl (by decide) (by decide)
  have Q3 : QSm M T (nq2 T 7 i) (sI m2 19 s x2) := QSm.n b2 (by decide)
  have T3 : TM M T (sI m2 19 s x2) := (T1.kc b3).n (by decide) (by decide) (by decide)
  obtain ⟨m4, c1, c2, c3⟩ := mustQ (d := d + 3) (k := 23) (x := 4) hV T3 rfl (by decide) (by decide) Q3
  have wide : ∀ {x y : Mem}, KMl x y → Kz (nuM s 19) (fun _ => False) x y := fun z => z.mono (fun a k q => Or.inl q) (fun _ q => q)
  refine ⟨m4, X10_tellOne_ok ⟨by rw [h.2.1.2]; exact vp_inN (by omega) (by decide), ?_⟩, c2, (wide a3.c).trans ((wide b3).trans (Kz.trans (Kz.sI (by unfold nuM; omega)) (wide c3.c))), fun j hj => ?_⟩
  · rw [e3]
    have fin : (∃ (μ13 : Mem), X10_goesOn (d + 5) μ μ13 ∧ (∃ (y17 : Int32) (μ15 : Mem), X10_bounded (d + 5) 0 100 μ13 y17 μ15 ∧ vp_in (μ13.1 0 19) 2 ∧ (∀ μ18 : Mem, μ18 = sI μ15 19 ((μ13.1 0 19).toNatClampNeg) y17 → (∃ (μ19 : Mem), X10_must (d + 5) 4 μ18 μ19 ∧ X10_tellOne_at285 (d + 5) μ19 m4)))) := by
      refine ⟨m1, a1, x2, m2, b1, ?_⟩
      rw [a3.at (by unfold mvM; omega), h19, nI_clamp (by omega)]
      refine ⟨vp_inN hs2 (by decide), ?_⟩
      rintro μ18 rfl
      exact ⟨m4, c1, X10_tellOne_at285_ok rfl⟩
    exact ⟨fun y => absurd y (by decide), fun y => absurd y (by decide), fun y => absurd y (by decide), fun y => absurd y (by decide), fun y => absurd y (by decide), fun y => absurd y (by decide), fun y => absurd y (by decide), fun _ => fin, fun y => absurd y (by decide), fun y => absurd y (by decide)⟩
  · obtain ⟨f2, _⟩ := nq_at.2.2 hj
    obtain ⟨z, z1, z2, z3⟩ := b4 _ f2
    have z1 : nq1 T 7 i = .inl z := z1
    have := nq_at.1 z1
    subst this
    exact ⟨by rw [c3.at (by unfold mvM; omega), sI_1]; exact z2, (z3.n (by decide)).kv c3⟩
theorem seedn_c {q i : Nat} {l : Lt} {μ : Mem} (hq : 200 < q) (hV : TV S M T) (hT : TC M T μ) (h : QSc M T (.inl i) μ) (hk : kd T i = 8) (hl : LC' l μ) (hp : μ.2.2 2 1 = q) : ∃ μ', X4_readTell (d + 17) μ μ' ∧ QSc M T (nq3 T 8 i) μ' ∧ Kz (nuC q 6) (fun _ => False) μ μ' ∧ ∀ j, nq3 T 8 i = .inl j → μ'.1 q 6 = nI (vl' T (i + 1)) ∧ LC' (ltS (outR 0 9999 (vl' T (i + 1))) 5 (pc' T (i + 1)) l) μ' := by
  have ek : μ.1 2 3 = 8 := by rw [h.2.2.2, hk]; rfl
  obtain ⟨m1, a1, a2, a3⟩ := accQ (d := d + 15) (k := 8) hV hT (by decide) (by decide) h
  have T1 := hT.kc a3.c
  obtain ⟨x2, m2, b1, b2, b3, b4⟩ := int_c (d := d + 14) (lo := 0) (hi := 9999) (x1 := 0) (x2 := 9999) hV T1 a2 (l := l) (fun _ _ => hl.ka a3) rfl rfl (by decide) (by decide)
  have Q3 : QSc M T (nq2 T 8 i) (sI m2 q 6 x2) := QSc.n b2 (by omega)
  have T3 : TC M T (sI m2 q 6 x2) := (T1.kc b3).n (by omega) (by omega)
  obtain ⟨m4, c1, c2, c3⟩ := accQ (d := d + 15) (k := 23) hV T3 (by decide) (by decide) Q3
  have wide : ∀ {x y : Mem}, KC x y → Kz (nuC q 6) (fun _ => False) x y := fun z => z.mono (fun a k q => Or.inl q) (fun _ q => q)
  refine ⟨m4, X4_readTell_ok ?_, c2, (wide a3.c).trans ((wide b3).trans (Kz.trans (Kz.sI (by unfold nuC; omega)) (wide c3.c))), fun j hj => ?_⟩
  · rw [ek]
    have fin : (∃ (y33 : Int32) (μ31 : Mem), X4_accept (d + 16) 8 μ y33 μ31 ∧ (∃ (y36 : Int32) (μ34 : Mem), X4_readInt (d + 16) 0 9999 μ31 y36 μ34 ∧ (∀ μ37 : Mem, μ37 = sI μ34 (μ31.2.2 2 1) 6 y36 → (∃ (y40 : Int32) (μ38 : Mem), X4_accept (d + 16) 23 μ37 y40 μ38 ∧ m4 = μ38)))) := by
      refine ⟨_, m1, a1, x2, m2, b1, ?_⟩
      rw [a3.2.2, hp]
      rintro μ37 rfl
      exact ⟨_, m4, c1, rfl⟩
    exact ⟨fun y => absurd y (by decide), fun y => absurd y (by decide), fun y => absurd y (by decide), fun y => absurd y (by decide), fun y => absurd y (by decide), fun y => absurd y (by decide), fun y => absurd y (by decide), fun y => absurd y (by decide), fun _ => fin, fun y => absurd y (by decide)⟩
  · obtain ⟨f2, _⟩ := nq_at.2.2 hj
    obtain ⟨z, z1, _, _, _, z2, z3⟩ := b4 _ f2
    have z1 : nq1 T 8 i = .inl z := z1
    have := nq_at.1 z1
    subst this
    exact ⟨by rw [c3.at (by unfold adv; omega), sI_1]; exact z2, (z3.n (by omega)).ka c3⟩
theorem seedn_m {s i : Nat} {l : Lt} {μ : Mem} (hs2 : s < 2) (hV : TV S M T) (hT : TM M T μ) (h : QSm M T (.inl i) μ) (hk : kd T i = 8) (hl : LM' l μ) (hlo : l.1 ≠ 0 → l.2 < pc' T i) (h19 : μ.1 0 19 = nI s) : ∃ μ', X10_tellOne (d + 6) μ μ' ∧ QSm M T (nq3 T 8 i) μ' ∧ Kz (nuM s 20) (fun _ => False) μ μ' ∧ ∀ j, nq3 T 8 i = .inl j → μ'.1 20 s = nI (vl' T (i + 1)) ∧ LM' (ltS (outR 0 9999 (vl' T (i + 1))) 5 (pc' T (i + 1)) l) μ' := by
  have hm := hV.2.1
  have hi := h.1
  have e3 : μ.1 3 ((μ.1 0 11).toNatClampNeg) = 28 := by rw [h.2.1.2, nI_clamp (by omega), (hT i hi).1, hk]; rfl
  obtain ⟨m1, a1, a2, a3⟩ := goQ (d := d + 4) hV hT h (by omega)
  rw [hk] at a2
  have a2 : QSm M T (nq1 T 8 i) m1 := a2
  have T1 := hT.kc a3.c
  have lo1 : ∀ x, nq1 T 8 i = .inl x → Lo l 5 (pc' T x) := fun x hx z => by
    have e := nq_at.1 hx
    rw [hx] at a2
    have := hV.2.2.2.1 i x (by omega) a2.1
    have := hlo z
    exact Or.inl (by omega)
  obtain ⟨x2, m2, b1, b2, b3, b4⟩ := int_m (d := d + 3) (lo := 0) (hi := 9999) (x1 := 0) (x2 := 9999) hV T1 a2 (l := l) (fun _ _ => hl.kv a3) lo1 rfl rfl (by decide) (by decide)
  have Q3 : QSm M T (nq2 T 8 i) (sI m2 20 s x2) := QSm.n b2 (by decide)
  have T3 : TM M T (sI m2 20 s x2) := (T1.kc b3).n (by decide) (by decide) (by decide)
  obtain ⟨m4, c1, c2, c3⟩ := mustQ (d := d + 3) (k := 23) (x := 4) hV T3 rfl (by decide) (by decide) Q3
  have wide : ∀ {x y : Mem}, KMl x y → Kz (nuM s 20) (fun _ => False) x y := fun z => z.mono (fun a k q => Or.inl q) (fun _ q => q)
  refine ⟨m4, X10_tellOne_ok ⟨by rw [h.2.1.2]; exact vp_inN (by omega) (by decide), ?_⟩, c2, (wide a3.c).trans ((wide b3).trans (Kz.trans (Kz.sI (by unfold nuM; omega)) (wide c3.c))), fun j hj => ?_⟩
  · rw [e3]
    have fin : (∃ (μ13 : Mem), X10_goesOn (d + 5) μ μ13 ∧ (∃ (y17 : Int32) (μ15 : Mem), X10_bounded (d + 5) 0 9999 μ13 y17 μ15 ∧ vp_in (μ13.1 0 19) 2 ∧ (∀ μ18 : Mem, μ18 = sI μ15 20 ((μ13.1 0 19).toNatClampNeg) y17 → (∃ (μ19 : Mem), X10_must (d + 5) 4 μ18 μ19 ∧ X10_tellOne_at285 (d + 5) μ19 m4)))) := by
      refine ⟨m1, a1, x2, m2, b1, ?_⟩
      rw [a3.at (by unfold mvM; omega), h19, nI_clamp (by omega)]
      refine ⟨vp_inN hs2 (by decide), ?_⟩
      rintro μ18 rfl
      exact ⟨m4, c1, X10_tellOne_at285_ok rfl⟩
    exact ⟨fun y => absurd y (by decide), fun y => absurd y (by decide), fun y => absurd y (by decide), fun y => absurd y (by decide), fun y => absurd y (by decide), fun y => absurd y (by decide), fun y => absurd y (by decide), fun y => absurd y (by decide), fun _ => fin, fun y => absurd y (by decide)⟩
  · obtain ⟨f2, _⟩ := nq_at.2.2 hj
    obtain ⟨z, z1, z2, z3⟩ := b4 _ f2
    have z1 : nq1 T 8 i = .inl z := z1
    have := nq_at.1 z1
    subst this
    exact ⟨by rw [c3.at (by unfold mvM; omega), sI_1]; exact z2, (z3.n (by decide)).kv c3⟩
theorem lawW_c {q i : Nat} {μ : Mem} (hq : 200 < q) (hV : TV S M T) (hT : TC M T μ) (h : QSc M T (.inl i) μ) (hk : kd T i = 3) (hp : μ.2.2 2 1 = q) : ∃ n μ', X4_readTell (d + 17) μ μ' ∧ QSc M T (acq T 23 (lawQ T i).2) μ' ∧ Kz (lwC (q + 7)) (fun _ => False) μ μ' ∧ ∀ j, acq T 23 (lawQ T i).2 = .inl j → n ≤ 512 ∧ μ'.1 (q + 7) 3 = nI n ∧ cLaw μ' (q + 7) 0 (lawQ T i).1 n ∧ wfL (lawQ T i).1 := by
  have ek : μ.1 2 3 = 3 := by rw [h.2.2.2, hk]; rfl
  obtain ⟨n, m1, g1, g2, g3, g4, g5⟩ := readLaw_c (d := d) (a1 := q + 7) (by omega) hV hT h (by omega)
  obtain ⟨m2, c1, c2, c3⟩ := accQ (d := d + 15) (k := 23) hV (hT.kl (by omega) g4) (by decide) (by decide) g2
  refine ⟨n, m2, X4_readTell_ok ?_, c2, g4.trans c3.l, fun j hj => ?_⟩
  · rw [ek]
    have fin : (∃ (μ16 : Mem), X4_readLaw (d + 16) (μ.2.2 2 1 + 7) μ μ16 ∧ (∃ (y20 : Int32) (μ18 : Mem), X4_accept (d + 16) 23 μ16 y20 μ18 ∧ m2 = μ18)) := by
      rw [hp]
      exact ⟨m1, g1, _, m2, c1, rfl⟩
    exact ⟨fun y => absurd y (by decide), fun y => absurd y (by decide), fun y => absurd y (by decide), fun _ => fin, fun y => absurd y (by decide), fun y => absurd y (by decide), fun y => absurd y (by decide), fun y => absurd y (by decide), fun y => absurd y (by decide), fun y => absurd y (by decide)⟩
  · obtain ⟨x, e1, _⟩ := acq_inl hj
    obtain ⟨w1, w2⟩ := g5 x e1
    exact ⟨g3.1, (c3.at (by unfold adv; omega)).trans g3.2, cLaw_same (fun k _ _ => c3.at (by unfold adv; omega)) w1, w2⟩
theorem lawD_c {q i : Nat} {μ : Mem} (hq : 200 < q) (hV : TV S M T) (hT : TC M T μ) (h : QSc M T (.inl i) μ) (hk : kd T i = 4) (hp : μ.2.2 2 1 = q) : ∃ n μ', X4_readTell (d + 17) μ μ' ∧ QSc M T (acq T 23 (lawQ T i).2) μ' ∧ Kz (lwC (q + 11)) (fun _ => False) μ μ' ∧ ∀ j, acq T 23 (lawQ T i).2 = .inl j → n ≤ 512 ∧ μ'.1 (q + 11) 3 = nI n ∧ cLaw μ' (q + 11) 0 (lawQ T i).1 n ∧ wfL (lawQ T i).1 := by
  have ek : μ.1 2 3 = 4 := by rw [h.2.2.2, hk]; rfl
  obtain ⟨n, m1, g1, g2, g3, g4, g5⟩ := readLaw_c (d := d) (a1 := q + 11) (by omega) hV hT h (by omega)
  obtain ⟨m2, c1, c2, c3⟩ := accQ (d := d + 15) (k := 23) hV (hT.kl (by omega) g4) (by decide) (by decide) g2
  refine ⟨n, m2, X4_readTell_ok ?_, c2, g4.trans c3.l, fun j hj => ?_⟩
  · rw [ek]
    have fin : (∃ (μ16 : Mem), X4_readLaw (d + 16) (μ.2.2 2 1 + 11) μ μ16 ∧ (∃ (y20 : Int32) (μ18 : Mem), X4_accept (d + 16) 23 μ16 y20 μ18 ∧ m2 = μ18)) := by
      rw [hp]
      exact ⟨m1, g1, _, m2, c1, rfl⟩
    exact ⟨fun y => absurd y (by decide), fun y => absurd y (by decide), fun y => absurd y (by decide), fun y => absurd y (by decide), fun _ => fin, fun y => absurd y (by decide), fun y => absurd y (by decide), fun y => absurd y (by decide), fun y => absurd y (by decide), fun y => absurd y (by decide)⟩
  · obtain ⟨x, e1, _⟩ := acq_inl hj
    obtain ⟨w1, w2⟩ := g5 x e1
    exact ⟨g3.1, (c3.at (by unfold adv; omega)).trans g3.2, cLaw_same (fun k _ _ => c3.at (by unfold adv; omega)) w1, w2⟩
theorem lawG_c {q i : Nat} {μ : Mem} (hq : 200 < q) (hV : TV S M T) (hT : TC M T μ) (h : QSc M T (.inl i) μ) (hk : kd T i = 5) (hp : μ.2.2 2 1 = q) : ∃ n μ', X4_readTell (d + 17) μ μ' ∧ QSc M T (acq T 23 (lawQ T i).2) μ' ∧ Kz (lwC (q + 15)) (fun _ => False) μ μ' ∧ ∀ j, acq T 23 (lawQ T i).2 = .inl j → n ≤ 512 ∧ μ'.1 (q + 15) 3 = nI n ∧ cLaw μ' (q + 15) 0 (lawQ T i).1 n ∧ wfL (lawQ T i).1 := by
  have ek : μ.1 2 3 = 5 := by rw [h.2.2.2, hk]; rfl
  obtain ⟨n, m1, g1, g2, g3, g4, g5⟩ := readLaw_c (d := d) (a1 := q + 15) (by omega) hV hT h (by omega)
  obtain ⟨m2, c1, c2, c3⟩ := accQ (d := d + 15) (k := 23) hV (hT.kl (by omega) g4) (by decide) (by decide) g2
  refine ⟨n, m2, X4_readTell_ok ?_, c2, g4.trans c3.l, fun j hj => ?_⟩
  · rw [ek]
    have fin : (∃ (μ16 : Mem), X4_readLaw (d + 16) (μ.2.2 2 1 + 15) μ μ16 ∧ (∃ (y20 : Int32) (μ18 : Mem), X4_accept (d + 16) 23 μ16 y20 μ18 ∧ m2 = μ18)) := by
      rw [hp]
      exact ⟨m1, g1, _, m2, c1, rfl⟩
    exact ⟨fun y => absurd y (by decide), fun y => absurd y (by decide), fun y => absurd y (by decide), fun y => absurd y (by decide), fun y => absurd y (by decide), fun _ => fin, fun y => absurd y (by decide), fun y => absurd y (by decide), fun y => absurd y (by decide), fun y => absurd y (by decide)⟩
  · obtain ⟨x, e1, _⟩ := acq_inl hj
    obtain ⟨w1, w2⟩ := g5 x e1
    exact ⟨g3.1, (c3.at (by unfold adv; omega)).trans g3.2, cLaw_same (fun k _ _ => c3.at (by unfold adv; omega)) w1, w2⟩
theorem laws_m {s k i b c : Nat} {μ : Mem} (hs2 : s < 2) (hk3 : k < 3) (hV : TV S M T) (hT : TM M T μ) (h : QSm M T (.inl i) μ) (hk : kd T i = 3 + k) (hL : CdB (420 * s) c μ) (hc : c ≤ 420 * s + i) (h36 : μ.1 0 36 = nI b) (hb0 : 130 * s ≤ b) (hb : 4 * (b - 130 * s) ≤ i) (h19 : μ.1 0 19 = nI s) : ∃ c' b' μ', X10_tellOne (d + 6) μ μ' ∧ QSm M T (acq T 23 (lawQ T i).2) μ' ∧ Kz (lnM (420 * s) (130 * s) (3 * s + k)) (fun _ => False) μ μ' ∧ (∀ j, acq T 23 (lawQ T i).2 = .inl j → CdB (420 * s) c' μ' ∧ μ'.1 0 36 = nI b' ∧ 130 * s ≤ b' ∧ c' ≤ 420 * s + j ∧ 4 * (b' - 130 * s) ≤ j ∧ i < j ∧ b' = b + (lawQ T i).1.length ∧ mL' (420 * s) c' μ' b (lawQ T i).1 ∧ (μ'.1 21 (3 * s + k) = nI b ∧ μ'.1 22 (3 * s + k) = nI b') ∧ (∀ z, z < c → μ'.1 28 z = μ.1 28 z ∧ μ'.1 29 z = μ.1 29 z) ∧ (∀ a z, 23 ≤ a → a ≤ 27 → z < b → μ'.1 a z = μ.1 a z) ∧ c ≤ c') := by
  have hm := hV.2.1
  have hi := h.1
  have emk : mk (kd T i) = 23 + k := by rw [hk]; unfold mk; rw [if_pos (by omega)]; omega
  have e3 : μ.1 3 ((μ.1 0 11).toNatClampNeg) = nI (23 + k) := by rw [h.2.1.2, nI_clamp (by omega), (hT i hi).1, emk]
  have v11 : vp_in (μ.1 0 11) 403 := by rw [h.2.1.2]; exact vp_inN (by omega) (by decide)
  obtain ⟨m1, a1, a2, a3⟩ := goQ (d := d + 4) hV hT h (by omega)
  obtain ⟨c', b', m2, t1, t2, t3, t4, t5, t6⟩ := tellLaw_m (d := d) (k := k) (C0 := 420 * s) (B0 := 130 * s) (b := b) (c := c) (q := acq T (kd T i) (.inl i)) (show 420 * s + 420 ≤ 840 by omega) (show 130 * s + 130 ≤ 260 by omega) hs2 hk3 hV (hT.kc a3.c) a2 ⟨hL.1, hL.2.1, (a3.at (by unfold mvM; omega)).trans hL.2.2⟩ (LeM.acq (fun z hz => by cases hz; exact hc)) ((a3.at (by unfold mvM; omega)).trans h36) hb0 (by omega) (fun z hz => by
    obtain ⟨y, y1, _, _, y2⟩ := acq_inl hz
    cases y1
    omega) ((a3.at (by unfold mvM; omega)).trans h19)
  refine ⟨c', b', m2, X10_tellOne_ok ⟨v11, ?_⟩, t2, ((a3.x (C0 := 420 * s)).b.n).trans t5, fun j hj => ?_⟩
  · have go : X10_tellOne_at232 (d + 5) μ m2 := by
      refine X10_tellOne_at232_ok ⟨v11, ?_⟩
      rw [e3, show nI (23 + k) - 23 = nI k by rw [show (23 : Int32) = nI 23 from rfl, nI_sub (by omega)]; congr 1; omega]
      refine tneg (nI_nlt (b := 0) (by omega) (by omega)) ⟨v11, tpos ((nI_le_iff (b := 25) (by omega) (by decide)).2 (by omega)) ?_⟩
      exact X10_tellOne_at268_ok (tpos (by rw [h.2.1.1]; decide) ⟨m1, a1, m2, t1, X10_tellOne_at285_ok rfl⟩)
    rw [e3]
    have ne : ∀ c, c < 2 ^ 31 → 23 + k ≠ c → nI (23 + k) = nI c → False := fun c h1 h2 h3 => h2 (nI_inj (by omega) h1 h3)
    exact ⟨fun z => (ne 20 (by decide) (by omega) z).elim, fun z => (ne 21 (by decide) (by omega) z).elim, fun z => (ne 22 (by decide) (by omega) z).elim, fun _ => go, fun _ => go, fun _ => go, fun z => (ne 26 (by decide) (by omega) z).elim, fun z => (ne 27 (by decide) (by omega) z).elim, fun z => (ne 28 (by decide) (by omega) z).elim, fun _ => go⟩
  · obtain ⟨n1, n2, n3, n4, n5, n6, n7, n8⟩ := t6 j hj
    refine ⟨t3, t4.1, t4.2.1, n1, n2, ?_, n3, n4, n5, fun z hz => ?_, fun a z h1 h2 h3 => ?_, n8⟩
    · have l1 : 1 ≤ (lawQ T i).1.length := by
        show 1 ≤ (lawP T 4 (acq T 24 (acq T (kd T i) (.inl i)))).1.length
        by_cases e : (lawP T 4 (acq T 24 (acq T (kd T i) (.inl i)))).1.length = 0
        · exfalso
          have e' := List.length_eq_zero_iff.mp e
          have : ∀ q, (lawP T 4 q).1 ≠ [] := fun q => by
            rw [lawP]
            by_cases f : isIf T q = true
            · rw [if_pos f]; exact List.cons_ne_nil _ _
            · rw [if_neg f]; exact List.cons_ne_nil _ _
          exact this _ e'
        · omega
      obtain ⟨y1, z1, _, _, z1'⟩ := acq_inl hj
      have lb : ∀ r q y, (lawP T r q).2 = .inl y → ∀ i0, Le' i0 q → i0 ≤ y := by
        intro r
        induction r with
        | zero =>
          intro q y hy i0 hle
          unfold lawP at hy
          by_cases f : isIf T q = true
          · rw [if_pos f] at hy
            cases q with
            | inl z => cases hy
            | inr z => cases hy
          · rw [if_neg f] at hy
            obtain ⟨x, cs, w1, w2, _⟩ := eQ_inl hy
            have := hle x w1
            have hx : x ≤ y := parE_le _ _ _ _ _ _ _ _ w2
            omega
        | succ r ih =>
          intro q y hy i0 hle
          rw [lawP] at hy
          by_cases f : isIf T q = true
          · rw [if_pos f] at hy
            refine ih (q7' T q) y hy i0 (fun z hz => ?_)
            obtain ⟨x6, w6, _, _, e6⟩ := acq_inl hz
            obtain ⟨x5, cs5, w5, p5, _⟩ := eQ_inl w6
            obtain ⟨x4, w4, _, _, e4⟩ := acq_inl w5
            obtain ⟨x3, cs3, w3, p3, _⟩ := eQ_inl w4
            obtain ⟨x2, w2, _, _, e2⟩ := acq_inl w3
            obtain ⟨x1, cs1, w1, p1, _⟩ := eQ_inl w2
            obtain ⟨x0, w0, _, _, e0⟩ := acq_inl w1
            have := hle x0 w0
            have := parE_le _ _ _ _ _ _ _ _ p5
            have := parE_le _ _ _ _ _ _ _ _ p3
            have := parE_le _ _ _ _ _ _ _ _ p1
            omega
          · rw [if_neg f] at hy
            obtain ⟨x, cs, w1, w2, _⟩ := eQ_inl hy
            have := hle x w1
            have hx : x ≤ y := parE_le _ _ _ _ _ _ _ _ w2
            omega
      have := lb 4 _ y1 z1 i (fun z hz => by
        obtain ⟨x, w1, _, _, w2⟩ := acq_inl hz
        obtain ⟨x', w3, _, _, w4⟩ := acq_inl w1
        cases w3
        omega)
      omega
    · rw [(n6 z hz).1, (n6 z hz).2, a3.at (by unfold mvM; omega), a3.at (by unfold mvM; omega)]
      exact ⟨rfl, rfl⟩
    · rw [n7 a z h1 h2 h3, a3.at (by unfold mvM; omega)]
theorem none_c {i : Nat} {μ : Mem} (hV : TV S M T) (hT : TC M T μ) (h : QSc M T (.inl i) μ) (hk : 9 ≤ kd T i) : ∃ μ', X4_readTell (d + 17) μ μ' ∧ QSc M T (.inr (1, i)) μ' ∧ KC μ μ' := by
  have vi := hV.2.2.1 i h.1
  obtain ⟨m1, g1, g2, g3⟩ := blame_c (d := d + 16) (f := 1) hT hV.2.1 h.2.1 h.2.2.1 h.1 (by omega)
  have ne : ∀ c, c < 9 → μ.1 2 3 = nI c → False := fun c hc z => by
    rw [h.2.2.2] at z
    have := nI_inj (by omega) (by omega) z
    omega
  exact ⟨m1, X4_readTell_ok ⟨fun z => (ne 0 (by decide) z).elim, fun z => (ne 1 (by decide) z).elim, fun z => (ne 2 (by decide) z).elim, fun z => (ne 3 (by decide) z).elim, fun z => (ne 4 (by decide) z).elim, fun z => (ne 5 (by decide) z).elim, fun z => (ne 6 (by decide) z).elim, fun z => (ne 7 (by decide) z).elim, fun z => (ne 8 (by decide) z).elim, fun _ => ⟨m1, g1, 0, m1, accF g2.ne, rfl⟩⟩, ⟨h.1, g2⟩, g3.c⟩
theorem mk_hi : ∀ k, k < 34 → 9 ≤ k → mk k < 20 ∨ 28 < mk k := by decide
theorem none_m {i : Nat} {μ : Mem} (hV : TV S M T) (hT : TM M T μ) (h : QSm M T (.inl i) μ) (hk : 9 ≤ kd T i) : ∃ μ', X10_tellOne (d + 6) μ μ' ∧ QSm M T (.inr (1, i)) μ' ∧ KMl μ μ' := by
  have hm := hV.2.1
  have hi := h.1
  have vi := hV.2.2.1 i hi
  have e3 : μ.1 3 ((μ.1 0 11).toNatClampNeg) = nI (mk (kd T i)) := by rw [h.2.1.2, nI_clamp (by omega), (hT i hi).1]
  have v11 : vp_in (μ.1 0 11) 403 := by rw [h.2.1.2]; exact vp_inN (by omega) (by decide)
  obtain ⟨m1, g1, g2, g3⟩ := fail_m (d := d + 5) (f := 1) (x := 1) hV hT h.2.1 h.1 (by omega) rfl
  have m40 := mk_lt (kd T i) (by omega)
  have mh := mk_hi (kd T i) (by omega) hk
  have go : X10_tellOne_at232 (d + 5) μ m1 := by
    refine X10_tellOne_at232_ok ⟨v11, ?_⟩
    have f : ∀ x, X10_tellOne_at263 (d + 5) x μ m1 := fun x => X10_tellOne_at263_ok ⟨m1, g1, X10_tellOne_at268_ok (tneg g2.nle rfl)⟩
    rw [e3]
    refine ⟨fun _ => f _, fun z => ⟨v11, tneg (fun y => z ?_) (f _)⟩⟩
    have := (nI_le_iff (b := 25) (by omega) (by decide)).1 y
    have e : mk (kd T i) < 20 := by omega
    have : ∀ v, v < 20 → nI v - 23 < 0 := by decide
    exact this _ e
  refine ⟨m1, X10_tellOne_ok ⟨v11, ?_⟩, ⟨h.1, g2⟩, g3.c⟩
  rw [e3]
  have ne : ∀ c, 20 ≤ c → c ≤ 28 → nI (mk (kd T i)) = nI c → False := fun c h1 h2 h3 => by
    have := nI_inj (by omega) (by omega) h3
    omega
  exact ⟨fun z => (ne 20 (by decide) (by decide) z).elim, fun z => (ne 21 (by decide) (by decide) z).elim, fun z => (ne 22 (by decide) (by decide) z).elim, fun _ => go, fun _ => go, fun _ => go, fun z => (ne 26 (by decide) (by decide) z).elim, fun z => (ne 27 (by decide) (by decide) z).elim, fun z => (ne 28 (by decide) (by decide) z).elim, fun _ => go⟩
end
end Rd
