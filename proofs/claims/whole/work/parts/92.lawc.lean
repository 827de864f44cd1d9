/-! ===== read: a law, told once; the class's side ===== -/
section Rd
variable {d : Nat}
abbrev Qs : Type := Nat ⊕ (Nat × Nat)
section
variable {S M : Nat} {T : Nat → Tk} {a1 : Nat}
def acq (T : Nat → Tk) (k : Nat) : Qs → Qs
  | .inl i => if kd T i = k then (if i = 400 then .inr (2, i) else .inl (i + 1)) else .inr (1, i)
  | .inr e => .inr e
theorem acq_i {T : Nat → Tk} {k i : Nat} : acq T k (.inl i) = if kd T i = k then (if i = 400 then .inr (2, i) else .inl (i + 1)) else .inr (1, i) := rfl
def eQ (T : Nat → Tk) : Qs → Qs
  | .inl i => match parE T 900 0 i true 0 0 with
    | .inl q => .inl q.2
    | .inr e => .inr e
  | .inr e => .inr e
def cdQ (T : Nat → Tk) : Qs → List Cd
  | .inl i => match parE T 900 0 i true 0 0 with
    | .inl q => q.1
    | .inr _ => []
  | .inr _ => []
def isIf (T : Nat → Tk) : Qs → Bool
  | .inl i => kd T i == 9
  | .inr _ => false
def flq (f : Nat) : Qs → Qs
  | .inl i => .inr (f, i)
  | .inr e => .inr e
def q1' (T : Nat → Tk) (q : Qs) : Qs := acq T 9 q
def q3' (T : Nat → Tk) (q : Qs) : Qs := acq T 29 (eQ T (q1' T q))
def q5' (T : Nat → Tk) (q : Qs) : Qs := acq T 10 (eQ T (q3' T q))
def q7' (T : Nat → Tk) (q : Qs) : Qs := acq T 11 (eQ T (q5' T q))
def lawP (T : Nat → Tk) : Nat → Qs → Lw × Qs
  | 0, q => if isIf T q then ([], flq 2 q) else ([(none, cdQ T q)], eQ T q)
  | r + 1, q => if isIf T q then ((some (cdQ T (q1' T q), cdQ T (q3' T q)), cdQ T (q5' T q)) :: (lawP T r (q7' T q)).1, (lawP T r (q7' T q)).2) else ([(none, cdQ T q)], eQ T q)
def Le' (c : Nat) (q : Qs) : Prop := ∀ i, q = .inl i → c ≤ i
theorem acq_inl {k j : Nat} {q : Qs} (h : acq T k q = .inl j) : ∃ i, q = .inl i ∧ kd T i = k ∧ i ≠ 400 ∧ j = i + 1 := by
  cases q with
  | inr e => cases h
  | inl i =>
    rw [acq_i] at h
    by_cases e : kd T i = k
    · rw [if_pos e] at h
      by_cases e4 : i = 400
      · rw [if_pos e4] at h; cases h
      · rw [if_neg e4] at h
        cases h
        exact ⟨i, rfl, e, e4, rfl⟩
    · rw [if_neg e] at h; cases h
theorem acq_le {k c : Nat} {q : Qs} (h : Le' c q) : Le' (c + 1) (acq T k q) := fun j hj => by
  obtain ⟨i, h1, _, _, rfl⟩ := acq_inl hj
  have := h i h1
  omega
theorem eQ_inl {j : Nat} {q : Qs} (h : eQ T q = .inl j) : ∃ i cs, q = .inl i ∧ parE T 900 0 i true 0 0 = .inl (cs, j) ∧ cdQ T q = cs := by
  cases q with
  | inr e => cases h
  | inl i =>
    show ∃ i' cs, _ ∧ _ ∧ (match parE T 900 0 i true 0 0 with | .inl q => q.1 | .inr _ => []) = cs
    have h : (match parE T 900 0 i true 0 0 with | .inl q => (.inl q.2 : Qs) | .inr e => .inr e) = .inl j := h
    cases hq : parE T 900 0 i true 0 0 with
    | inr e => rw [hq] at h; cases h
    | inl q =>
      rw [hq] at h
      cases h
      exact ⟨i, q.1, rfl, hq, rfl⟩
def QSc (M : Nat) (T : Nat → Tk) (q : Qs) (μ : Mem) : Prop := match q with
  | .inl i => i < M ∧ RC T i μ
  | .inr e => e.2 < M ∧ FC e.1 (pc' T e.2) μ
theorem QSc.same {q : Qs} {μ μ' : Mem} (h : QSc M T q μ) (k : ∀ j, μ'.1 2 j = μ.1 2 j) : QSc M T q μ' := by
  cases q with
  | inl i => exact ⟨h.1, RC.same h.2 k⟩
  | inr e => exact ⟨h.1, FC.same h.2 k⟩
def qy : Qs → Int32
  | .inl _ => 1
  | .inr _ => 0
theorem accQ {k : Nat} {q : Qs} {μ : Mem} (hV : TV S M T) (hT : TC M T μ) (hk : k ≤ 33) (h32 : k ≠ 32) (h : QSc M T q μ) : ∃ μ', X4_accept (d + 1) (nI k) μ (qy (acq T k q)) μ' ∧ QSc M T (acq T k q) μ' ∧ KA μ μ' := by
  cases q with
  | inr e => exact ⟨μ, accF h.2.ne, h, Kz.refl⟩
  | inl i =>
    rw [acq_i]
    by_cases e : kd T i = k
    · rw [if_pos e]
      by_cases e4 : i = 400
      · rw [if_pos e4]
        obtain ⟨μ', g1, g2, g3⟩ := accX (d := d) (k := k) hV hT h.2 h.1 hk (Or.inr e4)
        rw [if_pos e] at g2
        exact ⟨μ', g1, ⟨h.1, g2⟩, g3⟩
      · rw [if_neg e4]
        obtain ⟨μ', g1, g2, g3, g4⟩ := accS (d := d) (k := k) hV hT h.2 h.1 e h32 e4
        exact ⟨μ', g1, ⟨g4, g2⟩, g3⟩
    · rw [if_neg e]
      obtain ⟨μ', g1, g2, g3⟩ := accX (d := d) (k := k) hV hT h.2 h.1 hk (Or.inl e)
      rw [if_neg e] at g2
      exact ⟨μ', g1, ⟨h.1, g2⟩, g3⟩
theorem sumQ {c : Nat} {q : Qs} {μ : Mem} (ha : 200 < a1) (hV : TV S M T) (hT : TC M T μ) (h : QSc M T q μ) (hL : LwC a1 c μ) (hc : Le' c q) : ∃ c' μ', X4_readSum (d + 15) a1 0 μ μ' ∧ QSc M T (eQ T q) μ' ∧ LwC a1 c' μ' ∧ KL a1 μ μ' ∧ (∀ j, eQ T q = .inl j → PutC a1 c (cdQ T q) μ μ' ∧ c' = c + (cdQ T q).length ∧ wfD 31 (cdQ T q) 0 1 ∧ ∃ i, q = .inl i ∧ i + (cdQ T q).length ≤ j) := by
  cases q with
  | inr e =>
    obtain ⟨μ', g1, g2, ⟨c', g3⟩, g4⟩ := sumF (d := d + 12) (x2 := 0) ha h.2 hL
    exact ⟨c', μ', g1, ⟨h.1, g2⟩, g3, g4, fun j z => by cases z⟩
  | inl i =>
    have hm := hV.2.1
    have ci := hc i rfl
    obtain ⟨h1, h2⟩ := par_c (d := d) ha hV 900 0 6 i c 0 0 0 true μ rfl (by rw [if_pos rfl]; omega) h.1 (by show c + 0 + 0 ≤ i; omega) (Or.inl rfl) (Or.inl rfl) (fun z => by cases z) (Nat.zero_le _) h.2 hT hL
    show ∃ c' μ', _ ∧ QSc M T (match parE T 900 0 i true 0 0 with | .inl q => .inl q.2 | .inr e => .inr e) μ' ∧ _ ∧ _ ∧ (∀ j, (match parE T 900 0 i true 0 0 with | .inl q => (.inl q.2 : Qs) | .inr e => .inr e) = .inl j → PutC a1 c (match parE T 900 0 i true 0 0 with | .inl q => q.1 | .inr _ => []) μ μ' ∧ c' = c + (match parE T 900 0 i true 0 0 with | .inl q => q.1 | .inr _ => []).length ∧ wfD 31 (match parE T 900 0 i true 0 0 with | .inl q => q.1 | .inr _ => []) 0 1 ∧ ∃ i', (.inl i : Qs) = .inl i' ∧ i' + (match parE T 900 0 i true 0 0 with | .inl q => q.1 | .inr _ => []).length ≤ j)
    cases hq : parE T 900 0 i true 0 0 with
    | inr e =>
      obtain ⟨ef, ek⟩ := e
      obtain ⟨x1, x2, μ', g1, g2, ⟨c', g3⟩, g4⟩ := h2 ef ek hq
      rw [if_pos rfl] at g1
      exact ⟨c', μ', X4_readSum_ok g1, ⟨x1, g2⟩, g3, g4, fun j z => by cases z⟩
    | inl r =>
      obtain ⟨cs, j⟩ := r
      obtain ⟨μ', g1, g2, g3, g4⟩ := h1 cs j hq
      rw [if_pos rfl] at g1
      obtain ⟨b1, b2, b3, b4, _⟩ := par_ok hV 900 0 i true 0 0 cs j (by omega) h.1 (Or.inl rfl) (Or.inl rfl) (fun z => by cases z) hq
      have b3 : cs.length ≤ j - i + 0 + 0 := b3
      refine ⟨c + cs.length, μ', X4_readSum_ok g1, ⟨b2, g2⟩, g3.1, g4, fun j' z => ?_⟩
      cases z
      exact ⟨g3, rfl, b4 0 (by rw [if_pos rfl]; omega), i, rfl, by show i + cs.length ≤ j; omega⟩
theorem putQ {c : Nat} {x : Int32} {μ : Mem} (ha : 200 < a1) (h : LwC a1 c μ) : ∃ c' μ', X1_put d a1 x μ μ' ∧ LwC a1 c' μ' ∧ KL a1 μ μ' ∧ (∀ k, μ'.1 2 k = μ.1 2 k) ∧ (c < 512 → c' = c + 1 ∧ μ'.1 (a1 + 1) c = x ∧ ∀ j, j ≠ c → μ'.1 (a1 + 1) j = μ.1 (a1 + 1) j) := by
  by_cases q : c < 512
  · obtain ⟨μ', g1, g2, g3, g4, g5, g6⟩ := put_l (d := d) (x := x) ha q h.2
    exact ⟨c + 1, μ', g1, g2, g3, g6, fun _ => ⟨rfl, g4, g5⟩⟩
  · obtain ⟨c', μ', g1, g2, g3, g4⟩ := put_any (d := d) (x := x) ha h
    exact ⟨c', μ', g1, g2, g3, g4, fun z => absurd z q⟩
theorem aim_any {c : Nat} {x : Int32} {μ : Mem} (ha : 200 < a1) (h : LwC a1 c μ) : ∃ μ', X1_aimHere d a1 x μ μ' ∧ LwC a1 c μ' ∧ KL a1 μ μ' ∧ (∀ k, μ'.1 2 k = μ.1 2 k) ∧ (∀ k, x = nI k → k < c → μ'.1 (a1 + 1) k = nI c ∧ ∀ j, j ≠ k → μ'.1 (a1 + 1) j = μ.1 (a1 + 1) j) := by
  have h5 := h.1
  by_cases e0 : x < 0
  · refine ⟨μ, X1_aimHere_ok (tpos e0 rfl), h, Kz.refl, fun _ => rfl, fun k z hk => ?_⟩
    rw [z] at e0
    exact absurd e0 (nI_nlt (b := 0) (by omega) (by omega))
  · by_cases e1 : μ.1 a1 3 ≤ x
    · refine ⟨μ, X1_aimHere_ok (tneg e0 (tpos e1 rfl)), h, Kz.refl, fun _ => rfl, fun k z hk => ?_⟩
      rw [z, h.2] at e1
      have := (nI_le_iff (by omega) (by omega)).1 e1
      omega
    · obtain ⟨n, hn, rfl⟩ := nI_ex (x := x) (by rw [Int32.not_lt] at e0; exact e0)
      have hn2 : n < c := by
        rw [h.2] at e1
        exact Nat.lt_of_not_le fun z => e1 ((nI_le_iff (by omega) (by omega)).2 z)
      refine ⟨sI μ (a1 + 1) n (nI c), X1_aimHere_ok (tneg e0 (tneg e1 ⟨vp_inN (by omega) (by decide), ?_⟩)), ⟨h.1, by rw [sI_n (by omega)]; exact h.2⟩, Kz.sI (by unfold lwC; omega), fun k => by rw [sI_n (by omega)], fun k z hk => ?_⟩
      · rw [nI_clamp (by omega), h.2]
        rintro μ1 rfl
        rfl
      · have := nI_inj (by omega) (by omega) z
        subst this
        exact ⟨sI_1, fun j hj => sI_k hj⟩
def bodyX (d a1 : Nat) (x2 : Int32) (μ μ' : Mem) : Prop := (∃ (y15 : Int32) (μ13 : Mem), X4_accept d 9 μ y15 μ13 ∧ (∃ (μ16 : Mem), X4_readSum d a1 0 μ13 μ16 ∧ (∃ (y20 : Int32) (μ18 : Mem), X4_accept d 29 μ16 y20 μ18 ∧ (∃ (μ21 : Mem), X4_readSum d a1 0 μ18 μ21 ∧ (∃ (y25 : Int32) (μ23 : Mem), X4_accept d 10 μ21 y25 μ23 ∧ (∃ (y28 : Int32) (μ26 : Mem), X1_putUnlessLess d a1 μ23 y28 μ26 ∧ (∃ (μ29 : Mem), X4_readSum d a1 0 μ26 μ29 ∧ (∃ (y33 : Int32) (μ31 : Mem), X4_accept d 11 μ29 y33 μ31 ∧ (∃ (μ34 : Mem), X1_put d a1 (-15) μ31 μ34 ∧ (∃ (μ36 : Mem), X1_aimHere d a1 y28 μ34 μ36 ∧ X4_readLaw_at22 d a1 (x2 + 1) μ36 μ'))))))))))
theorem body_c {c : Nat} {q : Qs} {x2 : Int32} {μ : Mem} (ha : 200 < a1) (hV : TV S M T) (hT : TC M T μ) (h : QSc M T q μ) (hL : LwC a1 c μ) (hc : Le' c q) : ∃ c' μ1, (∀ μ', X4_readLaw_at22 (d + 15) a1 (x2 + 1) μ1 μ' → bodyX (d + 15) a1 x2 μ μ') ∧ QSc M T (q7' T q) μ1 ∧ LwC a1 c' μ1 ∧ KL a1 μ μ1 ∧ Le' c' (q7' T q) ∧
    (∀ j, q7' T q = .inl j → (wfD 31 (cdQ T (q1' T q)) 0 1 ∧ wfD 31 (cdQ T (q3' T q)) 0 1 ∧ wfD 31 (cdQ T (q5' T q)) 0 1) ∧ c' = c + (cdQ T (q1' T q)).length + (cdQ T (q3' T q)).length + 2 + (cdQ T (q5' T q)).length + 1 ∧ (∀ k, k < c → μ1.1 (a1 + 1) k = μ.1 (a1 + 1) k) ∧
      cCodes μ1 a1 c (cdQ T (q1' T q)) ∧ cCodes μ1 a1 (c + (cdQ T (q1' T q)).length) (cdQ T (q3' T q)) ∧ μ1.1 (a1 + 1) (c + (cdQ T (q1' T q)).length + (cdQ T (q3' T q)).length) = -14 ∧ μ1.1 (a1 + 1) (c + (cdQ T (q1' T q)).length + (cdQ T (q3' T q)).length + 1) = nI (c + (cdQ T (q1' T q)).length + (cdQ T (q3' T q)).length + 2 + (cdQ T (q5' T q)).length + 1) ∧ cCodes μ1 a1 (c + (cdQ T (q1' T q)).length + (cdQ T (q3' T q)).length + 2) (cdQ T (q5' T q)) ∧ μ1.1 (a1 + 1) (c + (cdQ T (q1' T q)).length + (cdQ T (q3' T q)).length + 2 + (cdQ T (q5' T q)).length) = -15) := by
  have hm := hV.2.1
  obtain ⟨m1, a11, a12, a13⟩ := accQ (d := d + 14) (k := 9) hV hT (by decide) (by decide) h
  have T1 := hT.kl ha a13.l
  have L1 := hL.ka ha a13
  have e1 : Le' (c + 1) (q1' T q) := acq_le hc
  obtain ⟨c2, m2, s11, s12, s13, s14, s15⟩ := sumQ (d := d) ha hV T1 a12 L1 (fun i hi => by have := e1 i hi; omega)
  have T2 := T1.kl ha s14
  have e2 : Le' (c2 + 1) (eQ T (q1' T q)) := fun j hj => by
    obtain ⟨_, z1, _, i, z2, z3⟩ := s15 j hj
    have := e1 i z2
    have z1 : c2 = c + (cdQ T (q1' T q)).length := z1
    have z3 : i + (cdQ T (q1' T q)).length ≤ j := z3
    omega
  obtain ⟨m3, a21, a22, a23⟩ := accQ (d := d + 14) (k := 29) hV T2 (by decide) (by decide) s12
  have T3 := T2.kl ha a23.l
  have L3 := s13.ka ha a23
  have e3 : Le' (c2 + 2) (q3' T q) := acq_le e2
  obtain ⟨c4, m4, s21, s22, s23, s24, s25⟩ := sumQ (d := d) ha hV T3 a22 L3 (fun i hi => by have := e3 i hi; omega)
  have T4 := T3.kl ha s24
  have e4 : Le' (c4 + 2) (eQ T (q3' T q)) := fun j hj => by
    obtain ⟨_, z1, _, i, z2, z3⟩ := s25 j hj
    have := e3 i z2
    have z1 : c4 = c2 + (cdQ T (q3' T q)).length := z1
    have z3 : i + (cdQ T (q3' T q)).length ≤ j := z3
    omega
  obtain ⟨m5, a31, a32, a33⟩ := accQ (d := d + 14) (k := 10) hV T4 (by decide) (by decide) s22
  have T5 := T4.kl ha a33.l
  have L5 := s23.ka ha a33
  have e5 : Le' (c4 + 3) (q5' T q) := acq_le e4
  obtain ⟨c6, m6, p11, p12, p13, p14, p15⟩ := putQ (d := d + 14) (x := -14) ha L5
  obtain ⟨c7, m7, p21, p22, p23, p24, p25⟩ := putQ (d := d + 14) (x := 0) ha p12
  have T7 := (T5.kl ha p13).kl ha p23
  have Q7 : QSc M T (q5' T q) m7 := (QSc.same (QSc.same a32 p14) p24)
  have cl : ∀ i, q5' T q = .inl i → c4 + 3 ≤ i ∧ i ≤ 400 := fun i hi => by
    refine ⟨e5 i hi, ?_⟩
    rw [hi] at Q7
    have := Q7.1
    omega
  have e7 : Le' (c7 + 1) (q5' T q) := fun i hi => by
    have := cl i hi
    have z1 := (p15 (by omega)).1
    have z2 := (p25 (by omega)).1
    omega
  obtain ⟨c8, m8, s31, s32, s33, s34, s35⟩ := sumQ (d := d) ha hV T7 Q7 p22 (fun i hi => by have := e7 i hi; omega)
  have T8 := T7.kl ha s34
  have e8 : Le' (c8 + 1) (eQ T (q5' T q)) := fun j hj => by
    obtain ⟨_, z1, _, i, z2, z3⟩ := s35 j hj
    have := e7 i z2
    omega
  obtain ⟨m9, a41, a42, a43⟩ := accQ (d := d + 14) (k := 11) hV T8 (by decide) (by decide) s32
  have L9 := s33.ka ha a43
  have e9 : Le' (c8 + 2) (q7' T q) := acq_le e8
  obtain ⟨cA, mA, p31, p32, p33, p34, p35⟩ := putQ (d := d + 15) (x := -15) ha L9
  have eA : Le' (cA + 1) (q7' T q) := fun i hi => by
    have := e9 i hi
    have q9 : QSc M T (q7' T q) m9 := a42
    rw [hi] at q9
    have := q9.1
    have z1 := (p35 (by omega)).1
    omega
  obtain ⟨mB, b1, b2, b3, b4, b5⟩ := aim_any (d := d + 15) (x := m7.1 a1 3 - 1) ha p32
  refine ⟨cA, mB, fun μ' hk => ⟨_, m1, a11, m2, s11, _, m3, a21, m4, s21, _, m5, a31, _, m7, X1_putUnlessLess_ok ⟨m6, p11, m7, p21, rfl, rfl⟩, m8, s31, _, m9, a41, mA, p31, mB, b1, hk⟩, QSc.same (QSc.same a42 p34) b4, b2, ?_, fun i hi => by have := eA i hi; omega, fun j hj => ?_⟩
  · exact (((a13.l.trans s14).trans (a23.l.trans s24)).trans ((a33.l.trans p13).trans (p23.trans s34))).trans (a43.l.trans (p33.trans b3))
  · obtain ⟨i6, y6, _, _, rfl⟩ := acq_inl hj
    obtain ⟨P3, w1, w2, i5, w3, w4⟩ := s35 i6 y6
    obtain ⟨i4, y4, _, _, y5⟩ := acq_inl w3
    obtain ⟨P2, v1, v2, i3, v3, v4⟩ := s25 i4 y4
    obtain ⟨i2, y2, _, _, y3⟩ := acq_inl v3
    obtain ⟨P1, u1, u2, i1, u3, u4⟩ := s15 i2 y2
    have l5 := cl i5 w3
    obtain ⟨n6, n61, n62⟩ := p15 (by omega)
    obtain ⟨n7, n71, n72⟩ := p25 (by omega)
    have l8 := e8 i6 y6
    have l6 : i6 ≤ 400 := by
      rw [y6] at s32
      have := s32.1
      omega
    obtain ⟨nA, nA1, nA2⟩ := p35 (by omega)
    have u1 : c2 = c + (cdQ T (q1' T q)).length := u1
    have v1 : c4 = c2 + (cdQ T (q3' T q)).length := v1
    have P1 : PutC a1 c (cdQ T (q1' T q)) m1 m2 := P1
    have P2 : PutC a1 c2 (cdQ T (q3' T q)) m3 m4 := P2
    have u2 : wfD 31 (cdQ T (q1' T q)) 0 1 := u2
    have v2 : wfD 31 (cdQ T (q3' T q)) 0 1 := v2
    generalize (cdQ T (q1' T q)) = u at *
    generalize (cdQ T (q3' T q)) = v at *
    generalize (cdQ T (q5' T q)) = w at *
    have x7 : m7.1 a1 3 - 1 = nI (c4 + 1) := by
      rw [p22.2, n7, n6]
      exact nI_pred _
    obtain ⟨g1, g2⟩ := b5 (c4 + 1) x7 (by omega)
    -- what lies under k is as it was when it was put
    have kk : ∀ {x y : Mem} (k : Nat), KA x y → y.1 (a1 + 1) k = x.1 (a1 + 1) k := fun k z => z.at (by unfold adv; omega)
    have tB : ∀ k, k ≠ c4 + 1 → k ≠ c8 → mB.1 (a1 + 1) k = m8.1 (a1 + 1) k := fun k k1 k2 => by rw [g2 k k1, nA2 k k2, kk k a43]
    have t8 : ∀ k, k < c4 + 2 → m8.1 (a1 + 1) k = m7.1 (a1 + 1) k := fun k hk => P3.2.2 k (by omega)
    have t7 : ∀ k, k < c4 → m7.1 (a1 + 1) k = m4.1 (a1 + 1) k := fun k hk => by rw [n72 k (by omega), n62 k (by omega), kk k a33]
    have t4 : ∀ k, k < c2 → m4.1 (a1 + 1) k = m2.1 (a1 + 1) k := fun k hk => by rw [P2.2.2 k hk, kk k a23]
    have t1 : ∀ k, k < c → m2.1 (a1 + 1) k = μ.1 (a1 + 1) k := fun k hk => by rw [P1.2.2 k hk, kk k a13]
    refine ⟨⟨u2, v2, w2⟩, by omega, fun k hk => ?_, ?_, ?_, ?_, ?_, ?_, ?_⟩
    · rw [tB k (by omega) (by omega), t8 k (by omega), t7 k (by omega), t4 k (by omega), t1 k hk]
    · refine cC_same (fun k k1 k2 => ?_) P1.2.1
      rw [tB k (by omega) (by omega), t8 k (by omega), t7 k (by omega), t4 k (by omega)]
    · rw [← u1]
      refine cC_same (fun k k1 k2 => ?_) P2.2.1
      rw [tB k (by omega) (by omega), t8 k (by omega), t7 k (by omega)]
    · rw [← u1, ← v1, tB _ (by omega) (by omega), t8 _ (by omega), n72 _ (by omega)]
      exact n61
    · rw [← u1, ← v1, g1]
      congr 1
      omega
    · rw [← u1, ← v1, show c4 + 2 = c7 by omega]
      refine cC_same (fun k k1 k2 => ?_) P3.2.1
      rw [tB k (by omega) (by omega)]
    · rw [← u1, ← v1, show c4 + 2 + w.length = c8 by omega, g2 _ (by omega)]
      exact nA1
theorem at22F {c f pl : Nat} {x2 : Int32} {μ : Mem} (ha : 200 < a1) (hF : FC f pl μ) (hL : LwC a1 c μ) : ∃ μ', X4_readLaw_at22 (d + 15) a1 x2 μ μ' ∧ Bd a1 f pl μ μ' := by
  obtain ⟨μ1, g1, g2, ⟨c1, g3⟩, g4⟩ := sumF (d := d + 12) (x2 := 0) ha hF hL
  obtain ⟨c2, μ2, p1, p2, p3, p4⟩ := put_any (d := d + 15) (x := -15) ha g3
  refine ⟨μ2, X4_readLaw_at22_ok ⟨fun _ => ⟨μ1, g1, μ2, p1, rfl⟩, fun _ => tne hF.ne ⟨μ1, g1, μ2, p1, rfl⟩⟩, g2.same p4, ⟨c2, p2⟩, g4.trans p3⟩
theorem cLaw_same {a : Nat} {μ μ' : Mem} : ∀ {L : Lw} {c n : Nat}, (∀ k, c ≤ k → k < n → μ'.1 (a + 1) k = μ.1 (a + 1) k) → cLaw μ a c L n → cLaw μ' a c L n
  | [], _, _, _, h => h
  | (none, w) :: _, c, n, g, h => ⟨cC_same (fun k k1 k2 => g k (by omega) (by have := h.2.2.1; omega)) h.1, by rw [g _ (by omega) (by have := h.2.2.1; omega)]; exact h.2.1, h.2.2⟩
  | (some (u, v), w) :: r, c, n, g, h => by
    have l := h.2.2.2.2.2.2.le
    exact ⟨cC_same (fun k k1 k2 => g k (by omega) (by omega)) h.1, cC_same (fun k k1 k2 => g k (by omega) (by omega)) h.2.1, by rw [g _ (by omega) (by omega)]; exact h.2.2.1, by rw [g _ (by omega) (by omega)]; exact h.2.2.2.1, cC_same (fun k k1 k2 => g k (by omega) (by omega)) h.2.2.2.2.1, by rw [g _ (by omega) (by omega)]; exact h.2.2.2.2.2.1, cLaw_same (fun k k1 k2 => g k (by omega) k2) h.2.2.2.2.2.2⟩
theorem law_c (ha : 200 < a1) (hV : TV S M T) : ∀ (r c : Nat) (q : Qs) (μ : Mem), r ≤ 4 → TC M T μ → QSc M T q μ → LwC a1 c μ → Le' c q → ∃ n μ', X4_readLaw_at22 (d + 15) a1 (nI (4 - r)) μ μ' ∧ QSc M T (lawP T r q).2 μ' ∧ LwC a1 n μ' ∧ KL a1 μ μ' ∧ ∀ j, (lawP T r q).2 = .inl j → n ≤ j + 1 ∧ cLaw μ' a1 c (lawP T r q).1 n ∧ wfL (lawP T r q).1 ∧ ∀ k, k < c → μ'.1 (a1 + 1) k = μ.1 (a1 + 1) k
  | r, c, .inr e, μ, hr, hT, h, hL, hc => by
    obtain ⟨μ', g1, g2, ⟨n, g3⟩, g4⟩ := at22F (d := d) (x2 := nI (4 - r)) ha h.2 hL
    have e1 : (lawP T r (.inr e)).2 = .inr e := by cases r <;> rfl
    refine ⟨n, μ', g1, ?_, g3, g4, fun j z => ?_⟩
    · rw [e1]; exact ⟨h.1, g2⟩
    · rw [e1] at z; cases z
  | r, c, .inl i, μ, hr, hT, h, hL, hc => by
    have hm := hV.2.1
    have vi := hV.2.2.1 i h.1
    have f0 : μ.1 2 6 = 0 := h.2.1
    have k0 : μ.1 2 3 = nI (kd T i) := h.2.2.2
    have x4 : ¬ (4 : Int32) < nI (4 - r) := nI_nlt (a := 4) (by omega) (by decide)
    by_cases e : kd T i = 9
    · have eb : isIf T (.inl i) = true := by show (kd T i == 9) = true; rw [e]; rfl
      match r, hr with
      | 0, hr =>
        have el : lawP T 0 (.inl i) = ([], .inr (2, i)) := by unfold lawP; rw [if_pos eb]; rfl
        obtain ⟨μ1, g1, g2, g3⟩ := blame_c (d := d + 15) (f := 2) hT hm h.2.1 h.2.2.1 h.1 (by omega)
        obtain ⟨c', μ2, b1, b2, b3, b4, b5, _⟩ := body_c (d := d) (x2 := nI 4) ha hV (hT.kl ha g3.l) (q := .inr (2, i)) ⟨h.1, g2⟩ (hL.ka ha g3) (fun z hz => by cases hz)
        obtain ⟨μ', t1, t2, ⟨n, t3⟩, t4⟩ := at22F (d := d) (x2 := nI 4 + 1) (f := 2) (pl := pc' T i) ha b2.2 b3
        refine ⟨n, μ', X4_readLaw_at22_ok (tneg x4 (teq f0 (teq (by rw [k0, e]; rfl) (teq rfl ⟨μ1, g1, b1 _ t1⟩)))), ?_, t3, (g3.l.trans b4).trans t4, fun j z => ?_⟩
        · rw [el]; exact ⟨h.1, t2⟩
        · rw [el] at z; cases z
      | r + 1, hr =>
        have el : lawP T (r + 1) (.inl i) = ((some (cdQ T (q1' T (.inl i)), cdQ T (q3' T (.inl i))), cdQ T (q5' T (.inl i))) :: (lawP T r (q7' T (.inl i))).1, (lawP T r (q7' T (.inl i))).2) := by rw [lawP, if_pos eb]
        obtain ⟨c', μ1, b1, b2, b3, b4, b5, b6⟩ := body_c (d := d) (x2 := nI (4 - (r + 1))) ha hV hT h hL hc
        obtain ⟨n, μ', t1, t2, t3, t4, t5⟩ := law_c ha hV r c' (q7' T (.inl i)) μ1 (by omega) (hT.kl ha b4) b2 b3 b5
        have x5 : nI (4 - (r + 1)) + 1 = nI (4 - r) := by rw [nI_1]; congr 1; omega
        refine ⟨n, μ', X4_readLaw_at22_ok (tneg x4 (teq f0 (teq (by rw [k0, e]; rfl) (tne (fun z => ?_) (b1 μ' (by rw [x5]; exact t1)))))), ?_, t3, b4.trans t4, fun j z => ?_⟩
        · have := nI_inj (b := 4) (by omega) (by decide) z
          omega
        · rw [el]; exact t2
        · rw [el] at z ⊢
          have z : (lawP T r (q7' T (.inl i))).2 = .inl j := z
          obtain ⟨n1, n2, n3, n4⟩ := t5 j z
          have hq7 : ∃ j7, q7' T (.inl i) = .inl j7 := by
            cases hq : q7' T (.inl i) with
            | inl j7 => exact ⟨j7, rfl⟩
            | inr e7 =>
              rw [hq] at z
              have e1 : (lawP T r (.inr e7)).2 = .inr e7 := by cases r <;> rfl
              rw [e1] at z; cases z
          obtain ⟨j7, hq7⟩ := hq7
          obtain ⟨⟨w1, w2, w3⟩, w4, w5, w6, w7, w8, w9, wA, wB⟩ := b6 j7 hq7
          have lc : c' ≤ n := Nat.le_of_lt n2.le
          refine ⟨n1, ?_, ⟨w1, w2, w3, n3⟩, fun k hk => by rw [n4 k (by omega), w5 k hk]⟩
          show cCodes μ' a1 c _ ∧ _
          refine ⟨cC_same (fun k k1 k2 => n4 k (by omega)) w6, cC_same (fun k k1 k2 => n4 k (by omega)) w7, by rw [n4 _ (by omega)]; exact w8, by rw [n4 _ (by omega)]; exact w9, cC_same (fun k k1 k2 => n4 k (by omega)) wA, by rw [n4 _ (by omega)]; exact wB, ?_⟩
          rw [← w4]
          exact n2
    · have eb : ¬ isIf T (.inl i) = true := by show ¬ (kd T i == 9) = true; rw [beq_iff_eq]; exact e
      have el : lawP T r (.inl i) = ([(none, cdQ T (.inl i))], eQ T (.inl i)) := by
        cases r with
        | zero => unfold lawP; rw [if_neg eb]
        | succ r => rw [lawP, if_neg eb]
      obtain ⟨c1, μ1, s1, s2, s3, s4, s5⟩ := sumQ (d := d) ha hV hT h hL hc
      obtain ⟨c2, μ2, p1, p2, p3, p4, p5⟩ := putQ (d := d + 15) (x := -15) ha s3
      refine ⟨c2, μ2, X4_readLaw_at22_ok (tneg x4 (teq f0 (tne (fun z => ?_) ⟨μ1, s1, μ2, p1, rfl⟩))), ?_, p2, s4.trans p3, fun j z => ?_⟩
      · rw [k0] at z
        exact e (nI_inj (b := 9) (by omega) (by decide) z)
      · rw [el]; exact QSc.same s2 p4
      · rw [el] at z ⊢
        obtain ⟨P, v1, v2, i', v3, v4⟩ := s5 j z
        cases v3
        have l := hc i rfl
        have lj : j ≤ 400 := by
          have z : eQ T (.inl i) = .inl j := z
          rw [z] at s2
          have := s2.1
          omega
        obtain ⟨n1, n2, n3⟩ := p5 (by omega)
        refine ⟨by omega, ⟨cC_same (fun k k1 k2 => n3 k (by omega)) P.2.1, by rw [← v1]; exact n2, by omega, rfl⟩, ⟨v2, rfl⟩, fun k hk => by rw [n3 k (by omega), P.2.2 k hk]⟩
end
end Rd
