/-! ===== read: a law, the model's side: branches ===== -/
section Rd
variable {d : Nat}
section
variable {S M : Nat} {T : Nat → Tk} {C0 B0 : Nat}
def lmM (C0 B0 a k : Nat) : Prop := exM C0 a k ∨ (a = 0 ∧ k = 36) ∨ (23 ≤ a ∧ a ≤ 27 ∧ B0 ≤ k ∧ k < B0 + 130)
abbrev KB' (C0 B0 : Nat) (μ μ' : Mem) : Prop := Kz (lmM C0 B0) (fun _ => False) μ μ'
theorem KX.b {μ μ' : Mem} (h : KX C0 μ μ') : KB' C0 B0 μ μ' := h.mono (fun a k q => Or.inl q) (fun _ q => q)
theorem TM.kb {μ μ' : Mem} (h : TM M T μ) (k : KB' C0 B0 μ μ') : TM M T μ' := h.kz k (fun j => by unfold lmM exM; omega) (fun j => by unfold lmM exM; omega) (fun j => by unfold lmM exM; omega) (fun z => z)
def mB' (C0 ce b : Nat) (q : Br) (μ : Mem) : Prop := ∃ t e : Nat, μ.1 26 b = nI t ∧ μ.1 27 b = nI e ∧ mCodes μ t q.2 ∧ t + q.2.length = e ∧ e ≤ ce ∧ (match q.1 with
  | none => μ.1 23 b = 0 ∧ C0 ≤ t
  | some (u, v) => μ.1 23 b = 1 ∧ ∃ f m : Nat, C0 ≤ f ∧ μ.1 24 b = nI f ∧ μ.1 25 b = nI m ∧ mCodes μ f u ∧ f + u.length = m ∧ mCodes μ m v ∧ m + v.length = t)
theorem mB'.same {ce ce' b : Nat} {q : Br} {μ μ' : Mem} (h : mB' C0 ce b q μ) (h1 : ∀ a, 23 ≤ a → a ≤ 27 → μ'.1 a b = μ.1 a b) (h2 : ∀ j, j < ce → μ'.1 28 j = μ.1 28 j ∧ μ'.1 29 j = μ.1 29 j) (hce : ce ≤ ce') : mB' C0 ce' b q μ' := by
  obtain ⟨t, e, g1, g2, g3, g4, g5, g6⟩ := h
  refine ⟨t, e, (h1 26 (by decide) (by decide)).trans g1, (h1 27 (by decide) (by decide)).trans g2, mC_same (fun j _ k2 => h2 j (by omega)) g3, g4, by omega, ?_⟩
  obtain ⟨o, w⟩ := q
  cases o with
  | none => exact ⟨(h1 23 (by decide) (by decide)).trans g6.1, g6.2⟩
  | some uv =>
    obtain ⟨u, v⟩ := uv
    obtain ⟨k0, f, m, k1, k2, k3, k4, k5, k6, k7⟩ := g6
    exact ⟨(h1 23 (by decide) (by decide)).trans k0, f, m, k1, (h1 24 (by decide) (by decide)).trans k2, (h1 25 (by decide) (by decide)).trans k3, mC_same (fun j _ z => h2 j (by omega)) k4, k5, mC_same (fun j _ z => h2 j (by omega)) k6, k7⟩
def mL' (C0 ce : Nat) (μ : Mem) : Nat → Lw → Prop
  | _, [] => True
  | b, q :: r => mB' C0 ce b q μ ∧ mL' C0 ce μ (b + 1) r
theorem mL'.same {ce ce' : Nat} {μ μ' : Mem} : ∀ {L : Lw} {b : Nat}, mL' C0 ce μ b L → (∀ a k, 23 ≤ a → a ≤ 27 → b ≤ k → k < b + L.length → μ'.1 a k = μ.1 a k) → (∀ j, j < ce → μ'.1 28 j = μ.1 28 j ∧ μ'.1 29 j = μ.1 29 j) → ce ≤ ce' → mL' C0 ce' μ' b L
  | [], _, _, _, _, _ => trivial
  | q :: r, b, h, h1, h2, h3 => ⟨h.1.same (fun a k1 k2 => h1 a b k1 k2 (Nat.le_refl _) (by rw [List.length_cons]; omega)) h2 h3, mL'.same h.2 (fun a k k1 k2 k3 k4 => h1 a k k1 k2 (by omega) (by rw [List.length_cons]; omega)) h2 h3⟩
theorem termQ {b c : Nat} {q : Qs} {μ : Mem} (hC : C0 + 420 ≤ 840) (hB : B0 + 130 ≤ 260) (hb : B0 ≤ b ∧ b < B0 + 130) (hV : TV S M T) (hT : TM M T μ) (h : QSm M T q μ) (hL : CdB C0 c μ) (hc : LeM C0 c q) (h36 : μ.1 0 36 = nI b) : ∃ c' μ', X10_term (d + 4) μ μ' ∧ QSm M T (eQ T q) μ' ∧ CdB C0 c' μ' ∧ μ'.1 0 36 = nI (b + 1) ∧ KB' C0 B0 μ μ' ∧ (μ'.1 26 b = nI c ∧ μ'.1 27 b = nI c') ∧ (∀ a k, 23 ≤ a → a ≤ 27 → (k ≠ b ∨ a < 26) → μ'.1 a k = μ.1 a k) ∧ (∀ j, eQ T q = .inl j → mCodes μ' c (cdQ T q) ∧ (∀ k, k < c → μ'.1 28 k = μ.1 28 k ∧ μ'.1 29 k = μ.1 29 k) ∧ c' = c + (cdQ T q).length ∧ ∃ i, q = .inl i ∧ i + (cdQ T q).length ≤ j ∧ i < j) := by
  have k0 : KB' C0 B0 μ (sI μ 26 b (nI c)) := Kz.sI (by unfold lmM; omega)
  have L1 : CdB C0 c (sI μ 26 b (nI c)) := ⟨hL.1, hL.2.1, by rw [sI_n (by decide)]; exact hL.2.2⟩
  obtain ⟨c', μ1, g1, g2, g3, g4, g5⟩ := exprG (d := d) hC hV (hT.kb k0) (h.n (a := 26) (k := b) (x := nI c) (by decide)) L1 hc
  have e36 : μ1.1 0 36 = nI b := by rw [g4.at (by unfold exM; omega), sI_n (by decide)]; exact h36
  have k2 : Kz (fun a k => (a = 27 ∧ k = b) ∨ (a = 0 ∧ k = 36)) (fun _ => False) μ1 (sI (sI μ1 27 b (nI c')) 0 36 (nI (b + 1))) := (Kz.sI (by omega)).trans (Kz.sI (by omega))
  refine ⟨c', sI (sI μ1 27 b (nI c')) 0 36 (nI (b + 1)), X10_term_ok ?_, g2.of (k2.at (by omega)) (k2.at (by omega)) (k2.at (by omega)) (k2.at (by omega)), ⟨g3.1, g3.2.1, (k2.at (by omega)).trans g3.2.2⟩, sI_1, k0.trans (g4.b.trans ((Kz.sI (by unfold lmM; omega)).trans (Kz.sI (by unfold lmM; omega)))), ⟨?_, ?_⟩, fun a k a1 a2 a3 => ?_, fun j hj => ?_⟩
  · rw [h36, hL.2.2]
    refine ⟨vp_inN (by omega) (by decide), ?_⟩
    rw [nI_clamp (by omega)]
    have fin : vp_in (μ1.1 0 36) 260 ∧ (∀ μ2 : Mem, μ2 = sI μ1 27 ((μ1.1 0 36).toNatClampNeg) (μ1.1 0 42) → (∀ μ3 : Mem, μ3 = sI μ2 0 36 ((μ2.1 0 36) + 1) → sI (sI μ1 27 b (nI c')) 0 36 (nI (b + 1)) = μ3)) := by
      rw [e36, g3.2.2]
      refine ⟨vp_inN (by omega) (by decide), ?_⟩
      rw [nI_clamp (by omega)]
      rintro μ2 rfl
      rw [sI_n (show 0 ≠ 27 by decide), e36, nI_1]
      rintro μ3 rfl
      rfl
    rintro μ0 rfl
    refine ⟨fun z => ?_, fun z => ⟨μ1, g1.2 z, fin⟩⟩
    have := g1.1 z
    rw [this] at fin
    rw [this]
    exact fin
  · rw [k2.at (by omega), g4.at (by unfold exM; omega), sI_1]
  · rw [sI_n (by decide), sI_1]
  · rw [k2.at (by omega), g4.at (by unfold exM; omega)]
    by_cases e : a = 26
    · subst e
      rw [sI_k (by omega)]
    · rw [sI_n e]
  · obtain ⟨P, v1, v2⟩ := g5 j hj
    refine ⟨mC_same (fun j _ _ => ⟨k2.at (by omega), k2.at (by omega)⟩) P.2.1, fun k hk => ?_, v1, v2⟩
    have := P.2.2 k hk
    rw [sI_n (by decide), sI_n (by decide)] at this
    rw [k2.at (by omega), k2.at (by omega)]
    exact this
def bodyMX (d : Nat) (x1 x2 x3 : Int32) (μ8 μ' : Mem) : Prop := (∃ (μ18 : Mem), X10_goesOn d μ8 μ18 ∧ vp_in (μ18.1 0 36) 260 ∧ (∀ μ20 : Mem, μ20 = sI μ18 23 ((μ18.1 0 36).toNatClampNeg) (vp_nar .boolean 1) → vp_in (μ20.1 0 36) 260 ∧ (∀ μ21 : Mem, μ21 = sI μ20 24 ((μ20.1 0 36).toNatClampNeg) (μ20.1 0 42) → (∃ (μ22 : Mem), X10_expression d μ21 μ22 ∧ (∃ (μ24 : Mem), X10_must d 13 μ22 μ24 ∧ vp_in (μ24.1 0 36) 260 ∧ (∀ μ26 : Mem, μ26 = sI μ24 25 ((μ24.1 0 36).toNatClampNeg) (μ24.1 0 42) → (((μ26.1 0 13) ≠ 0 → (∃ (μ27 : Mem), X10_must d 30 μ26 μ27 ∧ (∃ (μ29 : Mem), X10_term d μ27 μ29 ∧ (∃ (μ31 : Mem), X10_must d 31 μ29 μ31 ∧ X10_tellLaw_at12 d x1 x2 (x3 + 1) μ31 μ')))) ∧ ((μ26.1 0 13) = 0 → (∃ (μ33 : Mem), X10_expression d μ26 μ33 ∧ (∃ (μ35 : Mem), X10_must d 30 μ33 μ35 ∧ (∃ (μ37 : Mem), X10_term d μ35 μ37 ∧ (∃ (μ39 : Mem), X10_must d 31 μ37 μ39 ∧ X10_tellLaw_at12 d x1 x2 (x3 + 1) μ39 μ'))))))))))))
theorem body_m {b c i : Nat} {x1 x2 x3 : Int32} {μ : Mem} (hC : C0 + 420 ≤ 840) (hB : B0 + 130 ≤ 260) (hb : B0 ≤ b ∧ b < B0 + 130) (hV : TV S M T) (hT : TM M T μ) (hk : kd T i = 9) (h : QSm M T (.inl i) μ) (hL : CdB C0 c μ) (hc : LeM C0 c (.inl i)) (h36 : μ.1 0 36 = nI b) : ∃ c' μ1, (∀ μ', X10_tellLaw_at12 (d + 4) x1 x2 (x3 + 1) μ1 μ' → bodyMX (d + 4) x1 x2 x3 μ μ') ∧ QSm M T (q7' T (.inl i)) μ1 ∧ CdB C0 c' μ1 ∧ μ1.1 0 36 = nI (b + 1) ∧ KB' C0 B0 μ μ1 ∧ LeM C0 c' (q7' T (.inl i)) ∧ (∀ a k, 23 ≤ a → a ≤ 27 → k ≠ b → μ1.1 a k = μ.1 a k) ∧
    (∀ j, q7' T (.inl i) = .inl j → mB' C0 c' b (some (cdQ T (q1' T (.inl i)), cdQ T (q3' T (.inl i))), cdQ T (q5' T (.inl i))) μ1 ∧ (∀ k, k < c → μ1.1 28 k = μ.1 28 k ∧ μ1.1 29 k = μ.1 29 k) ∧ c ≤ c' ∧ i + 7 ≤ j) := by
  have hm := hV.2.1
  have bin : vp_in (nI b) 260 := vp_inN (by omega) (by decide)
  obtain ⟨m1, a11, a12, a13⟩ := goQ (d := d + 3) hV hT h (by omega)
  rw [hk] at a12
  have e36 : m1.1 0 36 = nI b := (a13.at (by unfold mvM; omega)).trans h36
  have e42 : m1.1 0 42 = nI c := (a13.at (by unfold mvM; omega)).trans hL.2.2
  have k2 : Kz (fun a k => (a = 23 ∨ a = 24) ∧ k = b) (fun _ => False) m1 (sI (sI m1 23 b 1) 24 b (nI c)) := (Kz.sI (by omega)).trans (Kz.sI (by omega))
  have kb2 : KB' C0 B0 μ (sI (sI m1 23 b 1) 24 b (nI c)) := (a13.x (C0 := C0)).b.trans (k2.mono (fun a k q => by unfold lmM; omega) (fun _ q => q))
  have v23 : (sI (sI m1 23 b 1) 24 b (nI c)).1 23 b = 1 := by rw [sI_n (by decide), sI_1]
  have v24 : (sI (sI m1 23 b 1) 24 b (nI c)).1 24 b = nI c := sI_1
  have go2 : ∀ {P : Mem → Prop}, P (sI (sI m1 23 b 1) 24 b (nI c)) → vp_in (m1.1 0 36) 260 ∧ (∀ μ20 : Mem, μ20 = sI m1 23 ((m1.1 0 36).toNatClampNeg) (vp_nar .boolean 1) → vp_in (μ20.1 0 36) 260 ∧ (∀ μ21 : Mem, μ21 = sI μ20 24 ((μ20.1 0 36).toNatClampNeg) (μ20.1 0 42) → P μ21)) := fun {P} hP => by
    rw [e36]
    refine ⟨bin, ?_⟩
    rw [nI_clamp (by omega), nar1]
    rintro μ20 rfl
    rw [sI_n (show 0 ≠ 23 by decide), e36, e42]
    refine ⟨bin, ?_⟩
    rw [nI_clamp (by omega)]
    rintro μ21 rfl
    exact hP
  have Q2 : QSm M T (q1' T (.inl i)) (sI (sI m1 23 b 1) 24 b (nI c)) := (a12.n (by decide)).n (by decide)
  have T2 := hT.kb kb2
  have C2 : CdB C0 c (sI (sI m1 23 b 1) 24 b (nI c)) := ⟨hL.1, hL.2.1, (k2.at (by omega)).trans e42⟩
  have b2 : (sI (sI m1 23 b 1) 24 b (nI c)).1 0 36 = nI b := (k2.at (by omega)).trans e36
  have f2 : ∀ a k, 23 ≤ a → a ≤ 27 → k ≠ b → (sI (sI m1 23 b 1) 24 b (nI c)).1 a k = μ.1 a k := fun a k h1 h2 h3 => by rw [k2.at (by omega), a13.at (by unfold mvM; omega)]
  have g2 : ∀ k, (sI (sI m1 23 b 1) 24 b (nI c)).1 28 k = μ.1 28 k ∧ (sI (sI m1 23 b 1) 24 b (nI c)).1 29 k = μ.1 29 k := fun k => ⟨by rw [k2.at (by omega), a13.at (by unfold mvM; omega)], by rw [k2.at (by omega), a13.at (by unfold mvM; omega)]⟩
  generalize sI (sI m1 23 b 1) 24 b (nI c) = m2 at *
  obtain ⟨c3, m3, s11, s12, s13, s14, s15⟩ := exprQ (d := d + 1) hC hV T2 Q2 C2 (LeM.acq hc)
  have e3 : LeM C0 c3 (eQ T (q1' T (.inl i))) := fun j hj => by
    obtain ⟨_, z1, i', z2, z3, _⟩ := s15 j hj
    have : c ≤ C0 + i' := LeM.acq (T := T) (k := 9) hc i' z2
    omega
  have T3 := T2.kx s14
  obtain ⟨m4, a21, a22, a23⟩ := mustQ (d := d + 2) (k := 29) (x := 13) hV T3 rfl (by decide) (by decide) s12
  have b4 : m4.1 0 36 = nI b := by rw [a23.at (by unfold mvM; omega), s14.at (by unfold exM; omega)]; exact b2
  have c4 : m4.1 0 42 = nI c3 := (a23.at (by unfold mvM; omega)).trans s13.2.2
  have k5 : Kz (fun a k => a = 25 ∧ k = b) (fun _ => False) m4 (sI m4 25 b (nI c3)) := Kz.sI (by omega)
  have kb5 : KB' C0 B0 m2 (sI m4 25 b (nI c3)) := s14.b.trans ((a23.x (C0 := C0)).b.trans (k5.mono (fun a k q => by unfold lmM; omega) (fun _ q => q)))
  have go5 : ∀ {P : Mem → Prop}, P (sI m4 25 b (nI c3)) → vp_in (m4.1 0 36) 260 ∧ (∀ μ26 : Mem, μ26 = sI m4 25 ((m4.1 0 36).toNatClampNeg) (m4.1 0 42) → P μ26) := fun {P} hP => by
    rw [b4, c4]
    refine ⟨bin, ?_⟩
    rw [nI_clamp (by omega)]
    rintro μ26 rfl
    exact hP
  have Q5 : QSm M T (q3' T (.inl i)) (sI m4 25 b (nI c3)) := a22.n (by decide)
  have T5 := T2.kb kb5
  have C5 : CdB C0 c3 (sI m4 25 b (nI c3)) := ⟨s13.1, s13.2.1, (k5.at (by omega)).trans c4⟩
  have b5 : (sI m4 25 b (nI c3)).1 0 36 = nI b := (k5.at (by omega)).trans b4
  have v25 : (sI m4 25 b (nI c3)).1 25 b = nI c3 := sI_1
  have f5 : ∀ a k, 23 ≤ a → a ≤ 27 → (k ≠ b ∨ a < 25) → (sI m4 25 b (nI c3)).1 a k = m2.1 a k := fun a k h1 h2 h3 => by rw [k5.at (by omega), a23.at (by unfold mvM; omega), s14.at (by unfold exM; omega)]
  have g5 : ∀ k, (sI m4 25 b (nI c3)).1 28 k = m3.1 28 k ∧ (sI m4 25 b (nI c3)).1 29 k = m3.1 29 k := fun k => ⟨by rw [k5.at (by omega), a23.at (by unfold mvM; omega)], by rw [k5.at (by omega), a23.at (by unfold mvM; omega)]⟩
  generalize sI m4 25 b (nI c3) = m5 at *
  obtain ⟨c6, m6, s21, s22, s23, s24, s25⟩ := exprG (d := d + 1) hC hV T5 Q5 C5 (LeM.acq e3)
  have e6 : LeM C0 c6 (eQ T (q3' T (.inl i))) := fun j hj => by
    obtain ⟨_, z1, i', z2, z3, _⟩ := s25 j hj
    have : c3 ≤ C0 + i' := LeM.acq (T := T) (k := 29) e3 i' z2
    omega
  have T6 := T5.kx s24
  obtain ⟨m7, a31, a32, a33⟩ := mustQ (d := d + 2) (k := 10) (x := 30) hV T6 rfl (by decide) (by decide) s22
  have T7 := T6.kx (a33.x (C0 := C0))
  have C7 : CdB C0 c6 m7 := ⟨s23.1, s23.2.1, (a33.at (by unfold mvM; omega)).trans s23.2.2⟩
  have b7 : m7.1 0 36 = nI b := by rw [a33.at (by unfold mvM; omega), s24.at (by unfold exM; omega)]; exact b5
  obtain ⟨c8, m8, t1, t2, t3, t4, t5, t6, t7, t8⟩ := termQ (d := d) hC hB hb hV T7 a32 C7 (LeM.acq e6) b7
  have e8 : LeM C0 c8 (eQ T (q5' T (.inl i))) := fun j hj => by
    obtain ⟨_, _, z1, i', z2, z3, _⟩ := t8 j hj
    have : c6 ≤ C0 + i' := LeM.acq (T := T) (k := 10) e6 i' z2
    have z3 : i' + (cdQ T (q5' T (.inl i))).length ≤ j := z3
    have z1 : c8 = c6 + (cdQ T (q5' T (.inl i))).length := z1
    omega
  obtain ⟨m9, a41, a42, a43⟩ := mustQ (d := d + 2) (k := 11) (x := 31) hV (T7.kb t5) rfl (by decide) (by decide) t2
  refine ⟨c8, m9, fun μ' hk' => ⟨m1, a11, go2 ⟨m3, s11, m4, a21, go5 ⟨fun z => ?_, fun z => ⟨m6, s21.2 z, m7, a31, m8, t1, m9, a41, hk'⟩⟩⟩⟩, a42, ⟨t3.1, t3.2.1, (a43.at (by unfold mvM; omega)).trans t3.2.2⟩, (a43.at (by unfold mvM; omega)).trans t4, kb2.trans (kb5.trans (s24.b.trans ((a33.x (C0 := C0)).b.trans (t5.trans (a43.x (C0 := C0)).b)))), LeM.acq e8, fun a k h1 h2 h3 => ?_, fun j hj => ?_⟩
  · have := s21.1 z
    rw [this] at a31
    exact ⟨m7, a31, m8, t1, m9, a41, hk'⟩
  · rw [a43.at (by unfold mvM; omega), t7 a k h1 h2 (Or.inl h3), a33.at (by unfold mvM; omega), s24.at (by unfold exM; omega), f5 a k h1 h2 (Or.inl h3), f2 a k h1 h2 h3]
  · obtain ⟨i6, y6, _, _, rfl⟩ := acq_inl hj
    obtain ⟨w1, w2, w3, i5, w4, w5, w6⟩ := t8 i6 y6
    obtain ⟨i4, y4, _, _, y5⟩ := acq_inl w4
    obtain ⟨P2, v1, i3, v3, v4, v5⟩ := s25 i4 y4
    obtain ⟨i2, y2, _, _, y3⟩ := acq_inl v3
    obtain ⟨P1, u1, i1, u3, u4, u5⟩ := s15 i2 y2
    obtain ⟨i0, y0, _, _, y1⟩ := acq_inl u3
    cases y0
    have w1 : mCodes m8 c6 (cdQ T (q5' T (.inl i))) := w1
    have w3 : c8 = c6 + (cdQ T (q5' T (.inl i))).length := w3
    have nine : ∀ {x y : Mem} (a k : Nat), a ≠ 0 → KV x y → y.1 a k = x.1 a k := fun a k ha z => z.at (by unfold mvM; omega)
    have hi8 : ∀ k, k < c6 → m9.1 28 k = m6.1 28 k ∧ m9.1 29 k = m6.1 29 k := fun k hk' => by
      have := w2 k hk'
      rw [nine 28 k (by decide) a43, nine 29 k (by decide) a43, this.1, this.2, nine 28 k (by decide) a33, nine 29 k (by decide) a33]
      exact ⟨rfl, rfl⟩
    have hi6 : ∀ k, k < c3 → m9.1 28 k = m3.1 28 k ∧ m9.1 29 k = m3.1 29 k := fun k hk' => by
      have z1 := hi8 k (by omega)
      have z2 := P2.2.2 k hk'
      have z3 := g5 k
      rw [z1.1, z1.2, z2.1, z2.2, z3.1, z3.2]
      exact ⟨rfl, rfl⟩
    refine ⟨⟨c6, c8, ?_, ?_, mC_same (fun k _ _ => ⟨nine 28 k (by decide) a43, nine 29 k (by decide) a43⟩) w1, w3.symm, Nat.le_refl _, ?_, c, c3, hL.1, ?_, ?_, mC_same (fun k _ k2 => hi6 k (by omega)) P1.2.1, u1.symm, mC_same (fun k _ k2 => hi8 k (by omega)) P2.2.1, v1.symm⟩, fun k hk' => ?_, by omega, by omega⟩
    · rw [nine 26 b (by decide) a43]; exact t6.1
    · rw [nine 27 b (by decide) a43]; exact t6.2
    · rw [nine 23 b (by decide) a43, t7 23 b (by decide) (by decide) (Or.inr (by decide)), nine 23 b (by decide) a33, s24.at (by unfold exM; omega), f5 23 b (by decide) (by decide) (Or.inr (by decide))]; exact v23
    · rw [nine 24 b (by decide) a43, t7 24 b (by decide) (by decide) (Or.inr (by decide)), nine 24 b (by decide) a33, s24.at (by unfold exM; omega), f5 24 b (by decide) (by decide) (Or.inr (by decide))]; exact v24
    · rw [nine 25 b (by decide) a43, t7 25 b (by decide) (by decide) (Or.inr (by decide)), nine 25 b (by decide) a33, s24.at (by unfold exM; omega)]; exact v25
    · have z1 := hi6 k (by omega)
      have z2 := P1.2.2 k hk'
      have z3 := g2 k
      rw [z1.1, z1.2, z2.1, z2.2, z3.1, z3.2]
      exact ⟨rfl, rfl⟩
end
end Rd
