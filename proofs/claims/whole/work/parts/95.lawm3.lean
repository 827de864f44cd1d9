/-! ===== read: a law, both sides, whole ===== -/
section Rd
variable {d : Nat}
section
variable {S M : Nat} {T : Nat → Tk} {C0 B0 s k : Nat}
def lnM (C0 B0 l a j : Nat) : Prop := lmM C0 B0 a j ∨ ((a = 21 ∨ a = 22) ∧ j = l)
abbrev KN (C0 B0 l : Nat) (μ μ' : Mem) : Prop := Kz (lnM C0 B0 l) (fun _ => False) μ μ'
theorem KB'.n {l : Nat} {μ μ' : Mem} (h : KB' C0 B0 μ μ') : KN C0 B0 l μ μ' := h.mono (fun a k q => Or.inl q) (fun _ q => q)
def endX (d : Nat) (x1 x2 : Int32) (μ μ' : Mem) : Prop := vp_in (μ.1 0 36) 260 ∧ (∀ μ1 : Mem, μ1 = sI μ 23 ((μ.1 0 36).toNatClampNeg) (vp_nar .boolean 0) → (∃ (μ2 : Mem), X10_term d μ1 μ2 ∧ (∃ (μ4 : Mem), X10_must d 4 μ2 μ4 ∧ (((μ4.1 0 13) ≤ 0 → vp_in ((3 * (μ4.1 0 19)) + x1) 6 ∧ (∀ μ6 : Mem, μ6 = sI μ4 21 (((3 * (μ4.1 0 19)) + x1).toNatClampNeg) x2 → vp_in ((3 * (μ6.1 0 19)) + x1) 6 ∧ (∀ μ7 : Mem, μ7 = sI μ6 22 (((3 * (μ6.1 0 19)) + x1).toNatClampNeg) (μ6.1 0 36) → μ' = μ7))) ∧ (¬ (μ4.1 0 13) ≤ 0 → μ' = μ4)))))
theorem end_m {b c : Nat} {q : Qs} {x2 : Int32} {μ : Mem} (hC : C0 + 420 ≤ 840) (hB : B0 + 130 ≤ 260) (hb : B0 ≤ b ∧ b < B0 + 130) (hs : s < 2) (hk : k < 3) (hV : TV S M T) (hT : TM M T μ) (h : QSm M T q μ) (hL : CdB C0 c μ) (hc : LeM C0 c q) (h36 : μ.1 0 36 = nI b) (h19 : μ.1 0 19 = nI s) : ∃ c' μ', endX (d + 4) (nI k) x2 μ μ' ∧ QSm M T (acq T 23 (eQ T q)) μ' ∧ CdB C0 c' μ' ∧ μ'.1 0 36 = nI (b + 1) ∧ KN C0 B0 (3 * s + k) μ μ' ∧ (∀ j, acq T 23 (eQ T q) = .inl j → c' ≤ C0 + j ∧ mB' C0 c' b (none, cdQ T q) μ' ∧ (μ'.1 21 (3 * s + k) = x2 ∧ μ'.1 22 (3 * s + k) = nI (b + 1)) ∧ (∀ z, z < c → μ'.1 28 z = μ.1 28 z ∧ μ'.1 29 z = μ.1 29 z) ∧ (∀ a z, 23 ≤ a → a ≤ 27 → z ≠ b → μ'.1 a z = μ.1 a z) ∧ c ≤ c' ∧ ∃ i, q = .inl i ∧ i + 2 ≤ j) := by
  have hm := hV.2.1
  have bin : vp_in (nI b) 260 := vp_inN (by omega) (by decide)
  have kb1 : KB' C0 B0 μ (sI μ 23 b 0) := Kz.sI (by unfold lmM; omega)
  have k1 : Kz (fun a k => a = 23 ∧ k = b) (fun _ => False) μ (sI μ 23 b 0) := Kz.sI (by omega)
  have v23 : (sI μ 23 b 0).1 23 b = 0 := sI_1
  have Q1 : QSm M T q (sI μ 23 b 0) := h.n (by decide)
  have ent : ∀ {P : Mem → Prop}, P (sI μ 23 b 0) → vp_in (μ.1 0 36) 260 ∧ (∀ μ1 : Mem, μ1 = sI μ 23 ((μ.1 0 36).toNatClampNeg) (vp_nar .boolean 0) → P μ1) := fun {P} hP => by
    rw [h36]
    refine ⟨bin, ?_⟩
    rw [nI_clamp (by omega), nar0]
    rintro μ1 rfl
    exact hP
  generalize sI μ 23 b 0 = m1 at *
  obtain ⟨c', m2, t1, t2, t3, t4, t5, t6, t7, t8⟩ := termQ (d := d) hC hB hb hV (hT.kb kb1) Q1 (⟨hL.1, hL.2.1, (k1.at (by omega)).trans hL.2.2⟩ : CdB C0 c m1) hc ((k1.at (by omega)).trans h36)
  obtain ⟨m3, a1, a2, a3⟩ := mustQ (d := d + 2) (k := 23) (x := 4) hV ((hT.kb kb1).kb t5) rfl (by decide) (by decide) t2
  have C3 : CdB C0 c' m3 := ⟨t3.1, t3.2.1, (a3.at (by unfold mvM; omega)).trans t3.2.2⟩
  have b3 : m3.1 0 36 = nI (b + 1) := (a3.at (by unfold mvM; omega)).trans t4
  have s3 : m3.1 0 19 = nI s := by rw [a3.at (by unfold mvM; omega), t5.at (by unfold lmM exM; omega), k1.at (by omega)]; exact h19
  have K3 : KN C0 B0 (3 * s + k) μ m3 := KB'.n (kb1.trans (t5.trans (a3.x (C0 := C0)).b))
  cases hq : acq T 23 (eQ T q) with
  | inr e =>
    rw [hq] at a2
    exact ⟨c', m3, ent ⟨m2, t1, m3, a1, tneg a2.2.nle rfl⟩, a2, C3, b3, K3, fun j z => by cases z⟩
  | inl j =>
    rw [hq] at a2
    have e3 : (3 * (nI s : Int32)) + nI k = nI (3 * s + k) := by
      rw [show (3 : Int32) = nI 3 from rfl, nI_mul, nJ_add]
    have vin : vp_in (nI (3 * s + k)) 6 := vp_inN (by omega) (by decide)
    have k4 : Kz (fun a j => (a = 21 ∨ a = 22) ∧ j = 3 * s + k) (fun _ => False) m3 (sI (sI m3 21 (3 * s + k) x2) 22 (3 * s + k) (nI (b + 1))) := (Kz.sI (by omega)).trans (Kz.sI (by omega))
    refine ⟨c', sI (sI m3 21 (3 * s + k) x2) 22 (3 * s + k) (nI (b + 1)), ent ⟨m2, t1, m3, a1, tpos (by rw [a2.2.1.1]; decide) ?_⟩, (a2.n (by decide)).n (by decide), ⟨C3.1, C3.2.1, (k4.at (by omega)).trans C3.2.2⟩, (k4.at (by omega)).trans b3, K3.trans (k4.mono (fun a j q => Or.inr q) (fun _ q => q)), fun j' z => ?_⟩
    · rw [s3, e3]
      refine ⟨vin, ?_⟩
      rw [nI_clamp (by omega)]
      rintro μ6 rfl
      rw [sI_n (show 0 ≠ 21 by decide), s3, e3, b3]
      refine ⟨vin, ?_⟩
      rw [nI_clamp (by omega)]
      rintro μ7 rfl
      rfl
    · cases z
      obtain ⟨i6, y6, _, _, y7⟩ := acq_inl hq
      obtain ⟨w1, w2, w3, i5, w4, w5, w6⟩ := t8 i6 y6
      have ci := hc i5 w4
      have nn : ∀ a z, a ≠ 0 → a ≠ 21 → a ≠ 22 → (sI (sI m3 21 (3 * s + k) x2) 22 (3 * s + k) (nI (b + 1))).1 a z = m2.1 a z := fun a z h1 h2 h3 => by rw [k4.at (by omega), a3.at (by unfold mvM; omega)]
      refine ⟨by omega, ⟨c, c', ?_, ?_, mC_same (fun z _ _ => ⟨nn 28 z (by decide) (by decide) (by decide), nn 29 z (by decide) (by decide) (by decide)⟩) w1, w3.symm, Nat.le_refl _, ?_, hL.1⟩, ⟨by rw [sI_n (by decide), sI_1], sI_1⟩, fun z hz => ?_, fun a z h1 h2 h3 => ?_, by omega, i5, w4, by omega⟩
      · rw [nn 26 b (by decide) (by decide) (by decide)]; exact t6.1
      · rw [nn 27 b (by decide) (by decide) (by decide)]; exact t6.2
      · rw [nn 23 b (by decide) (by decide) (by decide), t7 23 b (by decide) (by decide) (Or.inr (by decide))]; exact v23
      · rw [nn 28 z (by decide) (by decide) (by decide), nn 29 z (by decide) (by decide) (by decide), (w2 z hz).1, (w2 z hz).2, k1.at (by omega), k1.at (by omega)]
        exact ⟨rfl, rfl⟩
      · rw [nn a z (by omega) (by omega) (by omega), t7 a z h1 h2 (Or.inl h3), k1.at (by omega)]
def LeB (B0 b : Nat) (q : Qs) : Prop := ∀ i, q = .inl i → 4 * (b - B0) + 2 ≤ i
theorem law_m (hC : C0 + 420 ≤ 840) (hB : B0 + 130 ≤ 260) (hs : s < 2) (hk : k < 3) (hV : TV S M T) {x2 : Int32} : ∀ (r c b : Nat) (q : Qs) (μ : Mem), r ≤ 4 → TM M T μ → QSm M T q μ → CdB C0 c μ → LeM C0 c q → μ.1 0 36 = nI b → B0 ≤ b → b ≤ B0 + 101 → LeB B0 b q → μ.1 0 19 = nI s → ∃ c' b' μ', X10_tellLaw_at12 (d + 4) (nI k) x2 (nI (4 - r)) μ μ' ∧ QSm M T (acq T 23 (lawP T r q).2) μ' ∧ CdB C0 c' μ' ∧ (μ'.1 0 36 = nI b' ∧ B0 ≤ b' ∧ b' ≤ B0 + 103) ∧ KN C0 B0 (3 * s + k) μ μ' ∧
    (∀ j, acq T 23 (lawP T r q).2 = .inl j → c' ≤ C0 + j ∧ 4 * (b' - B0) ≤ j ∧ b' = b + (lawP T r q).1.length ∧ mL' C0 c' μ' b (lawP T r q).1 ∧ (μ'.1 21 (3 * s + k) = x2 ∧ μ'.1 22 (3 * s + k) = nI b') ∧ (∀ z, z < c → μ'.1 28 z = μ.1 28 z ∧ μ'.1 29 z = μ.1 29 z) ∧ (∀ a z, 23 ≤ a → a ≤ 27 → z < b → μ'.1 a z = μ.1 a z) ∧ c ≤ c')
  | r, c, b, .inr e, μ, hr, hT, h, hL, hc, h36, hb0, hb1, hLB, h19 => by
    obtain ⟨c', μ', g1, g2, g3, g4, g5, _⟩ := end_m (d := d) (x2 := x2) hC hB (show B0 ≤ b ∧ b < B0 + 130 by omega) hs hk hV hT h hL hc h36 h19
    have e1 : (lawP T r (.inr e)).2 = .inr e := by cases r <;> rfl
    refine ⟨c', b + 1, μ', X10_tellLaw_at12_ok (tne h.2.ne g1), ?_, g3, ⟨g4, by omega, by omega⟩, g5, fun j z => ?_⟩
    · rw [e1]; exact g2
    · rw [e1] at z; cases z
  | r, c, b, .inl i, μ, hr, hT, h, hL, hc, h36, hb0, hb1, hLB, h19 => by
    have hm := hV.2.1
    have hi := h.1
    have lb := hLB i rfl
    by_cases e : kd T i = 9
    · have eb : isIf T (.inl i) = true := by show (kd T i == 9) = true; rw [e]; rfl
      have y9 := is_y (d := d + 4) (x := 29) hV hT h.2.1 h.1 rfl e
      match r, hr with
      | 0, hr =>
        have el : lawP T 0 (.inl i) = ([], .inr (2, i)) := by unfold lawP; rw [if_pos eb]; rfl
        obtain ⟨μ1, g1, g2, g3⟩ := fail_m (d := d + 4) (f := 2) (x := 2) hV hT h.2.1 h.1 (by omega) rfl
        refine ⟨c, b, μ1, X10_tellLaw_at12_ok (teq h.2.1.1 ⟨1, μ, y9, tneg (by decide) (teq rfl ⟨μ1, g1, tneg g2.nle rfl⟩)⟩), ?_, ⟨hL.1, hL.2.1, (g3.at (by unfold mvM; omega)).trans hL.2.2⟩, ⟨(g3.at (by unfold mvM; omega)).trans h36, by omega, by omega⟩, (g3.x (C0 := C0)).b.n, fun j z => ?_⟩
        · rw [el]; exact ⟨h.1, g2⟩
        · rw [el] at z; cases z
      | r + 1, hr =>
        have el : lawP T (r + 1) (.inl i) = ((some (cdQ T (q1' T (.inl i)), cdQ T (q3' T (.inl i))), cdQ T (q5' T (.inl i))) :: (lawP T r (q7' T (.inl i))).1, (lawP T r (q7' T (.inl i))).2) := by rw [lawP, if_pos eb]
        obtain ⟨c1, μ1, b1, b2, b3, b4, b5, b6, b7, b8⟩ := body_m (d := d) (x1 := nI k) (x2 := x2) (x3 := nI (4 - (r + 1))) hC hB (show B0 ≤ b ∧ b < B0 + 130 by omega) hV hT e h hL hc h36
        obtain ⟨c', b', μ', t1, t2, t3, t4, t5, t6⟩ := law_m hC hB hs hk hV (x2 := x2) r c1 (b + 1) (q7' T (.inl i)) μ1 (by omega) (hT.kb b5) b2 b3 b6 b4 (by omega) (by omega) (fun j hj => by have := (b8 j hj).2.2.2; omega) ((b5.at (by unfold lmM exM; omega)).trans h19)
        have x5 : nI (4 - (r + 1)) + 1 = nI (4 - r) := by rw [nI_1]; congr 1; omega
        refine ⟨c', b', μ', X10_tellLaw_at12_ok (teq h.2.1.1 ⟨1, μ, y9, tneg (by decide) (tne (fun z => ?_) (tpos (by rw [h.2.1.1]; decide) (b1 μ' (by rw [x5]; exact t1))))⟩), ?_, t3, ⟨t4.1, by omega, by omega⟩, b5.n.trans t5, fun j z => ?_⟩
        · have := nI_inj (b := 4) (by omega) (by decide) z
          omega
        · rw [el]; exact t2
        · rw [el] at z ⊢
          have z : acq T 23 (lawP T r (q7' T (.inl i))).2 = .inl j := z
          obtain ⟨n1, n2, n3, n4, n5, n6, n7, n8⟩ := t6 j z
          have hq7 : ∃ j7, q7' T (.inl i) = .inl j7 := by
            cases hq : q7' T (.inl i) with
            | inl j7 => exact ⟨j7, rfl⟩
            | inr e7 =>
              rw [hq] at z
              have e1 : (lawP T r (.inr e7)).2 = .inr e7 := by cases r <;> rfl
              rw [e1] at z; cases z
          obtain ⟨j7, hq7⟩ := hq7
          obtain ⟨w1, w2, w3, w4⟩ := b8 j7 hq7
          refine ⟨n1, n2, by rw [List.length_cons]; omega, ⟨w1.same (fun a a1 a2 => n7 a b a1 a2 (by omega)) (fun z hz => n6 z hz) n8, n4⟩, n5, fun z hz => ?_, fun a z a1 a2 a3 => ?_, by omega⟩
          · rw [(n6 z (by omega)).1, (n6 z (by omega)).2]; exact w2 z hz
          · rw [n7 a z a1 a2 (by omega), b7 a z a1 a2 (by omega)]
    · have eb : ¬ isIf T (.inl i) = true := by show ¬ (kd T i == 9) = true; rw [beq_iff_eq]; exact e
      have el : lawP T r (.inl i) = ([(none, cdQ T (.inl i))], eQ T (.inl i)) := by
        cases r with
        | zero => unfold lawP; rw [if_neg eb]
        | succ r => rw [lawP, if_neg eb]
      have n9 := is_n (d := d + 4) (k := 9) (x := 29) hV hT h.2.1 h.1 rfl (by decide) e
      obtain ⟨c', μ', g1, g2, g3, g4, g5, g6⟩ := end_m (d := d) (x2 := x2) hC hB (show B0 ≤ b ∧ b < B0 + 130 by omega) hs hk hV hT h hL hc h36 h19
      refine ⟨c', b + 1, μ', X10_tellLaw_at12_ok (teq h.2.1.1 ⟨0, μ, n9, tpos rfl g1⟩), ?_, g3, ⟨g4, by omega, by omega⟩, g5, fun j z => ?_⟩
      · rw [el]; exact g2
      · rw [el] at z ⊢
        obtain ⟨w1, w2, w3, w4, w5, w6, i', w7, w8⟩ := g6 j z
        cases w7
        exact ⟨w1, by omega, rfl, ⟨w2, trivial⟩, w3, w4, fun a z a1 a2 a3 => w5 a z a1 a2 (by omega), w6⟩
/-- the law's words behind its first -/
def lawQ (T : Nat → Tk) (i : Nat) : Lw × Qs := lawP T 4 (acq T 24 (acq T (kd T i) (.inl i)))
theorem tellLaw_m {b c : Nat} {q : Qs} {μ : Mem} (hC : C0 + 420 ≤ 840) (hB : B0 + 130 ≤ 260) (hs : s < 2) (hk : k < 3) (hV : TV S M T) (hT : TM M T μ) (h : QSm M T q μ) (hL : CdB C0 c μ) (hc : LeM C0 c q) (h36 : μ.1 0 36 = nI b) (hb0 : B0 ≤ b) (hb1 : b ≤ B0 + 101) (hLB : ∀ i, q = .inl i → 4 * (b - B0) + 1 ≤ i) (h19 : μ.1 0 19 = nI s) : ∃ c' b' μ', X10_tellLaw (d + 5) (nI k) μ μ' ∧ QSm M T (acq T 23 (lawP T 4 (acq T 24 q)).2) μ' ∧ CdB C0 c' μ' ∧ (μ'.1 0 36 = nI b' ∧ B0 ≤ b' ∧ b' ≤ B0 + 103) ∧ KN C0 B0 (3 * s + k) μ μ' ∧
    (∀ j, acq T 23 (lawP T 4 (acq T 24 q)).2 = .inl j → c' ≤ C0 + j ∧ 4 * (b' - B0) ≤ j ∧ b' = b + (lawP T 4 (acq T 24 q)).1.length ∧ mL' C0 c' μ' b (lawP T 4 (acq T 24 q)).1 ∧ (μ'.1 21 (3 * s + k) = nI b ∧ μ'.1 22 (3 * s + k) = nI b') ∧ (∀ z, z < c → μ'.1 28 z = μ.1 28 z ∧ μ'.1 29 z = μ.1 29 z) ∧ (∀ a z, 23 ≤ a → a ≤ 27 → z < b → μ'.1 a z = μ.1 a z) ∧ c ≤ c') := by
  obtain ⟨m1, a1, a2, a3⟩ := mustQ (d := d + 2) (k := 24) (x := 5) hV hT rfl (by decide) (by decide) h
  have e36 : m1.1 0 36 = nI b := (a3.at (by unfold mvM; omega)).trans h36
  obtain ⟨c', b', μ', t1, t2, t3, t4, t5, t6⟩ := law_m (d := d) hC hB hs hk hV (x2 := nI b) 4 c b (acq T 24 q) m1 (by omega) (hT.kx (a3.x (C0 := C0))) a2 ⟨hL.1, hL.2.1, (a3.at (by unfold mvM; omega)).trans hL.2.2⟩ (LeM.acq hc) e36 hb0 hb1 (fun j hj => by
    obtain ⟨i, h1, _, _, rfl⟩ := acq_inl hj
    have := hLB i h1
    omega) ((a3.at (by unfold mvM; omega)).trans h19)
  refine ⟨c', b', μ', X10_tellLaw_ok ⟨m1, a1, ?_⟩, t2, t3, t4, (a3.x (C0 := C0)).b.n.trans t5, fun j hj => ?_⟩
  · rw [e36]; exact t1
  · obtain ⟨n1, n2, n3, n4, n5, n6, n7, n8⟩ := t6 j hj
    refine ⟨n1, n2, n3, n4, n5, fun z hz => ?_, fun a z h1 h2 h3 => ?_, n8⟩
    · rw [(n6 z hz).1, (n6 z hz).2, a3.at (by unfold mvM; omega), a3.at (by unfold mvM; omega)]
      exact ⟨rfl, rfl⟩
    · rw [n7 a z h1 h2 h3, a3.at (by unfold mvM; omega)]
theorem readLaw_c {a1 i : Nat} {μ : Mem} (ha : 200 < a1) (hV : TV S M T) (hT : TC M T μ) (h : QSc M T (.inl i) μ) (h32 : kd T i ≠ 32) : ∃ n μ', X4_readLaw (d + 16) a1 μ μ' ∧ QSc M T (lawQ T i).2 μ' ∧ LwC a1 n μ' ∧ KL a1 μ μ' ∧ ∀ j, (lawQ T i).2 = .inl j → cLaw μ' a1 0 (lawQ T i).1 n ∧ wfL (lawQ T i).1 := by
  have vi := hV.2.2.1 i h.1
  have k0 : KL a1 μ (sI μ a1 3 0) := Kz.sI (by unfold lwC; omega)
  have e2 : ∀ j, (sI μ a1 3 0).1 2 j = μ.1 2 j := fun j => by rw [sI_n (by omega)]
  obtain ⟨m1, a11, a12, a13⟩ := accQ (d := d + 14) (k := kd T i) hV (hT.kl ha k0) vi.1 h32 (QSc.same h e2)
  have T1 := (hT.kl ha k0).kl ha a13.l
  obtain ⟨m2, a21, a22, a23⟩ := accQ (d := d + 14) (k := 24) hV T1 (by decide) (by decide) a12
  have L2 : LwC a1 0 m2 := LwC.ka ha (LwC.ka ha ⟨by omega, sI_1⟩ a13) a23
  obtain ⟨n, μ', g1, g2, g3, g4, g5⟩ := law_c (d := d) ha hV 4 0 (acq T 24 (acq T (kd T i) (.inl i))) m2 (by omega) (T1.kl ha a23.l) a22 L2 (fun i hi => Nat.zero_le _)
  refine ⟨n, μ', X4_readLaw_ok ⟨sI μ a1 3 0, X1_clear_ok (fun μ1 e => e.symm), qy (acq T (kd T i) (.inl i)), m1, ?_, qy (acq T 24 (acq T (kd T i) (.inl i))), m2, a21, g1⟩, g2, g3, ((k0.trans a13.l).trans a23.l).trans g4, fun j hj => ⟨(g5 j hj).2.1, (g5 j hj).2.2.1⟩⟩
  rw [e2, h.2.2.2]
  exact a11
end
end Rd
