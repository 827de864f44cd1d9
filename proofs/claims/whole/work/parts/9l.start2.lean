/-! ===== read: both sides up to the first tell ===== -/
section Rd
variable {d : Nat}
section
variable {S M : Nat} {T : Nat → Tk}
theorem nar_b {v : Int32} (h : isByte v) : vp_nar .byte v = v := by
  rw [vp_nar_byte]
  apply Int32.toInt_inj.mp
  rw [Int8.toInt_toInt32, Int32.toInt_toInt8]
  obtain ⟨h1, h2⟩ := h
  simp only [Int.bmod]
  split <;> omega
def prM (μ : Mem) : Mem := sI (sI (sI (sI μ 0 11 0) 0 12 0) 0 13 0) 0 15 0
def prN (μ : Mem) : Mem := sI (sI (prM μ) 0 19 (1 - (prM μ).1 0 18)) 0 20 0
def prE (μ : Mem) : Mem := sI (sI μ 0 36 (130 * μ.1 0 19)) 0 42 (420 * (sI μ 0 36 (130 * μ.1 0 19)).1 0 19)
def RdS (d : Nat) (μ : Mem) (x : Int32) (μ' : Mem) : Prop := ∃ μ2, X10_cutsUp d (sI μ 0 2 0) μ2 ∧ ∃ μ10, X10_plain d ((prN μ2).1 0 19) (prN μ2) μ10 ∧ X10_read_at112 d (prE μ10) x μ'
theorem cpt_m : ∀ (m i : Nat) (μ : Mem), i + m = S → S ≤ 2000 → μ.1 0 4 = nI S → (∀ k, k < S → isByte (μ.1 1 k)) → (∀ k, k < i → μ.1 2 k = μ.1 1 k) → ∃ μ1, (∀ x μ', RdS d μ1 x μ' → X10_read_at10 d (nI i) μ x μ') ∧ Kz (fun a _ => a = 2) (fun _ => False) μ μ1 ∧ ∀ k, k < S → μ1.1 2 k = μ.1 1 k
  | 0, i, μ, hi, hS, h4, hb, hc => by
    have hi : i = S := hi
    subst hi
    refine ⟨μ, fun x μ' h => ?_, Kz.refl, hc⟩
    obtain ⟨μ2, g1, μ10, g2, g3⟩ := h
    refine X10_read_at10_ok (tpos (by rw [h4]; exact nI_le (Nat.le_refl _) (by omega)) ?_)
    rintro μ1 rfl
    refine ⟨μ2, g1, ?_⟩
    rintro μ4 rfl μ5 rfl μ6 rfl μ7 rfl μ8 rfl μ9 rfl
    refine ⟨μ10, g2, ?_⟩
    rintro μ12 rfl μ13 rfl
    exact g3
  | m + 1, i, μ, hi, hS, h4, hb, hc => by
    have hiS : i < S := by omega
    obtain ⟨μ1, a1, a2, a3⟩ := cpt_m m (i + 1) (sI μ 2 i (μ.1 1 i)) (by omega) hS (by rw [sI_n (by decide)]; exact h4) (fun k hk => by rw [sI_n (by decide)]; exact hb k hk) (fun k hk => by
      rw [sI_n (show 1 ≠ 2 by decide)]
      by_cases e : k = i
      · rw [e, sI_1]
      · rw [sI_k e]; exact hc k (by omega))
    refine ⟨μ1, fun x μ' h => X10_read_at10_ok (tneg (by rw [h4]; exact nI_ge hiS (by omega)) ⟨vp_inN (by omega) (by decide), vp_inN (by omega) (by decide), ?_⟩), Kz.trans (Kz.sI rfl) a2, fun k hk => ?_⟩
    · rw [nI_clamp (by omega), nar_b (hb i hiS), nI_1]
      rintro μ14 rfl
      exact a1 x μ' h
    · rw [a3 k hk, sI_n (by decide)]
def stM (s a k : Nat) : Prop := (a = 0 ∧ (k = 11 ∨ k = 12 ∨ k = 13 ∨ k = 15 ∨ k = 19 ∨ k = 20 ∨ k = 36 ∨ k = 42)) ∨ plM s a k
theorem one_s {L : Nat} (h : L < 2) : (1 : Int32) - nI L = nI (1 - L) := by
  rcases (show L = 0 ∨ L = 1 by omega) with e | e <;> subst e <;> rfl
theorem beg_m {L : Nat} {μ : Mem} (hL : L < 2) (h18 : μ.1 0 18 = nI L) : ∃ μ10, X10_plain d ((prN μ).1 0 19) (prN μ) μ10 ∧ Kz (stM (1 - L)) (fun _ => False) μ (prE μ10) ∧ (prE μ10).1 0 11 = 0 ∧ (prE μ10).1 0 12 = 0 ∧ (prE μ10).1 0 13 = 0 ∧ (prE μ10).1 0 15 = 0 ∧ (prE μ10).1 0 19 = nI (1 - L) ∧ (prE μ10).1 0 20 = 0 ∧ (prE μ10).1 0 36 = nI (130 * (1 - L)) ∧ (prE μ10).1 0 42 = nI (420 * (1 - L)) ∧ ((prE μ10).1 9 (1 - L) = 0 ∧ (prE μ10).1 10 (1 - L) = 0 ∧ (prE μ10).1 12 (1 - L) = 0 ∧ (prE μ10).1 15 (1 - L) = 0 ∧ (prE μ10).1 18 (1 - L) = 100 ∧ (prE μ10).1 19 (1 - L) = 0 ∧ (prE μ10).1 20 (1 - L) = 0) ∧ ∀ k, k < 3 → (prE μ10).1 21 (3 * (1 - L) + k) = 0 ∧ (prE μ10).1 22 (3 * (1 - L) + k) = 0 := by
  have hs : 1 - L < 2 := by omega
  have e18 : (prM μ).1 0 18 = nI L := by
    unfold prM
    rw [sI_k (by decide), sI_k (by decide), sI_k (by decide), sI_k (by decide)]
    exact h18
  have e19 : (prN μ).1 0 19 = nI (1 - L) := by
    unfold prN
    rw [sI_k (by decide), sI_1, e18, one_s hL]
  have K0 : Kz (stM (1 - L)) (fun _ => False) μ (prN μ) := by
    unfold prN prM
    exact (((((Kz.sI (Or.inl ⟨rfl, by decide⟩)).trans (Kz.sI (Or.inl ⟨rfl, by decide⟩))).trans (Kz.sI (Or.inl ⟨rfl, by decide⟩))).trans (Kz.sI (Or.inl ⟨rfl, by decide⟩))).trans (Kz.sI (Or.inl ⟨rfl, by decide⟩))).trans (Kz.sI (Or.inl ⟨rfl, by decide⟩))
  obtain ⟨m, a1, a2, ⟨b1, b2, b3, b4, b5, b6, b7⟩, a4⟩ := plain_m (d := d) (μ := prN μ) hs
  have f19 : m.1 0 19 = nI (1 - L) := (a2.at (by unfold plM; omega)).trans e19
  have K2 : Kz (fun a k => a = 0 ∧ (k = 36 ∨ k = 42)) (fun _ => False) m (prE m) := (Kz.sI ⟨rfl, by decide⟩).trans (Kz.sI ⟨rfl, by decide⟩)
  refine ⟨m, by rw [e19]; exact a1, (K0.trans (a2.mono (fun a k z => Or.inr z) (fun _ z => z))).trans (K2.mono (fun a k z => Or.inl ⟨z.1, by have := z.2; omega⟩) (fun _ z => z)), ?_, ?_, ?_, ?_, ?_, ?_, ?_, ?_, ⟨?_, ?_, ?_, ?_, ?_, ?_, ?_⟩, fun k hk => ⟨?_, ?_⟩⟩
  · rw [K2.at (by omega), a2.at (by unfold plM; omega)]
    unfold prN prM
    rw [sI_k (by decide), sI_k (by decide), sI_k (by decide), sI_k (by decide), sI_k (by decide), sI_1]
  · rw [K2.at (by omega), a2.at (by unfold plM; omega)]
    unfold prN prM
    rw [sI_k (by decide), sI_k (by decide), sI_k (by decide), sI_k (by decide), sI_1]
  · rw [K2.at (by omega), a2.at (by unfold plM; omega)]
    unfold prN prM
    rw [sI_k (by decide), sI_k (by decide), sI_k (by decide), sI_1]
  · rw [K2.at (by omega), a2.at (by unfold plM; omega)]
    unfold prN prM
    rw [sI_k (by decide), sI_k (by decide), sI_1]
  · rw [K2.at (by omega)]; exact f19
  · rw [K2.at (by omega), a2.at (by unfold plM; omega)]
    unfold prN
    rw [sI_1]
  · unfold prE
    rw [sI_k (by decide), sI_1, f19, show (130 : Int32) = nI 130 from rfl, nI_mul]
  · unfold prE
    rw [sI_1, sI_k (by decide), f19, show (420 : Int32) = nI 420 from rfl, nI_mul]
  · rw [K2.at (by omega)]; exact b1
  · rw [K2.at (by omega)]; exact b2
  · rw [K2.at (by omega)]; exact b3
  · rw [K2.at (by omega)]; exact b4
  · rw [K2.at (by omega)]; exact b5
  · rw [K2.at (by omega)]; exact b6
  · rw [K2.at (by omega)]; exact b7
  · rw [K2.at (by omega)]; exact (a4 k hk).1
  · rw [K2.at (by omega)]; exact (a4 k hk).2
theorem TkF.tv {μC μM : Mem} (h : TkF S M T μC μM) : TV S M T ∧ TC M T μC ∧ TM M T μM := by
  obtain ⟨h1, h2, h3, h4, h5, h6⟩ := h
  refine ⟨⟨h1, h2, fun i hi => ?_, h4, h5, h6⟩, fun i hi => ?_, fun i hi => ?_⟩
  · obtain ⟨a1, a2, a3, a4, a5, a6, a7, a8⟩ := h3 i hi
    exact ⟨a1, a2, fun z => (a7 z).1, fun z => ⟨(a8 z).1, (a8 z).2.1, (a8 z).2.2.1⟩⟩
  · obtain ⟨a1, a2, a3, a4, a5, a6, a7, a8⟩ := h3 i hi
    exact ⟨a3, a5, fun z => (a7 z).2.1, fun z => (a8 z).2.2.2.1⟩
  · obtain ⟨a1, a2, a3, a4, a5, a6, a7, a8⟩ := h3 i hi
    exact ⟨a4, a6, fun z => (a7 z).2.2, fun z => (a8 z).2.2.2.2⟩
def gC (q a k : Nat) : Prop := tkC a k ∨ rdC q a k
def gM (s a k : Nat) : Prop := tkM a k ∨ a = 2 ∨ (a = 0 ∧ (k = 2 ∨ k = 4 ∨ k = 10)) ∨ stM s a k
theorem rd_start {q L : Nat} {μC μM : Mem} (hS : S ≤ 2000) (hq : q = 214 ∨ q = 233) (hP : μC.2.2 2 1 = q) (hL : L < 2) (h18 : μM.1 0 18 = nI L) (hM : μM.1 0 2 = nI S) (hb : ∀ k, k < S → μC.1 1 k = μM.1 1 k ∧ isByte (μC.1 1 k)) (hwC : ∀ i, i < 21 → μC.2.1 4 i = lI (nm 32 (wdL.getD i []))) (hwM : ∀ i, i < 21 → μM.2.1 7 i = lI (nm 27 (wdL.getD i []))) : ∃ M T mC mM, TV S M T ∧ TC M T mC ∧ TM M T mM ∧ QSc M T (.inl 0) mC ∧ QSm M T (.inl 0) mM ∧ GR P0' [] (0, 0) (130 * (1 - L)) (420 * (1 - L)) q (1 - L) mC mM ∧ Inv T (0, 0) (130 * (1 - L)) (420 * (1 - L)) (1 - L) 0 ∧ W8 (1 - L) mM ∧ (∀ x μ', X4_readText_at15 (d + 17) (nI S) 0 mC x μ' → X4_readText (d + 18) (nI S) μC x μ') ∧ (∀ x μ', X10_read_at112 (d + 18) mM x μ' → X10_read (d + 19) μM x μ') ∧ Kz (gC q) (fun a => a = 7 ∨ a = 8) μC mC ∧ Kz (gM (1 - L)) (fun a => a = 6 ∨ a = 8) μM mM ∧ mM.1 0 2 = 0 := by
  obtain ⟨n1, a1, a2, a3⟩ := cpt_m (d := d + 18) S 0 (sI μM 0 4 (nI S)) (by omega) hS sI_1 (fun k hk => by rw [sI_n (by decide), ← (hb k hk).1]; exact (hb k hk).2) (fun k hk => absurd hk (Nat.not_lt_zero _))
  have i1 : ByOK S (fun k => μC.1 1 k) := ⟨hS, fun k hk => (hb k hk).2⟩
  have iC : InC S (fun k => μC.1 1 k) (sI μC 3 4 0) := ⟨fun k hk => by rw [sI_n (by decide)], hwC⟩
  have iM : InM S (fun k => μC.1 1 k) (sI (sI n1 0 2 0) 0 10 0) := by
    refine ⟨⟨?_, fun k hk => ?_⟩, fun k hk => ?_⟩
    · rw [sI_k (by decide), sI_k (by decide), a2.at (by decide), sI_1]
    · rw [sI_n (by decide), sI_n (by decide), a3 k hk, sI_n (by decide)]
      exact (hb k hk).1.symm
    · show n1.2.1 7 k = _
      rw [a2.lg (fun z => z)]
      exact hwM k hk
  obtain ⟨M, T, mC, mM, b1, b2, b3, b4, b5⟩ := scan_both (d := d + 12) i1 S 0 0 0 (fun _ => (0, 0, 0, [])) (sI μC 3 4 0) (sI (sI n1 0 2 0) 0 10 0) (by omega) (Nat.le_refl _) ⟨by decide, sI_1, sI_1, fun i hi => absurd hi (Nat.not_lt_zero _), fun j hj => absurd hj (Nat.not_lt_zero _), fun j k _ hk => absurd hk (Nat.not_lt_zero _)⟩ iC iM
  obtain ⟨tv, tc, tm⟩ := b3.tv
  have cp1 : mC.2.2 2 1 = q := by rw [b4.2.2]; exact hP
  obtain ⟨mC', c1, c2, c3, c4, c5, c6, c7, c8, c9⟩ := begin_c (d := d + 14) hq tv tc cp1
  have l18 : mM.1 0 18 = nI L := by
    rw [b5.at (by unfold tkM; omega), sI_k (by decide), sI_k (by decide), a2.at (by decide), sI_k (by decide)]
    exact h18
  obtain ⟨m10, e1, e2, e11, e12, e13, e15, e19, e20, e36, e42, e3, e4⟩ := beg_m (d := d + 18) hL l18
  refine ⟨M, T, mC', prE m10, tv, tc.kr hq c2, tm.kz e2 (fun j => by unfold stM plM; omega) (fun j => by unfold stM plM; omega) (fun j => by unfold stM plM; omega) (fun z => z), c3, ⟨tv.1, ⟨e13, e11⟩, e12⟩, GR_0 hq (by omega) (by rw [c2.2.2]; exact cp1) c4 c5 c6 c7 c8 c9 e3 e4 e20 e15 e19 e42 e36, ⟨by omega, by omega, fun z => absurd rfl z⟩, ⟨0, by decide, e3.2.1⟩, fun x μ' h => ?_, fun x μ' h => ?_, ?_, ?_, ?_⟩
  · refine X4_readText_ok ⟨mC, X6_scan_ok ?_, mC', c1, h⟩
    rintro μ1 rfl
    rw [show mn (nI S) 2000 = nI S from (mn_nI (b := 2000) (by omega) (by omega)).trans (by rw [Nat.min_eq_left hS])]
    exact b1
  · refine X10_read_ok ?_
    rintro μ1 rfl
    rw [hM]
    exact a1 x μ' ⟨mM, X10_cutsUp_ok (fun μ1 e => by rw [e]; exact b2), m10, e1, h⟩
  · exact (Kz.trans (Kz.sI (Or.inl (Or.inl ⟨rfl, rfl⟩))) (b4.mono (fun a k z => Or.inl z) (fun _ z => Or.inl z))).trans (c2.mono (fun a k z => Or.inr z) (fun _ z => Or.inr z))
  · refine Kz.trans (Kz.sI (Or.inr (Or.inr (Or.inl ⟨rfl, by decide⟩)))) ((a2.mono (fun a k z => Or.inr (Or.inl z)) (fun _ z => z.elim)).trans (Kz.trans (Kz.sI (Or.inr (Or.inr (Or.inl ⟨rfl, by decide⟩)))) (Kz.trans (Kz.sI (Or.inr (Or.inr (Or.inl ⟨rfl, by decide⟩)))) ((b5.mono (fun a k z => Or.inl z) (fun _ z => Or.inl z)).trans (e2.mono (fun a k z => Or.inr (Or.inr (Or.inr z))) (fun _ z => z.elim))))))
  · rw [e2.at (by unfold stM plM; omega), b5.at (by unfold tkM; omega), sI_k (by decide), sI_1]
end
end Rd
