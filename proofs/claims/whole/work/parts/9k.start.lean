/-! ===== read: how both sides begin ===== -/
section Rd
variable {d : Nat}
section
variable {S M : Nat} {T : Nat → Tk}
theorem Kz.sA {S' : Nat → Nat → Prop} {L' : Nat → Prop} {μ : Mem} {a : Nat} {f : Nat → Int32} (h : ∀ k, S' a k) : Kz S' L' μ (sA μ a f) := ⟨fun b k q => by
  by_cases e : b = a
  · rw [e] at q; exact absurd (h k) q
  · rw [sA_n e], fun _ _ => rfl, rfl⟩
theorem clrN_k {a : Nat} {μ : Mem} : Kz (fun b k => b = a ∧ k ≤ 6) (fun _ => False) μ (clrN a μ) :=
  ((((((Kz.sI ⟨rfl, by decide⟩).trans (Kz.sI ⟨rfl, by decide⟩)).trans (Kz.sI ⟨rfl, by decide⟩)).trans (Kz.sI ⟨rfl, by decide⟩)).trans (Kz.sI ⟨rfl, by decide⟩)).trans (Kz.sI ⟨rfl, by decide⟩)).trans (Kz.sI ⟨rfl, by decide⟩)
theorem clrN_v {a : Nat} {μ : Mem} : (clrN a μ).1 a 0 = 0 ∧ (clrN a μ).1 a 1 = 0 ∧ (clrN a μ).1 a 2 = 0 ∧ (clrN a μ).1 a 3 = 0 ∧ (clrN a μ).1 a 4 = 100 ∧ (clrN a μ).1 a 5 = 0 ∧ (clrN a μ).1 a 6 = 0 := by
  unfold clrN
  refine ⟨?_, ?_, ?_, ?_, ?_, ?_, ?_⟩
  · rw [sI_k (by decide), sI_k (by decide), sI_k (by decide), sI_k (by decide), sI_k (by decide), sI_k (by decide), sI_1]
  · rw [sI_k (by decide), sI_k (by decide), sI_k (by decide), sI_k (by decide), sI_k (by decide), sI_1]
  · rw [sI_k (by decide), sI_k (by decide), sI_k (by decide), sI_k (by decide), sI_1]
  · rw [sI_k (by decide), sI_k (by decide), sI_k (by decide), sI_1]
  · rw [sI_k (by decide), sI_k (by decide), sI_1]
  · rw [sI_k (by decide), sI_1]
  · rw [sI_1]
theorem clrA_k {a : Nat} {μ : Mem} : Kz (fun b _ => b = a + 1 ∨ b = a + 2) (fun _ => False) (clrN a μ) (clrA a μ) := (Kz.sA (fun _ => Or.inl rfl)).trans (Kz.sA (fun _ => Or.inr rfl))
theorem clrA_v {a : Nat} {μ : Mem} : (∀ c, c < 48 → (clrA a μ).1 (a + 1) c = -2) ∧ ∀ f, f < 6 → (clrA a μ).1 (a + 2) f = 0 := by
  refine ⟨fun c hc => ?_, fun f hf => ?_⟩
  · unfold clrA
    rw [sA_n (by omega), sA_1]
    unfold fillTo
    rw [if_pos hc]
  · unfold clrA
    rw [sA_1]
    unfold fillTo
    rw [if_pos hf]
def pcF (b a k : Nat) : Prop := (a = b ∧ k = 3) ∨ a = b + 1
theorem putC_kz {b : Nat} {v : Int32} {μ : Mem} : Kz (pcF b) (fun _ => False) μ (putC b v μ) :=
  ((((Kz.sI (Or.inl ⟨rfl, rfl⟩)).trans (Kz.sI (Or.inr rfl))).trans (Kz.sI (Or.inl ⟨rfl, rfl⟩))).trans (Kz.sI (Or.inr rfl))).trans (Kz.sI (Or.inl ⟨rfl, rfl⟩))
theorem putC_law {b pl : Nat} {v : Int32} {μ : Mem} (hv : v = cw (0, pl)) : cLawAt (putC b v μ) b pl [] := by
  refine ⟨2, by decide, ?_, ?_⟩
  · unfold putC
    rw [sI_1]; rfl
  · rw [if_pos rfl]
    refine ⟨⟨?_, trivial⟩, ?_, rfl, rfl⟩
    · unfold putC
      rw [sI_n (by omega), sI_k (by decide), sI_n (by omega), sI_1]
      exact hv
    · show (putC b v μ).1 (b + 1) 1 = -15
      unfold putC
      rw [sI_n (by omega), sI_1]
def rdL (q a k : Nat) : Prop := (a = q ∧ k ≤ 6) ∨ (a = q + 1 ∨ a = q + 2) ∨ pcF (q + 7) a k ∨ pcF (q + 11) a k ∨ pcF (q + 15) a k
theorem clr_rd {q a k : Nat} (z : rdL q a k) : rdC q a k := by
  rcases z with z | z | z | z | z
  · exact Or.inr (Or.inl z)
  · exact Or.inr (Or.inr (Or.inl ⟨by omega, by omega⟩))
  · rcases z with z | z
    · exact Or.inr (Or.inr (Or.inr (Or.inl ⟨Or.inl z.1, z.2⟩)))
    · exact Or.inr (Or.inr (Or.inr (Or.inr (Or.inl z))))
  · rcases z with z | z
    · exact Or.inr (Or.inr (Or.inr (Or.inl ⟨Or.inr (Or.inl z.1), z.2⟩)))
    · exact Or.inr (Or.inr (Or.inr (Or.inr (Or.inr (Or.inl z)))))
  · rcases z with z | z
    · exact Or.inr (Or.inr (Or.inr (Or.inl ⟨Or.inr (Or.inr z.1), z.2⟩)))
    · exact Or.inr (Or.inr (Or.inr (Or.inr (Or.inr (Or.inr z)))))
theorem clrP_v {q : Nat} {μ : Mem} : Kz (rdL q) (fun _ => False) μ (clrP q μ) ∧ ((clrP q μ).1 q 0 = 0 ∧ (clrP q μ).1 q 1 = 0 ∧ (clrP q μ).1 q 2 = 0 ∧ (clrP q μ).1 q 3 = 0 ∧ (clrP q μ).1 q 4 = 100 ∧ (clrP q μ).1 q 5 = 0 ∧ (clrP q μ).1 q 6 = 0) ∧ (∀ c, c < 48 → (clrP q μ).1 (q + 1) c = -2) ∧ (∀ f, f < 6 → (clrP q μ).1 (q + 2) f = 0) ∧ cLawAt (clrP q μ) (q + 7) 1 [] ∧ cLawAt (clrP q μ) (q + 11) 1 [] ∧ cLawAt (clrP q μ) (q + 15) 0 [] := by
  have k1 : Kz (pcF (q + 7)) (fun _ => False) (clrA q μ) (putC (q + 7) 1 (clrA q μ)) := putC_kz
  have k2 : Kz (pcF (q + 11)) (fun _ => False) (putC (q + 7) 1 (clrA q μ)) (putC (q + 11) 1 (putC (q + 7) 1 (clrA q μ))) := putC_kz
  have k3 : Kz (pcF (q + 15)) (fun _ => False) (putC (q + 11) 1 (putC (q + 7) 1 (clrA q μ))) (clrP q μ) := putC_kz
  have l1 : cLawAt (putC (q + 7) 1 (clrA q μ)) (q + 7) 1 [] := putC_law rfl
  have l2 : cLawAt (putC (q + 11) 1 (putC (q + 7) 1 (clrA q μ))) (q + 11) 1 [] := putC_law rfl
  have l3 : cLawAt (clrP q μ) (q + 15) 0 [] := putC_law rfl
  obtain ⟨v0, v1, v2, v3, v4, v5, v6⟩ := clrN_v (a := q) (μ := μ)
  obtain ⟨w1, w2⟩ := clrA_v (a := q) (μ := μ)
  have e : ∀ a k, ¬ pcF (q + 7) a k → ¬ pcF (q + 11) a k → ¬ pcF (q + 15) a k → (clrP q μ).1 a k = (clrA q μ).1 a k := fun a k z1 z2 z3 => by rw [k3.at z3, k2.at z2, k1.at z1]
  have f : ∀ k, (clrP q μ).1 q k = (clrN q μ).1 q k := fun k => by rw [e q k (by unfold pcF; omega) (by unfold pcF; omega) (by unfold pcF; omega), clrA_k.at (by omega)]
  refine ⟨?_, ⟨(f 0).trans v0, (f 1).trans v1, (f 2).trans v2, (f 3).trans v3, (f 4).trans v4, (f 5).trans v5, (f 6).trans v6⟩, fun c hc => ?_, fun g hg => ?_, ?_, ?_, l3⟩
  · exact (((clrN_k.mono (fun a k z => Or.inl z) (fun _ z => z)).trans (clrA_k.mono (fun a k z => Or.inr (Or.inl z)) (fun _ z => z))).trans (k1.mono (fun a k z => Or.inr (Or.inr (Or.inl z))) (fun _ z => z))).trans ((k2.mono (fun a k z => Or.inr (Or.inr (Or.inr (Or.inl z)))) (fun _ z => z)).trans (k3.mono (fun a k z => Or.inr (Or.inr (Or.inr (Or.inr z)))) (fun _ z => z)))
  · rw [e _ _ (by unfold pcF; omega) (by unfold pcF; omega) (by unfold pcF; omega)]; exact w1 c hc
  · rw [e _ _ (by unfold pcF; omega) (by unfold pcF; omega) (by unfold pcF; omega)]; exact w2 g hg
  · exact (l1.kz k2 (by unfold pcF; omega) (fun j => by unfold pcF; omega)).kz k3 (by unfold pcF; omega) (fun j => by unfold pcF; omega)
  · exact l2.kz k3 (by unfold pcF; omega) (fun j => by unfold pcF; omega)
theorem begin_c {q : Nat} {μ : Mem} (hq : q = 214 ∨ q = 233) (hV : TV S M T) (hT : TC M T μ) (hP : μ.2.2 2 1 = q) : ∃ μ', X4_begin (d + 3) μ μ' ∧ KRc q μ μ' ∧ QSc M T (.inl 0) μ' ∧ (μ'.1 q 0 = 0 ∧ μ'.1 q 1 = 0 ∧ μ'.1 q 2 = 0 ∧ μ'.1 q 3 = 0 ∧ μ'.1 q 4 = 100 ∧ μ'.1 q 5 = 0 ∧ μ'.1 q 6 = 0) ∧ (∀ c, c < 48 → μ'.1 (q + 1) c = -2) ∧ (∀ f, f < 6 → μ'.1 (q + 2) f = 0) ∧ (cLawAt μ' (q + 7) 1 [] ∧ cLawAt μ' (q + 11) 1 [] ∧ cLawAt μ' (q + 15) 0 []) ∧ μ'.1 2 5 = 0 ∧ LC' (0, 0) μ' := by
  obtain ⟨k0, ⟨v0, v1, v2, v3, v4, v5, v6⟩, w1, w2, l1, l2, l3⟩ := clrP_v (q := q) (μ := μ)
  have e5 : (clrP q μ).1 5 0 = nI (kd T 0) := (k0.at (by unfold rdL pcF; omega)).trans (hT 0 (by have := hV.1; omega)).1
  obtain ⟨m, hm⟩ : ∃ m, m = sI (sI (sI (sI (sI (sI (sI (clrP q μ) 2 2 0) 2 3 (nI (kd T 0))) 2 5 0) 2 6 0) 2 7 (-1)) 2 8 0) 2 9 (-1) := ⟨_, rfl⟩
  have K : Kz (fun a k => a = 2 ∧ 2 ≤ k) (fun _ => False) (clrP q μ) m := by
    rw [hm]
    exact ((((((Kz.sI ⟨rfl, by decide⟩).trans (Kz.sI ⟨rfl, by decide⟩)).trans (Kz.sI ⟨rfl, by decide⟩)).trans (Kz.sI ⟨rfl, by decide⟩)).trans (Kz.sI ⟨rfl, by decide⟩)).trans (Kz.sI ⟨rfl, by decide⟩)).trans (Kz.sI ⟨rfl, by decide⟩)
  refine ⟨m, X4_begin_ok ⟨clrP q μ, by rw [hP]; exact planClear_spec, ?_⟩, ?_, ⟨hV.1, ?_, ?_, ?_⟩, ⟨?_, ?_, ?_, ?_, ?_, ?_, ?_⟩, fun c hc => ?_, fun f hf => ?_, ⟨l1.kz K (by omega) (fun j => by omega), l2.kz K (by omega) (fun j => by omega), l3.kz K (by omega) (fun j => by omega)⟩, ?_, by decide, ?_, ?_⟩
  · rintro μ3 rfl
    rw [sI_n (show 5 ≠ 2 by decide), e5]
    rintro μ4 rfl μ5 rfl μ6 rfl μ7 rfl μ8 rfl μ9 rfl
    exact hm
  · exact (k0.mono (fun a k z => clr_rd z) (fun _ z => z.elim)).trans (K.mono (fun a k z => Or.inl z) (fun _ z => z.elim))
  · rw [hm, sI_k (by decide), sI_k (by decide), sI_k (by decide), sI_1]
  · rw [hm, sI_k (by decide), sI_k (by decide), sI_k (by decide), sI_k (by decide), sI_k (by decide), sI_k (by decide), sI_1]; rfl
  · rw [hm, sI_k (by decide), sI_k (by decide), sI_k (by decide), sI_k (by decide), sI_k (by decide), sI_1]
  · rw [K.at (by omega)]; exact v0
  · rw [K.at (by omega)]; exact v1
  · rw [K.at (by omega)]; exact v2
  · rw [K.at (by omega)]; exact v3
  · rw [K.at (by omega)]; exact v4
  · rw [K.at (by omega)]; exact v5
  · rw [K.at (by omega)]; exact v6
  · rw [K.at (by omega)]; exact w1 c hc
  · rw [K.at (by omega)]; exact w2 f hf
  · rw [hm, sI_k (by decide), sI_k (by decide), sI_k (by decide), sI_k (by decide), sI_1]
  · rw [hm, sI_k (by decide), sI_1]; rfl
  · rw [hm, sI_1]; rfl
/-- the model's side, made plain -/
def plM (s a k : Nat) : Prop := ((a = 9 ∨ a = 10 ∨ a = 12 ∨ a = 15 ∨ a = 18 ∨ a = 19 ∨ a = 20) ∧ k = s) ∨ ((a = 21 ∨ a = 22) ∧ 3 * s ≤ k ∧ k < 3 * s + 3)
theorem plain_m {s : Nat} {μ : Mem} (hs : s < 2) : ∃ μ', X10_plain d (nI s) μ μ' ∧ Kz (plM s) (fun _ => False) μ μ' ∧ (μ'.1 9 s = 0 ∧ μ'.1 10 s = 0 ∧ μ'.1 12 s = 0 ∧ μ'.1 15 s = 0 ∧ μ'.1 18 s = 100 ∧ μ'.1 19 s = 0 ∧ μ'.1 20 s = 0) ∧ ∀ k, k < 3 → μ'.1 21 (3 * s + k) = 0 ∧ μ'.1 22 (3 * s + k) = 0 := by
  have vs : vp_in (nI s) 2 := vp_inN hs (by decide)
  have cs : (nI s).toNatClampNeg = s := nI_clamp (by omega)
  obtain ⟨m, hm⟩ : ∃ m, m = sI (sI (sI (sI (sI (sI (sI μ 9 s 0) 10 s 0) 12 s 0) 15 s 0) 18 s 100) 19 s 0) 20 s 0 := ⟨_, rfl⟩
  obtain ⟨m', hm'⟩ : ∃ m', m' = sI (sI (sI (sI (sI (sI m 21 (3 * s) 0) 22 (3 * s) 0) 21 (3 * s + 1) 0) 22 (3 * s + 1) 0) 21 (3 * s + 2) 0) 22 (3 * s + 2) 0 := ⟨_, rfl⟩
  have K1 : Kz (fun a k => (a = 9 ∨ a = 10 ∨ a = 12 ∨ a = 15 ∨ a = 18 ∨ a = 19 ∨ a = 20) ∧ k = s) (fun _ => False) μ m := by
    rw [hm]
    exact ((((((Kz.sI ⟨by decide, rfl⟩).trans (Kz.sI ⟨by decide, rfl⟩)).trans (Kz.sI ⟨by decide, rfl⟩)).trans (Kz.sI ⟨by decide, rfl⟩)).trans (Kz.sI ⟨by decide, rfl⟩)).trans (Kz.sI ⟨by decide, rfl⟩)).trans (Kz.sI ⟨by decide, rfl⟩)
  have K2 : Kz (fun a k => (a = 21 ∨ a = 22) ∧ 3 * s ≤ k ∧ k < 3 * s + 3) (fun _ => False) m m' := by
    rw [hm']
    exact (((((Kz.sI ⟨by decide, by omega⟩).trans (Kz.sI ⟨by decide, by omega⟩)).trans (Kz.sI ⟨by decide, by omega⟩)).trans (Kz.sI ⟨by decide, by omega⟩)).trans (Kz.sI ⟨by decide, by omega⟩)).trans (Kz.sI ⟨by decide, by omega⟩)
  have ix : ∀ j, j < 3 → 3 * nI s + nI j = nI (3 * s + j) := fun j _ => by rw [show (3 : Int32) = nI 3 from rfl, nI_mul, nJ_add]
  refine ⟨m', X10_plain_ok ?_, (K1.mono (fun a k z => Or.inl z) (fun _ z => z)).trans (K2.mono (fun a k z => Or.inr z) (fun _ z => z)), ⟨?_, ?_, ?_, ?_, ?_, ?_, ?_⟩, fun k hk => ?_⟩
  · rw [cs]
    refine ⟨vs, ?_⟩
    rintro μ1 rfl
    refine ⟨vs, ?_⟩
    rintro μ2 rfl
    refine ⟨vs, ?_⟩
    rintro μ3 rfl
    refine ⟨vs, ?_⟩
    rintro μ4 rfl
    refine ⟨vs, ?_⟩
    rintro μ5 rfl
    refine ⟨vs, ?_⟩
    rintro μ6 rfl
    refine ⟨vs, ?_⟩
    rintro μ7 rfl
    rw [← hm]
    have st : ∀ (j : Nat) (n1 n2 : Mem), j < 3 → X10_plain_at52 d (nI s) (nI (j + 1)) (sI (sI n1 21 (3 * s + j) 0) 22 (3 * s + j) 0) n2 → X10_plain_at52 d (nI s) (nI j) n1 n2 := fun j n1 n2 hj h => by
      refine X10_plain_at52_ok (tneg (nI_ge (b := 3) hj (by decide)) ?_)
      rw [ix j hj, nI_clamp (by omega)]
      refine ⟨vp_inN (by omega) (by decide), ?_⟩
      rintro μ1 rfl
      refine ⟨vp_inN (by omega) (by decide), ?_⟩
      rintro μ2 rfl
      rw [nI_1]
      exact h
    refine st 0 _ _ (by decide) (st 1 _ _ (by decide) (st 2 _ _ (by decide) (X10_plain_at52_ok (tpos (by decide) ?_))))
    exact hm'
  · rw [K2.at (by omega), hm, sI_n (by decide), sI_n (by decide), sI_n (by decide), sI_n (by decide), sI_n (by decide), sI_n (by decide), sI_1]
  · rw [K2.at (by omega), hm, sI_n (by decide), sI_n (by decide), sI_n (by decide), sI_n (by decide), sI_n (by decide), sI_1]
  · rw [K2.at (by omega), hm, sI_n (by decide), sI_n (by decide), sI_n (by decide), sI_n (by decide), sI_1]
  · rw [K2.at (by omega), hm, sI_n (by decide), sI_n (by decide), sI_n (by decide), sI_1]
  · rw [K2.at (by omega), hm, sI_n (by decide), sI_n (by decide), sI_1]
  · rw [K2.at (by omega), hm, sI_n (by decide), sI_1]
  · rw [K2.at (by omega), hm, sI_1]
  · rw [hm']
    rcases (show k = 0 ∨ k = 1 ∨ k = 2 by omega) with e | e | e
    · subst e
      refine ⟨?_, ?_⟩
      · rw [sI_n (by decide), sI_k (by omega), sI_n (by decide), sI_k (by omega), sI_n (by decide), Nat.add_zero, sI_1]
      · rw [sI_k (by omega), sI_n (by decide), sI_k (by omega), sI_n (by decide), Nat.add_zero, sI_1]
    · subst e
      refine ⟨?_, ?_⟩
      · rw [sI_n (by decide), sI_k (by omega), sI_n (by decide), sI_1]
      · rw [sI_k (by omega), sI_n (by decide), sI_1]
    · subst e
      refine ⟨?_, ?_⟩
      · rw [sI_n (by decide), sI_1]
      · rw [sI_1]
def P0' : Pl := ((0, 0, 0, 0), (100, 0, 0), (fun _ => none), (fun _ => 0), (fun _ => 0), (fun _ => 0), (fun _ => 0), (fun _ => []))
theorem onL_0 (c : Nat) : onL P0' c = false := by
  unfold onL
  rw [decide_eq_false (show ¬ c / 8 < pH P0' from Nat.not_lt_zero _), Bool.and_false]
theorem cells_0 (f : Nat) : ∀ n, cellsA P0' f n = 0
  | 0 => rfl
  | n + 1 => by
    unfold cellsA
    rw [cells_0 f n, onL_0]
    rfl
/-- nothing is told yet -/
theorem GR_0 {q s : Nat} {μC μM : Mem} (hq : q = 214 ∨ q = 233) (hs : s < 2) (cp : μC.2.2 2 1 = q) (hc : μC.1 q 0 = 0 ∧ μC.1 q 1 = 0 ∧ μC.1 q 2 = 0 ∧ μC.1 q 3 = 0 ∧ μC.1 q 4 = 100 ∧ μC.1 q 5 = 0 ∧ μC.1 q 6 = 0) (hl : ∀ c, c < 48 → μC.1 (q + 1) c = -2) (hf : ∀ f, f < 6 → μC.1 (q + 2) f = 0) (hw : cLawAt μC (q + 7) 1 [] ∧ cLawAt μC (q + 11) 1 [] ∧ cLawAt μC (q + 15) 0 []) (h5 : μC.1 2 5 = 0) (hL : LC' (0, 0) μC) (hm : μM.1 9 s = 0 ∧ μM.1 10 s = 0 ∧ μM.1 12 s = 0 ∧ μM.1 15 s = 0 ∧ μM.1 18 s = 100 ∧ μM.1 19 s = 0 ∧ μM.1 20 s = 0) (hg : ∀ k, k < 3 → μM.1 21 (3 * s + k) = 0 ∧ μM.1 22 (3 * s + k) = 0) (h20 : μM.1 0 20 = 0) (h15 : μM.1 0 15 = 0) (h19 : μM.1 0 19 = nI s) (h42 : μM.1 0 42 = nI (420 * s)) (h36 : μM.1 0 36 = nI (130 * s)) : GR P0' [] (0, 0) (130 * s) (420 * s) q s μC μM := by
  obtain ⟨c0, c1, c2, c3, c4, c5, c6⟩ := hc
  obtain ⟨m1, m2, m3, m4, m5, m6, m7⟩ := hm
  refine ⟨hq, hs, ⟨by decide, by decide, by decide⟩, rfl, fun j hj => absurd hj (Nat.not_lt_zero _), cp, c1, c2, c3, ⟨h5, fun j hj => absurd hj (Nat.not_lt_zero _)⟩, hL, m1, m3, m4, ⟨h20, fun j hj => absurd hj (Nat.not_lt_zero _)⟩, ⟨by decide, h15, fun z => absurd rfl z⟩, h19, ⟨Nat.le_refl _, by omega, h42⟩, ⟨h36, Nat.le_refl _⟩, fun _ => ⟨⟨by decide, Iff.rfl, fun c f z => (by cases z), fun f hf => absurd hf (Nat.not_lt_zero _), fun f hf => absurd hf (Nat.not_lt_zero _), ⟨by decide, by decide, by decide⟩, fun k _ => Or.inl rfl⟩, ⟨⟨c4, c5, c6⟩, fun f hf => absurd hf (Nat.not_lt_zero _), fun f hf => absurd hf (Nat.not_lt_zero _), ⟨c0, fun c hc => ?_, fun f hf' => ?_⟩, hw⟩, ⟨⟨m5, m6, m7⟩, fun f hf => absurd hf (Nat.not_lt_zero _), fun f hf => absurd hf (Nat.not_lt_zero _), ⟨m2, fun c hc => absurd ((onL_0 c).symm.trans hc) (by decide)⟩, fun k hk => Or.inl ⟨rfl, (hg k hk).1, (hg k hk).2⟩⟩⟩⟩
  · rw [hl c hc]
    unfold landI
    rw [onL_0]
    rfl
  · rw [hf f hf', cells_0]
    rfl
end
end Rd
