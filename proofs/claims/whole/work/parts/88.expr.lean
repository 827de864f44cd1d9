/-! ===== read: an E, told once for both sides; the class's side ===== -/
section Rd
variable {d : Nat}
abbrev PR : Type := (List Cd × Nat) ⊕ (Nat × Nat)
def pre (cs : List Cd) : PR → PR
  | .inl q => .inl (cs ++ q.1, q.2)
  | .inr e => .inr e
def opL (o : Nat) : List Cd := if o = 0 then [] else [(o, 0)]
section
variable {S M : Nat} {T : Nat → Tk}
def kd (T : Nat → Tk) (i : Nat) : Nat := (T i).1
def pc' (T : Nat → Tk) (i : Nat) : Nat := (T i).2.1
def vl' (T : Nat → Tk) (i : Nat) : Nat := (T i).2.2.1
def nm' (T : Nat → Tk) (i : Nat) : List Nat := (T i).2.2.2
/-- an E from token i on; b: 0 a unit, else a sum whose pending signs are s (2, 3 or none: 0) and p (4, 5 or 0) -/
def parE (T : Nat → Tk) : Nat → Nat → Nat → Bool → Nat → Nat → PR
  | 0, _, _, _, _, _ => .inr (1, 0)
  | f + 1, dep, i, false, _, _ =>
    if kd T i = 30 then (if 6 ≤ dep then .inr (2, i) else if i = 400 then .inr (2, i) else match parE T f (dep + 1) (i + 1) true 0 0 with
      | .inr e => .inr e
      | .inl q => if kd T q.2 = 31 then (if q.2 = 400 then .inr (2, q.2) else .inl (q.1, q.2 + 1)) else .inr (1, q.2))
    else if 12 ≤ kd T i ∧ kd T i ≤ 20 then (if i = 400 then .inr (2, i) else .inl ([(1, kd T i - 12)], i + 1))
    else if kd T i = 22 then (if i = 400 then .inr (2, i) else .inl ([(0, vl' T i)], i + 1)) else .inr (1, i)
  | f + 1, dep, i, true, s, p => match parE T f dep i false 0 0 with
    | .inr e => .inr e
    | .inl q =>
      if kd T q.2 = 27 ∨ kd T q.2 = 28 then (if q.2 = 400 then .inr (2, q.2) else pre (q.1 ++ opL p) (parE T f dep (q.2 + 1) true s (kd T q.2 - 23)))
      else if kd T q.2 = 25 ∨ kd T q.2 = 26 then (if q.2 = 400 then .inr (2, q.2) else pre (q.1 ++ opL p ++ opL s) (parE T f dep (q.2 + 1) true (kd T q.2 - 23) 0))
      else .inl (q.1 ++ opL p ++ opL s, q.2)
def TV (S M : Nat) (T : Nat → Tk) : Prop := 1 ≤ M ∧ M ≤ 401 ∧ (∀ i, i < M → kd T i ≤ 33 ∧ pc' T i ≤ 2000 ∧ (kd T i = 22 → vl' T i ≤ 9999) ∧ (kd T i = 21 → 1 ≤ (nm' T i).length ∧ (nm' T i).length ≤ 8 ∧ dgs 27 (nm' T i))) ∧ (∀ j k, j < k → k < M → pc' T j < pc' T k) ∧ (∀ j, j < M → kd T j = 32 → j + 1 = M ∧ pc' T j = S) ∧ (M = 401 ∨ kd T (M - 1) = 32)
theorem TV.next {i : Nat} (h : TV S M T) (hi : i < M) (hk : kd T i ≠ 32) (h4 : i ≠ 400) : i + 1 < M := by
  obtain ⟨h1, h2, _, _, _, h6⟩ := h
  by_cases e : i + 1 = M
  · rcases h6 with z | z
    · omega
    · rw [show M - 1 = i by omega] at z
      exact absurd z hk
  · omega
theorem wf_app {B : Nat} : ∀ {cs ds : List Cd} {n m k : Nat}, wfD B cs n m → wfD B ds m k → wfD B (cs ++ ds) n k
  | [], ds, n, m, k, h1, h2 => by
    have : n = m := h1
    rw [this]
    exact h2
  | q :: r, ds, n, m, k, h1, h2 => by
    show (if q.1 = 0 then n < B ∧ q.2 < 10000 ∧ wfD B (r ++ ds) (n + 1) k else if q.1 = 1 then n < B ∧ q.2 < 9 ∧ wfD B (r ++ ds) (n + 1) k else q.1 ≤ 5 ∧ 2 ≤ n ∧ wfD B (r ++ ds) (n - 1) k)
    have h1 : (if q.1 = 0 then n < B ∧ q.2 < 10000 ∧ wfD B r (n + 1) m else if q.1 = 1 then n < B ∧ q.2 < 9 ∧ wfD B r (n + 1) m else q.1 ≤ 5 ∧ 2 ≤ n ∧ wfD B r (n - 1) m) := h1
    by_cases e : q.1 = 0
    · rw [if_pos e] at h1 ⊢
      exact ⟨h1.1, h1.2.1, wf_app h1.2.2 h2⟩
    · rw [if_neg e] at h1 ⊢
      by_cases e1 : q.1 = 1
      · rw [if_pos e1] at h1 ⊢
        exact ⟨h1.1, h1.2.1, wf_app h1.2.2 h2⟩
      · rw [if_neg e1] at h1 ⊢
        exact ⟨h1.1, h1.2.1, wf_app h1.2.2 h2⟩
def isS (s : Nat) : Prop := s = 0 ∨ s = 2 ∨ s = 3
def isP (p : Nat) : Prop := p = 0 ∨ p = 4 ∨ p = 5
def one (s : Nat) : Nat := if s = 0 then 0 else 1
theorem opL_len (s : Nat) : (opL s).length = one s := by
  unfold opL one
  split <;> rfl
theorem opL_wf {s B n : Nat} (hs : s = 0 ∨ (2 ≤ s ∧ s ≤ 5)) : wfD B (opL s) (n + 1 + one s) (n + 1) := by
  unfold opL one
  by_cases e : s = 0
  · rw [if_pos e, if_pos e]
    rfl
  · rw [if_neg e, if_neg e]
    show (if s = 0 then _ else if s = 1 then _ else s ≤ 5 ∧ 2 ≤ n + 1 + 1 ∧ wfD B [] (n + 1 + 1 - 1) (n + 1))
    rw [if_neg e, if_neg (by omega)]
    exact ⟨by omega, by omega, rfl⟩
theorem par_ok (hV : TV S M T) : ∀ (f dep i : Nat) (b : Bool) (s p : Nat) (cs : List Cd) (j : Nat), dep ≤ 6 → i < M → isS s → isP p → (b = false → s = 0 ∧ p = 0) → parE T f dep i b s p = .inl (cs, j) → i < j ∧ j < M ∧ cs.length ≤ (j - i) + one s + one p ∧ (∀ h, h + (if b then 15 else 13) ≤ 31 + 2 * dep → wfD 31 cs (h + one s + one p) (h + 1)) ∧ (b = true → ¬ (25 ≤ kd T j ∧ kd T j ≤ 28))
  | 0, dep, i, b, s, p, cs, j, _, _, _, _, _, e => by cases e
  | f + 1, dep, i, false, s, p, cs, j, hd, hi, hs, hp, hb, e => by
    obtain ⟨rfl, rfl⟩ := hb rfl
    have vi := hV.2.2.1 i hi
    rw [parE] at e
    by_cases k30 : kd T i = 30
    · rw [if_pos k30] at e
      by_cases d6 : 6 ≤ dep
      · rw [if_pos d6] at e
        cases e
      · rw [if_neg d6] at e
        by_cases i4 : i = 400
        · rw [if_pos i4] at e
          cases e
        · rw [if_neg i4] at e
          have hn := hV.next hi (by omega) i4
          cases hq : parE T f (dep + 1) (i + 1) true 0 0 with
          | inr x => rw [hq] at e; cases e
          | inl q =>
            obtain ⟨cs', j'⟩ := q
            rw [hq] at e
            have ih := par_ok hV f (dep + 1) (i + 1) true 0 0 cs' j' (by omega) hn (Or.inl rfl) (Or.inl rfl) (fun z => by cases z) hq
            dsimp only at e
            by_cases k31 : kd T j' = 31
            · rw [if_pos k31] at e
              by_cases j4 : j' = 400
              · rw [if_pos j4] at e
                cases e
              · rw [if_neg j4] at e
                cases e
                obtain ⟨a1, a2, a3, a4, _⟩ := ih
                refine ⟨by omega, hV.next a2 (by omega) j4, ?_, fun h hh => ?_, fun z => by cases z⟩
                · show cs.length ≤ _
                  have : one 0 = 0 := rfl
                  omega
                · exact a4 h (by rw [if_pos rfl]; rw [if_neg (by decide)] at hh; omega)
            · rw [if_neg k31] at e
              cases e
    · rw [if_neg k30] at e
      by_cases kv : 12 ≤ kd T i ∧ kd T i ≤ 20
      · rw [if_pos kv] at e
        by_cases i4 : i = 400
        · rw [if_pos i4] at e
          cases e
        · rw [if_neg i4] at e
          cases e
          refine ⟨by omega, hV.next hi (by omega) i4, ?_, fun h hh => ?_, fun z => by cases z⟩
          · show 1 ≤ _
            omega
          · rw [if_neg (by decide)] at hh
            show (if (1 : Nat) = 0 then _ else if (1 : Nat) = 1 then h + 0 + 0 < 31 ∧ kd T i - 12 < 9 ∧ wfD 31 [] (h + 0 + 0 + 1) (h + 1) else _)
            rw [if_neg (by decide), if_pos rfl]
            exact ⟨by omega, by omega, rfl⟩
      · rw [if_neg kv] at e
        by_cases k22 : kd T i = 22
        · rw [if_pos k22] at e
          by_cases i4 : i = 400
          · rw [if_pos i4] at e
            cases e
          · rw [if_neg i4] at e
            cases e
            refine ⟨by omega, hV.next hi (by omega) i4, ?_, fun h hh => ?_, fun z => by cases z⟩
            · show 1 ≤ _
              omega
            · rw [if_neg (by decide)] at hh
              show (if (0 : Nat) = 0 then h + 0 + 0 < 31 ∧ vl' T i < 10000 ∧ wfD 31 [] (h + 0 + 0 + 1) (h + 1) else _)
              rw [if_pos rfl]
              have := vi.2.2.1 k22
              exact ⟨by omega, by omega, rfl⟩
        · rw [if_neg k22] at e
          cases e
  | f + 1, dep, i, true, s, p, cs, j, hd, hi, hs, hp, _, e => by
    rw [parE] at e
    cases hq : parE T f dep i false 0 0 with
    | inr x => rw [hq] at e; cases e
    | inl q =>
      obtain ⟨c1, j1⟩ := q
      rw [hq] at e
      obtain ⟨a1, a2, a3, a4, _⟩ := par_ok hV f dep i false 0 0 c1 j1 hd hi (Or.inl rfl) (Or.inl rfl) (fun _ => ⟨rfl, rfl⟩) hq
      have o0 : one 0 = 0 := rfl
      have hs' : s = 0 ∨ (2 ≤ s ∧ s ≤ 5) := by unfold isS at hs; omega
      have hp' : p = 0 ∨ (2 ≤ p ∧ p ≤ 5) := by unfold isP at hp; omega
      have lp := opL_len p
      have ls := opL_len s
      have os : one s ≤ 1 := by unfold one; split <;> omega
      have op : one p ≤ 1 := by unfold one; split <;> omega
      have w1 : ∀ h, h + 15 ≤ 31 + 2 * dep → wfD 31 (c1 ++ opL p) (h + one s + one p) (h + 1 + one s) := fun h hh => by
        have z := a4 (h + one s + one p) (by rw [if_neg (by decide)]; omega)
        rw [o0] at z
        have y := opL_wf (s := p) (B := 31) (n := h + one s) hp'
        rw [show h + one s + 1 + one p = h + one s + one p + 1 by omega] at y
        have x := wf_app z y
        rwa [show h + one s + 1 = h + 1 + one s by omega] at x
      dsimp only at e
      by_cases kp : kd T j1 = 27 ∨ kd T j1 = 28
      · rw [if_pos kp] at e
        by_cases j4 : j1 = 400
        · rw [if_pos j4] at e
          cases e
        · rw [if_neg j4] at e
          have hn := hV.next a2 (by omega) j4
          cases hr : parE T f dep (j1 + 1) true s (kd T j1 - 23) with
          | inr x => rw [hr] at e; cases e
          | inl r =>
            obtain ⟨c2, j2⟩ := r
            rw [hr] at e
            cases e
            have op' : one (kd T j1 - 23) = 1 := by unfold one; rw [if_neg (by omega)]
            obtain ⟨b1, b2, b3, b4, b5⟩ := par_ok hV f dep (j1 + 1) true s (kd T j1 - 23) c2 j2 hd hn hs (by unfold isP; omega) (fun z => by cases z) hr
            refine ⟨by omega, b2, ?_, fun h hh => ?_, b5⟩
            · show (c1 ++ opL p ++ c2).length ≤ (j2 - i) + one s + one p
              rw [List.length_append, List.length_append, lp]
              omega
            · rw [if_pos rfl] at hh
              have z := b4 h (by rw [if_pos rfl]; exact hh)
              rw [op'] at z
              refine wf_app (w1 h hh) ?_
              rw [show h + 1 + one s = h + one s + 1 by omega]
              exact z
      · rw [if_neg kp] at e
        have w2 : ∀ h, h + 15 ≤ 31 + 2 * dep → wfD 31 (c1 ++ opL p ++ opL s) (h + one s + one p) (h + 1) := fun h hh => wf_app (w1 h hh) (opL_wf hs')
        by_cases ks : kd T j1 = 25 ∨ kd T j1 = 26
        · rw [if_pos ks] at e
          by_cases j4 : j1 = 400
          · rw [if_pos j4] at e
            cases e
          · rw [if_neg j4] at e
            have hn := hV.next a2 (by omega) j4
            cases hr : parE T f dep (j1 + 1) true (kd T j1 - 23) 0 with
            | inr x => rw [hr] at e; cases e
            | inl r =>
              obtain ⟨c2, j2⟩ := r
              rw [hr] at e
              cases e
              have os' : one (kd T j1 - 23) = 1 := by unfold one; rw [if_neg (by omega)]
              obtain ⟨b1, b2, b3, b4, b5⟩ := par_ok hV f dep (j1 + 1) true (kd T j1 - 23) 0 c2 j2 hd hn (by unfold isS; omega) (Or.inl rfl) (fun z => by cases z) hr
              refine ⟨by omega, b2, ?_, fun h hh => ?_, b5⟩
              · show (c1 ++ opL p ++ opL s ++ c2).length ≤ (j2 - i) + one s + one p
                rw [List.length_append, List.length_append, List.length_append, lp, ls]
                omega
              · rw [if_pos rfl] at hh
                have z := b4 h (by rw [if_pos rfl]; exact hh)
                rw [os', o0] at z
                exact wf_app (w2 h hh) z
        · rw [if_neg ks] at e
          cases e
          refine ⟨a1, a2, ?_, fun h hh => ?_, fun _ => by omega⟩
          · rw [List.length_append, List.length_append, lp, ls]
            omega
          · rw [if_pos rfl] at hh
            exact w2 h hh
/-! the class's reader: one token -/
def TC (M : Nat) (T : Nat → Tk) (μ : Mem) : Prop := ∀ i, i < M → μ.1 5 i = nI (kd T i) ∧ μ.1 6 i = nI (pc' T i) ∧ (kd T i = 22 → μ.2.1 7 i = lI (vl' T i)) ∧ (kd T i = 21 → μ.2.1 7 i = lI (nm 32 (nm' T i)))
def RC (T : Nat → Tk) (i : Nat) (μ : Mem) : Prop := μ.1 2 6 = 0 ∧ μ.1 2 2 = nI i ∧ μ.1 2 3 = nI (kd T i)
def FC (f pl : Nat) (μ : Mem) : Prop := (1 ≤ f ∧ f ≤ 6) ∧ μ.1 2 6 = nI f ∧ μ.1 2 7 = nI pl ∧ ∃ i, i ≤ 400 ∧ μ.1 2 2 = nI i
theorem FC.ne {f pl : Nat} {μ : Mem} (h : FC f pl μ) : μ.1 2 6 ≠ 0 := by rw [h.2.1]; exact nI_ne0 h.1.1 (by have := h.1.2; omega)
def adv (a k : Nat) : Prop := a = 2 ∧ (k = 2 ∨ k = 3 ∨ k = 6 ∨ k = 7)
abbrev KA (μ μ' : Mem) : Prop := Kz adv (fun _ => False) μ μ'
theorem TC.kz {S' : Nat → Nat → Prop} {L' : Nat → Prop} {μ μ' : Mem} (h : TC M T μ) (k : Kz S' L' μ μ') (h5 : ∀ j, ¬ S' 5 j) (h6 : ∀ j, ¬ S' 6 j) (h7 : ¬ L' 7) : TC M T μ' := fun i hi => by
  rw [k.at (h5 i), k.at (h6 i), k.lg h7]
  exact h i hi
theorem accS {i k : Nat} {μ : Mem} (hV : TV S M T) (hT : TC M T μ) (hR : RC T i μ) (hi : i < M) (hk : kd T i = k) (h32 : k ≠ 32) (h4 : i ≠ 400) : ∃ μ', X4_accept (d + 1) (nI k) μ 1 μ' ∧ RC T (i + 1) μ' ∧ KA μ μ' ∧ i + 1 < M := by
  have hn := hV.next hi (by omega) h4
  have hm := hV.2.1
  refine ⟨sI (sI μ 2 2 (nI (i + 1))) 2 3 (nI (kd T (i + 1))), X4_accept_ok ?_, ⟨?_, ?_, sI_1⟩, (Kz.sI (by unfold adv; omega)).trans (Kz.sI (by unfold adv; omega)), hn⟩
  · rw [hR.2.2, hR.2.1, hR.1]
    refine tpos (by rw [hk]) (tpos (nI_lt (b := 400) (by omega) (by decide)) (tpos rfl ?_))
    rw [nI_1]
    rintro μ1 rfl
    refine ⟨by rw [sI_1]; exact vp_inN (by omega) (by decide), ?_⟩
    rintro μ2 rfl
    rw [sI_1, nI_clamp (by omega), sI_n (show 5 ≠ 2 by decide), (hT (i + 1) hn).1]
    exact ⟨rfl, rfl⟩
  · rw [sI_k (by decide), sI_k (by decide)]; exact hR.1
  · rw [sI_k (by decide), sI_1]
theorem blame_c {i f : Nat} {μ : Mem} (hT : TC M T μ) (hM : M ≤ 401) (h0 : μ.1 2 6 = 0) (h2 : μ.1 2 2 = nI i) (hi : i < M) (hf : 1 ≤ f ∧ f ≤ 6) : ∃ μ', X4_blame d (nI f) μ μ' ∧ FC f (pc' T i) μ' ∧ KA μ μ' := by
  refine ⟨sI (sI μ 2 6 (nI f)) 2 7 (nI (pc' T i)), X4_blame_ok ?_, ⟨hf, by rw [sI_k (by decide), sI_1], sI_1, i, by omega, by rw [sI_k (by decide), sI_k (by decide)]; exact h2⟩, (Kz.sI (by unfold adv; omega)).trans (Kz.sI (by unfold adv; omega))⟩
  rw [h0]
  refine teq rfl ?_
  rintro μ1 rfl
  rw [sI_k (show 2 ≠ 6 by decide), h2]
  refine ⟨vp_inN (by omega) (by decide), ?_⟩
  rintro μ2 rfl
  rw [nI_clamp (by omega), sI_n (show 6 ≠ 2 by decide), (hT i hi).2.1]
theorem blameF {x : Int32} {μ : Mem} (h : μ.1 2 6 ≠ 0) : X4_blame d x μ μ := X4_blame_ok (tne h rfl)
theorem accX {i k : Nat} {μ : Mem} (hV : TV S M T) (hT : TC M T μ) (hR : RC T i μ) (hi : i < M) (hk : k ≤ 33) (h : kd T i ≠ k ∨ i = 400) : ∃ μ', X4_accept (d + 1) (nI k) μ 0 μ' ∧ FC (if kd T i = k then 2 else 1) (pc' T i) μ' ∧ KA μ μ' := by
  have hm := hV.2.1
  have vi := hV.2.2.1 i hi
  by_cases e : kd T i = k
  · have i4 : i = 400 := h.elim (fun z => absurd e z) id
    obtain ⟨μ', g1, g2, g3⟩ := blame_c (d := d) (f := 2) hT hm hR.1 hR.2.1 hi (by omega)
    refine ⟨μ', X4_accept_ok ?_, by rw [if_pos e]; exact g2, g3⟩
    rw [hR.2.2, hR.2.1]
    exact tpos (by rw [e]) (tneg (by rw [i4]; decide) ⟨μ', g1, tneg g2.ne ⟨rfl, rfl⟩⟩)
  · obtain ⟨μ', g1, g2, g3⟩ := blame_c (d := d) (f := 1) hT hm hR.1 hR.2.1 hi (by omega)
    refine ⟨μ', X4_accept_ok ?_, by rw [if_neg e]; exact g2, g3⟩
    rw [hR.2.2]
    exact tneg (fun z => e (nI_inj (by omega) (by omega) z)) ⟨μ', g1, tneg g2.ne ⟨rfl, rfl⟩⟩
theorem accF {x : Int32} {μ : Mem} (h : μ.1 2 6 ≠ 0) : X4_accept (d + 1) x μ 0 μ := by
  refine X4_accept_ok ⟨fun _ => ⟨fun _ => tneg h ⟨rfl, rfl⟩, fun _ => ⟨μ, blameF h, tneg h ⟨rfl, rfl⟩⟩⟩, fun _ => ⟨μ, blameF h, tneg h ⟨rfl, rfl⟩⟩⟩
theorem value_c {i : Nat} {μ : Mem} (hi : i ≤ 400) (h : μ.1 2 2 = nI i) : X4_value d μ (μ.2.1 7 i) μ := by
  refine X4_value_ok ?_
  rw [h, nI_clamp (by omega)]
  exact ⟨vp_inN (by omega) (by decide), rfl, rfl⟩
theorem start_c {i : Nat} {μ : Mem} (hi : i ≤ 400) (h : μ.1 2 2 = nI i) : X4_start d μ (μ.1 6 i) μ := by
  refine X4_start_ok ?_
  rw [h, nI_clamp (by omega)]
  exact ⟨vp_inN (by omega) (by decide), rfl, rfl⟩
/-! the law that is being written -/
def lwC (a1 a k : Nat) : Prop := adv a k ∨ (a = a1 ∧ k = 3) ∨ a = a1 + 1
abbrev KL (a1 : Nat) (μ μ' : Mem) : Prop := Kz (lwC a1) (fun _ => False) μ μ'
theorem KA.l {a1 : Nat} {μ μ' : Mem} (h : KA μ μ') : KL a1 μ μ' := h.mono (fun _ _ q => Or.inl q) (fun _ q => q)
/-- c codes lie there, and those ahead of c0 as they were -/
def LwC (a1 c : Nat) (μ : Mem) : Prop := c ≤ 512 ∧ μ.1 a1 3 = nI c
theorem put_l {a1 c : Nat} {x : Int32} {μ : Mem} (ha : 200 < a1) (hc : c < 512) (h : μ.1 a1 3 = nI c) : ∃ μ', X1_put d a1 x μ μ' ∧ LwC a1 (c + 1) μ' ∧ KL a1 μ μ' ∧ μ'.1 (a1 + 1) c = x ∧ (∀ j, j ≠ c → μ'.1 (a1 + 1) j = μ.1 (a1 + 1) j) ∧ (∀ k, μ'.1 2 k = μ.1 2 k) := by
  refine ⟨_, lawPut_spec hc h, ⟨by omega, sI_1⟩, (Kz.sI (by unfold lwC; omega)).trans (Kz.sI (by unfold lwC; omega)), ?_, fun j hj => ?_, fun k => ?_⟩
  · rw [sI_n (by omega), sI_1]
  · rw [sI_n (by omega), sI_k hj]
  · rw [sI_n (by omega), sI_n (by omega)]
theorem put_any {a1 c : Nat} {x : Int32} {μ : Mem} (ha : 200 < a1) (h : LwC a1 c μ) : ∃ c' μ', X1_put d a1 x μ μ' ∧ LwC a1 c' μ' ∧ KL a1 μ μ' ∧ (∀ k, μ'.1 2 k = μ.1 2 k) := by
  by_cases q : c < 512
  · obtain ⟨μ', g1, g2, g3, _, _, g6⟩ := put_l (d := d) (x := x) ha q h.2
    exact ⟨c + 1, μ', g1, g2, g3, g6⟩
  · refine ⟨c, μ, X1_put_ok ?_, h, Kz.refl, fun _ => rfl⟩
    rw [h.2]
    exact tpos (nI_le (a := 512) (by omega) (by have := h.1; omega)) rfl
theorem cC_app {a1 : Nat} {μ : Mem} : ∀ {cs ds : List Cd} {c : Nat}, cCodes μ a1 c cs → cCodes μ a1 (c + cs.length) ds → cCodes μ a1 c (cs ++ ds)
  | [], ds, c, _, h => h
  | q :: r, ds, c, h1, h2 => ⟨h1.1, cC_app h1.2 (by rw [show c + 1 + r.length = c + (q :: r).length by rw [List.length_cons]; omega]; exact h2)⟩
theorem cC_same {a1 : Nat} {μ μ' : Mem} : ∀ {cs : List Cd} {c : Nat}, (∀ j, c ≤ j → j < c + cs.length → μ'.1 (a1 + 1) j = μ.1 (a1 + 1) j) → cCodes μ a1 c cs → cCodes μ' a1 c cs
  | [], _, _, _ => trivial
  | q :: r, c, h, k => ⟨(h c (Nat.le_refl _) (by rw [List.length_cons]; omega)).trans k.1, cC_same (fun j h1 h2 => h j (by omega) (by rw [List.length_cons]; omega)) k.2⟩
/-- what was put from c on is cs, and nothing ahead of c has changed -/
def PutC (a1 c : Nat) (cs : List Cd) (μ μ' : Mem) : Prop := LwC a1 (c + cs.length) μ' ∧ cCodes μ' a1 c cs ∧ ∀ j, j < c → μ'.1 (a1 + 1) j = μ.1 (a1 + 1) j
theorem PutC.trans {a1 c : Nat} {cs ds : List Cd} {μ μ1 μ2 : Mem} (h : PutC a1 c cs μ μ1) (k : PutC a1 (c + cs.length) ds μ1 μ2) : PutC a1 c (cs ++ ds) μ μ2 := ⟨by rw [List.length_append, ← Nat.add_assoc]; exact k.1, cC_app (cC_same (fun j h1 h2 => k.2.2 j h2) h.2.1) k.2.1, fun j hj => (k.2.2 j (by omega)).trans (h.2.2 j hj)⟩
theorem PutC.ad {a1 c : Nat} {cs : List Cd} {μ μ1 μ2 : Mem} (ha : 200 < a1) (h : PutC a1 c cs μ μ1) (k : KA μ1 μ2) : PutC a1 c cs μ μ2 := ⟨⟨h.1.1, by rw [k.at (by unfold adv; omega)]; exact h.1.2⟩, cC_same (fun j _ _ => k.at (by unfold adv; omega)) h.2.1, fun j hj => by rw [k.at (by unfold adv; omega)]; exact h.2.2 j hj⟩
end
end Rd
