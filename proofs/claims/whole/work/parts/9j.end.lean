/-! ===== read: how the text ends ===== -/
section Rd
variable {d : Nat}
section
variable {S M : Nat} {T : Nat → Tk}
/-- the model from where a text is taken -/
def RdN (d : Nat) (μ1 : Mem) (x : Int32) (μ' : Mem) : Prop := ∃ μ3, X10_begins d (sI μ1 0 18 (μ1.1 0 19)) μ3 ∧ ∃ μ5, X10_keepsRow d μ3 μ5 ∧ X10_read_at243 d 0 (sI (sI μ5 0 53 0) 0 65 0) x μ'
def KRx (s : Nat) (μ μ' : Mem) : Prop := Kz (fun a k => rdM s a k ∨ (a = 0 ∧ k = 17)) (fun a => a = 8) μ μ'
theorem KRm.x {s : Nat} {μ μ' : Mem} (h : KRm s μ μ') : KRx s μ μ' := h.mono (fun _ _ z => Or.inl z) (fun _ z => z)
theorem i0_le : (0 : Int32) ≤ 0 := by decide
theorem nI_nle0 {f : Nat} (h : 1 ≤ f) (h6 : f ≤ 6) : ¬ nI f ≤ (0 : Int32) := fun z => by
  have := (nI_le_iff (b := 0) (by omega) (by omega)).1 z
  omega
theorem at158_l {l : Lt} {μ : Mem} (h0 : μ.1 0 13 = 0) (h : LM' l μ) (e : l.1 ≠ 0) : X10_read_at158 d μ (nI l.1) (sI μ 0 17 (nI l.2)) := by
  have l6 := h.1
  refine X10_read_at158_ok (tpos (by rw [h0]; exact i0_le) (tneg (by rw [h.2.1]; exact nI_nle0 (by omega) l6) ?_))
  rw [h.2.2 e]
  rintro μ9 rfl
  rw [sI_k (show 13 ≠ 17 by decide), sI_k (show 15 ≠ 17 by decide), h0, h.2.1]
  exact tpos i0_le (tneg (nI_nle0 (by omega) l6) ⟨rfl, rfl⟩)
theorem at158_0 {l : Lt} {μ μ' : Mem} {x : Int32} (h0 : μ.1 0 13 = 0) (h : LM' l μ) (e : l.1 = 0) (k : RdN d (sI μ 0 17 (-1)) x μ') : X10_read_at158 d μ x μ' := by
  have h15 : μ.1 0 15 = 0 := by rw [h.2.1, e]; rfl
  refine X10_read_at158_ok (tpos (by rw [h0]; exact i0_le) (tpos (by rw [h15]; exact i0_le) ?_))
  rintro μ1 rfl
  rw [sI_k (show 13 ≠ 17 by decide), sI_k (show 15 ≠ 17 by decide), h0, h15]
  refine tpos i0_le (tpos i0_le ?_)
  rintro μ2 rfl
  obtain ⟨μ3, k1, μ5, k2, k3⟩ := k
  refine ⟨μ3, k1, μ5, k2, ?_⟩
  rintro μ7 rfl μ8 rfl
  exact k3
theorem at158_f {f pl : Nat} {μ : Mem} (h : FM f pl μ) : X10_read_at158 d μ (nI f) (sI μ 0 17 (nI pl)) := by
  have n0 : ¬ nI f ≤ (0 : Int32) := nI_nle0 h.1.1 h.1.2
  refine X10_read_at158_ok (tneg (by rw [h.2.1]; exact n0) ?_)
  rw [h.2.2.1]
  rintro μ9 rfl
  rw [sI_k (show 13 ≠ 17 by decide), h.2.1]
  exact tneg n0 ⟨rfl, rfl⟩
theorem lat_rd {q a k : Nat} (z : lat a k) : rdC q a k := Or.inl ⟨z.1, by have := z.2; omega⟩
theorem rd_fault {q s f k : Nat} {x2 : Int32} {μC μM : Mem} (hq : q = 214 ∨ q = 233) (hC : QSc M T (.inr (f, k)) μC) (hM : QSm M T (.inr (f, k)) μM) : ∃ μC' μM', X4_readText_at50 d x2 0 μC (nI f) μC' ∧ RdE d μM (nI f) μM' ∧ μC'.1 2 7 = nI (pc' T k) ∧ μM'.1 0 17 = nI (pc' T k) ∧ KRc q μC μC' ∧ KRx s μM μM' := by
  obtain ⟨μ1, h1, h2⟩ := land_f (d := d) (q := q) (x2 := x2) (by omega) 48 0 μC (by decide)
  have e6 : μ1.1 2 6 = nI f := (h2.at (by unfold lat; omega)).trans hC.2.2.1
  have e7 : μ1.1 2 7 = nI (pc' T k) := (h2.at (by unfold lat; omega)).trans hC.2.2.2.1
  have ne : μ1.1 2 6 ≠ 0 := by rw [e6]; exact nI_ne0 hC.2.1.1 (by have := hC.2.1.2; omega)
  exact ⟨μ1, _, h1 _ _ (X4_readText_at50_ok (tpos (by decide) (tne ne ⟨e6.symm, rfl⟩))), ⟨fun _ => at158_f hM.2, fun z => absurd z hM.2.ne⟩, e7, sI_1, h2.mono (fun a k z => lat_rd z) (fun _ z => z.elim), Kz.sI (Or.inr ⟨rfl, rfl⟩)⟩
theorem end_c {l : Lt} {μ : Mem} (h0 : μ.1 2 6 = 0) (h : LC' l μ) : X4_readText_at50 d (nI S) 48 μ (nI l.1) (sI (sI μ 2 6 (nI l.1)) 2 7 (if l.1 = 0 then -1 else nI l.2)) := by
  refine X4_readText_at50_ok (tpos (by decide) (teq h0 ?_))
  rw [h.2.1]
  rintro μ1 rfl
  rw [sI_k (show 9 ≠ 6 by decide), h.2.2]
  rintro μ2 rfl
  exact ⟨by rw [sI_k (by decide), sI_1], rfl⟩
theorem rd_end {P : Pl} {N : List (List Nat)} {l : Lt} {bc cc q s j : Nat} {μC μM : Mem} (hV : TV S M T) (hU : TM M T μM) (hC : QSc M T (.inl j) μC) (hM : QSm M T (.inl j) μM) (hk : kd T j = 32) (hw : W8 s μM) (g : GR P N l bc cc q s μC μM) (hi : Inv T l bc cc s j) : (∃ f pl μC' μM', (1 ≤ f ∧ f ≤ 6) ∧ X4_readText_at50 (d + 17) (nI S) 0 μC (nI f) μC' ∧ RdE (d + 18) μM (nI f) μM' ∧ μC'.1 2 7 = nI pl ∧ μM'.1 0 17 = nI pl ∧ KRc q μC μC' ∧ KRx s μM μM') ∨ (∃ μC', X4_readText_at50 (d + 17) (nI S) 0 μC 0 μC' ∧ (∀ x μ'', RdN (d + 18) (sI μM 0 17 (-1)) x μ'' → RdE (d + 18) μM x μ'') ∧ μC'.1 2 7 = -1 ∧ Kz (fun a k => a = 2 ∧ 2 ≤ k) (fun _ => False) μC μC' ∧ okF P ∧ l.1 = 0) := by
  obtain ⟨bH, bF, bL⟩ := g.b6
  have hq := g.hq
  have hs := g.hs
  obtain ⟨w, w8, ww⟩ := hw
  have hjM := hC.1
  have hjS := (hV.2.2.2.2.1 j hjM hk).2
  obtain ⟨μ1, b, c1, c2, c3, c4⟩ := land_c (d := d + 17) (q := q) (S := S) (by omega) 48 0 l μC (by decide) g.cl g.cp
  obtain ⟨y, y1, y2, y3⟩ := are_m (d := d + 18) hs bH w8 g.ms g.m1 ww (pH P) 0 (by omega)
  have y1 : X10_areFields (d + 18) μM y μM := X10_areFields_ok y1
  have m11 : μM.1 0 11 = nI j := hM.2.1.2
  have f0 : μM.1 0 13 = 0 := hM.2.1.1
  have z6 : μ1.1 2 6 = 0 := (c2.at (by unfold lat; omega)).trans hC.2.1
  have kC : ∀ v w, Kz (fun a k => a = 2 ∧ 2 ≤ k) (fun _ => False) μC (sI (sI μ1 2 6 v) 2 7 w) := fun v w => (c2.mono (fun a k z => ⟨z.1, by have := z.2; omega⟩) (fun _ z => z)).trans (Kz.trans (Kz.sI ⟨rfl, by decide⟩) (Kz.sI ⟨rfl, by decide⟩))
  have kR : ∀ {μ'}, Kz (fun a k => a = 2 ∧ 2 ≤ k) (fun _ => False) μC μ' → KRc q μC μ' := fun h => h.mono (fun a k z => Or.inl z) (fun _ z => z.elim)
  by_cases e : l.1 = 0
  · obtain ⟨pw, ⟨x1, x2, x3, x4, x5⟩, y5, y6, y7, y8, y9⟩ := g.con e
    have ew : w = pW P := nI_inj (by omega) (by have := pw.1; omega) (ww.symm.trans y8.1)
    subst ew
    have okC := okF_c bF pw.1 bH pw.2.2.1
    have okM := okF_m (s := s) (μ := μM) bF pw.1 bH pw.2.2.1 y8.2 g.m2
    have bC : b = false ↔ okF P := c4.trans ⟨fun z => okC.2 fun c hc => by rw [← x4.2.1 c hc, ← g.c2]; exact z c (Nat.zero_le _) hc, fun z c _ hc => by rw [x4.2.1 c hc, g.c2]; exact okC.1 z c hc⟩
    have yM : y = 1 ↔ okF P := y3.trans okM.symm
    by_cases ok : okF P
    · right
      have eb := bC.2 ok
      have ey := yM.2 ok
      subst eb ey
      rw [ltS_f] at c3
      have := end_c (d := d + 17) (S := S) z6 c3
      rw [if_pos e, e] at this
      exact ⟨_, c1 _ _ this, fun x μ'' h => ⟨fun z => absurd f0 z, fun _ => ⟨1, μM, y1, tne (by decide) (at158_0 f0 g.ml e h)⟩⟩, sI_1, kC _ _, ok, e⟩
    · left
      have eb : b = true := by
        cases b with
        | true => rfl
        | false => exact absurd (bC.1 rfl) ok
      have ey : y = 0 := y2.resolve_right fun z => ok (yM.1 z)
      subst eb ey
      rw [ltS_0 e] at c3
      obtain ⟨μ4, d1, d2, d3⟩ := wrong_m (d := d + 18) (k := 6) hV hU f0 hjM (by decide) g.ml (fun z => absurd e z)
      rw [ltS_0 e, hjS] at d2
      have := end_c (d := d + 17) (S := S) z6 c3
      rw [if_neg (show ¬ ((6, S) : Lt).1 = 0 from fun z => absurd (show (6 : Nat) = 0 from z) (by decide))] at this
      refine ⟨6, S, _, _, by decide, c1 _ _ this, ⟨fun z => absurd f0 z, fun _ => ⟨0, μM, y1, teq rfl ⟨μ4, by rw [m11]; exact d1, at158_l ((d3.at (by omega)).trans f0) d2 (fun z => absurd (show (6 : Nat) = 0 from z) (by decide))⟩⟩⟩, sI_1, sI_1, kR (kC _ _), (d3.mono (fun a k z => Or.inl (Or.inl ⟨z.1, by have := z.2; omega⟩)) (fun _ z => z.elim)).trans (Kz.sI (Or.inr ⟨rfl, rfl⟩))⟩
  · left
    have l6 := g.cl.1
    rw [ltS_n e] at c3
    have := end_c (d := d + 17) (S := S) z6 c3
    rw [if_neg e] at this
    have hlo := hi.2.2 e
    rcases y2 with e0 | e1
    · subst e0
      obtain ⟨μ4, d1, d2, d3⟩ := wrong_m (d := d + 18) (k := 6) hV hU f0 hjM (by decide) g.ml (fun z => Or.inl hlo)
      rw [ltS_n e] at d2
      exact ⟨l.1, l.2, _, _, ⟨by omega, l6⟩, c1 _ _ this, ⟨fun z => absurd f0 z, fun _ => ⟨0, μM, y1, teq rfl ⟨μ4, by rw [m11]; exact d1, at158_l ((d3.at (by omega)).trans f0) d2 e⟩⟩⟩, sI_1, sI_1, kR (kC _ _), (d3.mono (fun a k z => Or.inl (Or.inl ⟨z.1, by have := z.2; omega⟩)) (fun _ z => z.elim)).trans (Kz.sI (Or.inr ⟨rfl, rfl⟩))⟩
    · subst e1
      exact ⟨l.1, l.2, _, _, ⟨by omega, l6⟩, c1 _ _ this, ⟨fun z => absurd f0 z, fun _ => ⟨1, μM, y1, tne (by decide) (at158_l f0 g.ml e)⟩⟩, sI_1, sI_1, kR (kC _ _), Kz.sI (Or.inr ⟨rfl, rfl⟩)⟩
/-- all that a text tells, on both sides -/
theorem rd_all {P0 : Pl} {bc0 cc0 q s : Nat} {l0 : Lt} {μC μM : Mem} (hV : TV S M T) (hT : TC M T μC) (hU : TM M T μM) (hC : QSc M T (.inl 0) μC) (hM : QSm M T (.inl 0) μM) (g : GR P0 [] l0 bc0 cc0 q s μC μM) (hi : Inv T l0 bc0 cc0 s 0) (hw : W8 s μM) : (∃ f pl μC' μM', (1 ≤ f ∧ f ≤ 6) ∧ X4_readText_at15 (d + 17) (nI S) 0 μC (nI f) μC' ∧ X10_read_at112 (d + 18) μM (nI f) μM' ∧ μC'.1 2 7 = nI pl ∧ μM'.1 0 17 = nI pl ∧ KRc q μC μC' ∧ KRx s μM μM') ∨ (∃ P N l bc cc μC1 μC' μM', X4_readText_at15 (d + 17) (nI S) 0 μC 0 μC' ∧ (∀ x μ'', RdN (d + 18) (sI μM' 0 17 (-1)) x μ'' → X10_read_at112 (d + 18) μM x μ'') ∧ μC'.1 2 7 = -1 ∧ KRc q μC μC' ∧ KRm s μM μM' ∧ okF P ∧ l.1 = 0 ∧ GR P N l bc cc q s μC1 μM' ∧ Kz (fun a k => a = 2 ∧ 2 ≤ k) (fun _ => False) μC1 μC' ∧ bc ≤ 130 * s + 130 ∧ cc ≤ 420 * s + 402) := by
  obtain ⟨q', m1, m2, a1, a2, a3, a4, a5, a6, a7, a8⟩ := loop_both (d := d) (q := q) (s := s) (x2 := nI S) hV M 0 0 P0 [] l0 bc0 cc0 μC μM (by omega) (Nat.le_refl _) hT hU hC hM g hi hw
  cases q' with
  | inr e =>
    obtain ⟨f, k⟩ := e
    obtain ⟨μC', _, b1, _, b3, _, b5, _⟩ := rd_fault (d := d + 17) (q := q) (s := s) (x2 := nI S) g.hq a3 a4
    obtain ⟨_, μM', _, c2, _, c4, _, c6⟩ := rd_fault (d := d + 18) (q := q) (s := s) (x2 := nI S) g.hq a3 a4
    exact Or.inl ⟨f, pc' T k, μC', μM', a3.2.1, a1 _ _ b1, a2 _ _ c2, b3, c4, a5.trans b5, a6.x.trans c6⟩
  | inl j =>
    obtain ⟨b1, b2, P', N', l', bc', cc', g', i'⟩ := a8 j rfl
    have hj := a3.1
    have hm := hV.2.1
    rcases rd_end (d := d) hV a7 a3 a4 b1 b2 g' i' with ⟨f, pl, μC', μM', c1, c2, c3, c4, c5, c6, c7⟩ | ⟨μC', c1, c2, c3, c4, c5, c6⟩
    · exact Or.inl ⟨f, pl, μC', μM', c1, a1 _ _ c2, a2 _ _ c3, c4, c5, a5.trans c6, a6.x.trans c7⟩
    · exact Or.inr ⟨P', N', l', bc', cc', m1, μC', m2, a1 _ _ c1, fun x μ'' h => a2 _ _ (c2 x μ'' h), c3, a5.trans (c4.mono (fun a k z => Or.inl z) (fun _ z => z.elim)), a6, c5, c6, g', c4, by have := i'.2.1; have := g'.mb.2; omega, by have := g'.mc.2.1; omega⟩
end
end Rd
