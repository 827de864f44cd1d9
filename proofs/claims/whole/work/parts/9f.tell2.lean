/-! ===== read: FIELD, LOOM and no tell, both sides together ===== -/
section Rd
variable {d : Nat}
section
variable {S M : Nat} {T : Nat → Tk}
theorem okN_app {N : List (List Nat)} {x : List Nat} (h : okN N) (hx : okNm x) : okN (N ++ [x]) := fun j hj => by
  rw [List.length_append] at hj
  have hj : j < N.length + 1 := hj
  by_cases e : j = N.length
  · rw [nth_app.2 e]; exact hx
  · rw [nth_app.1 (by omega)]; exact h j (by omega)
theorem tell_none {q s i : Nat} {μC μM : Mem} (hV : TV S M T) (hT : TC M T μC) (hU : TM M T μM) (hC : QSc M T (.inl i) μC) (hM : QSm M T (.inl i) μM) (hk : 9 ≤ kd T i) : TellR d M T q s i μC μM := by
  obtain ⟨μ1, a1, a2, a3⟩ := none_c (d := d) hV hT hC hk
  obtain ⟨μ2, b1, b2, b3⟩ := none_m (d := d + 12) hV hU hM hk
  exact ⟨.inr (1, i), μ1, μ2, a1, b1, a2, b2, a3.mono (fun a k z => Or.inl ⟨z.1, by have := z.2; omega⟩) (fun _ z => z.elim), b3.mono (fun a k z => Or.inl ⟨z.1, by have := z.2; omega⟩) (fun _ z => z.elim), fun j hj => by cases hj⟩
def upfield (P : Pl) (v w : Nat) : Pl := ((pW P, pH P, pF P + 1, pL P), P.2.1, pFld P, (fun f => if f = pF P then v else pNe P f), (fun f => if f = pF P then w else pDr P f), pWi P, pPi P, pLw P)
theorem tell_field {P : Pl} {N : List (List Nat)} {l : Lt} {bc cc q s i : Nat} {μC μM : Mem} (hV : TV S M T) (hT : TC M T μC) (hU : TM M T μM) (hC : QSc M T (.inl i) μC) (hM : QSm M T (.inl i) μM) (g : GR P N l bc cc q s μC μM) (hi : Inv T l bc cc s i) (hk : kd T i = 1) : TellR d M T q s i μC μM := by
  have hq := g.hq
  have hs := g.hs
  obtain ⟨bH, bF, bL⟩ := g.b6
  have nl := g.nl
  obtain ⟨μ1, a1, a2, a3, a4⟩ := field_c (d := d) (q := q) (n := pF P) (by omega) g.ok hV hT hC hk g.cn g.cl (by omega) (fun z => by omega) g.cp g.c2
  obtain ⟨μ2, b1, b2, b3, b4⟩ := field_m (d := d + 12) (n := pF P) hs g.ok hV hU hM hk g.mn g.ml hi.2.2 (by omega) (fun z => by omega) g.ms g.m2
  by_cases e6 : pF P = 6
  · rw [if_pos e6] at a2 b2
    refine ⟨.inr (2, i), μ1, μ2, a1, b1, a2, b2, a3.mono (fun a k z => ?_) (fun _ z => z), b3.mono (fun a k z => ?_) (fun _ z => z), fun j hj => by cases hj⟩
    · rcases z with z | z | z
      · exact Or.inl ⟨z.1, by have := z.2; omega⟩
      · exact Or.inr (Or.inl ⟨z.1, by have := z.2; omega⟩)
      · exact Or.inr (Or.inr (Or.inl ⟨by have := z.1; omega, by have := z.1; omega⟩))
    · rcases z with z | z | z
      · exact Or.inl ⟨z.1, by have := z.2; omega⟩
      · exact Or.inr (Or.inr (Or.inl ⟨by have := z.1; omega, z.2⟩))
      · exact absurd z.2.2 (by omega)
  · rw [if_neg e6] at a2 b2
    refine ⟨fq5 T 1 i, μ1, μ2, a1, b1, a2, b2, a3.mono (fun a k z => ?_) (fun _ z => z), b3.mono (fun a k z => ?_) (fun _ z => z), fun j hj => ?_⟩
    · rcases z with z | z | z
      · exact Or.inl ⟨z.1, by have := z.2; omega⟩
      · exact Or.inr (Or.inl ⟨z.1, by have := z.2; omega⟩)
      · exact Or.inr (Or.inr (Or.inl ⟨by have := z.1; omega, by have := z.1; omega⟩))
    · rcases z with z | z | z
      · exact Or.inl ⟨z.1, by have := z.2; omega⟩
      · exact Or.inr (Or.inr (Or.inl ⟨by have := z.1; omega, z.2⟩))
      · exact Or.inr (Or.inr (Or.inr (Or.inr (Or.inl ⟨z.1, by have := z.2.1; omega, by have := z.2; omega⟩))))
    obtain ⟨a5, a6, a7, a8, a9⟩ := a4 j e6 hj
    obtain ⟨b5, b6, b7, b8, b9⟩ := b4 j e6 hj
    obtain ⟨f4, e⟩ := fq_at.2.2.2.2 hj
    obtain ⟨f3, _⟩ := fq_at.2.2.2.1 f4
    obtain ⟨f2, _⟩ := fq_at.2.2.1 f3
    obtain ⟨_, k21, _⟩ := fq_at.2.1 f2
    rw [hj] at a2
    have hjM := a2.1
    have pp : ∀ t, t < j → pc' T t < pc' T j := fun t ht => hV.2.2.2.1 t j ht hjM
    have con' : (fl3 T N 0 99 0 999 i l).1 = 0 → PWr (upfield P (vl' T (i + 2)) (vl' T (i + 3))) ∧ (CcS (upfield P (vl' T (i + 2)) (vl' T (i + 3))) q μ1 ∧ CcF (upfield P (vl' T (i + 2)) (vl' T (i + 3))) q μ1 ∧ CcW (upfield P (vl' T (i + 2)) (vl' T (i + 3))) q μ1 ∧ CcL (upfield P (vl' T (i + 2)) (vl' T (i + 3))) q μ1 ∧ CcG (upfield P (vl' T (i + 2)) (vl' T (i + 3))) q μ1) ∧ (CmS (upfield P (vl' T (i + 2)) (vl' T (i + 3))) s μ2 ∧ CmF (upfield P (vl' T (i + 2)) (vl' T (i + 3))) s μ2 ∧ CmW (upfield P (vl' T (i + 2)) (vl' T (i + 3))) s μ2 ∧ CmL (upfield P (vl' T (i + 2)) (vl' T (i + 3))) s μ2 ∧ CmG (upfield P (vl' T (i + 2)) (vl' T (i + 3))) s bc cc μ2) := fun z => by
      obtain ⟨z2, zb2⟩ := ltS_z (by decide) z
      obtain ⟨z1, zb1⟩ := ltS_z (by decide) z2
      obtain ⟨z0, _⟩ := ltS_z (by decide) z1
      have v1 := outR_f zb1
      have v2 := outR_f zb2
      obtain ⟨⟨w1, w2, w3, w4, w5, w6, w9⟩, ⟨x1, x2, x3, x4, x5⟩, y1, y2, y3, y4, y5⟩ := g.con z0
      have X1 : CcS P q μ1 := CcS.kz x1 a3 (by unfold tfC naC; omega) (by unfold tfC naC; omega) (by unfold tfC naC; omega)
      have X4 : CcL P q μ1 := CcL.kz x4 a3 (by unfold tfC naC; omega) (fun j => by unfold tfC naC; omega) (fun j => by unfold tfC naC; omega)
      have X5 : CcG P q μ1 := ⟨x5.1.kz a3 (by unfold tfC naC; omega) (fun j => by unfold tfC naC; omega), x5.2.1.kz a3 (by unfold tfC naC; omega) (fun j => by unfold tfC naC; omega), x5.2.2.kz a3 (by unfold tfC naC; omega) (fun j => by unfold tfC naC; omega)⟩
      have Y1 : CmS P s μ2 := CmS.kz y1 b3 (by unfold tfM naM; omega) (by unfold tfM naM; omega) (by unfold tfM naM; omega)
      have Y4 : CmL P s μ2 := CmL.kz y4 b3 (by unfold tfM naM; omega) (fun j => by unfold tfM naM; omega)
      have Y5 : CmG P s bc cc μ2 := CmG.kz y5 b3 (fun a j h1 h2 => by unfold tfM naM; omega)
      have XO : CcW P q μ1 := CcW.kz x3 a3 (fun j => by unfold tfC naC; omega) (fun j => by unfold tfC naC; omega)
      have YO : CmW P s μ2 := CmW.kz y3 b3 (fun j => by unfold tfM naM; omega) (fun j => by unfold tfM naM; omega)
      have XN : CcF (upfield P (vl' T (i + 2)) (vl' T (i + 3))) q μ1 := fun f hf => by
        have hf : f < pF P + 1 := hf
        show μ1.1 (q + 3) f = nI (if f = pF P then vl' T (i + 2) else pNe P f) ∧ μ1.1 (q + 4) f = nI (if f = pF P then vl' T (i + 3) else pDr P f)
        by_cases ef : f = pF P
        · rw [if_pos ef, if_pos ef, ef]; exact ⟨a6, a7⟩
        · rw [if_neg ef, if_neg ef, a3.at (by unfold tfC naC; omega), a3.at (by unfold tfC naC; omega)]
          exact x2 f (by omega)
      have YN : CmF (upfield P (vl' T (i + 2)) (vl' T (i + 3))) s μ2 := fun f hf => by
        have hf : f < pF P + 1 := hf
        show μ2.1 13 (6 * s + f) = nI (if f = pF P then vl' T (i + 2) else pNe P f) ∧ μ2.1 14 (6 * s + f) = nI (if f = pF P then vl' T (i + 3) else pDr P f)
        by_cases ef : f = pF P
        · rw [if_pos ef, if_pos ef, ef]; exact ⟨b6, b7⟩
        · rw [if_neg ef, if_neg ef, b3.at (by unfold tfM naM; omega), b3.at (by unfold tfM naM; omega)]
          exact y2 f (by omega)
      have WN : ∀ f, f < pF P + 1 → (if f = pF P then vl' T (i + 2) else pNe P f) ≤ 99 ∧ (if f = pF P then vl' T (i + 3) else pDr P f) ≤ 999 := fun f hf => by
        by_cases ef : f = pF P
        · rw [if_pos ef, if_pos ef]; exact ⟨v1.2, v2.2⟩
        · rw [if_neg ef, if_neg ef]; exact w4 f (by omega)
      exact ⟨⟨w1, w2, w3, WN, w5, w6, w9⟩, ⟨X1, XN, XO, X4.plan rfl rfl rfl, X5⟩, ⟨Y1, YN, YO, Y4.plan rfl rfl rfl, Y5⟩⟩
    have G : GR (upfield P (vl' T (i + 2)) (vl' T (i + 3))) (N ++ [nm' T (i + 1)]) (fl3 T N 0 99 0 999 i l) bc cc q s μ1 μ2 := ⟨hq, hs, ⟨bH, by show pF P + 1 ≤ 6; omega, bL⟩, by rw [List.length_append]; show N.length + 1 = pF P + 1 + pL P; omega, okN_app g.ok (tv_nm hV (by omega) k21), by rw [a3.2.2]; exact g.cp, (a3.at (by unfold tfC naC; omega)).trans g.c1, a5, (a3.at (by unfold tfC naC; omega)).trans g.c3, a8, a9, (b3.at (by unfold tfM naM; omega)).trans g.m1, b5, (b3.at (by unfold tfM naM; omega)).trans g.m3, b8, b9, (b3.at (by unfold tfM naM; omega)).trans g.ms, ⟨g.mc.1, g.mc.2.1, (b3.at (by unfold tfM naM; omega)).trans g.mc.2.2⟩, ⟨(b3.at (by unfold tfM naM; omega)).trans g.mb.1, g.mb.2⟩, con'⟩
    exact ⟨by omega, Or.inl (b3.at (by unfold tfM naM; omega)), _, _, _, bc, cc, G, by have := hi.1; omega, by have := hi.2.1; omega, lt_ltS (lt_ltS (lt_ltS (fun z => by have := hi.2.2 z; have := pp i (by omega); omega) (pp _ (by omega))) (pp _ (by omega))) (pp _ (by omega))⟩
def uploom (P : Pl) (v w : Nat) : Pl := ((pW P, pH P, pF P, pL P + 1), P.2.1, pFld P, pNe P, pDr P, (fun f => if f = pL P then v else pWi P f), (fun f => if f = pL P then w else pPi P f), pLw P)
theorem tell_loom {P : Pl} {N : List (List Nat)} {l : Lt} {bc cc q s i : Nat} {μC μM : Mem} (hV : TV S M T) (hT : TC M T μC) (hU : TM M T μM) (hC : QSc M T (.inl i) μC) (hM : QSm M T (.inl i) μM) (g : GR P N l bc cc q s μC μM) (hi : Inv T l bc cc s i) (hk : kd T i = 2) : TellR d M T q s i μC μM := by
  have hq := g.hq
  have hs := g.hs
  obtain ⟨bH, bF, bL⟩ := g.b6
  have nl := g.nl
  obtain ⟨μ1, a1, a2, a3, a4⟩ := loom_c (d := d) (q := q) (n := pL P) (by omega) g.ok hV hT hC hk g.cn g.cl (by omega) (fun z => by omega) g.cp g.c3
  obtain ⟨μ2, b1, b2, b3, b4⟩ := loom_m (d := d + 12) (n := pL P) hs g.ok hV hU hM hk g.mn g.ml hi.2.2 (by omega) (fun z => by omega) g.ms g.m3
  by_cases e6 : pL P = 4
  · rw [if_pos e6] at a2 b2
    refine ⟨.inr (2, i), μ1, μ2, a1, b1, a2, b2, a3.mono (fun a k z => ?_) (fun _ z => z), b3.mono (fun a k z => ?_) (fun _ z => z), fun j hj => by cases hj⟩
    · rcases z with z | z | z
      · exact Or.inl ⟨z.1, by have := z.2; omega⟩
      · exact Or.inr (Or.inl ⟨z.1, by have := z.2; omega⟩)
      · exact Or.inr (Or.inr (Or.inl ⟨by have := z.1; omega, by have := z.1; omega⟩))
    · rcases z with z | z | z
      · exact Or.inl ⟨z.1, by have := z.2; omega⟩
      · exact Or.inr (Or.inr (Or.inl ⟨by have := z.1; omega, z.2⟩))
      · exact absurd z.2.2 (by omega)
  · rw [if_neg e6] at a2 b2
    refine ⟨fq5 T 2 i, μ1, μ2, a1, b1, a2, b2, a3.mono (fun a k z => ?_) (fun _ z => z), b3.mono (fun a k z => ?_) (fun _ z => z), fun j hj => ?_⟩
    · rcases z with z | z | z
      · exact Or.inl ⟨z.1, by have := z.2; omega⟩
      · exact Or.inr (Or.inl ⟨z.1, by have := z.2; omega⟩)
      · exact Or.inr (Or.inr (Or.inl ⟨by have := z.1; omega, by have := z.1; omega⟩))
    · rcases z with z | z | z
      · exact Or.inl ⟨z.1, by have := z.2; omega⟩
      · exact Or.inr (Or.inr (Or.inl ⟨by have := z.1; omega, z.2⟩))
      · exact Or.inr (Or.inr (Or.inr (Or.inr (Or.inr (Or.inl ⟨z.1, by have := z.2.1; omega, by have := z.2; omega⟩)))))
    obtain ⟨a5, a6, a7, a8, a9⟩ := a4 j e6 hj
    obtain ⟨b5, b6, b7, b8, b9⟩ := b4 j e6 hj
    obtain ⟨f4, e⟩ := fq_at.2.2.2.2 hj
    obtain ⟨f3, _⟩ := fq_at.2.2.2.1 f4
    obtain ⟨f2, _⟩ := fq_at.2.2.1 f3
    obtain ⟨_, k21, _⟩ := fq_at.2.1 f2
    rw [hj] at a2
    have hjM := a2.1
    have pp : ∀ t, t < j → pc' T t < pc' T j := fun t ht => hV.2.2.2.1 t j ht hjM
    have con' : (fl3 T N 1 8 0 99 i l).1 = 0 → PWr (uploom P (vl' T (i + 2)) (vl' T (i + 3))) ∧ (CcS (uploom P (vl' T (i + 2)) (vl' T (i + 3))) q μ1 ∧ CcF (uploom P (vl' T (i + 2)) (vl' T (i + 3))) q μ1 ∧ CcW (uploom P (vl' T (i + 2)) (vl' T (i + 3))) q μ1 ∧ CcL (uploom P (vl' T (i + 2)) (vl' T (i + 3))) q μ1 ∧ CcG (uploom P (vl' T (i + 2)) (vl' T (i + 3))) q μ1) ∧ (CmS (uploom P (vl' T (i + 2)) (vl' T (i + 3))) s μ2 ∧ CmF (uploom P (vl' T (i + 2)) (vl' T (i + 3))) s μ2 ∧ CmW (uploom P (vl' T (i + 2)) (vl' T (i + 3))) s μ2 ∧ CmL (uploom P (vl' T (i + 2)) (vl' T (i + 3))) s μ2 ∧ CmG (uploom P (vl' T (i + 2)) (vl' T (i + 3))) s bc cc μ2) := fun z => by
      obtain ⟨z2, zb2⟩ := ltS_z (by decide) z
      obtain ⟨z1, zb1⟩ := ltS_z (by decide) z2
      obtain ⟨z0, _⟩ := ltS_z (by decide) z1
      have v1 := outR_f zb1
      have v2 := outR_f zb2
      obtain ⟨⟨w1, w2, w3, w4, w5, w6, w9⟩, ⟨x1, x2, x3, x4, x5⟩, y1, y2, y3, y4, y5⟩ := g.con z0
      have X1 : CcS P q μ1 := CcS.kz x1 a3 (by unfold tfC naC; omega) (by unfold tfC naC; omega) (by unfold tfC naC; omega)
      have X4 : CcL P q μ1 := CcL.kz x4 a3 (by unfold tfC naC; omega) (fun j => by unfold tfC naC; omega) (fun j => by unfold tfC naC; omega)
      have X5 : CcG P q μ1 := ⟨x5.1.kz a3 (by unfold tfC naC; omega) (fun j => by unfold tfC naC; omega), x5.2.1.kz a3 (by unfold tfC naC; omega) (fun j => by unfold tfC naC; omega), x5.2.2.kz a3 (by unfold tfC naC; omega) (fun j => by unfold tfC naC; omega)⟩
      have Y1 : CmS P s μ2 := CmS.kz y1 b3 (by unfold tfM naM; omega) (by unfold tfM naM; omega) (by unfold tfM naM; omega)
      have Y4 : CmL P s μ2 := CmL.kz y4 b3 (by unfold tfM naM; omega) (fun j => by unfold tfM naM; omega)
      have Y5 : CmG P s bc cc μ2 := CmG.kz y5 b3 (fun a j h1 h2 => by unfold tfM naM; omega)
      have XO : CcF P q μ1 := CcF.kz x2 a3 (fun j => by unfold tfC naC; omega) (fun j => by unfold tfC naC; omega)
      have YO : CmF P s μ2 := CmF.kz y2 b3 (fun j => by unfold tfM naM; omega) (fun j => by unfold tfM naM; omega)
      have XN : CcW (uploom P (vl' T (i + 2)) (vl' T (i + 3))) q μ1 := fun f hf => by
        have hf : f < pL P + 1 := hf
        show μ1.1 (q + 5) f = nI (if f = pL P then vl' T (i + 2) else pWi P f) ∧ μ1.1 (q + 6) f = nI (if f = pL P then vl' T (i + 3) else pPi P f)
        by_cases ef : f = pL P
        · rw [if_pos ef, if_pos ef, ef]; exact ⟨a6, a7⟩
        · rw [if_neg ef, if_neg ef, a3.at (by unfold tfC naC; omega), a3.at (by unfold tfC naC; omega)]
          exact x3 f (by omega)
      have YN : CmW (uploom P (vl' T (i + 2)) (vl' T (i + 3))) s μ2 := fun f hf => by
        have hf : f < pL P + 1 := hf
        show μ2.1 16 (4 * s + f) = nI (if f = pL P then vl' T (i + 2) else pWi P f) ∧ μ2.1 17 (4 * s + f) = nI (if f = pL P then vl' T (i + 3) else pPi P f)
        by_cases ef : f = pL P
        · rw [if_pos ef, if_pos ef, ef]; exact ⟨b6, b7⟩
        · rw [if_neg ef, if_neg ef, b3.at (by unfold tfM naM; omega), b3.at (by unfold tfM naM; omega)]
          exact y3 f (by omega)
      have WN : ∀ f, f < pL P + 1 → (1 ≤ (if f = pL P then vl' T (i + 2) else pWi P f) ∧ (if f = pL P then vl' T (i + 2) else pWi P f) ≤ 8) ∧ (if f = pL P then vl' T (i + 3) else pPi P f) ≤ 99 := fun f hf => by
        by_cases ef : f = pL P
        · rw [if_pos ef, if_pos ef]; exact ⟨v1, v2.2⟩
        · rw [if_neg ef, if_neg ef]; exact w5 f (by omega)
      exact ⟨⟨w1, w2, w3, w4, WN, w6, w9⟩, ⟨X1, XO, XN, X4.plan rfl rfl rfl, X5⟩, ⟨Y1, YO, YN, Y4.plan rfl rfl rfl, Y5⟩⟩
    have G : GR (uploom P (vl' T (i + 2)) (vl' T (i + 3))) (N ++ [nm' T (i + 1)]) (fl3 T N 1 8 0 99 i l) bc cc q s μ1 μ2 := ⟨hq, hs, ⟨bH, bF, by show pL P + 1 ≤ 4; omega⟩, by rw [List.length_append]; show N.length + 1 = pF P + (pL P + 1); omega, okN_app g.ok (tv_nm hV (by omega) k21), by rw [a3.2.2]; exact g.cp, (a3.at (by unfold tfC naC; omega)).trans g.c1, (a3.at (by unfold tfC naC; omega)).trans g.c2, a5, a8, a9, (b3.at (by unfold tfM naM; omega)).trans g.m1, (b3.at (by unfold tfM naM; omega)).trans g.m2, b5, b8, b9, (b3.at (by unfold tfM naM; omega)).trans g.ms, ⟨g.mc.1, g.mc.2.1, (b3.at (by unfold tfM naM; omega)).trans g.mc.2.2⟩, ⟨(b3.at (by unfold tfM naM; omega)).trans g.mb.1, g.mb.2⟩, con'⟩
    exact ⟨by omega, Or.inl (b3.at (by unfold tfM naM; omega)), _, _, _, bc, cc, G, by have := hi.1; omega, by have := hi.2.1; omega, lt_ltS (lt_ltS (lt_ltS (fun z => by have := hi.2.2 z; have := pp i (by omega); omega) (pp _ (by omega))) (pp _ (by omega))) (pp _ (by omega))⟩
end
end Rd
