/-! ===== read: each tell, both sides together ===== -/
section Rd
variable {d : Nat}
section
variable {S M : Nat} {T : Nat → Tk}
theorem onL_of {P P' : Pl} (h1 : pW P' = pW P) (h2 : pH P' = pH P) (c : Nat) : onL P' c = onL P c := by unfold onL; rw [h1, h2]
theorem cellsA_of {P P' : Pl} (h1 : pW P' = pW P) (h2 : pH P' = pH P) (h3 : pFld P' = pFld P) (f n : Nat) : cellsA P' f n = cellsA P f n := by
  induction n with
  | zero => rfl
  | succ n ih =>
    unfold cellsA
    rw [ih, onL_of h1 h2, h3]
theorem CcL.plan {P P' : Pl} {q : Nat} {μ : Mem} (h : CcL P q μ) (h1 : pW P' = pW P) (h2 : pH P' = pH P) (h3 : pFld P' = pFld P) : CcL P' q μ := by
  refine ⟨by rw [h1]; exact h.1, fun c hc => ?_, fun f hf => ?_⟩
  · rw [h.2.1 c hc]
    unfold landI
    rw [onL_of h1 h2, h3]
  · rw [h.2.2 f hf, cellsA_of h1 h2 h3]
theorem CmL.plan {P P' : Pl} {s : Nat} {μ : Mem} (h : CmL P s μ) (h1 : pW P' = pW P) (h2 : pH P' = pH P) (h3 : pFld P' = pFld P) : CmL P' s μ := by
  refine ⟨by rw [h1]; exact h.1, fun c hc => ?_⟩
  rw [h3]
  exact h.2 c (by rw [← onL_of h1 h2]; exact hc)
def upstor (P : Pl) (v : Nat) : Pl := (P.1, (v, pGu P, pSe P), P.2.2)
theorem tell_stor {P : Pl} {N : List (List Nat)} {l : Lt} {bc cc q s i : Nat} {μC μM : Mem} (hV : TV S M T) (hT : TC M T μC) (hU : TM M T μM) (hC : QSc M T (.inl i) μC) (hM : QSm M T (.inl i) μM) (g : GR P N l bc cc q s μC μM) (hi : Inv T l bc cc s i) (hk : kd T i = 6) : TellR d M T q s i μC μM := by
  have hq := g.hq
  have hs := g.hs
  obtain ⟨μ1, a1, a2, a3, a4⟩ := stor_c (d := d) (q := q) (by omega) hV hT hC hk g.cl g.cp
  obtain ⟨μ2, b1, b2, b3, b4⟩ := stor_m (d := d + 12) hs hV hU hM hk g.ml hi.2.2 g.ms
  refine ⟨nq3 T 6 i, μ1, μ2, a1, b1, a2, b2, a3.mono (fun a k z => z.elim (fun z => Or.inl ⟨z.1, by have := z.2; omega⟩) (fun z => Or.inr (Or.inl ⟨z.1, by have := z.2; omega⟩))) (fun _ z => z.elim), b3.mono (fun a k z => z.elim (fun z => Or.inl ⟨z.1, by have := z.2; omega⟩) (fun z => Or.inr (Or.inr (Or.inl ⟨by have := z.1; omega, z.2⟩)))) (fun _ z => z.elim), fun j hj => ?_⟩
  obtain ⟨a5, a6⟩ := a4 j hj
  obtain ⟨b5, b6⟩ := b4 j hj
  obtain ⟨_, e⟩ := nq_at.2.2 hj
  rw [hj] at a2
  have hjM := a2.1
  have p1 := hV.2.2.2.1 i j (by omega) hjM
  have p2 := hV.2.2.2.1 (i + 1) j (by omega) hjM
  have con' : (ltS (outR 0 9999 (vl' T (i + 1))) 5 (pc' T (i + 1)) l).1 = 0 → PWr (upstor P (vl' T (i + 1))) ∧ (CcS (upstor P (vl' T (i + 1))) q μ1 ∧ CcF (upstor P (vl' T (i + 1))) q μ1 ∧ CcW (upstor P (vl' T (i + 1))) q μ1 ∧ CcL (upstor P (vl' T (i + 1))) q μ1 ∧ CcG (upstor P (vl' T (i + 1))) q μ1) ∧ (CmS (upstor P (vl' T (i + 1))) s μ2 ∧ CmF (upstor P (vl' T (i + 1))) s μ2 ∧ CmW (upstor P (vl' T (i + 1))) s μ2 ∧ CmL (upstor P (vl' T (i + 1))) s μ2 ∧ CmG (upstor P (vl' T (i + 1))) s bc cc μ2) := fun z => by
    obtain ⟨z0, zb⟩ := ltS_z (by decide) z
    have v := outR_f zb
    obtain ⟨⟨w1, w2, w3, w4, w5, ⟨w6, w7, w8⟩, w9⟩, ⟨x1, x2, x3, x4, x5⟩, y1, y2, y3, y4, y5⟩ := g.con z0
    have X2 : CcF P q μ1 := CcF.kz x2 a3 (fun j => by unfold nuC laC; omega) (fun j => by unfold nuC laC; omega)
    have X3 : CcW P q μ1 := CcW.kz x3 a3 (fun j => by unfold nuC laC; omega) (fun j => by unfold nuC laC; omega)
    have X4 : CcL P q μ1 := CcL.kz x4 a3 (by unfold nuC laC; omega) (fun j => by unfold nuC laC; omega) (fun j => by unfold nuC laC; omega)
    have X5 : CcG P q μ1 := ⟨x5.1.kz a3 (by unfold nuC laC; omega) (fun j => by unfold nuC laC; omega), x5.2.1.kz a3 (by unfold nuC laC; omega) (fun j => by unfold nuC laC; omega), x5.2.2.kz a3 (by unfold nuC laC; omega) (fun j => by unfold nuC laC; omega)⟩
    have Y2 : CmF P s μ2 := CmF.kz y2 b3 (fun j => by unfold nuM laM; omega) (fun j => by unfold nuM laM; omega)
    have Y3 : CmW P s μ2 := CmW.kz y3 b3 (fun j => by unfold nuM laM; omega) (fun j => by unfold nuM laM; omega)
    have Y4 : CmL P s μ2 := CmL.kz y4 b3 (by unfold nuM laM; omega) (fun j => by unfold nuM laM; omega)
    have Y5 : CmG P s bc cc μ2 := CmG.kz y5 b3 (fun a j h1 h2 => by unfold nuM laM; omega)
    exact ⟨⟨w1, w2, w3, w4, w5, ⟨v.2, w7, w8⟩, w9⟩, ⟨⟨a5, (a3.at (by unfold nuC laC; omega)).trans x1.2.1, (a3.at (by unfold nuC laC; omega)).trans x1.2.2⟩, X2, X3, X4.plan rfl rfl rfl, X5⟩, ⟨⟨b5, (b3.at (by unfold nuM laM; omega)).trans y1.2.1, (b3.at (by unfold nuM laM; omega)).trans y1.2.2⟩, Y2, Y3, Y4.plan rfl rfl rfl, Y5⟩⟩
  have G : GR (upstor P (vl' T (i + 1))) N (ltS (outR 0 9999 (vl' T (i + 1))) 5 (pc' T (i + 1)) l) bc cc q s μ1 μ2 := ⟨hq, hs, g.b6, g.nl, g.ok, by rw [a3.2.2]; exact g.cp, (a3.at (by unfold nuC laC; omega)).trans g.c1, (a3.at (by unfold nuC laC; omega)).trans g.c2, (a3.at (by unfold nuC laC; omega)).trans g.c3, ⟨(a3.at (by unfold nuC laC; omega)).trans g.cn.1, fun z hz => by rw [a3.lg (fun z => z)]; exact g.cn.2 z hz⟩, a6, (b3.at (by unfold nuM laM; omega)).trans g.m1, (b3.at (by unfold nuM laM; omega)).trans g.m2, (b3.at (by unfold nuM laM; omega)).trans g.m3, ⟨(b3.at (by unfold nuM laM; omega)).trans g.mn.1, fun z hz => by rw [b3.lg (fun z => z)]; exact g.mn.2 z hz⟩, b6, (b3.at (by unfold nuM laM; omega)).trans g.ms, ⟨g.mc.1, g.mc.2.1, (b3.at (by unfold nuM laM; omega)).trans g.mc.2.2⟩, ⟨(b3.at (by unfold nuM laM; omega)).trans g.mb.1, g.mb.2⟩, con'⟩
  exact ⟨by omega, Or.inl (b3.at (by unfold nuM laM; omega)), upstor P (vl' T (i + 1)), N, ltS (outR 0 9999 (vl' T (i + 1))) 5 (pc' T (i + 1)) l, bc, cc, G, by have := hi.1; omega, by have := hi.2.1; omega, lt_ltS (fun z => by have := hi.2.2 z; omega) p2⟩
def upgust (P : Pl) (v : Nat) : Pl := (P.1, (pSt P, v, pSe P), P.2.2)
theorem tell_gust {P : Pl} {N : List (List Nat)} {l : Lt} {bc cc q s i : Nat} {μC μM : Mem} (hV : TV S M T) (hT : TC M T μC) (hU : TM M T μM) (hC : QSc M T (.inl i) μC) (hM : QSm M T (.inl i) μM) (g : GR P N l bc cc q s μC μM) (hi : Inv T l bc cc s i) (hk : kd T i = 7) : TellR d M T q s i μC μM := by
  have hq := g.hq
  have hs := g.hs
  obtain ⟨μ1, a1, a2, a3, a4⟩ := gust_c (d := d) (q := q) (by omega) hV hT hC hk g.cl g.cp
  obtain ⟨μ2, b1, b2, b3, b4⟩ := gust_m (d := d + 12) hs hV hU hM hk g.ml hi.2.2 g.ms
  refine ⟨nq3 T 7 i, μ1, μ2, a1, b1, a2, b2, a3.mono (fun a k z => z.elim (fun z => Or.inl ⟨z.1, by have := z.2; omega⟩) (fun z => Or.inr (Or.inl ⟨z.1, by have := z.2; omega⟩))) (fun _ z => z.elim), b3.mono (fun a k z => z.elim (fun z => Or.inl ⟨z.1, by have := z.2; omega⟩) (fun z => Or.inr (Or.inr (Or.inl ⟨by have := z.1; omega, z.2⟩)))) (fun _ z => z.elim), fun j hj => ?_⟩
  obtain ⟨a5, a6⟩ := a4 j hj
  obtain ⟨b5, b6⟩ := b4 j hj
  obtain ⟨_, e⟩ := nq_at.2.2 hj
  rw [hj] at a2
  have hjM := a2.1
  have p1 := hV.2.2.2.1 i j (by omega) hjM
  have p2 := hV.2.2.2.1 (i + 1) j (by omega) hjM
  have con' : (ltS (outR 0 100 (vl' T (i + 1))) 5 (pc' T (i + 1)) l).1 = 0 → PWr (upgust P (vl' T (i + 1))) ∧ (CcS (upgust P (vl' T (i + 1))) q μ1 ∧ CcF (upgust P (vl' T (i + 1))) q μ1 ∧ CcW (upgust P (vl' T (i + 1))) q μ1 ∧ CcL (upgust P (vl' T (i + 1))) q μ1 ∧ CcG (upgust P (vl' T (i + 1))) q μ1) ∧ (CmS (upgust P (vl' T (i + 1))) s μ2 ∧ CmF (upgust P (vl' T (i + 1))) s μ2 ∧ CmW (upgust P (vl' T (i + 1))) s μ2 ∧ CmL (upgust P (vl' T (i + 1))) s μ2 ∧ CmG (upgust P (vl' T (i + 1))) s bc cc μ2) := fun z => by
    obtain ⟨z0, zb⟩ := ltS_z (by decide) z
    have v := outR_f zb
    obtain ⟨⟨w1, w2, w3, w4, w5, ⟨w6, w7, w8⟩, w9⟩, ⟨x1, x2, x3, x4, x5⟩, y1, y2, y3, y4, y5⟩ := g.con z0
    have X2 : CcF P q μ1 := CcF.kz x2 a3 (fun j => by unfold nuC laC; omega) (fun j => by unfold nuC laC; omega)
    have X3 : CcW P q μ1 := CcW.kz x3 a3 (fun j => by unfold nuC laC; omega) (fun j => by unfold nuC laC; omega)
    have X4 : CcL P q μ1 := CcL.kz x4 a3 (by unfold nuC laC; omega) (fun j => by unfold nuC laC; omega) (fun j => by unfold nuC laC; omega)
    have X5 : CcG P q μ1 := ⟨x5.1.kz a3 (by unfold nuC laC; omega) (fun j => by unfold nuC laC; omega), x5.2.1.kz a3 (by unfold nuC laC; omega) (fun j => by unfold nuC laC; omega), x5.2.2.kz a3 (by unfold nuC laC; omega) (fun j => by unfold nuC laC; omega)⟩
    have Y2 : CmF P s μ2 := CmF.kz y2 b3 (fun j => by unfold nuM laM; omega) (fun j => by unfold nuM laM; omega)
    have Y3 : CmW P s μ2 := CmW.kz y3 b3 (fun j => by unfold nuM laM; omega) (fun j => by unfold nuM laM; omega)
    have Y4 : CmL P s μ2 := CmL.kz y4 b3 (by unfold nuM laM; omega) (fun j => by unfold nuM laM; omega)
    have Y5 : CmG P s bc cc μ2 := CmG.kz y5 b3 (fun a j h1 h2 => by unfold nuM laM; omega)
    exact ⟨⟨w1, w2, w3, w4, w5, ⟨w6, v.2, w8⟩, w9⟩, ⟨⟨(a3.at (by unfold nuC laC; omega)).trans x1.1, a5, (a3.at (by unfold nuC laC; omega)).trans x1.2.2⟩, X2, X3, X4.plan rfl rfl rfl, X5⟩, ⟨⟨(b3.at (by unfold nuM laM; omega)).trans y1.1, b5, (b3.at (by unfold nuM laM; omega)).trans y1.2.2⟩, Y2, Y3, Y4.plan rfl rfl rfl, Y5⟩⟩
  have G : GR (upgust P (vl' T (i + 1))) N (ltS (outR 0 100 (vl' T (i + 1))) 5 (pc' T (i + 1)) l) bc cc q s μ1 μ2 := ⟨hq, hs, g.b6, g.nl, g.ok, by rw [a3.2.2]; exact g.cp, (a3.at (by unfold nuC laC; omega)).trans g.c1, (a3.at (by unfold nuC laC; omega)).trans g.c2, (a3.at (by unfold nuC laC; omega)).trans g.c3, ⟨(a3.at (by unfold nuC laC; omega)).trans g.cn.1, fun z hz => by rw [a3.lg (fun z => z)]; exact g.cn.2 z hz⟩, a6, (b3.at (by unfold nuM laM; omega)).trans g.m1, (b3.at (by unfold nuM laM; omega)).trans g.m2, (b3.at (by unfold nuM laM; omega)).trans g.m3, ⟨(b3.at (by unfold nuM laM; omega)).trans g.mn.1, fun z hz => by rw [b3.lg (fun z => z)]; exact g.mn.2 z hz⟩, b6, (b3.at (by unfold nuM laM; omega)).trans g.ms, ⟨g.mc.1, g.mc.2.1, (b3.at (by unfold nuM laM; omega)).trans g.mc.2.2⟩, ⟨(b3.at (by unfold nuM laM; omega)).trans g.mb.1, g.mb.2⟩, con'⟩
  exact ⟨by omega, Or.inl (b3.at (by unfold nuM laM; omega)), upgust P (vl' T (i + 1)), N, ltS (outR 0 100 (vl' T (i + 1))) 5 (pc' T (i + 1)) l, bc, cc, G, by have := hi.1; omega, by have := hi.2.1; omega, lt_ltS (fun z => by have := hi.2.2 z; omega) p2⟩
def upseedn (P : Pl) (v : Nat) : Pl := (P.1, (pSt P, pGu P, v), P.2.2)
theorem tell_seedn {P : Pl} {N : List (List Nat)} {l : Lt} {bc cc q s i : Nat} {μC μM : Mem} (hV : TV S M T) (hT : TC M T μC) (hU : TM M T μM) (hC : QSc M T (.inl i) μC) (hM : QSm M T (.inl i) μM) (g : GR P N l bc cc q s μC μM) (hi : Inv T l bc cc s i) (hk : kd T i = 8) : TellR d M T q s i μC μM := by
  have hq := g.hq
  have hs := g.hs
  obtain ⟨μ1, a1, a2, a3, a4⟩ := seedn_c (d := d) (q := q) (by omega) hV hT hC hk g.cl g.cp
  obtain ⟨μ2, b1, b2, b3, b4⟩ := seedn_m (d := d + 12) hs hV hU hM hk g.ml hi.2.2 g.ms
  refine ⟨nq3 T 8 i, μ1, μ2, a1, b1, a2, b2, a3.mono (fun a k z => z.elim (fun z => Or.inl ⟨z.1, by have := z.2; omega⟩) (fun z => Or.inr (Or.inl ⟨z.1, by have := z.2; omega⟩))) (fun _ z => z.elim), b3.mono (fun a k z => z.elim (fun z => Or.inl ⟨z.1, by have := z.2; omega⟩) (fun z => Or.inr (Or.inr (Or.inl ⟨by have := z.1; omega, z.2⟩)))) (fun _ z => z.elim), fun j hj => ?_⟩
  obtain ⟨a5, a6⟩ := a4 j hj
  obtain ⟨b5, b6⟩ := b4 j hj
  obtain ⟨_, e⟩ := nq_at.2.2 hj
  rw [hj] at a2
  have hjM := a2.1
  have p1 := hV.2.2.2.1 i j (by omega) hjM
  have p2 := hV.2.2.2.1 (i + 1) j (by omega) hjM
  have con' : (ltS (outR 0 9999 (vl' T (i + 1))) 5 (pc' T (i + 1)) l).1 = 0 → PWr (upseedn P (vl' T (i + 1))) ∧ (CcS (upseedn P (vl' T (i + 1))) q μ1 ∧ CcF (upseedn P (vl' T (i + 1))) q μ1 ∧ CcW (upseedn P (vl' T (i + 1))) q μ1 ∧ CcL (upseedn P (vl' T (i + 1))) q μ1 ∧ CcG (upseedn P (vl' T (i + 1))) q μ1) ∧ (CmS (upseedn P (vl' T (i + 1))) s μ2 ∧ CmF (upseedn P (vl' T (i + 1))) s μ2 ∧ CmW (upseedn P (vl' T (i + 1))) s μ2 ∧ CmL (upseedn P (vl' T (i + 1))) s μ2 ∧ CmG (upseedn P (vl' T (i + 1))) s bc cc μ2) := fun z => by
    obtain ⟨z0, zb⟩ := ltS_z (by decide) z
    have v := outR_f zb
    obtain ⟨⟨w1, w2, w3, w4, w5, ⟨w6, w7, w8⟩, w9⟩, ⟨x1, x2, x3, x4, x5⟩, y1, y2, y3, y4, y5⟩ := g.con z0
    have X2 : CcF P q μ1 := CcF.kz x2 a3 (fun j => by unfold nuC laC; omega) (fun j => by unfold nuC laC; omega)
    have X3 : CcW P q μ1 := CcW.kz x3 a3 (fun j => by unfold nuC laC; omega) (fun j => by unfold nuC laC; omega)
    have X4 : CcL P q μ1 := CcL.kz x4 a3 (by unfold nuC laC; omega) (fun j => by unfold nuC laC; omega) (fun j => by unfold nuC laC; omega)
    have X5 : CcG P q μ1 := ⟨x5.1.kz a3 (by unfold nuC laC; omega) (fun j => by unfold nuC laC; omega), x5.2.1.kz a3 (by unfold nuC laC; omega) (fun j => by unfold nuC laC; omega), x5.2.2.kz a3 (by unfold nuC laC; omega) (fun j => by unfold nuC laC; omega)⟩
    have Y2 : CmF P s μ2 := CmF.kz y2 b3 (fun j => by unfold nuM laM; omega) (fun j => by unfold nuM laM; omega)
    have Y3 : CmW P s μ2 := CmW.kz y3 b3 (fun j => by unfold nuM laM; omega) (fun j => by unfold nuM laM; omega)
    have Y4 : CmL P s μ2 := CmL.kz y4 b3 (by unfold nuM laM; omega) (fun j => by unfold nuM laM; omega)
    have Y5 : CmG P s bc cc μ2 := CmG.kz y5 b3 (fun a j h1 h2 => by unfold nuM laM; omega)
    exact ⟨⟨w1, w2, w3, w4, w5, ⟨w6, w7, v.2⟩, w9⟩, ⟨⟨(a3.at (by unfold nuC laC; omega)).trans x1.1, (a3.at (by unfold nuC laC; omega)).trans x1.2.1, a5⟩, X2, X3, X4.plan rfl rfl rfl, X5⟩, ⟨⟨(b3.at (by unfold nuM laM; omega)).trans y1.1, (b3.at (by unfold nuM laM; omega)).trans y1.2.1, b5⟩, Y2, Y3, Y4.plan rfl rfl rfl, Y5⟩⟩
  have G : GR (upseedn P (vl' T (i + 1))) N (ltS (outR 0 9999 (vl' T (i + 1))) 5 (pc' T (i + 1)) l) bc cc q s μ1 μ2 := ⟨hq, hs, g.b6, g.nl, g.ok, by rw [a3.2.2]; exact g.cp, (a3.at (by unfold nuC laC; omega)).trans g.c1, (a3.at (by unfold nuC laC; omega)).trans g.c2, (a3.at (by unfold nuC laC; omega)).trans g.c3, ⟨(a3.at (by unfold nuC laC; omega)).trans g.cn.1, fun z hz => by rw [a3.lg (fun z => z)]; exact g.cn.2 z hz⟩, a6, (b3.at (by unfold nuM laM; omega)).trans g.m1, (b3.at (by unfold nuM laM; omega)).trans g.m2, (b3.at (by unfold nuM laM; omega)).trans g.m3, ⟨(b3.at (by unfold nuM laM; omega)).trans g.mn.1, fun z hz => by rw [b3.lg (fun z => z)]; exact g.mn.2 z hz⟩, b6, (b3.at (by unfold nuM laM; omega)).trans g.ms, ⟨g.mc.1, g.mc.2.1, (b3.at (by unfold nuM laM; omega)).trans g.mc.2.2⟩, ⟨(b3.at (by unfold nuM laM; omega)).trans g.mb.1, g.mb.2⟩, con'⟩
  exact ⟨by omega, Or.inl (b3.at (by unfold nuM laM; omega)), upseedn P (vl' T (i + 1)), N, ltS (outR 0 9999 (vl' T (i + 1))) 5 (pc' T (i + 1)) l, bc, cc, G, by have := hi.1; omega, by have := hi.2.1; omega, lt_ltS (fun z => by have := hi.2.2 z; omega) p2⟩
end
end Rd
