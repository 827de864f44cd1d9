/-! ===== read: the LAWs, both sides together ===== -/
section Rd
variable {d : Nat}
section
variable {S M : Nat} {T : Nat → Tk}
theorem ln_rd {s k a j : Nat} (hk : k < 3) (z : lnM (420 * s) (130 * s) (3 * s + k) a j) : rdM s a j := by
  rcases z with ((z | z | z) | z | z) | z
  · exact Or.inl ⟨z.1, by have := z.2; omega⟩
  · exact Or.inr (Or.inl z)
  · exact Or.inr (Or.inr (Or.inr (Or.inr (Or.inr (Or.inr (Or.inr (Or.inr z)))))))
  · exact Or.inl ⟨z.1, by have := z.2; omega⟩
  · exact Or.inr (Or.inr (Or.inr (Or.inr (Or.inr (Or.inr (Or.inr (Or.inl z)))))))
  · exact Or.inr (Or.inr (Or.inr (Or.inr (Or.inr (Or.inr (Or.inl ⟨z.1, by have := z.2; omega⟩))))))
def upLw (P : Pl) (k : Nat) (L : Lw) : Pl := (P.1, P.2.1, pFld P, pNe P, pDr P, pWi P, pPi P, fun j => if j = k then L else pLw P j)
theorem tell_lawW {P : Pl} {N : List (List Nat)} {l : Lt} {bc cc q s i : Nat} {μC μM : Mem} (hV : TV S M T) (hT : TC M T μC) (hU : TM M T μM) (hC : QSc M T (.inl i) μC) (hM : QSm M T (.inl i) μM) (g : GR P N l bc cc q s μC μM) (hi : Inv T l bc cc s i) (hk : kd T i = 3) : TellR d M T q s i μC μM := by
  have hq := g.hq
  have hs := g.hs
  obtain ⟨n, μ1, a1, a2, a3, a4⟩ := lawW_c (d := d) (q := q) (by omega) hV hT hC hk g.cp
  obtain ⟨c', b', μ2, b1, b2, b3, b4⟩ := laws_m (d := d + 12) (k := 0) hs (by decide) hV hU hM hk g.mc hi.1 g.mb.1 g.mb.2 hi.2.1 g.ms
  refine ⟨acq T 23 (lawQ T i).2, μ1, μ2, a1, b1, a2, b2, a3.mono (fun a k z => ?_) (fun _ z => z.elim), b3.mono (fun a k z => ln_rd (by decide) z) (fun _ z => z.elim), fun j hj => ?_⟩
  · rcases z with z | z | z
    · exact Or.inl ⟨z.1, by have := z.2; omega⟩
    · exact Or.inr (Or.inr (Or.inr (Or.inl ⟨by have := z.1; omega, z.2⟩)))
    · exact Or.inr (Or.inr (Or.inr (Or.inr (by omega))))
  obtain ⟨a5, a6, a7, a8⟩ := a4 j hj
  obtain ⟨b5, b6, b7, b8, b9, c1, c2, c3, c4, c5, c6, c7⟩ := b4 j hj
  rw [hj] at a2
  have pj := hV.2.2.2.1 i j c1 a2.1
  have Lne : (lawQ T i).1 ≠ [] := fun z => by rw [z] at a8; exact a8
  have kC : ∀ a k, ¬ lwC (q + 7) a k → μ1.1 a k = μC.1 a k := fun a k z => a3.at z
  have con' : l.1 = 0 → PWr (upLw P 0 (lawQ T i).1) ∧ (CcS (upLw P 0 (lawQ T i).1) q μ1 ∧ CcF (upLw P 0 (lawQ T i).1) q μ1 ∧ CcW (upLw P 0 (lawQ T i).1) q μ1 ∧ CcL (upLw P 0 (lawQ T i).1) q μ1 ∧ CcG (upLw P 0 (lawQ T i).1) q μ1) ∧ (CmS (upLw P 0 (lawQ T i).1) s μ2 ∧ CmF (upLw P 0 (lawQ T i).1) s μ2 ∧ CmW (upLw P 0 (lawQ T i).1) s μ2 ∧ CmL (upLw P 0 (lawQ T i).1) s μ2 ∧ CmG (upLw P 0 (lawQ T i).1) s b' c' μ2) := fun z => by
    obtain ⟨⟨w1, w2, w3, w4, w5, w6, w9⟩, ⟨x1, x2, x3, x4, x5⟩, y1, y2, y3, y4, y5⟩ := g.con z
    have X1 : CcS P q μ1 := CcS.kz x1 a3 (by unfold lwC adv; omega) (by unfold lwC adv; omega) (by unfold lwC adv; omega)
    have X2 : CcF P q μ1 := CcF.kz x2 a3 (fun j => by unfold lwC adv; omega) (fun j => by unfold lwC adv; omega)
    have X3 : CcW P q μ1 := CcW.kz x3 a3 (fun j => by unfold lwC adv; omega) (fun j => by unfold lwC adv; omega)
    have X4 : CcL P q μ1 := CcL.kz x4 a3 (by unfold lwC adv; omega) (fun j => by unfold lwC adv; omega) (fun j => by unfold lwC adv; omega)
    have new : cLawAt μ1 (q + 7) 1 (lawQ T i).1 := ⟨n, a5, a6, by rw [if_neg Lne]; exact a7⟩
    have X5 : CcG (upLw P 0 (lawQ T i).1) q μ1 := ⟨new, x5.2.1.kz a3 (by unfold lwC adv; omega) (fun j => by unfold lwC adv; omega), x5.2.2.kz a3 (by unfold lwC adv; omega) (fun j => by unfold lwC adv; omega)⟩
    have Y1 : CmS P s μ2 := CmS.kz y1 b3 (by unfold lnM lmM exM; omega) (by unfold lnM lmM exM; omega) (by unfold lnM lmM exM; omega)
    have Y2 : CmF P s μ2 := CmF.kz y2 b3 (fun j => by unfold lnM lmM exM; omega) (fun j => by unfold lnM lmM exM; omega)
    have Y3 : CmW P s μ2 := CmW.kz y3 b3 (fun j => by unfold lnM lmM exM; omega) (fun j => by unfold lnM lmM exM; omega)
    have Y4 : CmL P s μ2 := CmL.kz y4 b3 (by unfold lnM lmM exM; omega) (fun j => by unfold lnM lmM exM; omega)
    have Y5 : CmG (upLw P 0 (lawQ T i).1) s b' c' μ2 := fun k hk3 => by
      show mLs s b' c' μ2 k (if k = 0 then (lawQ T i).1 else pLw P k)
      by_cases ek : k = 0
      · rw [if_pos ek, ek]
        exact Or.inr ⟨Lne, bc, g.mb.2, by omega, c3, c4.1, by rw [c4.2, c2]⟩
      · rw [if_neg ek]
        have e21 : μ2.1 21 (3 * s + k) = μM.1 21 (3 * s + k) := b3.at (by unfold lnM lmM exM; omega)
        have e22 : μ2.1 22 (3 * s + k) = μM.1 22 (3 * s + k) := b3.at (by unfold lnM lmM exM; omega)
        rcases y5 k hk3 with ⟨u, u1, u2⟩ | ⟨u, b, u1, u2, u3, u4, u5⟩
        · exact Or.inl ⟨u, e21.trans u1, e22.trans u2⟩
        · exact Or.inr ⟨u, b, u1, by omega, u3.same (fun a z h1 h2 h3 h4 => c6 a z h1 h2 (by omega)) (fun z hz => c5 z hz) c7, e21.trans u4, e22.trans u5⟩
    have W9 : ∀ k, k < 3 → (if k = 0 then (lawQ T i).1 else pLw P k) = [] ∨ wfL (if k = 0 then (lawQ T i).1 else pLw P k) := fun k hk3 => by
      by_cases ek : k = 0
      · rw [if_pos ek]; exact Or.inr a8
      · rw [if_neg ek]; exact w9 k hk3
    exact ⟨⟨w1, w2, w3, w4, w5, w6, W9⟩, ⟨X1, X2, X3, X4.plan rfl rfl rfl, X5⟩, ⟨Y1, Y2, Y3, Y4.plan rfl rfl rfl, Y5⟩⟩
  have G : GR (upLw P 0 (lawQ T i).1) N l b' c' q s μ1 μ2 := ⟨hq, hs, g.b6, g.nl, g.ok, by rw [a3.2.2]; exact g.cp, (a3.at (by unfold lwC adv; omega)).trans g.c1, (a3.at (by unfold lwC adv; omega)).trans g.c2, (a3.at (by unfold lwC adv; omega)).trans g.c3, ⟨(a3.at (by unfold lwC adv; omega)).trans g.cn.1, fun z hz => by rw [a3.lg (fun z => z)]; exact g.cn.2 z hz⟩, ⟨g.cl.1, (a3.at (by unfold lwC adv; omega)).trans g.cl.2.1, (a3.at (by unfold lwC adv; omega)).trans g.cl.2.2⟩, (b3.at (by unfold lnM lmM exM; omega)).trans g.m1, (b3.at (by unfold lnM lmM exM; omega)).trans g.m2, (b3.at (by unfold lnM lmM exM; omega)).trans g.m3, ⟨(b3.at (by unfold lnM lmM exM; omega)).trans g.mn.1, fun z hz => by rw [b3.lg (fun z => z)]; exact g.mn.2 z hz⟩, ⟨g.ml.1, (b3.at (by unfold lnM lmM exM; omega)).trans g.ml.2.1, fun z => (b3.at (by unfold lnM lmM exM; omega)).trans (g.ml.2.2 z)⟩, (b3.at (by unfold lnM lmM exM; omega)).trans g.ms, b5, ⟨b6, b7⟩, con'⟩
  exact ⟨c1, Or.inl (b3.at (by unfold lnM lmM exM; omega)), _, _, _, b', c', G, b8, b9, fun z => by have := hi.2.2 z; omega⟩
theorem tell_lawD {P : Pl} {N : List (List Nat)} {l : Lt} {bc cc q s i : Nat} {μC μM : Mem} (hV : TV S M T) (hT : TC M T μC) (hU : TM M T μM) (hC : QSc M T (.inl i) μC) (hM : QSm M T (.inl i) μM) (g : GR P N l bc cc q s μC μM) (hi : Inv T l bc cc s i) (hk : kd T i = 4) : TellR d M T q s i μC μM := by
  have hq := g.hq
  have hs := g.hs
  obtain ⟨n, μ1, a1, a2, a3, a4⟩ := lawD_c (d := d) (q := q) (by omega) hV hT hC hk g.cp
  obtain ⟨c', b', μ2, b1, b2, b3, b4⟩ := laws_m (d := d + 12) (k := 1) hs (by decide) hV hU hM hk g.mc hi.1 g.mb.1 g.mb.2 hi.2.1 g.ms
  refine ⟨acq T 23 (lawQ T i).2, μ1, μ2, a1, b1, a2, b2, a3.mono (fun a k z => ?_) (fun _ z => z.elim), b3.mono (fun a k z => ln_rd (by decide) z) (fun _ z => z.elim), fun j hj => ?_⟩
  · rcases z with z | z | z
    · exact Or.inl ⟨z.1, by have := z.2; omega⟩
    · exact Or.inr (Or.inr (Or.inr (Or.inl ⟨by have := z.1; omega, z.2⟩)))
    · exact Or.inr (Or.inr (Or.inr (Or.inr (by omega))))
  obtain ⟨a5, a6, a7, a8⟩ := a4 j hj
  obtain ⟨b5, b6, b7, b8, b9, c1, c2, c3, c4, c5, c6, c7⟩ := b4 j hj
  rw [hj] at a2
  have pj := hV.2.2.2.1 i j c1 a2.1
  have Lne : (lawQ T i).1 ≠ [] := fun z => by rw [z] at a8; exact a8
  have kC : ∀ a k, ¬ lwC (q + 11) a k → μ1.1 a k = μC.1 a k := fun a k z => a3.at z
  have con' : l.1 = 0 → PWr (upLw P 1 (lawQ T i).1) ∧ (CcS (upLw P 1 (lawQ T i).1) q μ1 ∧ CcF (upLw P 1 (lawQ T i).1) q μ1 ∧ CcW (upLw P 1 (lawQ T i).1) q μ1 ∧ CcL (upLw P 1 (lawQ T i).1) q μ1 ∧ CcG (upLw P 1 (lawQ T i).1) q μ1) ∧ (CmS (upLw P 1 (lawQ T i).1) s μ2 ∧ CmF (upLw P 1 (lawQ T i).1) s μ2 ∧ CmW (upLw P 1 (lawQ T i).1) s μ2 ∧ CmL (upLw P 1 (lawQ T i).1) s μ2 ∧ CmG (upLw P 1 (lawQ T i).1) s b' c' μ2) := fun z => by
    obtain ⟨⟨w1, w2, w3, w4, w5, w6, w9⟩, ⟨x1, x2, x3, x4, x5⟩, y1, y2, y3, y4, y5⟩ := g.con z
    have X1 : CcS P q μ1 := CcS.kz x1 a3 (by unfold lwC adv; omega) (by unfold lwC adv; omega) (by unfold lwC adv; omega)
    have X2 : CcF P q μ1 := CcF.kz x2 a3 (fun j => by unfold lwC adv; omega) (fun j => by unfold lwC adv; omega)
    have X3 : CcW P q μ1 := CcW.kz x3 a3 (fun j => by unfold lwC adv; omega) (fun j => by unfold lwC adv; omega)
    have X4 : CcL P q μ1 := CcL.kz x4 a3 (by unfold lwC adv; omega) (fun j => by unfold lwC adv; omega) (fun j => by unfold lwC adv; omega)
    have new : cLawAt μ1 (q + 11) 1 (lawQ T i).1 := ⟨n, a5, a6, by rw [if_neg Lne]; exact a7⟩
    have X5 : CcG (upLw P 1 (lawQ T i).1) q μ1 := ⟨x5.1.kz a3 (by unfold lwC adv; omega) (fun j => by unfold lwC adv; omega), new, x5.2.2.kz a3 (by unfold lwC adv; omega) (fun j => by unfold lwC adv; omega)⟩
    have Y1 : CmS P s μ2 := CmS.kz y1 b3 (by unfold lnM lmM exM; omega) (by unfold lnM lmM exM; omega) (by unfold lnM lmM exM; omega)
    have Y2 : CmF P s μ2 := CmF.kz y2 b3 (fun j => by unfold lnM lmM exM; omega) (fun j => by unfold lnM lmM exM; omega)
    have Y3 : CmW P s μ2 := CmW.kz y3 b3 (fun j => by unfold lnM lmM exM; omega) (fun j => by unfold lnM lmM exM; omega)
    have Y4 : CmL P s μ2 := CmL.kz y4 b3 (by unfold lnM lmM exM; omega) (fun j => by unfold lnM lmM exM; omega)
    have Y5 : CmG (upLw P 1 (lawQ T i).1) s b' c' μ2 := fun k hk3 => by
      show mLs s b' c' μ2 k (if k = 1 then (lawQ T i).1 else pLw P k)
      by_cases ek : k = 1
      · rw [if_pos ek, ek]
        exact Or.inr ⟨Lne, bc, g.mb.2, by omega, c3, c4.1, by rw [c4.2, c2]⟩
      · rw [if_neg ek]
        have e21 : μ2.1 21 (3 * s + k) = μM.1 21 (3 * s + k) := b3.at (by unfold lnM lmM exM; omega)
        have e22 : μ2.1 22 (3 * s + k) = μM.1 22 (3 * s + k) := b3.at (by unfold lnM lmM exM; omega)
        rcases y5 k hk3 with ⟨u, u1, u2⟩ | ⟨u, b, u1, u2, u3, u4, u5⟩
        · exact Or.inl ⟨u, e21.trans u1, e22.trans u2⟩
        · exact Or.inr ⟨u, b, u1, by omega, u3.same (fun a z h1 h2 h3 h4 => c6 a z h1 h2 (by omega)) (fun z hz => c5 z hz) c7, e21.trans u4, e22.trans u5⟩
    have W9 : ∀ k, k < 3 → (if k = 1 then (lawQ T i).1 else pLw P k) = [] ∨ wfL (if k = 1 then (lawQ T i).1 else pLw P k) := fun k hk3 => by
      by_cases ek : k = 1
      · rw [if_pos ek]; exact Or.inr a8
      · rw [if_neg ek]; exact w9 k hk3
    exact ⟨⟨w1, w2, w3, w4, w5, w6, W9⟩, ⟨X1, X2, X3, X4.plan rfl rfl rfl, X5⟩, ⟨Y1, Y2, Y3, Y4.plan rfl rfl rfl, Y5⟩⟩
  have G : GR (upLw P 1 (lawQ T i).1) N l b' c' q s μ1 μ2 := ⟨hq, hs, g.b6, g.nl, g.ok, by rw [a3.2.2]; exact g.cp, (a3.at (by unfold lwC adv; omega)).trans g.c1, (a3.at (by unfold lwC adv; omega)).trans g.c2, (a3.at (by unfold lwC adv; omega)).trans g.c3, ⟨(a3.at (by unfold lwC adv; omega)).trans g.cn.1, fun z hz => by rw [a3.lg (fun z => z)]; exact g.cn.2 z hz⟩, ⟨g.cl.1, (a3.at (by unfold lwC adv; omega)).trans g.cl.2.1, (a3.at (by unfold lwC adv; omega)).trans g.cl.2.2⟩, (b3.at (by unfold lnM lmM exM; omega)).trans g.m1, (b3.at (by unfold lnM lmM exM; omega)).trans g.m2, (b3.at (by unfold lnM lmM exM; omega)).trans g.m3, ⟨(b3.at (by unfold lnM lmM exM; omega)).trans g.mn.1, fun z hz => by rw [b3.lg (fun z => z)]; exact g.mn.2 z hz⟩, ⟨g.ml.1, (b3.at (by unfold lnM lmM exM; omega)).trans g.ml.2.1, fun z => (b3.at (by unfold lnM lmM exM; omega)).trans (g.ml.2.2 z)⟩, (b3.at (by unfold lnM lmM exM; omega)).trans g.ms, b5, ⟨b6, b7⟩, con'⟩
  exact ⟨c1, Or.inl (b3.at (by unfold lnM lmM exM; omega)), _, _, _, b', c', G, b8, b9, fun z => by have := hi.2.2 z; omega⟩
theorem tell_lawG {P : Pl} {N : List (List Nat)} {l : Lt} {bc cc q s i : Nat} {μC μM : Mem} (hV : TV S M T) (hT : TC M T μC) (hU : TM M T μM) (hC : QSc M T (.inl i) μC) (hM : QSm M T (.inl i) μM) (g : GR P N l bc cc q s μC μM) (hi : Inv T l bc cc s i) (hk : kd T i = 5) : TellR d M T q s i μC μM := by
  have hq := g.hq
  have hs := g.hs
  obtain ⟨n, μ1, a1, a2, a3, a4⟩ := lawG_c (d := d) (q := q) (by omega) hV hT hC hk g.cp
  obtain ⟨c', b', μ2, b1, b2, b3, b4⟩ := laws_m (d := d + 12) (k := 2) hs (by decide) hV hU hM hk g.mc hi.1 g.mb.1 g.mb.2 hi.2.1 g.ms
  refine ⟨acq T 23 (lawQ T i).2, μ1, μ2, a1, b1, a2, b2, a3.mono (fun a k z => ?_) (fun _ z => z.elim), b3.mono (fun a k z => ln_rd (by decide) z) (fun _ z => z.elim), fun j hj => ?_⟩
  · rcases z with z | z | z
    · exact Or.inl ⟨z.1, by have := z.2; omega⟩
    · exact Or.inr (Or.inr (Or.inr (Or.inl ⟨by have := z.1; omega, z.2⟩)))
    · exact Or.inr (Or.inr (Or.inr (Or.inr (by omega))))
  obtain ⟨a5, a6, a7, a8⟩ := a4 j hj
  obtain ⟨b5, b6, b7, b8, b9, c1, c2, c3, c4, c5, c6, c7⟩ := b4 j hj
  rw [hj] at a2
  have pj := hV.2.2.2.1 i j c1 a2.1
  have Lne : (lawQ T i).1 ≠ [] := fun z => by rw [z] at a8; exact a8
  have kC : ∀ a k, ¬ lwC (q + 15) a k → μ1.1 a k = μC.1 a k := fun a k z => a3.at z
  have con' : l.1 = 0 → PWr (upLw P 2 (lawQ T i).1) ∧ (CcS (upLw P 2 (lawQ T i).1) q μ1 ∧ CcF (upLw P 2 (lawQ T i).1) q μ1 ∧ CcW (upLw P 2 (lawQ T i).1) q μ1 ∧ CcL (upLw P 2 (lawQ T i).1) q μ1 ∧ CcG (upLw P 2 (lawQ T i).1) q μ1) ∧ (CmS (upLw P 2 (lawQ T i).1) s μ2 ∧ CmF (upLw P 2 (lawQ T i).1) s μ2 ∧ CmW (upLw P 2 (lawQ T i).1) s μ2 ∧ CmL (upLw P 2 (lawQ T i).1) s μ2 ∧ CmG (upLw P 2 (lawQ T i).1) s b' c' μ2) := fun z => by
    obtain ⟨⟨w1, w2, w3, w4, w5, w6, w9⟩, ⟨x1, x2, x3, x4, x5⟩, y1, y2, y3, y4, y5⟩ := g.con z
    have X1 : CcS P q μ1 := CcS.kz x1 a3 (by unfold lwC adv; omega) (by unfold lwC adv; omega) (by unfold lwC adv; omega)
    have X2 : CcF P q μ1 := CcF.kz x2 a3 (fun j => by unfold lwC adv; omega) (fun j => by unfold lwC adv; omega)
    have X3 : CcW P q μ1 := CcW.kz x3 a3 (fun j => by unfold lwC adv; omega) (fun j => by unfold lwC adv; omega)
    have X4 : CcL P q μ1 := CcL.kz x4 a3 (by unfold lwC adv; omega) (fun j => by unfold lwC adv; omega) (fun j => by unfold lwC adv; omega)
    have new : cLawAt μ1 (q + 15) 0 (lawQ T i).1 := ⟨n, a5, a6, by rw [if_neg Lne]; exact a7⟩
    have X5 : CcG (upLw P 2 (lawQ T i).1) q μ1 := ⟨x5.1.kz a3 (by unfold lwC adv; omega) (fun j => by unfold lwC adv; omega), x5.2.1.kz a3 (by unfold lwC adv; omega) (fun j => by unfold lwC adv; omega), new⟩
    have Y1 : CmS P s μ2 := CmS.kz y1 b3 (by unfold lnM lmM exM; omega) (by unfold lnM lmM exM; omega) (by unfold lnM lmM exM; omega)
    have Y2 : CmF P s μ2 := CmF.kz y2 b3 (fun j => by unfold lnM lmM exM; omega) (fun j => by unfold lnM lmM exM; omega)
    have Y3 : CmW P s μ2 := CmW.kz y3 b3 (fun j => by unfold lnM lmM exM; omega) (fun j => by unfold lnM lmM exM; omega)
    have Y4 : CmL P s μ2 := CmL.kz y4 b3 (by unfold lnM lmM exM; omega) (fun j => by unfold lnM lmM exM; omega)
    have Y5 : CmG (upLw P 2 (lawQ T i).1) s b' c' μ2 := fun k hk3 => by
      show mLs s b' c' μ2 k (if k = 2 then (lawQ T i).1 else pLw P k)
      by_cases ek : k = 2
      · rw [if_pos ek, ek]
        exact Or.inr ⟨Lne, bc, g.mb.2, by omega, c3, c4.1, by rw [c4.2, c2]⟩
      · rw [if_neg ek]
        have e21 : μ2.1 21 (3 * s + k) = μM.1 21 (3 * s + k) := b3.at (by unfold lnM lmM exM; omega)
        have e22 : μ2.1 22 (3 * s + k) = μM.1 22 (3 * s + k) := b3.at (by unfold lnM lmM exM; omega)
        rcases y5 k hk3 with ⟨u, u1, u2⟩ | ⟨u, b, u1, u2, u3, u4, u5⟩
        · exact Or.inl ⟨u, e21.trans u1, e22.trans u2⟩
        · exact Or.inr ⟨u, b, u1, by omega, u3.same (fun a z h1 h2 h3 h4 => c6 a z h1 h2 (by omega)) (fun z hz => c5 z hz) c7, e21.trans u4, e22.trans u5⟩
    have W9 : ∀ k, k < 3 → (if k = 2 then (lawQ T i).1 else pLw P k) = [] ∨ wfL (if k = 2 then (lawQ T i).1 else pLw P k) := fun k hk3 => by
      by_cases ek : k = 2
      · rw [if_pos ek]; exact Or.inr a8
      · rw [if_neg ek]; exact w9 k hk3
    exact ⟨⟨w1, w2, w3, w4, w5, w6, W9⟩, ⟨X1, X2, X3, X4.plan rfl rfl rfl, X5⟩, ⟨Y1, Y2, Y3, Y4.plan rfl rfl rfl, Y5⟩⟩
  have G : GR (upLw P 2 (lawQ T i).1) N l b' c' q s μ1 μ2 := ⟨hq, hs, g.b6, g.nl, g.ok, by rw [a3.2.2]; exact g.cp, (a3.at (by unfold lwC adv; omega)).trans g.c1, (a3.at (by unfold lwC adv; omega)).trans g.c2, (a3.at (by unfold lwC adv; omega)).trans g.c3, ⟨(a3.at (by unfold lwC adv; omega)).trans g.cn.1, fun z hz => by rw [a3.lg (fun z => z)]; exact g.cn.2 z hz⟩, ⟨g.cl.1, (a3.at (by unfold lwC adv; omega)).trans g.cl.2.1, (a3.at (by unfold lwC adv; omega)).trans g.cl.2.2⟩, (b3.at (by unfold lnM lmM exM; omega)).trans g.m1, (b3.at (by unfold lnM lmM exM; omega)).trans g.m2, (b3.at (by unfold lnM lmM exM; omega)).trans g.m3, ⟨(b3.at (by unfold lnM lmM exM; omega)).trans g.mn.1, fun z hz => by rw [b3.lg (fun z => z)]; exact g.mn.2 z hz⟩, ⟨g.ml.1, (b3.at (by unfold lnM lmM exM; omega)).trans g.ml.2.1, fun z => (b3.at (by unfold lnM lmM exM; omega)).trans (g.ml.2.2 z)⟩, (b3.at (by unfold lnM lmM exM; omega)).trans g.ms, b5, ⟨b6, b7⟩, con'⟩
  exact ⟨c1, Or.inl (b3.at (by unfold lnM lmM exM; omega)), _, _, _, b', c', G, b8, b9, fun z => by have := hi.2.2 z; omega⟩
end
end Rd
