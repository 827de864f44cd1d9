/-! ===== read: a row, both sides together ===== -/
section Rd
variable {d : Nat}
section
variable {S M : Nat} {T : Nat → Tk}
def sumU (u : Nat → Nat) : Nat → Nat
  | 0 => 0
  | c + 1 => sumU u c + u c
theorem cells_add {P P' : Pl} {f : Nat} {u : Nat → Nat} : ∀ m, (∀ c, c < m → (if onL P' c && decide (pFld P' c = some f) then 1 else 0) = (if onL P c && decide (pFld P c = some f) then 1 else 0) + u c) → cellsA P' f m = cellsA P f m + sumU u m
  | 0, _ => rfl
  | m + 1, h => by
    unfold cellsA
    rw [cells_add m (fun c hc => h c (by omega)), h m (by omega)]
    show _ = _ + (sumU u m + u m)
    omega
theorem sumU_z {u : Nat → Nat} {a : Nat} : ∀ k, (∀ c, a ≤ c → c < a + k → u c = 0) → sumU u (a + k) = sumU u a
  | 0, _ => rfl
  | k + 1, h => by
    show sumU u (a + k) + u (a + k) = _
    rw [sumU_z k (fun c h1 h2 => h c h1 (by omega)), h (a + k) (by omega) (by omega), Nat.add_zero]
theorem cnL_s {x : List Nat} {f : Nat} : ∀ k p, cnL x f p (k + 1) = cnL x f p k + (if lt' x (p + k) = f + 1 then 1 else 0)
  | 0, p => by
    show (if lt' x p = f + 1 then 1 else 0) + 0 = 0 + (if lt' x (p + 0) = f + 1 then 1 else 0)
    rw [Nat.add_zero, Nat.zero_add]
    rfl
  | k + 1, p => by
    show (if lt' x p = f + 1 then 1 else 0) + cnL x f (p + 1) (k + 1) = ((if lt' x p = f + 1 then 1 else 0) + cnL x f (p + 1) k) + _
    rw [cnL_s k (p + 1), show p + 1 + k = p + (k + 1) by omega]
    omega
theorem sumU_row {u : Nat → Nat} {x : List Nat} {f a : Nat} : ∀ k, (∀ j, j < k → u (a + j) = if lt' x j = f + 1 then 1 else 0) → sumU u (a + k) = sumU u a + cnL x f 0 k
  | 0, _ => rfl
  | k + 1, h => by
    show sumU u (a + k) + u (a + k) = _
    rw [sumU_row k (fun j hj => h j (by omega)), h k (by omega), cnL_s, Nat.zero_add]
    omega
theorem badL_f {x : List Nat} : ∀ k p, badL x p k = false → ∀ j, p ≤ j → j < p + k → okL (lt' x j) = true
  | 0, p, _, j, h1, h2 => by omega
  | k + 1, p, h, j, h1, h2 => by
    unfold badL at h
    rw [Bool.or_eq_false_iff] at h
    by_cases e : j = p
    · rw [e]
      cases z : okL (lt' x p) with
      | true => rfl
      | false => rw [z] at h; exact absurd h.1 (by decide)
    · exact badL_f k (p + 1) h.2 j (by omega) (by omega)
theorem okL_t {c : Nat} (h : okL c = true) : c ≤ 6 ∨ c = 15 := by
  unfold okL at h
  rw [Bool.or_eq_true_iff] at h
  exact h.elim (fun z => Or.inl (of_decide_eq_true z)) (fun z => Or.inr (of_decide_eq_true z))
def uprow (P : Pl) (x : List Nat) : Pl := ((if pH P = 0 then x.length else pW P, pH P + 1, pF P, pL P), P.2.1, (fun c => if c / 8 = pH P then (if lt' x (c % 8) = 15 then none else some (lt' x (c % 8) - 1)) else pFld P c), pNe P, pDr P, pWi P, pPi P, pLw P)
theorem onL_row {P : Pl} {x : List Nat} {c : Nat} (hw : pH P ≠ 0 → pW P = x.length) : (c / 8 = pH P → onL P c = false ∧ onL (uprow P x) c = decide (c % 8 < x.length)) ∧ (c / 8 ≠ pH P → onL (uprow P x) c = onL P c) := by
  have eW : pW (uprow P x) = x.length := by
    show (if pH P = 0 then x.length else pW P) = _
    by_cases e : pH P = 0
    · rw [if_pos e]
    · rw [if_neg e]; exact hw e
  have eH : pH (uprow P x) = pH P + 1 := rfl
  refine ⟨fun e => ⟨?_, ?_⟩, fun e => ?_⟩
  · unfold onL
    rw [decide_eq_false (show ¬ c / 8 < pH P by omega), Bool.and_false]
  · unfold onL
    rw [eW, eH, decide_eq_true (show c / 8 < pH P + 1 by omega), Bool.and_true]
  · unfold onL
    rw [eW, eH]
    by_cases e2 : c / 8 < pH P
    · rw [hw (by omega), decide_eq_true e2, decide_eq_true (show c / 8 < pH P + 1 by omega)]
    · rw [decide_eq_false e2, decide_eq_false (show ¬ c / 8 < pH P + 1 by omega), Bool.and_false, Bool.and_false]
theorem fld_row {P : Pl} {x : List Nat} {c : Nat} : (c / 8 = pH P → pFld (uprow P x) c = if lt' x (c % 8) = 15 then none else some (lt' x (c % 8) - 1)) ∧ (c / 8 ≠ pH P → pFld (uprow P x) c = pFld P c) := by
  refine ⟨fun e => ?_, fun e => ?_⟩
  · show (if c / 8 = pH P then _ else _) = _
    rw [if_pos e]
  · show (if c / 8 = pH P then _ else _) = _
    rw [if_neg e]
theorem cells_row {P : Pl} {x : List Nat} {f : Nat} (hx : okNm x) (hf : f < 6) (hr : pH P < 6) (hw : pH P ≠ 0 → pW P = x.length) : cellsA (uprow P x) f 48 = cellsA P f 48 + cnL x f 0 x.length := by
  have h8 := hx.2.1
  rw [cells_add (P := P) (P' := uprow P x) (f := f) (u := fun c => if c / 8 = pH P ∧ c % 8 < x.length ∧ lt' x (c % 8) = f + 1 then 1 else 0) 48 (fun c hc => ?_)]
  · congr 1
    have e1 := sumU_z (u := fun c => if c / 8 = pH P ∧ c % 8 < x.length ∧ lt' x (c % 8) = f + 1 then 1 else 0) (a := 8 * pH P + x.length) (48 - (8 * pH P + x.length)) (fun c h1 h2 => if_neg (by omega))
    rw [show 8 * pH P + x.length + (48 - (8 * pH P + x.length)) = 48 by omega] at e1
    rw [e1, sumU_row (x := x) (f := f) x.length (fun j hj => ?_)]
    · have e2 := sumU_z (u := fun c => if c / 8 = pH P ∧ c % 8 < x.length ∧ lt' x (c % 8) = f + 1 then 1 else 0) (a := 0) (8 * pH P) (fun c h1 h2 => if_neg (by omega))
      rw [Nat.zero_add] at e2
      rw [e2]
      exact Nat.zero_add _
    · show (if (8 * pH P + j) / 8 = pH P ∧ (8 * pH P + j) % 8 < x.length ∧ lt' x ((8 * pH P + j) % 8) = f + 1 then 1 else 0) = _
      rw [show (8 * pH P + j) / 8 = pH P by omega, show (8 * pH P + j) % 8 = j by omega]
      by_cases e : lt' x j = f + 1
      · rw [if_pos ⟨rfl, hj, e⟩, if_pos e]
      · rw [if_neg (fun z => e z.2.2), if_neg e]
  · show _ = _ + (if c / 8 = pH P ∧ c % 8 < x.length ∧ lt' x (c % 8) = f + 1 then 1 else 0)
    by_cases e : c / 8 = pH P
    · rw [((onL_row (x := x) hw).1 e).1, ((onL_row (x := x) hw).1 e).2, fld_row.1 e]
      show _ = (if false = true then 1 else 0) + _
      rw [if_neg (show ¬ false = true by decide), Nat.zero_add]
      by_cases e2 : c % 8 < x.length
      · rw [decide_eq_true e2, Bool.true_and]
        have hd := hx.2.2 _ (lt_mem e2)
        by_cases e3 : lt' x (c % 8) = f + 1
        · rw [if_pos (show c / 8 = pH P ∧ c % 8 < x.length ∧ lt' x (c % 8) = f + 1 from ⟨e, e2, e3⟩), if_neg (show ¬ lt' x (c % 8) = 15 by omega), decide_eq_true (show some (lt' x (c % 8) - 1) = some f by rw [e3]; rfl)]
          rfl
        · rw [if_neg (show ¬ (c / 8 = pH P ∧ c % 8 < x.length ∧ lt' x (c % 8) = f + 1) from fun z => e3 z.2.2)]
          by_cases e4 : lt' x (c % 8) = 15
          · rw [if_pos e4]; rfl
          · rw [if_neg e4, decide_eq_false (fun z => e3 (by have := Option.some.inj z; omega))]; rfl
      · rw [decide_eq_false e2, Bool.false_and, if_neg (show ¬ (c / 8 = pH P ∧ c % 8 < x.length ∧ lt' x (c % 8) = f + 1) from fun z => e2 z.2.1)]
        rfl
    · rw [(onL_row (x := x) hw).2 e, fld_row.2 e, if_neg (show ¬ (c / 8 = pH P ∧ c % 8 < x.length ∧ lt' x (c % 8) = f + 1) from fun z => e z.1), Nat.add_zero]
theorem tell_row {P : Pl} {N : List (List Nat)} {l : Lt} {bc cc q s i : Nat} {μC μM : Mem} (hV : TV S M T) (hT : TC M T μC) (hU : TM M T μM) (hC : QSc M T (.inl i) μC) (hM : QSm M T (.inl i) μM) (g : GR P N l bc cc q s μC μM) (hi : Inv T l bc cc s i) (hk : kd T i = 0) : TellR d M T q s i μC μM := by
  have hq := g.hq
  have hs := g.hs
  obtain ⟨bH, bF, bL⟩ := g.b6
  obtain ⟨w, hw8, hw0⟩ : ∃ w, w ≤ 8 ∧ (l.1 = 0 → w = pW P) := by
    by_cases e : l.1 = 0
    · exact ⟨pW P, (g.con e).1.1, fun _ => rfl⟩
    · exact ⟨0, by omega, fun z => absurd z e⟩
  obtain ⟨μ1, a1, a2, a3, a4⟩ := row_c (d := d) (q := q) (r := pH P) (w := w) (by omega) hV hT hC hk g.cl bH g.cp g.c1 hw8 (fun z => by rw [hw0 z]; exact (g.con z).2.1.2.2.2.1.1)
  obtain ⟨μ2, b1, b2, b3, b4⟩ := row_m (d := d + 12) (r := pH P) (w := w) hs hV hU hM hk g.ml hi.2.2 bH g.ms g.m1 hw8 (fun z => by rw [hw0 z]; exact (g.con z).2.2.2.2.2.1.1)
  have K1 : KRc q μC μ1 := a3.mono (fun a k z => by
    rcases z with z | z | z | z
    · exact Or.inl ⟨z.1, by have := z.2; omega⟩
    · exact Or.inr (Or.inl ⟨z.1, by have := z.2; omega⟩)
    · exact Or.inr (Or.inr (Or.inl ⟨by omega, by omega⟩))
    · exact Or.inr (Or.inr (Or.inl ⟨by omega, by omega⟩))) (fun _ z => z.elim)
  have K2 : KRm s μM μ2 := b3.mono (fun a k z => by
    rcases z with z | z | z
    · exact Or.inl ⟨z.1, by have := z.2; omega⟩
    · exact Or.inr (Or.inr (Or.inr (Or.inl ⟨z.1, by have := z.2.1; omega, by have := z.2; omega⟩)))
    · exact Or.inr (Or.inr (Or.inl ⟨by have := z.1; omega, z.2⟩))) (fun _ z => z.elim)
  by_cases e6 : pH P = 6
  · rw [if_pos e6] at a2 b2
    exact ⟨.inr (2, i), μ1, μ2, a1, b1, a2, b2, K1, K2, fun j hj => by cases hj⟩
  · rw [if_neg e6] at a2 b2
    refine ⟨rq3 T i, μ1, μ2, a1, b1, a2, b2, K1, K2, fun j hj => ?_⟩
    obtain ⟨a5, a6, a7, a8, a9⟩ := a4 j e6 hj
    obtain ⟨b5, b6, b7, b8, b9⟩ := b4 j e6 hj
    obtain ⟨f3, e⟩ := rq_at.2.2 hj
    obtain ⟨_, k21, _⟩ := rq_at.2.1 f3
    rw [hj] at a2
    have hjM := a2.1
    have pp : ∀ t, t < j → pc' T t < pc' T j := fun t ht => hV.2.2.2.1 t j ht hjM
    have hx := tv_nm hV (show i + 1 < M by omega) k21
    generalize nm' T (i + 1) = x at *
    have h8 := hx.2.1
    have h1 := hx.1
    have con' : (ltS (misR (pH P) w x.length || badL x 0 x.length) 6 (pc' T (i + 1)) l).1 = 0 → PWr (uprow P x) ∧ (CcS (uprow P x) q μ1 ∧ CcF (uprow P x) q μ1 ∧ CcW (uprow P x) q μ1 ∧ CcL (uprow P x) q μ1 ∧ CcG (uprow P x) q μ1) ∧ (CmS (uprow P x) s μ2 ∧ CmF (uprow P x) s μ2 ∧ CmW (uprow P x) s μ2 ∧ CmL (uprow P x) s μ2 ∧ CmG (uprow P x) s bc cc μ2) := fun z => by
      obtain ⟨z0, zb⟩ := ltS_z (by decide) z
      rw [Bool.or_eq_false_iff] at zb
      have ew := hw0 z0
      subst ew
      have hW : pH P ≠ 0 → pW P = x.length := fun r0 => by
        have := of_decide_eq_false zb.1
        by_cases e : pW P = x.length
        · exact e
        · exact absurd ⟨r0, e⟩ this
      have okx : ∀ j, j < x.length → lt' x j ≤ 6 ∨ lt' x j = 15 := fun j hj => okL_t (badL_f x.length 0 zb.2 j (by omega) (by omega))
      obtain ⟨⟨w1, w2, w3, w4, w5, w6, w9⟩, ⟨x1, x2, x3, x4, x5⟩, y1, y2, y3, y4, y5⟩ := g.con z0
      have eW : (if pH P = 0 then x.length else pW P) = x.length := by
        by_cases e : pH P = 0
        · rw [if_pos e]
        · rw [if_neg e]; exact hW e
      have X1 : CcS P q μ1 := CcS.kz x1 a3 (by unfold rwC; omega) (by unfold rwC; omega) (by unfold rwC; omega)
      have X2 : CcF P q μ1 := CcF.kz x2 a3 (fun j => by unfold rwC; omega) (fun j => by unfold rwC; omega)
      have X3 : CcW P q μ1 := CcW.kz x3 a3 (fun j => by unfold rwC; omega) (fun j => by unfold rwC; omega)
      have X5 : CcG P q μ1 := ⟨x5.1.kz a3 (by unfold rwC; omega) (fun j => by unfold rwC; omega), x5.2.1.kz a3 (by unfold rwC; omega) (fun j => by unfold rwC; omega), x5.2.2.kz a3 (by unfold rwC; omega) (fun j => by unfold rwC; omega)⟩
      have Y1 : CmS P s μ2 := CmS.kz y1 b3 (by unfold rwM; omega) (by unfold rwM; omega) (by unfold rwM; omega)
      have Y2 : CmF P s μ2 := CmF.kz y2 b3 (fun j => by unfold rwM; omega) (fun j => by unfold rwM; omega)
      have Y3 : CmW P s μ2 := CmW.kz y3 b3 (fun j => by unfold rwM; omega) (fun j => by unfold rwM; omega)
      have Y5 : CmG P s bc cc μ2 := CmG.kz y5 b3 (fun a j h1 h2 => by unfold rwM; omega)
      have X4 : CcL (uprow P x) q μ1 := ⟨a7 z0, fun c hc => by
        rw [a8 c]
        unfold landI
        by_cases e : c / 8 = pH P
        · rw [((onL_row (x := x) hW).1 e).2, fld_row.1 e, x4.2.1 c hc]
          unfold landI
          rw [((onL_row (x := x) hW).1 e).1, if_neg (show ¬ false = true by decide)]
          by_cases e2 : c % 8 < x.length
          · rw [decide_eq_true e2, if_pos (show true = true from rfl)]
            by_cases e3 : lt' x (c % 8) ≤ 6
            · rw [if_pos ⟨e, e2, e3⟩, if_neg (show ¬ lt' x (c % 8) = 15 by omega)]; rfl
            · rw [if_neg (fun z => e3 z.2.2), if_pos (show lt' x (c % 8) = 15 from (okx _ e2).resolve_left e3)]; rfl
          · rw [decide_eq_false e2, if_neg (fun z => e2 z.2.1), if_neg (show ¬ false = true by decide)]
        · rw [if_neg (fun z => e z.1), (onL_row (x := x) hW).2 e, fld_row.2 e, x4.2.1 c hc]
          rfl, fun f hf => by
        rw [a9 f hf, x4.2.2 f hf, cells_row hx hf (by omega) hW, nJ_add]⟩
      have Y4 : CmL (uprow P x) s μ2 := ⟨b7 z0, fun c hc => by
        have hc' : onL (uprow P x) c = true := hc
        by_cases e : c / 8 = pH P
        · rw [((onL_row (x := x) hW).1 e).2] at hc'
          have e2 := of_decide_eq_true hc'
          rw [b8 c (by omega), if_pos ⟨e, e2⟩, fld_row.1 e]
          by_cases e3 : lt' x (c % 8) = 15
          · rw [if_pos e3, if_pos e3]; rfl
          · rw [if_neg e3, if_neg e3]; rfl
        · rw [(onL_row (x := x) hW).2 e] at hc'
          have e4 : c / 8 < pH P := by
            unfold onL at hc'
            rw [Bool.and_eq_true_iff] at hc'
            exact of_decide_eq_true hc'.2
          rw [b8 c (by omega), if_neg (fun z => e z.1), fld_row.2 e]
          exact y4.2 c hc'⟩
      refine ⟨⟨?_, ?_, fun c f hcf => ?_, w4, w5, w6, w9⟩, ⟨X1, X2, X3, X4, X5⟩, ⟨Y1, Y2, Y3, Y4, Y5⟩⟩
      · show (if pH P = 0 then x.length else pW P) ≤ 8
        omega
      · show (if pH P = 0 then x.length else pW P) = 0 ↔ pH P + 1 = 0
        omega
      · by_cases e : c / 8 = pH P
        · rw [fld_row.1 e] at hcf
          by_cases e3 : lt' x (c % 8) = 15
          · rw [if_pos e3] at hcf; cases hcf
          · rw [if_neg e3] at hcf
            have hcf := Option.some.inj hcf
            by_cases e2 : c % 8 < x.length
            · have := okx _ e2
              omega
            · have : lt' x (c % 8) = 0 := by
                show (x[c % 8]?).getD 0 = 0
                rw [List.getElem?_eq_none (by omega)]
                rfl
              omega
        · rw [fld_row.2 e] at hcf
          exact w3 c f hcf
    have G : GR (uprow P x) N (ltS (misR (pH P) w x.length || badL x 0 x.length) 6 (pc' T (i + 1)) l) bc cc q s μ1 μ2 := ⟨hq, hs, ⟨by show pH P + 1 ≤ 6; omega, bF, bL⟩, g.nl, g.ok, by rw [a3.2.2]; exact g.cp, a6, (a3.at (by unfold rwC; omega)).trans g.c2, (a3.at (by unfold rwC; omega)).trans g.c3, ⟨(a3.at (by unfold rwC; omega)).trans g.cn.1, fun z hz => by rw [a3.lg (fun z => z)]; exact g.cn.2 z hz⟩, a5, b6, (b3.at (by unfold rwM; omega)).trans g.m2, (b3.at (by unfold rwM; omega)).trans g.m3, ⟨(b3.at (by unfold rwM; omega)).trans g.mn.1, fun z hz => by rw [b3.lg (fun z => z)]; exact g.mn.2 z hz⟩, b5, (b3.at (by unfold rwM; omega)).trans g.ms, ⟨g.mc.1, g.mc.2.1, (b3.at (by unfold rwM; omega)).trans g.mc.2.2⟩, ⟨(b3.at (by unfold rwM; omega)).trans g.mb.1, g.mb.2⟩, con'⟩
    have wd : Wd s μM μ2 := by
      by_cases r0 : pH P = 0
      · rw [if_pos r0] at b9; exact Or.inr ⟨_, h8, b9⟩
      · rw [if_neg r0] at b9; exact Or.inl b9
    exact ⟨by omega, wd, _, _, _, bc, cc, G, by have := hi.1; omega, by have := hi.2.1; omega, lt_ltS (fun z => by have := hi.2.2 z; have := pp i (by omega); omega) (pp _ (by omega))⟩
end
end Rd
