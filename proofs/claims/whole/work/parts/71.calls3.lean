/-! ===== calls: order, undo, hold, restore, tell, forget, back ===== -/
section Calls
variable {d n : Nat}
theorem call_order {a b c x y : Int32} (hn : n ≤ 512) : Both (X9_order (d + 8) a b c x y) (X10_order (d + 8) a b c x y) n := by
  rintro μC μM ⟨P, p, r, h⟩
  obtain ⟨⟨hC, hK, hR⟩, ⟨hM, hRM⟩, hS, hT, ⟨t, nx, H, hP⟩, _, _, _⟩ := id h
  have pw := hC.1
  have h4 := pw.2.2.2.1
  have p1 := isPiece_c (d := d + 6) (a := a) (b := b) (c := c) hC
  have p2 := isPiece_m (d := d + 5) (a := a) (b := b) (c := c) hM
  cases hp : pieceA P a b c with
  | false =>
    rw [hp] at p1 p2
    exact ⟨0, μC, μM, X9_order_ok ⟨_, μC, p1, tpos rfl ⟨rfl, rfl⟩⟩, X10_order_ok ⟨_, μM, p2, tpos rfl ⟨rfl, rfl⟩⟩, h.next⟩
  | true =>
    rw [hp] at p1 p2
    have c1 := hasCell_c (d := d + 7) (x := x) (y := y) hC
    have c2 := isCell_m (d := d + 6) (x := x) (y := y) hM
    cases hc : inN x (pW P) && inN y (pH P) with
    | false =>
      rw [hc] at c1 c2
      exact ⟨0, μC, μM, X9_order_ok ⟨_, μC, p1, tneg (by decide) ⟨_, μC, by rw [hC.ptr0]; exact c1, tpos rfl ⟨rfl, rfl⟩⟩⟩, X10_order_ok ⟨_, μM, p2, tneg (by decide) ⟨_, μM, c2, tpos rfl ⟨rfl, rfl⟩⟩⟩, h.next⟩
    | true =>
      rw [hc] at c1 c2
      obtain ⟨l, w, k, rfl, rfl, rfl, hl, w1, w2, k1, k2⟩ := pieceA_ex pw hp
      obtain ⟨xx, yy, rfl, rfl, hx, hy⟩ := cellA hc
      have w8 := (pw.2.2.2.2.2.2.2.2.2.1 l hl).2.1
      have px := pw.1
      have py := pw.2.1
      have io := isOrdered_c (d := d + 5) (w := w) (h := k) (x := xx) (y := yy) pw hl w1 (by omega) k2 (by omega) (by omega) hR hS
      have e52 : (52 : Int32) + nI l = nI (52 + l) := nJ_add 52 l
      have e56 : (56 : Int32) + nI l = nI (56 + l) := nJ_add 56 l
      have e60 : (60 : Int32) + nI l = nI (60 + l) := nJ_add 60 l
      have e64 : (64 : Int32) + nI l = nI (64 + l) := nJ_add 64 l
      have v52 : vp_in (nI (52 + l)) 92 := vp_inN (by omega) (by decide)
      have v56 : vp_in (nI (56 + l)) 92 := vp_inN (by omega) (by decide)
      have v60 : vp_in (nI (60 + l)) 92 := vp_inN (by omega) (by decide)
      have v64 : vp_in (nI (64 + l)) 92 := vp_inN (by omega) (by decide)
      have c52 : (nI (52 + l)).toNatClampNeg = 52 + l := nI_clamp (by omega)
      have c56 : (nI (56 + l)).toNatClampNeg = 56 + l := nI_clamp (by omega)
      have c60 : (nI (60 + l)).toNatClampNeg = 60 + l := nI_clamp (by omega)
      have c64 : (nI (64 + l)).toNatClampNeg = 64 + l := nI_clamp (by omega)
      by_cases hq : r (52 + l) = w ∧ r (56 + l) = k ∧ r (60 + l) = xx ∧ r (64 + l) = yy
      · rw [decide_eq_true hq] at io
        refine ⟨0, μC, μM, X9_order_ok ⟨_, μC, p1, tneg (by decide) ⟨_, μC, by rw [hC.ptr0]; exact c1, tneg (by decide) ⟨_, μC, io, tneg (by decide) ⟨rfl, rfl⟩⟩⟩⟩, X10_order_ok ⟨_, μM, p2, tneg (by decide) ⟨_, μM, c2, tneg (by decide) ?_⟩⟩, h.next⟩
        rw [e52, e56, e60, e64, c52, c56, c60, c64, hRM _ (by omega), hRM _ (by omega), hRM _ (by omega), hRM _ (by omega), hq.1, hq.2.1, hq.2.2.1, hq.2.2.2]
        exact ⟨v52, teq rfl ⟨v56, teq rfl ⟨v60, teq rfl ⟨v64, teq rfl ⟨rfl, rfl⟩⟩⟩⟩⟩
      · rw [decide_eq_false hq] at io
        obtain ⟨n1, b1, b2, b3, b4⟩ := copies_m (d := d + 7) hM hRM
        obtain ⟨n2, hn2⟩ : ∃ m, m = sI (sI (sI (sI n1 34 (52 + l) (nI w)) 34 (56 + l) (nI k)) 34 (60 + l) (nI xx)) 34 (64 + l) (nI yy) := ⟨_, rfl⟩
        have kM : Kq scM μM n2 := (fC_scM b2).trans (by
          rw [hn2]
          exact (((Kq.sI (by unfold scM; omega)).trans (Kq.sI (by unfold scM; omega))).trans (Kq.sI (by unfold scM; omega))).trans (Kq.sI (by unfold scM; omega)))
        have r34 : RowM n2 34 (ordR r l w k xx yy) := by
          rw [hn2]
          exact (((b3.upd (k := 52 + l) (v := w)).upd (k := 56 + l) (v := k)).upd (k := 60 + l) (v := xx)).upd (k := 64 + l) (v := yy)
        have w0 : ¬ w = 0 := by omega
        obtain ⟨m1, mC, mM, q1, q2, q3, q4⟩ := order_halves (d := d + 5) (w := w) (h := k) (x := xx) (y := yy) hn h hP hl (by rw [if_neg w0]) (by rw [if_neg w0]) (by rw [if_neg w0]) (by rw [if_neg w0]) (Or.inr ⟨w1, w2, k1, k2, hx, hy⟩) kM r34
        have go : (∃ (μ7 : Mem), X10_copies (d + 7) μM μ7 ∧ vp_in (nI (52 + l)) 92 ∧ (∀ μ9 : Mem, μ9 = sI μ7 34 (52 + l) (nI w) → vp_in (nI (56 + l)) 92 ∧ (∀ μ10 : Mem, μ10 = sI μ9 34 (56 + l) (nI k) → vp_in (nI (60 + l)) 92 ∧ (∀ μ11 : Mem, μ11 = sI μ10 34 (60 + l) (nI xx) → vp_in (nI (64 + l)) 92 ∧ (∀ μ12 : Mem, μ12 = sI μ11 34 (64 + l) (nI yy) → (∃ (μ13 : Mem), X10_keeps (d + 7) μ12 μ13 ∧ ((1 : Int32) = 1 ∧ mM = μ13))))))) := by
          refine ⟨n1, b1, v52, ?_⟩
          rintro μ9 rfl
          refine ⟨v56, ?_⟩
          rintro μ10 rfl
          refine ⟨v60, ?_⟩
          rintro μ11 rfl
          refine ⟨v64, ?_⟩
          rintro μ12 rfl
          rw [← hn2]
          exact ⟨mM, q3, rfl, rfl⟩
        refine ⟨1, mC, mM, X9_order_ok ⟨_, μC, p1, tneg (by decide) ⟨_, μC, by rw [hC.ptr0]; exact c1, tneg (by decide) ⟨_, μC, io, tpos rfl ⟨m1, q1, mC, q2, rfl, rfl⟩⟩⟩⟩, X10_order_ok ⟨_, μM, p2, tneg (by decide) ⟨_, μM, c2, tneg (by decide) ?_⟩⟩, q4⟩
        rw [e52, e56, e60, e64, c52, c56, c60, c64, hRM _ (by omega), hRM _ (by omega), hRM _ (by omega), hRM _ (by omega)]
        refine ⟨v52, fun _ => go, fun z1 => ⟨v56, fun _ => go, fun z2 => ⟨v60, fun _ => go, fun z3 => ⟨v64, fun _ => go, fun z4 => ?_⟩⟩⟩⟩
        exfalso
        have b52 : r (52 + l) < 2 ^ 31 ∧ r (56 + l) < 2 ^ 31 ∧ r (60 + l) < 2 ^ 31 ∧ r (64 + l) < 2 ^ 31 ∨ r (52 + l) = 0 := by
          by_cases z : r (52 + l) = 0
          · exact Or.inr z
          · have := hS.ordIn pw hl z
            exact Or.inl (by omega)
        rcases b52 with ⟨y1, y2, y3, y4⟩ | z0
        · exact hq ⟨nI_inj y1 (by omega) z1, nI_inj y2 (by omega) z2, nI_inj y3 (by omega) z3, nI_inj y4 (by omega) z4⟩
        · rw [z0] at z1
          exact absurd z1.symm (nI_ne0 w1 (by omega))
theorem undo_loop {t : Nat} {μ μ' : Mem} (ht : t < 30) (h53 : μ.1 0 53 = nI t) (hμ : μ' = sA μ 33 (cpTo (μ.1 33) (fun k => μ.1 35 (92 * t + k)) 92)) : ∀ (m i : Nat), i + m = 92 → X10_undo_at21 d (nI i) (sA μ 33 (cpTo (μ.1 33) (fun k => μ.1 35 (92 * t + k)) i)) 1 μ'
  | 0, i, hi => by
    have hi : i = 92 := hi
    subst hi
    exact X10_undo_at21_ok (tpos (by decide) ⟨rfl, hμ⟩)
  | m + 1, i, hi => by
    refine X10_undo_at21_ok (tneg (nI_ge (b := 92) (by omega) (by decide)) ?_)
    rw [sA_n (show 0 ≠ 33 by decide), h53, show (92 : Int32) = nI 92 from rfl, nI_mul, nJ_add, nI_clamp (by omega), nI_clamp (by omega)]
    refine ⟨vp_inN (by omega) (by decide), vp_inN (by omega) (by decide), ?_⟩
    rintro μ1 rfl
    have e : sI (sA μ 33 (cpTo (μ.1 33) (fun k => μ.1 35 (92 * t + k)) i)) 33 i ((sA μ 33 (cpTo (μ.1 33) (fun k => μ.1 35 (92 * t + k)) i)).1 35 (92 * t + i)) = sA μ 33 (cpTo (μ.1 33) (fun k => μ.1 35 (92 * t + k)) (i + 1)) := by
      unfold sI
      rw [sA_n (show 35 ≠ 33 by decide), sA_1, sA_sA, show μ.1 35 (92 * t + i) = (fun k => μ.1 35 (92 * t + k)) i from rfl, cpTo_s]
    rw [e, ← nI_succ]
    exact undo_loop ht h53 hμ m (i + 1) (by omega)
theorem call_undo (hn : n ≤ 512) : Both (X9_undo (d + 8)) (X10_undo (d + 8)) n := by
  rintro μC μM ⟨P, p, r, h⟩
  obtain ⟨⟨hC, hK, hR⟩, ⟨hM, hRM⟩, hS, hT, ⟨t, nx, H, hP⟩, ⟨hd, S, hSl⟩, ⟨tt, X, Y, W, hW⟩, hD⟩ := id h
  have pw := hC.1
  have hpp := hC.pp
  have t30 := hP.1
  rcases Nat.eq_zero_or_pos t with rfl | ht
  · refine ⟨0, μC, μM, X9_undo_ok ⟨0, μC, X2_takeBack_ok (teq (by rw [hP.2.2.1]; rfl) ⟨rfl, rfl⟩), Or.inl rfl, rfl, rfl⟩, X10_undo_ok (teq (by rw [hP.M.1]; rfl) ⟨rfl, rfl⟩), h.next⟩
  · obtain ⟨m1, a1, a2, a3, a4⟩ := takeBack_c (d := d + 6) pw ht hP.C
    obtain ⟨n1, hn1⟩ : ∃ m, m = sI μM 0 53 (nI (t - 1)) := ⟨_, rfl⟩
    obtain ⟨n2, hn2⟩ : ∃ m, m = sA n1 33 (cpTo (n1.1 33) (fun k => n1.1 35 (92 * (t - 1) + k)) 92) := ⟨_, rfl⟩
    have ul := undo_loop (d := d + 8) (t := t - 1) (μ := n1) (μ' := n2) (by omega) (by rw [hn1, sI_1]) hn2 92 0 (by omega)
    rw [cpTo_0, sA_id] at ul
    have kM : Kq (fun a k => a = 33 ∨ (a = 0 ∧ k = 53)) μM n2 := by
      rw [hn2, hn1]
      exact (Kq.sI (by omega)).trans (Kq.sA fun _ => by omega)
    refine ⟨1, m1, n2, X9_undo_ok ⟨1, m1, a1, Or.inr rfl, rfl, rfl⟩, X10_undo_ok (tne ?_ ?_), ?_⟩
    · rw [hP.M.1]
      exact nI_ne0 ht (by omega)
    · rw [hP.M.1, show nI t - 1 = nI (t - 1) from nI_sub (b := 1) ht]
      rintro μ1 e
      rw [← hn1] at e
      subst e
      exact ul
    · refine ⟨P, p, H 0, ⟨hC.kq (a2.mono fun a k q => ?_), hK.of (a2.row fun j => ?_) (a2.row fun j => ?_), a4⟩, ⟨hM.kp (kM.p fun a k q => ?_), fun k hk => ?_⟩, ((hP.2.2.2.2.2 0 ht).2.1).mono (by omega), hT.kq a2 kM (fun k => ?_) ?_ ?_ (fun k => ?_) ?_ ?_, ⟨t - 1, _, _, PastR.mk a3 ⟨?_, fun i hi k hk => ?_⟩ fun i hi => ((hP.2.2.2.2.2 (i + 1) (by omega)).2.1).mono (by omega)⟩, ⟨hd, S, (hSl.kq a2 kM (fun a k q1 q2 => ?_) (fun k => ?_) (fun k => ?_)).mono (by omega)⟩, ⟨tt, X, Y, W, hW.kq a2 kM ?_ (fun a k q1 q2 => ?_) ?_ (fun k => ?_) (fun k => ?_)⟩, hD.kq a2 kM (fun a k q => ?_)⟩
      · unfold nPl; omega
      · omega
      · omega
      · unfold fM at q
        by_cases h0 : a = 0
        · subst h0
          rw [if_pos rfl] at q
          have : k = 18 := by simpa using q
          omega
        · rw [if_neg h0] at q
          have : ¬ a < 9 ∧ ¬ 29 < a := by simpa using q
          omega
      · rw [hn2, sA_1]
        show (if k < 92 then n1.1 35 (92 * (t - 1) + k) else _) = _
        rw [if_pos hk, hn1, sI_n (by decide)]
        have := hP.M.2 0 ht k hk
        rwa [Nat.sub_zero] at this
      · omega
      · omega
      · omega
      · omega
      · omega
      · omega
      · rw [hn2, sA_n (by decide), hn1, sI_1]
      · rw [hn2, sA_n (by decide), hn1, sI_n (by decide)]
        have := hP.M.2 (i + 1) (by omega) k hk
        rwa [show t - 1 - (i + 1) = t - 1 - 1 - i by omega] at this
      · omega
      · omega
      · omega
      · omega
      · omega
      · omega
      · omega
      · omega
      · omega
theorem hold_loop {s : Nat} {μ μ' : Mem} (hs : s < 3) (hμ : μ' = sA μ 46 (va_cpy (μ.1 33) (μ.1 46) 0 (92 * s) 92)) : ∀ (m i : Nat), i + m = 92 → X10_hold_at20 d (nI s) (nI i) (sA μ 46 (va_cpy (μ.1 33) (μ.1 46) 0 (92 * s) i)) 1 μ'
  | 0, i, hi => by
    have hi : i = 92 := hi
    subst hi
    exact X10_hold_at20_ok (tpos (by decide) ⟨rfl, hμ⟩)
  | m + 1, i, hi => by
    refine X10_hold_at20_ok (tneg (nI_ge (b := 92) (by omega) (by decide)) ?_)
    rw [show (92 : Int32) = nI 92 from rfl, nI_mul, nJ_add, nI_clamp (by omega), nI_clamp (by omega)]
    refine ⟨vp_inN (by omega) (by decide), vp_inN (by omega) (by decide), ?_⟩
    rintro μ1 rfl
    have e : sI (sA μ 46 (va_cpy (μ.1 33) (μ.1 46) 0 (92 * s) i)) 46 (92 * s + i) ((sA μ 46 (va_cpy (μ.1 33) (μ.1 46) 0 (92 * s) i)).1 33 i) = sA μ 46 (va_cpy (μ.1 33) (μ.1 46) 0 (92 * s) (i + 1)) := by
      unfold sI
      rw [sA_n (show 33 ≠ 46 by decide), sA_1, sA_sA]
      congr 1
      funext j
      unfold upd va_cpy
      by_cases q : j = 92 * s + i
      · subst q
        rw [if_pos rfl, if_pos ⟨by omega, by omega⟩, Nat.zero_add, show 92 * s + i - 92 * s = i by omega]
      · rw [if_neg q]
        by_cases q2 : 92 * s ≤ j ∧ j < 92 * s + i
        · rw [if_pos q2, if_pos ⟨q2.1, by omega⟩]
        · rw [if_neg q2, if_neg (by omega)]
    rw [e, ← nI_succ]
    exact hold_loop hs hμ m (i + 1) (by omega)
theorem call_hold {a : Int32} (hn : n ≤ 512) : Both (X9_hold (d + 8) a) (X10_hold (d + 8) a) n := by
  rintro μC μM ⟨P, p, r, h⟩
  obtain ⟨⟨hC, hK, hR⟩, ⟨hM, hRM⟩, hS, hT, ⟨t, nx, H, hP⟩, ⟨hd, S, hSl⟩, ⟨tt, X, Y, W, hW⟩, hD⟩ := id h
  have pw := hC.1
  have hpp := hC.pp
  have i1 := in_s (d := d + 7) (v := a) (a := 0) (b := nI 2) (μ := μM)
  rw [i3_0 (by decide)] at i1
  cases ha : inN a 3 with
  | false =>
    rw [ha] at i1
    refine ⟨0, μC, μM, X9_hold_ok ⟨fun _ => ⟨rfl, rfl⟩, fun q => ⟨fun q2 => ?_, fun _ => ⟨rfl, rfl⟩⟩⟩, X10_hold_ok ⟨_, μM, i1, teq rfl ⟨rfl, rfl⟩⟩, h.next⟩
    exfalso
    obtain ⟨k, hk, rfl⟩ := nI_ex (i_nlt q)
    rw [inN_nI hk] at ha
    have : ¬ k < 3 := by simpa using ha
    exact absurd q2 (nI_nlt (b := 3) (by omega) hk)
  | true =>
    rw [ha] at i1
    obtain ⟨s, hs, rfl⟩ := inN_ex ha
    obtain ⟨m1, a1, a2, a3⟩ := copy_c (d := d + 7) (a := 176 + 5 * s) (b := 13) pw (Or.inr (by omega)) hR
    obtain ⟨m2, hm2⟩ : ∃ m, m = sI m1 191 s 1 := ⟨_, rfl⟩
    obtain ⟨n1, hn1⟩ : ∃ m, m = sI μM 45 s 1 := ⟨_, rfl⟩
    obtain ⟨n2, hn2⟩ : ∃ m, m = sA n1 46 (va_cpy (n1.1 33) (n1.1 46) 0 (92 * s) 92) := ⟨_, rfl⟩
    have hl := hold_loop (d := d + 7) hs hn2 92 0 (by omega)
    have e0 : sA n1 46 (va_cpy (n1.1 33) (n1.1 46) 0 (92 * s) 0) = n1 := by
      have : va_cpy (n1.1 33) (n1.1 46) 0 (92 * s) 0 = n1.1 46 := by
        funext j
        unfold va_cpy
        rw [if_neg (by omega)]
      rw [this, sA_id]
    rw [e0] at hl
    have kC : Kq (fun a k => (176 + 5 * s ≤ a ∧ a ≤ 180 + 5 * s) ∨ (a = 191 ∧ k = s)) μC m2 := (a2.mono fun a k q => by unfold sCp at q; omega).trans (by rw [hm2]; exact Kq.sI (by omega))
    have kM : Kq (fun a k => (a = 45 ∧ k = s) ∨ (a = 46 ∧ 92 * s ≤ k ∧ k < 92 * s + 92)) μM n2 := by
      refine (by rw [hn1]; exact Kq.sI (by omega) : Kq _ μM n1).trans ⟨by rw [hn2]; rfl, fun a k q => ?_⟩
      rw [hn2]
      by_cases e : a = 46
      · subst e
        rw [sA_1]
        unfold va_cpy
        rw [if_neg (by omega)]
      · rw [sA_n e]
    refine ⟨1, m2, n2, X9_hold_ok (tneg (nI_pos (by omega)) (tpos (nI_lt (b := 3) hs (by decide)) ?_)), X10_hold_ok ⟨_, μM, i1, tne (by decide) ⟨vp_inN hs (by decide), ?_⟩⟩, ?_⟩
    · rw [nI_clamp (by omega)]
      refine ⟨vp_inN hs (by decide), _, m1, a1, vp_inN hs (by decide), ?_⟩
      rintro μ4 e
      exact ⟨rfl, by rw [hm2, e]; rfl⟩
    · rw [nI_clamp (by omega)]
      rintro μ4 e
      have e : μ4 = n1 := by rw [hn1, e]; rfl
      rw [e]
      exact hl
    · refine ⟨P, p, r, ⟨hC.kq (kC.mono fun a k q => ?_), hK.of (kC.row fun j => ?_) (kC.row fun j => ?_), hR.kq kC fun a j q1 q2 => ?_⟩, ⟨hM.kp (kM.p fun a k q => ?_), fun k hk => ?_⟩, hS.mono (by omega), hT.kq kC kM (fun k => ?_) ?_ ?_ (fun k => ?_) ?_ ?_, ⟨t, nx, H, PastR.mk ⟨hP.1, hP.2.1, ?_, ?_, fun i hi => (hP.C.2.2.2.2 i hi).kq kC fun a j q1 q2 => ?_⟩ ⟨?_, fun i hi k hk => ?_⟩ fun i hi => ((hP.2.2.2.2.2 i hi).2.1).mono (by omega)⟩, ⟨fun i => if i = s then true else hd i, fun i => if i = s then r else S i, fun i hi => ?_⟩, ⟨tt, X, Y, W, hW.kq kC kM ?_ (fun a k q1 q2 => ?_) ?_ (fun k => ?_) (fun k => ?_)⟩, hD.kq kC kM (fun a k q => ?_)⟩
      · unfold nPl; omega
      · omega
      · omega
      · omega
      · unfold fM at q
        by_cases h0 : a = 0
        · omega
        · rw [if_neg h0] at q
          have : ¬ a < 9 ∧ ¬ 29 < a := by simpa using q
          omega
      · rw [kM.at (by omega)]
        exact hRM k hk
      · omega
      · omega
      · omega
      · omega
      · omega
      · omega
      · rw [kC.at (by omega)]; exact hP.2.2.1
      · rw [kC.at (by omega)]; exact hP.2.2.2.1
      · omega
      · rw [kM.at (by omega)]; exact hP.M.1
      · rw [kM.at (by omega)]; exact hP.M.2 i hi k hk
      · obtain ⟨q1, q2, q3⟩ := hSl i hi
        by_cases e : i = s
        · subst e
          dsimp only
          rw [if_pos rfl, if_pos rfl]
          refine ⟨by rw [hm2, sI_1]; rfl, by rw [hn2, sA_n (by decide), hn1, sI_1]; rfl, fun _ => ⟨a3.of ?_ ?_ fun j z1 z2 => ?_, hS.mono (by omega), fun k hk => ?_⟩⟩
          · rw [hm2, sI_n (by omega)]
          · rw [hm2, sI_n (by omega)]
          · rw [hm2, sI_n (by omega)]
          · rw [hn2, sA_1]
            unfold va_cpy
            rw [if_pos ⟨by omega, by omega⟩, Nat.zero_add, show 92 * i + k - 92 * i = k by omega, hn1, sI_n (by decide)]
            exact hRM k hk
        · dsimp only
          rw [if_neg e, if_neg e]
          refine ⟨by rw [kC.at (by omega)]; exact q1, by rw [kM.at (by omega)]; exact q2, fun z => ⟨(q3 z).1.kq kC fun a j z1 z2 => by omega, (q3 z).2.1.mono (by omega), fun k hk => ?_⟩⟩
          rw [kM.at (by omega)]
          exact (q3 z).2.2 k hk
      · omega
      · omega
      · omega
      · omega
      · omega
      · omega
theorem restore_loop {s : Nat} {μ μ' : Mem} (hs : s < 3) (hμ : μ' = sI (sA μ 33 (cpTo (μ.1 33) (fun k => μ.1 46 (92 * s + k)) 92)) 0 53 0) : ∀ (m i : Nat), i + m = 92 → X10_restore_at22 d (nI s) (nI i) (sA μ 33 (cpTo (μ.1 33) (fun k => μ.1 46 (92 * s + k)) i)) 1 μ'
  | 0, i, hi => by
    have hi : i = 92 := hi
    subst hi
    refine X10_restore_at22_ok (tpos (by decide) ?_)
    rintro μ1 rfl
    exact ⟨rfl, hμ⟩
  | m + 1, i, hi => by
    refine X10_restore_at22_ok (tneg (nI_ge (b := 92) (by omega) (by decide)) ?_)
    rw [show (92 : Int32) = nI 92 from rfl, nI_mul, nJ_add, nI_clamp (by omega), nI_clamp (by omega)]
    refine ⟨vp_inN (by omega) (by decide), vp_inN (by omega) (by decide), ?_⟩
    rintro μ1 rfl
    have e : sI (sA μ 33 (cpTo (μ.1 33) (fun k => μ.1 46 (92 * s + k)) i)) 33 i ((sA μ 33 (cpTo (μ.1 33) (fun k => μ.1 46 (92 * s + k)) i)).1 46 (92 * s + i)) = sA μ 33 (cpTo (μ.1 33) (fun k => μ.1 46 (92 * s + k)) (i + 1)) := by
      unfold sI
      rw [sA_n (show 46 ≠ 33 by decide), sA_1, sA_sA, show μ.1 46 (92 * s + i) = (fun k => μ.1 46 (92 * s + k)) i from rfl, cpTo_s]
    rw [e, ← nI_succ]
    exact restore_loop hs hμ m (i + 1) (by omega)
theorem call_restore {a : Int32} (hn : n ≤ 512) : Both (X9_restore (d + 8) a) (X10_restore (d + 8) a) n := by
  rintro μC μM ⟨P, p, r, h⟩
  obtain ⟨⟨hC, hK, hR⟩, ⟨hM, hRM⟩, hS, hT, ⟨t, nx, H, hP⟩, ⟨hd, S, hSl⟩, ⟨tt, X, Y, W, hW⟩, hD⟩ := id h
  have pw := hC.1
  have hpp := hC.pp
  have i1 := in_s (d := d + 7) (v := a) (a := 0) (b := nI 2) (μ := μM)
  rw [i3_0 (by decide)] at i1
  cases ha : inN a 3 with
  | false =>
    rw [ha] at i1
    refine ⟨0, μC, μM, X9_restore_ok ⟨fun _ => ⟨rfl, rfl⟩, fun q => ⟨fun _ => ⟨rfl, rfl⟩, fun q2 => ?_⟩⟩, X10_restore_ok ⟨_, μM, i1, tpos rfl ⟨rfl, rfl⟩⟩, h.next⟩
    exfalso
    obtain ⟨k, hk, rfl⟩ := nI_ex (i_nlt q)
    rw [inN_nI hk] at ha
    have : ¬ k < 3 := by simpa using ha
    exact q2 (nI_le (a := 3) (by omega) hk)
  | true =>
    rw [ha] at i1
    obtain ⟨s, hs, rfl⟩ := inN_ex ha
    obtain ⟨q1, q2, q3⟩ := hSl s hs
    have vs : vp_in (nI s) 3 := vp_inN hs (by decide)
    have cs : (nI s).toNatClampNeg = s := nI_clamp (by omega)
    cases hh : hd s with
    | false =>
      rw [hh] at q1 q2
      refine ⟨0, μC, μM, X9_restore_ok (tneg (nI_pos (by omega)) (tneg (nI_ge (b := 3) hs (by decide)) ?_)), X10_restore_ok ⟨_, μM, i1, tneg (by decide) ?_⟩, h.next⟩
      · rw [cs, q1]
        exact ⟨vs, teq rfl ⟨rfl, rfl⟩⟩
      · rw [cs, q2]
        exact ⟨vs, teq rfl ⟨rfl, rfl⟩⟩
    | true =>
      obtain ⟨z1, z2, z3⟩ := q3 hh
      rw [hh] at q1 q2
      obtain ⟨m1, a1, a2, a3⟩ := copy_c (d := d + 7) (a := 13) (b := 176 + 5 * s) pw (Or.inl (by omega)) z1
      obtain ⟨m2, hm2⟩ : ∃ m, m = sI m1 23 2 0 := ⟨_, rfl⟩
      obtain ⟨n2, hn2⟩ : ∃ m, m = sI (sA μM 33 (cpTo (μM.1 33) (fun k => μM.1 46 (92 * s + k)) 92)) 0 53 0 := ⟨_, rfl⟩
      have rl := restore_loop (d := d + 7) hs hn2 92 0 (by omega)
      rw [cpTo_0, sA_id] at rl
      have kC : Kq (fun a k => (13 ≤ a ∧ a ≤ 17) ∨ (a = 23 ∧ k = 2)) μC m2 := (a2.mono fun a k q => by unfold sCp at q; omega).trans (by rw [hm2]; exact Kq.sI (by omega))
      have kM : Kq (fun a k => a = 33 ∨ (a = 0 ∧ k = 53)) μM n2 := by
        rw [hn2]
        exact (Kq.sA fun _ => by omega).trans (Kq.sI (by omega))
      refine ⟨1, m2, n2, X9_restore_ok (tneg (nI_pos (by omega)) (tneg (nI_ge (b := 3) hs (by decide)) ?_)), X10_restore_ok ⟨_, μM, i1, tneg (by decide) ?_⟩, ?_⟩
      · rw [cs, q1]
        exact ⟨vs, tne (by decide) ⟨vs, _, m1, a1, m2, X2_clear_ok (fun μ1 e => by rw [hm2, e]), rfl, rfl⟩⟩
      · rw [cs, q2]
        exact ⟨vs, tne (by decide) rl⟩
      · refine ⟨P, p, S s, ⟨hC.kq (kC.mono fun a k q => ?_), hK.of (kC.row fun j => ?_) (kC.row fun j => ?_), a3.of ?_ ?_ fun j y1 y2 => ?_⟩, ⟨hM.kp (kM.p fun a k q => ?_), fun k hk => ?_⟩, z2.mono (by omega), hT.kq kC kM (fun k => ?_) ?_ ?_ (fun k => ?_) ?_ ?_, ⟨0, nx, H, PastR.mk ⟨by omega, hP.2.1, ?_, ?_, fun i hi => absurd hi (Nat.not_lt_zero _)⟩ ⟨?_, fun i hi => absurd hi (Nat.not_lt_zero _)⟩ fun i hi => absurd hi (Nat.not_lt_zero _)⟩, ⟨hd, S, (hSl.kq kC kM (fun a k q1 q2 => ?_) (fun k => ?_) (fun k => ?_)).mono (by omega)⟩, ⟨tt, X, Y, W, hW.kq kC kM ?_ (fun a k q1 q2 => ?_) ?_ (fun k => ?_) (fun k => ?_)⟩, hD.kq kC kM (fun a k q => ?_)⟩
        · unfold nPl; omega
        · omega
        · omega
        · rw [hm2, sI_n (by decide)]
        · rw [hm2, sI_n (by decide)]
        · rw [hm2, sI_n (by omega)]
        · unfold fM at q
          by_cases h0 : a = 0
          · subst h0
            rw [if_pos rfl] at q
            have : k = 18 := by simpa using q
            omega
          · rw [if_neg h0] at q
            have : ¬ a < 9 ∧ ¬ 29 < a := by simpa using q
            omega
        · rw [hn2, sI_n (by decide), sA_1]
          show (if k < 92 then μM.1 46 (92 * s + k) else _) = _
          rw [if_pos hk]
          exact z3 k hk
        · omega
        · omega
        · omega
        · omega
        · omega
        · omega
        · rw [hm2, sI_1]; rfl
        · rw [kC.at (by omega)]; exact hP.2.2.2.1
        · rw [hn2, sI_1]; rfl
        · omega
        · omega
        · omega
        · omega
        · omega
        · omega
        · omega
        · omega
        · omega
theorem call_forget (hn : n ≤ 512) : Both (X9_forget (d + 8)) (X10_forget (d + 8)) n := by
  rintro μC μM ⟨P, p, r, h⟩
  obtain ⟨⟨hC, hK, hR⟩, ⟨hM, hRM⟩, hS, hT, ⟨t, nx, H, hP⟩, ⟨hd, S, hSl⟩, ⟨tt, X, Y, W, hW⟩, hD⟩ := id h
  have hpp := hC.pp
  have kC : Kq (fun a k => a = 192 ∧ k = 3) μC (sI μC 192 3 0) := Kq.sI (by omega)
  have kM : Kq (fun a k => a = 0 ∧ k = 65) μM (sI μM 0 65 0) := Kq.sI (by omega)
  refine ⟨nI tt, _, _, X9_forget_ok ⟨_, X8_clear_ok (fun μ1 e => e.symm), hW.2.1.symm, rfl⟩, X10_forget_ok (fun μ1 e => ⟨hW.2.2.1.symm, e.symm⟩), ?_⟩
  refine ⟨P, p, r, ⟨hC.kq (kC.mono fun a k q => ?_), hK.of (kC.row fun j => ?_) (kC.row fun j => ?_), hR.kq kC fun a j q1 q2 => ?_⟩, ⟨hM.kp (kM.p fun a k q => ?_), fun k hk => ?_⟩, hS.mono (by omega), hT.kq kC kM (fun k => ?_) ?_ ?_ (fun k => ?_) ?_ ?_, ⟨t, nx, H, PastR.mk ⟨hP.1, hP.2.1, ?_, ?_, fun i hi => (hP.C.2.2.2.2 i hi).kq kC fun a j q1 q2 => ?_⟩ ⟨?_, fun i hi k hk => ?_⟩ fun i hi => ((hP.2.2.2.2.2 i hi).2.1).mono (by omega)⟩, ⟨hd, S, (hSl.kq kC kM (fun a k q1 q2 => ?_) (fun k => ?_) (fun k => ?_)).mono (by omega)⟩, ⟨0, X, Y, W, by omega, sI_1, sI_1, fun i hi => absurd hi (Nat.not_lt_zero _)⟩, hD.kq kC kM (fun a k q => ?_)⟩
  · unfold nPl; omega
  · omega
  · omega
  · omega
  · unfold fM at q
    by_cases h0 : a = 0
    · subst h0
      rw [if_pos rfl] at q
      have : k = 18 := by simpa using q
      omega
    · omega
  · rw [kM.at (by omega)]; exact hRM k hk
  · omega
  · omega
  · omega
  · omega
  · omega
  · omega
  · rw [kC.at (by omega)]; exact hP.2.2.1
  · rw [kC.at (by omega)]; exact hP.2.2.2.1
  · omega
  · rw [kM.at (by omega)]; exact hP.M.1
  · rw [kM.at (by omega)]; exact hP.M.2 i hi k hk
  · omega
  · omega
  · omega
  · omega
theorem call_tell {a b c : Int32} (hn : n ≤ 512) : Both (X9_tell (d + 8) a b c) (X10_tell (d + 8) a b c) n := by
  rintro μC μM ⟨P, p, r, h⟩
  obtain ⟨⟨hC, hK, hR⟩, ⟨hM, hRM⟩, hS, hT, ⟨t, nx, H, hP⟩, ⟨hd, S, hSl⟩, ⟨tt, X, Y, W, hW⟩, hD⟩ := id h
  have pw := hC.1
  have hpp := hC.pp
  have c1 := hasCell_c (d := d + 7) (x := a) (y := b) hC
  have c2 := isCell_m (d := d + 6) (x := a) (y := b) hM
  have i1 := in_s (d := d + 7) (v := c) (a := 0) (b := nI 999) (μ := μM)
  rw [i3_0 (by decide)] at i1
  obtain ⟨w20, w1, w2, w3⟩ := hW
  by_cases h20 : tt = 20
  · subst h20
    refine ⟨-1, μC, μM, X9_tell_ok ⟨_, μC, by rw [hC.ptr0]; exact c1, fun _ => ⟨rfl, rfl⟩, fun _ => ⟨fun _ => ⟨rfl, rfl⟩, fun _ => ⟨fun _ => ⟨-1, μC, X8_add_ok (tneg (by rw [w1]; decide) ⟨rfl, rfl⟩), rfl, rfl⟩, fun _ => ⟨rfl, rfl⟩⟩⟩⟩, X10_tell_ok (tpos (by rw [w2]; rfl) ⟨rfl, rfl⟩), h.next⟩
  · have hne : ¬ μM.1 0 65 = 20 := by
      rw [w2]
      exact fun z => h20 (nI_inj (b := 20) (by omega) (by decide) z)
    cases hc : inN a (pW P) && inN b (pH P) with
    | false =>
      rw [hc] at c1 c2
      exact ⟨-1, μC, μM, X9_tell_ok ⟨_, μC, by rw [hC.ptr0]; exact c1, tpos rfl ⟨rfl, rfl⟩⟩, X10_tell_ok (tneg hne ⟨_, μM, c2, tpos rfl ⟨rfl, rfl⟩⟩), h.next⟩
    | true =>
      rw [hc] at c1 c2
      cases hv : inN c 1000 with
      | false =>
        rw [hv] at i1
        refine ⟨-1, μC, μM, X9_tell_ok ⟨_, μC, by rw [hC.ptr0]; exact c1, tneg (by decide) ?_⟩, X10_tell_ok (tneg hne ⟨_, μM, c2, tneg (by decide) ⟨_, μM, i1, teq rfl ⟨rfl, rfl⟩⟩⟩), h.next⟩
        have := rng_le (x := c) (n := 999) (A := fun z => z = 0) (by decide) (by rw [hv]; rfl)
        exact ⟨fun _ => ⟨rfl, rfl⟩, fun q => ⟨fun q2 => absurd ((this.2 q).1 q2) (by decide), fun _ => ⟨rfl, rfl⟩⟩⟩
      | true =>
        rw [hv] at i1
        obtain ⟨xx, yy, rfl, rfl, hx, hy⟩ := cellA hc
        obtain ⟨v, hv9, rfl⟩ := inN_ex hv
        have ct : (nI tt).toNatClampNeg = tt := nI_clamp (by omega)
        have vt : vp_in (nI tt) 20 := vp_inN (by omega) (by decide)
        obtain ⟨m, hm⟩ : ∃ q, q = sI (sI (sI (sI μC 193 tt (nI xx)) 194 tt (nI yy)) 195 tt (nI v)) 192 3 (nI (tt + 1)) := ⟨_, rfl⟩
        obtain ⟨k, hk⟩ : ∃ q, q = sI (sI (sI μM 41 tt (nI (8 * yy + xx))) 42 tt (nI v)) 0 65 (nI (tt + 1)) := ⟨_, rfl⟩
        have kC : Kq (fun a k => (a = 192 ∧ k = 3) ∨ ((a = 193 ∨ a = 194 ∨ a = 195) ∧ k = tt)) μC m := by
          rw [hm]
          exact (((Kq.sI (by omega)).trans (Kq.sI (by omega))).trans (Kq.sI (by omega))).trans (Kq.sI (by omega))
        have kM : Kq (fun a k => (a = 0 ∧ k = 65) ∨ ((a = 41 ∨ a = 42) ∧ k = tt)) μM k := by
          rw [hk]
          exact ((Kq.sI (by omega)).trans (Kq.sI (by omega))).trans (Kq.sI (by omega))
        refine ⟨nI tt, m, k, X9_tell_ok ⟨_, μC, by rw [hC.ptr0]; exact c1, tneg (by decide) (tneg (nI_pos (by omega)) (tpos (nI_le (b := 999) (by omega) (by decide)) ⟨nI tt, m, X8_add_ok (tpos ?_ ?_), rfl, rfl⟩))⟩, X10_tell_ok (tneg hne ⟨_, μM, c2, tneg (by decide) ⟨_, μM, i1, tne (by decide) ?_⟩⟩), ?_⟩
        · rw [w1]
          exact nI_lt (b := 20) (by omega) (by decide)
        · rw [w1, ct]
          refine ⟨vt, ?_⟩
          rintro μ1 rfl
          rw [sI_n (show 192 ≠ 193 by decide), w1, ct]
          refine ⟨vt, ?_⟩
          rintro μ2 rfl
          rw [sI_n (show 192 ≠ 194 by decide), sI_n (show 192 ≠ 193 by decide), w1, ct]
          refine ⟨vt, ?_⟩
          rintro μ3 rfl
          rw [sI_n (show 192 ≠ 195 by decide), sI_n (show 192 ≠ 194 by decide), sI_n (show 192 ≠ 193 by decide), w1, ← nI_succ]
          rintro μ4 rfl
          exact ⟨by rw [sI_1, nI_pred], hm⟩
        · rw [w2, ct]
          refine ⟨vt, ?_⟩
          rw [show (8 : Int32) = nI 8 from rfl, nI_mul, nJ_add]
          rintro μ7 rfl
          rw [sI_n (show 0 ≠ 41 by decide), w2, ct]
          refine ⟨vt, ?_⟩
          rintro μ8 rfl
          rw [sI_n (show 0 ≠ 42 by decide), sI_n (show 0 ≠ 41 by decide), w2, ← nI_succ]
          rintro μ9 rfl
          exact ⟨by rw [sI_1, nI_pred], hk⟩
        · refine ⟨P, p, r, ⟨hC.kq (kC.mono fun a k q => ?_), hK.of (kC.row fun j => ?_) (kC.row fun j => ?_), hR.kq kC fun a j q1 q2 => ?_⟩, ⟨hM.kp (kM.p fun a k q => ?_), fun k hk => ?_⟩, hS.mono (by omega), hT.kq kC kM (fun k => ?_) ?_ ?_ (fun k => ?_) ?_ ?_, ⟨t, nx, H, PastR.mk ⟨hP.1, hP.2.1, ?_, ?_, fun i hi => (hP.C.2.2.2.2 i hi).kq kC fun a j q1 q2 => ?_⟩ ⟨?_, fun i hi k hk => ?_⟩ fun i hi => ((hP.2.2.2.2.2 i hi).2.1).mono (by omega)⟩, ⟨hd, S, (hSl.kq kC kM (fun a k q1 q2 => ?_) (fun k => ?_) (fun k => ?_)).mono (by omega)⟩, ⟨tt + 1, updN X tt xx, updN Y tt yy, updN W tt v, by omega, by rw [hm, sI_1], by rw [hk, sI_1], fun i hi => ?_⟩, hD.kq kC kM (fun a k q => ?_)⟩
          · unfold nPl; omega
          · omega
          · omega
          · omega
          · unfold fM at q
            by_cases h0 : a = 0
            · subst h0
              rw [if_pos rfl] at q
              have : k = 18 := by simpa using q
              omega
            · rw [if_neg h0] at q
              have : ¬ a < 9 ∧ ¬ 29 < a := by simpa using q
              omega
          · rw [kM.at (by omega)]; exact hRM k hk
          · omega
          · omega
          · omega
          · omega
          · omega
          · omega
          · rw [kC.at (by omega)]; exact hP.2.2.1
          · rw [kC.at (by omega)]; exact hP.2.2.2.1
          · omega
          · rw [kM.at (by omega)]; exact hP.M.1
          · rw [kM.at (by omega)]; exact hP.M.2 i hi k hk
          · omega
          · omega
          · omega
          · by_cases e : i = tt
            · subst e
              rw [updN_same, updN_same, updN_same]
              refine ⟨hx, hy, by omega, ?_, ?_, ?_, ?_, ?_⟩
              · rw [hm, sI_n (by decide), sI_n (by decide), sI_n (by decide), sI_1]
              · rw [hm, sI_n (by decide), sI_n (by decide), sI_1]
              · rw [hm, sI_n (by decide), sI_1]
              · rw [hk, sI_n (by decide), sI_n (by decide), sI_1]
              · rw [hk, sI_n (by decide), sI_1]
            · rw [updN_ne e, updN_ne e, updN_ne e, kC.at (by omega), kC.at (by omega), kC.at (by omega), kM.at (by omega), kM.at (by omega)]
              exact w3 i (by omega)
          · omega
theorem call_back {a : Int32} (hn : n ≤ 512) : Both (X9_back (d + 8) a) (X10_back (d + 8) a) n := by
  rintro μC μM ⟨P, p, r, h⟩
  obtain ⟨⟨hC, hK, hR⟩, ⟨hM, hRM⟩, hS, ⟨T, t1, t2, t3, t4, t5⟩, ⟨t, nx, H, hP⟩, ⟨hd, S, hSl⟩, ⟨tt, X, Y, W, hW⟩, hD⟩ := id h
  have hpp := hC.pp
  by_cases h0 : a < 0
  · exact ⟨-1, μC, μM, X9_back_ok (tpos h0 ⟨rfl, rfl⟩), X10_back_ok (tpos h0 ⟨rfl, rfl⟩), h.next⟩
  · obtain ⟨k, hk, rfl⟩ := nI_ex (i_nlt h0)
    by_cases hT : k ≤ T
    · have e : nI T - nI k = nI (T - k) := nI_sub hT
      have kC : Kq (fun a k => a = 0 ∧ k = 1) μC (sI μC 0 1 (nI (T - k))) := Kq.sI (by omega)
      have kM : Kq (fun a k => a = 0 ∧ k = 2) μM (sI μM 0 2 (nI (T - k))) := Kq.sI (by omega)
      refine ⟨nI (T - k), sI μC 0 1 (nI (T - k)), sI μM 0 2 (nI (T - k)), X9_back_ok (tneg h0 ?_), X10_back_ok (tneg h0 ?_), ?_⟩
      · rw [t2]
        refine tpos (nI_le hT (by omega)) ?_
        rw [e]
        rintro μ1 rfl
        exact ⟨by rw [sI_1], rfl⟩
      · rw [t3]
        refine tpos (nI_le hT (by omega)) ?_
        rw [e]
        rintro μ1 rfl
        exact ⟨by rw [sI_1], rfl⟩
      · refine ⟨P, p, r, ⟨hC.kq (kC.mono fun a k q => ?_), hK.of (kC.row fun j => ?_) (kC.row fun j => ?_), hR.kq kC fun a j q1 q2 => ?_⟩, ⟨hM.kp (kM.p fun a k q => ?_), fun k hk => ?_⟩, hS.mono (by omega), ⟨T - k, by omega, sI_1, sI_1, fun j hj => ?_, ?_⟩, ⟨t, nx, H, PastR.mk ⟨hP.1, hP.2.1, ?_, ?_, fun i hi => (hP.C.2.2.2.2 i hi).kq kC fun a j q1 q2 => ?_⟩ ⟨?_, fun i hi k hk => ?_⟩ fun i hi => ((hP.2.2.2.2.2 i hi).2.1).mono (by omega)⟩, ⟨hd, S, (hSl.kq kC kM (fun a k q1 q2 => ?_) (fun k => ?_) (fun k => ?_)).mono (by omega)⟩, ⟨tt, X, Y, W, hW.kq kC kM ?_ (fun a k q1 q2 => ?_) ?_ (fun k => ?_) (fun k => ?_)⟩, hD.kq kC kM (fun a k q => ?_)⟩
        · unfold nPl; omega
        · omega
        · omega
        · omega
        · unfold fM at q
          by_cases h0 : a = 0
          · subst h0
            rw [if_pos rfl] at q
            have : k = 18 := by simpa using q
            omega
          · omega
        · rw [kM.at (by omega)]; exact hRM k hk
        · rw [kC.at (by omega), kM.at (by omega)]; exact t4 j (by omega)
        · rw [kC.at (by omega), kM.at (by omega)]; exact t5
        · rw [kC.at (by omega)]; exact hP.2.2.1
        · rw [kC.at (by omega)]; exact hP.2.2.2.1
        · omega
        · rw [kM.at (by omega)]; exact hP.M.1
        · rw [kM.at (by omega)]; exact hP.M.2 i hi k hk
        · omega
        · omega
        · omega
        · omega
        · omega
        · omega
        · omega
        · omega
        · omega
    · refine ⟨-1, μC, μM, X9_back_ok (tneg h0 (tneg ?_ ⟨rfl, rfl⟩)), X10_back_ok (tneg h0 (tneg ?_ ⟨rfl, rfl⟩)), h.next⟩
      · rw [t2]; exact nI_ge (by omega) hk
      · rw [t3]; exact nI_ge (by omega) hk
end Calls
