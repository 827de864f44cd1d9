/-! ===== the class's law ===== -/
def cw (q : Cd) : Int32 := if q.1 = 0 then nI q.2 else if q.1 = 1 then -1 - nI q.2 else -8 - nI q.1
def cCodes (μ : Mem) (a : Nat) : Nat → List Cd → Prop
  | _, [] => True
  | f, q :: r => μ.1 (a + 1) f = cw q ∧ cCodes μ a (f + 1) r
theorem cCodes.of {μ μ' : Mem} {a : Nat} (h1 : μ'.1 (a + 1) = μ.1 (a + 1)) : ∀ {cs : List Cd} {f : Nat}, cCodes μ a f cs → cCodes μ' a f cs
  | [], _, _ => trivial
  | _ :: _, _, h => ⟨h1 ▸ h.1, cCodes.of h1 h.2⟩
/-- the stack of the law at a -/
def fS (a : Nat) : Fr := fun b _ => b == a + 2
theorem fS_ne {a b k : Nat} (h : b ≠ a + 2) : fS a b k = false := by simp [fS, h]
theorem fS_eq {a k : Nat} : fS a (a + 2) k = true := by simp [fS]
theorem worked_s {d k : Nat} {a b : Int32} {μ : Mem} (h2 : 2 ≤ k) (h5 : k ≤ 5) (hz : ¬ (k = 5 ∧ b = 0)) : X1_worked d (-8 - nI k) a b μ (opC k a b) μ := by
  have hk : k = 2 ∨ k = 3 ∨ k = 4 ∨ k = 5 := by omega
  refine X1_worked_ok ?_
  rcases hk with rfl | rfl | rfl | rfl
  · exact ⟨fun q => absurd q (by decide), fun q => absurd q (by decide), fun _ => ⟨rfl, rfl⟩, fun q => absurd q (by decide)⟩
  · exact ⟨fun q => absurd q (by decide), fun _ => ⟨rfl, rfl⟩, fun q => absurd q (by decide), fun q => absurd q (by decide)⟩
  · exact ⟨fun _ => ⟨rfl, rfl⟩, fun q => absurd q (by decide), fun q => absurd q (by decide), fun q => absurd q (by decide)⟩
  · have hb : b ≠ 0 := fun z => hz ⟨rfl, z⟩
    exact ⟨fun q => absurd q (by decide), fun q => absurd q (by decide), fun q => absurd q (by decide), fun _ => tne hb ⟨hb, rfl, rfl⟩⟩
theorem cw_v : ∀ v, v < 9 → (-1 - nI v : Int32) < 0 ∧ ¬ (-1 - nI v : Int32) < -9 ∧ -1 - (-1 - nI v) = nI v := by decide
theorem cw_o : ∀ k, k < 6 → 2 ≤ k → (-8 - nI k : Int32) < -9 ∧ (-8 - nI k : Int32) ≠ -15 ∧ (-8 - nI k : Int32) ≠ -14 ∧ (k ≠ 5 → (-8 - nI k : Int32) ≠ -13) := by decide
/-- a stretch of codes, worked off -/
theorem ans_seg {d a n m : Nat} {Q : Int32 → Prop} (hn5 : n ≤ 512) : ∀ (cs : List Cd) (c : Nat) (st : List Int32) (μ : Mem), cCodes μ a c cs → wfC cs st.length m → st.length ≤ 32 → stk (μ.1 (a + 2)) st → c + cs.length < n → μ.1 a 3 = nI n →
    (∀ s μ1, runC (μ.1 (a + 3)) cs st = some s → s.length = m → stk (μ1.1 (a + 2)) s → Kp (fS a) μ μ1 → ∃ x μ', X1_answer_at4 d a (nI m) (nI (c + cs.length)) μ1 x μ' ∧ Kp (fS a) μ1 μ' ∧ Q x) → (runC (μ.1 (a + 3)) cs st = none → Q 0) →
    ∃ x μ', X1_answer_at4 d a (nI st.length) (nI c) μ x μ' ∧ Kp (fS a) μ μ' ∧ Q x
  | [], c, st, μ, _, hw, _, hs, hc, hln, hk, _ => by
    have hw : st.length = m := hw
    obtain ⟨x, μ', h1, h2, h3⟩ := hk st μ rfl hw hs Kp.refl
    rw [← hw] at h1
    exact ⟨x, μ', h1, h2, h3⟩
  | q :: r, c, st, μ, hm, hw, hl, hs, hc, hln, hk, hz => by
    have hc : c + (r.length + 1) < n := hc
    obtain ⟨hq, hm⟩ := hm
    have hn : ¬ nI n ≤ nI c := nI_ge (by omega) (by omega)
    have hin : vp_in (nI c) 512 := vp_inN (by omega) (by decide)
    have cl : (nI c).toNatClampNeg = c := nI_clamp (by omega)
    have cst : (nI st.length).toNatClampNeg = st.length := nI_clamp (by omega)
    have go : ∀ (y : Int32) (s : List Int32), stk (μ.1 (a + 2)) s → s.length < 32 → wfC r (s.length + 1) m → runC (μ.1 (a + 3)) (q :: r) st = runC (μ.1 (a + 3)) r (y :: s) → ∃ x μ', X1_answer_at4 d a (nI (s.length + 1)) (nI c + 1) (sI μ (a + 2) s.length y) x μ' ∧ Kp (fS a) μ μ' ∧ Q x := by
      intro y s hs' hlt hw' hr
      have e3 : (sI μ (a + 2) s.length y).1 (a + 3) = μ.1 (a + 3) := sI_n (by omega)
      have kp : Kp (fS a) μ (sI μ (a + 2) s.length y) := Kp.sI fS_eq
      obtain ⟨x, μ', h1, h2, h3⟩ := ans_seg (d := d) hn5 r (c + 1) (y :: s) (sI μ (a + 2) s.length y) (hm.of (sI_n (by omega))) hw' (by show s.length + 1 ≤ 32; omega) (by unfold sI; rw [sA_1]; exact stk_push hs') (by omega) (by rw [sI_n (by omega)]; exact hln)
        (by
          intro s1 μ1 k1 k2 k3 k4
          rw [e3, ← hr] at k1
          have := hk s1 μ1 k1 k2 k3 (kp.trans k4)
          rw [show c + 1 + r.length = c + (q :: r).length by show c + 1 + r.length = c + (r.length + 1); omega]
          exact this)
        (by
          intro k1
          rw [e3, ← hr] at k1
          exact hz k1)
      rw [nI_succ c] at h1
      exact ⟨x, μ', h1, kp.trans h2, h3⟩
    rcases wfC_len hw with ⟨k0, hlt, hv9, hw'⟩ | ⟨k1, hlt, hv9, hw'⟩ | ⟨k2, k5, hl2, hw'⟩
    · obtain ⟨x, μ', h1, h2, h3⟩ := go (nI q.2) st hs hlt hw' (runC_0 k0)
      refine ⟨x, μ', X1_answer_at4_ok ?_, h2, h3⟩
      rw [hln, cl, cst, hq]
      unfold cw
      rw [if_pos k0]
      refine tneg hn ⟨hin, tneg ?_ (tpos ?_ (tneg (nI_pos (by omega)) ⟨vp_inN (by omega) (by decide), fun μ1 e1 => ?_⟩))⟩
      · rw [show (-9 : Int32) = -9 from rfl, Int32.lt_iff_toInt_lt, nI_toInt (by omega), show (-9 : Int32).toInt = -9 from rfl]
        omega
      · exact nI_lt (b := 32) hlt (by decide)
      · rw [e1, ← nI_succ st.length]
        exact h1
    · obtain ⟨x, μ', h1, h2, h3⟩ := go (μ.1 (a + 3) q.2) st hs hlt hw' (runC_1 k1)
      refine ⟨x, μ', X1_answer_at4_ok ?_, h2, h3⟩
      rw [hln, cl, cst, hq]
      unfold cw
      rw [if_neg (by omega), if_pos k1]
      obtain ⟨w1, w2, w3⟩ := cw_v q.2 hv9
      rw [w3, nI_clamp (show q.2 < 2 ^ 31 by omega)]
      refine tneg hn ⟨hin, tneg w2 (tpos (nI_lt (b := 32) hlt (by decide)) (tpos w1 ⟨vp_inN (by omega) (by decide), vp_inN (by omega) (by decide), fun μ1 e1 => ?_⟩))⟩
      rw [e1, ← nI_succ st.length]
      exact h1
    · obtain ⟨b, e, s, rfl⟩ := len2 hl2
      have hl' : s.length + 2 ≤ 32 := hl
      obtain ⟨hb, ha, hs⟩ := hs
      have hb : μ.1 (a + 2) (s.length + 1) = b := hb
      have e0 : nI (b :: e :: s).length = nI (s.length + 2) := rfl
      have e1 : nI (s.length + 2) + (-1) = nI (s.length + 1) := nI_dec (by omega)
      have e1' : nI (s.length + 2) - 1 = nI (s.length + 1) := nI_pred _
      have e2 : nI (s.length + 1) - 1 = nI s.length := nI_pred _
      have e3 : nI (s.length + 2) - 2 = nI s.length := nI_sub (a := s.length + 2) (b := 2) (by omega)
      have v1 : vp_in (nI s.length) 32 := vp_inN (by omega) (by decide)
      have v2 : vp_in (nI (s.length + 1)) 32 := vp_inN (by omega) (by decide)
      have c1 : (nI s.length).toNatClampNeg = s.length := nI_clamp (by omega)
      have c2 : (nI (s.length + 1)).toNatClampNeg = s.length + 1 := nI_clamp (by omega)
      obtain ⟨o1, o2, o3, o4⟩ := cw_o q.1 (by omega) k2
      have ew : cw q = -8 - nI q.1 := by unfold cw; rw [if_neg (by omega), if_neg (by omega)]
      have hx1 : ¬ nI (s.length + 2) < 2 := nI_nlt (b := 2) (by omega) (by omega)
      have hx2 : nI c + 1 < nI n := by rw [← nI_succ]; exact nI_lt (by omega) (by omega)
      have hr := runC_2 (vs := μ.1 (a + 3)) (r := r) (st := s) (a := e) (b := b) k2
      by_cases hzz : q.1 = 5 ∧ b = 0
      · rw [if_pos hzz] at hr
        refine ⟨0, μ, X1_answer_at4_ok ?_, Kp.refl, hz hr⟩
        rw [e0, hln, e1, e1', e2, e3, cl, c1, c2, hq, ew, hb]
        refine tneg hn ⟨hin, tpos o1 (tne o2 (tneg hx1 (tpos hx2 ⟨v1, v2, tne o3 (teq ?_ (teq hzz.2 ⟨rfl, rfl⟩))⟩)))⟩
        rw [hzz.1]
        decide
      · rw [if_neg hzz] at hr
        obtain ⟨x, μ', h1, h2, h3⟩ := go (opC q.1 e b) s hs (by omega) hw' hr
        refine ⟨x, μ', X1_answer_at4_ok ?_, h2, h3⟩
        rw [e0, hln, e1, e1', e2, e3, cl, c1, c2, hq, ew, hb, ha]
        refine tneg hn ⟨hin, tpos o1 (tne o2 (tneg hx1 (tpos hx2 ⟨v1, v2, tne o3 ⟨fun w => ?_, fun w => ?_⟩⟩)))⟩
        · exact ⟨_, μ, worked_s k2 k5 hzz, v1, fun μ1 e9 => e9 ▸ h1⟩
        · have k : q.1 = 5 := by
            rcases Nat.lt_or_ge q.1 5 with z | z
            · exact absurd w (o4 (by omega))
            · omega
          have hb0 : b ≠ 0 := fun z => hzz ⟨k, z⟩
          exact tne hb0 ⟨_, μ, worked_s k2 k5 hzz, v1, fun μ1 e9 => e9 ▸ h1⟩
theorem runC_len {vs : Nat → Int32} {B : Nat} : ∀ {cs : List Cd} {st : List Int32} {m : Nat} {s : List Int32}, wfD B cs st.length m → runC vs cs st = some s → s.length = m
  | [], st, m, s, hw, h => by
    cases h
    exact hw
  | q :: r, st, m, s, hw, h => by
    rcases wfD_len hw with ⟨k0, _, _, hw'⟩ | ⟨k1, _, _, hw'⟩ | ⟨k2, k5, hl2, hw'⟩
    · rw [runC_0 k0] at h
      exact runC_len (st := _ :: st) hw' h
    · rw [runC_1 k1] at h
      exact runC_len (st := _ :: st) hw' h
    · obtain ⟨b, e, s', rfl⟩ := len2 hl2
      rw [runC_2 k2] at h
      by_cases hz : q.1 = 5 ∧ b = 0
      · rw [if_pos hz] at h
        cases h
      · rw [if_neg hz] at h
        exact runC_len (st := _ :: s') hw' h
theorem valC_some {vs : Nat → Int32} {cs : List Cd} {x : Int32} (h : runC vs cs [] = some [x]) : valC vs cs = some x := by
  unfold valC
  rw [h]
  rfl
theorem valC_none {vs : Nat → Int32} {cs : List Cd} (h : runC vs cs [] = none) : valC vs cs = none := by
  unfold valC
  rw [h]
  rfl
/-- a law's branches as the class lays them, from code c up to n -/
def cLaw (μ : Mem) (a : Nat) : Nat → Lw → Nat → Prop
  | _, [], _ => False
  | c, (none, w) :: r, n => cCodes μ a c w ∧ μ.1 (a + 1) (c + w.length) = -15 ∧ c + w.length + 1 = n ∧ r = []
  | c, (some (u, v), w) :: r, n => cCodes μ a c u ∧ cCodes μ a (c + u.length) v ∧ μ.1 (a + 1) (c + u.length + v.length) = -14 ∧ μ.1 (a + 1) (c + u.length + v.length + 1) = nI (c + u.length + v.length + 2 + w.length + 1) ∧ cCodes μ a (c + u.length + v.length + 2) w ∧ μ.1 (a + 1) (c + u.length + v.length + 2 + w.length) = -15 ∧ cLaw μ a (c + u.length + v.length + 2 + w.length + 1) r n
theorem cLaw.of {μ μ' : Mem} {a : Nat} (h1 : μ'.1 (a + 1) = μ.1 (a + 1)) : ∀ {L : Lw} {c n : Nat}, cLaw μ a c L n → cLaw μ' a c L n
  | [], _, _, h => h
  | (none, _) :: _, _, _, h => ⟨h.1.of h1, h1 ▸ h.2.1, h.2.2⟩
  | (some (_, _), _) :: _, _, _, h => ⟨h.1.of h1, h.2.1.of h1, h1 ▸ h.2.2.1, h1 ▸ h.2.2.2.1, h.2.2.2.2.1.of h1, h1 ▸ h.2.2.2.2.2.1, cLaw.of h1 h.2.2.2.2.2.2⟩
theorem cLaw.le {μ : Mem} {a : Nat} : ∀ {L : Lw} {c n : Nat}, cLaw μ a c L n → c < n
  | [], _, _, h => h.elim
  | (none, _) :: _, _, _, h => by have := h.2.2.1; omega
  | (some (_, _), _) :: _, _, _, h => by have := h.2.2.2.2.2.2.le; omega
/-- the end of a branch: w worked off, then the answer -/
theorem ans_end {d a n : Nat} {w : List Cd} {c : Nat} {μ : Mem} (hn5 : n ≤ 512) (hcw : cCodes μ a c w) (hw : wfD 31 w 0 1) (ha : μ.1 (a + 1) (c + w.length) = -15) (hc : c + w.length < n) (hln : μ.1 a 3 = nI n) :
    ∃ x μ', X1_answer_at4 d a 0 (nI c) μ x μ' ∧ Kp (fS a) μ μ' ∧ x = (valC (μ.1 (a + 3)) w).getD 0 := by
  refine ans_seg (Q := fun x => x = (valC (μ.1 (a + 3)) w).getD 0) hn5 w c [] μ hcw (wfC_of hw) (by decide) trivial hc hln ?_ ?_
  · intro s μ1 hr hl hs kp
    obtain ⟨x, rfl⟩ := len1 hl
    refine ⟨x, μ1, X1_answer_at4_ok ?_, Kp.refl, by rw [valC_some hr]; rfl⟩
    rw [kp.at (fS_ne (by omega)), hln, nI_clamp (show c + w.length < 2 ^ 31 by omega), kp.at (fS_ne (by omega)), ha]
    exact tneg (nI_ge (by omega) (by omega)) ⟨vp_inN (by omega) (by decide), tpos (by decide) (teq rfl (tneg (by decide) ⟨vp_inN (k := 0) (by decide) (by decide), hs.1.symm, rfl⟩))⟩
  · intro hr
    rw [valC_none hr]
    rfl
theorem ans_loop {d a n : Nat} (hn5 : n ≤ 512) : ∀ (L : Lw) (c : Nat) (μ : Mem), wfL L → cLaw μ a c L n → μ.1 a 3 = nI n →
    ∃ x μ', X1_answer_at4 d a 0 (nI c) μ x μ' ∧ Kp (fS a) μ μ' ∧ x = (askL (μ.1 (a + 3)) L).getD 0
  | [], c, μ, hw, _, _ => hw.elim
  | (none, w) :: r, c, μ, hw, hL, hln => by
    obtain ⟨h1, h2, h3, h4⟩ := hL
    exact ans_end hn5 h1 hw.1 h2 (by omega) hln
  | (some (u, v), w) :: r, c, μ, hw, hL, hln => by
    obtain ⟨h1, h2, h3, h4, h5, h6, h7⟩ := hL
    obtain ⟨wu, wv, ww, wr⟩ := hw
    have hlt := h7.le
    refine ans_seg (Q := fun x => x = (askL (μ.1 (a + 3)) ((some (u, v), w) :: r)).getD 0) hn5 u c [] μ h1 (wfC_of wu) (by decide) trivial (by omega) hln ?_ ?_
    · intro s μ1 hr hl hs kp
      obtain ⟨x, rfl⟩ := len1 hl
      have hux := valC_some hr
      have e1 : μ1.1 (a + 1) = μ.1 (a + 1) := kp.row fun k => fS_ne (by omega)
      have e3 : μ1.1 (a + 3) = μ.1 (a + 3) := kp.row fun k => fS_ne (by omega)
      have wv1 : wfC v 1 2 := wfC_up wv
      refine ans_seg (Q := fun x => x = (askL (μ.1 (a + 3)) ((some (u, v), w) :: r)).getD 0) hn5 v (c + u.length) [x] μ1 (h2.of e1) wv1 (by show 1 ≤ 32; decide) hs (by omega) (by rw [kp.at (fS_ne (by omega))]; exact hln) ?_ ?_
      · intro s2 μ2 hr2 hl2 hs2 kp2
        rw [e3] at hr2
        have kp12 := kp.trans kp2
        have f1 : μ2.1 (a + 1) = μ.1 (a + 1) := kp12.row fun k => fS_ne (by omega)
        have f3 : μ2.1 (a + 3) = μ.1 (a + 3) := kp12.row fun k => fS_ne (by omega)
        have fl : μ2.1 a 3 = nI n := by rw [kp12.at (fS_ne (by omega))]; exact hln
        rw [show [x] = [] ++ [x] from rfl, runC_app (st := []) wv] at hr2
        obtain ⟨z, hz1, hz2⟩ := Option.map_eq_some_iff.mp hr2
        obtain ⟨y, rfl⟩ := len1 (runC_len (st := []) wv hz1)
        subst hz2
        have hvy := valC_some hz1
        obtain ⟨q1, q2, _⟩ := hs2
        have q1 : μ2.1 (a + 2) 1 = y := q1
        have q2 : μ2.1 (a + 2) 0 = x := q2
        have ea : askL (μ.1 (a + 3)) ((some (u, v), w) :: r) = if x < y then valC (μ.1 (a + 3)) w else askL (μ.1 (a + 3)) r := by
          show (valC (μ.1 (a + 3)) u).bind _ = _
          rw [hux, hvy]
          rfl
        rw [ea]
        have ec : nI (c + u.length + v.length) + 1 = nI (c + u.length + v.length + 1) := (nI_succ _).symm
        have ec1 : nI (c + u.length + v.length + 1) + 1 = nI (c + u.length + v.length + 2) := (nI_succ _).symm
        have ec2 : nI (c + u.length + v.length) + 2 = nI (c + u.length + v.length + 2) := nJ_add _ 2
        have enter : ∀ x1 μ', (x < y → X1_answer_at4 d a 0 (nI (c + u.length + v.length + 2)) μ2 x1 μ') → (¬ x < y → X1_answer_at4 d a 0 (nI (c + u.length + v.length + 2 + w.length + 1)) μ2 x1 μ') → X1_answer_at4 d a (nI 2) (nI (c + u.length + v.length)) μ2 x1 μ' := by
          intro x1 μ' g1 g2
          refine X1_answer_at4_ok ?_
          rw [fl, nI_clamp (show c + u.length + v.length < 2 ^ 31 by omega), ec, ec1, ec2, nI_clamp (show c + u.length + v.length + 1 < 2 ^ 31 by omega), f1, h3, h4, show ((nI 2 : Int32) - 2).toNatClampNeg = 0 by decide, show ((nI 2 : Int32) - 1).toNatClampNeg = 1 by decide, q1, q2, show nI 2 + (-2) = 0 by decide]
          refine tneg (nI_ge (by omega) (by omega)) ⟨vp_inN (by omega) (by decide), tpos (by decide) (tne (by decide) (tneg (by decide) (tpos (nI_lt (by omega) (by omega)) ⟨vp_lit (by decide), vp_lit (by decide), teq rfl ⟨g1, fun hxy => ⟨vp_inN (by omega) (by decide), tneg (nI_ge (by omega) (by omega)) ⟨vp_inN (by omega) (by decide), ?_⟩⟩⟩⟩)))⟩
          rw [nI_pred, ← nI_succ]
          exact g2 hxy
        by_cases hxy : x < y
        · rw [if_pos hxy]
          obtain ⟨x1, μ', k1, k2, k3⟩ := ans_end (d := d) hn5 (h5.of f1) ww (by rw [f1]; exact h6) (by omega) fl
          rw [f3] at k3
          exact ⟨x1, μ', enter x1 μ' (fun _ => k1) (fun q => absurd hxy q), k2, k3⟩
        · rw [if_neg hxy]
          obtain ⟨x1, μ', k1, k2, k3⟩ := ans_loop (d := d) hn5 r _ μ2 wr (h7.of f1) fl
          rw [f3] at k3
          exact ⟨x1, μ', enter x1 μ' (fun q => absurd q hxy) (fun _ => k1), k2, k3⟩
      · intro hr2
        rw [e3] at hr2
        have : valC (μ.1 (a + 3)) v = none := by
          cases hz : runC (μ.1 (a + 3)) v [] with
          | none => exact valC_none hz
          | some z =>
            rw [show [x] = [] ++ [x] from rfl, runC_app (st := []) wv, hz] at hr2
            cases hr2
        show (0 : Int32) = ((valC (μ.1 (a + 3)) u).bind _).getD 0
        rw [hux, this]
        rfl
    · intro hr
      show (0 : Int32) = ((valC (μ.1 (a + 3)) u).bind _).getD 0
      rw [valC_none hr]
      rfl
