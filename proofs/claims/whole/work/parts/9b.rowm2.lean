/-! ===== read: a row told, the model's side ===== -/
section Rd
variable {d : Nat}
section
variable {S M : Nat} {T : Nat → Tk}
def bdk (x : List Nat) : Nat → Bool
  | 0 => false
  | k + 1 => bdk x k || !okL (lt' x k)
theorem badL_s {x : List Nat} : ∀ (k p : Nat), badL x p (k + 1) = (badL x p k || !okL (lt' x (p + k)))
  | 0, p => by
    show (!okL (lt' x p) || false) = (false || !okL (lt' x (p + 0)))
    rw [Bool.or_false, Bool.false_or, Nat.add_zero]
  | k + 1, p => by
    show (!okL (lt' x p) || badL x (p + 1) (k + 1)) = ((!okL (lt' x p) || badL x (p + 1) k) || !okL (lt' x (p + (k + 1))))
    rw [badL_s k (p + 1), Bool.or_assoc, show p + 1 + k = p + (k + 1) by omega]
theorem bdk_eq {x : List Nat} : ∀ k, bdk x k = badL x 0 k
  | 0 => rfl
  | k + 1 => by
    rw [badL_s, ← bdk_eq k, Nat.zero_add]
    rfl
def endR (d : Nat) (μ μ' : Mem) : Prop := (∃ (μ1 : Mem), X10_must d 4 μ μ1 ∧ (((μ1.1 0 13) ≠ 0 → μ' = μ1) ∧ ((μ1.1 0 13) = 0 → vp_in (μ1.1 0 19) 2 ∧ vp_in (μ1.1 0 19) 2 ∧ (∀ μ3 : Mem, μ3 = sI μ1 9 ((μ1.1 0 19).toNatClampNeg) ((μ1.1 9 ((μ1.1 0 19).toNatClampNeg)) + 1) → μ' = μ3))))
def rlM (s r a k : Nat) : Prop := (a = 0 ∧ (k = 15 ∨ k = 16)) ∨ (a = 11 ∧ 48 * s + 8 * r ≤ k ∧ k < 48 * s + 8 * r + 8)
theorem nI_m1 (k : Nat) : nI (k + 1) - 1 + (-1) = nI k - 1 := by
  rw [show nI (k + 1) - 1 = nI k from nI_pred k]
  exact (Int32.sub_eq_add_neg _ _).symm
theorem rlay_m {s r t : Nat} {x : List Nat} (hs : s < 2) (hr : r < 6) (hx : okNm x) (hV : TV S M T) (ht : t < M) : ∀ (k : Nat) (l : Lt) (μ : Mem), k ≤ x.length → TM M T μ → μ.1 0 13 = 0 → LM' l μ → Lo l 6 (pc' T t) → μ.1 0 19 = nI s → μ.1 9 s = nI r → ∃ μ1, (∀ μ', endR d μ1 μ' → X10_tellRow_at101 d (nI t) (lI (nm 27 (x.take k))) (nI k - 1) μ μ') ∧ LM' (ltS (bdk x k) 6 (pc' T t) l) μ1 ∧ Kz (rlM s r) (fun _ => False) μ μ1 ∧ (∀ c, c < 48 → μ1.1 11 (48 * s + c) = if c / 8 = r ∧ c % 8 < k then (if lt' x (c % 8) = 15 then -2 else nI (lt' x (c % 8) - 1)) else μ.1 11 (48 * s + c))
  | 0, l, μ, hk, hT, h0, hl, ho, h19, h9 => ⟨μ, fun μ' z => X10_tellRow_at101_ok (tpos (by decide) z), hl, Kz.refl, fun c _ => by rw [if_neg (by omega)]⟩
  | k + 1, l, μ, hk, hT, h0, hl, ho, h19, h9 => by
    have hm := hV.2.1
    have h8 := hx.2.1
    have hkl : k < x.length := by omega
    have hd := hx.2.2 _ (lt_mem hkl)
    obtain ⟨b1, b2⟩ := nmB_lt (Or.inl rfl) hx
    have v40 : nm 27 (x.take (k + 1)) < 2 ^ 40 := by
      have e := nm_div (by decide) b2 (x.length - (k + 1)) (by omega)
      rw [show x.length - (x.length - (k + 1)) = k + 1 by omega] at e
      rw [← e]
      exact Nat.lt_of_le_of_lt (Nat.div_le_self _ _) b1
    have elet : (96 : Int32) + ((lI (nm 27 (x.take (k + 1))) - lI (nm 27 (x.take (k + 1))) / 27 * 27).toInt32) = nI (96 + lt' x k) := by
      rw [lI_rem (by omega), nm_mod b2 hkl, show (96 : Int32) = nI 96 from rfl, nJ_add]
    have ediv : lI (nm 27 (x.take (k + 1))) / 27 = lI (nm 27 (x.take k)) := by
      rw [show (27 : Int64) = lI 27 from rfl, lI_div (by omega) (by decide), take_s hkl, nm_snoc, Nat.mul_comm, Nat.mul_add_div (by decide), Nat.div_eq_of_lt hd.2, Nat.add_zero]
    have n0 : ¬ nI (k + 1) - 1 < 0 := by
      rw [show nI (k + 1) - 1 = nI k from nI_pred k]
      exact nI_nlt (b := 0) (by omega) (by omega)
    have ix : ((48 * (nI s : Int32)) + (8 * nI r)) + (nI (k + 1) - 1) = nI (48 * s + 8 * r + k) := by
      rw [show nI (k + 1) - 1 = nI k from nI_pred k, show (48 : Int32) = nI 48 from rfl, show (8 : Int32) = nI 8 from rfl, nI_mul, nI_mul, nJ_add, nJ_add]
    have vs : vp_in (nI s) 2 := vp_inN hs (by decide)
    have vi : vp_in (nI (48 * s + 8 * r + k)) 96 := vp_inN (by omega) (by decide)
    have e97 : nI (96 + lt' x k) - 97 = nI (lt' x k - 1) := by
      rw [show (97 : Int32) = nI 97 from rfl, nI_sub (by omega), show 96 + lt' x k - 97 = lt' x k - 1 by omega]
    have fin : ∀ (μ0 : Mem) (b : Bool) (v : Int32), (∀ μ', X10_tellRow_at101 d (nI t) (lI (nm 27 (x.take k))) (nI k - 1) (sI μ0 11 (48 * s + 8 * r + k) v) μ' → X10_tellRow_at101 d (nI t) (lI (nm 27 (x.take (k + 1)))) (nI (k + 1) - 1) μ μ') → b = !okL (lt' x k) → v = (if lt' x k = 15 then -2 else nI (lt' x k - 1)) → LM' (ltS b 6 (pc' T t) l) μ0 → Kz (fun a j => a = 0 ∧ (j = 15 ∨ j = 16)) (fun _ => False) μ μ0 → ∃ μ1, (∀ μ', endR d μ1 μ' → X10_tellRow_at101 d (nI t) (lI (nm 27 (x.take (k + 1)))) (nI (k + 1) - 1) μ μ') ∧ LM' (ltS (bdk x (k + 1)) 6 (pc' T t) l) μ1 ∧ Kz (rlM s r) (fun _ => False) μ μ1 ∧ (∀ c, c < 48 → μ1.1 11 (48 * s + c) = if c / 8 = r ∧ c % 8 < k + 1 then (if lt' x (c % 8) = 15 then -2 else nI (lt' x (c % 8) - 1)) else μ.1 11 (48 * s + c)) := fun μ0 b v go hb hv l0 k0 => by
      have T0 : TM M T (sI μ0 11 (48 * s + 8 * r + k) v) := (hT.kz k0 (fun j => by omega) (fun j => by omega) (fun j => by omega) (fun z => z)).n (by decide) (by decide) (by decide)
      obtain ⟨μ1, t1, t2, t3, t4⟩ := rlay_m hs hr hx hV ht k (ltS b 6 (pc' T t) l) (sI μ0 11 (48 * s + 8 * r + k) v) (by omega) T0 (by rw [sI_n (by decide), k0.at (by omega)]; exact h0) (l0.n (by decide)) (ltS_lo ho (Or.inr ⟨rfl, Nat.le_refl _⟩) ho) (by rw [sI_n (by decide), k0.at (by omega)]; exact h19) (by rw [sI_n (by decide), k0.at (by omega)]; exact h9)
      refine ⟨μ1, fun μ' z => go _ (t1 _ z), ?_, (k0.mono (fun a k z => by unfold rlM; omega) (fun _ z => z)).trans (Kz.trans (Kz.sI (by unfold rlM; omega)) t3), fun c hc => ?_⟩
      · rw [ltS_or (by decide), hb] at t2
        show LM' (ltS (bdk x k || !okL (lt' x k)) 6 (pc' T t) l) μ1
        rw [Bool.or_comm]
        exact t2
      · rw [t4 c hc]
        by_cases e : c = 8 * r + k
        · have e1 : c / 8 = r := by omega
          have e2 : c % 8 = k := by omega
          rw [if_neg (by omega), if_pos ⟨e1, by omega⟩, e2, show 48 * s + c = 48 * s + 8 * r + k by omega, sI_1, hv]
        · rw [sI_k (by omega), k0.at (by omega)]
          by_cases y : c / 8 = r ∧ c % 8 < k
          · rw [if_pos y, if_pos (show c / 8 = r ∧ c % 8 < k + 1 from ⟨y.1, by omega⟩)]
          · rw [if_neg y, if_neg (fun z => y ⟨z.1, by omega⟩)]
    have c15 : nI (96 + lt' x k) = 111 ↔ lt' x k = 15 := ⟨fun z => by have := nI_inj (b := 111) (by omega) (by decide) z; omega, fun z => by rw [z]; rfl⟩
    by_cases e15 : lt' x k = 15
    · refine fin μ false (-2) (fun μ' hk' => X10_tellRow_at101_ok (tneg n0 ?_)) (by unfold okL; rw [e15]; rfl) (by rw [if_pos e15]) hl Kz.refl
      rw [elet, ediv, h19, nI_clamp (show s < 2 ^ 31 by omega), h9, ix, nI_m1]
      refine tpos (c15.2 e15) ⟨vs, teq (c15.2 e15) ⟨vi, ?_⟩⟩
      rw [nI_clamp (by omega)]
      rintro μ5 rfl
      exact hk'
    · have n15 : ¬ nI (96 + lt' x k) = 111 := fun z => e15 (c15.1 z)
      by_cases e6 : lt' x k ≤ 6
      · refine fin μ false (nI (lt' x k - 1)) (fun μ' hk' => X10_tellRow_at101_ok (tneg n0 ?_)) (by unfold okL; rw [decide_eq_true e6]; rfl) (by rw [if_neg e15]) hl Kz.refl
        rw [elet, ediv, h19, nI_clamp (show s < 2 ^ 31 by omega), h9, ix, nI_m1]
        refine tneg n15 (tpos ((nI_le_iff (b := 102) (by omega) (by decide)).2 (by omega)) ⟨vs, tne n15 ⟨vi, ?_⟩⟩)
        rw [nI_clamp (by omega), e97]
        rintro μ5 rfl
        exact hk'
      · obtain ⟨m1, g1, g2, g3⟩ := wrong_m (d := d) (k := 6) hV hT h0 ht (by decide) hl ho
        refine fin m1 true (nI (lt' x k - 1)) (fun μ' hk' => X10_tellRow_at101_ok (tneg n0 ?_)) (by unfold okL; rw [decide_eq_false e6, decide_eq_false e15]; rfl) (by rw [if_neg e15]) g2 g3
        rw [elet, ediv, h19, nI_clamp (show s < 2 ^ 31 by omega), h9, nI_m1]
        refine tneg n15 (tneg (fun z => ?_) ⟨m1, g1, ?_⟩)
        · have := (nI_le_iff (b := 102) (by omega) (by decide)).1 z
          omega
        · rw [g3.at (by omega), h19, nI_clamp (show s < 2 ^ 31 by omega), g3.at (by omega), h9, ix]
          refine ⟨vs, tne n15 ⟨vi, ?_⟩⟩
          rw [nI_clamp (by omega), e97]
          rintro μ5 rfl
          exact hk'
theorem rlen_m {x : List Nat} {x1 : Int32} {μ μ' : Mem} (hx : okNm x) (hend : X10_tellRow_at30 d x1 (lI (nm 27 x)) (nI x.length) (lI 0) μ μ') : ∀ (m k : Nat), k + m = x.length → X10_tellRow_at30 d x1 (lI (nm 27 x)) (nI k) (lI (nm 27 (x.take m))) μ μ'
  | 0, k, hk => by
    have : k = x.length := hk
    rw [this]
    exact hend
  | m + 1, k, hk => by
    have h8 := hx.2.1
    have hml : m < x.length := by omega
    have hd := hx.2.2 _ (lt_mem hml)
    obtain ⟨b1, b2⟩ := nmB_lt (Or.inl rfl) hx
    have v40 : nm 27 (x.take (m + 1)) < 2 ^ 40 := by
      have e := nm_div (by decide) b2 (x.length - (m + 1)) (by omega)
      rw [show x.length - (x.length - (m + 1)) = m + 1 by omega] at e
      rw [← e]
      exact Nat.lt_of_le_of_lt (Nat.div_le_self _ _) b1
    have p := nm_pos (m := m) b2 hml
    have ediv : lI (nm 27 (x.take (m + 1))) / 27 = lI (nm 27 (x.take m)) := by
      rw [show (27 : Int64) = lI 27 from rfl, lI_div (by omega) (by decide), take_s hml, nm_snoc, Nat.mul_comm, Nat.mul_add_div (by decide), Nat.div_eq_of_lt hd.2, Nat.add_zero]
    refine X10_tellRow_at30_ok (tneg (fun z => ?_) ?_)
    · have := (lgc_le (by omega)).1 z
      omega
    · rw [ediv, nI_1]
      exact rlen_m hx hend m (k + 1) (by omega)
def rwM (s r a k : Nat) : Prop := (a = 0 ∧ (k = 11 ∨ k = 13 ∨ k = 14 ∨ k = 15 ∨ k = 16)) ∨ (a = 11 ∧ 48 * s + 8 * r ≤ k ∧ k < 48 * s + 8 * r + 8 ∧ r < 6) ∨ ((a = 9 ∨ a = 10) ∧ k = s)
theorem row_m {s r w i : Nat} {l : Lt} {μ : Mem} (hs : s < 2) (hV : TV S M T) (hT : TM M T μ) (h : QSm M T (.inl i) μ) (hk : kd T i = 0) (hl : LM' l μ) (hlo : l.1 ≠ 0 → l.2 < pc' T i) (hr : r ≤ 6) (h19 : μ.1 0 19 = nI s) (hc : μ.1 9 s = nI r) (hw8 : w ≤ 8) (hw : l.1 = 0 → μ.1 10 s = nI w) : ∃ μ', X10_tellOne (d + 6) μ μ' ∧ QSm M T (if r = 6 then .inr (2, i) else rq3 T i) μ' ∧ Kz (rwM s r) (fun _ => False) μ μ' ∧ ∀ j, r ≠ 6 → rq3 T i = .inl j → LM' (ltS (misR r w (nm' T (i + 1)).length || badL (nm' T (i + 1)) 0 (nm' T (i + 1)).length) 6 (pc' T (i + 1)) l) μ' ∧ μ'.1 9 s = nI (r + 1) ∧ (l.1 = 0 → μ'.1 10 s = nI (if r = 0 then (nm' T (i + 1)).length else w)) ∧ (∀ c, c < 48 → μ'.1 11 (48 * s + c) = if c / 8 = r ∧ c % 8 < (nm' T (i + 1)).length then (if lt' (nm' T (i + 1)) (c % 8) = 15 then -2 else nI (lt' (nm' T (i + 1)) (c % 8) - 1)) else μ.1 11 (48 * s + c)) ∧ μ'.1 10 s = (if r = 0 then nI (nm' T (i + 1)).length else μ.1 10 s) := by
  have hm := hV.2.1
  have hi := h.1
  have vs : vp_in (nI s) 2 := vp_inN hs (by decide)
  have e3 : μ.1 3 ((μ.1 0 11).toNatClampNeg) = 20 := by rw [h.2.1.2, nI_clamp (by omega), (hT i hi).1, hk]; rfl
  have s0 : vp_in (μ.1 0 19) 2 := by rw [h19]; exact vs
  have ent : ∀ μ', (vp_in (μ.1 0 19) 2 ∧ (∃ (μ1 : Mem), X10_roomFor (d + 5) (μ.1 9 ((μ.1 0 19).toNatClampNeg)) 6 μ μ1 ∧ (((μ1.1 0 13) ≠ 0 → X10_tellOne_at285 (d + 5) μ1 μ') ∧ ((μ1.1 0 13) = 0 → (∃ (μ3 : Mem), X10_tellRow (d + 5) μ1 μ3 ∧ X10_tellOne_at285 (d + 5) μ3 μ'))))) → X10_tellOne (d + 6) μ μ' := fun μ' z => by
    refine X10_tellOne_ok ⟨by rw [h.2.1.2]; exact vp_inN (by omega) (by decide), ?_⟩
    rw [e3]
    exact ⟨fun _ => z, fun y => absurd y (by decide), fun y => absurd y (by decide), fun y => absurd y (by decide), fun y => absurd y (by decide), fun y => absurd y (by decide), fun y => absurd y (by decide), fun y => absurd y (by decide), fun y => absurd y (by decide), fun y => absurd y (by decide)⟩
  have wide : ∀ {x y : Mem}, KMl x y → Kz (rwM s r) (fun _ => False) x y := fun z => z.mono (fun a k q => by unfold laM at q; unfold rwM; omega) (fun _ q => q)
  by_cases e6 : r = 6
  · rw [if_pos e6]
    obtain ⟨m1, g1, g2, g3⟩ := fail_m (d := d + 4) (f := 2) (x := 2) hV hT h.2.1 h.1 (by omega) rfl
    refine ⟨m1, ent m1 ⟨s0, m1, X10_roomFor_ok ?_, tne g2.ne (X10_tellOne_at285_ok rfl)⟩, ⟨h.1, g2⟩, wide g3.c, fun j z => absurd e6 z⟩
    rw [h19, nI_clamp (by omega), hc, e6]
    exact teq rfl ⟨m1, g1, tne g2.ne rfl⟩
  · rw [if_neg e6]
    obtain ⟨m1, a1, a2, a3⟩ := goQ (d := d + 3) hV hT h (by omega)
    rw [hk] at a2
    have a2 : QSm M T (rq1 T i) m1 := a2
    have rf : X10_roomFor (d + 5) (μ.1 9 ((μ.1 0 19).toNatClampNeg)) 6 μ m1 := by
      refine X10_roomFor_ok ?_
      rw [h19, nI_clamp (by omega), hc]
      exact tne (fun z => e6 (nI_inj (b := 6) (by omega) (by decide) z)) (teq h.2.1.1 ⟨m1, a1, rfl⟩)
    have T1 := hT.kc a3.c
    have s1 : m1.1 0 19 = nI s := (a3.at (by unfold mvM; omega)).trans h19
    cases hq1 : rq1 T i with
    | inr e =>
      have e5 : rq3 T i = .inr e := by unfold rq3 rq2; rw [hq1]; rfl
      rw [hq1] at a2
      refine ⟨m1, ent m1 ⟨s0, m1, rf, tne a2.2.ne (X10_tellOne_at285_ok rfl)⟩, ?_, wide a3.c, fun j _ hj => by rw [e5] at hj; cases hj⟩
      rw [e5]; exact a2
    | inl x1 =>
      have ex1 := rq_at.1 hq1
      subst ex1
      rw [hq1] at a2
      have ent2 : ∀ μ', X10_tellRow (d + 5) m1 μ' → X10_tellOne (d + 6) μ μ' := fun μ' z => ent _ ⟨s0, _, rf, teq a2.2.1.1 ⟨μ', z, X10_tellOne_at285_ok rfl⟩⟩
      obtain ⟨m2, b1, b2, b3⟩ := mustQ (d := d + 2) (k := 21) (x := 1) hV T1 rfl (by decide) (by decide) a2
      have T2 := T1.kc b3.c
      have hq2' : rq2 T i = acq T 21 (.inl (i + 1)) := by unfold rq2; rw [hq1]
      cases hq2 : rq2 T i with
      | inr e =>
        rw [← hq2', hq2] at b2
        have e5 : rq3 T i = .inr e := by unfold rq3; rw [hq2]; rfl
        refine ⟨m2, ent2 m2 (X10_tellRow_ok ⟨m2, b1, tne b2.2.ne ⟨m2, must_F (d := d + 2) b2.2, tne b2.2.ne rfl⟩⟩), ?_, (wide a3.c).trans (wide b3.c), fun j _ hj => by rw [e5] at hj; cases hj⟩
        rw [e5]; exact b2
      | inl j2 =>
        obtain ⟨_, y2, rfl⟩ := rq_at.2.1 hq2
        rw [← hq2', hq2] at b2
        have hx := tv_nm hV a2.1 y2
        have h8 := hx.2.1
        have p01 : pc' T i < pc' T (i + 1) := hV.2.2.2.1 i (i + 1) (by omega) a2.1
        have lo6 : Lo l 6 (pc' T (i + 1)) := fun z => Or.inl (by have := hlo z; omega)
        have s2 : m2.1 0 19 = nI s := (b3.at (by unfold mvM; omega)).trans s1
        have c2 : m2.1 9 s = nI r := by rw [b3.at (by unfold mvM; omega), a3.at (by unfold mvM; omega)]; exact hc
        have w2 : m2.1 10 s = μ.1 10 s := by rw [b3.at (by unfold mvM; omega), a3.at (by unfold mvM; omega)]
        have l2 := (hl.kv a3).kv b3
        -- ahead of the letters
        have pre : ∃ (m3 : Mem) (b : Bool), (∀ μ', X10_tellRow_at101 (d + 4) (nI (i + 1)) (lI (nm 27 (nm' T (i + 1)))) (nI (nm' T (i + 1)).length - 1) m3 μ' → X10_tellRow_at30 (d + 4) (nI (i + 1)) (lI (nm 27 (nm' T (i + 1)))) (nI (nm' T (i + 1)).length) (lI 0) m2 μ') ∧ LM' (ltS b 6 (pc' T (i + 1)) l) m3 ∧ (l.1 = 0 → b = misR r w (nm' T (i + 1)).length) ∧ Kz (fun a k => (a = 0 ∧ (k = 15 ∨ k = 16)) ∨ (a = 10 ∧ k = s)) (fun _ => False) m2 m3 ∧ (l.1 = 0 → m3.1 10 s = nI (if r = 0 then (nm' T (i + 1)).length else w)) ∧ m3.1 10 s = (if r = 0 then nI (nm' T (i + 1)).length else μ.1 10 s) := by
          have z0 : lg_cmp (lI 0) 0 ≤ 0 := (lgc_le (by decide)).2 rfl
          by_cases r0 : r = 0
          · refine ⟨sI m2 10 s (nI (nm' T (i + 1)).length), false, fun μ' hk' => X10_tellRow_at30_ok (tpos z0 ?_), l2.n (by decide), fun _ => by unfold misR; rw [decide_eq_false (fun z => z.1 r0)], Kz.sI (by omega), fun _ => by rw [if_pos r0, sI_1], by rw [if_pos r0, sI_1]⟩
            rw [s2, nI_clamp (by omega), c2, r0]
            refine ⟨vs, teq rfl ⟨vs, ?_⟩⟩
            rintro μ3 rfl
            rw [sI_n (show 0 ≠ 10 by decide), s2, nI_clamp (by omega), sI_1]
            exact ⟨vs, tpos rfl hk'⟩
          · have rn : (nI r : Int32) ≠ 0 := nI_ne0 (by omega) (by omega)
            by_cases e : nI (nm' T (i + 1)).length = m2.1 10 s
            · refine ⟨m2, false, fun μ' hk' => X10_tellRow_at30_ok (tpos z0 ?_), l2, fun z => ?_, Kz.refl, fun z => by rw [if_neg r0, w2]; exact hw z, by rw [if_neg r0]; exact w2⟩
              · rw [s2, nI_clamp (by omega), c2]
                exact ⟨vs, tne rn ⟨vs, tpos e hk'⟩⟩
              · unfold misR
                rw [w2, hw z] at e
                have := nI_inj (by omega) (by omega) e
                rw [decide_eq_false (fun y => y.2 this.symm)]
            · obtain ⟨m3, g1, g2, g3⟩ := wrong_m (d := d + 4) (k := 6) (t := i + 1) hV T2 b2.2.1.1 a2.1 (by decide) l2 lo6
              refine ⟨m3, true, fun μ' hk' => X10_tellRow_at30_ok (tpos z0 ?_), g2, fun z => ?_, g3.mono (fun a k z => Or.inl z) (fun _ z => z), fun z => by rw [if_neg r0, g3.at (by omega), w2]; exact hw z, by rw [if_neg r0, g3.at (by omega)]; exact w2⟩
              · rw [s2, nI_clamp (by omega), c2]
                exact ⟨vs, tne rn ⟨vs, tneg e ⟨m3, g1, hk'⟩⟩⟩
              · unfold misR
                rw [w2, hw z] at e
                rw [decide_eq_true ⟨r0, fun y => e (by rw [y])⟩]
        obtain ⟨m3, b, p1, p2, p3, p4, p5, p6⟩ := pre
        have T3 : TM M T m3 := T2.kz p4 (fun j => by omega) (fun j => by omega) (fun j => by omega) (fun z => z)
        obtain ⟨m4, t1, t2, t3, t4⟩ := rlay_m (d := d + 4) (t := i + 1) hs (show r < 6 by omega) hx hV a2.1 (nm' T (i + 1)).length _ m3 (Nat.le_refl _) T3 ((p4.at (by omega)).trans b2.2.1.1) p2 (ltS_lo lo6 (Or.inr ⟨rfl, Nat.le_refl _⟩) lo6) ((p4.at (by omega)).trans s2) ((p4.at (by omega)).trans c2)
        have T4 : TM M T m4 := T3.kz t3 (fun j => by unfold rlM; omega) (fun j => by unfold rlM; omega) (fun j => by unfold rlM; omega) (fun z => z)
        have K4 : Kz (rwM s r) (fun _ => False) μ m4 := ((wide a3.c).trans (wide b3.c)).trans ((p4.mono (fun a k z => by unfold rwM; omega) (fun _ z => z)).trans (t3.mono (fun a k z => by unfold rlM at z; unfold rwM; omega) (fun _ z => z)))
        have Q4 : QSm M T (.inl (i + 2)) m4 := QSm.of b2 (by rw [t3.at (by unfold rlM; omega), p4.at (by omega)]) (by rw [t3.at (by unfold rlM; omega), p4.at (by omega)]) (by rw [t3.at (by unfold rlM; omega), p4.at (by omega)]) (by rw [t3.at (by unfold rlM; omega), p4.at (by omega)])
        obtain ⟨m5, f1, f2, f3⟩ := mustQ (d := d + 2) (k := 23) (x := 4) hV T4 rfl (by decide) (by decide) Q4
        have e5 : rq3 T i = acq T 23 (.inl (i + 2)) := by unfold rq3; rw [hq2]
        have s5 : m5.1 0 19 = nI s := by rw [f3.at (by unfold mvM; omega), t3.at (by unfold rlM; omega), p4.at (by omega)]; exact s2
        have c5 : m5.1 9 s = nI r := by rw [f3.at (by unfold mvM; omega), t3.at (by unfold rlM; omega), p4.at (by omega)]; exact c2
        have go : ∀ μ', endR (d + 4) m4 μ' → X10_tellOne (d + 6) μ μ' := fun μ' z => by
          refine ent2 μ' (X10_tellRow_ok ⟨m2, b1, teq b2.2.1.1 ?_⟩)
          have e11 : m1.1 0 11 = nI (i + 1) := a2.2.1.2
          rw [e11, nI_clamp (by have := a2.1; omega), (T2 (i + 1) a2.1).2.2.2 y2]
          refine ⟨vp_inN (by have := a2.1; omega) (by decide), ?_⟩
          have z4 := t1 μ' z
          rw [List.take_length] at z4
          have := rlen_m hx (p1 μ' z4) (nm' T (i + 1)).length 0 (by omega)
          rw [List.take_length] at this
          exact this
        have LL : LM' (ltS (misR r w (nm' T (i + 1)).length || badL (nm' T (i + 1)) 0 (nm' T (i + 1)).length) 6 (pc' T (i + 1)) l) m4 := by
          rw [bdk_eq] at t2
          by_cases e : l.1 = 0
          · rw [ltS_or (by decide), p3 e] at t2
            exact t2
          · rw [ltS_n e] at t2 ⊢
            rw [ltS_n e] at t2
            exact t2
        cases hq3 : rq3 T i with
        | inr e =>
          rw [← e5, hq3] at f2
          exact ⟨m5, go m5 ⟨m5, f1, tne f2.2.ne rfl⟩, f2, K4.trans (wide f3.c), fun j _ hj => by cases hj⟩
        | inl j =>
          rw [← e5, hq3] at f2
          refine ⟨sI m5 9 s (nI (r + 1)), go _ ⟨m5, f1, teq f2.2.1.1 ?_⟩, QSm.n f2 (by decide), K4.trans ((wide f3.c).trans (Kz.sI (by unfold rwM; omega))), fun j' _ _ => ⟨(LL.kv f3).n (by decide), sI_1, fun z => ?_, fun c hc' => ?_, ?_⟩⟩
          · rw [s5, nI_clamp (by omega), c5, nI_1]
            refine ⟨vs, vs, ?_⟩
            rintro μ3 rfl
            rfl
          · rw [sI_n (by decide), f3.at (by unfold mvM; omega), t3.at (by unfold rlM; omega)]
            exact p5 z
          · rw [sI_n (by decide), f3.at (by unfold mvM; omega), t4 c hc']
            rw [p4.at (by omega), b3.at (by unfold mvM; omega), a3.at (by unfold mvM; omega)]
          · rw [sI_n (by decide), f3.at (by unfold mvM; omega), t3.at (by unfold rlM; omega)]
            exact p6
end
end Rd
