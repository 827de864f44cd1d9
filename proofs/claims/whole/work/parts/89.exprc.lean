/-! ===== read: the class's E ===== -/
section Rd
variable {d : Nat}
section
variable {S M : Nat} {T : Nat → Tk} {a1 : Nat}
def prC (κ : Int32) : Int32 := if κ = 27 then -12 else if κ = 28 then -13 else 0
def suC (κ : Int32) : Int32 := if κ = 25 then -10 else if κ = 26 then -11 else 0
theorem prod_c {μ : Mem} : X4_productCode d μ (prC (μ.1 2 3)) μ := by
  refine X4_productCode_ok ?_
  unfold prC
  by_cases h : μ.1 2 3 = 27
  · rw [if_pos h]; exact teq h ⟨rfl, rfl⟩
  · rw [if_neg h]
    refine tne h ?_
    by_cases k : μ.1 2 3 = 28
    · rw [if_pos k]; exact teq k ⟨rfl, rfl⟩
    · rw [if_neg k]; exact tne k ⟨rfl, rfl⟩
theorem sum_c' {μ : Mem} : X4_sumCode d μ (suC (μ.1 2 3)) μ := by
  refine X4_sumCode_ok ?_
  unfold suC
  by_cases h : μ.1 2 3 = 25
  · rw [if_pos h]; exact teq h ⟨rfl, rfl⟩
  · rw [if_neg h]
    refine tne h ?_
    by_cases k : μ.1 2 3 = 26
    · rw [if_pos k]; exact teq k ⟨rfl, rfl⟩
    · rw [if_neg k]; exact tne k ⟨rfl, rfl⟩
/-- a put that may be none -/
def PutO (d a1 : Nat) (x : Int32) (μ μ' : Mem) : Prop := (x = 0 ∧ μ' = μ) ∨ (x ≠ 0 ∧ X1_put d a1 x μ μ')
theorem go_prod {x2 x3 x4 x6 : Int32} {μ μ1 μ2 μ' : Mem} (h6 : ¬ 400 < x6) (hu : X4_readUnit d a1 x2 μ μ1) (h3 : PutO d a1 x3 μ1 μ2) (hp : prC (μ2.1 2 3) ≠ 0) (hk : X4_readSum_at69 d a1 x2 (prC (μ2.1 2 3)) x4 x6 μ2 μ') : X4_readSum_at11 d a1 x2 x3 x4 1 x6 μ μ' := by
  refine X4_readSum_at11_ok (tneg h6 (tneg (by decide) ⟨μ1, hu, ?_⟩))
  rcases h3 with ⟨e, rfl⟩ | ⟨e, g⟩
  · exact tpos e ⟨_, _, prod_c, tne hp (tne hp hk)⟩
  · exact tneg e ⟨μ2, g, _, _, prod_c, tne hp (tne hp hk)⟩
theorem go_sum {x2 x3 x4 x6 : Int32} {μ μ1 μ2 μ3 μ' : Mem} (h6 : ¬ 400 < x6) (hu : X4_readUnit d a1 x2 μ μ1) (h3 : PutO d a1 x3 μ1 μ2) (hp : prC (μ2.1 2 3) = 0) (h4 : PutO d a1 x4 μ2 μ3) (hk : X4_readSum_at69 d a1 x2 0 (suC (μ3.1 2 3)) x6 μ3 μ') : X4_readSum_at11 d a1 x2 x3 x4 1 x6 μ μ' := by
  refine X4_readSum_at11_ok (tneg h6 (tneg (by decide) ⟨μ1, hu, ?_⟩))
  have pr := prod_c (d := d) (μ := μ2)
  rw [hp] at pr
  have tl : (x4 = 0 → ((((0 : Int32)) ≠ 0 → X4_readSum_at69 d a1 x2 0 x4 x6 μ2 μ') ∧ ((0 : Int32) = 0 → (∃ (y11 : Int32) (μ9 : Mem), X4_sumCode d μ2 y11 μ9 ∧ X4_readSum_at69 d a1 x2 0 y11 x6 μ9 μ')))) ∧ (¬ x4 = 0 → (∃ (μ12 : Mem), X1_put d a1 x4 μ2 μ12 ∧ (((0 : Int32) ≠ 0 → X4_readSum_at69 d a1 x2 0 x4 x6 μ12 μ') ∧ ((0 : Int32) = 0 → (∃ (y16 : Int32) (μ14 : Mem), X4_sumCode d μ12 y16 μ14 ∧ X4_readSum_at69 d a1 x2 0 y16 x6 μ14 μ'))))) := by
    rcases h4 with ⟨e, rfl⟩ | ⟨e, g⟩
    · exact tpos e (teq rfl ⟨_, _, sum_c', hk⟩)
    · exact tneg e ⟨μ3, g, teq rfl ⟨_, _, sum_c', hk⟩⟩
  rcases h3 with ⟨e, rfl⟩ | ⟨e, g⟩
  · exact tpos e ⟨_, _, pr, teq rfl tl⟩
  · exact tneg e ⟨μ2, g, _, _, pr, teq rfl tl⟩
theorem at11_end {x2 x3 x4 x6 : Int32} {μ : Mem} : X4_readSum_at93 d a1 x2 x3 x4 x6 μ μ := X4_readSum_at93_ok (X4_readSum_at11_ok ⟨fun _ => rfl, fun _ => tpos rfl rfl⟩)
theorem at69F {x2 x3 x4 x6 : Int32} {μ : Mem} (h : μ.1 2 6 ≠ 0) : X4_readSum_at69 (d + 1) a1 x2 x3 x4 x6 μ μ := by
  have k : X4_readSum_at78 (d + 1) a1 x2 x3 x4 x6 μ μ := X4_readSum_at78_ok ⟨0, μ, accF h, tpos rfl at11_end⟩
  exact X4_readSum_at69_ok ⟨fun _ => k, fun _ => ⟨fun _ => at11_end, fun _ => k⟩⟩
/-- behind a fault -/
def Bd (a1 f pl : Nat) (μ μ' : Mem) : Prop := FC f pl μ' ∧ (∃ c, LwC a1 c μ') ∧ KL a1 μ μ'
theorem FC.same {f pl : Nat} {μ μ' : Mem} (h : FC f pl μ) (k : ∀ j, μ'.1 2 j = μ.1 2 j) : FC f pl μ' := ⟨h.1, by rw [k]; exact h.2.1, by rw [k]; exact h.2.2.1, by rw [k]; exact h.2.2.2⟩
theorem putO_any {x : Int32} {c f pl : Nat} {μ : Mem} (ha : 200 < a1) (h : LwC a1 c μ) (hF : FC f pl μ) : ∃ μ', PutO d a1 x μ μ' ∧ Bd a1 f pl μ μ' := by
  by_cases e : x = 0
  · exact ⟨μ, Or.inl ⟨e, rfl⟩, hF, ⟨c, h⟩, Kz.refl⟩
  · obtain ⟨c', μ', g1, g2, g3, g4⟩ := put_any (d := d) (x := x) ha h
    exact ⟨μ', Or.inr ⟨e, g1⟩, hF.same g4, ⟨c', g2⟩, g3⟩
theorem Bd.trans {f pl f' pl' : Nat} {μ μ1 μ2 : Mem} (h : KL a1 μ μ1) (k : Bd a1 f pl μ1 μ2) : Bd a1 f pl μ μ2 := ⟨k.1, k.2.1, h.trans k.2.2⟩
theorem tailF {x2 x3 x4 x6 : Int32} {c f pl : Nat} {μ μ1 : Mem} (ha : 200 < a1) (h6 : ¬ 400 < x6) (hu : X4_readUnit (d + 1) a1 x2 μ μ1) (hF : FC f pl μ1) (hL : LwC a1 c μ1) : ∃ μ', X4_readSum_at11 (d + 1) a1 x2 x3 x4 1 x6 μ μ' ∧ Bd a1 f pl μ1 μ' := by
  obtain ⟨μ2, p1, p2, ⟨c2, p3⟩, p4⟩ := putO_any (d := d + 1) (x := x3) ha hL hF
  by_cases e : prC (μ2.1 2 3) = 0
  · obtain ⟨μ3, q1, q2, q3, q4⟩ := putO_any (d := d + 1) (x := x4) ha p3 p2
    exact ⟨μ3, go_sum h6 hu p1 e q1 (at69F q2.ne), q2, q3, p4.trans q4⟩
  · exact ⟨μ2, go_prod h6 hu p1 e (at69F p2.ne), p2, ⟨c2, p3⟩, p4⟩
theorem unitF {x2 : Int32} {c f pl : Nat} {μ : Mem} (ha : 200 < a1) (hF : FC f pl μ) (hL : LwC a1 c μ) : ∃ μ', X4_readUnit (d + 2) a1 x2 μ μ' ∧ Bd a1 f pl μ μ' := by
  obtain ⟨i, i1, i2⟩ := hF.2.2.2
  have vc := value_c (d := d + 1) i1 i2
  by_cases k30 : μ.1 2 3 = 30
  · refine ⟨μ, X4_readUnit_ok (teq k30 ⟨fun _ => ⟨0, μ, accF hF.ne, tpos rfl rfl⟩, fun _ => ⟨μ, blameF hF.ne, rfl⟩⟩), hF, ⟨c, hL⟩, Kz.refl⟩
  · by_cases kv : ¬ μ.1 2 3 < 12 ∧ ¬ 20 < μ.1 2 3
    · obtain ⟨c', μ', g1, g2, g3, g4⟩ := put_any (d := d + 1) (x := (-1) - ((μ.1 2 3) - 12)) ha hL
      exact ⟨μ', X4_readUnit_ok (tne k30 (tneg kv.1 (tneg kv.2 ⟨μ', g1, 0, μ', accF (hF.same g4).ne, rfl⟩))), hF.same g4, ⟨c', g2⟩, g3⟩
    · obtain ⟨c', μ', g1, g2, g3, g4⟩ := put_any (d := d + 1) (x := (μ.2.1 7 i).toInt32) ha hL
      refine ⟨μ', X4_readUnit_ok (tne k30 ?_), hF.same g4, ⟨c', g2⟩, g3⟩
      by_cases k1 : μ.1 2 3 < 12
      · exact tpos k1 ⟨_, μ, vc, μ', g1, 0, μ', accF (hF.same g4).ne, rfl⟩
      · have k2 : 20 < μ.1 2 3 := Classical.byContradiction fun z => kv ⟨k1, z⟩
        exact tneg k1 (tpos k2 ⟨_, μ, vc, μ', g1, 0, μ', accF (hF.same g4).ne, rfl⟩)
theorem sumF {x2 : Int32} {c f pl : Nat} {μ : Mem} (ha : 200 < a1) (hF : FC f pl μ) (hL : LwC a1 c μ) : ∃ μ', X4_readSum (d + 3) a1 x2 μ μ' ∧ Bd a1 f pl μ μ' := by
  obtain ⟨μ1, u1, u2, ⟨c1, u3⟩, u4⟩ := unitF (d := d) (x2 := x2) ha hF hL
  obtain ⟨μ', g1, g2⟩ := tailF (d := d + 1) (x3 := 0) (x4 := 0) (x6 := 0) ha (by decide) u1 u2 u3
  exact ⟨μ', X4_readSum_ok g1, g2.1, g2.2.1, u4.trans g2.2.2⟩
def opI (o : Nat) : Int32 := if o = 0 then 0 else -8 - nI o
theorem opI_v : opI 0 = 0 ∧ opI 2 = -10 ∧ opI 3 = -11 ∧ opI 4 = -12 ∧ opI 5 = -13 := by decide
theorem putO_op {o c : Nat} {μ : Mem} (ha : 200 < a1) (ho : isS o ∨ isP o) (hc : c < 512) (h : μ.1 a1 3 = nI c) : ∃ μ', PutO d a1 (opI o) μ μ' ∧ PutC a1 c (opL o) μ μ' ∧ KL a1 μ μ' ∧ ∀ k, μ'.1 2 k = μ.1 2 k := by
  by_cases e : o = 0
  · subst e
    exact ⟨μ, Or.inl ⟨rfl, rfl⟩, ⟨⟨by show c + 0 ≤ 512; omega, h⟩, trivial, fun _ _ => rfl⟩, Kz.refl, fun _ => rfl⟩
  · obtain ⟨μ', g1, g2, g3, g4, g5, g6⟩ := put_l (d := d) (x := opI o) ha hc h
    have hl : opL o = [(o, 0)] := by unfold opL; rw [if_neg e]
    refine ⟨μ', Or.inr ⟨?_, g1⟩, ?_, g3, g6⟩
    · have : o = 2 ∨ o = 3 ∨ o = 4 ∨ o = 5 := by unfold isS isP at ho; omega
      rcases this with z | z | z | z <;> rw [z] <;> decide
    · rw [hl]
      refine ⟨g2, ⟨?_, trivial⟩, fun j hj => g5 j (by omega)⟩
      rw [g4]
      unfold cw opI
      have : o ≠ 1 := by unfold isS isP at ho; omega
      rw [if_neg e, if_neg e, if_neg this]
def Gd (T : Nat → Tk) (a1 c : Nat) (cs : List Cd) (j : Nat) (μ μ' : Mem) : Prop := RC T j μ' ∧ PutC a1 c cs μ μ' ∧ KL a1 μ μ'
theorem RC.same {i : Nat} {μ μ' : Mem} (h : RC T i μ) (k : ∀ j, μ'.1 2 j = μ.1 2 j) : RC T i μ' := ⟨by rw [k]; exact h.1, by rw [k]; exact h.2.1, by rw [k]; exact h.2.2⟩
theorem TC.kl {μ μ' : Mem} (ha : 200 < a1) (h : TC M T μ) (k : KL a1 μ μ') : TC M T μ' := h.kz k (fun j => by unfold lwC adv; omega) (fun j => by unfold lwC adv; omega) (fun z => z)
theorem LwC.ka {c : Nat} {μ μ' : Mem} (ha : 200 < a1) (h : LwC a1 c μ) (k : KA μ μ') : LwC a1 c μ' := ⟨h.1, by rw [k.at (by unfold adv; omega)]; exact h.2⟩
theorem par_c (ha : 200 < a1) (hV : TV S M T) : ∀ (f dep e i c s p u : Nat) (b : Bool) (μ : Mem), dep + e = 6 → 2 * (401 - i) + (if b then 2 else 1) ≤ f → i < M → c + one s + one p ≤ i → isS s → isP p → (b = false → s = 0 ∧ p = 0) → u ≤ i → RC T i μ → TC M T μ → LwC a1 c μ →
    (∀ cs j, parE T f dep i b s p = .inl (cs, j) → ∃ μ', (if b then X4_readSum_at11 (d + 2 * e + 2) a1 (nI dep) (opI p) (opI s) 1 (nI u) μ μ' else X4_readUnit (d + 2 * e + 2) a1 (nI dep) μ μ') ∧ Gd T a1 c cs j μ μ') ∧
    (∀ ft k, parE T f dep i b s p = .inr (ft, k) → k < M ∧ (ft = 1 ∨ ft = 2) ∧ ∃ μ', (if b then X4_readSum_at11 (d + 2 * e + 2) a1 (nI dep) (opI p) (opI s) 1 (nI u) μ μ' else X4_readUnit (d + 2 * e + 2) a1 (nI dep) μ μ') ∧ Bd a1 ft (pc' T k) μ μ')
  | 0, dep, e, i, c, s, p, u, b, μ, _, hf, hi, _, _, _, _, _, _, _, _ => by
    exfalso
    cases b <;> simp at hf
  | f + 1, dep, e, i, c, s, p, u, false, μ, hde, hf, hi, hc, hs, hp, hb, hu, hR, hT, hL => by
    obtain ⟨rfl, rfl⟩ := hb rfl
    have o0 : one 0 = 0 := rfl
    have hm := hV.2.1
    have hf : 2 * (401 - i) + 1 ≤ f + 1 := by simpa using hf
    have vi := hV.2.2.1 i hi
    have vc := value_c (d := d + 2 * e + 1) (show i ≤ 400 by omega) hR.2.1
    show (∀ cs j, _ → ∃ μ', X4_readUnit (d + 2 * e + 2) a1 (nI dep) μ μ' ∧ Gd T a1 c cs j μ μ') ∧ (∀ ft k, _ → k < M ∧ (ft = 1 ∨ ft = 2) ∧ ∃ μ', X4_readUnit (d + 2 * e + 2) a1 (nI dep) μ μ' ∧ Bd a1 ft (pc' T k) μ μ')
    rw [parE]
    by_cases k30 : kd T i = 30
    · rw [if_pos k30]
      have e30 : μ.1 2 3 = 30 := by rw [hR.2.2, k30]; rfl
      by_cases d6 : 6 ≤ dep
      · rw [if_pos d6]
        refine ⟨fun cs j z => (by cases z), fun ft k z => ?_⟩
        cases z
        obtain ⟨μ', g1, g2, g3⟩ := blame_c (d := d + 2 * e + 1) (f := 2) hT hm hR.1 hR.2.1 hi (by omega)
        exact ⟨hi, Or.inr rfl, μ', X4_readUnit_ok (teq e30 (tneg (nI_nlt (b := 6) d6 (by omega)) ⟨μ', g1, rfl⟩)), g2, ⟨c, hL.ka ha g3⟩, g3.l⟩
      · rw [if_neg d6]
        obtain ⟨e', rfl⟩ : ∃ e', e = e' + 1 := ⟨e - 1, by omega⟩
        have hd6 : nI dep < 6 := nI_lt (b := 6) (by omega) (by decide)
        by_cases i4 : i = 400
        · rw [if_pos i4]
          refine ⟨fun cs j z => (by cases z), fun ft k z => ?_⟩
          cases z
          obtain ⟨μ', g1, g2, g3⟩ := accX (d := d + 2 * (e' + 1)) (k := 30) hV hT hR hi (by decide) (Or.inr i4)
          rw [if_pos k30] at g2
          exact ⟨hi, Or.inr rfl, μ', X4_readUnit_ok (teq e30 (tpos hd6 ⟨_, μ', g1, tpos rfl rfl⟩)), g2, ⟨c, hL.ka ha g3⟩, g3.l⟩
        · rw [if_neg i4]
          obtain ⟨μ1, g1, g2, g3, g4⟩ := accS (d := d + 2 * (e' + 1)) (k := 30) hV hT hR hi k30 (by decide) i4
          have T1 : TC M T μ1 := hT.kl ha g3.l
          have L1 := hL.ka ha g3
          obtain ⟨ih1, ih2⟩ := par_c ha hV f (dep + 1) e' (i + 1) c 0 0 0 true μ1 (by omega) (by rw [if_pos rfl]; omega) g4 (by omega) (Or.inl rfl) (Or.inl rfl) (fun z => by cases z) (Nat.zero_le _) g2 T1 L1
          cases hq : parE T f (dep + 1) (i + 1) true 0 0 with
          | inr x =>
            obtain ⟨xf, xk⟩ := x
            refine ⟨fun cs j z => (by cases z), fun ft k z => ?_⟩
            cases z
            obtain ⟨x1, x2, μ2, r1, r2⟩ := ih2 xf xk hq
            rw [if_pos rfl] at r1
            refine ⟨x1, x2, μ2, X4_readUnit_ok (teq e30 (tpos hd6 ⟨_, μ1, g1, tneg (by decide) ⟨μ2, X4_readSum_ok ?_, 0, μ2, accF r2.1.ne, rfl⟩⟩)), r2.1, r2.2.1, g3.l.trans r2.2.2⟩
            rw [show d + 2 * (e' + 1) = d + 2 * e' + 2 by omega, nI_1]
            exact r1
          | inl q =>
            obtain ⟨cs', j'⟩ := q
            obtain ⟨μ2, r1, r2, r3, r4⟩ := ih1 cs' j' hq
            rw [if_pos rfl] at r1
            obtain ⟨_, j1, _, _, _⟩ := par_ok hV f (dep + 1) (i + 1) true 0 0 cs' j' (by omega) g4 (Or.inl rfl) (Or.inl rfl) (fun z => by cases z) hq
            have T2 : TC M T μ2 := T1.kl ha r4
            have rs : X4_readSum (d + 2 * (e' + 1) + 1) a1 (nI dep + 1) μ1 μ2 := by
              refine X4_readSum_ok ?_
              rw [show d + 2 * (e' + 1) = d + 2 * e' + 2 by omega, nI_1]
              exact r1
            have p0 : PutC a1 c cs' μ μ2 := ⟨r3.1, r3.2.1, fun j hj => by rw [r3.2.2 j hj, g3.at (by unfold adv; omega)]⟩
            dsimp only
            by_cases k31 : kd T j' = 31
            · rw [if_pos k31]
              by_cases j4 : j' = 400
              · rw [if_pos j4]
                refine ⟨fun cs j z => (by cases z), fun ft k z => ?_⟩
                cases z
                obtain ⟨μ3, s1, s2, s3⟩ := accX (d := d + 2 * (e' + 1)) (k := 31) hV T2 r2 j1 (by decide) (Or.inr j4)
                rw [if_pos k31] at s2
                exact ⟨j1, Or.inr rfl, μ3, X4_readUnit_ok (teq e30 (tpos hd6 ⟨_, μ1, g1, tneg (by decide) ⟨μ2, rs, _, μ3, s1, rfl⟩⟩)), s2, ⟨_, r3.1.ka ha s3⟩, (g3.l.trans r4).trans s3.l⟩
              · rw [if_neg j4]
                refine ⟨fun cs j z => ?_, fun ft k z => by cases z⟩
                cases z
                obtain ⟨μ3, s1, s2, s3, s4⟩ := accS (d := d + 2 * (e' + 1)) (k := 31) hV T2 r2 j1 k31 (by decide) j4
                exact ⟨μ3, X4_readUnit_ok (teq e30 (tpos hd6 ⟨_, μ1, g1, tneg (by decide) ⟨μ2, rs, _, μ3, s1, rfl⟩⟩)), s2, p0.ad ha s3, (g3.l.trans r4).trans s3.l⟩
            · rw [if_neg k31]
              refine ⟨fun cs j z => (by cases z), fun ft k z => ?_⟩
              cases z
              obtain ⟨μ3, s1, s2, s3⟩ := accX (d := d + 2 * (e' + 1)) (k := 31) hV T2 r2 j1 (by decide) (Or.inl k31)
              rw [if_neg k31] at s2
              exact ⟨j1, Or.inl rfl, μ3, X4_readUnit_ok (teq e30 (tpos hd6 ⟨_, μ1, g1, tneg (by decide) ⟨μ2, rs, _, μ3, s1, rfl⟩⟩)), s2, ⟨_, r3.1.ka ha s3⟩, (g3.l.trans r4).trans s3.l⟩
    · rw [if_neg k30]
      have e30 : μ.1 2 3 ≠ 30 := by rw [hR.2.2]; exact fun z => k30 (nI_inj (b := 30) (by omega) (by decide) z)
      by_cases kv : 12 ≤ kd T i ∧ kd T i ≤ 20
      · rw [if_pos kv]
        have v1 : ¬ μ.1 2 3 < 12 := by rw [hR.2.2]; exact nI_nlt (b := 12) kv.1 (by omega)
        have v2 : ¬ 20 < μ.1 2 3 := by rw [hR.2.2]; exact nI_nlt (a := 20) kv.2 (by decide)
        obtain ⟨μ1, g1, g2, g3, g4, g5, g6⟩ := put_l (d := d + 2 * e + 1) (x := (-1) - ((μ.1 2 3) - 12)) ha (show c < 512 by omega) hL.2
        have R1 := hR.same g6
        have T1 : TC M T μ1 := hT.kl ha g3
        have ek : μ1.1 2 3 = nI (kd T i) := R1.2.2
        have P1 : PutC a1 c [(1, kd T i - 12)] μ μ1 := ⟨g2, ⟨by
          rw [g4, hR.2.2, show (12 : Int32) = nI 12 from rfl, nI_sub kv.1]
          unfold cw
          rw [if_neg (show ¬ (1:Nat) = 0 by decide), if_pos (show (1:Nat) = 1 from rfl)], trivial⟩, fun j hj => g5 j (by omega)⟩
        by_cases i4 : i = 400
        · rw [if_pos i4]
          refine ⟨fun cs j z => (by cases z), fun ft k z => ?_⟩
          cases z
          obtain ⟨μ2, s1, s2, s3⟩ := accX (d := d + 2 * e) (k := kd T i) hV T1 R1 hi vi.1 (Or.inr i4)
          rw [if_pos rfl] at s2
          exact ⟨hi, Or.inr rfl, μ2, X4_readUnit_ok (tne e30 (tneg v1 (tneg v2 ⟨μ1, g1, _, μ2, by rw [ek]; exact s1, rfl⟩))), s2, ⟨_, g2.ka ha s3⟩, g3.trans s3.l⟩
        · rw [if_neg i4]
          refine ⟨fun cs j z => ?_, fun ft k z => by cases z⟩
          cases z
          obtain ⟨μ2, s1, s2, s3, s4⟩ := accS (d := d + 2 * e) (k := kd T i) hV T1 R1 hi rfl (by omega) i4
          exact ⟨μ2, X4_readUnit_ok (tne e30 (tneg v1 (tneg v2 ⟨μ1, g1, _, μ2, by rw [ek]; exact s1, rfl⟩))), s2, P1.ad ha s3, g3.trans s3.l⟩
      · rw [if_neg kv]
        obtain ⟨μ1, g1, g2, g3, g4, g5, g6⟩ := put_l (d := d + 2 * e + 1) (x := (μ.2.1 7 i).toInt32) ha (show c < 512 by omega) hL.2
        have R1 := hR.same g6
        have T1 : TC M T μ1 := hT.kl ha g3
        have wrap : ∀ y μ2, X4_accept (d + 2 * e + 1) 22 μ1 y μ2 → X4_readUnit (d + 2 * e + 2) a1 (nI dep) μ μ2 := fun y μ2 s1 => by
          refine X4_readUnit_ok (tne e30 ?_)
          by_cases v1 : μ.1 2 3 < 12
          · exact tpos v1 ⟨_, μ, vc, μ1, g1, _, μ2, s1, rfl⟩
          · have v2 : 20 < μ.1 2 3 := by
              rw [hR.2.2] at v1 ⊢
              refine nI_lt (a := 20) ?_ (by omega)
              refine Nat.lt_of_not_le fun z => kv ⟨Nat.le_of_not_lt fun y => v1 (nI_lt (b := 12) y (by decide)), z⟩
            exact tneg v1 (tpos v2 ⟨_, μ, vc, μ1, g1, _, μ2, s1, rfl⟩)
        by_cases k22 : kd T i = 22
        · rw [if_pos k22]
          by_cases i4 : i = 400
          · rw [if_pos i4]
            refine ⟨fun cs j z => (by cases z), fun ft k z => ?_⟩
            cases z
            obtain ⟨μ2, s1, s2, s3⟩ := accX (d := d + 2 * e) (k := 22) hV T1 R1 hi (by decide) (Or.inr i4)
            rw [if_pos k22] at s2
            exact ⟨hi, Or.inr rfl, μ2, wrap _ _ s1, s2, ⟨_, g2.ka ha s3⟩, g3.trans s3.l⟩
          · rw [if_neg i4]
            refine ⟨fun cs j z => ?_, fun ft k z => by cases z⟩
            cases z
            obtain ⟨μ2, s1, s2, s3, s4⟩ := accS (d := d + 2 * e) (k := 22) hV T1 R1 hi k22 (by decide) i4
            have P1 : PutC a1 c [(0, vl' T i)] μ μ1 := ⟨g2, ⟨by
              have v9 := vi.2.2.1 k22
              rw [g4, (hT i hi).2.2.1 k22]
              unfold cw
              rw [if_pos rfl]
              apply i_bv
              show ((BitVec.ofNat 64 (vl' T i)).signExtend 32).toNat = (BitVec.ofNat 32 (vl' T i)).toNat
              rw [BitVec.signExtend_eq_setWidth_of_le _ (by decide), BitVec.toNat_setWidth, BitVec.toNat_ofNat, BitVec.toNat_ofNat, Nat.mod_eq_of_lt (show vl' T i < 2 ^ 64 by omega)], trivial⟩, fun j hj => g5 j (by omega)⟩
            exact ⟨μ2, wrap _ _ s1, s2, P1.ad ha s3, g3.trans s3.l⟩
        · rw [if_neg k22]
          refine ⟨fun cs j z => (by cases z), fun ft k z => ?_⟩
          cases z
          obtain ⟨μ2, s1, s2, s3⟩ := accX (d := d + 2 * e) (k := 22) hV T1 R1 hi (by decide) (Or.inl k22)
          rw [if_neg k22] at s2
          exact ⟨hi, Or.inl rfl, μ2, wrap _ _ s1, s2, ⟨_, g2.ka ha s3⟩, g3.trans s3.l⟩
  | f + 1, dep, e, i, c, s, p, u, true, μ, hde, hf, hi, hc, hs, hp, _, hu, hR, hT, hL => by
    have o0 : one 0 = 0 := rfl
    have hm := hV.2.1
    have hf : 2 * (401 - i) + 2 ≤ f + 1 := by simpa using hf
    have h6 : ¬ (400 : Int32) < nI u := nI_nlt (a := 400) (by omega) (by decide)
    obtain ⟨ih1, ih2⟩ := par_c ha hV f dep e i c 0 0 0 false μ hde (by rw [if_neg (by decide)]; omega) hi (by omega) (Or.inl rfl) (Or.inl rfl) (fun _ => ⟨rfl, rfl⟩) (Nat.zero_le _) hR hT hL
    show (∀ cs j, _ → ∃ μ', X4_readSum_at11 (d + 2 * e + 2) a1 (nI dep) (opI p) (opI s) 1 (nI u) μ μ' ∧ Gd T a1 c cs j μ μ') ∧ (∀ ft k, _ → k < M ∧ (ft = 1 ∨ ft = 2) ∧ ∃ μ', X4_readSum_at11 (d + 2 * e + 2) a1 (nI dep) (opI p) (opI s) 1 (nI u) μ μ' ∧ Bd a1 ft (pc' T k) μ μ')
    rw [parE]
    cases hq : parE T f dep i false 0 0 with
    | inr x =>
      obtain ⟨xf, xk⟩ := x
      refine ⟨fun cs j z => (by cases z), fun ft k z => ?_⟩
      cases z
      obtain ⟨x1, x2, μ1, r1, r2, ⟨c1, r3⟩, r4⟩ := ih2 xf xk hq
      rw [if_neg (by decide)] at r1
      obtain ⟨μ', g1, g2, g3, g4⟩ := tailF (d := d + 2 * e + 1) (x3 := opI p) (x4 := opI s) ha h6 r1 r2 r3
      exact ⟨x1, x2, μ', g1, g2, g3, r4.trans g4⟩
    | inl q =>
      obtain ⟨c1, j1⟩ := q
      obtain ⟨μ1, r1, r2, r3, r4⟩ := ih1 c1 j1 hq
      rw [if_neg (by decide)] at r1
      obtain ⟨b1, b2, b3, _, _⟩ := par_ok hV f dep i false 0 0 c1 j1 (by omega) hi (Or.inl rfl) (Or.inl rfl) (fun _ => ⟨rfl, rfl⟩) hq
      have vj := hV.2.2.1 j1 b2
      have os : one s ≤ 1 := by unfold one; split <;> omega
      have op : one p ≤ 1 := by unfold one; split <;> omega
      obtain ⟨μ2, p1, p2, p3, p4⟩ := putO_op (d := d + 2 * e + 2) (o := p) (c := c + c1.length) ha (Or.inr hp) (by omega) r3.1.2
      have R2 := r2.same p4
      have T2 : TC M T μ2 := (hT.kl ha r4).kl ha p3
      have P2 := r3.trans p2
      have lp := opL_len p
      have ls := opL_len s
      have κ : μ2.1 2 3 = nI (kd T j1) := R2.2.2
      dsimp only
      by_cases kp : kd T j1 = 27 ∨ kd T j1 = 28
      · rw [if_pos kp]
        have ep : prC (μ2.1 2 3) = opI (kd T j1 - 23) := by
          rw [κ]
          rcases kp with z | z <;> rw [z] <;> decide
        have ep0 : prC (μ2.1 2 3) ≠ 0 := by
          rw [ep]
          rcases kp with z | z <;> rw [z] <;> decide
        by_cases j4 : j1 = 400
        · rw [if_pos j4]
          refine ⟨fun cs j z => (by cases z), fun ft k z => ?_⟩
          cases z
          obtain ⟨μ3, s1, s2, s3⟩ := accX (d := d + 2 * e + 1) (k := kd T j1) hV T2 R2 b2 vj.1 (Or.inr j4)
          rw [if_pos rfl] at s2
          refine ⟨b2, Or.inr rfl, μ3, go_prod h6 r1 p1 ep0 (X4_readSum_at69_ok (tne ep0 (X4_readSum_at78_ok ⟨_, μ3, by rw [κ]; exact s1, tpos rfl at11_end⟩))), s2, ⟨_, P2.1.ka ha s3⟩, (r4.trans p3).trans s3.l⟩
        · rw [if_neg j4]
          obtain ⟨μ3, s1, s2, s3, s4⟩ := accS (d := d + 2 * e + 1) (k := kd T j1) hV T2 R2 b2 rfl (by omega) j4
          have P3 := P2.ad ha s3
          have op' : one (kd T j1 - 23) = 1 := by unfold one; rw [if_neg (by omega)]
          obtain ⟨jh1, jh2⟩ := par_c ha hV f dep e (j1 + 1) (c + (c1 ++ opL p).length) s (kd T j1 - 23) (u + 1) true μ3 hde (by rw [if_pos rfl]; omega) s4 (by rw [List.length_append, lp, op']; omega) hs (by unfold isP; omega) (fun z => by cases z) (by omega) s2 (T2.kl ha s3.l) P3.1
          have wrap : ∀ μ', X4_readSum_at11 (d + 2 * e + 2) a1 (nI dep) (opI (kd T j1 - 23)) (opI s) 1 (nI (u + 1)) μ3 μ' → X4_readSum_at11 (d + 2 * e + 2) a1 (nI dep) (opI p) (opI s) 1 (nI u) μ μ' := fun μ' z => by
            refine go_prod h6 r1 p1 ep0 (X4_readSum_at69_ok (tne ep0 (X4_readSum_at78_ok ⟨_, μ3, by rw [κ]; exact s1, tneg (by decide) ?_⟩)))
            rw [ep, nI_1]
            exact z
          cases hr : parE T f dep (j1 + 1) true s (kd T j1 - 23) with
          | inr x =>
            obtain ⟨xf, xk⟩ := x
            refine ⟨fun cs j z => (by cases z), fun ft k z => ?_⟩
            cases z
            obtain ⟨x1, x2, μ4, t1, t2⟩ := jh2 xf xk hr
            rw [if_pos rfl] at t1
            exact ⟨x1, x2, μ4, wrap _ t1, t2.1, t2.2.1, ((r4.trans p3).trans s3.l).trans t2.2.2⟩
          | inl r =>
            obtain ⟨c2, j2⟩ := r
            refine ⟨fun cs j z => ?_, fun ft k z => by cases z⟩
            cases z
            obtain ⟨μ4, t1, t2, t3, t4⟩ := jh1 c2 j2 hr
            rw [if_pos rfl] at t1
            exact ⟨μ4, wrap _ t1, t2, P3.trans t3, ((r4.trans p3).trans s3.l).trans t4⟩
      · rw [if_neg kp]
        have ep0 : prC (μ2.1 2 3) = 0 := by
          rw [κ]
          unfold prC
          rw [if_neg (show ¬ nI (kd T j1) = 27 from fun z => kp (Or.inl (nI_inj (b := 27) (by omega) (by decide) z))), if_neg (show ¬ nI (kd T j1) = 28 from fun z => kp (Or.inr (nI_inj (b := 28) (by omega) (by decide) z)))]
        have pl : LwC a1 (c + (c1 ++ opL p).length) μ2 := P2.1
        obtain ⟨μ3, q1, q2, q3, q4⟩ := putO_op (d := d + 2 * e + 2) (o := s) (c := c + (c1 ++ opL p).length) ha (Or.inl hs) (by rw [List.length_append, lp]; omega) pl.2
        have R3 := R2.same q4
        have T3 : TC M T μ3 := T2.kl ha q3
        have P3 := P2.trans q2
        have κ3 : μ3.1 2 3 = nI (kd T j1) := R3.2.2
        by_cases ks : kd T j1 = 25 ∨ kd T j1 = 26
        · rw [if_pos ks]
          have es : suC (μ3.1 2 3) = opI (kd T j1 - 23) := by
            rw [κ3]
            rcases ks with z | z <;> rw [z] <;> decide
          have es0 : suC (μ3.1 2 3) ≠ 0 := by
            rw [es]
            rcases ks with z | z <;> rw [z] <;> decide
          by_cases j4 : j1 = 400
          · rw [if_pos j4]
            refine ⟨fun cs j z => (by cases z), fun ft k z => ?_⟩
            cases z
            obtain ⟨μ4, s1, s2, s3⟩ := accX (d := d + 2 * e + 1) (k := kd T j1) hV T3 R3 b2 vj.1 (Or.inr j4)
            rw [if_pos rfl] at s2
            exact ⟨b2, Or.inr rfl, μ4, go_sum h6 r1 p1 ep0 q1 (X4_readSum_at69_ok (teq rfl (tneg es0 (X4_readSum_at78_ok ⟨_, μ4, by rw [κ3]; exact s1, tpos rfl at11_end⟩)))), s2, ⟨_, P3.1.ka ha s3⟩, ((r4.trans p3).trans q3).trans s3.l⟩
          · rw [if_neg j4]
            obtain ⟨μ4, s1, s2, s3, s4⟩ := accS (d := d + 2 * e + 1) (k := kd T j1) hV T3 R3 b2 rfl (by omega) j4
            have P4 := P3.ad ha s3
            have os' : one (kd T j1 - 23) = 1 := by unfold one; rw [if_neg (by omega)]
            obtain ⟨jh1, jh2⟩ := par_c ha hV f dep e (j1 + 1) (c + (c1 ++ opL p ++ opL s).length) (kd T j1 - 23) 0 (u + 1) true μ4 hde (by rw [if_pos rfl]; omega) s4 (by rw [List.length_append, List.length_append, lp, ls, os', o0]; omega) (by unfold isS; omega) (Or.inl rfl) (fun z => by cases z) (by omega) s2 (T3.kl ha s3.l) P4.1
            have wrap : ∀ μ', X4_readSum_at11 (d + 2 * e + 2) a1 (nI dep) (opI 0) (opI (kd T j1 - 23)) 1 (nI (u + 1)) μ4 μ' → X4_readSum_at11 (d + 2 * e + 2) a1 (nI dep) (opI p) (opI s) 1 (nI u) μ μ' := fun μ' z => by
              refine go_sum h6 r1 p1 ep0 q1 (X4_readSum_at69_ok (teq rfl (tneg es0 (X4_readSum_at78_ok ⟨_, μ4, by rw [κ3]; exact s1, tneg (by decide) ?_⟩))))
              rw [es, nI_1]
              exact z
            cases hr : parE T f dep (j1 + 1) true (kd T j1 - 23) 0 with
            | inr x =>
              obtain ⟨xf, xk⟩ := x
              refine ⟨fun cs j z => (by cases z), fun ft k z => ?_⟩
              cases z
              obtain ⟨x1, x2, μ5, t1, t2⟩ := jh2 xf xk hr
              rw [if_pos rfl] at t1
              exact ⟨x1, x2, μ5, wrap _ t1, t2.1, t2.2.1, (((r4.trans p3).trans q3).trans s3.l).trans t2.2.2⟩
            | inl r =>
              obtain ⟨c2, j2⟩ := r
              refine ⟨fun cs j z => ?_, fun ft k z => by cases z⟩
              cases z
              obtain ⟨μ5, t1, t2, t3, t4⟩ := jh1 c2 j2 hr
              rw [if_pos rfl] at t1
              exact ⟨μ5, wrap _ t1, t2, P4.trans t3, (((r4.trans p3).trans q3).trans s3.l).trans t4⟩
        · rw [if_neg ks]
          refine ⟨fun cs j z => ?_, fun ft k z => by cases z⟩
          cases z
          have es0 : suC (μ3.1 2 3) = 0 := by
            rw [κ3]
            unfold suC
            rw [if_neg (show ¬ nI (kd T j1) = 25 from fun z => ks (Or.inl (nI_inj (b := 25) (by omega) (by decide) z))), if_neg (show ¬ nI (kd T j1) = 26 from fun z => ks (Or.inr (nI_inj (b := 26) (by omega) (by decide) z)))]
          exact ⟨μ3, go_sum h6 r1 p1 ep0 q1 (X4_readSum_at69_ok (teq rfl (by rw [es0]; exact tpos rfl at11_end))), R3, P3, (r4.trans p3).trans q3⟩
end
end Rd
