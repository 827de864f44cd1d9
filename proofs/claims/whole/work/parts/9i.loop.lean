/-! ===== read: the loop over all tells and its end ===== -/
section Rd
variable {d : Nat}
section
variable {S M : Nat} {T : Nat → Tk}
theorem tell_any {P : Pl} {N : List (List Nat)} {l : Lt} {bc cc q s i : Nat} {μC μM : Mem} (hV : TV S M T) (hT : TC M T μC) (hU : TM M T μM) (hC : QSc M T (.inl i) μC) (hM : QSm M T (.inl i) μM) (g : GR P N l bc cc q s μC μM) (hi : Inv T l bc cc s i) : TellR d M T q s i μC μM := by
  rcases (show kd T i = 0 ∨ kd T i = 1 ∨ kd T i = 2 ∨ kd T i = 3 ∨ kd T i = 4 ∨ kd T i = 5 ∨ kd T i = 6 ∨ kd T i = 7 ∨ kd T i = 8 ∨ 9 ≤ kd T i by omega) with e | e | e | e | e | e | e | e | e | e
  · exact tell_row hV hT hU hC hM g hi e
  · exact tell_field hV hT hU hC hM g hi e
  · exact tell_loom hV hT hU hC hM g hi e
  · exact tell_lawW hV hT hU hC hM g hi e
  · exact tell_lawD hV hT hU hC hM g hi e
  · exact tell_lawG hV hT hU hC hM g hi e
  · exact tell_stor hV hT hU hC hM g hi e
  · exact tell_gust hV hT hU hC hM g hi e
  · exact tell_seedn hV hT hU hC hM g hi e
  · exact tell_none hV hT hU hC hM e
theorem TC.kr {q : Nat} {μ μ' : Mem} (hq : q = 214 ∨ q = 233) (h : TC M T μ) (k : KRc q μ μ') : TC M T μ' := h.kz k (fun j => by unfold rdC; omega) (fun j => by unfold rdC; omega) (by decide)
theorem TM.kr {s : Nat} {μ μ' : Mem} (h : TM M T μ) (k : KRm s μ μ') : TM M T μ' := h.kz k (fun j => by unfold rdM; omega) (fun j => by unfold rdM; omega) (fun j => by unfold rdM; omega) (by decide)
/-- the model behind its loop -/
def RdE (d : Nat) (μ : Mem) (x : Int32) (μ' : Mem) : Prop := ((μ.1 0 13) ≠ 0 → X10_read_at158 d μ x μ') ∧ ((μ.1 0 13) = 0 → (∃ (y3 : Int32) (μ1 : Mem), X10_areFields d μ y3 μ1 ∧ ((y3 ≠ 0 → X10_read_at158 d μ1 x μ') ∧ (y3 = 0 → (∃ (μ4 : Mem), X10_wrong d 6 (μ1.1 0 11) μ1 μ4 ∧ X10_read_at158 d μ4 x μ')))))
def W8 (s : Nat) (μ : Mem) : Prop := ∃ w, w ≤ 8 ∧ μ.1 10 s = nI w
def GoR (M : Nat) (T : Nat → Tk) (q s : Nat) (q' : Qs) (μC' μM' : Mem) : Prop := ∀ j, q' = .inl j → kd T j = 32 ∧ W8 s μM' ∧ ∃ P' N' l' bc' cc', GR P' N' l' bc' cc' q s μC' μM' ∧ Inv T l' bc' cc' s j
theorem loop_both {q s : Nat} {x2 : Int32} (hV : TV S M T) : ∀ (n i t : Nat) (P : Pl) (N : List (List Nat)) (l : Lt) (bc cc : Nat) (μC μM : Mem), M ≤ i + n → t ≤ i → TC M T μC → TM M T μM → QSc M T (.inl i) μC → QSm M T (.inl i) μM → GR P N l bc cc q s μC μM → Inv T l bc cc s i → W8 s μM → ∃ q' μC' μM', (∀ x μ'', X4_readText_at50 (d + 17) x2 0 μC' x μ'' → X4_readText_at15 (d + 17) x2 (nI t) μC x μ'') ∧ (∀ x μ'', RdE (d + 18) μM' x μ'' → X10_read_at112 (d + 18) μM x μ'') ∧ QSc M T q' μC' ∧ QSm M T q' μM' ∧ KRc q μC μC' ∧ KRm s μM μM' ∧ TM M T μM' ∧ GoR M T q s q' μC' μM'
  | 0, i, t, P, N, l, bc, cc, μC, μM, hn, ht, hT, hU, hC, hM, g, hi, hw => absurd hC.1 (by omega)
  | n + 1, i, t, P, N, l, bc, cc, μC, μM, hn, ht, hT, hU, hC, hM, g, hi, hw => by
    have hm := hV.2.1
    have hiM := hC.1
    have n1 : ¬ (400 : Int32) < nI t := nI_nlt (a := 400) (by omega) (by omega)
    by_cases e : kd T i = 32
    · exact ⟨.inl i, μC, μM, fun x μ'' h => X4_readText_at15_ok (tneg n1 (teq hC.2.1 (tpos (by rw [hC.2.2.2, e]; rfl) h))), fun x μ'' h => X10_read_at112_ok (teq hM.2.1.1 ⟨1, μM, is_y (k := 32) hV hU hM.2.1 hiM rfl e, tne (by decide) h⟩), hC, hM, Kz.refl, Kz.refl, hU, fun j hj => by cases hj; exact ⟨e, hw, P, N, l, bc, cc, g, hi⟩⟩
    · obtain ⟨q1, m1, m2, a1, a2, a3, a4, a5, a6, a7⟩ := tell_any (d := d) hV hT hU hC hM g hi
      have nk : ¬ μC.1 2 3 = 32 := by
        rw [hC.2.2.2]
        intro z
        have := (hV.2.2.1 i hiM).1
        exact e (nI_inj (b := 32) (by omega) (by decide) z)
      have goC : ∀ x μ'', X4_readText_at15 (d + 17) x2 (nI (t + 1)) m1 x μ'' → X4_readText_at15 (d + 17) x2 (nI t) μC x μ'' := fun x μ'' h => X4_readText_at15_ok (tneg n1 (teq hC.2.1 (tneg nk ⟨m1, a1, by rw [nI_1]; exact h⟩)))
      have goM : ∀ x μ'', X10_read_at112 (d + 18) m2 x μ'' → X10_read_at112 (d + 18) μM x μ'' := fun x μ'' h => X10_read_at112_ok (teq hM.2.1.1 ⟨0, μM, is_n (k := 32) hV hU hM.2.1 hiM rfl (by decide) e, teq rfl ⟨m2, a2, h⟩⟩)
      have hU2 := hU.kr a6
      cases q1 with
      | inr f =>
        have nf := a3.2.ne
        have nm := a4.2.ne
        exact ⟨.inr f, m1, m2, fun x μ'' h => goC x μ'' (X4_readText_at15_ok ⟨fun _ => h, fun _ => tne nf h⟩), fun x μ'' h => goM x μ'' (X10_read_at112_ok (tne nm h)), a3, a4, a5, a6, hU2, fun j hj => by cases hj⟩
      | inl j =>
        obtain ⟨b1, b2, P', N', l', bc', cc', g', i'⟩ := a7 j rfl
        have w' : W8 s m2 := b2.elim (fun z => by obtain ⟨w, w1, w2⟩ := hw; exact ⟨w, w1, z.trans w2⟩) (fun z => z)
        obtain ⟨q', μC', μM', c1, c2, c3, c4, c5, c6, c7, c8⟩ := loop_both (q := q) (s := s) (x2 := x2) hV n j (t + 1) P' N' l' bc' cc' m1 m2 (by omega) (by omega) (hT.kr g.hq a5) hU2 a3 a4 g' i' w'
        exact ⟨q', μC', μM', fun x μ'' h => goC x μ'' (c1 x μ'' h), fun x μ'' h => goM x μ'' (c2 x μ'' h), c3, c4, a5.trans c5, a6.trans c6, c7, c8⟩
/-- the class's land, looked through -/
def lat (a j : Nat) : Prop := a = 2 ∧ (j = 8 ∨ j = 9)
theorem land_f {q : Nat} {x2 : Int32} (hq : 200 < q) : ∀ (m c : Nat) (μ : Mem), c + m = 48 → ∃ μ1, (∀ x μ', X4_readText_at50 d x2 48 μ1 x μ' → X4_readText_at50 d x2 (nI c) μ x μ') ∧ Kz lat (fun _ => False) μ μ1
  | 0, c, μ, hc => ⟨μ, fun x μ' h => by have : c = 48 := hc; rw [this]; exact h, Kz.refl⟩
  | m + 1, c, μ, hc => by
    have n1 : ¬ (48 : Int32) ≤ nI c := fun z => by
      have := (nI_le_iff (a := 48) (by omega) (by omega)).1 z
      omega
    have vi : vp_in (nI c) 48 := vp_inN (by omega) (by decide)
    by_cases e : (μ.1 (μ.2.2 2 1 + 1) (nI c).toNatClampNeg) < (μ.1 (μ.2.2 2 1) 2)
    · obtain ⟨μ1, h1, h2⟩ := land_f (x2 := x2) hq m (c + 1) μ (by omega)
      exact ⟨μ1, fun x μ' h => X4_readText_at50_ok (tneg n1 ⟨vi, tpos e (by rw [nI_1]; exact h1 x μ' h)⟩), h2⟩
    · have bl : ∃ μ2, X4_blameLater d 6 x2 μ μ2 ∧ Kz lat (fun _ => False) μ μ2 := by
        by_cases z : μ.1 2 8 = 0
        · refine ⟨sI (sI μ 2 8 6) 2 9 x2, X4_blameLater_ok (teq z ?_), (Kz.sI (by unfold lat; omega)).trans (Kz.sI (by unfold lat; omega))⟩
          rintro μ1 rfl μ2 rfl
          rfl
        · exact ⟨μ, X4_blameLater_ok (tne z rfl), Kz.refl⟩
      obtain ⟨μ2, b1, b2⟩ := bl
      obtain ⟨μ1, h1, h2⟩ := land_f (x2 := x2) hq m (c + 1) μ2 (by omega)
      exact ⟨μ1, fun x μ' h => X4_readText_at50_ok (tneg n1 ⟨vi, tneg e ⟨μ2, b1, by rw [nI_1]; exact h1 x μ' h⟩⟩), b2.trans h2⟩
theorem land_c {q S : Nat} (hq : 200 < q) : ∀ (m c : Nat) (l : Lt) (μ : Mem), c + m = 48 → LC' l μ → μ.2.2 2 1 = q → ∃ μ1 b, (∀ x μ', X4_readText_at50 d (nI S) 48 μ1 x μ' → X4_readText_at50 d (nI S) (nI c) μ x μ') ∧ Kz lat (fun _ => False) μ μ1 ∧ LC' (ltS b 6 S l) μ1 ∧ (b = false ↔ ∀ c', c ≤ c' → c' < 48 → μ.1 (q + 1) c' < μ.1 q 2)
  | 0, c, l, μ, hc, hl, hp => ⟨μ, false, fun x μ' h => by have : c = 48 := hc; rw [this]; exact h, Kz.refl, hl, ⟨fun _ c' h1 h2 => absurd h2 (by omega), fun _ => rfl⟩⟩
  | m + 1, c, l, μ, hc, hl, hp => by
    have n1 : ¬ (48 : Int32) ≤ nI c := fun z => by
      have := (nI_le_iff (a := 48) (by omega) (by omega)).1 z
      omega
    have vi : vp_in (nI c) 48 := vp_inN (by omega) (by decide)
    have ec : (nI c).toNatClampNeg = c := nI_clamp (by omega)
    by_cases e : (μ.1 (q + 1) c) < (μ.1 q 2)
    · obtain ⟨μ1, b, h1, h2, h3, h4⟩ := land_c hq m (c + 1) l μ (by omega) hl hp
      refine ⟨μ1, b, fun x μ' h => X4_readText_at50_ok (tneg n1 ⟨vi, tpos (by rw [hp, ec]; exact e) (by rw [nI_1]; exact h1 x μ' h)⟩), h2, h3, ⟨fun z c' y1 y2 => ?_, fun z => h4.2 fun c' y1 y2 => z c' (by omega) y2⟩⟩
      by_cases y : c' = c
      · rw [y]; exact e
      · exact h4.1 z c' (by omega) y2
    · obtain ⟨μ2, b1, b2, b3⟩ := later_c (d := d) (k := 6) (pl := S) (by decide) hl
      obtain ⟨μ1, b, h1, h2, h3, h4⟩ := land_c hq m (c + 1) _ μ2 (by omega) b2 (by rw [b3.2.2]; exact hp)
      rw [ltS_2 (by decide)] at h3
      exact ⟨μ1, true, fun x μ' h => X4_readText_at50_ok (tneg n1 ⟨vi, tneg (by rw [hp, ec]; exact e) ⟨μ2, b1, by rw [nI_1]; exact h1 x μ' h⟩⟩), (b3.mono (fun a k z => z) (fun _ z => z)).trans h2, h3, ⟨fun z => (by cases z), fun z => absurd (z c (Nat.le_refl _) (by omega)) e⟩⟩
/-- the model's land, looked through -/
theorem are_row {s H w r : Nat} {μ : Mem} {K : Prop} (hs : s < 2) (hH : H ≤ 6) (hr : r < H) (hw : w ≤ 8) (h19 : μ.1 0 19 = nI s) (h10 : μ.1 10 s = nI w) (hy : ∃ y, X10_areFields_at2 d (nI (r + 1)) μ y μ ∧ (y = 0 ∨ y = 1) ∧ (y = 1 ↔ K)) : ∀ (m c : Nat), c + m = w → ∃ y, X10_areFields_at17 d (nI r) (nI c) μ y μ ∧ (y = 0 ∨ y = 1) ∧ (y = 1 ↔ (∀ c', c ≤ c' → c' < w → μ.1 11 (48 * s + 8 * r + c') < μ.1 12 s) ∧ K)
  | 0, c, hc => by
    obtain ⟨y, y1, y2, y3⟩ := hy
    have vs : vp_in (μ.1 0 19) 2 := by rw [h19]; exact vp_inN hs (by decide)
    refine ⟨y, X10_areFields_at17_ok ⟨vs, tpos ?_ (by rw [nI_1]; exact y1)⟩, y2, y3.trans ⟨fun z => ⟨fun c' h1 h2 => absurd h2 (by omega), z⟩, fun z => z.2⟩⟩
    rw [h19, nI_clamp (by omega), h10]
    exact (nI_le_iff (by omega) (by omega)).2 (by omega)
  | m + 1, c, hc => by
    have vs : vp_in (μ.1 0 19) 2 := by rw [h19]; exact vp_inN hs (by decide)
    have n1 : ¬ (μ.1 10 ((μ.1 0 19).toNatClampNeg)) ≤ nI c := by
      rw [h19, nI_clamp (by omega), h10]
      intro z
      have := (nI_le_iff (by omega) (by omega)).1 z
      omega
    have ix : ((48 * (μ.1 0 19)) + (8 * nI r)) + nI c = nI (48 * s + 8 * r + c) := by
      rw [h19, show (48 : Int32) = nI 48 from rfl, show (8 : Int32) = nI 8 from rfl, nI_mul, nI_mul, nJ_add, nJ_add]
    have vi : vp_in (((48 * (μ.1 0 19)) + (8 * nI r)) + nI c) 96 := by rw [ix]; exact vp_inN (by omega) (by decide)
    by_cases e : μ.1 11 (48 * s + 8 * r + c) < μ.1 12 s
    · obtain ⟨y, y1, y2, y3⟩ := are_row hs hH hr hw h19 h10 hy m (c + 1) (by omega)
      refine ⟨y, X10_areFields_at17_ok ⟨vs, tneg n1 ⟨vi, vs, tpos ?_ (by rw [nI_1]; exact y1)⟩⟩, y2, y3.trans ⟨fun z => ⟨fun c' h1 h2 => ?_, z.2⟩, fun z => ⟨fun c' h1 h2 => z.1 c' (by omega) h2, z.2⟩⟩⟩
      · rw [ix, nI_clamp (by omega), h19, nI_clamp (by omega)]; exact e
      · by_cases y : c' = c
        · rw [y]; exact e
        · exact z.1 c' (by omega) h2
    · refine ⟨0, X10_areFields_at17_ok ⟨vs, tneg n1 ⟨vi, vs, tneg ?_ ⟨rfl, rfl⟩⟩⟩, Or.inl rfl, ⟨fun z => absurd z (by decide), fun z => absurd (z.1 c (Nat.le_refl _) (by omega)) e⟩⟩
      rw [ix, nI_clamp (by omega), h19, nI_clamp (by omega)]; exact e
theorem are_m {s H w : Nat} {μ : Mem} (hs : s < 2) (hH : H ≤ 6) (hw : w ≤ 8) (h19 : μ.1 0 19 = nI s) (h9 : μ.1 9 s = nI H) (h10 : μ.1 10 s = nI w) : ∀ (n r : Nat), r + n = H → ∃ y, X10_areFields_at2 d (nI r) μ y μ ∧ (y = 0 ∨ y = 1) ∧ (y = 1 ↔ ∀ r', r ≤ r' → r' < H → ∀ c, c < w → μ.1 11 (48 * s + 8 * r' + c) < μ.1 12 s)
  | 0, r, hr => by
    have vs : vp_in (μ.1 0 19) 2 := by rw [h19]; exact vp_inN hs (by decide)
    refine ⟨1, X10_areFields_at2_ok ⟨vs, tpos ?_ ⟨rfl, rfl⟩⟩, Or.inr rfl, ⟨fun _ r' h1 h2 => absurd h2 (by omega), fun _ => rfl⟩⟩
    rw [h19, nI_clamp (by omega), h9]
    exact (nI_le_iff (by omega) (by omega)).2 (by omega)
  | n + 1, r, hr => by
    have vs : vp_in (μ.1 0 19) 2 := by rw [h19]; exact vp_inN hs (by decide)
    obtain ⟨y, y1, y2, y3⟩ := are_row (d := d) hs hH (show r < H by omega) hw h19 h10 (are_m hs hH hw h19 h9 h10 n (r + 1) (by omega)) w 0 (by omega)
    refine ⟨y, X10_areFields_at2_ok ⟨vs, tneg ?_ y1⟩, y2, y3.trans ⟨fun z r' h1 h2 c hc => ?_, fun z => ⟨fun c' _ h2 => z r (Nat.le_refl _) (by omega) c' h2, fun r' h1 h2 => z r' (by omega) h2⟩⟩⟩
    · rw [h19, nI_clamp (by omega), h9]
      intro z
      have := (nI_le_iff (by omega) (by omega)).1 z
      omega
    · by_cases e : r' = r
      · rw [e]; exact z.1 c (by omega) hc
      · exact z.2 r' (by omega) h2 c hc
/-- every letter of the land names a FIELD -/
def okF (P : Pl) : Prop := ∀ c f, onL P c = true → pFld P c = some f → f < pF P
theorem okF_c {P : Pl} (hF : pF P ≤ 6) (h8 : pW P ≤ 8) (h6 : pH P ≤ 6) (hf : ∀ c f, pFld P c = some f → f < 6) : okF P ↔ ∀ c, c < 48 → landI P c < nI (pF P) := by
  have neg : (-2 : Int32) < nI (pF P) := by
    rcases (show pF P = 0 ∨ pF P = 1 ∨ pF P = 2 ∨ pF P = 3 ∨ pF P = 4 ∨ pF P = 5 ∨ pF P = 6 by omega) with e | e | e | e | e | e | e <;> rw [e] <;> decide
  refine ⟨fun h c hc => ?_, fun h c f hc e => ?_⟩
  · unfold landI
    by_cases e : onL P c = true
    · rw [if_pos e]
      cases hp : pFld P c with
      | none => exact neg
      | some f => exact nI_lt (h c f e hp) (by omega)
    · rw [if_neg e]; exact neg
  · have c48 : c < 48 := by
      unfold onL at hc
      rw [Bool.and_eq_true_iff] at hc
      have h1 := of_decide_eq_true hc.1
      have h2 := of_decide_eq_true hc.2
      omega
    have z := h c c48
    unfold landI at z
    rw [if_pos hc, e] at z
    have z : nI f < nI (pF P) := z
    have := hf c f e
    by_cases y : f < pF P
    · exact y
    · exact absurd z (nI_nlt (by omega) (by omega))
theorem okF_m {P : Pl} {s : Nat} {μ : Mem} (hF : pF P ≤ 6) (h8 : pW P ≤ 8) (h6 : pH P ≤ 6) (hf : ∀ c f, pFld P c = some f → f < 6) (hL : ∀ c, onL P c = true → μ.1 11 (48 * s + c) = fI (pFld P c)) (h12 : μ.1 12 s = nI (pF P)) : okF P ↔ ∀ r, 0 ≤ r → r < pH P → ∀ c, c < pW P → μ.1 11 (48 * s + 8 * r + c) < μ.1 12 s := by
  rw [okF_c hF h8 h6 hf, h12]
  have on : ∀ r c, r < pH P → c < pW P → onL P (8 * r + c) = true := fun r c h1 h2 => by
    unfold onL
    rw [decide_eq_true (show (8 * r + c) % 8 < pW P by omega), decide_eq_true (show (8 * r + c) / 8 < pH P by omega)]
    rfl
  have neg : (-2 : Int32) < nI (pF P) := by
    rcases (show pF P = 0 ∨ pF P = 1 ∨ pF P = 2 ∨ pF P = 3 ∨ pF P = 4 ∨ pF P = 5 ∨ pF P = 6 by omega) with e | e | e | e | e | e | e <;> rw [e] <;> decide
  refine ⟨fun h r _ h1 c h2 => ?_, fun h c hc => ?_⟩
  · have z := h (8 * r + c) (by omega)
    unfold landI at z
    rw [if_pos (on r c h1 h2)] at z
    rw [show 48 * s + 8 * r + c = 48 * s + (8 * r + c) by omega, hL _ (on r c h1 h2)]
    exact z
  · unfold landI
    by_cases e : onL P c = true
    · rw [if_pos e, ← hL c e]
      have hc' := e
      unfold onL at hc'
      rw [Bool.and_eq_true_iff] at hc'
      have h1 := of_decide_eq_true hc'.1
      have h2 := of_decide_eq_true hc'.2
      have z := h (c / 8) (by omega) h2 (c % 8) h1
      rw [show 48 * s + 8 * (c / 8) + c % 8 = 48 * s + c by omega] at z
      exact z
    · rw [if_neg e]; exact neg
end
end Rd
