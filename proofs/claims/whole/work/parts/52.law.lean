/-! ===== the laws: one evaluator, the model's and the class's ===== -/
abbrev Cd : Type := Nat × Nat
abbrev Br : Type := Option (List Cd × List Cd) × List Cd
abbrev Lw : Type := List Br
def opC (k : Nat) (a b : Int32) : Int32 := if k = 2 then a + b else if k = 3 then a - b else if k = 4 then a * b else a / b
def stepC (k : Nat) (st : List Int32) : Option (List Int32) := match st with
  | b :: a :: s => if k = 5 ∧ b = 0 then none else some (opC k a b :: s)
  | _ => none
def runC (vs : Nat → Int32) : List Cd → List Int32 → Option (List Int32)
  | [], st => some st
  | q :: r, st => if q.1 = 0 then runC vs r (nI q.2 :: st) else if q.1 = 1 then runC vs r (vs q.2 :: st) else (stepC q.1 st).bind (runC vs r)
/-- codes that take a stack of n to one of m and never hold more than B -/
def wfD (B : Nat) : List Cd → Nat → Nat → Prop
  | [], n, m => n = m
  | q :: r, n, m => if q.1 = 0 then n < B ∧ q.2 < 10000 ∧ wfD B r (n + 1) m else if q.1 = 1 then n < B ∧ q.2 < 9 ∧ wfD B r (n + 1) m else q.1 ≤ 5 ∧ 2 ≤ n ∧ wfD B r (n - 1) m
abbrev wfC : List Cd → Nat → Nat → Prop := wfD 32
def valC (vs : Nat → Int32) (cs : List Cd) : Option Int32 := (runC vs cs []).bind List.head?
def askL (vs : Nat → Int32) : Lw → Option Int32
  | [] => none
  | (none, w) :: _ => valC vs w
  | (some (u, v), w) :: r => (valC vs u).bind fun a => (valC vs v).bind fun b => if a < b then valC vs w else askL vs r
def wfL : Lw → Prop
  | [] => False
  | (none, w) :: r => wfD 31 w 0 1 ∧ r = []
  | (some (u, v), w) :: r => wfD 31 u 0 1 ∧ wfD 31 v 0 1 ∧ wfD 31 w 0 1 ∧ wfL r
def clampI (x : Int32) (most : Nat) : Nat := if x < 0 then 0 else if nI most < x then most else x.toNatClampNeg
def askA (vs : Nat → Int32) (pl most : Nat) (L : Lw) : Nat := if L = [] then pl else ((askL vs L).map fun w => clampI w most).getD 0
theorem clampI_le {x : Int32} {most : Nat} (hm : most < 2 ^ 31) : clampI x most ≤ most := by
  unfold clampI
  split
  · omega
  · split
    · omega
    · rename_i h1 h2
      obtain ⟨n, hn, rfl⟩ := nI_ex (i_nlt h1)
      rw [nI_clamp hn]
      have := i_nlt h2
      rwa [nI_le_iff hn hm] at this
theorem askA_le {vs : Nat → Int32} {pl most : Nat} {L : Lw} (h : pl ≤ most) (hm : most < 2 ^ 31) : askA vs pl most L ≤ most := by
  unfold askA
  split
  · exact h
  · cases askL vs L with
    | none => exact Nat.zero_le _
    | some w => exact clampI_le hm
/-- a stack, its top first, in an array -/
def stk (g : Nat → Int32) : List Int32 → Prop
  | [] => True
  | b :: st => g st.length = b ∧ stk g st
theorem stk_upd {g : Nat → Int32} {j : Nat} {x : Int32} : ∀ {st : List Int32}, st.length ≤ j → stk g st → stk (upd g j x) st
  | [], _, _ => trivial
  | b :: st, h, k => by
    have h : st.length + 1 ≤ j := h
    exact ⟨(upd_ne (by omega)).trans k.1, stk_upd (by omega) k.2⟩
theorem stk_push {g : Nat → Int32} {x : Int32} {st : List Int32} (k : stk g st) : stk (upd g st.length x) (x :: st) := ⟨upd_same, stk_upd (Nat.le_refl _) k⟩
def mCodes (μ : Mem) : Nat → List Cd → Prop
  | _, [] => True
  | f, q :: r => μ.1 28 f = nI q.1 ∧ μ.1 29 f = nI q.2 ∧ mCodes μ (f + 1) r
theorem mCodes.of {μ μ' : Mem} (h1 : μ'.1 28 = μ.1 28) (h2 : μ'.1 29 = μ.1 29) : ∀ {cs : List Cd} {f : Nat}, mCodes μ f cs → mCodes μ' f cs
  | [], _, _ => trivial
  | _ :: _, _, h => ⟨h1 ▸ h.1, h2 ▸ h.2.1, mCodes.of h1 h2 h.2.2⟩
def fT : Fr := fun a k => a == 32 || (a == 0 && k == 49)
theorem wfD_len {B : Nat} {q : Cd} {r : List Cd} {n m : Nat} (h : wfD B (q :: r) n m) : (q.1 = 0 ∧ n < B ∧ q.2 < 10000 ∧ wfD B r (n + 1) m) ∨ (q.1 = 1 ∧ n < B ∧ q.2 < 9 ∧ wfD B r (n + 1) m) ∨ (2 ≤ q.1 ∧ q.1 ≤ 5 ∧ 2 ≤ n ∧ wfD B r (n - 1) m) := by
  unfold wfD at h
  by_cases h0 : q.1 = 0
  · rw [if_pos h0] at h
    exact Or.inl ⟨h0, h⟩
  · rw [if_neg h0] at h
    by_cases h1 : q.1 = 1
    · rw [if_pos h1] at h
      exact Or.inr (Or.inl ⟨h1, h⟩)
    · rw [if_neg h1] at h
      exact Or.inr (Or.inr ⟨by omega, h⟩)
theorem wfC_len {q : Cd} {r : List Cd} {n m : Nat} (h : wfC (q :: r) n m) : (q.1 = 0 ∧ n < 32 ∧ q.2 < 10000 ∧ wfC r (n + 1) m) ∨ (q.1 = 1 ∧ n < 32 ∧ q.2 < 9 ∧ wfC r (n + 1) m) ∨ (2 ≤ q.1 ∧ q.1 ≤ 5 ∧ 2 ≤ n ∧ wfC r (n - 1) m) := wfD_len h
theorem wfD_up {B C e : Nat} (he : B + e ≤ C) : ∀ {cs : List Cd} {n m : Nat}, wfD B cs n m → wfD C cs (n + e) (m + e)
  | [], n, m, h => by
    have h : n = m := h
    subst h
    rfl
  | q :: r, n, m, h => by
    unfold wfD
    rcases wfD_len h with ⟨k, h1, h2, h3⟩ | ⟨k, h1, h2, h3⟩ | ⟨k, h1, h2, h3⟩
    · rw [if_pos k]
      have := wfD_up he h3
      rw [show n + 1 + e = n + e + 1 by omega] at this
      exact ⟨by omega, h2, this⟩
    · rw [if_neg (by omega), if_pos k]
      have := wfD_up he h3
      rw [show n + 1 + e = n + e + 1 by omega] at this
      exact ⟨by omega, h2, this⟩
    · rw [if_neg (by omega), if_neg (by omega)]
      have := wfD_up he h3
      rw [show n - 1 + e = n + e - 1 by omega] at this
      exact ⟨h1, by omega, this⟩
theorem wfC_of {cs : List Cd} {n m : Nat} (h : wfD 31 cs n m) : wfC cs n m := wfD_up (e := 0) (by decide) h
theorem wfC_up {cs : List Cd} {n m : Nat} (h : wfD 31 cs n m) : wfC cs (n + 1) (m + 1) := wfD_up (e := 1) (by decide) h
theorem runC_0 {vs : Nat → Int32} {q : Cd} {r : List Cd} {st : List Int32} (h : q.1 = 0) : runC vs (q :: r) st = runC vs r (nI q.2 :: st) := by
  show (if q.1 = 0 then _ else _) = _
  rw [if_pos h]
theorem runC_1 {vs : Nat → Int32} {q : Cd} {r : List Cd} {st : List Int32} (h : q.1 = 1) : runC vs (q :: r) st = runC vs r (vs q.2 :: st) := by
  show (if q.1 = 0 then _ else if q.1 = 1 then _ else _) = _
  rw [if_neg (by omega), if_pos h]
theorem runC_2 {vs : Nat → Int32} {q : Cd} {r : List Cd} {st : List Int32} {a b : Int32} (h : 2 ≤ q.1) : runC vs (q :: r) (b :: a :: st) = if q.1 = 5 ∧ b = 0 then none else runC vs r (opC q.1 a b :: st) := by
  show (if q.1 = 0 then _ else if q.1 = 1 then _ else _) = _
  rw [if_neg (by omega), if_neg (by omega)]
  show (if q.1 = 5 ∧ b = 0 then none else some (opC q.1 a b :: st)).bind _ = _
  split <;> rfl
theorem len1 {st : List Int32} (h : st.length = 1) : ∃ x, st = [x] := by
  match st, h with
  | [x], _ => exact ⟨x, rfl⟩
theorem len2 {st : List Int32} (h : 2 ≤ st.length) : ∃ b a s, st = b :: a :: s := by
  match st, h with
  | b :: a :: s, _ => exact ⟨b, a, s, rfl⟩
  | [x], h => exact absurd h (show ¬ 2 ≤ 1 by decide)
  | [], h => exact absurd h (by decide)
theorem runC_app {vs : Nat → Int32} {B : Nat} {t : List Int32} : ∀ {cs : List Cd} {st : List Int32} {m : Nat}, wfD B cs st.length m → runC vs cs (st ++ t) = (runC vs cs st).map (· ++ t)
  | [], _, _, _ => rfl
  | q :: r, st, m, h => by
    rcases wfD_len h with ⟨k, h1, h2, h3⟩ | ⟨k, h1, h2, h3⟩ | ⟨k, h1, h2, h3⟩
    · rw [runC_0 k, runC_0 k]
      exact runC_app (st := nI q.2 :: st) h3
    · rw [runC_1 k, runC_1 k]
      exact runC_app (st := vs q.2 :: st) h3
    · obtain ⟨b, a, s, rfl⟩ := len2 h2
      rw [runC_2 k, show (b :: a :: s) ++ t = b :: a :: (s ++ t) from rfl, runC_2 k]
      by_cases hz : q.1 = 5 ∧ b = 0
      · rw [if_pos hz, if_pos hz]
        rfl
      · rw [if_neg hz, if_neg hz]
        exact runC_app (st := opC q.1 a b :: s) h3
theorem termOf_loop {d e : Nat} (he : e ≤ 840) : ∀ (cs : List Cd) (c : Nat) (st : List Int32) (μ : Mem), mCodes μ c cs → wfC cs st.length 1 → st.length ≤ 32 → stk (μ.1 32) st → c + cs.length = e →
    ∃ x μ', X10_termOf_at5 d (nI e) (nI st.length) (nI c) μ x μ' ∧ Kp fT μ μ' ∧ (∀ s, runC (μ.1 31) cs st = some s → s = [x] ∧ μ'.1 0 49 = μ.1 0 49) ∧ (runC (μ.1 31) cs st = none → μ'.1 0 49 = 1)
  | [], c, st, μ, _, hw, _, hs, hc => by
    have hc : c = e := hc
    subst hc
    obtain ⟨x, rfl⟩ := len1 hw
    refine ⟨x, μ, X10_termOf_at5_ok (tpos (nI_le (Nat.le_refl _) (by omega)) ⟨?_, rfl⟩), Kp.refl, fun s h => ?_, fun h => ?_⟩
    · exact hs.1.symm
    · cases h
      exact ⟨rfl, rfl⟩
    · cases h
  | q :: r, c, st, μ, hm, hw, hl, hs, hc => by
    have hc : c + (r.length + 1) = e := hc
    obtain ⟨hk, hv, hm⟩ := hm
    have hn : ¬ nI e ≤ nI c := nI_ge (by omega) (by omega)
    have hin : vp_in (nI c) 840 := vp_inN (by omega) (by decide)
    have cl : (nI c).toNatClampNeg = c := nI_clamp (by omega)
    have cst : (nI st.length).toNatClampNeg = st.length := nI_clamp (by omega)
    have ihp : ∀ y : Int32, wfC r (st.length + 1) 1 → st.length < 32 → ∃ x μ', X10_termOf_at5 d (nI e) (nI st.length + 1) (nI c + 1) (sI μ 32 st.length y) x μ' ∧ Kp fT μ μ' ∧ (∀ s, runC (μ.1 31) r (y :: st) = some s → s = [x] ∧ μ'.1 0 49 = μ.1 0 49) ∧ (runC (μ.1 31) r (y :: st) = none → μ'.1 0 49 = 1) := by
      intro y hw' hlt
      obtain ⟨x, μ', h1, h2, h3, h4⟩ := termOf_loop (d := d) he r (c + 1) (y :: st) (sI μ 32 st.length y) (hm.of (sI_n (by decide)) (sI_n (by decide))) hw' (by show st.length + 1 ≤ 32; omega) (by unfold sI; rw [sA_1]; exact stk_push hs) (by omega)
      rw [sI_n (show 31 ≠ 32 by decide), sI_n (show 0 ≠ 32 by decide)] at h3
      rw [sI_n (show 31 ≠ 32 by decide)] at h4
      rw [nI_succ] at h1
      rw [show (y :: st).length = st.length + 1 from rfl, nI_succ] at h1
      exact ⟨x, μ', h1, (Kp.sI rfl).trans h2, h3, h4⟩
    rcases wfC_len hw with ⟨k0, hlt, hv9, hw'⟩ | ⟨k1, hlt, hv9, hw'⟩ | ⟨k2, k5, hl2, hw'⟩
    · obtain ⟨x, μ', h1, h2, h3, h4⟩ := ihp (nI q.2) hw' hlt
      rw [runC_0 k0]
      refine ⟨x, μ', X10_termOf_at5_ok (tneg hn ⟨hin, ?_⟩), h2, h3, h4⟩
      rw [cl, hk, k0, cst, hv]
      exact tneg (by decide) (teq rfl ⟨hin, vp_inN (by omega) (by decide), fun μ1 e1 => e1 ▸ h1⟩)
    · obtain ⟨x, μ', h1, h2, h3, h4⟩ := ihp (μ.1 31 q.2) hw' hlt
      rw [runC_1 k1]
      refine ⟨x, μ', X10_termOf_at5_ok (tneg hn ⟨hin, ?_⟩), h2, h3, h4⟩
      rw [cl, hk, k1, cst, hv, nI_clamp (show q.2 < 2 ^ 31 by omega)]
      exact tneg (by decide) (tne (by decide) ⟨hin, vp_inN (by omega) (by decide), vp_inN (by omega) (by decide), fun μ1 e1 => e1 ▸ h1⟩)
    · obtain ⟨b, a, s, rfl⟩ := len2 hl2
      have hl' : s.length + 2 ≤ 32 := hl
      obtain ⟨hb, ha, hs⟩ := hs
      have hb : μ.1 32 (s.length + 1) = b := hb
      have e1 : nI (b :: a :: s).length + (-1) = nI (s.length + 1) := nI_dec (by show 0 < s.length + 2; omega)
      have e2 : nI (s.length + 1) - 1 = nI s.length := nI_pred _
      rw [runC_2 k2]
      have hkI : 2 ≤ nI q.1 := by
        rw [show (2 : Int32) = nI 2 from rfl]
        exact nI_le k2 (by omega)
      have ihp : ∀ y : Int32, ∃ x μ', X10_termOf_at5 d (nI e) (nI (s.length + 1)) (nI c + 1) (sI μ 32 s.length y) x μ' ∧ Kp fT μ μ' ∧ (∀ s', runC (μ.1 31) r (y :: s) = some s' → s' = [x] ∧ μ'.1 0 49 = μ.1 0 49) ∧ (runC (μ.1 31) r (y :: s) = none → μ'.1 0 49 = 1) := by
        intro y
        obtain ⟨x, μ', h1, h2, h3, h4⟩ := termOf_loop (d := d) he r (c + 1) (y :: s) (sI μ 32 s.length y) (hm.of (sI_n (by decide)) (sI_n (by decide))) hw' (by show s.length + 1 ≤ 32; omega) (by unfold sI; rw [sA_1]; exact stk_push hs) (by omega)
        rw [sI_n (show 31 ≠ 32 by decide), sI_n (show 0 ≠ 32 by decide)] at h3
        rw [sI_n (show 31 ≠ 32 by decide)] at h4
        rw [nI_succ c] at h1
        exact ⟨x, μ', h1, (Kp.sI rfl).trans h2, h3, h4⟩
      have v1 : vp_in (nI s.length) 400 := vp_inN (by omega) (by decide)
      have v2 : vp_in (nI (s.length + 1)) 400 := vp_inN (by omega) (by decide)
      have c1 : (nI s.length).toNatClampNeg = s.length := nI_clamp (by omega)
      have c2 : (nI (s.length + 1)).toNatClampNeg = s.length + 1 := nI_clamp (by omega)
      have hqs : q.1 = 2 ∨ q.1 = 3 ∨ q.1 = 4 ∨ q.1 = 5 := by omega
      by_cases hz : q.1 = 5 ∧ b = 0
      · rw [if_pos hz]
        refine ⟨0, sI μ 0 49 1, X10_termOf_at5_ok (tneg hn ⟨hin, ?_⟩), Kp.sI rfl, fun s h => (by cases h), fun _ => sI_1⟩
        rw [e1, e2, cl, c1, c2, hk, hb, hz.1, hz.2]
        exact tpos (by decide) ⟨v1, v2, teq rfl (teq rfl fun μ1 e => ⟨rfl, e.symm⟩)⟩
      · rw [if_neg hz]
        obtain ⟨x, μ', h1, h2, h3, h4⟩ := ihp (opC q.1 a b)
        refine ⟨x, μ', X10_termOf_at5_ok (tneg hn ⟨hin, ?_⟩), h2, h3, h4⟩
        rw [e1, e2, cl, c1, c2, hk, hb, ha]
        refine tpos hkI ⟨v1, v2, ?_⟩
        rcases hqs with k | k | k | k
        · rw [k] at h1 ⊢
          exact tne (by decide) (teq rfl ⟨v1, fun μ1 e => e ▸ h1⟩)
        · rw [k] at h1 ⊢
          exact tne (by decide) (tne (by decide) (teq rfl ⟨v1, fun μ1 e => e ▸ h1⟩))
        · rw [k] at h1 ⊢
          exact tne (by decide) (tne (by decide) (tne (by decide) (teq rfl ⟨v1, fun μ1 e => e ▸ h1⟩)))
        · rw [k] at h1 ⊢
          have hb0 : b ≠ 0 := fun z => hz ⟨k, z⟩
          exact teq rfl (tne hb0 (tne (by decide) (tne (by decide) (tne (by decide) ⟨hb0, v1, fun μ1 e => e ▸ h1⟩))))
theorem termOf_s {d : Nat} {cs : List Cd} {c e : Nat} {μ : Mem} (he : e ≤ 840) (hm : mCodes μ c cs) (hw : wfD 31 cs 0 1) (hc : c + cs.length = e) :
    ∃ x μ', X10_termOf d (nI c) (nI e) μ x μ' ∧ Kp fT μ μ' ∧ (∀ w, valC (μ.1 31) cs = some w → x = w ∧ μ'.1 0 49 = μ.1 0 49) ∧ (valC (μ.1 31) cs = none → μ'.1 0 49 = 1) := by
  obtain ⟨x, μ', h1, h2, h3, h4⟩ := termOf_loop (d := d) he cs c [] μ hm (wfC_of hw) (by decide) trivial hc
  refine ⟨x, μ', X10_termOf_ok h1, h2, fun w h => ?_, fun h => ?_⟩
  · unfold valC at h
    cases hr : runC (μ.1 31) cs [] with
    | none => rw [hr] at h; cases h
    | some s =>
      rw [hr] at h
      obtain ⟨rfl, h5⟩ := h3 s hr
      cases h
      exact ⟨rfl, h5⟩
  · unfold valC at h
    cases hr : runC (μ.1 31) cs [] with
    | none => exact h4 hr
    | some s =>
      rw [hr] at h
      obtain ⟨rfl, h5⟩ := h3 s hr
      cases h
/-- a branch of a law, as the model keeps it -/
def mTest (μ : Mem) (b t : Nat) (o : Option (List Cd × List Cd)) : Prop := match o with
  | none => μ.1 23 b = 0
  | some (u, v) => μ.1 23 b = 1 ∧ ∃ f m : Nat, μ.1 24 b = nI f ∧ μ.1 25 b = nI m ∧ mCodes μ f u ∧ f + u.length = m ∧ mCodes μ m v ∧ m + v.length = t
def mBr (μ : Mem) (b : Nat) (q : Br) : Prop := ∃ t e : Nat, μ.1 26 b = nI t ∧ μ.1 27 b = nI e ∧ mCodes μ t q.2 ∧ t + q.2.length = e ∧ e ≤ 840 ∧ mTest μ b t q.1
def mLaw (μ : Mem) : Nat → Lw → Prop
  | _, [] => True
  | b, q :: r => mBr μ b q ∧ mLaw μ (b + 1) r
/-- the cells of the model that hold what a text told -/
def samePlan (μ μ' : Mem) : Prop := ∀ a, 9 ≤ a → a ≤ 29 → μ'.1 a = μ.1 a
theorem mBr.of {μ μ' : Mem} (h : samePlan μ μ') {b : Nat} {q : Br} (k : mBr μ b q) : mBr μ' b q := by
  obtain ⟨t, e, h1, h2, h3, h4, h5, h6⟩ := k
  have c : ∀ {cs : List Cd} {f : Nat}, mCodes μ f cs → mCodes μ' f cs := fun z => z.of (h 28 (by decide) (by decide)) (h 29 (by decide) (by decide))
  refine ⟨t, e, by rw [h 26 (by decide) (by decide)]; exact h1, by rw [h 27 (by decide) (by decide)]; exact h2, c h3, h4, h5, ?_⟩
  match hq : q.1, h6 with
  | none, h6 => exact (congrFun (h 23 (by decide) (by decide)) b).trans h6
  | some (u, v), h6 =>
    obtain ⟨k1, f, m, k2, k3, k4, k5, k6, k7⟩ := h6
    exact ⟨(congrFun (h 23 (by decide) (by decide)) b).trans k1, f, m, (congrFun (h 24 (by decide) (by decide)) b).trans k2, (congrFun (h 25 (by decide) (by decide)) b).trans k3, c k4, k5, c k6, k7⟩
theorem mLaw.of {μ μ' : Mem} (h : samePlan μ μ') : ∀ {L : Lw} {b : Nat}, mLaw μ b L → mLaw μ' b L
  | [], _, _ => trivial
  | _ :: _, _, k => ⟨k.1.of h, mLaw.of h k.2⟩
theorem fT_plan {μ μ' : Mem} (h : Kp fT μ μ') : samePlan μ μ' := fun a h1 h2 => h.row fun k => by
  have : (a == 32) = false := by simp; omega
  have t : (a == 0) = false := by simp; omega
  simp [fT, this, t]
/-- how the model bounds what a law tells -/
def endA (most : Nat) (o : Option Int32) : Nat := (o.map fun w => clampI w most).getD 0
theorem mEnd {most : Nat} {x f w : Int32} {o : Option Int32} {μ1 μ' : Mem} (hm : most < 2 ^ 31) (hs : ∀ v, o = some v → w = v ∧ f = 0) (hn : o = none → f = 1) (hx : x = nI (endA most o)) (hμ : μ' = μ1) :
    ((f ≠ 0 → (x = 0 ∧ μ' = μ1)) ∧ (f = 0 → ((0 ≤ w → ((w ≤ nI most → (x = w ∧ μ' = μ1)) ∧ (¬ w ≤ nI most → (x = nI most ∧ μ' = μ1)))) ∧ (¬ 0 ≤ w → (x = 0 ∧ μ' = μ1))))) := by
  cases o with
  | none =>
    have h := hn rfl
    exact tne (by rw [h]; decide) ⟨hx, hμ⟩
  | some v =>
    obtain ⟨rfl, h⟩ := hs v rfl
    have hx : x = nI (clampI w most) := hx
    refine teq h ⟨fun p => ?_, fun p => ?_⟩
    · have np : ¬ w < 0 := i_le_nlt p
      refine ⟨fun q => ⟨?_, hμ⟩, fun q => ⟨?_, hμ⟩⟩
      · rw [hx, clampI, if_neg np, if_neg (i_le_nlt q)]
        exact nJ_of p
      · rw [hx, clampI, if_neg np, if_pos (i_nle q)]
    · rw [hx, clampI, if_pos (i_nle p)]
      exact ⟨rfl, hμ⟩
theorem asks_loop {d at4 most last : Nat} (h4 : at4 < 6) (hl : last ≤ 260) (hmo : most < 2 ^ 31) : ∀ (L : Lw) (b : Nat) (μ : Mem), wfL L → mLaw μ b L → b + L.length = last → μ.1 22 at4 = nI last → μ.1 0 49 = 0 →
    ∃ x μ', X10_asks_at43 d (nI most) (nI at4) (nI b) μ x μ' ∧ Kp fT μ μ' ∧ x = nI (endA most (askL (μ.1 31) L))
  | [], b, μ, hw, _, _, _, _ => hw.elim
  | (o, w) :: r, b, μ, hw, hm, hb, hla, hf => by
    have hb : b + (r.length + 1) = last := hb
    obtain ⟨⟨t, e, h26, h27, hcw, het, he, hte⟩, hr⟩ := hm
    have v4 : vp_in (nI at4) 6 := vp_inN h4 (by decide)
    have c4 : (nI at4).toNatClampNeg = at4 := nI_clamp (by omega)
    have vb : vp_in (nI b) 260 := vp_inN (by omega) (by decide)
    have cb : (nI b).toNatClampNeg = b := nI_clamp (by omega)
    have hn : ¬ nI last ≤ nI b := nI_ge (by omega) (by omega)
    match o, hw, hte with
    | none, hw, hte =>
      obtain ⟨y, μ1, h1, h2, h3, h5⟩ := termOf_s (d := d) he hcw hw.1 het
      refine ⟨_, μ1, X10_asks_at43_ok ⟨v4, ?_⟩, h2, rfl⟩
      rw [c4, cb, hla]
      refine tneg hn ⟨vb, tpos hte ⟨vb, vb, y, μ1, by rw [h26, h27]; exact h1, mEnd hmo (fun v hv => ⟨(h3 v hv).1, (h3 v hv).2.trans hf⟩) h5 rfl rfl⟩⟩
    | some (u, v), hw, hte =>
      obtain ⟨h23, f, m, h24, h25, hcu, hfu, hcv, hmv⟩ := hte
      obtain ⟨wu, wv, ww, wr⟩ := hw
      obtain ⟨y1, μ1, a1, a2, a3, a4⟩ := termOf_s (d := d) (e := m) (by omega) hcu wu hfu
      have p1 := fT_plan a2
      have e31 : μ1.1 31 = μ.1 31 := a2.row fun _ => rfl
      obtain ⟨y2, μ2, b1, b2, b3, b4⟩ := termOf_s (d := d) (e := t) (by omega) (hcv.of (p1 28 (by decide) (by decide)) (p1 29 (by decide) (by decide))) wv hmv
      rw [e31] at b3 b4
      have a2b := a2.trans b2
      have p2 := fT_plan a2b
      have e31b : μ2.1 31 = μ.1 31 := a2b.row fun _ => rfl
      have key : ∀ x μ', ((μ2.1 0 49 = 0 → ((y1 < y2 → vp_in (nI b) 260 ∧ vp_in (nI b) 260 ∧ (∃ (y12 : Int32) (μ10 : Mem), X10_termOf d (μ2.1 26 b) (μ2.1 27 b) μ2 y12 μ10 ∧ (((μ10.1 0 49) ≠ 0 → (x = 0 ∧ μ' = μ10)) ∧ ((μ10.1 0 49) = 0 → ((0 ≤ y12 → ((y12 ≤ nI most → (x = y12 ∧ μ' = μ10)) ∧ (¬ y12 ≤ nI most → (x = nI most ∧ μ' = μ10)))) ∧ (¬ 0 ≤ y12 → (x = 0 ∧ μ' = μ10))))))) ∧ (¬ y1 < y2 → X10_asks_at43 d (nI most) (nI at4) (nI b + 1) μ2 x μ'))) ∧ (¬ (μ2.1 0 49) = 0 → (x = 0 ∧ μ' = μ2))) → X10_asks_at43 d (nI most) (nI at4) (nI b) μ x μ' := by
        intro x μ' hk
        refine X10_asks_at43_ok ⟨v4, ?_⟩
        rw [c4, cb, hla]
        exact tneg hn ⟨vb, tneg (by rw [h23]; decide) ⟨vb, vb, y1, μ1, by rw [h24, h25]; exact a1, vb, vb, y2, μ2, by rw [p1 25 (by decide) (by decide), p1 26 (by decide) (by decide), h25, h26]; exact b1, hk⟩⟩
      have brk : μ2.1 0 49 = 1 → askL (μ.1 31) ((some (u, v), w) :: r) = none → ∃ x μ', X10_asks_at43 d (nI most) (nI at4) (nI b) μ x μ' ∧ Kp fT μ μ' ∧ x = nI (endA most (askL (μ.1 31) ((some (u, v), w) :: r))) := by
        intro h9 hz
        refine ⟨0, μ2, key 0 μ2 (tneg (by rw [h9]; decide) ⟨rfl, rfl⟩), a2b, ?_⟩
        rw [hz]
        rfl
      cases hu : valC (μ.1 31) u with
      | none =>
        have n1 := a4 hu
        refine brk ?_ (by unfold askL; rw [hu]; rfl)
        cases hv : valC (μ.1 31) v with
        | none => exact b4 hv
        | some z => exact (b3 z hv).2.trans n1
      | some a =>
        have n1 := a3 a hu
        cases hv : valC (μ.1 31) v with
        | none => exact brk (b4 hv) (by unfold askL; rw [hu, hv]; rfl)
        | some c =>
          have n2 := b3 c hv
          have f2 : μ2.1 0 49 = 0 := n2.2.trans (n1.2.trans hf)
          have ea : askL (μ.1 31) ((some (u, v), w) :: r) = if a < c then valC (μ.1 31) w else askL (μ.1 31) r := by
            show (valC (μ.1 31) u).bind _ = _
            rw [hu, hv]
            rfl
          rw [ea]
          by_cases hlt : a < c
          · rw [if_pos hlt]
            obtain ⟨y3, μ3, c1, c2, c3, c5⟩ := termOf_s (d := d) (μ := μ2) he (hcw.of (p2 28 (by decide) (by decide)) (p2 29 (by decide) (by decide))) ww het
            rw [e31b] at c3 c5
            refine ⟨_, μ3, key _ _ (tpos f2 (tpos (by rw [n1.1, n2.1]; exact hlt) ⟨vb, vb, y3, μ3, by rw [p2 26 (by decide) (by decide), p2 27 (by decide) (by decide), h26, h27]; exact c1, mEnd hmo (fun v hv => ⟨(c3 v hv).1, (c3 v hv).2.trans f2⟩) c5 rfl rfl⟩)), a2b.trans c2, rfl⟩
          · rw [if_neg hlt]
            obtain ⟨x, μ', d1, d2, d3⟩ := asks_loop (d := d) h4 hl hmo r (b + 1) μ2 wr (hr.of p2) (by omega) ((congrFun (p2 22 (by decide) (by decide)) at4).trans hla) f2
            rw [e31b] at d3
            rw [nI_succ] at d1
            exact ⟨x, μ', key _ _ (tpos f2 (tneg (by rw [n1.1, n2.1]; exact hlt) d1)), a2b.trans d2, d3⟩
/-- where a law of the live side lies -/
def mReg (μ : Mem) (b : Nat) (L : Lw) : Prop := 130 * mL μ ≤ b ∧ b + L.length ≤ 130 * mL μ + 130 ∧ ∀ j, j < L.length → ∃ f e, 420 * mL μ ≤ f ∧ f ≤ e ∧ e ≤ 420 * mL μ + 420 ∧ μ.1 27 (b + j) = nI e ∧ (μ.1 23 (b + j) = 0 → μ.1 26 (b + j) = nI f) ∧ (μ.1 23 (b + j) = 1 → μ.1 24 (b + j) = nI f)
/-- law number k (0 weaves, 1 dries, 2 gathers) of the side that is live -/
def mLawAt (μ : Mem) (k : Nat) (L : Lw) : Prop := ∃ b : Nat, μ.1 21 (3 * mL μ + k) = nI b ∧ μ.1 22 (3 * mL μ + k) = nI (b + L.length) ∧ b + L.length ≤ 260 ∧ mLaw μ b L ∧ (L = [] ∨ wfL L) ∧ (L = [] ∨ mReg μ b L)
theorem asks_s {d k pl most : Nat} {L : Lw} {μ : Mem} (hk : k < 3) (hmo : most < 2 ^ 31) (hl : vp_in (μ.1 0 18) 2) (hL : mLawAt μ k L) :
    ∃ μ', X10_asks (d + 1) (nI k) (nI pl) (nI most) μ (nI (askA (μ.1 31) pl most L)) μ' ∧ Kp fT μ μ' := by
  obtain ⟨b, h1, h2, h3, h4, h5, _⟩ := hL
  obtain ⟨i, hi, hi2⟩ := vp_nI hl
  have hmL : mL μ = i := by unfold mL; rw [hi2]; exact nI_clamp (by omega)
  rw [hmL] at h1 h2
  have ex : 3 * μ.1 0 18 + nI k = nI (3 * i + k) := by
    rw [hi2, show (3 : Int32) = nI 3 from rfl, nI_mul, nJ_add]
  have v6 : vp_in (nI (3 * i + k)) 6 := vp_inN (by omega) (by decide)
  have c6 : (nI (3 * i + k)).toNatClampNeg = 3 * i + k := nI_clamp (by omega)
  rcases h5 with rfl | h5
  · refine ⟨μ, X10_asks_ok ?_, Kp.refl⟩
    rw [ex, c6, h1, h2]
    exact ⟨v6, v6, teq rfl ⟨rfl, rfl⟩⟩
  · have hne : L ≠ [] := by rintro rfl; exact h5
    have hlen : 0 < L.length := List.length_pos_iff.mpr hne
    obtain ⟨x, μ', k1, k2, k3⟩ := asks_loop (d := d) (at4 := 3 * i + k) (most := most) (last := b + L.length) (by omega) h3 hmo L b (sI μ 0 49 0) h5 (h4.of (fun a q1 q2 => sI_n (by omega))) rfl (by rw [sI_n (by decide)]; exact h2) sI_1
    rw [sI_n (show 31 ≠ 0 by decide)] at k3
    have hx : nI (askA (μ.1 31) pl most L) = x := by
      unfold askA
      rw [if_neg hne, k3]
      rfl
    refine ⟨μ', X10_asks_ok ?_, (Kp.sI rfl).trans k2⟩
    rw [ex, c6, h1, h2, hx]
    refine ⟨v6, v6, tne (fun z => ?_) (fun μ1 e1 => ⟨v6, ?_⟩)⟩
    · have := nI_inj (by omega) (by omega) z
      omega
    · subst e1
      rw [sI_n (show 21 ≠ 0 by decide), h1]
      exact k1
