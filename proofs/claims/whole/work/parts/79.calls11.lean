/-! ===== calls: serve ===== -/
section Calls
variable {d n : Nat}
def narA (P : Pl) : Nat → Nat
  | 0 => 8
  | l + 1 => min (narA P l) (pWi P l)
theorem narA_iff {P : Pl} {w : Nat} : ∀ k, w ≤ narA P k ↔ w ≤ 8 ∧ ∀ l, l < k → w ≤ pWi P l
  | 0 => ⟨fun h => ⟨h, fun l hl => by omega⟩, fun h => h.1⟩
  | k + 1 => by
    show w ≤ min (narA P k) (pWi P k) ↔ _
    rw [Nat.le_min, narA_iff k]
    constructor
    · rintro ⟨⟨h1, h2⟩, h3⟩
      refine ⟨h1, fun l hl => ?_⟩
      by_cases e : l = k
      · rw [e]; exact h3
      · exact h2 l (by omega)
    · rintro ⟨h1, h2⟩
      exact ⟨⟨h1, fun l hl => h2 l (by omega)⟩, h2 k (by omega)⟩
theorem narA_le {P : Pl} : ∀ k, narA P k ≤ 8 := fun k => ((narA_iff (w := narA P k) k).mp (Nat.le_refl _)).1
theorem narrowest_c {P : Pl} {p : Nat} {μ : Mem} (hC : CP P p μ) : ∀ (m l : Nat), l + m = pL P → X3_narrowest_at5 d p (nI (narA P l)) (nI l) μ (nI (narA P (pL P))) μ
  | 0, l, hl => by
    have hl : l = pL P := hl
    subst hl
    have h4 := hC.1.2.2.2.1
    refine X3_narrowest_at5_ok ?_
    rw [hC.num.2.2.2.1]
    exact tpos (nI_le (Nat.le_refl _) (by omega)) ⟨rfl, rfl⟩
  | m + 1, l, hl => by
    have h4 := hC.1.2.2.2.1
    have ih := narrowest_c hC m (l + 1) (by omega)
    have w8 := (hC.1.2.2.2.2.2.2.2.2.2.1 l (by omega)).2.1
    have n8 := narA_le (P := P) l
    rw [nI_succ, show narA P (l + 1) = min (narA P l) (pWi P l) from rfl] at ih
    refine X3_narrowest_at5_ok ?_
    rw [hC.num.2.2.2.1, nI_clamp (by omega), (hC.loo (show l < pL P by omega)).1, mn_nI (by omega) (by omega)]
    exact tneg (nI_ge (by omega) (by omega)) ⟨vp_inN (by omega) (by decide), ih⟩
/-- bits of what is taken -/
theorem bt1 : ∀ M, M < 64 → ∀ f, f < 6 → (nI M >>> (nI f &&& 31)) &&& 1 = nI (M / 2 ^ f % 2) := by decide +kernel
theorem bt2 : ∀ M, M < 64 → ∀ f, f < 6 → nI M ||| (1 <<< (nI f &&& 31)) = nI (M ||| 2 ^ f) ∧ M ||| 2 ^ f < 64 := by decide +kernel
theorem bt3 : ∀ M, M < 64 → ∀ f, f < 6 → ∀ g, g < 6 → (M ||| 2 ^ f) / 2 ^ g % 2 = if f = g then 1 else M / 2 ^ g % 2 := by decide +kernel
def sumDn (D off : Nat → Nat) : Nat → Nat → Nat → Option Nat
  | 0, _, S => some S
  | k + 1, M, S => if M / 2 ^ D k % 2 = 1 then none else sumDn D off k (M ||| 2 ^ D k) (S + off k)
def sumUp (F : Nat) (D off : Nat → Nat) : Nat → Nat → Nat → Nat → Option Nat
  | 0, _, _, S => some S
  | m + 1, l, M, S => if D l < F then (if M / 2 ^ D l % 2 = 1 then none else sumUp F D off m (l + 1) (M ||| 2 ^ D l) (S + off l)) else none
def sumW (off : Nat → Nat) : Nat → Nat → Nat
  | 0, _ => 0
  | m + 1, l => off l + sumW off m (l + 1)
theorem sumW_A {off : Nat → Nat} : ∀ m l, sumW off (m + 1) l = sumW off m l + off (l + m)
  | 0, l => by show off l + 0 = 0 + off l; omega
  | m + 1, l => by
    show off l + sumW off (m + 1) (l + 1) = off l + sumW off m (l + 1) + off (l + (m + 1))
    rw [sumW_A m (l + 1), show l + 1 + m = l + (m + 1) by omega]
    omega
theorem bz {M f : Nat} (h : ¬ M / 2 ^ f % 2 = 1) : M / 2 ^ f % 2 = 0 := by
  have := Nat.mod_lt (M / 2 ^ f) (show 0 < 2 by decide)
  omega
theorem sumDn_some {D off : Nat → Nat} (hD : ∀ j, D j < 6) : ∀ k M S, M < 64 → (∀ j, j < k → M / 2 ^ D j % 2 = 0) → (∀ a b, a < b → b < k → D a ≠ D b) → sumDn D off k M S = some (S + sumW off k 0)
  | 0, M, S, _, _, _ => by show some S = some (S + 0); rfl
  | k + 1, M, S, hM, h1, h2 => by
    have z := h1 k (by omega)
    rw [sumDn, if_neg (by omega), sumDn_some hD k _ _ (bt2 M hM (D k) (hD k)).2 (fun j hj => ?_) (fun a b q1 q2 => h2 a b q1 (by omega)), sumW_A, Nat.zero_add]
    · congr 1
      omega
    · rw [bt3 M hM (D k) (hD k) (D j) (hD j), if_neg (fun q => h2 j k hj (by omega) q.symm)]
      exact h1 j (by omega)
theorem sumDn_none {D off : Nat → Nat} (hD : ∀ j, D j < 6) : ∀ k M S, M < 64 → ((∃ j, j < k ∧ M / 2 ^ D j % 2 = 1) ∨ ∃ a b, a < b ∧ b < k ∧ D a = D b) → sumDn D off k M S = none
  | 0, M, S, _, h => by
    rcases h with ⟨j, hj, _⟩ | ⟨a, b, _, hb, _⟩
    · omega
    · omega
  | k + 1, M, S, hM, h => by
    rw [sumDn]
    by_cases z : M / 2 ^ D k % 2 = 1
    · rw [if_pos z]
    · rw [if_neg z]
      refine sumDn_none hD k _ _ (bt2 M hM (D k) (hD k)).2 ?_
      rcases h with ⟨j, hj, q⟩ | ⟨a, b, h1, h2, q⟩
      · left
        have hne : j ≠ k := fun e => z (e ▸ q)
        refine ⟨j, by omega, ?_⟩
        rw [bt3 M hM (D k) (hD k) (D j) (hD j)]
        split
        · rfl
        · exact q
      · by_cases e : b = k
        · left
          refine ⟨a, by omega, ?_⟩
          rw [bt3 M hM (D k) (hD k) (D a) (hD a), if_pos (by rw [← e, q])]
        · right
          exact ⟨a, b, h1, by omega, q⟩
theorem sumUp_some {F : Nat} {D off : Nat → Nat} (hD : ∀ j, D j < 6) : ∀ m l M S, M < 64 → (∀ j, l ≤ j → j < l + m → D j < F) → (∀ j, l ≤ j → j < l + m → M / 2 ^ D j % 2 = 0) → (∀ a b, l ≤ a → a < b → b < l + m → D a ≠ D b) → sumUp F D off m l M S = some (S + sumW off m l)
  | 0, l, M, S, _, _, _, _ => by show some S = some (S + 0); rfl
  | m + 1, l, M, S, hM, h0, h1, h2 => by
    have z := h1 l (by omega) (by omega)
    rw [sumUp, if_pos (h0 l (by omega) (by omega)), if_neg (by omega), sumUp_some hD m (l + 1) _ _ (bt2 M hM (D l) (hD l)).2 (fun j q1 q2 => h0 j (by omega) (by omega)) (fun j q1 q2 => ?_) (fun a b q0 q1 q2 => h2 a b (by omega) q1 (by omega))]
    · congr 1
      show S + off l + sumW off m (l + 1) = S + (off l + sumW off m (l + 1))
      omega
    · rw [bt3 M hM (D l) (hD l) (D j) (hD j), if_neg (h2 l j (by omega) (by omega) (by omega))]
      exact h1 j (by omega) (by omega)
theorem sumUp_none {F : Nat} {D off : Nat → Nat} (hD : ∀ j, D j < 6) : ∀ m l M S, M < 64 → ((∃ j, l ≤ j ∧ j < l + m ∧ ¬ D j < F) ∨ (∃ j, l ≤ j ∧ j < l + m ∧ M / 2 ^ D j % 2 = 1) ∨ ∃ a b, l ≤ a ∧ a < b ∧ b < l + m ∧ D a = D b) → sumUp F D off m l M S = none
  | 0, l, M, S, _, h => by
    rcases h with ⟨j, h1, h2, _⟩ | ⟨j, h1, h2, _⟩ | ⟨a, b, h1, h2, h3, _⟩ <;> omega
  | m + 1, l, M, S, hM, h => by
    rw [sumUp]
    by_cases y : D l < F
    · rw [if_pos y]
      by_cases z : M / 2 ^ D l % 2 = 1
      · rw [if_pos z]
      · rw [if_neg z]
        refine sumUp_none hD m (l + 1) _ _ (bt2 M hM (D l) (hD l)).2 ?_
        rcases h with ⟨j, h1, h2, q⟩ | ⟨j, h1, h2, q⟩ | ⟨a, b, h0, h1, h2, q⟩
        · have hne : j ≠ l := fun e => q (e ▸ y)
          exact Or.inl ⟨j, by omega, by omega, q⟩
        · have hne : j ≠ l := fun e => z (e ▸ q)
          refine Or.inr (Or.inl ⟨j, by omega, by omega, ?_⟩)
          rw [bt3 M hM (D l) (hD l) (D j) (hD j)]
          split
          · rfl
          · exact q
        · by_cases e : a = l
          · refine Or.inr (Or.inl ⟨b, by omega, by omega, ?_⟩)
            rw [bt3 M hM (D l) (hD l) (D b) (hD b), if_pos (by rw [← e, q])]
          · exact Or.inr (Or.inr ⟨a, b, by omega, h1, by omega, q⟩)
    · rw [if_neg y]
theorem sum_same {F L : Nat} {D off : Nat → Nat} (hD : ∀ j, D j < 6) (hF : ∀ j, j < L → D j < F) : sumDn D off L 0 0 = sumUp F D off L 0 0 0 := by
  have z : ∀ f, 0 / 2 ^ f % 2 = 0 := fun f => by rw [Nat.zero_div]
  rcases Classical.em (∃ a b, a < b ∧ b < L ∧ D a = D b) with ⟨a, b, h1, h2, h3⟩ | h
  · rw [sumDn_none hD L 0 0 (by decide) (Or.inr ⟨a, b, h1, h2, h3⟩), sumUp_none hD L 0 0 0 (by decide) (Or.inr (Or.inr ⟨a, b, Nat.zero_le _, h1, by omega, h3⟩))]
  · rw [sumDn_some hD L 0 0 (by decide) (fun _ _ => z _) (fun a b h1 h2 h3 => h ⟨a, b, h1, h2, h3⟩), sumUp_some hD L 0 0 0 (by decide) (fun j _ q => hF j (by omega)) (fun _ _ _ => z _) (fun a b _ h1 h2 h3 => h ⟨a, b, h1, by omega, h3⟩)]
/-- digits in both numbers -/
def dgOK (F way : Nat) : Nat → Bool
  | 0 => true
  | k + 1 => dgOK F way k && decide (way / 6 ^ k % 6 < F)
def dgEq (F way s : Nat) : Nat → Bool
  | 0 => true
  | k + 1 => dgEq F way s k && decide (s / F ^ k % F = way / 6 ^ k % 6)
def chkL (F L : Nat) : Nat → Nat → Nat → Bool
  | 0, _, s => s == F ^ L
  | m + 1, way, s => if dgOK F way L then (dgEq F way s L && decide (s < F ^ L)) && chkL F L m (way + 1) (s + 1) else chkL F L m (way + 1) s
theorem chk_all : ∀ L, L < 5 → ∀ F, F < 7 → L ≤ F → chkL F L (6 ^ L) 0 0 = true := by decide +kernel
theorem dgOK_iff {F way : Nat} : ∀ L, dgOK F way L = true ↔ ∀ k, k < L → way / 6 ^ k % 6 < F
  | 0 => ⟨fun _ k hk => by omega, fun _ => rfl⟩
  | L + 1 => by
    rw [dgOK, Bool.and_eq_true, decide_eq_true_iff, dgOK_iff L]
    constructor
    · rintro ⟨h1, h2⟩ k hk
      by_cases e : k = L
      · rw [e]; exact h2
      · exact h1 k (by omega)
    · intro h
      exact ⟨fun k hk => h k (by omega), h L (by omega)⟩
theorem dgEq_iff {F way s : Nat} : ∀ L, dgEq F way s L = true ↔ ∀ k, k < L → s / F ^ k % F = way / 6 ^ k % 6
  | 0 => ⟨fun _ k hk => by omega, fun _ => rfl⟩
  | L + 1 => by
    rw [dgEq, Bool.and_eq_true, decide_eq_true_iff, dgEq_iff L]
    constructor
    · rintro ⟨h1, h2⟩ k hk
      by_cases e : k = L
      · rw [e]; exact h2
      · exact h1 k (by omega)
    · intro h
      exact ⟨fun k hk => h k (by omega), h L (by omega)⟩
/-- the loom's field by a way (base 6) and by a service (base F) -/
def dgW (L way i : Nat) : Nat := way / 6 ^ (L - 1 - i) % 6
def dgS (F L s i : Nat) : Nat := s / F ^ (L - 1 - i) % F
def valW (F L : Nat) (off : Nat → Nat → Nat) (way : Nat) : Option Nat := sumUp F (dgW L way) (fun i => off (dgW L way i) i) L 0 0 0
def valS (F L : Nat) (off : Nat → Nat → Nat) (s : Nat) : Option Nat := sumDn (dgS F L s) (fun i => off (dgS F L s i) i) L 0 0
abbrev Sv : Type := Option (Nat × Nat)
def svStep (v : Option Nat) (at' : Nat) (o : Sv) : Sv := match v with
  | none => o
  | some z => match o with
    | none => some (z, at')
    | some q => if z < q.1 then some (z, at') else some q
def scW (F L : Nat) (off : Nat → Nat → Nat) : Nat → Nat → Sv → Sv
  | 0, _, o => o
  | m + 1, way, o => scW F L off m (way + 1) (svStep (valW F L off way) way o)
def scS (F L : Nat) (off : Nat → Nat → Nat) : Nat → Nat → Sv → Sv
  | 0, _, o => o
  | m + 1, s, o => scS F L off m (s + 1) (svStep (valS F L off s) s o)
def svR (F L : Nat) (o q : Sv) : Prop := match o, q with
  | none, none => True
  | some a, some b => a.1 = b.1 ∧ dgEq F a.2 b.2 L = true
  | _, _ => False
theorem svR_step {F L way s : Nat} {v : Option Nat} {o q : Sv} (h : svR F L o q) (hd : dgEq F way s L = true) : svR F L (svStep v way o) (svStep v s q) := by
  cases v with
  | none => exact h
  | some z =>
    match o, q, h with
    | none, none, _ => exact ⟨rfl, hd⟩
    | some a, some b, h =>
      obtain ⟨h1, h2⟩ := h
      unfold svStep
      dsimp only
      rw [h1]
      by_cases c : z < b.1
      · rw [if_pos c, if_pos c]
        exact ⟨rfl, hd⟩
      · rw [if_neg c, if_neg c]
        exact ⟨h1, h2⟩
theorem val_same {F L way s : Nat} {off : Nat → Nat → Nat} (hF : F ≤ 6) (h1 : dgOK F way L = true) (h2 : dgEq F way s L = true) : valS F L off s = valW F L off way := by
  have e : ∀ i, i < L → dgS F L s i = dgW L way i := fun i hi => (dgEq_iff L).mp h2 (L - 1 - i) (by omega)
  have hF' : ∀ i, i < L → dgW L way i < F := fun i hi => (dgOK_iff L).mp h1 (L - 1 - i) (by omega)
  have hD : ∀ j, dgW L way j < 6 := fun j => Nat.mod_lt _ (by decide)
  have c : ∀ k M S, k ≤ L → sumDn (dgS F L s) (fun i => off (dgS F L s i) i) k M S = sumDn (dgW L way) (fun i => off (dgW L way i) i) k M S := by
    intro k
    induction k with
    | zero => intros; rfl
    | succ k ih =>
      intro M S hk
      rw [sumDn, sumDn, e k (by omega), ih _ _ (by omega)]
  unfold valS valW
  rw [c L 0 0 (Nat.le_refl _), sum_same hD hF']
theorem val_bad {F L way : Nat} {off : Nat → Nat → Nat} (h1 : dgOK F way L = false) : valW F L off way = none := by
  have hD : ∀ j, dgW L way j < 6 := fun j => Nat.mod_lt _ (by decide)
  refine sumUp_none hD L 0 0 0 (by decide) (Or.inl ?_)
  refine Classical.byContradiction fun q => ?_
  have : dgOK F way L = true := (dgOK_iff L).mpr fun k hk => Classical.byContradiction fun z => q ⟨L - 1 - k, Nat.zero_le _, by omega, by
    unfold dgW
    rw [show L - 1 - (L - 1 - k) = k by omega]
    exact z⟩
  rw [h1] at this
  cases this
theorem sc_same {F L : Nat} {off : Nat → Nat → Nat} (hF : F ≤ 6) : ∀ (m way s : Nat) (o q : Sv), chkL F L m way s = true → svR F L o q → ∃ k, s + k = F ^ L ∧ svR F L (scW F L off m way o) (scS F L off k s q)
  | 0, way, s, o, q, h, hr => ⟨0, by rw [chkL] at h; simpa using h, hr⟩
  | m + 1, way, s, o, q, h, hr => by
    rw [chkL] at h
    cases hd : dgOK F way L with
    | true =>
      rw [hd, if_pos rfl, Bool.and_eq_true, Bool.and_eq_true] at h
      obtain ⟨⟨h1, h2⟩, h3⟩ := h
      obtain ⟨k, k1, k2⟩ := sc_same hF m (way + 1) (s + 1) (svStep (valW F L off way) way o) (svStep (valS F L off s) s q) h3 (by
        rw [val_same hF hd h1]
        exact svR_step hr h1)
      exact ⟨k + 1, by omega, k2⟩
    | false =>
      rw [hd] at h
      obtain ⟨k, k1, k2⟩ := sc_same hF m (way + 1) s o q h hr
      refine ⟨k, k1, ?_⟩
      rw [scW, val_bad hd]
      exact k2
theorem scW_some {F L : Nat} {off : Nat → Nat → Nat} : ∀ (m way : Nat) (o : Sv), (o.isSome = true ∨ ∃ u, way ≤ u ∧ u < way + m ∧ (valW F L off u).isSome = true) → (scW F L off m way o).isSome = true
  | 0, way, o, h => by
    rcases h with h | ⟨u, h1, h2, _⟩
    · exact h
    · omega
  | m + 1, way, o, h => by
    rw [scW]
    refine scW_some m (way + 1) _ ?_
    have so : o.isSome = true → (svStep (valW F L off way) way o).isSome = true := by
      intro ho
      unfold svStep
      split
      · exact ho
      · split
        · rfl
        · split <;> rfl
    rcases h with h | ⟨u, h1, h2, h3⟩
    · exact Or.inl (so h)
    · by_cases e : u = way
      · left
        subst e
        unfold svStep
        split
        · rename_i z
          rw [z] at h3
          cases h3
        · split
          · rfl
          · split <;> rfl
      · exact Or.inr ⟨u, by omega, by omega, h3⟩
theorem way0 : ∀ L, L < 5 → ∃ u, u < 6 ^ L ∧ ∀ i, i < L → u / 6 ^ (L - 1 - i) % 6 = i := by
  intro L hL
  match L, hL with
  | 0, _ => exact ⟨0, by decide, by decide⟩
  | 1, _ => exact ⟨0, by decide, by decide⟩
  | 2, _ => exact ⟨1, by decide, by decide⟩
  | 3, _ => exact ⟨8, by decide, by decide⟩
  | 4, _ => exact ⟨51, by decide, by decide⟩
theorem val_ex {F L : Nat} {off : Nat → Nat → Nat} (hL : L < 5) (hLF : L ≤ F) : ∃ u, u < 6 ^ L ∧ (valW F L off u).isSome = true := by
  obtain ⟨u, h1, h2⟩ := way0 L hL
  have hD : ∀ j, dgW L u j < 6 := fun j => Nat.mod_lt _ (by decide)
  have e : ∀ i, i < L → dgW L u i = i := h2
  refine ⟨u, h1, ?_⟩
  unfold valW
  rw [sumUp_some hD L 0 0 0 (by decide) (fun j _ q => by rw [e j (by omega)]; omega) (fun j _ _ => by rw [Nat.zero_div]) (fun a b _ q1 q2 => by rw [e a (by omega), e b (by omega)]; omega)]
  rfl
/-- the class's sum of a service -/
def oI (o : Option Nat) : Int32 := match o with
  | none => -1
  | some z => nI z
section
variable {P : Pl} {p w h : Nat} {r : Nat → Nat}
def offS (P : Pl) (r : Nat → Nat) (w h f l : Nat) : Nat := offA P r w h f l
def SumsC (P : Pl) (r : Nat → Nat) (w h k : Nat) (μ : Mem) : Prop := ∀ l, l < k → μ.1 213 l = nI (heldA P l w (r (48 + l)) (w * h))
theorem pow_le6 {F : Nat} (hF : F ≤ 6) : ∀ k, k ≤ 4 → F ^ k ≤ 1296
  | 0, _ => by rw [Nat.pow_zero]; decide
  | k + 1, hk => Nat.le_trans (Nat.pow_le_pow_left hF (k + 1)) (Nat.le_trans (Nat.pow_le_pow_right (by decide) hk) (by decide))
theorem serviceSum_c {s : Nat} {μ : Mem} (hs : s < 2000) (hw8 : w ≤ 8) (hh : h ≤ 6) (hC : CP P p μ) (hLF : pL P ≤ pF P) (hU : SumsC P r w h (pL P) μ) : ∀ (k M S : Nat), k ≤ pL P → M < 64 → S ≤ 4752 * (pL P - k) → X9_serviceSum_at18 (d + 1) (nI S) (nI M) (nI (s / pF P ^ (pL P - k))) (nI k + (-1)) μ (oI (sumDn (dgS (pF P) (pL P) s) (fun i => offS P r w h (dgS (pF P) (pL P) s i) i) k M S)) μ
  | 0, M, S, hk, hM, hS => X9_serviceSum_at18_ok (tpos (by decide) ⟨rfl, rfl⟩)
  | k + 1, M, S, hk, hM, hS => by
    have pw := hC.1
    have h4 := pw.2.2.2.1
    have h6 := pw.2.2.1
    have hF0 : 0 < pF P := by omega
    have hF6 : pF P < 2 ^ 31 := by omega
    have hsd : s / pF P ^ (pL P - (k + 1)) ≤ s := Nat.div_le_self _ _
    have eD : s / pF P ^ (pL P - (k + 1)) % pF P = dgS (pF P) (pL P) s k := by
      unfold dgS
      rw [show pL P - 1 - k = pL P - (k + 1) by omega]
    have eQ : s / pF P ^ (pL P - (k + 1)) / pF P = s / pF P ^ (pL P - k) := by
      rw [Nat.div_div_eq_div_mul, ← Nat.pow_succ, show (pL P - (k + 1)).succ = pL P - k by omega]
    have hf : dgS (pF P) (pL P) s k < pF P := Nat.mod_lt _ hF0
    have hlt : 0 < k + 1 := by omega
    have ek : nI (k + 1) + (-1) = nI k := nI_dec (a := k + 1) (by omega)
    have b1 := heldA_le (P := P) (l := k) (w := w) (pick := r (48 + k)) (w * h)
    have h48 := wh48 hw8 hh
    have b2 := need_le pw hf
    have ea : ab (nI (heldA P k w (r (48 + k)) (w * h)) - nI (cellsA P (dgS (pF P) (pL P) s k) 48 * pNe P (dgS (pF P) (pL P) s k))) = nI (offS P r w h (dgS (pF P) (pL P) s k) k) := ab_nI (by omega) (by omega)
    have ol := offA_le (r := r) (l := k) pw hw8 hh hf
    obtain ⟨q1, q2⟩ := bt2 M hM (dgS (pF P) (pL P) s k) (by omega)
    have q0 := bt1 M hM (dgS (pF P) (pL P) s k) (by omega)
    refine X9_serviceSum_at18_ok ?_
    rw [hC.ptr0, hC.num.2.2.1, nI_rem (by omega) hF6, nI_div (by omega) hF6, eD, eQ, ek, q0, nI_clamp (by omega), hU k (by omega)]
    refine tneg (nI_pos (by omega)) (tneg (nI_nle hF0 hF6) ⟨nI_ne0 hF0 hF6, nI_ne0 hF0 hF6, ?_⟩)
    rw [sumDn]
    by_cases z : M / 2 ^ dgS (pF P) (pL P) s k % 2 = 1
    · rw [if_pos z, z]
      exact tneg (by decide) ⟨rfl, rfl⟩
    · have z0 := bz z
      rw [if_neg z, z0]
      refine tpos rfl ⟨vp_inN (by omega) (by decide), _, μ, needOf_c hf hC, ?_⟩
      rw [ea, nJ_add, q1]
      exact serviceSum_c hs hw8 hh hC hLF hU k _ _ (by omega) q2 (by unfold offS; omega)
theorem offS_sum {s : Nat} (pw : PW P) (hw8 : w ≤ 8) (hh : h ≤ 6) {F L : Nat} (hF : F ≤ pF P) (hF0 : 0 < F) : ∀ (k M S z : Nat), sumDn (dgS F L s) (fun i => offS P r w h (dgS F L s i) i) k M S = some z → z ≤ S + 4752 * k
  | 0, M, S, z, e => by cases e; omega
  | k + 1, M, S, z, e => by
    rw [sumDn] at e
    split at e
    · cases e
    · have ih := offS_sum pw hw8 hh hF hF0 k _ _ z e
      have hf : dgS F L s k < F := Nat.mod_lt _ hF0
      have := offA_le (r := r) (l := k) (h := h) (w := w) (f := dgS F L s k) pw hw8 hh (by omega)
      unfold offS at ih
      omega
theorem valS_le {s : Nat} (pw : PW P) (hw8 : w ≤ 8) (hh : h ≤ 6) (hLF : pL P ≤ pF P) {z : Nat} (e : valS (pF P) (pL P) (offS P r w h) s = some z) : z ≤ 19008 := by
  have h4 := pw.2.2.2.1
  by_cases h0 : pL P = 0
  · unfold valS at e
    rw [h0] at e
    cases e
    omega
  · have := offS_sum pw hw8 hh (Nat.le_refl _) (by omega) _ _ _ _ e
    omega
def bestV (o : Sv) : Int32 := match o with
  | none => 0
  | some q => nI q.2
def leastV (o : Sv) : Int32 := match o with
  | none => 1000000
  | some q => nI q.1
def svLe (o : Sv) : Prop := ∀ q, o = some q → q.1 ≤ 19008 ∧ q.2 < 2000
theorem svLe_step {v : Option Nat} {a : Nat} {o : Sv} (hv : ∀ z, v = some z → z ≤ 19008) (ha : a < 2000) (h : svLe o) : svLe (svStep v a o) := by
  cases v with
  | none => exact h
  | some z =>
    have := hv z rfl
    cases o with
    | none => intro q e; cases e; exact ⟨this, ha⟩
    | some b =>
      unfold svStep
      dsimp only
      split
      · intro q e; cases e; exact ⟨this, ha⟩
      · exact h
theorem scS_le (pw : PW P) (hw8 : w ≤ 8) (hh : h ≤ 6) (hLF : pL P ≤ pF P) : ∀ (m s : Nat) (o : Sv), s + m ≤ 2000 → svLe o → svLe (scS (pF P) (pL P) (offS P r w h) m s o)
  | 0, s, o, _, h => h
  | m + 1, s, o, hs, ho => scS_le pw hw8 hh hLF m (s + 1) _ (by omega) (svLe_step (fun z e => valS_le pw hw8 hh hLF e) (by omega) ho)
theorem bestService_c {μ : Mem} {x1 X : Int32} {o' : Sv} (hw8 : w ≤ 8) (hh : h ≤ 6) (hC : CP P p μ) (hLF : pL P ≤ pF P) (hU : SumsC P r w h (pL P) μ) (hc : ((x1 ≠ (-1) → (∃ (y3 : Int32) (μ1 : Mem), X9_servedBy (d + 2) (bestV o') x1 μ y3 μ1 ∧ (X = y3 ∧ μ = μ1))) ∧ (x1 = (-1) → (X = leastV o' ∧ μ = μ)))) : ∀ (m s : Nat) (o : Sv), s + m = pF P ^ pL P → svLe o → scS (pF P) (pL P) (offS P r w h) m s o = o' → X9_bestService_at41 (d + 2) x1 (nI (pF P ^ pL P)) (bestV o) (leastV o) (nI s) μ X μ
  | 0, s, o, hs, ho, he => by
    have h4 := hC.1.2.2.2.1
    have h6 := hC.1.2.2.1
    have hs : s = pF P ^ pL P := hs
    have he : o = o' := he
    subst he
    have := pow_le6 h6 (pL P) h4
    exact X9_bestService_at41_ok (tpos (by rw [hs]; exact nI_le (Nat.le_refl _) (by omega)) hc)
  | m + 1, s, o, hs, ho, he => by
    have pw := hC.1
    have h4 := pw.2.2.2.1
    have h6 := pw.2.2.1
    have hp := pow_le6 h6 (pL P) h4
    have sm := serviceSum_c (d := d) (s := s) (by omega) hw8 hh hC hLF hU (pL P) 0 0 (Nat.le_refl _) (by decide) (by omega)
    rw [Nat.sub_self, Nat.pow_zero, Nat.div_one] at sm
    have s1 : X9_serviceSum (d + 2) (nI s) μ (oI (valS (pF P) (pL P) (offS P r w h) s)) μ := by
      refine X9_serviceSum_ok ?_
      rw [hC.ptr0, hC.num.2.2.2.1, Int32.sub_eq_add_neg]
      exact sm
    have ih := bestService_c hw8 hh hC hLF hU hc m (s + 1) (svStep (valS (pF P) (pL P) (offS P r w h) s) s o) (by omega) (svLe_step (fun z e => valS_le pw hw8 hh hLF e) (by omega) ho) he
    rw [nI_succ] at ih
    refine X9_bestService_at41_ok (tneg (nI_ge (by omega) (by omega)) ⟨_, μ, s1, ?_⟩)
    cases hv : valS (pF P) (pL P) (offS P r w h) s with
    | none =>
      rw [hv] at ih
      exact tpos (by decide) ih
    | some z =>
      have zl := valS_le pw hw8 hh hLF hv
      rw [hv] at ih
      refine tneg (nI_pos (by omega)) ?_
      cases o with
      | none => exact tneg (nI_ge (b := 1000000) (by omega) (by decide)) ih
      | some q =>
        have ql := ho q rfl
        by_cases c : z < q.1
        · rw [show svStep (some z) s (some q) = some (z, s) from if_pos c] at ih
          exact tneg (nI_ge c (by omega)) ih
        · rw [show svStep (some z) s (some q) = some q from if_neg c] at ih
          exact tpos (nI_le (by omega) (by omega)) ih
theorem services_c {μ : Mem} {x1 X : Int32} {μ' : Mem} (hC : CP P p μ) (hc : X9_bestService_at41 d x1 (nI (pF P ^ pL P)) 0 1000000 0 μ X μ') : ∀ (m l : Nat), l + m = pL P → X9_bestService_at4 d x1 (nI (pF P ^ l)) (nI l) μ X μ'
  | 0, l, hl => by
    have h4 := hC.1.2.2.2.1
    have hl : l = pL P := hl
    subst hl
    refine X9_bestService_at4_ok ?_
    rw [hC.ptr0, hC.num.2.2.2.1]
    exact tpos (nI_le (Nat.le_refl _) (by omega)) hc
  | m + 1, l, hl => by
    have h4 := hC.1.2.2.2.1
    have ih := services_c hC hc m (l + 1) (by omega)
    rw [nI_succ, Nat.pow_succ, ← nI_mul] at ih
    refine X9_bestService_at4_ok ?_
    rw [hC.ptr0, hC.num.2.2.2.1, hC.num.2.2.1]
    exact tneg (nI_ge (by omega) (by omega)) ih
theorem servedBy_c {μ : Mem} {s i : Nat} (hs : s < 2000) (hC : CP P p μ) (hi : i < pL P) (hLF : pL P ≤ pF P) : ∀ (m t : Nat), i + m < pL P → t = s / pF P ^ (pL P - 1 - (i + m)) → X9_servedBy_at13 d (nI i) (nI t) (nI (i + m)) μ (nI (dgS (pF P) (pL P) s i)) μ
  | 0, t, hm, ht => by
    have h4 := hC.1.2.2.2.1
    have h6 := hC.1.2.2.1
    have hF0 : 0 < pF P := by omega
    have hF6 : pF P < 2 ^ 31 := by omega
    have := Nat.div_le_self s (pF P ^ (pL P - 1 - (i + 0)))
    refine X9_servedBy_at13_ok (tpos (nI_le (Nat.le_refl _) (by omega)) ?_)
    rw [hC.ptr0, hC.num.2.2.1]
    refine tneg (nI_nle hF0 hF6) ⟨nI_ne0 hF0 hF6, ?_, rfl⟩
    rw [nI_rem (by omega) hF6, ht]
    rfl
  | m + 1, t, hm, ht => by
    have h4 := hC.1.2.2.2.1
    have h6 := hC.1.2.2.1
    have hF0 : 0 < pF P := by omega
    have hF6 : pF P < 2 ^ 31 := by omega
    have := Nat.div_le_self s (pF P ^ (pL P - 1 - (i + (m + 1))))
    have ih := servedBy_c hs hC hi hLF m (t / pF P) (by omega) (by
      rw [ht, Nat.div_div_eq_div_mul, ← Nat.pow_succ]
      congr 2
      omega)
    refine X9_servedBy_at13_ok (tneg (nI_ge (by omega) (by omega)) ?_)
    rw [hC.ptr0, hC.num.2.2.1]
    refine tneg (nI_nle hF0 hF6) ⟨nI_ne0 hF0 hF6, ?_⟩
    rw [nI_div (by omega) hF6, show nI (i + (m + 1)) + (-1) = nI (i + m) from nI_dec (a := i + (m + 1)) (by omega)]
    exact ih
theorem weaveWhole_v {l : Nat} {μ : Mem} (hl : l < pL P) (hw : 1 ≤ w) (hwl : w ≤ pWi P l) (hh : h ≤ 6) (hp : r (48 + l) < 1000000) (hC : CP P p μ) (hK : Kc P μ) (hR : RowC P 13 μ r) : ∃ μ', X9_weaveWhole (d + 4) (nI l) (nI w) (nI h) μ μ' ∧ Kq (sWv p) μ μ' ∧ Kc P μ' ∧ μ'.1 9 4 = nI (heldA P l w (r (48 + l)) (w * h)) ∧ ∀ j, j < w * h → μ'.1 12 j = nI (thr P l (j % w) (r (48 + l) + j / w)) := by
  have pw := hC.1
  have h4 := pw.2.2.2.1
  have w8 := (pw.2.2.2.2.2.2.2.2.2.1 l hl).2.1
  have h48 := wh48 (show w ≤ 8 by omega) hh
  obtain ⟨m1, a1, a2, a3, a4⟩ := weave_c (d := d) (pick := r (48 + l)) (st := 9999) (h := h) hl hw hwl hh (by decide) (by omega) hC hK
  have pc := part_c (d := d + 2) (s := 13) (μ := μ) (l := l) (k := 1) (by omega) (by decide)
  rw [(hR.2.2.2.1 l hl).2.1] at pc
  refine ⟨m1, X9_weaveWhole_ok ⟨_, μ, pc, m1, a1, rfl⟩, a2, a3, ?_, fun j hj => ?_⟩
  · rw [a4.1, wvS_whole _ h48]
  · rw [a4.2.2 j hj, am_whole (by omega)]
theorem heldBy_v {l : Nat} {μ : Mem} (hl : l < pL P) (hw : 1 ≤ w) (hwl : w ≤ pWi P l) (hh : h ≤ 6) (hp : r (48 + l) < 1000000) (hC : CP P p μ) (hK : Kc P μ) (hR : RowC P 13 μ r) : ∃ μ', X9_heldBy (d + 5) (nI l) (nI w) (nI h) μ (nI (heldA P l w (r (48 + l)) (w * h))) μ' ∧ Kq (sWv p) μ μ' ∧ Kc P μ' := by
  obtain ⟨m1, a1, a2, a3, a4, _⟩ := weaveWhole_v (d := d) hl hw hwl hh hp hC hK hR
  exact ⟨m1, X9_heldBy_ok ⟨m1, a1, a4.symm, rfl⟩, a2, a3⟩
theorem serve_sums {x3 X : Int32} (hn : n ≤ 512) (hw : 1 ≤ w) (hh : h ≤ 6) (hww : ∀ l, l < pL P → w ≤ pWi P l)
    (hc : ∀ μ μM, SimP n P p r μ μM → SumsC P r w h (pL P) μ → X9_bestService (d + 6) x3 μ X μ) : ∀ (m l : Nat) (μ μM : Mem), l + m = pL P → SimP n P p r μ μM → SumsC P r w h l μ → ∃ μ', X9_serve_at60 (d + 6) (nI w) (nI h) x3 (nI l) μ X μ' ∧ Kq (scC p) μ μ' ∧ Kc P μ'
  | 0, l, μ, μM, hl, hs, hU => by
    have hC := hs.1.1
    have h4 := hC.1.2.2.2.1
    have hl : l = pL P := hl
    subst hl
    refine ⟨μ, X9_serve_at60_ok ?_, Kq.refl, hs.1.2.1⟩
    rw [hC.ptr0, hC.num.2.2.2.1]
    exact tpos (nI_le (Nat.le_refl _) (by omega)) ⟨_, μ, hc μ μM hs hU, rfl, rfl⟩
  | m + 1, l, μ, μM, hl, hs, hU => by
    obtain ⟨⟨hC, hK, hR⟩, _, hS, _⟩ := id hs
    have pw := hC.1
    have h4 := pw.2.2.2.1
    have hpk := (hS.2.2.1 l (by omega)).1
    obtain ⟨m1, a1, a2', a3⟩ := heldBy_v (d := d + 1) (h := h) (show l < pL P by omega) hw (hww l (by omega)) hh (by omega) hC hK hR
    have a2 := sWv_sc a2'
    have k1 : Kq (scC p) m1 (sI m1 213 l (nI (heldA P l w (r (48 + l)) (w * h)))) := Kq.sI (by unfold scC; omega)
    have hs1 := hs.scr a2 a3 Kq.refl
    have hs2 := hs1.scr k1 (a3.of (by rw [sI_n (by decide)]) (by rw [sI_n (by decide)])) Kq.refl
    have hpp := hC.pp
    have u213 : ∀ j, j < l → m1.1 213 j = μ.1 213 j := fun j hj => a2'.at (by unfold sWv; omega)
    obtain ⟨μ', g1, g2, g3⟩ := serve_sums hn hw hh hww hc m (l + 1) _ μM (by omega) hs2 (fun j hj => by
      by_cases e : j = l
      · rw [e, sI_1]
      · rw [sI_k e, u213 j (by omega)]
        exact hU j (by omega))
    rw [nI_succ] at g1
    refine ⟨μ', X9_serve_at60_ok ?_, (a2.trans k1).trans g2, g3⟩
    rw [hC.ptr0, hC.num.2.2.2.1]
    refine tneg (nI_ge (by omega) (by omega)) ⟨_, m1, a1, vp_inN (by omega) (by decide), ?_⟩
    rintro μ7 rfl
    rw [nI_clamp (by omega)]
    exact g1
/-- the model's side -/
theorem sixes_m {k : Nat} {μ : Mem} (hk : k ≤ 4) : ∀ (m j : Nat), j + m = k → X10_sixes_at4 d (nI k) (nI (6 ^ j)) (nI j) μ (nI (6 ^ k)) μ
  | 0, j, hj => by
    have hj : j = k := hj
    subst hj
    exact X10_sixes_at4_ok (tpos (nI_le (Nat.le_refl _) (by omega)) ⟨rfl, rfl⟩)
  | m + 1, j, hj => by
    have ih := sixes_m (μ := μ) hk m (j + 1) (by omega)
    rw [nI_succ, Nat.pow_succ, ← nI_mul] at ih
    exact X10_sixes_at4_ok (tneg (nI_ge (by omega) (by omega)) ih)
theorem sixes_s {k : Nat} {μ : Mem} (hk : k ≤ 4) : X10_sixes d (nI k) μ (nI (6 ^ k)) μ := X10_sixes_ok (sixes_m hk k 0 (by omega))
def OffM (P : Pl) (r : Nat → Nat) (w h : Nat) (μ : Mem) : Prop := ∀ l f, l < pL P → f < pF P → μ.1 40 (6 * l + f) = nI (offS P r w h f l)
theorem offAll_m {way : Nat} {μ : Mem} (hs : way < 2000) (hw8 : w ≤ 8) (hh : h ≤ 6) (hM : MP P μ) (hO : OffM P r w h μ) : ∀ (m l M S : Nat), l + m = pL P → M < 64 → S ≤ 4752 * l → X10_offAll_at21 (d + 1) (nI way) (nI M) (nI S) (nI (6 ^ m)) (nI l) μ (oI (sumUp (pF P) (dgW (pL P) way) (fun i => offS P r w h (dgW (pL P) way i) i) m l M S)) μ
  | 0, l, M, S, hl, hM', hS => by
    have h4 := hM.1.2.2.2.1
    have hl : l = pL P := hl
    subst hl
    have e := hM.looms
    unfold mLooms mL at e
    refine X10_offAll_at21_ok ⟨hM.live, ?_⟩
    rw [e]
    exact tpos (nI_le (Nat.le_refl _) (by omega)) ⟨rfl, rfl⟩
  | m + 1, l, M, S, hl, hM', hS => by
    have pw := hM.1
    have h4 := pw.2.2.2.1
    have h6 := pw.2.2.1
    have e := hM.looms
    unfold mLooms mL at e
    have pm : 6 ^ (m + 1) ≤ 1296 := pow_le6 (Nat.le_refl 6) (m + 1) (by omega)
    have pm0 : 0 < 6 ^ m := Nat.pow_pos (by decide)
    have pm1 : 6 ^ m ≤ 1296 := pow_le6 (Nat.le_refl 6) m (by omega)
    have e6 : nI (6 ^ (m + 1)) / 6 = nI (6 ^ m) := by
      rw [show (6 : Int32) = nI 6 from rfl, nI_div (by omega) (by decide), Nat.pow_succ, Nat.mul_div_cancel _ (by decide)]
    have eD : way / 6 ^ m % 6 = dgW (pL P) way l := by
      unfold dgW
      rw [show pL P - 1 - l = m by omega]
    have hd6 : dgW (pL P) way l < 6 := Nat.mod_lt _ (by decide)
    have hwd := Nat.div_le_self way (6 ^ m)
    have ef : nI way / nI (6 ^ m) - nI way / nI (6 ^ m) / 6 * 6 = nI (dgW (pL P) way l) := by
      rw [nI_div (by omega) (by omega), show (6 : Int32) = nI 6 from rfl, nI_rem (by omega) (by decide), eD]
    have i1 := isField_m (d := d) (f := nI (dgW (pL P) way l)) hM
    rw [inN_nI (by omega)] at i1
    refine X10_offAll_at21_ok ⟨hM.live, ?_⟩
    rw [e, e6, ef]
    refine tneg (nI_ge (by omega) (by omega)) ⟨nI_ne0 pm0 (by omega), _, μ, i1, ?_⟩
    rw [sumUp]
    by_cases y : dgW (pL P) way l < pF P
    · obtain ⟨q1, q2⟩ := bt2 M hM' (dgW (pL P) way l) hd6
      have q0 := bt1 M hM' (dgW (pL P) way l) hd6
      rw [if_pos y, decide_eq_true y, q0]
      refine tneg (by decide) ?_
      by_cases z : M / 2 ^ dgW (pL P) way l % 2 = 1
      · rw [if_pos z, z]
        exact teq rfl ⟨rfl, rfl⟩
      · have z0 := bz z
        have ol := offA_le (r := r) (l := l) (h := h) pw hw8 hh y
        have ei : (6 : Int32) * nI l + nI (dgW (pL P) way l) = nI (6 * l + dgW (pL P) way l) := by rw [show (6 : Int32) = nI 6 from rfl, nI_mul, nJ_add]
        rw [if_neg z, z0, ei, nI_clamp (by omega), hO l _ (by omega) y, nJ_add, q1]
        have ih := offAll_m hs hw8 hh hM hO m (l + 1) (M ||| 2 ^ dgW (pL P) way l) (S + offS P r w h (dgW (pL P) way l) l) (by omega) q2 (by unfold offS; omega)
        rw [nI_succ] at ih
        exact tne (by decide) ⟨vp_inN (by omega) (by decide), ih⟩
    · rw [if_neg y, decide_eq_false y]
      exact tpos rfl ⟨rfl, rfl⟩
theorem sumUp_le {way : Nat} (pw : PW P) (hw8 : w ≤ 8) (hh : h ≤ 6) : ∀ (m l M S z : Nat), sumUp (pF P) (dgW (pL P) way) (fun i => offS P r w h (dgW (pL P) way i) i) m l M S = some z → z ≤ S + 4752 * m
  | 0, l, M, S, z, e => by cases e; omega
  | m + 1, l, M, S, z, e => by
    rw [sumUp] at e
    split at e
    · split at e
      · cases e
      · rename_i y _
        have ih := sumUp_le pw hw8 hh m _ _ _ z e
        have := offA_le (r := r) (l := l) (h := h) (w := w) pw hw8 hh y
        unfold offS at ih
        omega
    · cases e
def bestM (o : Sv) (μ : Mem) : Prop := match o with
  | none => μ.1 0 63 = -1
  | some q => μ.1 0 62 = nI q.1 ∧ μ.1 0 63 = nI q.2
theorem serve72 (hw8 : w ≤ 8) (hh : h ≤ 6) : ∀ (m way : Nat) (o : Sv) (μ : Mem), way + m = 6 ^ pL P → svLe o → MP P μ → OffM P r w h μ → bestM o μ → ∃ μ', X10_fillsServe_at72 (d + 2) (nI way) μ μ' ∧ Kq (fun a k => a = 0 ∧ (k = 62 ∨ k = 63)) μ μ' ∧ bestM (scW (pF P) (pL P) (offS P r w h) m way o) μ'
  | 0, way, o, μ, hw, ho, hM, hO, hB => by
    have h4 := hM.1.2.2.2.1
    have hw : way = 6 ^ pL P := hw
    have e := hM.looms
    unfold mLooms mL at e
    have pm := pow_le6 (Nat.le_refl 6) (pL P) h4
    refine ⟨μ, X10_fillsServe_at72_ok ⟨hM.live, ?_⟩, Kq.refl, hB⟩
    rw [e]
    exact ⟨_, μ, sixes_s h4, tpos (by rw [hw]; exact nI_le (Nat.le_refl _) (by omega)) rfl⟩
  | m + 1, way, o, μ, hw, ho, hM, hO, hB => by
    have pw := hM.1
    have h4 := pw.2.2.2.1
    have e := hM.looms
    unfold mLooms mL at e
    have pm := pow_le6 (Nat.le_refl 6) (pL P) h4
    have oa := offAll_m (d := d) (way := way) (by omega) hw8 hh hM hO (pL P) 0 0 0 (by omega) (by decide) (by omega)
    have o1 : X10_offAll (d + 2) (nI way) μ (oI (valW (pF P) (pL P) (offS P r w h) way)) μ := by
      refine X10_offAll_ok ⟨hM.live, ?_⟩
      rw [e]
      exact ⟨_, μ, sixes_s h4, oa⟩
    have hz : ∀ z, valW (pF P) (pL P) (offS P r w h) way = some z → z ≤ 19008 := fun z q => by
      have := sumUp_le pw hw8 hh _ _ _ _ _ q
      omega
    have so := svLe_step (a := way) hz (by omega) ho
    have start : ∀ T : Prop → Prop, True := fun _ => trivial
    have put : ∀ z, valW (pF P) (pL P) (offS P r w h) way = some z → svStep (some z) way o = some (z, way) → ∃ μ', X10_fillsServe_at72 (d + 2) (nI way + 1) (sI (sI μ 0 62 (nI z)) 0 63 (nI way)) μ' ∧ Kq (fun a k => a = 0 ∧ (k = 62 ∨ k = 63)) μ μ' ∧ bestM (scW (pF P) (pL P) (offS P r w h) (m + 1) way o) μ' := fun z q1 q2 => by
      have k1 : Kq (fun a k => a = 0 ∧ (k = 62 ∨ k = 63)) μ (sI (sI μ 0 62 (nI z)) 0 63 (nI way)) := (Kq.sI (by omega)).trans (Kq.sI (by omega))
      obtain ⟨μ', g1, g2, g3⟩ := serve72 hw8 hh m (way + 1) (svStep (valW (pF P) (pL P) (offS P r w h) way) way o) (sI (sI μ 0 62 (nI z)) 0 63 (nI way)) (by omega) so (hM.kp (scM_M (k1.mono fun a k q => by unfold scM; omega))) (fun l f hl hf => by rw [k1.at (by omega)]; exact hO l f hl hf) (by
        rw [q1, q2]
        exact ⟨by rw [sI_k (by decide), sI_1], sI_1⟩)
      rw [nI_succ] at g1
      exact ⟨μ', g1, k1.trans g2, g3⟩
    have stay : svStep (valW (pF P) (pL P) (offS P r w h) way) way o = o → ∃ μ', X10_fillsServe_at72 (d + 2) (nI way + 1) μ μ' ∧ Kq (fun a k => a = 0 ∧ (k = 62 ∨ k = 63)) μ μ' ∧ bestM (scW (pF P) (pL P) (offS P r w h) (m + 1) way o) μ' := fun q => by
      obtain ⟨μ', g1, g2, g3⟩ := serve72 hw8 hh m (way + 1) o μ (by omega) ho hM hO hB
      rw [nI_succ] at g1
      refine ⟨μ', g1, g2, ?_⟩
      rw [scW, q]
      exact g3
    have wrap : ∀ μ', ((oI (valW (pF P) (pL P) (offS P r w h) way) < 0 → X10_fillsServe_at72 (d + 2) (nI way + 1) μ μ') ∧ (¬ oI (valW (pF P) (pL P) (offS P r w h) way) < 0 → (((μ.1 0 63) < 0 → (∀ μ7 : Mem, μ7 = sI μ 0 62 (oI (valW (pF P) (pL P) (offS P r w h) way)) → (∀ μ8 : Mem, μ8 = sI μ7 0 63 (nI way) → X10_fillsServe_at72 (d + 2) (nI way + 1) μ8 μ'))) ∧ (¬ (μ.1 0 63) < 0 → ((oI (valW (pF P) (pL P) (offS P r w h) way) < (μ.1 0 62) → (∀ μ9 : Mem, μ9 = sI μ 0 62 (oI (valW (pF P) (pL P) (offS P r w h) way)) → (∀ μ10 : Mem, μ10 = sI μ9 0 63 (nI way) → X10_fillsServe_at72 (d + 2) (nI way + 1) μ10 μ'))) ∧ (¬ oI (valW (pF P) (pL P) (offS P r w h) way) < (μ.1 0 62) → X10_fillsServe_at72 (d + 2) (nI way + 1) μ μ')))))) → X10_fillsServe_at72 (d + 2) (nI way) μ μ' := fun μ' q => by
      refine X10_fillsServe_at72_ok ⟨hM.live, ?_⟩
      rw [e]
      exact ⟨_, μ, sixes_s h4, tneg (nI_ge (by omega) (by omega)) ⟨_, μ, o1, q⟩⟩
    cases hv : valW (pF P) (pL P) (offS P r w h) way with
    | none =>
      obtain ⟨μ', g1, g2, g3⟩ := stay (by rw [hv]; rfl)
      refine ⟨μ', wrap _ ?_, g2, g3⟩
      rw [hv]
      exact tpos (by decide) g1
    | some z =>
      have zl := hz z hv
      cases o with
      | none =>
        obtain ⟨μ', g1, g2, g3⟩ := put z hv rfl
        refine ⟨μ', wrap _ ?_, g2, g3⟩
        rw [hv, show μ.1 0 63 = -1 from hB]
        refine tneg (nI_pos (by omega)) (tpos (by decide) ?_)
        rintro μ7 rfl μ8 rfl
        exact g1
      | some q =>
        have ql := ho q rfl
        by_cases c : z < q.1
        · obtain ⟨μ', g1, g2, g3⟩ := put z hv (if_pos c)
          refine ⟨μ', wrap _ ?_, g2, g3⟩
          rw [hv, hB.1, hB.2]
          refine tneg (nI_pos (by omega)) (tneg (nI_pos (by omega)) (tpos (nI_lt c (by omega)) ?_))
          rintro μ7 rfl μ8 rfl
          exact g1
        · obtain ⟨μ', g1, g2, g3⟩ := stay (by rw [hv]; exact if_neg c)
          refine ⟨μ', wrap _ ?_, g2, g3⟩
          rw [hv, hB.1, hB.2]
          exact tneg (nI_pos (by omega)) (tneg (nI_pos (by omega)) (tneg (nI_nlt (by omega) (by omega)) g1))
def OffTo (P : Pl) (r : Nat → Nat) (w h l k : Nat) (μ : Mem) : Prop := ∀ i f, i < pL P → f < pF P → 6 * i + f < 6 * l + k → μ.1 40 (6 * i + f) = nI (offS P r w h f i)
theorem fill18 {l : Nat} {Z : Mem → Prop} (hl : l < pL P) (hw : 1 ≤ w) (hw8 : w ≤ 8) (hh : h ≤ 6) (hp : r (48 + l) < 1000000) (hc : ∀ μ, MP P μ → RowM μ 33 r → OffTo P r w h (l + 1) 0 μ → ∃ μ', X10_fillsServe_at2 (d + 5) (nI w) (nI h) (nI l + 1) μ μ' ∧ Kq scM μ μ' ∧ Z μ') : ∀ (m f : Nat) (μ : Mem), f + m = pF P → MP P μ → RowM μ 33 r → OffTo P r w h l f μ → ∃ μ', X10_fillsServe_at18 (d + 5) (nI w) (nI h) (nI l) (nI f) μ μ' ∧ Kq scM μ μ' ∧ Z μ'
  | 0, f, μ, hf, hM, hR, hO => by
    have h6 := hM.1.2.2.1
    have hf : f = pF P := hf
    have e := hM.fields
    unfold mFields mL at e
    obtain ⟨μ', g1, g2, g3⟩ := hc μ hM hR (fun i g h1 h2 h3 => hO i g h1 h2 (by omega))
    refine ⟨μ', X10_fillsServe_at18_ok ⟨hM.live, ?_⟩, g2, g3⟩
    rw [e]
    exact tpos (by rw [hf]; exact nI_le (Nat.le_refl _) (by omega)) g1
  | m + 1, f, μ, hf, hM, hR, hO => by
    have h4 := hM.1.2.2.2.1
    have h6 := hM.1.2.2.1
    have e := hM.fields
    unfold mFields mL at e
    obtain ⟨m1, a1, a2⟩ := offBy_m (d := d) (h := h) (f := f) hl (by omega) hw hw8 hh hp hM hR
    have k1 := fV_scM a2
    have k2 : Kq scM m1 (sI m1 40 (6 * l + f) (nI (offS P r w h f l))) := Kq.sI (by unfold scM; omega)
    have M1 := hM.kp (fV_M a2)
    have R1 : RowM m1 33 r := hR.kp a2 fun _ => rfl
    obtain ⟨μ', g1, g2, g3⟩ := fill18 hl hw hw8 hh hp hc m (f + 1) (sI m1 40 (6 * l + f) (nI (offS P r w h f l))) (by omega) (M1.kp (scM_M k2)) (fun k hk => by rw [sI_n (by decide)]; exact R1 k hk) (fun i g h1 h2 h3 => by
      by_cases q : 6 * i + g = 6 * l + f
      · have : i = l ∧ g = f := by omega
        rw [this.1, this.2, sI_1]
      · rw [sI_k q, a2.at rfl]
        exact hO i g h1 h2 (by omega))
    have ei : (6 : Int32) * nI l + nI f = nI (6 * l + f) := by rw [show (6 : Int32) = nI 6 from rfl, nI_mul, nJ_add]
    rw [nI_succ] at g1
    refine ⟨μ', X10_fillsServe_at18_ok ⟨hM.live, ?_⟩, (k1.trans k2).trans g2, g3⟩
    rw [e, ei]
    refine tneg (nI_ge (by omega) (by omega)) ⟨_, m1, a1, vp_inN (by omega) (by decide), ?_⟩
    rintro μ4 rfl
    rw [nI_clamp (by omega)]
    exact g1
theorem fill2 {B : Nat} (hB : B < 900000) (hw : 1 ≤ w) (hw8 : w ≤ 8) (hh : h ≤ 6) (hS : SW P B r) : ∀ (m l : Nat) (μ : Mem), l + m = pL P → MP P μ → RowM μ 33 r → OffTo P r w h l 0 μ → ∃ μ', X10_fillsServe_at2 (d + 5) (nI w) (nI h) (nI l) μ μ' ∧ Kq scM μ μ' ∧ bestM (scW (pF P) (pL P) (offS P r w h) (6 ^ pL P) 0 none) μ'
  | 0, l, μ, hl, hM, hR, hO => by
    have h4 := hM.1.2.2.2.1
    have hl : l = pL P := hl
    have e := hM.looms
    unfold mLooms mL at e
    have k1 : Kq scM μ (sI μ 0 63 (-1)) := Kq.sI (by unfold scM; omega)
    have h6 := hM.1.2.2.1
    obtain ⟨μ', g1, g2, g3⟩ := serve72 (d := d + 3) (r := r) (h := h) hw8 hh (6 ^ pL P) 0 none (sI μ 0 63 (-1)) (by omega) (fun q z => by cases z) (hM.kp (scM_M k1)) (fun i f h1 h2 => by rw [sI_n (by decide)]; exact hO i f h1 h2 (by omega)) sI_1
    refine ⟨μ', X10_fillsServe_at2_ok ⟨hM.live, ?_⟩, k1.trans (g2.mono fun a k q => by unfold scM; omega), g3⟩
    rw [e]
    refine tpos (by rw [hl]; exact nI_le (Nat.le_refl _) (by omega)) ?_
    rintro μ1 rfl
    exact g1
  | m + 1, l, μ, hl, hM, hR, hO => by
    have h4 := hM.1.2.2.2.1
    have e := hM.looms
    unfold mLooms mL at e
    have hpk := (hS.2.2.1 l (by omega)).1
    obtain ⟨μ', g1, g2, g3⟩ := fill18 (d := d) (l := l) (Z := bestM (scW (pF P) (pL P) (offS P r w h) (6 ^ pL P) 0 none)) (by omega) hw hw8 hh (by omega) (fun μ hM hR hO => by
      obtain ⟨μ', q1, q2, q3⟩ := fill2 hB hw hw8 hh hS m (l + 1) μ (by omega) hM hR hO
      rw [nI_succ] at q1
      exact ⟨μ', q1, q2, q3⟩) (pF P) 0 μ (by omega) hM hR (fun i f h1 h2 h3 => hO i f h1 h2 h3)
    refine ⟨μ', X10_fillsServe_at2_ok ⟨hM.live, ?_⟩, g2, g3⟩
    rw [e]
    exact tneg (nI_ge (by omega) (by omega)) g1
theorem serve44 {x2 x3 X : Int32} {μ μ' : Mem} (hM : MP P μ) (hw8 : w ≤ 8) (hc : (∀ l, l < pL P → w ≤ pWi P l) → X10_serve_at44 d (nI w) x2 x3 (nI (pL P)) μ X μ') (hx : (∃ l, l < pL P ∧ pWi P l < w) → X = -1 ∧ μ' = μ) : ∀ (m l : Nat), l + m = pL P → (∀ i, i < l → w ≤ pWi P i) → X10_serve_at44 d (nI w) x2 x3 (nI l) μ X μ'
  | 0, l, hl, ha => by
    have hl : l = pL P := hl
    subst hl
    exact hc ha
  | m + 1, l, hl, ha => by
    have h4 := hM.1.2.2.2.1
    have w8 := (hM.1.2.2.2.2.2.2.2.2.2.1 l (by omega)).2.1
    have e := hM.looms
    unfold mLooms mL at e
    obtain ⟨v8, eW⟩ := wideOf_m (show l < pL P by omega) hM
    refine X10_serve_at44_ok ⟨hM.live, ?_⟩
    rw [e]
    refine tneg (nI_ge (by omega) (by omega)) ⟨v8, ?_⟩
    rw [eW]
    by_cases q : w ≤ pWi P l
    · have ih := serve44 hM hw8 hc hx m (l + 1) (by omega) (fun i hi => by
        by_cases z : i = l
        · rw [z]; exact q
        · exact ha i (by omega))
      rw [nI_succ] at ih
      exact tpos (nI_le q (by omega)) ih
    · exact tneg (nI_ge (by omega) (by omega)) (hx ⟨l, by omega, by omega⟩)
end
theorem call_serve {a b c : Int32} (hn : n ≤ 512) : Both (X9_serve (d + 8) a b c) (X10_serve (d + 8) a b c) n := by
  rintro μC μM ⟨P, p, r, h⟩
  obtain ⟨⟨hC, hK, hR⟩, ⟨hM, hRM⟩, hS, _⟩ := id h
  have pw := hC.1
  have h4 := pw.2.2.2.1
  have h6 := pw.2.2.1
  have s1 := isSize_c (d := d + 7) (a := a) (b := b) (μ := μC)
  have i1 := in_s (d := d + 7) (v := a) (a := 1) (b := nI 8) (μ := μM)
  rw [in1 (by decide)] at i1
  have i2 := in_s (d := d + 7) (v := b) (a := 1) (b := nI 6) (μ := μM)
  rw [in1 (by decide)] at i2
  cases ha : inN (a - 1) 8 with
  | false =>
    rw [ha] at s1 i1
    exact ⟨-1, μC, μM, X9_serve_ok ⟨_, μC, s1, tpos rfl ⟨rfl, rfl⟩⟩, X10_serve_ok ⟨_, μM, i1, tpos rfl ⟨rfl, rfl⟩⟩, h.next⟩
  | true =>
    rw [ha] at s1 i1
    cases hb : inN (b - 1) 6 with
    | false =>
      rw [hb] at s1 i2
      exact ⟨-1, μC, μM, X9_serve_ok ⟨_, μC, s1, tpos rfl ⟨rfl, rfl⟩⟩, X10_serve_ok ⟨_, μM, i1, tneg (by decide) ⟨_, μM, i2, tpos rfl ⟨rfl, rfl⟩⟩⟩, h.next⟩
    | true =>
      rw [hb] at s1 i2
      obtain ⟨w, w1, w2, rfl⟩ := (rng1 (by decide)).mp ha
      obtain ⟨k, k1, k2, rfl⟩ := (rng1 (by decide)).mp hb
      have n1 : X3_narrowest (d + 7) p μC (nI (narA P (pL P))) μC := X3_narrowest_ok (narrowest_c hC (pL P) 0 (by omega))
      have n8 := narA_le (P := P) (pL P)
      rw [← hC.ptr0] at n1
      have eL := hM.looms
      unfold mLooms mL at eL
      have eF := hM.fields
      unfold mFields mL at eF
      have i3 : X10_in (d + 7) c (-1) (μM.1 15 (μM.1 0 18).toNatClampNeg - 1) μM (inI c (-1) (nI (pL P) - 1)) μM := by rw [eL]; exact in_s
      have tL : (nI (pL P) - 1).toInt = (pL P : Int) - 1 := by
        rw [Int32.toInt_sub, nI_toInt (by omega), show (1 : Int32).toInt = 1 from rfl, Int.bmod_eq_of_le (by omega) (by omega)]
      have tl : (nI (pL P)).toInt = (pL P : Int) := nI_toInt (by omega)
      have t1 : (-1 : Int32).toInt = -1 := by decide
      by_cases c1 : c < -1
      · have e : inI c (-1) (nI (pL P) - 1) = 0 := if_pos c1
        rw [e] at i3
        refine ⟨-1, μC, μM, X9_serve_ok ⟨_, μC, s1, tneg (by decide) ⟨_, μC, n1, ⟨fun _ => ⟨rfl, rfl⟩, fun _ => tpos c1 ⟨rfl, rfl⟩⟩⟩⟩, X10_serve_ok ⟨_, μM, i1, tneg (by decide) ⟨_, μM, i2, tneg (by decide) ⟨hM.live, _, μM, i3, teq rfl ⟨rfl, rfl⟩⟩⟩⟩, h.next⟩
      · by_cases c2 : c < nI (pL P)
        · have e : inI c (-1) (nI (pL P) - 1) = 1 := by
            unfold inI
            rw [if_neg c1, if_neg]
            rw [Int32.lt_iff_toInt_lt] at c2 ⊢
            omega
          rw [e] at i3
          by_cases hww : w ≤ narA P (pL P)
          · have hal := ((narA_iff (pL P)).mp hww).2
            by_cases hLF : pL P ≤ pF P
            · have chk := chk_all (pL P) (by omega) (pF P) (by omega) hLF
              obtain ⟨kk, kk1, kk2⟩ := sc_same (off := offS P r w k) (F := pF P) (L := pL P) h6 (6 ^ pL P) 0 0 none none chk trivial
              have pl4 := pow_le6 h6 (pL P) h4
              have sl := scS_le (r := r) pw w2 k2 hLF kk 0 none (by omega) (fun q z => by cases z)
              obtain ⟨u, u1, u2⟩ := val_ex (F := pF P) (L := pL P) (off := offS P r w k) (by omega) hLF
              have sW := scW_some (F := pF P) (L := pL P) (off := offS P r w k) (6 ^ pL P) 0 none (Or.inr ⟨u, by omega, by omega, u2⟩)
              obtain ⟨mM, f1, f2, f3⟩ := fill2 (d := d + 1) (B := 99 + 720 * n) (h := k) (by omega) w1 w2 k2 hS (pL P) 0 μM (by omega) hM hRM (fun i f _ _ h3 => by omega)
              have hM2 := hM.kp (scM_M f2)
              have eL2 := hM2.looms
              unfold mLooms mL at eL2
              cases hw : scW (pF P) (pL P) (offS P r w k) (6 ^ pL P) 0 none with
              | none => rw [hw] at sW; cases sW
              | some q =>
                cases hs' : scS (pF P) (pL P) (offS P r w k) kk 0 none with
                | none => rw [hw, hs'] at kk2; cases kk2
                | some t =>
                  rw [hw, hs'] at kk2
                  rw [hw] at f3
                  rw [hs'] at sl
                  obtain ⟨z1, z2⟩ := kk2
                  obtain ⟨t1', t2'⟩ := sl t rfl
                  have bsv : ∀ (X : Int32), (∀ μ, CP P p μ → ((c ≠ (-1) → (∃ (y3 : Int32) (μ1 : Mem), X9_servedBy (d + 6) (nI t.2) c μ y3 μ1 ∧ (X = y3 ∧ μ = μ1))) ∧ (c = (-1) → (X = nI t.1 ∧ μ = μ)))) → ∀ μ μM, SimP n P p r μ μM → SumsC P r w k (pL P) μ → X9_bestService (d + 7) c μ X μ := fun X hx μ μM hsm hU =>
                    X9_bestService_ok (services_c hsm.1.1 (bestService_c (d := d + 4) (o' := some t) w2 k2 hsm.1.1 hLF hU (hx μ hsm.1.1) kk 0 none (by omega) (fun q z => by cases z) hs') (pL P) 0 (by omega))
                  by_cases c3 : c = -1
                  · obtain ⟨mC, a1, a2, a3⟩ := serve_sums (d := d + 1) (x3 := c) (X := nI t.1) hn w1 k2 hal (bsv (nI t.1) (fun μ _ => teq c3 ⟨rfl, rfl⟩)) (pL P) 0 μC μM (by omega) h (fun l hl => by omega)
                    refine ⟨nI t.1, mC, mM, X9_serve_ok ⟨_, μC, s1, tneg (by decide) ⟨_, μC, n1, tneg (nI_nlt hww (by omega)) (tneg c1 ?_)⟩⟩, X10_serve_ok ⟨_, μM, i1, tneg (by decide) ⟨_, μM, i2, tneg (by decide) ⟨hM.live, _, μM, i3, tne (by decide) (serve44 hM w2 (fun _ => X10_serve_at44_ok ⟨hM.live, ?_⟩) (fun ⟨l, l1, l2⟩ => by have := hal l l1; omega) (pL P) 0 (by omega) (fun i hi => by omega))⟩⟩⟩, (h.scr a2 a3 f2).next⟩
                    · rw [hC.ptr0, hC.num.2.2.2.1, hC.num.2.2.1]
                      exact tpos c2 (tpos (nI_le hLF (by omega)) a1)
                    · rw [eL, eF]
                      refine tpos (nI_le (Nat.le_refl _) (by omega)) ⟨hM.live, hM.live, tpos (nI_le hLF (by omega)) ⟨mM, X10_fillsServe_ok f1, teq c3 ⟨?_, rfl⟩⟩⟩
                      rw [f3.1, z1]
                  · have c4 : ¬ c < 0 := fun z => by
                      rw [Int32.lt_iff_toInt_lt] at z c1
                      refine c3 (i_inj ?_)
                      have : (0 : Int32).toInt = 0 := rfl
                      omega
                    obtain ⟨i, hi31, rfl⟩ := nI_ex (i_nlt c4)
                    have hi : i < pL P := (nI_lt_iff hi31 (by omega)).mp c2
                    have hne : nI i ≠ (-1 : Int32) := c3
                    have sb : ∀ μ, CP P p μ → X9_servedBy (d + 6) (nI t.2) (nI i) μ (nI (dgS (pF P) (pL P) t.2 i)) μ := fun μ hC => by
                      refine X9_servedBy_ok ?_
                      rw [hC.ptr0, hC.num.2.2.2.1, show nI (pL P) - 1 = nI (pL P - 1) from nI_sub (b := 1) (by omega)]
                      have := servedBy_c (d := d + 6) (s := t.2) t2' hC hi hLF (pL P - 1 - i) t.2 (by omega) (by rw [show pL P - 1 - (i + (pL P - 1 - i)) = 0 by omega, Nat.pow_zero, Nat.div_one])
                      rw [show i + (pL P - 1 - i) = pL P - 1 by omega] at this
                      exact this
                    have edg : dgS (pF P) (pL P) t.2 i = q.2 / 6 ^ (pL P - 1 - i) % 6 := (dgEq_iff (pL P)).mp z2 (pL P - 1 - i) (by omega)
                    have q2b : q.2 < 2000 := by
                      have : svLe (scW (pF P) (pL P) (offS P r w k) (6 ^ pL P) 0 none) := by
                        have go : ∀ (m way : Nat) (o : Sv), way + m ≤ 2000 → svLe o → svLe (scW (pF P) (pL P) (offS P r w k) m way o) := by
                          intro m
                          induction m with
                          | zero => intro way o _ ho; exact ho
                          | succ m ih => exact fun way o hm ho => ih (way + 1) _ (by omega) (svLe_step (fun z e => by have := sumUp_le pw w2 k2 _ _ _ _ _ e; omega) (by omega) ho)
                        have := pow_le6 (Nat.le_refl 6) (pL P) h4
                        exact go _ 0 none (by omega) (fun q z => by cases z)
                      rw [hw] at this
                      exact (this q rfl).2
                    obtain ⟨mC, a1, a2, a3⟩ := serve_sums (d := d + 1) (x3 := nI i) (X := nI (dgS (pF P) (pL P) t.2 i)) hn w1 k2 hal (bsv (nI (dgS (pF P) (pL P) t.2 i)) (fun μ hCμ => tne hne ⟨_, μ, sb μ hCμ, rfl, rfl⟩)) (pL P) 0 μC μM (by omega) h (fun l hl => by omega)
                    refine ⟨nI (dgS (pF P) (pL P) t.2 i), mC, mM, X9_serve_ok ⟨_, μC, s1, tneg (by decide) ⟨_, μC, n1, tneg (nI_nlt hww (by omega)) (tneg c1 ?_)⟩⟩, X10_serve_ok ⟨_, μM, i1, tneg (by decide) ⟨_, μM, i2, tneg (by decide) ⟨hM.live, _, μM, i3, tne (by decide) (serve44 hM w2 (fun _ => X10_serve_at44_ok ⟨hM.live, ?_⟩) (fun ⟨l, l1, l2⟩ => by have := hal l l1; omega) (pL P) 0 (by omega) (fun i hi => by omega))⟩⟩⟩, (h.scr a2 a3 f2).next⟩
                    · rw [hC.ptr0, hC.num.2.2.2.1, hC.num.2.2.1]
                      exact tpos c2 (tpos (nI_le hLF (by omega)) a1)
                    · rw [eL, eF]
                      refine tpos (nI_le (Nat.le_refl _) (by omega)) ⟨hM.live, hM.live, tpos (nI_le hLF (by omega)) ⟨mM, X10_fillsServe_ok f1, tne hne ⟨hM2.live, ?_⟩⟩⟩
                      have p0 : 0 < 6 ^ (pL P - 1 - i) := Nat.pow_pos (by decide)
                      have p1 := pow_le6 (Nat.le_refl 6) (pL P - 1 - i) (by omega)
                      have dd := Nat.div_le_self q.2 (6 ^ (pL P - 1 - i))
                      rw [eL2, show nI (pL P) - 1 = nI (pL P - 1) from nI_sub (b := 1) (by omega), nI_sub (show i ≤ pL P - 1 by omega)]
                      refine ⟨_, mM, sixes_s (by omega), nI_ne0 p0 (by omega), ?_, rfl⟩
                      rw [f3.2, nI_div (by omega) (by omega), show (6 : Int32) = nI 6 from rfl, nI_rem (by omega) (by decide), edg]
            · refine ⟨-2, μC, μM, X9_serve_ok ⟨_, μC, s1, tneg (by decide) ⟨_, μC, n1, tneg (nI_nlt hww (by omega)) (tneg c1 ?_)⟩⟩, X10_serve_ok ⟨_, μM, i1, tneg (by decide) ⟨_, μM, i2, tneg (by decide) ⟨hM.live, _, μM, i3, tne (by decide) (serve44 hM w2 (fun _ => X10_serve_at44_ok ⟨hM.live, ?_⟩) (fun ⟨l, l1, l2⟩ => by have := hal l l1; omega) (pL P) 0 (by omega) (fun i hi => by omega))⟩⟩⟩, h.next⟩
              · rw [hC.ptr0, hC.num.2.2.2.1, hC.num.2.2.1]
                exact tpos c2 (tneg (nI_ge (by omega) (by omega)) ⟨rfl, rfl⟩)
              · rw [eL, eF]
                exact tpos (nI_le (Nat.le_refl _) (by omega)) ⟨hM.live, hM.live, tneg (nI_ge (by omega) (by omega)) ⟨rfl, rfl⟩⟩
          · have hex : ∃ l, l < pL P ∧ pWi P l < w := Classical.byContradiction fun z => hww ((narA_iff (pL P)).mpr ⟨w2, fun l hl => Nat.le_of_not_lt fun y => z ⟨l, hl, y⟩⟩)
            exact ⟨-1, μC, μM, X9_serve_ok ⟨_, μC, s1, tneg (by decide) ⟨_, μC, n1, tpos (nI_lt (by omega) (by omega)) ⟨rfl, rfl⟩⟩⟩, X10_serve_ok ⟨_, μM, i1, tneg (by decide) ⟨_, μM, i2, tneg (by decide) ⟨hM.live, _, μM, i3, tne (by decide) (serve44 hM w2 (fun hz => by obtain ⟨l, l1, l2⟩ := hex; have := hz l l1; omega) (fun _ => ⟨rfl, rfl⟩) (pL P) 0 (by omega) (fun i hi => by omega))⟩⟩⟩, h.next⟩
        · have e : inI c (-1) (nI (pL P) - 1) = 0 := by
            unfold inI
            rw [if_neg c1, if_pos]
            rw [Int32.lt_iff_toInt_lt] at c2 ⊢
            omega
          rw [e] at i3
          refine ⟨-1, μC, μM, X9_serve_ok ⟨_, μC, s1, tneg (by decide) ⟨_, μC, n1, ⟨fun _ => ⟨rfl, rfl⟩, fun _ => tneg c1 ?_⟩⟩⟩, X10_serve_ok ⟨_, μM, i1, tneg (by decide) ⟨_, μM, i2, tneg (by decide) ⟨hM.live, _, μM, i3, teq rfl ⟨rfl, rfl⟩⟩⟩⟩, h.next⟩
          rw [hC.ptr0, hC.num.2.2.2.1]
          exact tneg c2 ⟨rfl, rfl⟩
end Calls
