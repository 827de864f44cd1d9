/-! ===== a constructor's contract in a world of its object alone serves in every world ===== -/
def relA (N a i : Nat) : Nat := if i = 0 then a else N + i - 1
def shV (N a : Nat) : V → V
  | .inl x => .inl x
  | .inr (.inl x) => .inr (.inl x)
  | .inr (.inr q) => vr q.1 q.2.1 (relA N a q.2.2)
def shC (N a : Nat) : CE → CE
  | .inl o => .inl (o.1, o.2.map (Option.map (shV N a)))
  | .inr (t, n, .inl f) => .inr (t, n, .inl f)
  | .inr (t, n, .inr (.inl f)) => .inr (t, n, .inr (.inl f))
  | .inr (t, n, .inr (.inr f)) => .inr (t, n, .inr (.inr (fun j => (f j).map (relA N a))))
def liftCe (N a k : Nat) (ce c1 : Nat → CE) : Nat → CE := fun b => if b = a then shC N a (c1 0) else if N ≤ b ∧ b < N + k then shC N a (c1 (b - N + 1)) else ce b
def liftR (N k : Nat) (ρ ρ1 : Nat → Nat) : Nat → Nat := fun b => if N ≤ b ∧ b < N + k then ρ1 (b - N + 1) else ρ b
theorem relA_R {N a k i : Nat} {ρ ρ1 : Nat → Nat} (ha : a < N) (h0 : ρ1 0 = ρ a) (hi : i < 1 + k) : liftR N k ρ ρ1 (relA N a i) = ρ1 i := by
  unfold relA liftR
  by_cases h : i = 0
  · rw [if_pos h, if_neg (by omega), h, h0]
  · rw [if_neg h, if_pos (by omega), show N + i - 1 - N + 1 = i by omega]
theorem relA_lt {N a k i : Nat} (ha : a < N) (hi : i < 1 + k) : relA N a i < N + k := by
  unfold relA
  by_cases h : i = 0
  · rw [if_pos h]; omega
  · rw [if_neg h]; omega
theorem shC_E {N a k : Nat} {ρ ρ1 : Nat → Nat} {cT : Nat → ClassId} (ha : a < N) (h0 : ρ1 0 = ρ a) : ∀ {x : CE}, CC (1 + k) x → ceE (liftR N k ρ ρ1) cT (shC N a x) = ceE ρ1 cT x
  | .inl o, hx => by
    show Sum.inr (o.1, (o.2.map (Option.map (shV N a))).map (cval (liftR N k ρ ρ1))) = Sum.inr (o.1, o.2.map (cval ρ1))
    rw [List.map_map]
    congr 2
    apply List.map_congr_left
    intro v hv
    match v, hv with
    | none, _ => rfl
    | some (.inl x), _ => rfl
    | some (.inr (.inl x)), _ => rfl
    | some (.inr (.inr q)), hv => exact congrArg Value.ref (relA_R ha h0 (hx _ hv))
  | .inr (t, n, .inl f), _ => rfl
  | .inr (t, n, .inr (.inl f)), _ => rfl
  | .inr (t, n, .inr (.inr f)), hx => by
    have e : (fun j => ((f j).map (relA N a)).map (liftR N k ρ ρ1)) = fun j => (f j).map ρ1 := by
      funext j
      cases hj : f j with
      | none => rfl
      | some b => exact congrArg some (relA_R ha h0 (hx j b hj))
    show Sum.inl (cT t, n, Sum.inr (Sum.inr (Sum.inr (Sum.inr (fun j => ((f j).map (relA N a)).map (liftR N k ρ ρ1)))))) = _
    rw [e]
    rfl
theorem shC_C {N a k : Nat} (ha : a < N) : ∀ {x : CE}, CC (1 + k) x → CC (N + k) (shC N a x)
  | .inl o, hx => fun v hv => by
    obtain ⟨w, hw, e⟩ := List.mem_map.mp hv
    match w, hw, e with
    | none, _, e => cases e
    | some (.inl x), _, e => cases e; trivial
    | some (.inr (.inl x)), _, e => cases e; trivial
    | some (.inr (.inr q)), hw, e => cases e; exact relA_lt ha (hx _ hw)
  | .inr (t, n, .inl f), _ => trivial
  | .inr (t, n, .inr (.inl f)), _ => trivial
  | .inr (t, n, .inr (.inr f)), hx => fun j b e => by
    have e : (f j).map (relA N a) = some b := e
    cases hj : f j with
    | none => rw [hj] at e; cases e
    | some z => rw [hj] at e; cases e; exact relA_lt ha (hx j z hj)
def tinyR (a : Nat) (ρ : Nat → Nat) : Nat → Nat := fun b => if b = 0 then ρ a else ρ b
/-- no pointer in it -/
def CN : CE → Prop
  | .inl o => ∀ v, some v ∈ o.2 → VC 0 v
  | _ => False
theorem lift_world {N a k : Nat} {ce c0 c1 : Nat → CE} {ρ ρ1 : Nat → Nat} {cT : Nat → ClassId} {D : va_G} {A : Nat → Prop} {s : State} {H H1 : Heap} {locs : List Loc} (ha : a < N) (hNk : N + k < 900000) (hA : ∀ q, s.heap.size ≤ q → A q) (hS : va_S A s.heap H locs) (hW : WC N ce ρ cT D A s H) (hE : Ext 1 (tinyR a ρ) ρ1) (hP1 : va_P D CL (wc (1 + k) c1 ρ1 cT) H1) (hD1 : va_D (AC 1 (tinyR a ρ) H.size) (wc (1 + k) c1 ρ1 cT)) (hF1 : WF (1 + k) c1) (hk : ∀ q : Nat, q < H.size → ¬ AC 1 (tinyR a ρ) H.size q → H1[q]? = H[q]?) :
    WC (N + k) (liftCe N a k ce c1) (liftR N k ρ ρ1) cT D A s H1 ∧ Ext N ρ (liftR N k ρ ρ1) := by
  have h0 : ρ1 0 = ρ a := (hE 0 (Or.inl (by omega))).trans (if_pos rfl)
  have hext : Ext N ρ (liftR N k ρ ρ1) := fun b hb => by unfold liftR; rw [if_neg (by omega)]
  -- the cells one by one
  have hget : ∀ b, b < N + k → (wc (N + k) (liftCe N a k ce c1) (liftR N k ρ ρ1) cT)[b]? = some (if N ≤ b then (ρ1 (b - N + 1), ceE ρ1 cT (c1 (b - N + 1))) else if b = a then (ρ1 0, ceE ρ1 cT (c1 0)) else (ρ b, ceE ρ cT (ce b))) := by
    intro b hb
    rw [wc_get hb]
    congr 1
    by_cases h1 : N ≤ b
    · rw [if_pos h1]
      have e1 : liftR N k ρ ρ1 b = ρ1 (b - N + 1) := by unfold liftR; rw [if_pos ⟨h1, hb⟩]
      have e2 : liftCe N a k ce c1 b = shC N a (c1 (b - N + 1)) := by unfold liftCe; rw [if_neg (by omega), if_pos ⟨h1, hb⟩]
      rw [e1, e2, shC_E ha h0 (hF1 _ (by omega))]
    · rw [if_neg h1]
      by_cases h2 : b = a
      · rw [if_pos h2]
        have e1 : liftR N k ρ ρ1 b = ρ1 0 := by rw [h2, hext a (Or.inl ha), h0]
        have e2 : liftCe N a k ce c1 b = shC N a (c1 0) := by unfold liftCe; rw [if_pos h2]
        rw [e1, e2, shC_E ha h0 (hF1 _ (by omega))]
      · rw [if_neg h2]
        have e2 : liftCe N a k ce c1 b = ce b := by unfold liftCe; rw [if_neg h2, if_neg (by omega)]
        rw [hext b (Or.inl (by omega)), e2, ceE_ext hext (hW.2.2.2 b (by omega))]
  have hlen : (wc (N + k) (liftCe N a k ce c1) (liftR N k ρ ρ1) cT).length = N + k := by unfold wc; rw [List.length_map, List.length_range]
  have hbd : ∀ {b : Nat} {q : Nat × va_E}, (wc (N + k) (liftCe N a k ce c1) (liftR N k ρ ρ1) cT)[b]? = some q → b < N + k := fun h => by have := (List.getElem?_eq_some_iff.mp h).1; rw [hlen] at this; exact this
  have hold : ∀ b, b < N → ρ b < H.size := fun b hb => (hW.1 b _ (wc_get hb)).lt
  have hdis : ∀ b b', b < N → b' < N → ρ b = ρ b' → b = b' := fun b b' hb hb' e => hW.2.2.1.1 b b' _ _ (wc_get hb) (wc_get hb') e
  have hnot : ∀ b, b < N → b ≠ a → ¬ AC 1 (tinyR a ρ) H.size (ρ b) := fun b hb hne h => by
    rcases h with ⟨i, hi, e⟩ | h
    · have : i = 0 := by omega
      subst this
      have e : ρ b = ρ a := e
      exact hne (hdis b a hb ha e)
    · have := hold b hb
      omega
  have hnew : ∀ i, 1 ≤ i → i < 1 + k → H.size ≤ ρ1 i := fun i h1 h2 => by
    rcases hD1.2 i _ (wc_get h2) with ⟨j, hj, e⟩ | h
    · have hj0 : j = 0 := by omega
      subst hj0
      have e : ρ1 i = ρ a := e
      have := hD1.1 i 0 _ _ (wc_get h2) (wc_get (by omega)) (e.trans h0.symm)
      omega
    · exact h
  refine ⟨⟨?_, hW.2.1, ⟨?_, ?_⟩, ?_⟩, hext⟩
  · intro b q hq
    have hb := hbd hq
    rw [hget b hb] at hq
    cases hq
    by_cases h1 : N ≤ b
    · rw [if_pos h1]
      exact hP1 (b - N + 1) _ (wc_get (by omega))
    · rw [if_neg h1]
      by_cases h2 : b = a
      · rw [if_pos h2]
        exact hP1 0 _ (wc_get (by omega))
      · rw [if_neg h2]
        exact (hW.1 b _ (wc_get (by omega))).kept (hk _ (hold b (by omega)) (hnot b (by omega) h2))
  · intro b b' x x' hx hx' e
    have hb := hbd hx
    have hb' := hbd hx'
    rw [hget b hb] at hx
    rw [hget b' hb'] at hx'
    cases hx
    cases hx'
    have adr : ∀ b, b < N + k → (if N ≤ b then (ρ1 (b - N + 1), ceE ρ1 cT (c1 (b - N + 1))) else if b = a then (ρ1 0, ceE ρ1 cT (c1 0)) else (ρ b, ceE ρ cT (ce b)) : Nat × va_E).1 = if N ≤ b then ρ1 (b - N + 1) else ρ b := fun b hb => by
      by_cases h1 : N ≤ b
      · rw [if_pos h1, if_pos h1]
      · rw [if_neg h1, if_neg h1]
        by_cases h2 : b = a
        · rw [if_pos h2, h2, ← h0]
        · rw [if_neg h2]
    rw [adr b hb, adr b' hb'] at e
    by_cases h1 : N ≤ b <;> by_cases h2 : N ≤ b'
    · rw [if_pos h1, if_pos h2] at e
      have := hD1.1 _ _ _ _ (wc_get (show b - N + 1 < 1 + k by omega)) (wc_get (show b' - N + 1 < 1 + k by omega)) e
      omega
    · rw [if_pos h1, if_neg h2] at e
      have := hnew (b - N + 1) (by omega) (by omega)
      have := hold b' (by omega)
      omega
    · rw [if_neg h1, if_pos h2] at e
      have := hnew (b' - N + 1) (by omega) (by omega)
      have := hold b (by omega)
      omega
    · rw [if_neg h1, if_neg h2] at e
      exact hdis b b' (by omega) (by omega) e
  · intro b x hx
    have hb := hbd hx
    rw [hget b hb] at hx
    cases hx
    by_cases h1 : N ≤ b
    · rw [if_pos h1]
      exact hA _ (Nat.le_trans hS.1 (hnew _ (by omega) (by omega)))
    · rw [if_neg h1]
      by_cases h2 : b = a
      · rw [if_pos h2]
        show A (ρ1 0)
        rw [h0]
        exact hW.2.2.1.2 a _ (wc_get ha)
      · rw [if_neg h2]
        exact hW.2.2.1.2 b _ (wc_get (by omega))
  · intro b hb
    unfold liftCe
    by_cases h2 : b = a
    · rw [if_pos h2]; exact shC_C ha (hF1 0 (by omega))
    · rw [if_neg h2]
      by_cases h1 : N ≤ b ∧ b < N + k
      · rw [if_pos h1]; exact shC_C ha (hF1 _ (by omega))
      · rw [if_neg h1]; exact (hW.2.2.2 b (by omega)).up (by omega)
