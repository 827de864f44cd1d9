/-! ===== RainLoom(): what it leaves; where both begin ===== -/
theorem slF_at {j : Nat} : ∀ i, slF i j = if j < i then some (237 + 5 * j) else none
  | 0 => by rw [if_neg (Nat.not_lt_zero _)]; rfl
  | i + 1 => by
    show va_up (slF i) i (some (237 + 5 * i)) j = _
    by_cases e : j = i
    · rw [e, up_same, if_pos (by omega)]
    · rw [up_ne e, slF_at i]
      by_cases q : j < i
      · rw [if_pos q, if_pos (by omega)]
      · rw [if_neg q, if_neg (by omega)]
theorem ceT_9 : rnC πC (ceT shK μC0 0) = .inl (9, fsC) := by
  rw [ceT_o (t := 9) (by decide +kernel) (by decide), show nf 9 = 14 by decide +kernel]
  rfl
theorem EC_0 : EC 0 = .inl (9, fsC) := (EC_of (a := 0) (by decide)).trans ceT_9
theorem EC_213 : EC 213 = .inr (15, 3, .inr (.inr (slF 3))) := by
  have q := EC_of (a := 175) (by decide)
  rw [show πC 175 = 213 by decide +kernel, ceT_q (t := 15) (n := 3) (by decide +kernel) (by decide)] at q
  rw [q]
  have : slF 3 = fun j => (if j < 3 then some (175 + 1 + (et 15).2.2 * j) else none).map πC := by
    funext j
    rw [slF_at]
    by_cases hj : j < 3
    · rw [if_pos hj, if_pos hj]
      show some (237 + 5 * j) = some (πC (175 + 1 + 5 * j))
      rw [π_slot (by omega) (by omega)]
      congr 1
      omega
    · rw [if_neg hj, if_neg hj]; rfl
  rw [this]
theorem C_cells {ce : Nat → CE} (h : MkC 252 fsC ce) (hs : ce 213 = .inr (15, 3, .inr (.inr (slF 3)))) : cellsOf 252 πC shK μC0 ce := fun ρ cT a ha => by
  have e : ce (πC a) = EC (πC a) := by
    have hb := (ordC.1 a ha).1
    by_cases e0 : πC a = 0
    · rw [e0, h.1, EC_0]
    · by_cases e1 : πC a = 213
      · rw [e1, hs, EC_213]
      · exact h.2 _ (by omega) hb e1
  rw [e]
  exact ceS_cells ordC ρ cT a ha
theorem cLaw_nil {a pl : Nat} {μ : Mem} (h1 : μ.1 a 3 = 2) (h2 : μ.1 (a + 1) 0 = cw (0, pl)) (h3 : μ.1 (a + 1) 1 = -15) : cLawAt μ a pl [] := ⟨2, by decide, h1, by rw [if_pos rfl]; exact ⟨⟨h2, trivial⟩, h3, rfl, rfl⟩⟩
theorem wd32 : ∀ i, i < 21 → μT.2.1 1 i = Int64.ofNat (nm 32 (wdL.getD i [])) := by decide +kernel
theorem μC0_l : μC0.2.1 = lC0 := rfl
theorem lC0_4 : lC0 4 = μT.2.1 1 := by
  unfold lC0
  rw [if_pos rfl]
theorem l0_4 : ∀ i, i < 21 → μC0.2.1 4 i = Int64.ofNat (nm 32 (wdL.getD i [])) := fun i hi => by
  rw [μC0_l, lC0_4]
  exact wd32 i hi
theorem c0_p {i k : Nat} (h : i < 19) : iC0 (214 + i) k = (clrP 0 μZ).1 i k := by
  unfold iC0
  rw [if_neg (by omega), if_neg (by omega), if_neg (by omega), if_pos (by omega), show 214 + i - 214 = i by omega]
theorem c0_q {i k : Nat} (h : i < 19) : iC0 (233 + i) k = (clrP 0 μZ).1 i k := by
  unfold iC0
  rw [if_neg (by omega), if_neg (by omega), if_neg (by omega), if_neg (by omega), show 233 + i - 233 = i by omega]
theorem cl_z : ((clrP 0 μZ).1 10 3 = 0 ∧ (clrP 0 μZ).1 10 4 = 0 ∧ (clrP 0 μZ).1 10 5 = 0 ∧ (clrP 0 μZ).1 10 6 = 0) ∧ ((clrP 0 μZ).1 14 0 = 0 ∧ (clrP 0 μZ).1 14 1 = 0 ∧ (clrP 0 μZ).1 14 2 = 0 ∧ (clrP 0 μZ).1 14 7 = 0 ∧ (clrP 0 μZ).1 14 8 = 0) ∧ ∀ i, i < 9 → i ≠ 6 → (clrP 0 μZ).1 18 i = 0 := by decide +kernel
theorem cl_l : ((clrP 0 μZ).1 7 3 = 2 ∧ (clrP 0 μZ).1 8 0 = 1 ∧ (clrP 0 μZ).1 8 1 = -15) ∧ ((clrP 0 μZ).1 11 3 = 2 ∧ (clrP 0 μZ).1 12 0 = 1 ∧ (clrP 0 μZ).1 12 1 = -15) ∧ ((clrP 0 μZ).1 15 3 = 2 ∧ (clrP 0 μZ).1 16 0 = 0 ∧ (clrP 0 μZ).1 16 1 = -15) := by decide +kernel
theorem init_c {d : Nat} : ∃ μ', X9_init_at163 (d + 5) μC0 μ' ∧ (CP P0' 214 μ' ∧ Kc P0' μ' ∧ RowC P0' 13 μ' (row0 P0')) ∧ μ'.1 0 1 = 0 ∧ μ'.1 0 2 = -1 ∧ μ'.1 23 1 = 0 ∧ μ'.1 23 2 = 0 ∧ (∀ k, k < 3 → μ'.1 191 k = 0) ∧ μ'.1 192 3 = 0 ∧ μ'.2.2 2 1 = 233 ∧ VZ 233 μ' ∧ ∀ i, i < 21 → μ'.2.1 4 i = Int64.ofNat (nm 32 (wdL.getD i [])) := by
  obtain ⟨_, ⟨v0, v1, v2, v3, v4, v5, v6⟩, w1, w2, _⟩ := clrP_v (q := 0) (μ := μZ)
  have P : ∀ i k, i < 19 → μC0.1 (214 + i) k = (clrP 0 μZ).1 i k := fun i k h => c0_p h
  have Q : ∀ i k, i < 19 → μC0.1 (233 + i) k = (clrP 0 μZ).1 i k := fun i k h => c0_q h
  obtain ⟨μ', a1, a2, a3⟩ := sbegin_c (d := d + 2) (P := P0') (p := 214) (μ := μC0) (by decide) (by decide) ⟨(P 0 3 (by decide)).trans v3, fun l hl => absurd hl (Nat.not_lt_zero _)⟩ ((P 0 4 (by decide)).trans v4)
  have e : ∀ a k, (a < 13 ∨ 18 ≤ a) → μ'.1 a k = μC0.1 a k := fun a k h => a2.at (by unfold sbF; omega)
  have p : ∀ i k, i < 19 → μ'.1 (214 + i) k = (clrP 0 μZ).1 i k := fun i k h => (e _ _ (by omega)).trans (P i k h)
  have q : ∀ i k, i < 19 → μ'.1 (233 + i) k = (clrP 0 μZ).1 i k := fun i k h => (e _ _ (by omega)).trans (Q i k h)
  obtain ⟨⟨z1, z2, z3, z4⟩, ⟨z5, z6, z7, z8, z9⟩, za⟩ := cl_z
  obtain ⟨⟨l1, l2, l3⟩, ⟨l4, l5, l6⟩, l7, l8, l9⟩ := cl_l
  refine ⟨μ', X9_init_at163_ok ⟨μ', a1, rfl⟩, ⟨⟨PW_0, Or.inl rfl, ?_, ?_, ⟨?_, ?_, ?_, ?_, ?_, ?_, ?_⟩, fun c hc => ?_, fun f hf => absurd hf (Nat.not_lt_zero _), fun f hf => absurd hf (Nat.not_lt_zero _), ⟨?_, ?_, ?_⟩, ⟨?_, ?_, ?_, ?_⟩, ⟨?_, ?_, ?_, ?_, ?_⟩, fun i h1 h2 => ?_⟩, fun l k hl => absurd hl (Nat.not_lt_zero _), a3⟩, ?_, ?_, ?_, ?_, fun k hk => ?_, ?_, ?_, ⟨⟨?_, ?_, ?_, ?_⟩, ⟨?_, ?_, ?_, ?_, ?_⟩, fun i h1 h2 => ?_⟩, fun i hi => ?_⟩
  · rw [a2.1]; rfl
  · rw [a2.1]; rfl
  · exact (p 0 0 (by decide)).trans v0
  · exact (p 0 1 (by decide)).trans v1
  · exact (p 0 2 (by decide)).trans v2
  · exact (p 0 3 (by decide)).trans v3
  · exact (p 0 4 (by decide)).trans v4
  · exact (p 0 5 (by decide)).trans v5
  · exact (p 0 6 (by decide)).trans v6
  · refine (p 1 c (by decide)).trans ((w1 c hc).trans ?_)
    unfold landI
    rw [onL_0]
    rfl
  · exact cLaw_nil ((p 7 3 (by decide)).trans l1) ((p 8 0 (by decide)).trans l2) ((p 8 1 (by decide)).trans l3)
  · exact cLaw_nil ((p 11 3 (by decide)).trans l4) ((p 12 0 (by decide)).trans l5) ((p 12 1 (by decide)).trans l6)
  · exact cLaw_nil ((p 15 3 (by decide)).trans l7) ((p 16 0 (by decide)).trans l8) ((p 16 1 (by decide)).trans l9)
  · exact (p 10 3 (by decide)).trans z1
  · exact (p 10 4 (by decide)).trans z2
  · exact (p 10 5 (by decide)).trans z3
  · exact (p 10 6 (by decide)).trans z4
  · exact (p 14 0 (by decide)).trans z5
  · exact (p 14 1 (by decide)).trans z6
  · exact (p 14 2 (by decide)).trans z7
  · exact (p 14 7 (by decide)).trans z8
  · exact (p 14 8 (by decide)).trans z9
  · exact (p 18 i (by decide)).trans (za i h1 h2)
  · rw [e _ _ (by decide)]; rfl
  · rw [e _ _ (by decide)]; rfl
  · rw [e _ _ (by decide)]; rfl
  · rw [e _ _ (by decide)]; rfl
  · rw [e _ _ (by decide)]; show iC0 191 k = 0; rw [i0_mid (by decide) (by decide)]
  · rw [e _ _ (by decide)]; rfl
  · rw [a2.1]; rfl
  · exact (q 10 3 (by decide)).trans z1
  · exact (q 10 4 (by decide)).trans z2
  · exact (q 10 5 (by decide)).trans z3
  · exact (q 10 6 (by decide)).trans z4
  · exact (q 14 0 (by decide)).trans z5
  · exact (q 14 1 (by decide)).trans z6
  · exact (q 14 2 (by decide)).trans z7
  · exact (q 14 7 (by decide)).trans z8
  · exact (q 14 8 (by decide)).trans z9
  · exact (q 18 i (by decide)).trans (za i h1 h2)
  · rw [a2.1]
    exact l0_4 i hi
/-- both constructors, and that their memories agree -/
theorem both_init {d e : Nat} : ∃ μC μM, MeC (d + 6) yX9_init cX9_init 2 [vr 9 0 0] 1 c0C 251 14926 252 (ceS πC σC shK μC) ∧ MeC (e + 2) yX10_init cX10_init 1 [vr 10 0 0] 1 c0M 46 12847 47 (ceOf shM μM) ∧ Sim 0 μC μM := by
  obtain ⟨μC, a1, a2, a3, a4, a5, a6, a7, a8, a9, aa, ab⟩ := init_c (d := d)
  obtain ⟨μM, b1, b2, b3, b4, b5, b6, b7, b8⟩ := X10_init_all (d := e)
  refine ⟨μC, μM, X9_walk (fun ce hm hs => C_toEvP ordC shK_C shK_D (C_cells hm hs) ?_ ?_ ?_ ?_ (Ev_weak (ls' := [some (vr 9 0 0), none]) ⟨rfl, trivial, trivial⟩ a1)), b1, P0', 214, row0 P0', a2, b2, SW_0 PW_0 (by decide), ⟨0, by decide, a3, b3, fun k hk => absurd hk (Nat.not_lt_zero _), a4.trans b4.symm⟩, ⟨0, 0, fun _ _ => 0, by decide, by decide, a6, a5, b5, fun i hi => absurd hi (Nat.not_lt_zero _)⟩, ⟨fun _ => false, fun _ _ => 0, fun k hk => ⟨a7 k hk, b7 k hk, fun z => by cases z⟩⟩, ⟨0, fun _ => 0, fun _ => 0, fun _ => 0, by decide, a8, b6, fun i hi => absurd hi (Nat.not_lt_zero _)⟩, ⟨a9, aa, ab, b8⟩⟩
  · intro v hv
    rcases List.mem_cons.mp hv with e | e
    · cases e; exact VOK_mk (by decide) ⟨by decide, by decide +kernel⟩
    · rcases List.mem_cons.mp e with e | e
      · cases e; trivial
      · cases e
  · intro v hv
    cases hv
  · intro v hv
    rcases List.mem_cons.mp hv with e | e
    · cases e; rfl
    · rcases List.mem_cons.mp e with e | e
      · cases e; rfl
      · cases e
  · intro v hv
    cases hv
