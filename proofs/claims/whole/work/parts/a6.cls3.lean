/-! ===== RainLoom(): the stages of its making ===== -/
theorem ceX4_pl {N a i : Nat} {ce : Nat → CE} (ha : a < N) (hi : i < 19) : ceX4 N a ce (relA (N + 6) (N + 5) i) = shC (N + 6) (N + 5) (ceOf shP (clrP 0 μZ) i) := by
  have h1 : N + 5 ≤ relA (N + 6) (N + 5) i ∧ relA (N + 6) (N + 5) i < N + 24 := by unfold relA; by_cases e : i = 0 <;> simp only [e, if_true, if_false] <;> omega
  unfold ceX4
  rw [up_ne (by omega), up_ne (by omega), up_ne (by omega), up_ne (by omega), up_ne (by omega), up_ne (by omega), up_ne (by omega), up_ne (by omega), up_ne (by omega), up_ne (by omega)]
  unfold liftCe relA
  by_cases e : i = 0
  · rw [if_pos e, if_pos rfl, e]
  · rw [if_neg e, if_neg (by omega), if_pos (by omega), show N + 6 + i - 1 - (N + 6) + 1 = i by omega]
theorem ceX4_tk {N a i : Nat} {ce : Nat → CE} (ha : a < N) (hi : i < 5) : ceX4 N a ce (relA (N + 1) N i) = shC (N + 1) N (ceOf shT μT i) := by
  have h1 : N ≤ relA (N + 1) N i ∧ relA (N + 1) N i < N + 5 := by unfold relA; by_cases e : i = 0 <;> simp only [e, if_true, if_false] <;> omega
  unfold ceX4
  rw [up_ne (by omega), up_ne (by omega), up_ne (by omega), up_ne (by omega), up_ne (by omega), up_ne (by omega), up_ne (by omega), up_ne (by omega), up_ne (by omega), up_ne (by omega), liftCe_old (by omega) (by omega), up_ne (by omega), up_ne (by omega)]
  unfold liftCe relA
  by_cases e : i = 0
  · rw [if_pos e, if_pos rfl, e]
  · rw [if_neg e, if_neg (by omega), if_pos (by omega), show N + 1 + i - 1 - (N + 1) + 1 = i by omega]
theorem mn_at {N n K tag j : Nat} {ce : Nat → CE} (hj : j < n) : mnCe N n K tag ce (N + 1 + j) = .inr (11, K, .inl (fun _ => 0)) := by
  unfold mnCe
  rw [if_neg (by omega), if_pos (by omega)]
theorem mn_h {N n K tag : Nat} {ce : Nat → CE} : mnCe N n K tag ce N = .inr (tag, n, .inr (.inr (fun i => if i < n then some (N + 1 + i) else none))) := by
  unfold mnCe
  rw [if_pos rfl]
theorem ceX8_m {N a j : Nat} {ce : Nat → CE} (ha : a < N) (hj : j < 4) : ceX8 N a ce (N + 3 + 1 + j) = .inr (11, 48, .inl (fun _ => 0)) := by
  unfold ceX8
  rw [up_ne (by omega), up_ne (by omega), up_ne (by omega), up_ne (by omega), up_ne (by omega), up_ne (by omega), mn_at hj]
theorem ceX8_n3 {N a : Nat} {ce : Nat → CE} (ha : a < N) : ceX8 N a ce (N + 3) = .inr (16, 4, .inr (.inr (fun i => if i < 4 then some (N + 3 + 1 + i) else none))) := by
  unfold ceX8
  rw [up_ne (by omega), up_ne (by omega), up_ne (by omega), up_ne (by omega), up_ne (by omega), up_ne (by omega), mn_h]
theorem ceX0_m {N a j : Nat} {ce : Nat → CE} (ha : a < N) (hj : j < 5) : ceX0 N a ce (N + 3 + 1 + j) = .inr (11, 8, .inl (fun _ => 0)) := by
  unfold ceX0
  rw [up_ne (by omega), up_ne (by omega), up_ne (by omega), up_ne (by omega), mn_at hj]
theorem ceX0_n3 {N a : Nat} {ce : Nat → CE} (ha : a < N) : ceX0 N a ce (N + 3) = .inr (17, 5, .inr (.inr (fun i => if i < 5 then some (N + 3 + 1 + i) else none))) := by
  unfold ceX0
  rw [up_ne (by omega), up_ne (by omega), up_ne (by omega), up_ne (by omega), mn_h]
theorem paF_at {N j : Nat} : ∀ i, paF N i j = if j < i then some (N + 1 + 5 * j) else none
  | 0 => by rw [if_neg (Nat.not_lt_zero _)]; rfl
  | i + 1 => by
    show va_up (paF N i) i (some (N + 1 + 5 * i)) j = _
    by_cases e : j = i
    · rw [e, up_same, if_pos (by omega)]
    · rw [up_ne e, paF_at i]
      by_cases q : j < i
      · rw [if_pos q, if_pos (by omega)]
      · rw [if_neg q, if_neg (by omega)]
theorem paCe_sc {N i j : Nat} {ce1 : Nat → CE} (hj : j < 5) : ∀ m, i < m → paCe N ce1 m (N + 1 + 5 * i + j) = scn (N + 1 + 5 * i) j
  | 0, h => absurd h (Nat.not_lt_zero _)
  | m + 1, h => by
    show va_up (ceX5 (N + 1 + 5 * m + 1) (N + 1 + 5 * m) (va_up (paCe N ce1 m) (N + 1 + 5 * m) rawS)) N _ (N + 1 + 5 * i + j) = _
    rw [up_ne (by omega)]
    by_cases e : i = m
    · subst e
      exact ceX5_all hj
    · rw [ceX5_old (by omega) (by omega), up_ne (by omega)]
      exact paCe_sc hj m (by omega)
theorem ceX2_sc {N a i j : Nat} {ce : Nat → CE} (hi : i < 30) (hj : j < 5) : ceX2 N a ce (N + 1 + 5 * i + j) = scn (N + 1 + 5 * i) j := by
  unfold ceX2
  exact paCe_sc hj 30 hi
theorem ceX2_arr {N a : Nat} {ce : Nat → CE} (ha : a < N) : ceX2 N a ce N = .inr (15, 30, .inr (.inr (paF N 30))) := by
  unfold ceX2
  exact paCe_arr (by rw [up_ne (by omega), up_ne (by omega), up_ne (by omega), up_same]) 30
/-- the cells so far, all as they shall be but RainLoom itself and its slots -/
def MkC (N : Nat) (fs : List (Option V)) (ce : Nat → CE) : Prop := ce 0 = .inl (9, fs) ∧ ∀ b, 1 ≤ b → b < N → b ≠ 213 → ce b = EC b
theorem C_genC {d : Nat} {y : MethodName} {cc : ByteArray} {nL : Nat} {pc : Nat} {ls : List (Option V)} {st : List V} {N : Nat} {ce : Nat → CE} {kc ks N' : Nat} {ce' : Nat → CE} {P : (Nat → CE) → Prop} (h : P ce) (k : ∀ ce1, P ce1 → EvC d y cc nL pc ls st N ce1 kc ks N' ce') : EvC d y cc nL pc ls st N ce kc ks N' ce' := k ce h
theorem stC_put {N : Nat} {g fs : List (Option V)} {ce : Nat → CE} (h : MkC N g ce) : MkC N fs (va_up ce 0 (.inl (9, fs))) := ⟨up_same, fun b h1 h2 h3 => by rw [up_ne (by omega)]; exact h.2 b h1 h2 h3⟩
theorem stC_arr {N : Nat} {g fs : List (Option V)} {ce : Nat → CE} {x : CE} (hN : 1 ≤ N) (h : MkC N g ce) (hx : N = 213 ∨ x = EC N) : MkC (N + 1) fs (va_up (va_up ce N x) 0 (.inl (9, fs))) := ⟨up_same, fun b h1 h2 h3 => by
  rw [up_ne (by omega)]
  by_cases e : b = N
  · rw [e, up_same]; exact hx.resolve_left (by omega)
  · rw [up_ne e]; exact h.2 b h1 (by omega) h3⟩
theorem stC_sub {N M : Nat} {g fs : List (Option V)} {ce : Nat → CE} {x : CE} {f : (Nat → CE) → Nat → CE} (hN : 1 ≤ N) (h : MkC N g ce) (ho : ∀ b, b < N → f (va_up ce N x) b = va_up ce N x b) (hn : ∀ b, N ≤ b → b < M → b ≠ 213 → f (va_up ce N x) b = EC b) : MkC M fs (va_up (f (va_up ce N x)) 0 (.inl (9, fs))) := ⟨up_same, fun b h1 h2 h3 => by
  rw [up_ne (by omega)]
  by_cases e : b < N
  · rw [ho b e, up_ne (by omega)]; exact h.2 b h1 e h3
  · exact hn b (by omega) h2 h3⟩
theorem EC_1 : EC 1 = .inr (12, 2000, .inl (fun _ => 0)) := EC_arr (a := 1) (by decide +kernel) (by decide) (Or.inr rfl) (by decide +kernel) (by decide) (by decide) (by decide)
theorem ceT_4 : rnC πC (ceT shK μC0 2) = .inl (4, [some (vr 6 0 3), some (vr 3 0 8), some (vi 0), some (vi 32), some (vr 13 10 27), some (vi 0), some (vi 0), some (vi (-1)), some (vi 0), some (vi (-1))]) := by
  rw [ceT_o (t := 4) (by decide +kernel) (by decide), show nf 4 = 10 by decide +kernel]
  rfl
theorem EC_2 : EC 2 = .inl (4, [some (vr 6 0 3), some (vr 3 0 8), some (vi 0), some (vi 32), some (vr 13 10 27), some (vi 0), some (vi 0), some (vi (-1)), some (vi 0), some (vi (-1))]) := (EC_of (a := 2) (by decide)).trans ceT_4
theorem EC_27 : EC 27 = .inr (13, 10, .inr (.inl (fun _ => 0))) := by
  have := EC_of (a := 8) (by decide)
  rw [show πC 8 = 27 by decide +kernel, ceT_l (n := 10) (by decide +kernel) rfl] at this
  exact this
theorem stC_reader {g fs : List (Option V)} {ce : Nat → CE} {x : CE} (h : MkC 2 g ce) : MkC 28 fs (va_up (ceX4 3 2 (va_up ce 2 x)) 0 (.inl (9, fs))) := by
  refine stC_sub (N := 2) (f := ceX4 3 2) (by decide) h (fun b hb => ceX4_old (by omega) (by omega)) (fun b h1 h2 h3 => ?_)
  by_cases e2 : b = 2
  · rw [e2, ceX4_a (by decide), EC_2]
  · by_cases e7 : b < 8
    · have := ceX4_tk (N := 3) (a := 2) (i := b - 3) (ce := va_up ce 2 x) (by decide) (by omega)
      have e := EC_tok (i := b - 3) (by omega)
      rw [show relA (3 + 1) 3 (b - 3) = b by unfold relA; by_cases q : b - 3 = 0 <;> simp only [q, if_true, if_false] <;> omega] at this
      rw [show relA 4 3 (b - 3) = b by unfold relA; by_cases q : b - 3 = 0 <;> simp only [q, if_true, if_false] <;> omega] at e
      rw [this, e]
    · by_cases e27 : b = 27
      · rw [e27, EC_27]; exact ceX4_n24 (N := 3) (by decide)
      · have := ceX4_pl (N := 3) (a := 2) (i := b - 8) (ce := va_up ce 2 x) (by decide) (by omega)
        have e := EC_rplan (i := b - 8) (by omega)
        rw [show relA (3 + 6) (3 + 5) (b - 8) = b by unfold relA; by_cases q : b - 8 = 0 <;> simp only [q, if_true, if_false] <;> omega] at this
        rw [show relA 9 8 (b - 8) = b by unfold relA; by_cases q : b - 8 = 0 <;> simp only [q, if_true, if_false] <;> omega] at e
        rw [this, e]
theorem stC_plan {g fs : List (Option V)} {ce : Nat → CE} {x : CE} (h : MkC 28 g ce) : MkC 47 fs (va_up (liftCe 29 28 18 (va_up ce 28 x) (ceOf shP (clrP 0 μZ))) 0 (.inl (9, fs))) := by
  refine stC_sub (N := 28) (f := fun c => liftCe 29 28 18 c (ceOf shP (clrP 0 μZ))) (by decide) h (fun b hb => liftCe_old (by omega) (by omega)) (fun b h1 h2 h3 => ?_)
  have e := EC_plan (i := b - 28) (by omega)
  show liftCe 29 28 18 (va_up ce 28 x) (ceOf shP (clrP 0 μZ)) b = _
  by_cases q : b = 28
  · subst q
    unfold liftCe
    rw [if_pos rfl]
    exact e.symm
  · unfold relA at e
    rw [if_neg (by omega), show 29 + (b - 28) - 1 = b by omega] at e
    unfold liftCe
    rw [if_neg q, if_pos (by omega), show b - 29 + 1 = b - 28 by omega]
    exact e.symm
theorem ceT_7 : rnC πC (ceT shK μC0 9) = .inl (7, [some (vr 3 0 28), some (vr 11 2048 48), some (vr 11 2048 49), some (vr 11 48 50), some (vi 0), some (vi 0)]) := by
  rw [ceT_o (t := 7) (by decide +kernel) (by decide), show nf 7 = 6 by decide +kernel]
  rfl
theorem stC_weaver {g fs : List (Option V)} {ce : Nat → CE} {x : CE} (h : MkC 47 g ce) : MkC 51 fs (va_up (ceX7 48 47 28 (va_up ce 47 x)) 0 (.inl (9, fs))) := by
  refine stC_sub (N := 47) (f := ceX7 48 47 28) (by decide) h (fun b hb => ceX7_old (by omega) (by omega)) (fun b h1 h2 h3 => ?_)
  rcases (show b = 47 ∨ b = 48 ∨ b = 49 ∨ b = 50 by omega) with e | e | e | e
  · rw [e, ceX7_a (by decide)]; exact (((EC_of (a := 9) (by decide))).trans ceT_7).symm
  · rw [e, ceX7_n0 (by decide), EC_arr (a := 10) (t := 11) (n := 2048) (by decide +kernel) (by decide) (Or.inl (by decide)) (by decide +kernel) (by decide) (by decide) (by decide)]
  · rw [e]; exact (ceX7_n1 (N := 48) (by decide)).trans (EC_arr (a := 11) (t := 11) (n := 2048) (by decide +kernel) (by decide) (Or.inl (by decide)) (by decide +kernel) (by decide) (by decide) (by decide)).symm
  · rw [e]; exact (ceX7_n2 (N := 48) (by decide)).trans (EC_arr (a := 12) (t := 11) (n := 48) (by decide +kernel) (by decide) (Or.inl (by decide)) (by decide +kernel) (by decide) (by decide) (by decide)).symm
theorem stC_scene {b0 : Nat} {g fs : List (Option V)} {ce : Nat → CE} {x : CE} (h1' : 1 ≤ b0) (hE : ∀ j, j < 5 → EC (b0 + j) = scn b0 j) (h : MkC b0 g ce) : MkC (b0 + 5) fs (va_up (ceX5 (b0 + 1) b0 (va_up ce b0 x)) 0 (.inl (9, fs))) := by
  refine stC_sub (N := b0) (f := ceX5 (b0 + 1) b0) h1' h (fun b hb => ceX5_old (by omega) (by omega)) (fun b h1 h2 h3 => ?_)
  have e := hE (b - b0) (by omega)
  have c := ceX5_all (b := b0) (ce := va_up ce b0 x) (show b - b0 < 5 by omega)
  rw [show b0 + (b - b0) = b by omega] at e c
  rw [e]; exact c
theorem ceT_2 : rnC πC (ceT shK μC0 23) = .inl (2, [some (vr 15 30 62), some (vi 0), some (vi 0)]) := by
  rw [ceT_o (t := 2) (by decide +kernel) (by decide), show nf 2 = 3 by decide +kernel]
  rfl
theorem stC_past {g fs : List (Option V)} {ce : Nat → CE} {x : CE} (h : MkC 61 g ce) : MkC 213 fs (va_up (ceX2 62 61 (va_up ce 61 x)) 0 (.inl (9, fs))) := by
  refine stC_sub (N := 61) (f := ceX2 62 61) (by decide) h (fun b hb => ceX2_old (by omega) (by omega)) (fun b h1 h2 h3 => ?_)
  by_cases e1 : b = 61
  · rw [e1, ceX2_a (by decide)]; exact ((EC_of (a := 23) (by decide)).trans ceT_2).symm
  · by_cases e2 : b = 62
    · rw [e2, ceX2_arr (by decide)]
      have q := EC_of (a := 24) (by decide)
      rw [show πC 24 = 62 by decide +kernel, ceT_q (t := 15) (n := 30) (by decide +kernel) (by decide)] at q
      rw [q]
      have : paF 62 30 = fun j => (if j < 30 then some (24 + 1 + (et 15).2.2 * j) else none).map πC := by
        funext j
        rw [paF_at]
        by_cases hj : j < 30
        · rw [if_pos hj, if_pos hj]
          show some (62 + 1 + 5 * j) = some (πC (24 + 1 + 5 * j))
          rw [π_mid (by omega) (by omega)]
          congr 1
          omega
        · rw [if_neg hj, if_neg hj]; rfl
      rw [this]
    · have e := EC_past (i := (b - 63) / 5) (by omega) ((b - 63) % 5) (by omega)
      have c := ceX2_sc (N := 62) (a := 61) (ce := va_up ce 61 x) (i := (b - 63) / 5) (j := (b - 63) % 5) (by omega) (by omega)
      rw [show 63 + 5 * ((b - 63) / 5) + (b - 63) % 5 = b by omega] at e
      rw [show 62 + 1 + 5 * ((b - 63) / 5) + (b - 63) % 5 = b by omega] at c
      rw [e]; exact c
theorem ceT_8 : rnC πC (ceT shK μC0 192) = .inl (8, [some (vr 11 20 216), some (vr 11 20 217), some (vr 11 20 218), some (vi 0), some (vi 0), some (vi 0), some (vr 16 4 219), some (vr 11 192 224), some (vi 0), some (vr 11 10 225)]) := by
  rw [ceT_o (t := 8) (by decide +kernel) (by decide), show nf 8 = 10 by decide +kernel]
  rfl
theorem EC_l {a b t n : Nat} (h1 : 191 ≤ a) (h2 : a < 214) (hb : b = a + 23) (h : shK a = (t, n)) (t1 : 11 ≤ t) (t2 : t < 15) (t3 : t ≠ 13) : EC b = .inr (t, n, .inl (fun _ => 0)) := EC_arr (a := a) (by rw [π_late h1 h2]; exact hb) h2 (Or.inl (by omega)) h t1 t2 t3
theorem stC_witness {g fs : List (Option V)} {ce : Nat → CE} {x : CE} (h : MkC 215 g ce) : MkC 226 fs (va_up (ceX8 216 215 (va_up ce 215 x)) 0 (.inl (9, fs))) := by
  refine stC_sub (N := 215) (f := ceX8 216 215) (by decide) h (fun b hb => ceX8_old (by omega) (by omega)) (fun b h1 h2 h3 => ?_)
  rcases (show b = 215 ∨ b = 216 ∨ b = 217 ∨ b = 218 ∨ b = 219 ∨ (220 ≤ b ∧ b < 224) ∨ b = 224 ∨ b = 225 by omega) with e | e | e | e | e | e | e | e
  · rw [e, ceX8_a (by decide)]; exact ((EC_of (a := 192) (by decide)).trans ceT_8).symm
  · rw [e]; exact (ceX8_n0 (N := 216) (by decide)).trans (EC_l (a := 193) (by decide) (by decide) rfl (by decide +kernel) (by decide) (by decide) (by decide)).symm
  · rw [e]; exact (ceX8_n1 (N := 216) (by decide)).trans (EC_l (a := 194) (by decide) (by decide) rfl (by decide +kernel) (by decide) (by decide) (by decide)).symm
  · rw [e]; exact (ceX8_n2 (N := 216) (by decide)).trans (EC_l (a := 195) (by decide) (by decide) rfl (by decide +kernel) (by decide) (by decide) (by decide)).symm
  · rw [e]
    refine (ceX8_n3 (N := 216) (by decide)).trans ?_
    have q := EC_of (a := 196) (by decide)
    rw [show πC 196 = 219 by decide +kernel, ceT_q (t := 16) (n := 4) (by decide +kernel) (by decide)] at q
    rw [q]
    have : (fun i => if i < 4 then some (216 + 3 + 1 + i) else none) = fun j => (if j < 4 then some (196 + 1 + (et 16).2.2 * j) else none).map πC := by
      funext j
      by_cases hj : j < 4
      · rw [if_pos hj, if_pos hj]
        show some (216 + 3 + 1 + j) = some (πC (196 + 1 + 1 * j))
        rw [π_late (by omega) (by omega)]
        congr 1
        omega
      · rw [if_neg hj, if_neg hj]; rfl
    rw [this]
  · have c := ceX8_m (N := 216) (a := 215) (ce := va_up ce 215 x) (j := b - 220) (by decide) (by omega)
    rw [show 216 + 3 + 1 + (b - 220) = b by omega] at c
    rw [c]
    refine (EC_l (a := b - 23) (by omega) (by omega) (by omega) ?_ (by decide) (by decide) (by decide)).symm
    rcases (show b = 220 ∨ b = 221 ∨ b = 222 ∨ b = 223 by omega) with z | z | z | z <;> rw [z] <;> decide +kernel
  · rw [e]; exact (ceX8_n8 (N := 216) (by decide)).trans (EC_l (a := 201) (by decide) (by decide) rfl (by decide +kernel) (by decide) (by decide) (by decide)).symm
  · rw [e]; exact (ceX8_n9 (N := 216) (by decide)).trans (EC_l (a := 202) (by decide) (by decide) rfl (by decide +kernel) (by decide) (by decide) (by decide)).symm
theorem ceT_0 : rnC πC (ceT shK μC0 203) = .inl (0, [some (vr 11 4 227), some (vr 11 4 228), some (vr 11 4 229), some (vr 17 5 230), some (vi 0), some (vi 0), some (vi 0)]) := by
  rw [ceT_o (t := 0) (by decide +kernel) (by decide), show nf 0 = 7 by decide +kernel]
  rfl
theorem stC_cutter {g fs : List (Option V)} {ce : Nat → CE} {x : CE} (h : MkC 226 g ce) : MkC 236 fs (va_up (ceX0 227 226 (va_up ce 226 x)) 0 (.inl (9, fs))) := by
  refine stC_sub (N := 226) (f := ceX0 227 226) (by decide) h (fun b hb => ceX0_old (by omega) (by omega)) (fun b h1 h2 h3 => ?_)
  rcases (show b = 226 ∨ b = 227 ∨ b = 228 ∨ b = 229 ∨ b = 230 ∨ (231 ≤ b ∧ b < 236) by omega) with e | e | e | e | e | e
  · rw [e, ceX0_a (by decide)]; exact ((EC_of (a := 203) (by decide)).trans ceT_0).symm
  · rw [e]; exact (ceX0_n0 (N := 227) (by decide)).trans (EC_l (a := 204) (by decide) (by decide) rfl (by decide +kernel) (by decide) (by decide) (by decide)).symm
  · rw [e]; exact (ceX0_n1 (N := 227) (by decide)).trans (EC_l (a := 205) (by decide) (by decide) rfl (by decide +kernel) (by decide) (by decide) (by decide)).symm
  · rw [e]; exact (ceX0_n2 (N := 227) (by decide)).trans (EC_l (a := 206) (by decide) (by decide) rfl (by decide +kernel) (by decide) (by decide) (by decide)).symm
  · rw [e]
    refine (ceX0_n3 (N := 227) (by decide)).trans ?_
    have q := EC_of (a := 207) (by decide)
    rw [show πC 207 = 230 by decide +kernel, ceT_q (t := 17) (n := 5) (by decide +kernel) (by decide)] at q
    rw [q]
    have : (fun i => if i < 5 then some (227 + 3 + 1 + i) else none) = fun j => (if j < 5 then some (207 + 1 + (et 17).2.2 * j) else none).map πC := by
      funext j
      by_cases hj : j < 5
      · rw [if_pos hj, if_pos hj]
        show some (227 + 3 + 1 + j) = some (πC (207 + 1 + 1 * j))
        rw [π_late (by omega) (by omega)]
        congr 1
        omega
      · rw [if_neg hj, if_neg hj]; rfl
    rw [this]
  · have c := ceX0_m (N := 227) (a := 226) (ce := va_up ce 226 x) (j := b - 231) (by decide) (by omega)
    rw [show 227 + 3 + 1 + (b - 231) = b by omega] at c
    rw [c]
    refine (EC_l (a := b - 23) (by omega) (by omega) (by omega) ?_ (by decide) (by decide) (by decide)).symm
    rcases (show b = 231 ∨ b = 232 ∨ b = 233 ∨ b = 234 ∨ b = 235 by omega) with z | z | z | z | z <;> rw [z] <;> decide +kernel
