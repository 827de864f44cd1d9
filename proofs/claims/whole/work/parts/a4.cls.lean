/-! ===== RainLoom(): the picture that its making leaves ===== -/
def scSh (j : Nat) : Nat × Nat := if j = 0 then (5, 0) else if j = 1 then (11, 48) else if j = 2 then (11, 32) else (11, 6)
def shK (a : Nat) : Nat × Nat :=
  if a < 13 then [(9, 0), (12, 2000), (4, 0), (6, 0), (13, 21), (11, 401), (11, 401), (13, 401), (13, 10), (7, 0), (11, 2048), (11, 2048), (11, 48)].getD a (11, 0)
  else if a < 18 then scSh (a - 13) else if a < 23 then scSh (a - 18) else if a = 23 then (2, 0) else if a = 24 then (15, 30)
  else if a < 175 then scSh ((a - 25) % 5) else if a = 175 then (15, 3) else if a < 191 then scSh ((a - 176) % 5)
  else if a < 214 then [(14, 3), (8, 0), (11, 20), (11, 20), (11, 20), (16, 4), (11, 48), (11, 48), (11, 48), (11, 48), (11, 192), (11, 10), (0, 0), (11, 4), (11, 4), (11, 4), (17, 5), (11, 8), (11, 8), (11, 8), (11, 8), (11, 8), (11, 4)].getD (a - 191) (11, 0)
  else if a < 233 then shP (a - 214) else shP (a - 233)
theorem shK_C : Closed 252 shK := ⟨by decide +kernel, by decide +kernel, by decide +kernel⟩
def iC0 (a : Nat) : Nat → Int32 := if a = 0 then (fun k => if k = 2 then -1 else 0) else if a = 2 then (fun k => if k = 3 then 32 else if k = 7 then -1 else if k = 9 then -1 else 0) else if a < 214 then (fun _ => 0) else if a < 233 then (clrP 0 μZ).1 (a - 214) else (clrP 0 μZ).1 (a - 233)
def lC0 (a : Nat) : Nat → Int64 := if a = 4 then μT.2.1 1 else fun _ => 0
def pC0 (a _k : Nat) : Nat := if a = 2 then 233 else 214
def μC0 : Mem := (iC0, lC0, pC0)
theorem shK_D : Dyn 252 shK μC0 := by
  intro a ha ht k hk hf
  show pC0 a k < 252 ∧ shK (pC0 a k) = (3, 0)
  unfold pC0
  by_cases e : a = 2
  · rw [if_pos e]; exact ⟨by decide, by decide +kernel⟩
  · rw [if_neg e]; exact ⟨by decide, by decide +kernel⟩
def πC (a : Nat) : Nat := if a < 8 then a else if a = 8 then 27 else if a < 176 then a + 38 else if a < 191 then a + 61 else if a < 214 then a + 23 else if a < 233 then a - 186 else if a < 252 then a - 225 else a
def σC (b : Nat) : Nat := if b < 8 then b else if b < 27 then b + 225 else if b = 27 then 8 else if b < 47 then b + 186 else if b < 214 then b - 38 else if b < 237 then b - 23 else if b < 252 then b - 61 else b
theorem ordC : Ord 252 πC σC := by
  refine ⟨by decide +kernel, by decide +kernel, fun a ha => ?_, rfl⟩
  unfold πC
  rw [if_neg (by omega), if_neg (by omega), if_neg (by omega), if_neg (by omega), if_neg (by omega), if_neg (by omega), if_neg (by omega)]
theorem π_mid {a : Nat} (h1 : 9 ≤ a) (h2 : a < 176) : πC a = a + 38 := by unfold πC; rw [if_neg (by omega), if_neg (by omega), if_pos h2]
theorem π_slot {a : Nat} (h1 : 176 ≤ a) (h2 : a < 191) : πC a = a + 61 := by unfold πC; rw [if_neg (by omega), if_neg (by omega), if_neg (by omega), if_pos h2]
theorem π_late {a : Nat} (h1 : 191 ≤ a) (h2 : a < 214) : πC a = a + 23 := by unfold πC; rw [if_neg (by omega), if_neg (by omega), if_neg (by omega), if_neg (by omega), if_pos h2]
theorem π_pl {i : Nat} (h : i < 19) : πC (214 + i) = relA 29 28 i := (by decide +kernel : ∀ i, i < 19 → πC (214 + i) = relA 29 28 i) i h
theorem π_rp {i : Nat} (h : i < 19) : πC (233 + i) = relA 9 8 i := (by decide +kernel : ∀ i, i < 19 → πC (233 + i) = relA 9 8 i) i h
def EC : Nat → CE := ceS πC σC shK μC0
theorem EC_of {a : Nat} (h : a < 252) : EC (πC a) = rnC πC (ceT shK μC0 a) := by
  show rnC πC (ceT shK μC0 (σC (πC a))) = _
  rw [(ordC.1 a h).2]
theorem i0_mid {a : Nat} (h1 : 3 ≤ a) (h2 : a < 214) : iC0 a = fun _ => 0 := by
  unfold iC0
  rw [if_neg (by omega), if_neg (by omega), if_pos h2]
theorem ceT_a {a t n : Nat} (h : shK a = (t, n)) (h1 : 11 ≤ t) (h2 : t < 15) (h3 : t ≠ 13) (hi : iC0 a = fun _ => 0) : rnC πC (ceT shK μC0 a) = .inr (t, n, .inl (fun _ => 0)) := by
  unfold ceT
  rw [h]
  show rnC πC (if t < 11 then _ else .inr (t, n, if t = 13 then _ else if t < 15 then .inl (iC0 a) else _)) = _
  rw [if_neg (by omega), if_neg h3, if_pos h2, hi]
  rfl
theorem ceT_l {a n : Nat} (h : shK a = (13, n)) (hi : lC0 a = fun _ => 0) : rnC πC (ceT shK μC0 a) = .inr (13, n, .inr (.inl (fun _ => 0))) := by
  unfold ceT
  rw [h]
  show (.inr (13, n, .inr (.inl (lC0 a))) : CE) = _
  rw [hi]
theorem ceT_q {a t n : Nat} (h : shK a = (t, n)) (h1 : 15 ≤ t) : rnC πC (ceT shK μC0 a) = .inr (t, n, .inr (.inr (fun j => (if j < n then some (a + 1 + (et t).2.2 * j) else none).map πC))) := by
  unfold ceT
  rw [h]
  show rnC πC (if t < 11 then _ else .inr (t, n, if t = 13 then _ else if t < 15 then _ else .inr (.inr (fun j => if j < n then some (a + 1 + (et t).2.2 * j) else none)))) = _
  rw [if_neg (by omega), if_neg (by omega), if_neg (by omega)]
  rfl
theorem ceT_o {a t : Nat} (h : shK a = (t, 0)) (h1 : t < 11) : rnC πC (ceT shK μC0 a) = .inl (t, (List.range (nf t)).map fun k => some (rnV πC (fV μC0 t a k))) := by
  unfold ceT
  rw [h]
  show rnC πC (if t < 11 then .inl (t, (List.range (nf t)).map fun k => some (fV μC0 t a k)) else _) = _
  rw [if_pos h1]
  show (.inl (t, ((List.range (nf t)).map fun k => some (fV μC0 t a k)).map (Option.map (rnV πC))) : CE) = _
  rw [List.map_map]
  rfl
/-- a scene whose cell was made at b: its five cells -/
def scn (b j : Nat) : CE := if j = 0 then .inl (5, [some (vi 0), some (vi 0), some (vr 11 48 (b + 1)), some (vr 11 32 (b + 2)), some (vr 11 6 (b + 3)), some (vr 11 6 (b + 4))]) else if j = 1 then .inr (11, 48, .inl (fun _ => 0)) else if j = 2 then .inr (11, 32, .inl (fun _ => 0)) else .inr (11, 6, .inl (fun _ => 0))
theorem ceX5_all {b j : Nat} {ce : Nat → CE} (hj : j < 5) : ceX5 (b + 1) b ce (b + j) = scn b j := by
  rcases (show j = 0 ∨ j = 1 ∨ j = 2 ∨ j = 3 ∨ j = 4 by omega) with e | e | e | e | e
  · subst e
    show ceX5 (b + 1) b ce b = _
    rw [ceX5_a (by omega)]; rfl
  · subst e
    rw [ceX5_n0 (by omega)]; rfl
  · subst e
    rw [show b + 2 = b + 1 + 1 by omega, ceX5_n1 (by omega)]; rfl
  · subst e
    rw [show b + 3 = b + 1 + 2 by omega, ceX5_n2 (by omega)]; rfl
  · subst e
    rw [show b + 4 = b + 1 + 3 by omega, ceX5_n3 (by omega)]; rfl
theorem nf5 : nf 5 = 6 := by decide +kernel
theorem ceT_5 {a : Nat} (h : shK a = (5, 0)) : rnC πC (ceT shK μC0 a) = .inl (5, [some (vi (iC0 a 0)), some (vi (iC0 a 1)), some (vr 11 48 (πC (a + 1))), some (vr 11 32 (πC (a + 2))), some (vr 11 6 (πC (a + 3))), some (vr 11 6 (πC (a + 4)))]) := by
  rw [ceT_o h (by decide), nf5]
  rfl
theorem EC_scn {s b : Nat} (h3 : 3 ≤ s) (h : s + 4 < 214) (hs : ∀ j, j < 5 → shK (s + j) = scSh j) (hp : ∀ j, j < 5 → πC (s + j) = b + j) : ∀ j, j < 5 → EC (b + j) = scn b j := by
  intro j hj
  rw [← hp j hj, EC_of (by omega)]
  rcases (show j = 0 ∨ j = 1 ∨ j = 2 ∨ j = 3 ∨ j = 4 by omega) with e | e | e | e | e
  · subst e
    rw [ceT_5 (hs 0 (by decide))]
    have e0 : iC0 (s + 0) = fun _ => 0 := i0_mid (by omega) (by omega)
    have p1 := hp 1 (by decide)
    have p2 := hp 2 (by decide)
    have p3 := hp 3 (by decide)
    have p4 := hp 4 (by decide)
    rw [e0, Nat.add_zero, p1, p2, p3, p4]
    rfl
  · subst e
    rw [ceT_a (t := 11) (n := 48) (hs 1 (by decide)) (by decide) (by decide) (by decide) (i0_mid (by omega) (by omega))]; rfl
  · subst e
    rw [ceT_a (t := 11) (n := 32) (hs 2 (by decide)) (by decide) (by decide) (by decide) (i0_mid (by omega) (by omega))]; rfl
  · subst e
    rw [ceT_a (t := 11) (n := 6) (hs 3 (by decide)) (by decide) (by decide) (by decide) (i0_mid (by omega) (by omega))]; rfl
  · subst e
    rw [ceT_a (t := 11) (n := 6) (hs 4 (by decide)) (by decide) (by decide) (by decide) (i0_mid (by omega) (by omega))]; rfl
theorem EC_scene : ∀ j, j < 5 → EC (51 + j) = scn 51 j := EC_scn (s := 13) (by decide) (by decide) (by decide +kernel) (by decide +kernel)
theorem EC_trial : ∀ j, j < 5 → EC (56 + j) = scn 56 j := EC_scn (s := 18) (by decide) (by decide) (by decide +kernel) (by decide +kernel)
theorem EC_past {i : Nat} (hi : i < 30) : ∀ j, j < 5 → EC (63 + 5 * i + j) = scn (63 + 5 * i) j := EC_scn (s := 25 + 5 * i) (by omega) (by omega) (fun j hj => by
  unfold shK
  rw [if_neg (by omega), if_neg (by omega), if_neg (by omega), if_neg (by omega), if_neg (by omega), if_pos (by omega), show (25 + 5 * i + j - 25) % 5 = j by omega]) (fun j hj => by rw [π_mid (by omega) (by omega)]; omega)
theorem EC_slot {i : Nat} (hi : i < 3) : ∀ j, j < 5 → EC (237 + 5 * i + j) = scn (237 + 5 * i) j := EC_scn (s := 176 + 5 * i) (by omega) (by omega) (fun j hj => by
  unfold shK
  rw [if_neg (by omega), if_neg (by omega), if_neg (by omega), if_neg (by omega), if_neg (by omega), if_neg (by omega), if_neg (by omega), if_pos (by omega), show (176 + 5 * i + j - 176) % 5 = j by omega]) (fun j hj => by rw [π_slot (by omega) (by omega)]; omega)
theorem EC_arr {a b t n : Nat} (hb : b = πC a) (ha : a < 214) (h3 : 3 ≤ a ∨ a = 1) (h : shK a = (t, n)) (h1 : 11 ≤ t) (h2 : t < 15) (h4 : t ≠ 13) : EC b = .inr (t, n, .inl (fun _ => 0)) := by
  rw [hb, EC_of (by omega), ceT_a h h1 h2 h4]
  rcases h3 with z | z
  · exact i0_mid z ha
  · rw [z]; rfl
