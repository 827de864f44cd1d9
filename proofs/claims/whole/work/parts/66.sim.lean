/-! ===== both sides: what holds between calls ===== -/
theorem Kq.p {S : Fr} {T : Nat → Nat → Prop} {μ μ' : Mem} (h : Kq T μ μ') (m : ∀ a k, S a k = false → ¬ T a k) : Kp S μ μ' := ⟨h.1, fun a k q => h.2 a k (m a k q)⟩
def isByte (v : Int32) : Prop := -128 ≤ v.toInt ∧ v.toInt ≤ 127
def TapeR (μC μM : Mem) : Prop := ∃ T, T ≤ 2000 ∧ μC.1 0 1 = nI T ∧ μM.1 0 2 = nI T ∧ (∀ k, k < T → μC.1 1 k = μM.1 1 k ∧ isByte (μC.1 1 k)) ∧ μC.1 0 2 = μM.1 0 17
def PastR (P : Pl) (B t nx : Nat) (H : Nat → Nat → Nat) (μC μM : Mem) : Prop := t ≤ 30 ∧ nx < 30 ∧ μC.1 23 2 = nI t ∧ μC.1 23 1 = nI nx ∧ μM.1 0 53 = nI t ∧ ∀ i, i < t → RowC P (25 + 5 * ((nx + 29 - i) % 30)) μC (H i) ∧ SW P B (H i) ∧ ∀ k, k < 92 → μM.1 35 (92 * (t - 1 - i) + k) = nI (H i k)
def SlotR (P : Pl) (B : Nat) (hd : Nat → Bool) (S : Nat → Nat → Nat) (μC μM : Mem) : Prop := ∀ s, s < 3 → μC.1 191 s = bI (hd s) ∧ μM.1 45 s = bI (hd s) ∧ (hd s = true → RowC P (176 + 5 * s) μC (S s) ∧ SW P B (S s) ∧ ∀ k, k < 92 → μM.1 46 (92 * s + k) = nI (S s k))
def ToldR (P : Pl) (t : Nat) (X Y W : Nat → Nat) (μC μM : Mem) : Prop := t ≤ 20 ∧ μC.1 192 3 = nI t ∧ μM.1 0 65 = nI t ∧ ∀ i, i < t → X i < pW P ∧ Y i < pH P ∧ W i ≤ 999 ∧ μC.1 193 i = nI (X i) ∧ μC.1 194 i = nI (Y i) ∧ μC.1 195 i = nI (W i) ∧ μM.1 41 i = nI (8 * Y i + X i) ∧ μM.1 42 i = nI (W i)
/-- the words, by their letters -/
def wdL : List (List Nat) := [[18, 15, 23], [6, 9, 5, 12, 4], [12, 15, 15, 13], [23, 5, 1, 22, 5, 19], [4, 18, 9, 5, 19], [7, 1, 20, 8, 5, 18, 19], [19, 20, 15, 18, 5], [7, 21, 19, 20, 19], [19, 5, 5, 4], [9, 6], [20, 8, 5, 14], [5, 12, 19, 5], [19, 8, 5, 4], [23, 1, 18, 16], [16, 9, 3, 11], [23, 1, 20, 5, 18], [14, 5, 5, 4, 19], [4, 18, 15, 23, 14, 19], [4, 1, 25], [23, 8, 9, 3, 8], [23, 9, 4, 5]]
def nm (B : Nat) (cs : List Nat) : Nat := cs.foldl (fun a c => a * B + c) 0
def VZ (q : Nat) (μ : Mem) : Prop := (μ.1 (q + 10) 3 = 0 ∧ μ.1 (q + 10) 4 = 0 ∧ μ.1 (q + 10) 5 = 0 ∧ μ.1 (q + 10) 6 = 0) ∧ (μ.1 (q + 14) 0 = 0 ∧ μ.1 (q + 14) 1 = 0 ∧ μ.1 (q + 14) 2 = 0 ∧ μ.1 (q + 14) 7 = 0 ∧ μ.1 (q + 14) 8 = 0) ∧ ∀ i, i < 9 → i ≠ 6 → μ.1 (q + 18) i = 0
def RdR (p : Nat) (μC μM : Mem) : Prop := μC.2.2 2 1 = 447 - p ∧ VZ (447 - p) μC ∧ (∀ i, i < 21 → μC.2.1 4 i = Int64.ofNat (nm 32 (wdL.getD i []))) ∧ ∀ i, i < 21 → μM.2.1 7 i = Int64.ofNat (nm 27 (wdL.getD i []))
def SimP (n : Nat) (P : Pl) (p : Nat) (r : Nat → Nat) (μC μM : Mem) : Prop := (CP P p μC ∧ Kc P μC ∧ RowC P 13 μC r) ∧ (MP P μM ∧ RowM μM 33 r) ∧ SW P (99 + 720 * n) r ∧ TapeR μC μM ∧ (∃ t nx H, PastR P (99 + 720 * n) t nx H μC μM) ∧ (∃ hd S, SlotR P (99 + 720 * n) hd S μC μM) ∧ (∃ t X Y W, ToldR P t X Y W μC μM) ∧ RdR p μC μM
def Sim (n : Nat) (μC μM : Mem) : Prop := ∃ P p r, SimP n P p r μC μM
/-- what a question may leave behind -/
def scC (p a k : Nat) : Prop := (a = 9 ∧ (k = 4 ∨ k = 5)) ∨ (10 ≤ a ∧ a ≤ 12) ∨ (18 ≤ a ∧ a ≤ 22) ∨ (a = 192 ∧ (k = 4 ∨ k = 5 ∨ k = 8)) ∨ (196 ≤ a ∧ a ≤ 213) ∨ a = p + 9 ∨ a = p + 13 ∨ a = p + 17 ∨ (a = p + 10 ∧ (k = 0 ∨ k = 1 ∨ k = 2 ∨ k = 7 ∨ k = 8)) ∨ (a = p + 14 ∧ (k = 3 ∨ k = 4 ∨ k = 5 ∨ k = 6)) ∨ (a = p + 18 ∧ k = 6)
def scM (a k : Nat) : Prop := a = 31 ∨ a = 32 ∨ a = 34 ∨ (36 ≤ a ∧ a ≤ 40) ∨ a = 43 ∨ a = 44 ∨ (a = 0 ∧ (k = 49 ∨ k = 52 ∨ k = 55 ∨ k = 56 ∨ k = 61 ∨ k = 62 ∨ k = 63))
theorem scC_n {p : Nat} {μ μ' : Mem} (hp : p = 214 ∨ p = 233) (h : Kq (scC p) μ μ') : Kq (nPl p) μ μ' := h.mono fun a k q => by
  unfold scC at q
  unfold nPl
  omega
theorem scM_M {μ μ' : Mem} (h : Kq scM μ μ') : Kp fM μ μ' := h.p fun a k q => by
  unfold fM at q
  by_cases h0 : a = 0
  · subst h0
    rw [if_pos rfl] at q
    have : k = 18 := by simpa using q
    subst this
    unfold scM
    omega
  · rw [if_neg h0] at q
    have : ¬ a < 9 ∧ ¬ 29 < a := by simpa using q
    unfold scM
    omega
theorem SimP.scr {n p : Nat} {P : Pl} {r : Nat → Nat} {μC μM μC' μM' : Mem} (h : SimP n P p r μC μM) (kC : Kq (scC p) μC μC') (hK : Kc P μC') (kM : Kq scM μM μM') : SimP n P p r μC' μM' := by
  obtain ⟨⟨hC, _, hR⟩, ⟨hM, hRM⟩, hS, hT, ⟨t, nx, H, hP⟩, ⟨hd, S, hSl⟩, ⟨tt, X, Y, W, hW⟩, hD⟩ := h
  have hpp := hC.pp
  have eC : ∀ a k, ¬ scC p a k → μC'.1 a k = μC.1 a k := kC.2
  have eM : ∀ a k, ¬ scM a k → μM'.1 a k = μM.1 a k := kM.2
  have rC : ∀ s, 13 ≤ s ∧ s + 4 < 18 ∨ 23 ≤ s ∧ s + 4 < 192 → ∀ r, RowC P s μC r → RowC P s μC' r := fun s hs r q => q.kq kC fun a j q1 q2 => by unfold scC; omega
  refine ⟨⟨hC.kq (scC_n hpp kC), hK, rC 13 (by omega) r hR⟩, ⟨hM.kp (scM_M kM), fun k hk => by rw [eM _ _ (by unfold scM; omega)]; exact hRM k hk⟩, hS, ?_, ⟨t, nx, H, ?_⟩, ⟨hd, S, ?_⟩, ⟨tt, X, Y, W, ?_⟩, ?_⟩
  · obtain ⟨T, t1, t2, t3, t4, t5⟩ := hT
    refine ⟨T, t1, by rw [eC _ _ (by unfold scC; omega)]; exact t2, by rw [eM _ _ (by unfold scM; omega)]; exact t3, fun k hk => ?_, by rw [eC _ _ (by unfold scC; omega), eM _ _ (by unfold scM; omega)]; exact t5⟩
    rw [eC _ _ (by unfold scC; omega), eM _ _ (by unfold scM; omega)]
    exact t4 k hk
  · obtain ⟨p1, p2, p3, p4, p5, p6⟩ := hP
    refine ⟨p1, p2, by rw [eC _ _ (by unfold scC; omega)]; exact p3, by rw [eC _ _ (by unfold scC; omega)]; exact p4, by rw [eM _ _ (by unfold scM; omega)]; exact p5, fun i hi => ⟨rC _ (by omega) _ (p6 i hi).1, (p6 i hi).2.1, fun k hk => ?_⟩⟩
    rw [eM _ _ (by unfold scM; omega)]
    exact (p6 i hi).2.2 k hk
  · intro s hs
    obtain ⟨q1, q2, q3⟩ := hSl s hs
    refine ⟨by rw [eC _ _ (by unfold scC; omega)]; exact q1, by rw [eM _ _ (by unfold scM; omega)]; exact q2, fun hh => ⟨rC _ (by omega) _ (q3 hh).1, (q3 hh).2.1, fun k hk => ?_⟩⟩
    rw [eM _ _ (by unfold scM; omega)]
    exact (q3 hh).2.2 k hk
  · obtain ⟨q1, q2, q3, q4⟩ := hW
    refine ⟨q1, by rw [eC _ _ (by unfold scC; omega)]; exact q2, by rw [eM _ _ (by unfold scM; omega)]; exact q3, fun i hi => ?_⟩
    rw [eC _ _ (by unfold scC; omega), eC _ _ (by unfold scC; omega), eC _ _ (by unfold scC; omega), eM _ _ (by unfold scM; omega), eM _ _ (by unfold scM; omega)]
    exact q4 i hi
  · obtain ⟨d1, ⟨⟨z1, z2, z3, z4⟩, ⟨y1, y2, y3, y4, y5⟩, x1⟩, d3, d4⟩ := hD
    refine ⟨by rw [kC.1]; exact d1, ⟨⟨?_, ?_, ?_, ?_⟩, ⟨?_, ?_, ?_, ?_, ?_⟩, fun i q1 q2 => ?_⟩, fun i hi => by rw [kC.1]; exact d3 i hi, fun i hi => by rw [kM.1]; exact d4 i hi⟩
    · rw [eC _ _ (by unfold scC; omega)]; exact z1
    · rw [eC _ _ (by unfold scC; omega)]; exact z2
    · rw [eC _ _ (by unfold scC; omega)]; exact z3
    · rw [eC _ _ (by unfold scC; omega)]; exact z4
    · rw [eC _ _ (by unfold scC; omega)]; exact y1
    · rw [eC _ _ (by unfold scC; omega)]; exact y2
    · rw [eC _ _ (by unfold scC; omega)]; exact y3
    · rw [eC _ _ (by unfold scC; omega)]; exact y4
    · rw [eC _ _ (by unfold scC; omega)]; exact y5
    · rw [eC _ _ (by unfold scC; omega)]; exact x1 i q1 q2
theorem SimP.next {n p : Nat} {P : Pl} {r : Nat → Nat} {μC μM : Mem} (h : SimP n P p r μC μM) : Sim (n + 1) μC μM := by
  obtain ⟨h1, h2, hS, hT, ⟨t, nx, H, hP⟩, ⟨hd, S, hSl⟩, hW, hD⟩ := h
  refine ⟨P, p, r, h1, h2, hS.mono (by omega), hT, ⟨t, nx, H, ?_⟩, ⟨hd, S, ?_⟩, hW, hD⟩
  · obtain ⟨p1, p2, p3, p4, p5, p6⟩ := hP
    exact ⟨p1, p2, p3, p4, p5, fun i hi => ⟨(p6 i hi).1, (p6 i hi).2.1.mono (by omega), (p6 i hi).2.2⟩⟩
  · intro s hs
    obtain ⟨q1, q2, q3⟩ := hSl s hs
    exact ⟨q1, q2, fun hh => ⟨(q3 hh).1, (q3 hh).2.1.mono (by omega), (q3 hh).2.2⟩⟩
/-- one call, done on both sides -/
def Both (fC fM : Mem → Int32 → Mem → Prop) (n : Nat) : Prop := ∀ μC μM, Sim n μC μM → ∃ x μC' μM', fC μC x μC' ∧ fM μM x μM' ∧ Sim (n + 1) μC' μM'
theorem call_place {d n : Nat} : Both (X9_place d) (X10_place d) n := by
  rintro μC μM ⟨P, p, r, h⟩
  obtain ⟨T, t1, t2, t3, t4, t5⟩ := h.2.2.2.1
  exact ⟨_, μC, μM, X9_place_ok ⟨rfl, rfl⟩, X10_place_ok ⟨t5, rfl⟩, h.next⟩
theorem sw3 {x : Int32} {k : Nat} (hk : k < 100) (h : x = nI k) : ∀ j : Nat, j < 100 → j ≠ k → x ≠ nI j := fun j hj hne e => by
  rw [h] at e
  exact hne (nI_inj (by omega) (by omega) e).symm
/-- a switch of the machine: a small number or one outside -/
theorem i_cases {x : Int32} (n : Nat) (hn : n < 2 ^ 31) : (∃ k, k < n ∧ x = nI k) ∨ (x.toInt < 0 ∨ (n : Int) - 1 < x.toInt) := by
  by_cases h : x < 0
  · right; left
    rw [Int32.lt_iff_toInt_lt] at h
    simpa using h
  · obtain ⟨k, hk, rfl⟩ := nI_ex (i_nlt h)
    by_cases q : k < n
    · exact Or.inl ⟨k, q, rfl⟩
    · right; right
      rw [nI_toInt hk]
      omega
theorem inN_ex {x : Int32} {n : Nat} (h : inN x n = true) : ∃ k, k < n ∧ x = nI k := vp_nI (inN_iff.mp h)
theorem fC_scM {μ μ' : Mem} (h : Kp fC μ μ') : Kq scM μ μ' := h.q fun a k q => by
  have : a = 34 ∨ a = 0 ∧ k = 52 := by simpa [fC] using q
  unfold scM
  omega
theorem fV_scM {μ μ' : Mem} (h : Kp fVr μ μ') : Kq scM μ μ' := h.q fun a k q => by
  have : (a = 31 ∨ a = 32) ∨ a = 0 ∧ k = 49 := by simpa [fVr] using q
  unfold scM
  omega
theorem fR_scM {μ μ' : Mem} (h : Kp fR μ μ') : Kq scM μ μ' := h.q fun a k q => by
  have : a = 34 ∨ (a = 31 ∨ a = 32) ∨ a = 0 ∧ k = 49 := by simpa [fR] using q
  unfold scM
  omega
theorem sWv_sc {p : Nat} {μ μ' : Mem} (h : Kq (sWv p) μ μ') : Kq (scC p) μ μ' := h.mono fun a k q => by
  unfold sWv at q
  unfold scC
  omega
theorem sDy_sc {p : Nat} {μ μ' : Mem} (h : Kq (sDy p 18) μ μ') : Kq (scC p) μ μ' := h.mono fun a k q => by
  unfold sDy sWv at q
  unfold scC
  omega
