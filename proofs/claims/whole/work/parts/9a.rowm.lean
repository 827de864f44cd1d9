/-! ===== read: a row told, both sides ===== -/
section Rd
variable {d : Nat}
section
variable {S M : Nat} {T : Nat → Tk}
def rq1 (T : Nat → Tk) (i : Nat) : Qs := acq T 0 (.inl i)
def rq2 (T : Nat → Tk) (i : Nat) : Qs := acq T 21 (rq1 T i)
def rq3 (T : Nat → Tk) (i : Nat) : Qs := acq T 23 (rq2 T i)
theorem rq_at {i j : Nat} : (rq1 T i = .inl j → j = i + 1) ∧ (rq2 T i = .inl j → rq1 T i = .inl (i + 1) ∧ kd T (i + 1) = 21 ∧ j = i + 2) ∧ (rq3 T i = .inl j → rq2 T i = .inl (i + 2) ∧ j = i + 3) := by
  have h1 : ∀ {j}, rq1 T i = .inl j → j = i + 1 := fun {j} h => by
    obtain ⟨x, e1, e2, _, e3⟩ := acq_inl h
    cases e1
    exact e3
  have h2 : ∀ {j}, rq2 T i = .inl j → rq1 T i = .inl (i + 1) ∧ kd T (i + 1) = 21 ∧ j = i + 2 := fun {j} h => by
    obtain ⟨x, e1, e2, _, e3⟩ := acq_inl h
    have := h1 e1
    subst this
    exact ⟨e1, e2, e3⟩
  refine ⟨h1, h2, fun h => ?_⟩
  obtain ⟨x, e1, e2, _, e3⟩ := acq_inl h
  have := (h2 e1).2.2
  subst this
  exact ⟨e1, e3⟩
def misR (r w n : Nat) : Bool := decide (r ≠ 0 ∧ w ≠ n)
def rwC (q a k : Nat) : Prop := (a = 2 ∧ (k = 2 ∨ k = 3 ∨ k = 6 ∨ k = 7 ∨ k = 8 ∨ k = 9)) ∨ (a = q ∧ k ≤ 1) ∨ a = q + 1 ∨ a = q + 2
theorem layRow_c {q r w pl : Nat} {x : List Nat} {l : Lt} {μ : Mem} (hq : 200 < q) (hx : okNm x) (hr : r < 6) (hl : LC' l μ) (hP : μ.2.2 2 1 = q) (hc : μ.1 q 1 = nI r) (hw8 : w ≤ 8) (hw : l.1 = 0 → μ.1 q 0 = nI w) : ∃ μ', X4_layRow (d + 1) (lI (nm 32 x)) (nI pl) μ μ' ∧ LC' (ltS (misR r w x.length || badL x 0 x.length) 6 pl l) μ' ∧ Kz (rlC q) (fun _ => False) μ μ' ∧ μ'.1 q 1 = nI (r + 1) ∧ (l.1 = 0 → μ'.1 q 0 = nI (if r = 0 then x.length else w)) ∧ (∀ c, μ'.1 (q + 1) c = if c / 8 = r ∧ c % 8 < x.length ∧ lt' x (c % 8) ≤ 6 then nI (lt' x (c % 8) - 1) else μ.1 (q + 1) c) ∧ (∀ f, f < 6 → μ'.1 (q + 2) f = μ.1 (q + 2) f + nI (cnL x f 0 x.length)) := by
  have h8 := hx.2.1
  have ln : X6_lengthOf d (lI (nm 32 x)) μ (nI x.length) μ := X6_lengthOf_ok (len_c hx x.length 0 (by omega))
  have fin : ∀ (μ1 : Mem) (b : Bool), (∀ μ', X4_layRow_at47 d (lI (nm 32 x)) (nI pl) (nI x.length) 0 μ1 μ' → X4_layRow (d + 1) (lI (nm 32 x)) (nI pl) μ μ') → LC' (ltS b 6 pl l) μ1 → (l.1 = 0 → b = misR r w x.length) → Kz (rlC q) (fun _ => False) μ μ1 → μ1.1 q 1 = nI r → (l.1 = 0 → μ1.1 q 0 = nI (if r = 0 then x.length else w)) → (∀ c, μ1.1 (q + 1) c = μ.1 (q + 1) c) → (∀ c, μ1.1 (q + 2) c = μ.1 (q + 2) c) → ∃ μ', X4_layRow (d + 1) (lI (nm 32 x)) (nI pl) μ μ' ∧ LC' (ltS (misR r w x.length || badL x 0 x.length) 6 pl l) μ' ∧ Kz (rlC q) (fun _ => False) μ μ' ∧ μ'.1 q 1 = nI (r + 1) ∧ (l.1 = 0 → μ'.1 q 0 = nI (if r = 0 then x.length else w)) ∧ (∀ c, μ'.1 (q + 1) c = if c / 8 = r ∧ c % 8 < x.length ∧ lt' x (c % 8) ≤ 6 then nI (lt' x (c % 8) - 1) else μ.1 (q + 1) c) ∧ (∀ f, f < 6 → μ'.1 (q + 2) f = μ.1 (q + 2) f + nI (cnL x f 0 x.length)) := fun μ1 b go l1 hb k1 r1 r0 s1 s2 => by
    obtain ⟨μ', t1, t2, t3, t4, t5, t6, t7⟩ := rlay_c (d := d) (pl := pl) hq hx hr x.length 0 _ μ1 (by omega) l1 (by rw [k1.2.2]; exact hP) r1
    refine ⟨μ', go _ t1, ?_, k1.trans t3, t4, fun z => t5.trans (r0 z), fun c => ?_, fun f hf => by rw [t7 f hf, s2 f]⟩
    · by_cases e : l.1 = 0
      · rw [ltS_or (by decide), hb e] at t2
        exact t2
      · rw [ltS_n e] at t2 ⊢
        rw [ltS_n e] at t2
        exact t2
    · rw [t6 c, s1 c]
      by_cases y : c / 8 = r ∧ c % 8 < x.length ∧ lt' x (c % 8) ≤ 6
      · rw [if_pos y, if_pos ⟨y.1, Nat.zero_le _, y.2⟩]
      · rw [if_neg y, if_neg (fun z => y ⟨z.1, z.2.2⟩)]
  obtain ⟨μ2, g1, g2, g3⟩ := later_c (d := d) (k := 6) (pl := pl) (by decide) hl
  by_cases r0 : r = 0
  · have k1 : Kz (fun a k => a = q ∧ k = 0) (fun _ => False) μ (sI μ q 0 (nI x.length)) := Kz.sI ⟨rfl, rfl⟩
    refine fin (sI μ q 0 (nI x.length)) false (fun μ' hk => X4_layRow_ok ⟨_, μ, ln, ?_⟩) (hl.n (by omega)) (fun _ => by unfold misR; rw [decide_eq_false (fun z => z.1 r0)]) (Kz.sI (by unfold rlC; omega)) (by rw [sI_k (by decide)]; exact hc) (fun _ => by rw [if_pos r0, sI_1]) (fun c => k1.at (by omega)) (fun c => k1.at (by omega))
    rw [hP, hc, r0]
    refine teq rfl ?_
    rintro μ6 rfl
    rw [sI_2, hP, sI_1]
    exact tpos rfl hk
  · have rn : (nI r : Int32) ≠ 0 := nI_ne0 (by omega) (by omega)
    by_cases e : nI x.length = μ.1 q 0
    · refine fin μ false (fun μ' hk => X4_layRow_ok ⟨_, μ, ln, ?_⟩) hl (fun z => ?_) Kz.refl hc (fun z => by rw [if_neg r0]; exact hw z) (fun _ => rfl) (fun _ => rfl)
      · rw [hP, hc]
        exact tne rn (tpos e hk)
      · unfold misR
        rw [hw z] at e
        have := nI_inj (by omega) (by omega) e
        rw [decide_eq_false (fun y => y.2 this.symm)]
    · refine fin μ2 true (fun μ' hk => X4_layRow_ok ⟨_, μ, ln, ?_⟩) g2 (fun z => ?_) (g3.mono (fun a k z => by unfold rlC; omega) (fun _ z => z)) ((g3.at (by omega)).trans hc) (fun z => by rw [if_neg r0, g3.at (by omega)]; exact hw z) (fun c => g3.at (by omega)) (fun c => g3.at (by omega))
      · rw [hP, hc]
        exact tne rn (tneg e ⟨μ2, g1, hk⟩)
      · unfold misR
        rw [hw z] at e
        rw [decide_eq_true ⟨r0, fun y => e (by rw [y])⟩]
theorem row_c {q r w i : Nat} {l : Lt} {μ : Mem} (hq : 200 < q) (hV : TV S M T) (hT : TC M T μ) (h : QSc M T (.inl i) μ) (hk : kd T i = 0) (hl : LC' l μ) (hr : r ≤ 6) (hP : μ.2.2 2 1 = q) (hc : μ.1 q 1 = nI r) (hw8 : w ≤ 8) (hw : l.1 = 0 → μ.1 q 0 = nI w) : ∃ μ', X4_readTell (d + 17) μ μ' ∧ QSc M T (if r = 6 then .inr (2, i) else rq3 T i) μ' ∧ Kz (rwC q) (fun _ => False) μ μ' ∧ ∀ j, r ≠ 6 → rq3 T i = .inl j → LC' (ltS (misR r w (nm' T (i + 1)).length || badL (nm' T (i + 1)) 0 (nm' T (i + 1)).length) 6 (pc' T (i + 1)) l) μ' ∧ μ'.1 q 1 = nI (r + 1) ∧ (l.1 = 0 → μ'.1 q 0 = nI (if r = 0 then (nm' T (i + 1)).length else w)) ∧ (∀ c, μ'.1 (q + 1) c = if c / 8 = r ∧ c % 8 < (nm' T (i + 1)).length ∧ lt' (nm' T (i + 1)) (c % 8) ≤ 6 then nI (lt' (nm' T (i + 1)) (c % 8) - 1) else μ.1 (q + 1) c) ∧ (∀ f, f < 6 → μ'.1 (q + 2) f = μ.1 (q + 2) f + nI (cnL (nm' T (i + 1)) f 0 (nm' T (i + 1)).length)) := by
  have hm := hV.2.1
  have ek : μ.1 2 3 = 0 := by rw [h.2.2.2, hk]; rfl
  have ent : ∀ m μ', X4_readRow (d + 16) μ m → (∃ y, X4_accept (d + 16) 23 m y μ') → X4_readTell (d + 17) μ μ' := fun m μ' z1 z2 => by
    obtain ⟨y, z2⟩ := z2
    refine X4_readTell_ok ?_
    rw [ek]
    exact ⟨fun _ => ⟨m, z1, y, μ', z2, rfl⟩, fun z => absurd z (by decide), fun z => absurd z (by decide), fun z => absurd z (by decide), fun z => absurd z (by decide), fun z => absurd z (by decide), fun z => absurd z (by decide), fun z => absurd z (by decide), fun z => absurd z (by decide), fun z => absurd z (by decide)⟩
  have wide : ∀ {x y : Mem}, KC x y → Kz (rwC q) (fun _ => False) x y := fun z => z.mono (fun a k q => by unfold laC at q; unfold rwC; omega) (fun _ q => q)
  by_cases e6 : r = 6
  · rw [if_pos e6]
    obtain ⟨m1, g1, g2, g3⟩ := blame_c (d := d + 15) (f := 2) hT hV.2.1 h.2.1 h.2.2.1 h.1 (by omega)
    refine ⟨m1, ent m1 m1 (X4_readRow_ok ?_) ⟨0, accF g2.ne⟩, ⟨h.1, g2⟩, wide g3.c, fun j z => absurd e6 z⟩
    rw [hP, hc, e6]
    exact tneg (by decide) ⟨m1, g1, rfl⟩
  · rw [if_neg e6]
    obtain ⟨m1, a1, a2, a3⟩ := accQ (d := d + 14) (k := 0) hV hT (by decide) (by decide) h
    have T1 := hT.kc a3.c
    have hn : ∃ i, i ≤ 400 ∧ m1.1 2 2 = nI i := by
      have a2' := a2
      cases hq1 : acq T 0 (.inl i) with
      | inl z => rw [hq1] at a2'; exact ⟨z, by have := a2'.1; omega, a2'.2.2.1⟩
      | inr e => rw [hq1] at a2'; exact a2'.2.2.2.2
    obtain ⟨n, n1, n2⟩ := hn
    have vc := value_c (d := d + 15) n1 n2
    have sc := start_c (d := d + 15) n1 n2
    obtain ⟨m2, b1, b2, b3⟩ := accQ (d := d + 14) (k := 21) hV T1 (by decide) (by decide) a2
    have T2 := T1.kc b3.c
    have lt6 : μ.1 (μ.2.2 2 1) 1 < 6 := by rw [hP, hc]; exact nI_lt (b := 6) (by omega) (by decide)
    cases hq2 : rq2 T i with
    | inr e =>
      have hq2' : acq T 21 (acq T 0 (.inl i)) = .inr e := hq2
      rw [hq2'] at b1 b2
      have e5 : rq3 T i = .inr e := by unfold rq3; rw [hq2]; rfl
      obtain ⟨m3, c1, c2, c3⟩ := accQ (d := d + 15) (k := 23) hV T2 (by decide) (by decide) b2
      refine ⟨m3, ent m2 m3 (X4_readRow_ok (tpos lt6 ⟨_, m1, a1, _, m1, vc, _, m1, sc, _, m2, b1, tpos rfl rfl⟩)) ⟨_, c1⟩, ?_, (wide a3.c).trans ((wide b3.c).trans (wide c3.c)), fun j _ hj => by rw [e5] at hj; cases hj⟩
      rw [e5]; exact c2
    | inl j2 =>
      have hq2' : acq T 21 (acq T 0 (.inl i)) = .inl j2 := hq2
      obtain ⟨y1, y2, rfl⟩ := rq_at.2.1 hq2
      rw [hq2'] at b1 b2
      have y1' : acq T 0 (.inl i) = .inl (i + 1) := y1
      rw [y1'] at a2
      have en : n = i + 1 := by
        have z := a2.2.2.1
        rw [n2] at z
        exact nI_inj (by omega) (by have := a2.1; omega) z
      subst en
      have hx := tv_nm hV a2.1 y2
      have p2 : m2.2.2 2 1 = q ∧ m2.1 q 1 = nI r := ⟨by rw [b3.2.2, a3.2.2]; exact hP, by rw [b3.at (by unfold adv; omega), a3.at (by unfold adv; omega)]; exact hc⟩
      obtain ⟨m3, t1, t2, t3, t4, t5, t6, t7⟩ := layRow_c (d := d + 14) (w := w) (pl := pc' T (i + 1)) hq hx (show r < 6 by omega) ((hl.ka a3).ka b3) p2.1 p2.2 hw8 (fun z => by rw [b3.at (by unfold adv; omega), a3.at (by unfold adv; omega)]; exact hw z)
      have Q3 : QSc M T (.inl (i + 2)) m3 := ⟨b2.1, ⟨(t3.at (by unfold rlC; omega)).trans b2.2.1, (t3.at (by unfold rlC; omega)).trans b2.2.2.1, (t3.at (by unfold rlC; omega)).trans b2.2.2.2⟩⟩
      have T3 : TC M T m3 := T2.kz t3 (fun j => by unfold rlC; omega) (fun j => by unfold rlC; omega) (fun z => z)
      obtain ⟨m4, c1, c2, c3⟩ := accQ (d := d + 15) (k := 23) hV T3 (by decide) (by decide) Q3
      have e5 : rq3 T i = acq T 23 (.inl (i + 2)) := by unfold rq3; rw [hq2]
      refine ⟨m4, ent m3 m4 (X4_readRow_ok (tpos lt6 ⟨_, m1, a1, _, m1, vc, _, m1, sc, _, m2, b1, tneg (show ¬ (1 : Int32) = 0 by decide) ⟨m3, ?_, rfl⟩⟩)) ⟨_, c1⟩, by rw [e5]; exact c2, (wide a3.c).trans ((wide b3.c).trans ((t3.mono (fun a k z => by unfold rlC at z; unfold rwC; omega) (fun _ z => z)).trans (wide c3.c))), fun j _ hj => ⟨t2.ka c3, (c3.at (by unfold adv; omega)).trans t4, fun z => (c3.at (by unfold adv; omega)).trans (t5 z), fun c => ?_, fun f hf => ?_⟩⟩
      · rw [(T1 (i + 1) a2.1).2.2.2 y2, (T1 (i + 1) a2.1).2.1]
        exact t1
      · rw [c3.at (by unfold adv; omega), t6 c, b3.at (by unfold adv; omega), a3.at (by unfold adv; omega)]
      · rw [c3.at (by unfold adv; omega), t7 f hf, b3.at (by unfold adv; omega), a3.at (by unfold adv; omega)]
/-! the model's side -/
theorem lI_toInt {v : Nat} (h : v < 2 ^ 63) : (lI v).toInt = (v : Int) := Int64.toInt_ofNat_of_lt h
theorem lI_div {a b : Nat} (ha : a < 2 ^ 63) (hb : b < 2 ^ 63) : lI a / lI b = lI (a / b) := by
  apply Int64.toInt_inj.mp
  have h1 : a / b ≤ a := Nat.div_le_self a b
  rw [Int64.toInt_div, lI_toInt ha, lI_toInt hb, lI_toInt (by omega)]
  rw [show ((a : Int).tdiv (b : Int)) = ((a / b : Nat) : Int) from rfl]
  have h2 : (0 : Int) ≤ ((a / b : Nat) : Int) := Int.natCast_nonneg _
  have h3 : ((a / b : Nat) : Int) ≤ (a : Int) := Int.ofNat_le.mpr h1
  generalize ((a / b : Nat) : Int) = q at h2 h3
  apply Int.bmod_eq_of_le <;> omega
theorem lI_sub {a b : Nat} (h : b ≤ a) : lI a - lI b = lI (a - b) := by
  have e : lI (a - b) + lI b = lI a := by rw [lI_add]; congr 1; omega
  rw [← e, Int64.add_sub_cancel]
theorem lI_rem {v : Nat} (h : v < 2 ^ 63) : ((lI v - lI v / 27 * 27).toInt32 : Int32) = nI (v % 27) := by
  rw [show (27 : Int64) = lI 27 from rfl, lI_div h (by decide), lI_mul, lI_sub (Nat.div_mul_le_self v 27)]
  have e : v - v / 27 * 27 = v % 27 := by omega
  rw [e]
  exact lI_i32 (by omega)
theorem lgc_le {v : Nat} (h : v < 2 ^ 63) : lg_cmp (lI v) 0 ≤ 0 ↔ v = 0 := by
  constructor
  · intro z
    refine Classical.byContradiction fun n => ?_
    have g : lI v > 0 := by
      show (0 : Int64) < lI v
      rw [Int64.lt_iff_toInt_lt, lI_toInt h]
      show (0 : Int) < v
      omega
    unfold lg_cmp at z
    rw [if_pos g] at z
    exact absurd z (by decide)
  · rintro rfl
    decide
end
end Rd
