/-! ===== calls that do something ===== -/
theorem TapeR.kq {S T : Nat → Nat → Prop} {μC μM μC' μM' : Mem} (h : TapeR μC μM) (kC : Kq S μC μC') (kM : Kq T μM μM') (s1 : ∀ k, ¬ S 1 k) (s2 : ¬ S 0 1) (s3 : ¬ S 0 2) (t1 : ∀ k, ¬ T 1 k) (t2 : ¬ T 0 2) (t3 : ¬ T 0 17) : TapeR μC' μM' := by
  obtain ⟨N, a1, a2, a3, a4, a5⟩ := h
  exact ⟨N, a1, (kC.at s2).trans a2, (kM.at t2).trans a3, fun k hk => by rw [kC.at (s1 k), kM.at (t1 k)]; exact a4 k hk, by rw [kC.at s3, kM.at t3]; exact a5⟩
theorem SlotR.kq {S T : Nat → Nat → Prop} {P : Pl} {B : Nat} {hd : Nat → Bool} {Z : Nat → Nat → Nat} {μC μM μC' μM' : Mem} (h : SlotR P B hd Z μC μM) (kC : Kq S μC μC') (kM : Kq T μM μM') (s1 : ∀ a k, 176 ≤ a → a ≤ 191 → ¬ S a k) (t1 : ∀ k, ¬ T 45 k) (t2 : ∀ k, ¬ T 46 k) : SlotR P B hd Z μC' μM' := by
  intro s hs
  obtain ⟨q1, q2, q3⟩ := h s hs
  exact ⟨(kC.at (s1 191 s (by decide) (by decide))).trans q1, (kM.at (t1 s)).trans q2, fun hh => ⟨(q3 hh).1.kq kC fun a j z1 z2 => s1 a j (by omega) (by omega), (q3 hh).2.1, fun k hk => (kM.at (t2 _)).trans ((q3 hh).2.2 k hk)⟩⟩
theorem SlotR.mono {P : Pl} {B C : Nat} {hd : Nat → Bool} {Z : Nat → Nat → Nat} {μC μM : Mem} (h : SlotR P B hd Z μC μM) (hB : B ≤ C) : SlotR P C hd Z μC μM := fun s hs => ⟨(h s hs).1, (h s hs).2.1, fun q => ⟨((h s hs).2.2 q).1, ((h s hs).2.2 q).2.1.mono hB, ((h s hs).2.2 q).2.2⟩⟩
theorem ToldR.kq {S T : Nat → Nat → Prop} {P : Pl} {t : Nat} {X Y W : Nat → Nat} {μC μM μC' μM' : Mem} (h : ToldR P t X Y W μC μM) (kC : Kq S μC μC') (kM : Kq T μM μM') (s0 : ¬ S 192 3) (s1 : ∀ a k, 193 ≤ a → a ≤ 195 → ¬ S a k) (t0 : ¬ T 0 65) (t1 : ∀ k, ¬ T 41 k) (t2 : ∀ k, ¬ T 42 k) : ToldR P t X Y W μC' μM' := by
  obtain ⟨q1, q2, q3, q4⟩ := h
  refine ⟨q1, (kC.at s0).trans q2, (kM.at t0).trans q3, fun i hi => ?_⟩
  rw [kC.at (s1 193 i (by decide) (by decide)), kC.at (s1 194 i (by decide) (by decide)), kC.at (s1 195 i (by decide) (by decide)), kM.at (t1 i), kM.at (t2 i)]
  exact q4 i hi
theorem RdR.kq {S T : Nat → Nat → Prop} {p : Nat} {μC μM μC' μM' : Mem} (h : RdR p μC μM) (kC : Kq S μC μC') (kM : Kq T μM μM') (s1 : ∀ a k, (a = 447 - p + 10 ∨ a = 447 - p + 14 ∨ a = 447 - p + 18) → ¬ S a k) : RdR p μC' μM' := by
  obtain ⟨d1, ⟨⟨z1, z2, z3, z4⟩, ⟨y1, y2, y3, y4, y5⟩, x1⟩, d3, d4⟩ := h
  have e : ∀ a k, (a = 447 - p + 10 ∨ a = 447 - p + 14 ∨ a = 447 - p + 18) → μC'.1 a k = μC.1 a k := fun a k q => kC.at (s1 a k q)
  refine ⟨by rw [kC.1]; exact d1, ⟨⟨?_, ?_, ?_, ?_⟩, ⟨?_, ?_, ?_, ?_, ?_⟩, fun i q1 q2 => ?_⟩, fun i hi => by rw [kC.1]; exact d3 i hi, fun i hi => by rw [kM.1]; exact d4 i hi⟩
  · rw [e _ _ (Or.inl rfl)]; exact z1
  · rw [e _ _ (Or.inl rfl)]; exact z2
  · rw [e _ _ (Or.inl rfl)]; exact z3
  · rw [e _ _ (Or.inl rfl)]; exact z4
  · rw [e _ _ (Or.inr (Or.inl rfl))]; exact y1
  · rw [e _ _ (Or.inr (Or.inl rfl))]; exact y2
  · rw [e _ _ (Or.inr (Or.inl rfl))]; exact y3
  · rw [e _ _ (Or.inr (Or.inl rfl))]; exact y4
  · rw [e _ _ (Or.inr (Or.inl rfl))]; exact y5
  · rw [e _ _ (Or.inr (Or.inr rfl))]; exact x1 i q1 q2
/-- what a thing that is done may change -/
def dnC (p a k : Nat) : Prop := sPa a k ∨ sDy p 13 a k
def dnM (a k : Nat) : Prop := a = 33 ∨ a = 35 ∨ (a = 0 ∧ k = 53) ∨ scM a k
theorem dn_n {p : Nat} {μ μ' : Mem} (hp : p = 214 ∨ p = 233) (h : Kq (dnC p) μ μ') : Kq (nPl p) μ μ' := h.mono fun a k q => by
  unfold dnC sPa sDy sWv at q
  unfold nPl
  omega
theorem dn_M {μ μ' : Mem} (h : Kq dnM μ μ') : Kp fM μ μ' := h.p fun a k q => by
  unfold fM at q
  by_cases h0 : a = 0
  · subst h0
    rw [if_pos rfl] at q
    have : k = 18 := by simpa using q
    subst this
    unfold dnM scM
    omega
  · rw [if_neg h0] at q
    have : ¬ a < 9 ∧ ¬ 29 < a := by simpa using q
    unfold dnM scM
    omega
theorem PastR.C {P : Pl} {B t nx : Nat} {H : Nat → Nat → Nat} {μC μM : Mem} (h : PastR P B t nx H μC μM) : PastC P t nx H μC := ⟨h.1, h.2.1, h.2.2.1, h.2.2.2.1, fun i hi => (h.2.2.2.2.2 i hi).1⟩
theorem PastR.M {P : Pl} {B t nx : Nat} {H : Nat → Nat → Nat} {μC μM : Mem} (h : PastR P B t nx H μC μM) : PastM t H μM := ⟨h.2.2.2.2.1, fun i hi k hk => (h.2.2.2.2.2 i hi).2.2 k hk⟩
theorem PastR.mk {P : Pl} {B t nx : Nat} {H : Nat → Nat → Nat} {μC μM : Mem} (h : PastC P t nx H μC) (k : PastM t H μM) (hB : ∀ i, i < t → SW P B (H i)) : PastR P B t nx H μC μM := ⟨h.1, h.2.1, h.2.2.1, h.2.2.2.1, k.1, fun i hi => ⟨h.2.2.2.2 i hi, hB i hi, k.2 i hi⟩⟩
/-- a thing done: the scene is remembered and becomes r' -/
theorem done {n p t nx : Nat} {P : Pl} {r r' : Nat → Nat} {H : Nat → Nat → Nat} {μC μM m1 μC' μM' : Mem} (h : SimP n P p r μC μM) (hP : PastR P (99 + 720 * n) t nx H μC μM)
    (k1 : Kq sPa μC m1) (q1 : PastC P (min (t + 1) 30) ((nx + 1) % 30) (psh r H) m1) (k2 : Kq (sDy p 13) m1 μC') (hK : Kc P μC') (hR : RowC P 13 μC' r')
    (kM : Kq dnM μM μM') (hRM : RowM μM' 33 r') (q2 : PastM (min (t + 1) 30) (psh r H) μM') (hS : SW P (99 + 720 * (n + 1)) r') : Sim (n + 1) μC' μM' := by
  obtain ⟨⟨hC, _, _⟩, ⟨hM, _⟩, hS0, hT, _, ⟨hd, S, hSl⟩, ⟨tt, X, Y, W, hW⟩, hD⟩ := h
  have hpp := hC.pp
  have kC : Kq (dnC p) μC μC' := (k1.mono fun a k q => Or.inl q).trans (k2.mono fun a k q => Or.inr q)
  refine ⟨P, p, r', ⟨hC.kq (dn_n hpp kC), hK, hR⟩, ⟨hM.kp (dn_M kM), hRM⟩, hS, ?_, ⟨min (t + 1) 30, (nx + 1) % 30, psh r H, PastR.mk ⟨q1.1, q1.2.1, (k2.at ?_).trans q1.2.2.1, (k2.at ?_).trans q1.2.2.2.1, fun i hi => (q1.2.2.2.2 i hi).kq k2 fun a j z1 z2 => ?_⟩ q2 fun i hi => ?_⟩, ⟨hd, S, (hSl.kq kC kM ?_ ?_ ?_).mono (by omega)⟩, ⟨tt, X, Y, W, hW.kq kC kM ?_ ?_ ?_ ?_ ?_⟩, hD.kq kC kM ?_⟩
  · refine hT.kq kC kM ?_ ?_ ?_ ?_ ?_ ?_
    · intro k; unfold dnC sPa sDy sWv; omega
    · unfold dnC sPa sDy sWv; omega
    · unfold dnC sPa sDy sWv; omega
    · intro k; unfold dnM scM; omega
    · unfold dnM scM; omega
    · unfold dnM scM; omega
  · unfold sDy sWv; omega
  · unfold sDy sWv; omega
  · unfold sDy sWv; omega
  · match i, hi with
    | 0, _ => exact hS0.mono (by omega)
    | i + 1, hi => exact (hP.2.2.2.2.2 i (by omega)).2.1.mono (by omega)
  · intro a k z1 z2; unfold dnC sPa sDy sWv; omega
  · intro k; unfold dnM scM; omega
  · intro k; unfold dnM scM; omega
  · unfold dnC sPa sDy sWv; omega
  · intro a k z1 z2; unfold dnC sPa sDy sWv; omega
  · unfold dnM scM; omega
  · intro k; unfold dnM scM; omega
  · intro k; unfold dnM scM; omega
  · intro a k z1; unfold dnC sPa sDy sWv; omega
section Pieces
variable {P : Pl} {p : Nat} {μ : Mem} {d : Nat}
/-- is it a PIECE of that LOOM -/
def pieceA (P : Pl) (a b c : Int32) : Bool := inN a (pL P) && (inN (b - 1) (pWi P a.toNatClampNeg) && inN (c - 1) 6)
theorem rng1 {x : Int32} {n : Nat} (hn : n < 2 ^ 30) : (inN (x - 1) n = true ↔ ∃ k, 1 ≤ k ∧ k ≤ n ∧ x = nI k) := by
  constructor
  · intro h
    obtain ⟨k, hk, e⟩ := inN_ex h
    refine ⟨k + 1, by omega, by omega, ?_⟩
    rw [nI_succ, ← e, Int32.sub_add_cancel]
  · rintro ⟨k, h1, h2, rfl⟩
    rw [show nI k - 1 = nI (k - 1) from nI_sub (b := 1) h1, inN_nI (by omega), decide_eq_true (by omega)]
theorem rng1_f {x : Int32} {n : Nat} (hn : n < 2 ^ 30) (h : inN (x - 1) n = false) : x < 1 ∨ nI n < x := by
  by_cases h1 : x < 1
  · exact Or.inl h1
  · right
    have h0 : (0 : Int32) ≤ x := by
      have := i_nlt h1
      rw [Int32.le_iff_toInt_le] at this ⊢
      rw [show (1 : Int32).toInt = 1 from rfl] at this
      rw [show (0 : Int32).toInt = 0 from rfl]
      omega
    obtain ⟨k, hk, rfl⟩ := nI_ex h0
    have k1 : 1 ≤ k := by
      rcases Nat.eq_zero_or_pos k with rfl | q
      · exact absurd (show nI 0 < 1 by decide) h1
      · exact q
    rw [show nI k - 1 = nI (k - 1) from nI_sub (b := 1) k1, inN_nI (by omega)] at h
    have : ¬ k - 1 < n := by simpa using h
    exact nI_lt (by omega) hk
theorem in1 {x : Int32} {n : Nat} (hn : n < 2 ^ 30) : inI x 1 (nI n) = bI (inN (x - 1) n) := by
  unfold inI
  cases h : inN (x - 1) n with
  | true =>
    obtain ⟨k, h1, h2, rfl⟩ := (rng1 hn).mp h
    rw [if_neg (show ¬ nI k < 1 from nI_nlt (b := 1) h1 (by omega)), if_neg (nI_nlt h2 (by omega))]
    rfl
  | false =>
    rcases rng1_f hn h with q | q
    · rw [if_pos q]; rfl
    · by_cases q2 : x < 1
      · rw [if_pos q2]; rfl
      · rw [if_neg q2, if_pos q]; rfl
theorem pieceA_ex (pw : PW P) {a b c : Int32} (h : pieceA P a b c = true) : ∃ l w h, a = nI l ∧ b = nI w ∧ c = nI h ∧ l < pL P ∧ 1 ≤ w ∧ w ≤ pWi P l ∧ 1 ≤ h ∧ h ≤ 6 := by
  unfold pieceA at h
  rw [Bool.and_eq_true, Bool.and_eq_true] at h
  obtain ⟨h1, h2, h3⟩ := h
  obtain ⟨l, hl, rfl⟩ := inN_ex h1
  have h4 := pw.2.2.2.1
  rw [nI_clamp (by omega)] at h2
  have w8 := (pw.2.2.2.2.2.2.2.2.2.1 l hl).2.1
  obtain ⟨w, w1, w2, rfl⟩ := (rng1 (by omega)).mp h2
  obtain ⟨k, k1, k2, rfl⟩ := (rng1 (by decide)).mp h3
  exact ⟨l, w, k, rfl, rfl, rfl, hl, w1, w2, k1, k2⟩
theorem isPiece_c {a b c : Int32} (hC : CP P p μ) : X9_isPiece (d + 1) a b c μ (bI (pieceA P a b c)) μ := by
  have pw := hC.1
  refine X9_isPiece_ok ?_
  rw [hC.ptr0]
  refine ⟨_, μ, hasLoom_c hC, ?_⟩
  unfold pieceA
  cases ha : inN a (pL P) with
  | false => exact tpos rfl ⟨rfl, rfl⟩
  | true =>
    obtain ⟨l, hl, rfl⟩ := inN_ex ha
    have h4 := pw.2.2.2.1
    have w8 := (pw.2.2.2.2.2.2.2.2.2.1 l hl).2.1
    rw [nI_clamp (by omega), hC.ptr0, (hC.loo hl).1]
    refine tneg (by decide) ?_
    have vl : vp_in (nI l) 4 := vp_inN (by omega) (by decide)
    cases hb : inN (b - 1) (pWi P l) with
    | false =>
      rcases rng1_f (by omega) hb with q | q
      · exact tpos q ⟨rfl, rfl⟩
      · exact ⟨fun _ => ⟨rfl, rfl⟩, fun _ => ⟨vl, tpos q ⟨rfl, rfl⟩⟩⟩
    | true =>
      obtain ⟨w, w1, w2, rfl⟩ := (rng1 (by omega)).mp hb
      refine tneg (nI_nlt (b := 1) w1 (by omega)) ⟨vl, tneg (nI_nlt w2 (by omega)) ?_⟩
      cases hc : inN (c - 1) 6 with
      | false =>
        rcases rng1_f (by decide) hc with q | q
        · exact tpos q ⟨rfl, rfl⟩
        · exact ⟨fun _ => ⟨rfl, rfl⟩, fun _ => tpos q ⟨rfl, rfl⟩⟩
      | true =>
        obtain ⟨k, k1, k2, rfl⟩ := (rng1 (by decide)).mp hc
        exact tneg (nI_nlt (b := 1) k1 (by omega)) (tneg (nI_nlt (a := 6) (b := k) k2 (by decide)) ⟨rfl, rfl⟩)
theorem isPiece_m {a b c : Int32} (hM : MP P μ) : X10_isPiece (d + 2) a b c μ (bI (pieceA P a b c)) μ := by
  have pw := hM.1
  obtain ⟨L, h1, h2, _, m⟩ := hM.eL
  refine X10_isPiece_ok ⟨_, μ, isLoom_m hM, ?_⟩
  unfold pieceA
  cases ha : inN a (pL P) with
  | false => exact tpos rfl ⟨rfl, rfl⟩
  | true =>
    obtain ⟨l, hl, rfl⟩ := inN_ex ha
    have h4 := pw.2.2.2.1
    have w8 := (pw.2.2.2.2.2.2.2.2.2.1 l hl).2.1
    rw [nI_clamp (show l < 2 ^ 31 by omega), h2, show (4 : Int32) = nI 4 from rfl, nI_mul, nJ_add, nI_clamp (by omega), (m.2.2.2.2.2.2.2.2.2.2.2.1 l hl).1]
    have i1 := in_s (d := d + 1) (v := b) (a := 1) (b := nI (pWi P l)) (μ := μ)
    rw [in1 (by omega)] at i1
    refine tneg (by decide) ⟨vp_inN (by omega) (by decide), _, μ, i1, ?_⟩
    cases hb : inN (b - 1) (pWi P l) with
    | false => exact tpos rfl ⟨rfl, rfl⟩
    | true =>
      have i2 := in_s (d := d + 1) (v := c) (a := 1) (b := nI 6) (μ := μ)
      rw [in1 (by decide)] at i2
      refine tneg (by decide) ⟨_, μ, i2, ?_⟩
      cases hc : inN (c - 1) 6 with
      | false => exact tpos rfl ⟨rfl, rfl⟩
      | true => exact tneg (by decide) ⟨rfl, rfl⟩
end Pieces
