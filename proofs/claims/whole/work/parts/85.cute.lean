/-! ===== calls: cut ===== -/
section Cut
variable {d : Nat}
section
variable {n L : Nat} {W H : Nat → Nat}
theorem tk_congr {l l' : Nat → Nat} {t : Nat} : ∀ k, (∀ j, j < k → l j = l' j) → tk W H l k t = tk W H l' k t
  | 0, _ => rfl
  | k + 1, h => by
    show tk W H l k t ^^^ (if l k / 8 ≤ t ∧ t < l k / 8 + H k then msk (W k) (l k % 8) else 0) = tk W H l' k t ^^^ (if l' k / 8 ≤ t ∧ t < l' k / 8 + H k then msk (W k) (l' k % 8) else 0)
    rw [tk_congr k fun j hj => h j (by omega), h k (by omega)]
theorem LM.congr {l l' : Nat → Nat} {k : Nat} (h : LM W H l k) (e : ∀ j, j < k → l j = l' j) : LM W H l' k := fun i j hi hj ne => by
  have := h i j hi hj ne
  unfold Apt at this ⊢
  show l' i % 8 + W i ≤ l' j % 8 ∨ l' j % 8 + W j ≤ l' i % 8 ∨ l' i / 8 + H i ≤ l' j / 8 ∨ l' j / 8 + H j ≤ l' i / 8
  rw [← e i hi, ← e j hj]
  exact this
theorem fr_to {l : Nat → Nat} {k a : Nat} (hs : SzP n W H) (hk : k < n) (hL : LM W H l k) (hF : FrA W H l k a) : LM W H (updN l k a) (k + 1) := by
  have sk := hs.2 k hk
  have key : ∀ j, j < k → (l j % 8 + W j ≤ a % 8 ∨ a % 8 + W k ≤ l j % 8 ∨ l j / 8 + H j ≤ a / 8 ∨ a / 8 + H k ≤ l j / 8) := fun j hj => by
    have sj := hs.2 j (by omega)
    refine Classical.byContradiction fun q => ?_
    have f := hF (max (l j / 8) (a / 8)) (by omega) (by omega)
    have b1 : (tk W H l k (max (l j / 8) (a / 8))).testBit (max (l j % 8) (a % 8)) = true := (tk_bit k hL).mpr ⟨j, hj, by omega, by omega⟩
    have b2 : (msk (W k) (a % 8)).testBit (max (l j % 8) (a % 8)) = true := by rw [msk_bit]; exact decide_eq_true (by omega)
    have := congrArg (fun z => Nat.testBit z (max (l j % 8) (a % 8))) f
    simp only [Nat.testBit_and, b1, b2, Nat.zero_testBit] at this
    exact absurd this (by decide)
  intro i j hi hj ne
  unfold Apt
  by_cases ei : i = k
  · have ej : j ≠ k := fun z => ne (by rw [ei, z])
    show updN l k a i % 8 + W i ≤ updN l k a j % 8 ∨ updN l k a j % 8 + W j ≤ updN l k a i % 8 ∨ updN l k a i / 8 + H i ≤ updN l k a j / 8 ∨ updN l k a j / 8 + H j ≤ updN l k a i / 8
    rw [ei, updN_same, updN_ne ej]
    have := key j (by omega)
    omega
  · by_cases ej : j = k
    · show updN l k a i % 8 + W i ≤ updN l k a j % 8 ∨ updN l k a j % 8 + W j ≤ updN l k a i % 8 ∨ updN l k a i / 8 + H i ≤ updN l k a j / 8 ∨ updN l k a j / 8 + H j ≤ updN l k a i / 8
      rw [ej, updN_same, updN_ne ei]
      have := key i (by omega)
      omega
    · show updN l k a i % 8 + W i ≤ updN l k a j % 8 ∨ updN l k a j % 8 + W j ≤ updN l k a i % 8 ∨ updN l k a i / 8 + H i ≤ updN l k a j / 8 ∨ updN l k a j / 8 + H j ≤ updN l k a i / 8
      rw [updN_ne ei, updN_ne ej]
      exact hL i j (by omega) (by omega) ne
theorem fr_of {l : Nat → Nat} {k : Nat} (hL : LM W H l (k + 1)) : FrA W H l k (l k) := fun t h1 h2 => by
  have hL' : LM W H l k := fun i j hi hj => hL i j (by omega) (by omega)
  apply Nat.eq_of_testBit_eq
  intro c
  rw [Nat.testBit_and, Nat.zero_testBit, msk_bit]
  by_cases q : l k % 8 ≤ c ∧ c < l k % 8 + W k
  · cases e : (tk W H l k t).testBit c with
    | false => rfl
    | true =>
      obtain ⟨j, j1, j2, j3⟩ := (tk_bit k hL').mp e
      have ap := hL j k (by omega) (by omega) (by omega)
      have ap : l j % 8 + W j ≤ l k % 8 ∨ l k % 8 + W k ≤ l j % 8 ∨ l j / 8 + H j ≤ l k / 8 ∨ l k / 8 + H k ≤ l j / 8 := ap
      exfalso
      omega
  · rw [decide_eq_false q, Bool.and_false]
theorem isFree_m {k a : Nat} {l : Nat → Nat} {μ : Mem} (hs : SzP n W H) (hk : k < n) (ha : a / 8 + H k ≤ 24) (hv : ∀ j, j < k → l j % 8 + W j ≤ 8) (hP : PM n W H μ) (hT : TkM W H l k μ) : ∃ y, X10_isFree d (nI k) (nI a) μ y μ ∧ (FrA W H l k a ↔ y = 1) ∧ (y = 0 ∨ y = 1) := by
  have h4 := hs.1
  obtain ⟨y, g1, g2, g3⟩ := free_c (d := d) hs hk ha hv hP hT (H k) (a / 8) (by omega)
  refine ⟨y, X10_isFree_ok ⟨vp_inN (by omega) (by decide), ?_⟩, g2, g3⟩
  rw [nI_clamp (by omega), (hP.2 k hk).1, show (8 : Int32) = nI 8 from rfl, nI_rem (by omega) (by decide), nI_div (by omega) (by decide), msk_m (hs.2 k hk).2.1 (by omega)]
  exact g1
theorem flips_m {k a : Nat} {f : Nat → Nat} {μ : Mem} (hs : SzP n W H) (hk : k < n) (ha : a / 8 + H k ≤ 24) (hP : PM n W H μ) (hT : ∀ u, u < 24 → μ.1 39 u = nI (f u)) : ∃ μ', X10_flips d (nI k) (nI a) μ μ' ∧ Kq (fun a _ => a = 39) μ μ' ∧ ∀ u, u < 24 → μ'.1 39 u = nI (f u ^^^ (if a / 8 ≤ u ∧ u < a / 8 + H k then msk (W k) (a % 8) else 0)) := by
  have h4 := hs.1
  obtain ⟨μ', g1, g2, g3⟩ := flips_c (d := d) (f := f) hs hk ha (H k) (a / 8) μ (by omega) hP (fun u hu => by rw [if_neg (by omega), Nat.xor_zero]; exact hT u hu) (Nat.le_refl _)
  refine ⟨μ', X10_flips_ok ⟨vp_inN (by omega) (by decide), ?_⟩, g2, g3⟩
  rw [nI_clamp (by omega), (hP.2 k hk).1, show (8 : Int32) = nI 8 from rfl, nI_rem (by omega) (by decide), nI_div (by omega) (by decide), msk_m (hs.2 k hk).2.1 (by omega)]
  exact g1
def OKp (W H l : Nat → Nat) (k b : Nat) : Prop := b % 8 + W k ≤ 8 ∧ FrA W H l k b
theorem next_c {k : Nat} {l : Nat → Nat} {μ : Mem} (hs : SzP n W H) (hk : k < n) (hL : L ≤ 24) (hH : H k ≤ L) (hv : ∀ j, j < k → l j % 8 + W j ≤ 8) (hP : PM n W H μ) (hT : TkM W H l k μ) : ∀ (m a : Nat), a + m = 8 * (L - H k + 1) → ∃ y, X10_nextPlace_at3 d (nI k) (nI L) (nI a) μ y μ ∧ ((∃ b, y = nI b ∧ a ≤ b ∧ b < 8 * (L - H k + 1) ∧ OKp W H l k b ∧ ∀ c, a ≤ c → c < b → ¬ OKp W H l k c) ∨ (y = -1 ∧ ∀ c, a ≤ c → c < 8 * (L - H k + 1) → ¬ OKp W H l k c))
  | 0, a, ha => by
    have h4 := hs.1
    have ha : a = 8 * (L - H k + 1) := ha
    refine ⟨-1, X10_nextPlace_at3_ok ⟨vp_inN (by omega) (by decide), ?_⟩, Or.inr ⟨rfl, fun c h1 h2 => by omega⟩⟩
    rw [nI_clamp (by omega), (hP.2 k hk).2, nI_sub hH, nI_1, show (8 : Int32) = nI 8 from rfl, nI_mul]
    exact tpos (nI_le (by omega) (by omega)) ⟨rfl, rfl⟩
  | m + 1, a, ha => by
    have h4 := hs.1
    have sk := hs.2 k hk
    have v4 : vp_in (nI k) 4 := vp_inN (by omega) (by decide)
    have e8 : (8 : Int32) * (nI L - nI (H k) + 1) = nI (8 * (L - H k + 1)) := by rw [nI_sub hH, nI_1, show (8 : Int32) = nI 8 from rfl, nI_mul]
    have ex : nI a - nI a / 8 * 8 + nI (W k) = nI (a % 8 + W k) := by rw [show (8 : Int32) = nI 8 from rfl, nI_rem (by omega) (by decide), nJ_add]
    obtain ⟨y, g1, g2⟩ := next_c hs hk hL hH hv hP hT m (a + 1) (by omega)
    rw [nI_succ] at g1
    have skip : ¬ OKp W H l k a → ((∃ b, y = nI b ∧ a ≤ b ∧ b < 8 * (L - H k + 1) ∧ OKp W H l k b ∧ ∀ c, a ≤ c → c < b → ¬ OKp W H l k c) ∨ (y = -1 ∧ ∀ c, a ≤ c → c < 8 * (L - H k + 1) → ¬ OKp W H l k c)) := fun q => by
      rcases g2 with ⟨b, b1, b2, b3, b4, b5⟩ | ⟨b1, b2⟩
      · refine Or.inl ⟨b, b1, by omega, b3, b4, fun c h1 h2 => ?_⟩
        by_cases e : c = a
        · rw [e]; exact q
        · exact b5 c (by omega) h2
      · refine Or.inr ⟨b1, fun c h1 h2 => ?_⟩
        by_cases e : c = a
        · rw [e]; exact q
        · exact b2 c (by omega) h2
    by_cases q : a % 8 + W k ≤ 8
    · obtain ⟨z, f1, f2, f3⟩ := isFree_m (d := d) (a := a) hs hk (by omega) hv hP hT
      by_cases z1 : z = 1
      · refine ⟨nI a, X10_nextPlace_at3_ok ⟨v4, ?_⟩, Or.inl ⟨a, rfl, Nat.le_refl _, by omega, ⟨q, f2.mpr z1⟩, fun c h1 h2 => by omega⟩⟩
        rw [nI_clamp (by omega), (hP.2 k hk).1, (hP.2 k hk).2, e8, ex]
        exact tneg (nI_ge (by omega) (by omega)) ⟨v4, tneg (nI_nlt (a := 8) q (by decide)) ⟨z, μ, f1, tneg (by rw [z1]; decide) ⟨rfl, rfl⟩⟩⟩
      · have z0 : z = 0 := f3.elim id fun u => absurd u z1
        refine ⟨y, X10_nextPlace_at3_ok ⟨v4, ?_⟩, skip fun u => z1 (f2.mp u.2)⟩
        rw [nI_clamp (by omega), (hP.2 k hk).1, (hP.2 k hk).2, e8, ex]
        exact tneg (nI_ge (by omega) (by omega)) ⟨v4, tneg (nI_nlt (a := 8) q (by decide)) ⟨z, μ, f1, tpos z0 g1⟩⟩
    · refine ⟨y, X10_nextPlace_at3_ok ⟨v4, ?_⟩, skip fun u => q u.1⟩
      rw [nI_clamp (by omega), (hP.2 k hk).1, (hP.2 k hk).2, e8, ex]
      exact tneg (nI_ge (by omega) (by omega)) ⟨v4, tpos (nI_lt (a := 8) (by omega) (by omega)) g1⟩
/-! the search back and forth -/
def VLy (W H : Nat → Nat) (L : Nat) (l : Nat → Nat) (k : Nat) : Prop := (∀ i, i < k → l i % 8 + W i ≤ 8 ∧ l i / 8 + H i ≤ L) ∧ LM W H l k
def ExtA (n : Nat) (W H : Nat → Nat) (L k : Nat) (l : Nat → Nat) (from_ : Nat) : Prop := ∃ l', VLy W H L l' n ∧ (∀ i, i < k → l' i = l i) ∧ (k < n → from_ ≤ l' k)
def DS (n : Nat) (W H : Nat → Nat) (L k : Nat) (l : Nat → Nat) (μ : Mem) : Prop := PM n W H μ ∧ TkM W H l k μ ∧ (∀ i, i < k → μ.1 38 i = nI (l i)) ∧ VLy W H L l k
def gK (a k : Nat) : Prop := a = 38 ∨ a = 39
def BtA (d n : Nat) (W H : Nat → Nat) (L : Nat) (l : Nat → Nat) (X : Int32) (μ : Mem) : Nat → Prop
  | 0 => X = 0
  | j + 1 => ∀ μ4, DS n W H L j l μ4 → Kq gK μ μ4 → ∃ μ', X10_goesIn_at25 (d + 1) (nI L) (nI j) (nI (l j + 1)) μ4 X μ' ∧ Kq gK μ4 μ'
theorem BtA.kq {l : Nat → Nat} {X : Int32} {μ μ4 : Mem} (h : Kq gK μ μ4) : ∀ {k : Nat}, BtA d n W H L l X μ k → BtA d n W H L l X μ4 k
  | 0, b => b
  | _ + 1, b => fun μ5 q1 q2 => b μ5 q1 (h.trans q2)
theorem dfs (hs : SzP n W H) (hL : L ≤ 24) (hH : ∀ i, i < n → H i ≤ L) : ∀ (m k : Nat), k + m = n → ∀ (t from_ : Nat) (l : Nat → Nat) (X : Int32) (μ : Mem), (k < n → from_ + t = 8 * (L - H k + 1)) → DS n W H L k l μ → (ExtA n W H L k l from_ → X = 1) → (¬ ExtA n W H L k l from_ → BtA d n W H L l X μ k) → ∃ μ', X10_goesIn_at25 (d + 1) (nI L) (nI k) (nI from_) μ X μ' ∧ Kq gK μ μ'
  | 0, k, hk => by
    intro t from_ l X μ ht hD hA hB
    have h4 := hs.1
    have hk : k = n := hk
    subst hk
    have x1 : X = 1 := hA ⟨l, hD.2.2.2, fun _ _ => rfl, fun z => absurd z (Nat.lt_irrefl _)⟩
    refine ⟨μ, X10_goesIn_at25_ok (tneg (nI_pos (by omega)) ?_), Kq.refl⟩
    rw [hD.1.1]
    exact tpos (nI_le (Nat.le_refl _) (by omega)) ⟨x1, rfl⟩
  | m + 1, k, hk => by
    have h4 := hs.1
    have hkn : k < n := by omega
    have sk := hs.2 k hkn
    have hHk := hH k hkn
    intro t
    induction t using Nat.strongRecOn with
    | ind t iht =>
      intro from_ l X μ ht hD hA hB
      have ht := ht hkn
      obtain ⟨hP, hT, h38, hV⟩ := hD
      obtain ⟨y, y1, y2⟩ := next_c (d := d) hs hkn hL hHk (fun j hj => (hV.1 j hj).1) hP hT t from_ ht
      have np : X10_nextPlace (d + 1) (nI k) (nI from_) (nI L) μ y μ := X10_nextPlace_ok y1
      have hn0 : ¬ nI k < 0 := nI_pos (by omega)
      have hn1 : ¬ nI n ≤ nI k := nI_ge hkn (by omega)
      have okx : ∀ l', VLy W H L l' n → (∀ i, i < k → l' i = l i) → OKp W H l k (l' k) ∧ l' k < 8 * (L - H k + 1) := fun l' q1 q2 => by
        have b := q1.1 k hkn
        have f : FrA W H l' k (l' k) := fr_of fun i j hi hj => q1.2 i j (by omega) (by omega)
        refine ⟨⟨b.1, fun u h1 h2 => ?_⟩, by omega⟩
        have := f u h1 h2
        rwa [tk_congr k q2] at this
      rcases y2 with ⟨b, b1, b2, b3, b4, b5⟩ | ⟨b1, b2⟩
      · subst b1
        have k1 : Kq gK μ (sI μ 38 k (nI b)) := Kq.sI (Or.inl rfl)
        obtain ⟨m7, f1, f2, f3⟩ := flips_m (d := d + 1) (k := k) (a := b) (f := tk W H l k) (μ := sI μ 38 k (nI b)) hs hkn (by omega) (hP.kq (k1.mono fun a _ q => q)) (fun u hu => by rw [sI_n (by decide)]; exact hT u hu)
        have k2 : Kq gK (sI μ 38 k (nI b)) m7 := f2.mono fun a _ q => Or.inr q
        have lm := fr_to hs hkn hV.2 b4.2
        have D7 : DS n W H L (k + 1) (updN l k b) m7 := by
          refine ⟨hP.kq ((k1.trans k2).mono fun a _ q => q), fun u hu => ?_, fun i hi => ?_, fun i hi => ?_, lm⟩
          · rw [f3 u hu]
            show _ = nI (tk W H (updN l k b) k u ^^^ (if updN l k b k / 8 ≤ u ∧ u < updN l k b k / 8 + H k then msk (W k) (updN l k b k % 8) else 0))
            rw [updN_same, tk_congr (l := updN l k b) (l' := l) k fun j hj => updN_ne (by omega)]
          · rw [f2.at (by omega)]
            by_cases e : i = k
            · rw [e, sI_1, updN_same]
            · rw [sI_k e, updN_ne e]
              exact h38 i (by omega)
          · by_cases e : i = k
            · rw [e, updN_same]
              exact ⟨b4.1, by omega⟩
            · rw [updN_ne e]
              exact hV.1 i (by omega)
        obtain ⟨μ', g1, g2⟩ := dfs hs hL hH m (k + 1) (by omega) (if k + 1 < n then 8 * (L - H (k + 1) + 1) else 0) 0 (updN l k b) X m7 (fun z => by rw [if_pos z, Nat.zero_add]) D7 (fun ⟨l', q1, q2, _⟩ => hA ⟨l', q1, fun i hi => by rw [q2 i (by omega), updN_ne (by omega)], fun _ => by rw [q2 k (by omega), updN_same]; exact b2⟩) (fun nx => by
          intro μ4 d4 k4
          have D4 : DS n W H L k l μ4 := by
            obtain ⟨p1, p2, p3, p4, p5⟩ := d4
            refine ⟨p1, fun u hu => ?_, fun i hi => ?_, fun i hi => ?_, ?_⟩
            · rw [p2 u hu, tk_congr (l := updN l k b) (l' := l) k fun j hj => updN_ne (by omega)]
            · rw [p3 i hi, updN_ne (by omega)]
            · have := p4 i hi
              rw [updN_ne (by omega)] at this
              exact this
            · exact p5.congr fun j hj => updN_ne (by omega)
          rw [updN_same]
          refine iht (t - (b + 1 - from_)) (by omega) (b + 1) l X μ4 (fun _ => by omega) D4 (fun ⟨l', q1, q2, q3⟩ => hA ⟨l', q1, q2, fun z => by have := q3 z; omega⟩) (fun n2 => ?_)
          refine BtA.kq ((k1.trans k2).trans k4) (hB fun ⟨l', q1, q2, q3⟩ => ?_)
          have q3 := q3 hkn
          obtain ⟨o1, o2⟩ := okx l' q1 q2
          rcases Nat.lt_trichotomy (l' k) b with z | z | z
          · exact b5 (l' k) q3 z o1
          · exact nx ⟨l', q1, fun i hi => by
              by_cases e : i = k
              · rw [e, updN_same, z]
              · rw [updN_ne e]; exact q2 i (by omega), fun _ => Nat.zero_le _⟩
          · exact n2 ⟨l', q1, q2, fun _ => by omega⟩)
        refine ⟨μ', X10_goesIn_at25_ok (tneg hn0 ?_), (k1.trans k2).trans g2⟩
        rw [hP.1]
        refine tneg hn1 ⟨_, μ, np, tneg (nI_pos (by omega)) ⟨vp_inN (by omega) (by decide), ?_⟩⟩
        rintro μ6 rfl
        rw [nI_clamp (by omega)]
        rw [nI_succ] at g1
        exact ⟨m7, f1, g1⟩
      · subst b1
        have bt := hB fun ⟨l', q1, q2, q3⟩ => by
          obtain ⟨o1, o2⟩ := okx l' q1 q2
          exact b2 (l' k) (q3 hkn) o2 o1
        match k, hkn, bt, hn0, hn1, np, hT, h38, hV with
        | 0, hkn, bt, hn0, hn1, np, hT, h38, hV =>
          refine ⟨μ, X10_goesIn_at25_ok (tneg hn0 ?_), Kq.refl⟩
          rw [hP.1]
          exact tneg hn1 ⟨_, μ, np, tpos (by decide) (tneg (by decide) ⟨bt, rfl⟩)⟩
        | j + 1, hkn, bt, hn0, hn1, np, hT, h38, hV =>
          have ej : nI (j + 1) + (-1) = nI j := nI_dec (a := j + 1) (by omega)
          have vj := hV.1 j (by omega)
          obtain ⟨m4, f1, f2, f3⟩ := flips_m (d := d + 1) (k := j) (a := l j) (f := tk W H l (j + 1)) (μ := μ) hs (by omega) (by omega) hP hT
          have D4 : DS n W H L j l m4 := by
            refine ⟨hP.kq (f2.mono fun a _ q => Or.inr q), fun u hu => ?_, fun i hi => ?_, fun i hi => hV.1 i (by omega), fun a b ha hb => hV.2 a b (by omega) (by omega)⟩
            · rw [f3 u hu]
              show nI (tk W H l j u ^^^ (if l j / 8 ≤ u ∧ u < l j / 8 + H j then msk (W j) (l j % 8) else 0) ^^^ _) = _
              rw [Nat.xor_assoc, Nat.xor_self, Nat.xor_zero]
            · rw [f2.at (by omega)]
              exact h38 i (by omega)
          obtain ⟨μ', g1, g2⟩ := bt m4 D4 (f2.mono fun a _ q => Or.inr q)
          refine ⟨μ', X10_goesIn_at25_ok (tneg hn0 ?_), (f2.mono fun a _ q => Or.inr q).trans g2⟩
          rw [hP.1]
          refine tneg hn1 ⟨_, μ, np, tpos (by decide) ?_⟩
          rw [ej, nI_clamp (by omega), h38 j (by omega)]
          refine tpos (nI_pos' (by omega)) ⟨vp_inN (by omega) (by decide), m4, f1, vp_inN (by omega) (by decide), ?_⟩
          rw [f2.at (by omega), h38 j (by omega), nI_1]
          exact g1
theorem ext_fit (hs : SzP n W H) {l : Nat → Nat} : ExtA n W H L 0 l 0 ↔ Fit n W H L := by
  constructor
  · rintro ⟨l', q1, _, _⟩
    exact ⟨fun i => l' i % 8, fun i => l' i / 8, q1.1, q1.2⟩
  · rintro ⟨x, y, h1, h2⟩
    have e : ∀ i, i < n → (8 * y i + x i) % 8 = x i ∧ (8 * y i + x i) / 8 = y i := fun i hi => by
      have := (h1 i hi).1
      have := (hs.2 i hi).1
      omega
    refine ⟨fun i => 8 * y i + x i, ⟨fun i hi => ?_, fun i j hi hj ne => ?_⟩, fun i hi => by omega, fun _ => Nat.zero_le _⟩
    · show (8 * y i + x i) % 8 + W i ≤ 8 ∧ (8 * y i + x i) / 8 + H i ≤ L
      rw [(e i hi).1, (e i hi).2]
      exact h1 i hi
    · have := h2 i j hi hj ne
      unfold Apt at this ⊢
      show (8 * y i + x i) % 8 + W i ≤ (8 * y j + x j) % 8 ∨ (8 * y j + x j) % 8 + W j ≤ (8 * y i + x i) % 8 ∨ (8 * y i + x i) / 8 + H i ≤ (8 * y j + x j) / 8 ∨ (8 * y j + x j) / 8 + H j ≤ (8 * y i + x i) / 8
      rw [(e i hi).1, (e i hi).2, (e j hj).1, (e j hj).2]
      exact this
theorem goes2 (hs : SzP n W H) (hn : 1 ≤ n) (hL : L ≤ 24) (hH : ∀ i, i < n → H i ≤ L) : ∀ (m t : Nat) (μ : Mem), t + m = 24 → PM n W H μ → (∀ u, u < t → μ.1 39 u = 0) → ∃ y μ', X10_goesIn_at2 (d + 1) (nI L) (nI t) μ y μ' ∧ Kq gK μ μ' ∧ (y = 1 ↔ Fit n W H L) ∧ (y = 0 ∨ y = 1)
  | 0, t, μ, ht, hP, hz => by
    have ht : t = 24 := ht
    subst ht
    have D0 : DS n W H L 0 (fun _ => 0) μ := ⟨hP, fun u hu => hz u hu, fun i hi => by omega, fun i hi => by omega, fun i j hi => by omega⟩
    rcases Classical.em (Fit n W H L) with q | q
    · obtain ⟨μ', g1, g2⟩ := dfs (d := d) hs hL hH n 0 (by omega) (8 * (L - H 0 + 1)) 0 (fun _ => 0) 1 μ (fun _ => by omega) D0 (fun _ => rfl) (fun z => absurd ((ext_fit hs).mpr q) z)
      exact ⟨1, μ', X10_goesIn_at2_ok (tpos (nI_le (a := 24) (b := 24) (by decide) (by decide)) g1), g2, ⟨fun _ => q, fun _ => rfl⟩, Or.inr rfl⟩
    · obtain ⟨μ', g1, g2⟩ := dfs (d := d) hs hL hH n 0 (by omega) (8 * (L - H 0 + 1)) 0 (fun _ => 0) 0 μ (fun _ => by omega) D0 (fun z => absurd ((ext_fit hs).mp z) q) (fun _ => rfl)
      exact ⟨0, μ', X10_goesIn_at2_ok (tpos (nI_le (a := 24) (b := 24) (by decide) (by decide)) g1), g2, ⟨fun z => absurd z (by decide), fun z => absurd z q⟩, Or.inl rfl⟩
  | m + 1, t, μ, ht, hP, hz => by
    have k1 : Kq gK μ (sI μ 39 t 0) := Kq.sI (Or.inr rfl)
    obtain ⟨y, μ', g1, g2, g3⟩ := goes2 hs hn hL hH m (t + 1) (sI μ 39 t 0) (by omega) (hP.kq (k1.mono fun a _ q => q)) (fun u hu => by
      by_cases e : u = t
      · rw [e, sI_1]
      · rw [sI_k e]; exact hz u (by omega))
    rw [nI_succ] at g1
    refine ⟨y, μ', X10_goesIn_at2_ok (tneg (nI_ge (b := 24) (by omega) (by decide)) ⟨vp_inN (by omega) (by decide), ?_⟩), k1.trans g2, g3⟩
    rintro μ1 rfl
    rw [nI_clamp (by omega)]
    exact g1
theorem cut197 (hs : SzP n W H) (hn : 1 ≤ n) : ∀ (m K : Nat) (μ : Mem), K + m = sumN H n → (∀ i, i < n → H i ≤ K) → PM n W H μ → ∃ R μ', X10_cut_at197 (d + 2) (nI K) μ (nI R) μ' ∧ Kq gK μ μ' ∧ Fit n W H R ∧ ∀ J, K ≤ J → Fit n W H J → R ≤ J
  | m, K, μ, hK, hH, hP => by
    have h4 := hs.1
    have hS : sumN H n ≤ 6 * n := sumN_b n fun i hi => (hs.2 i hi).2.2.2
    obtain ⟨y, m1, g1, g2, g3, g4⟩ := goes2 (d := d) (L := K) hs hn (by omega) hH 24 0 μ (by omega) hP (fun u hu => by omega)
    by_cases q : y = 1
    · exact ⟨K, m1, X10_cut_at197_ok ⟨y, m1, X10_goesIn_ok g1, tne (by rw [q]; decide) ⟨rfl, rfl⟩⟩, g2, g3.mp q, fun J h1 _ => h1⟩
    · have y0 : y = 0 := g4.elim id fun z => absurd z q
      match m, hK with
      | 0, hK =>
        have hK : K = sumN H n := hK
        exact absurd (g3.mpr (by rw [hK]; exact fit_all hs)) q
      | m + 1, hK =>
        obtain ⟨R, μ', f1, f2, f3, f4⟩ := cut197 hs hn m (K + 1) m1 (by omega) (fun i hi => by have := hH i hi; omega) (hP.kq (g2.mono fun a _ q => q))
        rw [nI_succ] at f1
        refine ⟨R, μ', X10_cut_at197_ok ⟨y, m1, X10_goesIn_ok g1, teq y0 f1⟩, g2.trans f2, f3, fun J h1 h2 => f4 J ?_ h2⟩
        have : J ≠ K := fun e => q (g3.mpr (by rw [← e]; exact h2))
        omega
def alA (W H : Nat → Nat) (k : Nat) : Nat := sumN (fun i => if 4 < W i then H i else 0) k
theorem mxA_S : ∀ k, mxA H k ≤ sumN H k
  | 0 => Nat.le_refl _
  | k + 1 => by
    have := mxA_S k
    show max (mxA H k) (H k) ≤ sumN H k + H k
    omega
theorem cut84 (hs : SzP n W H) (hn : 1 ≤ n) : ∀ (m k : Nat) (μ : Mem), k + m = n → PM n W H μ → ∃ R μ', X10_cut_at84 (d + 2) (nI (sumN (fun i => W i * H i) k)) (nI (mxA H k)) (nI (alA W H k)) (nI k) μ (nI R) μ' ∧ Kq gK μ μ' ∧ Fit n W H R ∧ ∀ J, Fit n W H J → R ≤ J
  | 0, k, μ, hk, hP => by
    have h4 := hs.1
    have hk : k = n := hk
    subst hk
    have hA : sumN (fun i => W i * H i) k ≤ 48 * k := sumN_b k fun i hi => wh48 (hs.2 i hi).2.1 (hs.2 i hi).2.2.2
    have hS : sumN H k ≤ 6 * k := sumN_b k fun i hi => (hs.2 i hi).2.2.2
    have hX := mxA_S (H := H) k
    have fa := fit_all hs
    have f1 : alA W H k ≤ sumN H k := fit_alone fa
    have f2 := fit_area fa
    have e7 : (nI (sumN (fun i => W i * H i) k) + 7) / 8 = nI ((sumN (fun i => W i * H i) k + 7) / 8) := by
      rw [show nI (sumN (fun i => W i * H i) k) + 7 = nI (sumN (fun i => W i * H i) k + 7) from nJ_add _ 7, show (8 : Int32) = nI 8 from rfl, nI_div (by omega) (by decide)]
    have low : ∀ J, Fit k W H J → max (max (mxA H k) (alA W H k)) ((sumN (fun i => W i * H i) k + 7) / 8) ≤ J := fun J hJ => by
      have a := fit_area hJ
      have b : alA W H k ≤ J := fit_alone hJ
      have c : mxA H k ≤ J := by
        rcases (mxA_spec (g := H) k).2 with z | ⟨i, h1, h2⟩
        · omega
        · rw [h2]; exact fit_long hJ h1
      omega
    obtain ⟨R, μ', g1, g2, g3, g4⟩ := cut197 (d := d) hs hn (sumN H k - max (max (mxA H k) (alA W H k)) ((sumN (fun i => W i * H i) k + 7) / 8)) (max (max (mxA H k) (alA W H k)) ((sumN (fun i => W i * H i) k + 7) / 8)) μ (by have := low _ fa; omega) (fun i hi => by have := (mxA_spec (g := H) k).1 i hi; omega) hP
    refine ⟨R, μ', X10_cut_at84_ok ?_, g2, g3, fun J hJ => g4 J (low J hJ) hJ⟩
    rw [hP.1, e7]
    refine tpos (nI_le (Nat.le_refl _) (by omega)) ?_
    by_cases q1 : alA W H k ≤ mxA H k
    · refine tpos (nI_le q1 (by omega)) ?_
      by_cases q2 : (sumN (fun i => W i * H i) k + 7) / 8 ≤ mxA H k
      · rw [show max (max (mxA H k) (alA W H k)) ((sumN (fun i => W i * H i) k + 7) / 8) = mxA H k by omega] at g1
        exact tpos (nI_le q2 (by omega)) g1
      · rw [show max (max (mxA H k) (alA W H k)) ((sumN (fun i => W i * H i) k + 7) / 8) = (sumN (fun i => W i * H i) k + 7) / 8 by omega] at g1
        exact tneg (nI_ge (by omega) (by omega)) g1
    · refine tneg (nI_ge (by omega) (by omega)) ?_
      by_cases q2 : (sumN (fun i => W i * H i) k + 7) / 8 ≤ alA W H k
      · rw [show max (max (mxA H k) (alA W H k)) ((sumN (fun i => W i * H i) k + 7) / 8) = alA W H k by omega] at g1
        exact tpos (nI_le q2 (by omega)) g1
      · rw [show max (max (mxA H k) (alA W H k)) ((sumN (fun i => W i * H i) k + 7) / 8) = (sumN (fun i => W i * H i) k + 7) / 8 by omega] at g1
        exact tneg (nI_ge (by omega) (by omega)) g1
  | m + 1, k, μ, hk, hP => by
    have h4 := hs.1
    have sk := hs.2 k (by omega)
    obtain ⟨w1, w2⟩ := hP.2 k (by omega)
    have v4 : vp_in (nI k) 4 := vp_inN (by omega) (by decide)
    have ec : (nI k).toNatClampNeg = k := nI_clamp (by omega)
    have hS : sumN H k ≤ 6 * k := sumN_b k fun i hi => (hs.2 i (by omega)).2.2.2
    have hX := mxA_S (H := H) k
    obtain ⟨R, μ', g1, g2⟩ := cut84 hs hn m (k + 1) μ (by omega) hP
    rw [nI_succ k, show sumN (fun i => W i * H i) (k + 1) = sumN (fun i => W i * H i) k + W k * H k from rfl] at g1
    refine ⟨R, μ', X10_cut_at84_ok ?_, g2⟩
    rw [hP.1, ec, w1, w2, nI_mul, nJ_add]
    refine tneg (nI_ge (by omega) (by omega)) ⟨v4, v4, v4, ?_⟩
    have mid : ∀ z, nI (alA W H (k + 1)) = z → X10_cut_at136 (d + 2) (nI (sumN (fun i => W i * H i) k + W k * H k)) (nI (mxA H k)) z (nI k) μ (nI R) μ' := by
      rintro z rfl
      refine X10_cut_at136_ok ⟨v4, ?_⟩
      rw [ec, w2]
      by_cases q : H k ≤ mxA H k
      · rw [show mxA H (k + 1) = mxA H k from (show max (mxA H k) (H k) = mxA H k by omega)] at g1
        exact tpos (nI_le q (by omega)) (X10_cut_at157_ok g1)
      · rw [show mxA H (k + 1) = H k from (show max (mxA H k) (H k) = H k by omega)] at g1
        exact tneg (nI_ge (by omega) (by omega)) ⟨v4, X10_cut_at157_ok g1⟩
    by_cases q : 4 < W k
    · refine tneg (nI_ge (a := 4) q (by omega)) ⟨v4, mid _ ?_⟩
      rw [nJ_add, show alA W H (k + 1) = alA W H k + (if 4 < W k then H k else 0) from rfl, if_pos q]
    · refine tpos (nI_le (b := 4) (by omega) (by decide)) (mid _ ?_)
      rw [show alA W H (k + 1) = alA W H k + (if 4 < W k then H k else 0) from rfl, if_neg q]
      rfl
end
/-! both sides -/
def CR (n : Nat) (W H : Nat → Nat) (μC μM : Mem) : Prop := SzP n W H ∧ WH n W H μC ∧ PM n W H μM
def cfC (a k : Nat) : Prop := 203 ≤ a ∧ a ≤ 212
def cfM (a k : Nat) : Prop := (36 ≤ a ∧ a ≤ 39) ∨ (a = 0 ∧ k = 61)
theorem add_both {n : Nat} {W H : Nat → Nat} {x : Int32} {μC μM : Mem} (hn : n < 4) (h : CR n W H μC μM) : (X0_add (d + 1) x μC 0 μC ∧ X10_adds (d + 1) x μM 0 μM) ∨ ∃ W' H' mC mM, X0_add (d + 1) x μC 1 mC ∧ X10_adds (d + 1) x μM 1 mM ∧ Kq cfC μC mC ∧ Kq cfM μM mM ∧ CR (n + 1) W' H' mC mM := by
  obtain ⟨hs, hC, hM⟩ := h
  have s1 := isSize_c (d := d) (a := x / 10) (b := x - x / 10 * 10) (μ := μC)
  have i1 := in_s (d := d) (v := x / 10) (a := 1) (b := nI 8) (μ := μM)
  rw [in1 (by decide)] at i1
  have i2 := in_s (d := d) (v := x - x / 10 * 10) (a := 1) (b := nI 6) (μ := μM)
  rw [in1 (by decide)] at i2
  cases ha : inN (x / 10 - 1) 8 with
  | false =>
    rw [ha] at s1 i1
    exact Or.inl ⟨X0_add_ok ⟨_, μC, s1, tpos rfl ⟨rfl, rfl⟩⟩, X10_adds_ok ⟨_, μM, i1, tpos rfl ⟨rfl, rfl⟩⟩⟩
  | true =>
    rw [ha] at s1 i1
    cases hb : inN (x - x / 10 * 10 - 1) 6 with
    | false =>
      rw [hb] at s1 i2
      exact Or.inl ⟨X0_add_ok ⟨_, μC, s1, tpos rfl ⟨rfl, rfl⟩⟩, X10_adds_ok ⟨_, μM, i1, tneg (by decide) ⟨_, μM, i2, teq rfl ⟨rfl, rfl⟩⟩⟩⟩
    | true =>
      rw [hb] at s1 i2
      obtain ⟨w, w1, w2, e1⟩ := (rng1 (by decide)).mp ha
      obtain ⟨v, v1, v2, e2⟩ := (rng1 (by decide)).mp hb
      rw [e2, e1] at s1
      rw [e1] at i1
      rw [e2] at i2
      have kC : Kq cfC μC (sI (sI (sI μC 204 n (nI w)) 205 n (nI v)) 203 4 (nI (n + 1))) := ((Kq.sI (by unfold cfC; omega)).trans (Kq.sI (by unfold cfC; omega))).trans (Kq.sI (by unfold cfC; omega))
      have kM : Kq cfM μM (sI (sI (sI μM 36 n (nI w)) 37 n (nI v)) 0 61 (nI (n + 1))) := ((Kq.sI (by unfold cfM; omega)).trans (Kq.sI (by unfold cfM; omega))).trans (Kq.sI (by unfold cfM; omega))
      refine Or.inr ⟨updN W n w, updN H n v, _, _, X0_add_ok ?_, X10_adds_ok ?_, kC, kM, ⟨by omega, fun i hi => ?_⟩, ⟨sI_1, fun i hi => ?_⟩, ⟨sI_1, fun i hi => ?_⟩⟩
      · rw [e2, e1]
        refine ⟨_, μC, s1, tneg (by decide) ?_⟩
        rw [hC.1]
        refine tpos (nI_lt (b := 4) hn (by decide)) ⟨vp_inN hn (by decide), ?_⟩
        rintro μ4 rfl
        rw [sI_n (show 203 ≠ 204 by decide), hC.1, nI_clamp (by omega)]
        refine ⟨vp_inN hn (by decide), ?_⟩
        rintro μ5 rfl μ6 rfl
        rw [sI_n (show 203 ≠ 205 by decide), sI_n (show 203 ≠ 204 by decide), hC.1, nI_1]
        exact ⟨rfl, rfl⟩
      · rw [e2, e1]
        refine ⟨_, μM, i1, tneg (by decide) ⟨_, μM, i2, tne (by decide) ?_⟩⟩
        rw [hM.1]
        refine ⟨vp_inN hn (by decide), ?_⟩
        rintro μ4 rfl
        rw [sI_n (show 0 ≠ 36 by decide), hM.1, nI_clamp (by omega)]
        refine ⟨vp_inN hn (by decide), ?_⟩
        rintro μ5 rfl μ6 rfl
        rw [sI_n (show 0 ≠ 37 by decide), sI_n (show 0 ≠ 36 by decide), hM.1, nI_1]
        exact ⟨rfl, rfl⟩
      · by_cases e : i = n
        · rw [e, updN_same, updN_same]
          exact ⟨w1, w2, v1, v2⟩
        · rw [updN_ne e, updN_ne e]
          exact hs.2 i (by omega)
      · by_cases e : i = n
        · rw [e, updN_same, updN_same]
          exact ⟨by rw [sI_n (by decide), sI_n (by decide), sI_1], by rw [sI_n (by decide), sI_1]⟩
        · rw [updN_ne e, updN_ne e, sI_n (by decide), sI_n (by decide), sI_k e, sI_n (by decide), sI_k e, sI_n (by decide)]
          exact hC.2 i (by omega)
      · by_cases e : i = n
        · rw [e, updN_same, updN_same]
          exact ⟨by rw [sI_n (by decide), sI_n (by decide), sI_1], by rw [sI_n (by decide), sI_1]⟩
        · rw [updN_ne e, updN_ne e, sI_n (by decide), sI_n (by decide), sI_k e, sI_n (by decide), sI_k e, sI_n (by decide)]
          exact hM.2 i (by omega)
theorem fin_both {n : Nat} {W H : Nat → Nat} {μC μM : Mem} (hn : 1 ≤ n) (h : CR n W H μC μM) : ∃ X mC mM, X9_cut_at101 (d + 15) μC X mC ∧ X10_cut_at72 (d + 15) μM X mM ∧ Kq cfC μC mC ∧ Kq cfM μM mM := by
  obtain ⟨hs, hC, hM⟩ := h
  have h4 := hs.1
  have k1 : Kq (fun a k => (a = 203 ∧ (k = 5 ∨ k = 6)) ∨ a = 206 ∨ a = 208) μC (sI (sI μC 203 5 0) 203 6 0) := (Kq.sI (by omega)).trans (Kq.sI (by omega))
  obtain ⟨R, mC, g1, g2, g3, g4⟩ := least14 (d := d + (13 - 2 * n)) hs hn n 0 (sI (sI μC 203 5 0) 203 6 0) (by omega) (hC.kq k1) (by rw [sI_k (by decide), sI_1]; rfl) sI_1 (fun i hi => by omega)
  rw [show d + (13 - 2 * n) + 2 * n + 1 = d + 14 by omega] at g1
  obtain ⟨S, mM, f1, f2, f3, f4⟩ := cut84 (d := d + 13) hs hn n 0 μM (by omega) hM
  have e : R = S := Nat.le_antisymm (g4 S f3) (f4 R g3)
  subst e
  refine ⟨nI R, mC, mM, X9_cut_at101_ok (tneg (by decide) ⟨_, mC, X0_leastLength_ok ?_, rfl, rfl⟩), X10_cut_at72_ok f1, (k1.mono fun a k q => by unfold cfC; omega).trans (g2.mono fun a k q => by unfold cfC; omega), f2.mono fun a k q => by unfold gK at q; unfold cfM; omega⟩
  rintro μ1 rfl μ2 rfl
  exact g1
theorem bad_c {x3 x4 : Int32} {μ : Mem} : X9_cut_at72 d x3 x4 μ (-1) μ := X9_cut_at72_ok (X9_cut_at73_ok (tpos rfl (X9_cut_at105_ok (tpos rfl ⟨rfl, rfl⟩))))
theorem tail47 {n : Nat} {W H : Nat → Nat} {x3 x4 : Int32} {μC μM : Mem} (hn : 1 ≤ n) (hn4 : n < 4) (h : CR n W H μC μM) : ∃ X mC mM, X9_cut_at68 (d + 15) x3 x4 μC X mC ∧ X10_cut_at47 (d + 15) x3 x4 μM X mM ∧ Kq cfC μC mC ∧ Kq cfM μM mM := by
  by_cases q4 : x4 = 0
  · obtain ⟨X, mC, mM, a1, a2, a3, a4⟩ := fin_both (d := d) hn h
    refine ⟨X, mC, mM, X9_cut_at68_ok (X9_cut_at73_ok (tneg (by decide) (tpos q4 a1))), X10_cut_at47_ok ?_, a3, a4⟩
    by_cases q3 : x3 = 0
    · exact teq q3 (teq q4 (X10_cut_at56_ok (tpos q4 a2)))
    · exact tne q3 (X10_cut_at56_ok (tpos q4 a2))
  · by_cases q3 : x3 = 0
    · exact ⟨-1, μC, μM, X9_cut_at68_ok (X9_cut_at73_ok (tneg (by decide) (tneg q4 (tpos q3 (X9_cut_at105_ok (tpos rfl ⟨rfl, rfl⟩)))))), X10_cut_at47_ok (teq q3 (tne q4 (X10_cut_at70_ok ⟨rfl, rfl⟩))), Kq.refl, Kq.refl⟩
    · rcases add_both (d := d + 14) (x := x4) hn4 h with ⟨b1, b2⟩ | ⟨W', H', m1, m2, b1, b2, b3, b4, b5⟩
      · exact ⟨-1, μC, μM, X9_cut_at68_ok (X9_cut_at73_ok (tneg (by decide) (tneg q4 (tneg q3 ⟨_, μC, b1, tpos rfl (X9_cut_at105_ok (tpos rfl ⟨rfl, rfl⟩))⟩)))), X10_cut_at47_ok (tne q3 (X10_cut_at56_ok (tneg q4 ⟨_, μM, b2, teq rfl (X10_cut_at70_ok ⟨rfl, rfl⟩)⟩))), Kq.refl, Kq.refl⟩
      · obtain ⟨X, mC, mM, a1, a2, a3, a4⟩ := fin_both (d := d) (by omega) b5
        exact ⟨X, mC, mM, X9_cut_at68_ok (X9_cut_at73_ok (tneg (by decide) (tneg q4 (tneg q3 ⟨_, m1, b1, tneg (by decide) a1⟩)))), X10_cut_at47_ok (tne q3 (X10_cut_at56_ok (tneg q4 ⟨_, m2, b2, tne (by decide) a2⟩))), b3.trans a3, b4.trans a4⟩
theorem tail35 {n : Nat} {W H : Nat → Nat} {x2 x3 x4 : Int32} {μC μM : Mem} (hn : 1 ≤ n) (hn4 : n < 3) (h2 : x2 = 0 → x3 = 0) (h : CR n W H μC μM) : ∃ X mC mM, X9_cut_at42 (d + 15) x2 x3 x4 1 μC X mC ∧ X10_cut_at35 (d + 15) x3 x4 μM X mM ∧ Kq cfC μC mC ∧ Kq cfM μM mM := by
  by_cases q3 : x3 = 0
  · obtain ⟨X, mC, mM, a1, a2, a3, a4⟩ := tail47 (d := d) (x3 := x3) (x4 := x4) hn (by omega) h
    exact ⟨X, mC, mM, X9_cut_at42_ok (tneg (by decide) (tpos q3 a1)), X10_cut_at35_ok (tpos q3 a2), a3, a4⟩
  · have q2 : ¬ x2 = 0 := fun z => q3 (h2 z)
    rcases add_both (d := d + 14) (x := x3) (by omega) h with ⟨b1, b2⟩ | ⟨W', H', m1, m2, b1, b2, b3, b4, b5⟩
    · exact ⟨-1, μC, μM, X9_cut_at42_ok (tneg (by decide) (tneg q3 (tneg q2 ⟨_, μC, b1, tpos rfl bad_c⟩))), X10_cut_at35_ok (tneg q3 ⟨_, μM, b2, tpos rfl (X10_cut_at70_ok ⟨rfl, rfl⟩)⟩), Kq.refl, Kq.refl⟩
    · obtain ⟨X, mC, mM, a1, a2, a3, a4⟩ := tail47 (d := d) (x3 := x3) (x4 := x4) (by omega) (by omega) b5
      exact ⟨X, mC, mM, X9_cut_at42_ok (tneg (by decide) (tneg q3 (tneg q2 ⟨_, m1, b1, tneg (by decide) a1⟩))), X10_cut_at35_ok (tneg q3 ⟨_, m2, b2, tneg (by decide) a2⟩), b3.trans a3, b4.trans a4⟩
theorem bad42 {x2 x3 x4 : Int32} {μ : Mem} : X9_cut_at42 d x2 x3 x4 0 μ (-1) μ := X9_cut_at42_ok (tpos rfl bad_c)
theorem cut_both {x1 x2 x3 x4 : Int32} {μC μM : Mem} : ∃ X mC mM, X9_cut (d + 16) x1 x2 x3 x4 μC X mC ∧ X10_cut (d + 16) x1 x2 x3 x4 μM X mM ∧ Kq cfC μC mC ∧ Kq cfM μM mM := by
  have kC : Kq cfC μC (sI μC 203 4 0) := Kq.sI (by unfold cfC; omega)
  have kM : Kq cfM μM (sI μM 0 61 0) := Kq.sI (by unfold cfM; omega)
  have c0 : X0_clear (d + 15) μC (sI μC 203 4 0) := X0_clear_ok (by rintro μ1 rfl; rfl)
  have h0 : CR 0 (fun _ => 1) (fun _ => 1) (sI μC 203 4 0) (sI μM 0 61 0) := ⟨⟨by omega, fun i hi => by omega⟩, ⟨sI_1, fun i hi => by omega⟩, ⟨sI_1, fun i hi => by omega⟩⟩
  rcases add_both (d := d + 14) (x := x1) (by decide) h0 with ⟨b1, b2⟩ | ⟨W, H, m1, n1, b1, b2, b3, b4, b5⟩
  · exact ⟨-1, _, _, X9_cut_ok ⟨_, c0, _, _, b1, tpos rfl bad42⟩, X10_cut_ok (by rintro μ1 rfl; exact ⟨_, _, b2, teq rfl ⟨rfl, rfl⟩⟩), kC, kM⟩
  · by_cases q2 : x2 = 0
    · by_cases q3 : x3 = 0
      · obtain ⟨X, mC, mM, a1, a2, a3, a4⟩ := tail35 (d := d) (x2 := x2) (x3 := x3) (x4 := x4) (by decide) (by decide) (fun _ => q3) b5
        exact ⟨X, mC, mM, X9_cut_ok ⟨_, c0, _, m1, b1, tneg (by decide) (tpos q2 a1)⟩, X10_cut_ok (by rintro μ1 rfl; exact ⟨_, n1, b2, tne (by decide) (tpos q2 (teq q2 (teq q3 a2)))⟩), (kC.trans b3).trans a3, (kM.trans b4).trans a4⟩
      · exact ⟨-1, m1, n1, X9_cut_ok ⟨_, c0, _, m1, b1, tneg (by decide) (tpos q2 (X9_cut_at42_ok (tneg (by decide) (tneg q3 (tpos q2 bad_c)))))⟩, X10_cut_ok (by rintro μ1 rfl; exact ⟨_, n1, b2, tne (by decide) (tpos q2 (teq q2 (tne q3 (X10_cut_at70_ok ⟨rfl, rfl⟩))))⟩), kC.trans b3, kM.trans b4⟩
    · rcases add_both (d := d + 14) (x := x2) (by decide) b5 with ⟨e1, e2⟩ | ⟨W2, H2, m2, n2, e1, e2, e3, e4, e5⟩
      · exact ⟨-1, m1, n1, X9_cut_ok ⟨_, c0, _, m1, b1, tneg (by decide) (tneg q2 ⟨_, m1, e1, tpos rfl bad42⟩)⟩, X10_cut_ok (by rintro μ1 rfl; exact ⟨_, n1, b2, tne (by decide) (tneg q2 ⟨_, n1, e2, tpos rfl (X10_cut_at70_ok ⟨rfl, rfl⟩)⟩)⟩), kC.trans b3, kM.trans b4⟩
      · obtain ⟨X, mC, mM, a1, a2, a3, a4⟩ := tail35 (d := d) (x2 := x2) (x3 := x3) (x4 := x4) (by decide) (by decide) (fun z => absurd z q2) e5
        exact ⟨X, mC, mM, X9_cut_ok ⟨_, c0, _, m1, b1, tneg (by decide) (tneg q2 ⟨_, m2, e1, tneg (by decide) a1⟩)⟩, X10_cut_ok (by rintro μ1 rfl; exact ⟨_, n1, b2, tne (by decide) (tneg q2 ⟨_, n2, e2, tneg (by decide) (tne q2 a2)⟩)⟩), ((kC.trans b3).trans e3).trans a3, ((kM.trans b4).trans e4).trans a4⟩
theorem call_cut {n : Nat} {a b c e : Int32} : Both (X9_cut (d + 16) a b c e) (X10_cut (d + 16) a b c e) n := by
  rintro μC μM ⟨P, p, r, h⟩
  have hpp := h.1.1.pp
  obtain ⟨X, mC, mM, a1, a2, a3, a4⟩ := cut_both (d := d) (x1 := a) (x2 := b) (x3 := c) (x4 := e) (μC := μC) (μM := μM)
  exact ⟨X, mC, mM, a1, a2, (h.scr (a3.mono fun a k q => by unfold cfC at q; unfold scC; omega) (h.1.2.1.of (a3.row fun j => by unfold cfC; omega) (a3.row fun j => by unfold cfC; omega)) (a4.mono fun a k q => by unfold cfM at q; unfold scM; omega)).next⟩
end Cut
