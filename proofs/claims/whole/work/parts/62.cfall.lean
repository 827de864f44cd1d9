/-! ===== the class: scenes, a piece falls ===== -/
def ordI (r : Nat → Nat) (l b : Nat) : Int32 := if r (52 + l) = 0 then -2 else nI (r (b + l))
def LoomC (P : Pl) (g : Nat → Int32) (r : Nat → Nat) (l : Nat) : Prop := g (8 * l) = nI (pWi P l) ∧ g (8 * l + 1) = nI (r (48 + l)) ∧ g (8 * l + 2) = ordI r l 52 ∧ g (8 * l + 3) = ordI r l 56 ∧ g (8 * l + 4) = ordI r l 60 ∧ g (8 * l + 5) = ordI r l 64 ∧ g (8 * l + 6) = nI (r (68 + l)) ∧ g (8 * l + 7) = nI (r (72 + l))
def RowC (P : Pl) (s : Nat) (μ : Mem) (r : Nat → Nat) : Prop := μ.1 s 0 = nI (r 89) ∧ μ.1 s 1 = nI (r 88) ∧ (∀ c, c < 48 → μ.1 (s + 1) c = nI (r c)) ∧ (∀ l, l < pL P → LoomC P (μ.1 (s + 2)) r l) ∧ (∀ l, pL P ≤ l → l < 4 → μ.1 (s + 2) (8 * l + 6) = 0) ∧ ∀ f, f < 6 → μ.1 (s + 3) f = nI (r (76 + f)) ∧ μ.1 (s + 4) f = nI (r (82 + f))
theorem RowC.of {P : Pl} {s : Nat} {μ μ' : Mem} {r : Nat → Nat} (h : RowC P s μ r) (h0 : μ'.1 s 0 = μ.1 s 0) (h1 : μ'.1 s 1 = μ.1 s 1) (hr : ∀ i, 1 ≤ i → i ≤ 4 → μ'.1 (s + i) = μ.1 (s + i)) : RowC P s μ' r := by
  unfold RowC
  rw [h0, h1, hr 1 (by decide) (by decide), hr 2 (by decide) (by decide), hr 3 (by decide) (by decide), hr 4 (by decide) (by decide)]
  exact h
theorem RowC.kq {P : Pl} {s : Nat} {S : Nat → Nat → Prop} {μ μ' : Mem} {r : Nat → Nat} (h : RowC P s μ r) (k : Kq S μ μ') (hS : ∀ a j, s ≤ a → a ≤ s + 4 → ¬ S a j) : RowC P s μ' r := h.of (k.at (hS _ _ (by omega) (by omega))) (k.at (hS _ _ (by omega) (by omega))) fun i h1 h2 => k.row fun j => hS _ _ (by omega) (by omega)
section Scene
variable {P : Pl} {p s : Nat} {d : Nat} {μ : Mem}
theorem isPart_c {l k : Nat} (hl : l < 4) (hk : k < 8) : X5_isPart d (nI l) (nI k) μ 1 μ := X5_isPart_ok (tneg (nI_pos (by omega)) (tneg (nI_ge (b := 4) hl (by decide)) (tneg (nI_pos (by omega)) (tneg (nI_ge (b := 8) hk (by decide)) ⟨rfl, rfl⟩))))
theorem part_e {l k : Nat} : nI l * 8 + nI k = nI (8 * l + k) := by rw [show (8 : Int32) = nI 8 from rfl, nI_mul, nJ_add, Nat.mul_comm]
theorem part_c {l k : Nat} (hl : l < 4) (hk : k < 8) : X5_part (d + 1) s (nI l) (nI k) μ (μ.1 (s + 2) (8 * l + k)) μ := by
  refine X5_part_ok ⟨1, μ, isPart_c hl hk, tneg (by decide) ?_⟩
  rw [part_e, nI_clamp (by omega)]
  exact ⟨vp_inN (by omega) (by decide), rfl, rfl⟩
theorem addPart_c {l k : Nat} {x : Int32} (hl : l < 4) (hk : k < 8) : X5_addPart (d + 1) s (nI l) (nI k) x μ (sI μ (s + 2) (8 * l + k) (μ.1 (s + 2) (8 * l + k) + x)) := by
  refine X5_addPart_ok ⟨1, μ, isPart_c hl hk, tneg (by decide) ?_⟩
  rw [part_e, nI_clamp (by omega)]
  refine ⟨vp_inN (by omega) (by decide), vp_inN (by omega) (by decide), ?_⟩
  rintro μ4 rfl
  rfl
theorem setPart_c {l k : Nat} {x : Int32} (hl : l < 4) (hk : k < 8) : X5_setPart (d + 1) s (nI l) (nI k) x μ (sI μ (s + 2) (8 * l + k) x) := by
  refine X5_setPart_ok ⟨1, μ, isPart_c hl hk, tneg (by decide) ?_⟩
  rw [part_e, nI_clamp (by omega)]
  refine ⟨vp_inN (by omega) (by decide), ?_⟩
  rintro μ4 rfl
  rfl
theorem mn_nI {a b : Nat} (ha : a < 2 ^ 31) (hb : b < 2 ^ 31) : mn (nI a) (nI b) = nI (min a b) := by
  unfold mn
  by_cases h : b < a
  · rw [if_pos (nI_lt h ha), Nat.min_eq_right (by omega)]
  · rw [if_neg (nI_nlt (by omega) hb), Nat.min_eq_left (by omega)]
theorem mx_nI {a b : Nat} (ha : a < 2 ^ 31) (hb : b < 2 ^ 31) : mx (nI a) (nI b) = nI (max a b) := by
  unfold mx
  by_cases h : a < b
  · rw [if_pos (nI_lt h hb), Nat.max_eq_right (by omega)]
  · rw [if_neg (nI_nlt (by omega) ha), Nat.max_eq_left (by omega)]
theorem wetter_c {a b : Nat} (hab : a + b < 2 ^ 31) : X7_wetter d (nI a) (nI b) μ (nI (min 999 (a + b))) μ := X7_wetter_ok ⟨by rw [nJ_add, show (999 : Int32) = nI 999 from rfl, mn_nI (by decide) hab], rfl⟩
end Scene
section Fall
variable {P : Pl} {p s : Nat} {d : Nat} {l w h x y : Nat} {r : Nat → Nat}
theorem watF_skip {am : Nat → Nat} {k k' c : Nat} (hk : k ≤ k') (hh : onL P c = true → x ≤ c % 8 → c % 8 < x + w → y ≤ c / 8 → k ≤ (c / 8 - y) * w + (c % 8 - x) → (c / 8 - y) * w + (c % 8 - x) < k' → False) : watF P r w x y am k c = watF P r w x y am k' c := by
  unfold watF
  by_cases q : onL P c = true ∧ x ≤ c % 8 ∧ c % 8 < x + w ∧ y ≤ c / 8 ∧ (c / 8 - y) * w + (c % 8 - x) < k'
  · obtain ⟨a1, a2, a3, a4, a5⟩ := q
    have : (c / 8 - y) * w + (c % 8 - x) < k := by
      rcases Nat.lt_or_ge ((c / 8 - y) * w + (c % 8 - x)) k with z | z
      · exact z
      · exact (hh a1 a2 a3 a4 z a5).elim
    rw [if_pos ⟨a1, a2, a3, a4, this⟩, if_pos ⟨a1, a2, a3, a4, a5⟩]
  · rw [if_neg q, if_neg (fun z => q ⟨z.1, z.2.1, z.2.2.1, z.2.2.2.1, by omega⟩)]
theorem watF_now {am : Nat → Nat} {i j : Nat} (hj : j < w) (hx8 : x + j < 8) : watF P r w x y am (i * w + j) (8 * (y + i) + (x + j)) = r (8 * (y + i) + (x + j)) := by
  unfold watF
  rw [if_neg]
  intro q
  have := q.2.2.2.2
  rw [show (8 * (y + i) + (x + j)) / 8 - y = i by omega, show (8 * (y + i) + (x + j)) % 8 - x = j by omega] at this
  omega
def sFl (p s a k : Nat) : Prop := sWv p a k ∨ (a = s ∧ k = 1) ∨ a = s + 1 ∨ a = s + 2
theorem sFl_n {μ μ' : Mem} (hp : p = 214 ∨ p = 233) (hs : 13 ≤ s ∧ s + 4 < 192) (h : Kq (sFl p s) μ μ') : Kq (nPl p) μ μ' := h.mono fun a k q => by
  unfold sFl sWv at q
  unfold nPl
  omega
theorem Kc.of {μ μ' : Mem} (h : Kc P μ) (h10 : μ'.1 10 = μ.1 10) (h11 : μ'.1 11 = μ.1 11) : Kc P μ' := by
  unfold Kc
  rw [h10, h11]
  exact h
/-- the scene while a piece falls: k threads have -/
def FlM (P : Pl) (s l w h x y : Nat) (r : Nat → Nat) (μ : Mem) (k : Nat) : Prop := μ.1 s 0 = nI (r 89) ∧ μ.1 s 1 = nI (r 88) ∧ (∀ c, c < 48 → μ.1 (s + 1) c = nI (watF P r w x y (amA P l w (r (48 + l)) (r 88)) k c)) ∧ (∀ i, i < pL P → LoomC P (μ.1 (s + 2)) r i) ∧ (∀ i, pL P ≤ i → i < 4 → μ.1 (s + 2) (8 * i + 6) = 0) ∧ (∀ f, f < 6 → μ.1 (s + 3) f = nI (r (76 + f)) ∧ μ.1 (s + 4) f = nI (r (82 + f))) ∧ WvM P l w (r (48 + l)) (r 88) μ (w * h)
theorem letFall_end {μ : Mem} (hl : l < pL P) (hw : 1 ≤ w) (hb : SB r) (hs : 13 ≤ s ∧ s + 4 < 192) (hC : CP P p μ) (hK : Kc P μ) (hF : FlM P s l w h x y r μ (w * h)) : ∃ μ', (∀ μ1 : Mem, μ1 = sI μ s 1 ((μ.1 s 1) - (μ.1 9 4)) → (∃ (μ2 : Mem), X5_addPart (d + 1) s (nI l) 6 (μ1.1 9 4) μ1 μ2 ∧ (∃ (μ4 : Mem), X5_addPart (d + 1) s (nI l) 1 (nI h) μ2 μ4 ∧ (((μ4.1 9 5) = 0 → (nI (fallW P l w h x y r) = μ4.1 9 4 ∧ μ' = μ4)) ∧ (¬ (μ4.1 9 5) = 0 → (∃ (μ6 : Mem), X5_addPart (d + 1) s (nI l) 7 1 μ4 μ6 ∧ (nI (fallW P l w h x y r) = μ6.1 9 4 ∧ μ' = μ6))))))) ∧ Kq (sFl p s) μ μ' ∧ Kc P μ' ∧ RowC P s μ' (fallR P l w h x y r) := by
  have pw := hC.1
  have h8 := pw.1
  have h6 := pw.2.1
  have h4 := pw.2.2.2.1
  obtain ⟨f0, f1, f2, f3, f4, f5, w1, w2, w3⟩ := hF
  obtain ⟨q1, q2, q3⟩ := fallS_eq (l := l) (x := x) (y := y) (pick := r (48 + l)) hb hw h8 h6 (w * h)
  have wle := wvS_le (P := P) (l := l) (w := w) (pick := r (48 + l)) (st := r 88) (w * h)
  generalize hS : fallS P l w x y (r (48 + l)) r (w * h) = S at q1 q2 q3
  have sne : ∀ j, j ≠ 88 → 48 ≤ j → S.1 j = r j := fun j a b => by rw [← hS]; exact fallS_ne a b h8 h6 _
  rw [← q1] at w1 w2 wle q2
  obtain ⟨m1, hm1⟩ : ∃ m, m = sI μ s 1 (nI (r 88 - S.2.1)) := ⟨_, rfl⟩
  obtain ⟨m2, hm2⟩ : ∃ m, m = sI m1 (s + 2) (8 * l + 6) (m1.1 (s + 2) (8 * l + 6) + nI S.2.1) := ⟨_, rfl⟩
  obtain ⟨m4, hm4⟩ : ∃ m, m = sI m2 (s + 2) (8 * l + 1) (m2.1 (s + 2) (8 * l + 1) + nI h) := ⟨_, rfl⟩
  obtain ⟨m6, hm6⟩ : ∃ m, m = if S.2.2 then sI m4 (s + 2) (8 * l + 7) (m4.1 (s + 2) (8 * l + 7) + 1) else m4 := ⟨_, rfl⟩
  have k1 : Kq (sFl p s) μ m1 := by rw [hm1]; exact Kq.sI (Or.inr (Or.inl ⟨rfl, rfl⟩))
  have k2 : Kq (sFl p s) μ m2 := k1.trans (by rw [hm2]; exact Kq.sI (Or.inr (Or.inr (Or.inr rfl))))
  have k4 : Kq (sFl p s) μ m4 := k2.trans (by rw [hm4]; exact Kq.sI (Or.inr (Or.inr (Or.inr rfl))))
  have k6 : Kq (sFl p s) μ m6 := k4.trans (by
    rw [hm6]
    split
    · exact Kq.sI (Or.inr (Or.inr (Or.inr rfl)))
    · exact Kq.refl)
  have g9 : ∀ a, a ≠ s → a ≠ s + 2 → m6.1 a = μ.1 a := fun a n1 n2 => by
    have e4 : m4.1 a = μ.1 a := by rw [hm4, sI_n n2, hm2, sI_n n2, hm1, sI_n n1]
    rw [hm6]
    split
    · rw [sI_n n2, e4]
    · exact e4
  have g94 : ∀ k, m4.1 9 k = μ.1 9 k := fun k => by rw [hm4, sI_n (by omega), hm2, sI_n (by omega), hm1, sI_n (by omega)]
  have g2 : m1.1 (s + 2) = μ.1 (s + 2) := by rw [hm1, sI_n (by omega)]
  have gl : ∀ i, i ≠ 8 * l + 1 → i ≠ 8 * l + 6 → i ≠ 8 * l + 7 → m6.1 (s + 2) i = μ.1 (s + 2) i := fun i n1 n2 n3 => by
    have e4 : m4.1 (s + 2) i = μ.1 (s + 2) i := by rw [hm4, sI_k n1, hm2, sI_k n2, g2]
    rw [hm6]
    split
    · rw [sI_k n3, e4]
    · exact e4
  obtain ⟨L0, L1, L2, L3, L4, L5, L6, L7⟩ := f3 l hl
  have g6 : m6.1 (s + 2) (8 * l + 6) = nI (r (68 + l) + S.2.1) := by
    have e4 : m4.1 (s + 2) (8 * l + 6) = nI (r (68 + l) + S.2.1) := by rw [hm4, sI_k (by omega), hm2, sI_1, g2, L6, nJ_add]
    rw [hm6]
    split
    · rw [sI_k (by omega), e4]
    · exact e4
  have g1 : m6.1 (s + 2) (8 * l + 1) = nI (r (48 + l) + h) := by
    have e4 : m4.1 (s + 2) (8 * l + 1) = nI (r (48 + l) + h) := by rw [hm4, sI_1, hm2, sI_k (by omega), g2, L1, nJ_add]
    rw [hm6]
    split
    · rw [sI_k (by omega), e4]
    · exact e4
  have e47 : m4.1 (s + 2) (8 * l + 7) = nI (r (72 + l)) := by rw [hm4, sI_k (by omega), hm2, sI_k (by omega), g2, L7]
  have g7 : m6.1 (s + 2) (8 * l + 7) = nI (r (72 + l) + if S.2.2 then 1 else 0) := by
    rw [hm6]
    split
    · rw [sI_1, e47, ← nI_succ]
    · exact e47
  have gs : ∀ k, m6.1 s k = m1.1 s k := fun k => by
    have e4 : m4.1 s k = m1.1 s k := by rw [hm4, sI_n (by omega), hm2, sI_n (by omega)]
    rw [hm6]
    split
    · rw [sI_n (by omega), e4]
    · exact e4
  refine ⟨m6, ?_, k6, hK.of (g9 10 (by omega) (by omega)) (g9 11 (by omega) (by omega)), ?_⟩
  · rintro μ1 e1
    have e1 : μ1 = m1 := by rw [e1, f1, w1, nI_sub wle, hm1]
    subst e1
    have z9 : μ1.1 9 4 = nI S.2.1 := by rw [hm1, sI_n (by omega)]; exact w1
    refine ⟨m2, ?_, m4, ?_, ?_⟩
    · rw [z9, hm2]
      exact addPart_c (by omega) (by decide)
    · rw [hm4]
      exact addPart_c (by omega) (by decide)
    · rw [g94 5, g94 4, w2, w1]
      have fw : fallW P l w h x y r = S.2.1 := by unfold fallW; rw [hS]
      rw [fw]
      cases hT : S.2.2 with
      | false =>
        rw [hT] at hm6
        exact tpos rfl ⟨rfl, hm6⟩
      | true =>
        rw [hT] at hm6
        refine tneg (by decide) ⟨m6, ?_, ?_, rfl⟩
        · rw [hm6]
          exact addPart_c (by omega) (by decide)
        · rw [g9 9 (by omega) (by omega), w1]
  · unfold fallR
    rw [hS]
    refine ⟨?_, ?_, fun c hc => ?_, fun i hi => ?_, fun i hi1 hi2 => ?_, fun f hf => ⟨?_, ?_⟩⟩
    · rw [gs, hm1, sI_k (by decide), f0, fallE_ne (by omega) (by omega) (by omega) (by omega), sne 89 (by decide) (by decide)]
    · rw [gs, hm1, sI_1, fallE_ne (by omega) (by omega) (by omega) (by omega), q2]
    · rw [g9 _ (by omega) (by omega), f2 c hc, fallE_ne (by omega) (by omega) (by omega) (by omega), q3 c hc]
    · obtain ⟨M0, M1, M2, M3, M4, M5, M6, M7⟩ := f3 i hi
      have o : ∀ b, (b = 52 ∨ b = 56 ∨ b = 60 ∨ b = 64) → ordI (fallE l h (r (48 + l)) S) i b = ordI r i b := fun b hb => by
        unfold ordI
        rw [fallE_ne (by omega) (by omega) (by omega) (by omega), fallE_ne (by omega) (by omega) (by omega) (by omega), sne _ (by omega) (by omega), sne _ (by omega) (by omega)]
      unfold LoomC
      rw [o 52 (by omega), o 56 (by omega), o 60 (by omega), o 64 (by omega), gl (8 * i) (by omega) (by omega) (by omega), gl (8 * i + 2) (by omega) (by omega) (by omega), gl (8 * i + 3) (by omega) (by omega) (by omega), gl (8 * i + 4) (by omega) (by omega) (by omega), gl (8 * i + 5) (by omega) (by omega) (by omega)]
      by_cases e : i = l
      · subst e
        rw [fallE_pick (by omega), fallE_woven (by omega), fallE_torn (by omega), sne _ (by omega) (by omega), sne _ (by omega) (by omega)]
        exact ⟨M0, g1, M2, M3, M4, M5, g6, g7⟩
      · rw [gl (8 * i + 1) (by omega) (by omega) (by omega), gl (8 * i + 6) (by omega) (by omega) (by omega), gl (8 * i + 7) (by omega) (by omega) (by omega), fallE_ne (j := 48 + i) (by omega) (by omega) (by omega) (by omega), fallE_ne (j := 68 + i) (by omega) (by omega) (by omega) (by omega), fallE_ne (j := 72 + i) (by omega) (by omega) (by omega) (by omega), sne (48 + i) (by omega) (by omega), sne (68 + i) (by omega) (by omega), sne (72 + i) (by omega) (by omega)]
        exact ⟨M0, M1, M2, M3, M4, M5, M6, M7⟩
    · rw [gl _ (by omega) (by omega) (by omega)]
      exact f4 i hi1 hi2
    · rw [g9 _ (by omega) (by omega), fallE_ne (by omega) (by omega) (by omega) (by omega), sne _ (by omega) (by omega)]
      exact (f5 f hf).1
    · rw [g9 _ (by omega) (by omega), fallE_ne (by omega) (by omega) (by omega) (by omega), sne _ (by omega) (by omega)]
      exact (f5 f hf).2
end Fall
