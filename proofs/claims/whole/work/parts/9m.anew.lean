/-! ===== read: a text taken: all begins anew ===== -/
section Rd
variable {d : Nat}
section
def row0 (P : Pl) (k : Nat) : Nat := if 48 ≤ k ∧ k < 48 + pL P then pPi P (k - 48) else if k = 88 then pSt P else 0
theorem row0_z {P : Pl} {k : Nat} (h : k < 48 ∨ 48 + pL P ≤ k) (h8 : k ≠ 88) : row0 P k = 0 := by
  unfold row0
  rw [if_neg (by omega), if_neg h8]
theorem row0_l {P : Pl} {l : Nat} (h : l < pL P) : row0 P (48 + l) = pPi P l := by
  unfold row0
  rw [if_pos (by omega), show 48 + l - 48 = l by omega]
theorem row0_s {P : Pl} (h : pL P ≤ 4) : row0 P 88 = pSt P := by
  unfold row0
  rw [if_neg (by omega), if_pos rfl]
theorem LoomC.of' {P : Pl} {g g' : Nat → Int32} {r : Nat → Nat} {l : Nat} (h : LoomC P g r l) (e : ∀ k, k < 8 → g' (8 * l + k) = g (8 * l + k)) : LoomC P g' r l := by
  obtain ⟨h0, h1, h2, h3, h4, h5, h6, h7⟩ := h
  exact ⟨(e 0 (by decide)).trans h0, (e 1 (by decide)).trans h1, (e 2 (by decide)).trans h2, (e 3 (by decide)).trans h3, (e 4 (by decide)).trans h4, (e 5 (by decide)).trans h5, (e 6 (by decide)).trans h6, (e 7 (by decide)).trans h7⟩
def plF (P : Pl) (p : Nat) (μ : Mem) : Prop := μ.1 p 3 = nI (pL P) ∧ ∀ l, l < pL P → μ.1 (p + 5) l = nI (pWi P l) ∧ μ.1 (p + 6) l = nI (pPi P l)
theorem sbeg_loop {P : Pl} {p : Nat} (hL : pL P ≤ 4) (hp : 200 < p) : ∀ (m j : Nat) (μ : Mem), j + m = pL P → plF P p μ → (∀ l, l < j → LoomC P (μ.1 15) (row0 P) l) → (∀ l, j ≤ l → l < 4 → ∀ k, k < 8 → μ.1 15 (8 * l + k) = 0) → ∃ μ', X5_begin_at47 (d + 2) 13 p (nI j) μ μ' ∧ Kq (fun a _ => a = 15) μ μ' ∧ (∀ l, l < pL P → LoomC P (μ'.1 15) (row0 P) l) ∧ ∀ l, pL P ≤ l → l < 4 → μ'.1 15 (8 * l + 6) = 0
  | 0, j, μ, hj, hF, h1, h2 => by
    have hj : j = pL P := hj
    subst hj
    exact ⟨μ, X5_begin_at47_ok (tpos (by rw [hF.1]; exact nI_le (Nat.le_refl _) (by omega)) rfl), Kq.refl, h1, fun l q1 q2 => h2 l q1 q2 6 (by decide)⟩
  | m + 1, j, μ, hj, hF, h1, h2 => by
    have hjl : j < pL P := by omega
    have hj4 : j < 4 := by omega
    have cj : (nI j).toNatClampNeg = j := nI_clamp (by omega)
    have z : ∀ k, k < 8 → μ.1 15 (8 * j + k) = 0 := h2 j (Nat.le_refl _) hj4
    obtain ⟨m1, e1⟩ : ∃ m1, m1 = sI μ 15 (8 * j + 0) (μ.1 15 (8 * j + 0) + nI (pWi P j)) := ⟨_, rfl⟩
    obtain ⟨m2, e2⟩ : ∃ m2, m2 = sI m1 15 (8 * j + 1) (m1.1 15 (8 * j + 1) + nI (pPi P j)) := ⟨_, rfl⟩
    obtain ⟨m3, e3⟩ : ∃ m3, m3 = sI (sI (sI (sI m2 15 (8 * j + 2) (-2)) 15 (8 * j + 3) (-2)) 15 (8 * j + 4) (-2)) 15 (8 * j + 5) (-2) := ⟨_, rfl⟩
    have a1 : X5_addPart (d + 2) 13 (nI j) 0 (nI (pWi P j)) μ m1 := by rw [e1]; exact addPart_c (d := d + 1) (s := 13) (k := 0) hj4 (by decide)
    have a2 : X5_addPart (d + 2) 13 (nI j) 1 (nI (pPi P j)) m1 m2 := by rw [e2]; exact addPart_c (d := d + 1) (s := 13) (k := 1) hj4 (by decide)
    have a3 : X5_setOrder (d + 2) 13 (nI j) (-2) (-2) (-2) (-2) m2 m3 := by rw [e3]; exact setOrder_c (s := 13) hj4
    have k1 : Kq (fun a _ => a = 15) μ m1 := by rw [e1]; exact Kq.sI rfl
    have k2 : Kq (fun a _ => a = 15) m1 m2 := by rw [e2]; exact Kq.sI rfl
    have k3 : Kq (fun a _ => a = 15) m2 m3 := by rw [e3]; exact Kq.trans (Kq.trans (Kq.trans (Kq.sI rfl) (Kq.sI rfl)) (Kq.sI rfl)) (Kq.sI rfl)
    have w0 : m1.1 15 (8 * j + 0) = nI (pWi P j) := by rw [e1, sI_1, z 0 (by decide)]; exact Int32.zero_add _
    have w1 : m2.1 15 (8 * j + 1) = nI (pPi P j) := by rw [e2, sI_1, e1, sI_k (by omega), z 1 (by decide)]; exact Int32.zero_add _
    have oth : ∀ c, (c < 8 * j ∨ 8 * j + 5 < c) → m3.1 15 c = μ.1 15 c := fun c hc => by
      rw [e3, sI_k (by omega), sI_k (by omega), sI_k (by omega), sI_k (by omega), e2, sI_k (by omega), e1, sI_k (by omega)]
    have new : LoomC P (m3.1 15) (row0 P) j := by
      have o : ∀ b, ordI (row0 P) j b = -2 := fun b => by
        unfold ordI
        rw [row0_z (Or.inr (by omega)) (by omega), if_pos rfl]
      refine ⟨?_, ?_, ?_, ?_, ?_, ?_, ?_, ?_⟩
      · rw [e3, sI_k (by omega), sI_k (by omega), sI_k (by omega), sI_k (by omega), e2, sI_k (by omega)]; exact w0
      · rw [e3, sI_k (by omega), sI_k (by omega), sI_k (by omega), sI_k (by omega), row0_l hjl]; exact w1
      · rw [o, e3, sI_k (by omega), sI_k (by omega), sI_k (by omega), sI_1]
      · rw [o, e3, sI_k (by omega), sI_k (by omega), sI_1]
      · rw [o, e3, sI_k (by omega), sI_1]
      · rw [o, e3, sI_1]
      · rw [oth _ (by omega), z 6 (by decide), row0_z (Or.inr (by omega)) (by omega)]; rfl
      · rw [oth _ (by omega), z 7 (by decide), row0_z (Or.inr (by omega)) (by omega)]; rfl
    have K := k1.trans (k2.trans k3)
    have F3 : plF P p m3 := ⟨(K.at (by omega)).trans hF.1, fun l hl => ⟨(K.at (by omega)).trans (hF.2 l hl).1, (K.at (by omega)).trans (hF.2 l hl).2⟩⟩
    obtain ⟨μ', b1, b2, b3, b4⟩ := sbeg_loop hL hp m (j + 1) m3 (by omega) F3 (fun l hl => by
      by_cases e : l = j
      · rw [e]; exact new
      · exact (h1 l (by omega)).of' fun k hk => oth _ (by omega)) (fun l q1 q2 k hk => by rw [oth _ (by omega)]; exact h2 l (by omega) q2 k hk)
    refine ⟨μ', X5_begin_at47_ok (tneg (by rw [hF.1]; exact nI_ge hjl (by omega)) ?_), K.trans b2, b3, b4⟩
    have vj : vp_in (nI j) 4 := vp_inN hj4 (by decide)
    rw [cj, (hF.2 j hjl).1]
    refine ⟨vj, m1, a1, vj, m2, ?_, m3, a3, ?_⟩
    · rw [k1.at (by omega), (hF.2 j hjl).2]; exact a2
    · rw [nI_1]; exact b1
def sbF (a k : Nat) : Prop := (a = 13 ∧ k ≤ 1) ∨ (14 ≤ a ∧ a ≤ 17)
theorem sbegin_c {P : Pl} {p : Nat} {μ : Mem} (hL : pL P ≤ 4) (hp : 200 < p) (hF : plF P p μ) (h4 : μ.1 p 4 = nI (pSt P)) : ∃ μ', X5_begin (d + 3) 13 p μ μ' ∧ Kq sbF μ μ' ∧ RowC P 13 μ' (row0 P) := by
  obtain ⟨m0, e0⟩ : ∃ m0, m0 = sI (sI μ 13 0 0) 13 1 (nI (pSt P)) := ⟨_, rfl⟩
  obtain ⟨m1, e1⟩ : ∃ m1, m1 = sA m0 14 (fillTo (m0.1 14) 48 0) := ⟨_, rfl⟩
  obtain ⟨m2, e2⟩ : ∃ m2, m2 = sA m1 15 (fillTo (m1.1 15) 32 0) := ⟨_, rfl⟩
  obtain ⟨m3, e3⟩ : ∃ m3, m3 = sA m2 16 (fillTo (m2.1 16) 6 0) := ⟨_, rfl⟩
  obtain ⟨m4, e4⟩ : ∃ m4, m4 = sA m3 17 (fillTo (m3.1 17) 6 0) := ⟨_, rfl⟩
  have k0 : Kq sbF μ m0 := by rw [e0]; exact (Kq.sI (by unfold sbF; omega)).trans (Kq.sI (by unfold sbF; omega))
  have k1 : Kq (fun a _ => a = 14) m0 m1 := by rw [e1]; exact Kq.sA fun _ => rfl
  have k2 : Kq (fun a _ => a = 15) m1 m2 := by rw [e2]; exact Kq.sA fun _ => rfl
  have k3 : Kq (fun a _ => a = 16) m2 m3 := by rw [e3]; exact Kq.sA fun _ => rfl
  have k4 : Kq (fun a _ => a = 17) m3 m4 := by rw [e4]; exact Kq.sA fun _ => rfl
  have K : Kq sbF μ m4 := k0.trans ((k1.mono fun a k q => by unfold sbF; omega).trans ((k2.mono fun a k q => by unfold sbF; omega).trans ((k3.mono fun a k q => by unfold sbF; omega).trans (k4.mono fun a k q => by unfold sbF; omega))))
  have F4 : plF P p m4 := ⟨(K.at (by unfold sbF; omega)).trans hF.1, fun l hl => ⟨(K.at (by unfold sbF; omega)).trans (hF.2 l hl).1, (K.at (by unfold sbF; omega)).trans (hF.2 l hl).2⟩⟩
  obtain ⟨μ', b1, b2, b3, b4⟩ := sbeg_loop (d := d) hL hp (pL P) 0 m4 (by omega) F4 (fun l hl => absurd hl (Nat.not_lt_zero _)) (fun l q1 q2 k hk => by
    rw [k4.at (by omega), k3.at (by omega), e2, sA_1]
    unfold fillTo
    rw [if_pos (by omega)])
  refine ⟨μ', X5_begin_ok ?_, K.trans (b2.mono fun a k q => by unfold sbF; omega), ?_, ?_, fun c hc => ?_, b3, b4, fun f hf => ⟨?_, ?_⟩⟩
  · rintro n1 rfl
    rw [sI_n (show p ≠ 13 by omega), h4]
    rintro n2 rfl
    rw [← e0]
    exact ⟨m1, by rw [e1]; exact fill_spec (by decide), m2, by rw [e2]; exact fill_spec (by decide), m3, by rw [e3]; exact fill_spec (by decide), m4, by rw [e4]; exact fill_spec (by decide), b1⟩
  · rw [b2.at (by omega), k4.at (by omega), k3.at (by omega), k2.at (by omega), k1.at (by omega), e0, sI_k (by decide), sI_1, row0_z (Or.inr (by omega)) (by decide)]; rfl
  · rw [b2.at (by omega), k4.at (by omega), k3.at (by omega), k2.at (by omega), k1.at (by omega), e0, sI_1, row0_s hL]
  · show μ'.1 14 c = _
    rw [b2.at (by omega), k4.at (by omega), k3.at (by omega), k2.at (by omega), e1, sA_1, row0_z (Or.inl hc) (by omega)]
    unfold fillTo
    rw [if_pos hc]
    rfl
  · show μ'.1 16 f = _
    rw [b2.at (by omega), k4.at (by omega), e3, sA_1, row0_z (Or.inr (by omega)) (by omega)]
    unfold fillTo
    rw [if_pos hf]
    rfl
  · show μ'.1 17 f = _
    rw [b2.at (by omega), e4, sA_1, row0_z (Or.inr (by omega)) (by omega)]
    unfold fillTo
    rw [if_pos hf]
    rfl
theorem SW_0 {P : Pl} (h : PW P) {B : Nat} (hB : 99 ≤ B) : SW P B (row0 P) := by
  obtain ⟨h1, h2, h3, h4, h5, h6, h7, h8, h9, h10, h11, h12⟩ := h
  refine ⟨⟨fun c hc => by rw [row0_z (Or.inl hc) (by omega)]; omega, by rw [row0_s h4]; exact h5⟩, fun c hc _ => row0_z (Or.inl hc) (by omega), fun l hl => ⟨by rw [row0_l hl]; have := (h10 l hl).2.2; omega, Or.inl (row0_z (Or.inr (by omega)) (by omega))⟩, fun l q1 q2 => row0_z (Or.inr (by omega)) (by omega), ?_⟩
  rw [row0_z (Or.inr (by omega)) (by decide), row0_z (Or.inr (by omega)) (by decide), row0_z (Or.inr (by omega)) (by decide), row0_z (Or.inr (by omega)) (by decide), row0_z (Or.inr (by omega)) (by decide)]
/-- the model begins anew -/
theorem bg_loom {P : Pl} {L : Nat} (hL : L < 2) (h4 : pL P ≤ 4) : ∀ (m l : Nat) (μ : Mem), l + m = pL P → μ.1 0 18 = nI L → μ.1 15 L = nI (pL P) → μ.1 18 L = nI (pSt P) → (∀ l, l < pL P → μ.1 17 (4 * L + l) = nI (pPi P l)) → (∀ j, j < 92 → μ.1 34 j = if 48 ≤ j ∧ j < 48 + l then nI (pPi P (j - 48)) else 0) → ∃ μ', X10_begins_at23 d (nI l) μ μ' ∧ Kq (fun a k => a = 34 ∨ (a = 0 ∧ k = 52)) μ μ' ∧ RowM μ' 34 (row0 P)
  | 0, l, μ, hl, h18, h15, hs, hp, hr => by
    have hl : l = pL P := hl
    subst hl
    have v : vp_in (μ.1 0 18) 2 := by rw [h18]; exact vp_inN hL (by decide)
    have c : (μ.1 0 18).toNatClampNeg = L := by rw [h18]; exact nI_clamp (by omega)
    refine ⟨sI (sI μ 34 88 (nI (pSt P))) 0 52 (μ.1 20 L), X10_begins_at23_ok ⟨v, tpos (by rw [c, h15]; exact nI_le (Nat.le_refl _) (by omega)) ⟨v, ?_⟩⟩, (Kq.sI (Or.inl rfl)).trans (Kq.sI (Or.inr ⟨rfl, rfl⟩)), fun k hk => ?_⟩
    · rw [c, hs]
      rintro μ1 rfl
      rw [sI_n (show 0 ≠ 34 by decide), c, sI_n (show 20 ≠ 34 by decide)]
      refine ⟨v, ?_⟩
      rintro μ2 rfl
      rfl
    · rw [sI_n (by decide)]
      by_cases e : k = 88
      · rw [e, sI_1, row0_s h4]
      · rw [sI_k e, hr k hk]
        unfold row0
        by_cases q : 48 ≤ k ∧ k < 48 + pL P
        · rw [if_pos q, if_pos q]
        · rw [if_neg q, if_neg q, if_neg e]; rfl
  | m + 1, l, μ, hl, h18, h15, hs, hp, hr => by
    have v : vp_in (μ.1 0 18) 2 := by rw [h18]; exact vp_inN hL (by decide)
    have c : (μ.1 0 18).toNatClampNeg = L := by rw [h18]; exact nI_clamp (by omega)
    have hll : l < pL P := by omega
    obtain ⟨μ', a1, a2, a3⟩ := bg_loom hL h4 m (l + 1) (sI μ 34 (48 + l) (nI (pPi P l))) (by omega) (by rw [sI_n (by decide)]; exact h18) (by rw [sI_n (by decide)]; exact h15) (by rw [sI_n (by decide)]; exact hs) (fun j hj => by rw [sI_n (by decide)]; exact hp j hj) (fun j hj => by
      by_cases e : j = 48 + l
      · rw [e, sI_1, if_pos (by omega), show 48 + l - 48 = l by omega]
      · rw [sI_k e, hr j hj]
        by_cases q : 48 ≤ j ∧ j < 48 + l
        · rw [if_pos q, if_pos (by omega)]
        · rw [if_neg q, if_neg (by omega)])
    refine ⟨μ', X10_begins_at23_ok ⟨v, tneg (by rw [c, h15]; exact nI_ge hll (by omega)) ?_⟩, Kq.trans (Kq.sI (Or.inl rfl)) a2, a3⟩
    rw [h18, show (4 * nI L : Int32) + nI l = nI (4 * L + l) by rw [show (4 : Int32) = nI 4 from rfl, nI_mul, nJ_add], show (48 : Int32) + nI l = nI (48 + l) by rw [show (48 : Int32) = nI 48 from rfl, nJ_add], nI_clamp (show 48 + l < 2 ^ 31 by omega), nI_clamp (show 4 * L + l < 2 ^ 31 by omega), hp l hll]
    refine ⟨vp_inN (by omega) (by decide), vp_inN (by omega) (by decide), ?_⟩
    rintro μ3 rfl
    rw [nI_1]
    exact a1
theorem begins_m {P : Pl} {L : Nat} {μ : Mem} (hL : L < 2) (h4 : pL P ≤ 4) (h18 : μ.1 0 18 = nI L) (h15 : μ.1 15 L = nI (pL P)) (hs : μ.1 18 L = nI (pSt P)) (hp : ∀ l, l < pL P → μ.1 17 (4 * L + l) = nI (pPi P l)) : ∃ μ', X10_begins d μ μ' ∧ Kq (fun a k => a = 34 ∨ (a = 0 ∧ k = 52)) μ μ' ∧ RowM μ' 34 (row0 P) := by
  obtain ⟨m1, e1⟩ : ∃ m1, m1 = sA μ 34 (fillTo (μ.1 34) 92 0) := ⟨_, rfl⟩
  have k1 : Kq (fun a _ => a = 34) μ m1 := by rw [e1]; exact Kq.sA fun _ => rfl
  obtain ⟨μ', a1, a2, a3⟩ := bg_loom (d := d) hL h4 (pL P) 0 m1 (by omega) ((k1.at (by omega)).trans h18) ((k1.at (by omega)).trans h15) ((k1.at (by omega)).trans hs) (fun l hl => (k1.at (by omega)).trans (hp l hl)) (fun j hj => by
    rw [if_neg (by omega), e1, sA_1]
    unfold fillTo
    rw [if_pos hj])
  refine ⟨μ', X10_begins_ok ?_, (k1.mono fun a k q => Or.inl q).trans a2, a3⟩
  have go : ∀ (m k : Nat), k + m = 92 → X10_begins_at2 d (nI k) (sA μ 34 (fillTo (μ.1 34) k 0)) μ' := fun m => by
    induction m with
    | zero =>
      intro k hk
      have hk : k = 92 := hk
      subst hk
      exact X10_begins_at2_ok (tpos (by decide) (by rw [← e1]; exact a1))
    | succ m ih =>
      intro k hk
      refine X10_begins_at2_ok (tneg (nI_ge (b := 92) (by omega) (by decide)) ⟨vp_inN (by omega) (by decide), ?_⟩)
      rw [nI_clamp (by omega), nI_1]
      rintro μ1 rfl
      have e : sI (sA μ 34 (fillTo (μ.1 34) k 0)) 34 k 0 = sA μ 34 (fillTo (μ.1 34) (k + 1) 0) := by
        unfold sI
        rw [sA_1, sA_sA, fillTo_s]
      rw [e]
      exact ih (k + 1) (by omega)
  have := go 92 0 (by decide)
  rw [fillTo_0, sA_id] at this
  exact this
end
end Rd
