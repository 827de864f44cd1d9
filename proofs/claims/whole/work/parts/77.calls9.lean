/-! ===== calls: comes, round, agree ===== -/
section Calls
variable {d n : Nat}
theorem wideOf_m {P : Pl} {l : Nat} {μ : Mem} (hl : l < pL P) (hM : MP P μ) : vp_in (4 * μ.1 0 18 + nI l) 8 ∧ μ.1 16 ((4 * μ.1 0 18 + nI l).toNatClampNeg) = nI (pWi P l) := by
  have h4 := hM.1.2.2.2.1
  obtain ⟨L, h1, h2, _, mm⟩ := hM.eL
  have e4 : (4 : Int32) * μ.1 0 18 + nI l = nI (4 * L + l) := by rw [h2, show (4 : Int32) = nI 4 from rfl, nI_mul, nJ_add]
  rw [e4, nI_clamp (by omega)]
  exact ⟨vp_inN (by omega) (by decide), (mm.2.2.2.2.2.2.2.2.2.2.2.1 l hl).1⟩
theorem now48_m {l : Nat} {r : Nat → Nat} {μ : Mem} (hl : l < 4) (hR : RowM μ 33 r) : vp_in (48 + nI l) 92 ∧ μ.1 33 ((48 + nI l).toNatClampNeg) = nI (r (48 + l)) := by
  rw [show (48 : Int32) + nI l = nI (48 + l) from nJ_add 48 l, nI_clamp (by omega)]
  exact ⟨vp_inN (by omega) (by decide), hR _ (by omega)⟩
/-- which threads of a row hold something, as bits -/
def bitI (P : Pl) (l pick : Nat) : Nat → Int32
  | 0 => 0
  | k + 1 => if thr P l k pick = 0 then bitI P l pick k else bitI P l pick k ||| (1 <<< (nI k &&& 31))
theorem bits_c {P : Pl} {l pick w : Nat} {μ : Mem} (hw : w ≤ pWi P l) (h8 : pWi P l ≤ 8) : ∀ (m k : Nat), k + m = w → X7_bitsOf_at4 d (rowI P l pick) (nI w) (bitI P l pick k) (nI k) μ (bitI P l pick w) μ
  | 0, k, hk => by
    have hk : k = w := hk
    subst hk
    exact X7_bitsOf_at4_ok (tpos (nI_le (Nat.le_refl _) (by omega)) ⟨rfl, rfl⟩)
  | m + 1, k, hk => by
    have t := threadOf_c (d := d) (l := l) (pick := pick) (w := k) (μ := μ) (by omega) h8
    rw [if_pos (show k < pWi P l by omega)] at t
    have ih := bits_c (P := P) (l := l) (pick := pick) (μ := μ) hw h8 m (k + 1) (by omega)
    have tl := thr_le (P := P) (l := l) (warp := k) (pick := pick)
    rw [nI_succ] at ih
    refine X7_bitsOf_at4_ok (tneg (nI_ge (by omega) (by omega)) ⟨_, μ, t, ?_⟩)
    by_cases z : thr P l k pick = 0
    · rw [show bitI P l pick (k + 1) = bitI P l pick k from if_pos z] at ih
      exact tpos (by rw [z]; decide) ih
    · rw [show bitI P l pick (k + 1) = bitI P l pick k ||| (1 <<< (nI k &&& 31)) from if_neg z] at ih
      exact tneg (nI_nle (by omega) (by omega)) ih
def comA (P : Pl) (l w pick : Nat) (x : Int32) : Nat → Nat → Int32
  | 0, _ => -2
  | m + 1, j => if bitI P l (pick + j) w = x then nI j else comA P l w pick x m (j + 1)
theorem comes_c {P : Pl} {p l w pick : Nat} {x : Int32} (hl : l < pL P) (hw : w ≤ pWi P l) (hp : pick < 1000000) : ∀ (m j : Nat) (μ : Mem), j + m = 201 → CP P p μ → Kc P μ → ∃ μ', X9_comes_at37 (d + 2) (nI l) (nI w) x (nI pick) (nI j) μ (comA P l w pick x m j) μ' ∧ Kq (scC p) μ μ' ∧ Kc P μ'
  | 0, j, μ, hj, hC, hK => by
    have hj : j = 201 := hj
    subst hj
    exact ⟨μ, X9_comes_at37_ok (tpos (nI_lt (a := 200) (b := 201) (by decide) (by decide)) ⟨rfl, rfl⟩), Kq.refl, hK⟩
  | m + 1, j, μ, hj, hC, hK => by
    have w8 := (hC.1.2.2.2.2.2.2.2.2.2.1 l hl).2.1
    obtain ⟨m1, a1, a2, a3⟩ := rowAt_c (d := d) (pick := pick + j) hl (by omega) hC hK
    have b1 : X7_bitsOf (d + 2) (rowI P l (pick + j)) (nI w) m1 (bitI P l (pick + j) w) m1 := X7_bitsOf_ok (bits_c hw w8 w 0 (by omega))
    have hn1 : ¬ (200 : Int32) < nI j := nI_nlt (a := 200) (b := j) (by omega) (by decide)
    by_cases e : bitI P l (pick + j) w = x
    · refine ⟨m1, X9_comes_at37_ok (tneg hn1 ?_), sWv_sc (sRw_v a2), a3⟩
      rw [nJ_add]
      exact ⟨_, m1, a1, _, m1, b1, teq e ⟨if_pos e, rfl⟩⟩
    · obtain ⟨μ', g1, g2, g3⟩ := comes_c (x := x) hl hw hp m (j + 1) m1 (by omega) (hC.kq (sRw_n hC.pp a2)) a3
      refine ⟨μ', X9_comes_at37_ok (tneg hn1 ?_), (sWv_sc (sRw_v a2)).trans g2, g3⟩
      rw [nJ_add]
      rw [nI_succ] at g1
      refine ⟨_, m1, a1, _, m1, b1, tne e ?_⟩
      rw [show comA P l w pick x (m + 1) j = comA P l w pick x m (j + 1) from if_neg e]
      exact g1
theorem comes_in {P : Pl} {l w j : Nat} {x X : Int32} {r : Nat → Nat} (hl : l < pL P) (hw : w ≤ 8) (hp : r (48 + l) + j < 1100000) (hc : ∀ μ, MP P μ → RowM μ 33 r → ∃ μ', ((bitI P l (r (48 + l) + j) w ≠ x → X10_comes_at47 (d + 2) (nI l) (nI w) x (nI j + 1) μ X μ') ∧ (bitI P l (r (48 + l) + j) w = x → (X = nI j ∧ μ' = μ))) ∧ Kp fVr μ μ') : ∀ (m k : Nat) (μ : Mem), k + m = w → MP P μ → RowM μ 33 r → ∃ μ', X10_comes_at61 (d + 2) (nI l) (nI w) x (nI j) (bitI P l (r (48 + l) + j) k) (nI k) μ X μ' ∧ Kp fVr μ μ'
  | 0, k, μ, hk, hM, hR => by
    have hk : k = w := hk
    subst hk
    obtain ⟨μ', c1, c2⟩ := hc μ hM hR
    exact ⟨μ', X10_comes_at61_ok (tpos (nI_le (Nat.le_refl _) (by omega)) c1), c2⟩
  | m + 1, k, μ, hk, hM, hR => by
    have h4 := hM.1.2.2.2.1
    obtain ⟨v1, v2⟩ := now48_m (show l < 4 by omega) hR
    have tl := thr_le (P := P) (l := l) (warp := k) (pick := r (48 + l) + j)
    obtain ⟨m1, a1, a2⟩ := threadOf_m (d := d) (l := l) (warp := k) (pick := r (48 + l) + j) hl (by omega) hM
    obtain ⟨μ', g1, g2⟩ := comes_in hl hw hp hc m (k + 1) m1 (by omega) (hM.kp (fV_M a2)) (hR.kp a2 fun _ => rfl)
    rw [nI_succ] at g1
    have c1 : X10_threadOf (d + 2) (nI l) (nI k) (μ.1 33 ((48 + nI l).toNatClampNeg) + nI j) μ (nI (thr P l k (r (48 + l) + j))) m1 := by rw [v2, nJ_add]; exact a1
    refine ⟨μ', X10_comes_at61_ok (tneg (nI_ge (by omega) (by omega)) ⟨v1, _, m1, c1, ?_⟩), a2.trans g2⟩
    · by_cases z : thr P l k (r (48 + l) + j) = 0
      · rw [show bitI P l (r (48 + l) + j) (k + 1) = bitI P l (r (48 + l) + j) k from if_pos z] at g1
        exact tpos (by rw [z]; decide) g1
      · rw [show bitI P l (r (48 + l) + j) (k + 1) = bitI P l (r (48 + l) + j) k ||| (1 <<< (nI k &&& 31)) from if_neg z] at g1
        exact tneg (nI_nle (by omega) (by omega)) g1
theorem comes_m {P : Pl} {l w : Nat} {x : Int32} {r : Nat → Nat} (hl : l < pL P) (hw : w ≤ 8) (hp : r (48 + l) < 1000000) : ∀ (m j : Nat) (μ : Mem), j + m = 201 → MP P μ → RowM μ 33 r → ∃ μ', X10_comes_at47 (d + 2) (nI l) (nI w) x (nI j) μ (comA P l w (r (48 + l)) x m j) μ' ∧ Kp fVr μ μ'
  | 0, j, μ, hj, hM, hR => by
    have hj : j = 201 := hj
    subst hj
    exact ⟨μ, X10_comes_at47_ok (tpos (nI_lt (a := 200) (b := 201) (by decide) (by decide)) ⟨rfl, rfl⟩), Kp.refl⟩
  | m + 1, j, μ, hj, hM, hR => by
    have hn1 : ¬ (200 : Int32) < nI j := nI_nlt (a := 200) (b := j) (by omega) (by decide)
    obtain ⟨μ', g1, g2⟩ := comes_in (d := d) (l := l) (w := w) (j := j) (x := x) (X := comA P l w (r (48 + l)) x (m + 1) j) (r := r) hl hw (by omega) (fun μ hM hR => by
      by_cases e : bitI P l (r (48 + l) + j) w = x
      · exact ⟨μ, teq e ⟨if_pos e, rfl⟩, Kp.refl⟩
      · obtain ⟨μ', q1, q2⟩ := comes_m (x := x) hl hw hp m (j + 1) μ (by omega) hM hR
        rw [nI_succ] at q1
        refine ⟨μ', tne e ?_, q2⟩
        rw [show comA P l w (r (48 + l)) x (m + 1) j = comA P l w (r (48 + l)) x m (j + 1) from if_neg e]
        exact q1) w 0 μ (by omega) hM hR
    exact ⟨μ', X10_comes_at47_ok (tneg hn1 g1), g2⟩
theorem shl1 : ∀ w, w < 9 → (1 : Int32) <<< (nI w &&& 31) = nI (2 ^ w) ∧ 2 ^ w < 1000 := by decide
theorem call_comes {a b c : Int32} (hn : n ≤ 512) : Both (X9_comes (d + 8) a b c) (X10_comes (d + 8) a b c) n := by
  rintro μC μM ⟨P, p, r, h⟩
  obtain ⟨⟨hC, hK, hR⟩, ⟨hM, hRM⟩, hS, _⟩ := id h
  have pw := hC.1
  have h4 := pw.2.2.2.1
  have p1 := isPiece_c (d := d + 6) (a := a) (b := b) (c := 1) hC
  have p2 := isLoom_m (d := d + 6) (f := a) hM
  cases ha : inN a (pL P) with
  | false =>
    rw [ha] at p2
    rw [show pieceA P a b 1 = false by unfold pieceA; rw [ha]; rfl] at p1
    exact ⟨-1, μC, μM, X9_comes_ok ⟨_, μC, p1, tpos rfl ⟨rfl, rfl⟩⟩, X10_comes_ok ⟨_, μM, p2, tpos rfl ⟨rfl, rfl⟩⟩, h.next⟩
  | true =>
    rw [ha] at p2
    obtain ⟨l, hl, rfl⟩ := inN_ex ha
    have w8 := (pw.2.2.2.2.2.2.2.2.2.1 l hl).2.1
    obtain ⟨v8, eW⟩ := wideOf_m hl hM
    have i1 : X10_in (d + 7) b 1 (μM.1 16 ((4 * μM.1 0 18 + nI l).toNatClampNeg)) μM (bI (inN (b - 1) (pWi P l))) μM := by
      rw [eW, ← in1 (by omega)]
      exact in_s
    have ep : pieceA P (nI l) b 1 = inN (b - 1) (pWi P l) := by
      unfold pieceA
      rw [ha, nI_clamp (by omega), show inN ((1 : Int32) - 1) 6 = true by decide, Bool.and_true, Bool.true_and]
    rw [ep] at p1
    cases hb : inN (b - 1) (pWi P l) with
    | false =>
      rw [hb] at p1 i1
      exact ⟨-1, μC, μM, X9_comes_ok ⟨_, μC, p1, tpos rfl ⟨rfl, rfl⟩⟩, X10_comes_ok ⟨_, μM, p2, tneg (by decide) ⟨v8, _, μM, i1, tpos rfl ⟨rfl, rfl⟩⟩⟩, h.next⟩
    | true =>
      rw [hb] at p1 i1
      obtain ⟨w, w1, w2, rfl⟩ := (rng1 (by omega)).mp hb
      obtain ⟨e1, e2⟩ := shl1 w (by omega)
      have i2 : X10_in (d + 7) c 0 ((1 <<< (nI w &&& 31)) - 1) μM (bI (inN c (2 ^ w))) μM := by
        rw [e1, ← inI_N (by omega)]
        exact in_s
      cases hc : inN c (2 ^ w) with
      | false =>
        rw [hc] at i2
        refine ⟨-1, μC, μM, X9_comes_ok ⟨_, μC, p1, tneg (by decide) ⟨fun _ => ⟨rfl, rfl⟩, fun q => tneg ?_ ⟨rfl, rfl⟩⟩⟩, X10_comes_ok ⟨_, μM, p2, tneg (by decide) ⟨v8, _, μM, i1, tneg (by decide) ⟨_, μM, i2, teq rfl ⟨rfl, rfl⟩⟩⟩⟩, h.next⟩
        rw [e1]
        obtain ⟨k, k1, rfl⟩ := nI_ex (i_nlt q)
        rw [inN_nI k1] at hc
        exact nI_nlt (Nat.le_of_not_lt (of_decide_eq_false hc)) k1
      | true =>
        rw [hc] at i2
        obtain ⟨k, hk, rfl⟩ := inN_ex hc
        have hpk := (hS.2.2.1 l hl).1
        have pc := part_c (d := d + 6) (s := 13) (μ := μC) (l := l) (k := 1) (by omega) (by decide)
        rw [(hR.2.2.2.1 l hl).2.1] at pc
        obtain ⟨mC, a1, a2, a3⟩ := comes_c (d := d + 5) (pick := r (48 + l)) (x := nI k) hl w2 (by omega) 201 0 μC (by omega) hC hK
        obtain ⟨mM, b1, b2⟩ := comes_m (d := d + 5) (w := w) (x := nI k) (r := r) hl (by omega) (by omega) 201 0 μM (by omega) hM hRM
        refine ⟨_, mC, mM, X9_comes_ok ⟨_, μC, p1, tneg (by decide) (tneg (nI_pos (by omega)) (tpos ?_ ⟨_, μC, pc, a1⟩))⟩, X10_comes_ok ⟨_, μM, p2, tneg (by decide) ⟨v8, _, μM, i1, tneg (by decide) ⟨_, μM, i2, tne (by decide) b1⟩⟩⟩, (h.scr a2 a3 (fV_scM b2)).next⟩
        rw [e1]
        exact nI_lt hk (by omega)
/-- threads alike: forth (eqF), back (eqP) -/
def eqF (P : Pl) (l o a b : Nat) : Nat → Nat → Bool
  | 0, _ => true
  | m + 1, k => decide (thr P l k a = thr P o k b) && eqF P l o a b m (k + 1)
def eqP (P : Pl) (l o a b : Nat) : Nat → Bool
  | 0 => true
  | k + 1 => eqP P l o a b k && decide (thr P l k a = thr P o k b)
theorem eqF_iff {P : Pl} {l o a b : Nat} : ∀ m k, eqF P l o a b m k = true ↔ ∀ w, k ≤ w → w < k + m → thr P l w a = thr P o w b
  | 0, k => ⟨fun _ w h1 h2 => by omega, fun _ => rfl⟩
  | m + 1, k => by
    rw [show eqF P l o a b (m + 1) k = (decide (thr P l k a = thr P o k b) && eqF P l o a b m (k + 1)) from rfl, Bool.and_eq_true, decide_eq_true_iff, eqF_iff m (k + 1)]
    constructor
    · rintro ⟨h1, h2⟩ w hw1 hw2
      by_cases e : w = k
      · rw [e]; exact h1
      · exact h2 w (by omega) (by omega)
    · intro h
      exact ⟨h k (by omega) (by omega), fun w h1 h2 => h w (by omega) (by omega)⟩
theorem eqP_iff {P : Pl} {l o a b : Nat} : ∀ k, eqP P l o a b k = true ↔ ∀ w, w < k → thr P l w a = thr P o w b
  | 0 => ⟨fun _ w h => by omega, fun _ => rfl⟩
  | k + 1 => by
    rw [show eqP P l o a b (k + 1) = (eqP P l o a b k && decide (thr P l k a = thr P o k b)) from rfl, Bool.and_eq_true, decide_eq_true_iff, eqP_iff k]
    constructor
    · rintro ⟨h1, h2⟩ w hw
      by_cases e : w = k
      · rw [e]; exact h2
      · exact h1 w (by omega)
    · intro h
      exact ⟨fun w hw => h w (by omega), h k (by omega)⟩
theorem eqP_F {P : Pl} {l o a b k : Nat} : eqP P l o a b k = eqF P l o a b k 0 := by
  rw [Bool.eq_iff_iff, eqP_iff, eqF_iff]
  exact ⟨fun h w _ h2 => h w (by omega), fun h w h2 => h w (by omega) (by omega)⟩
theorem rowN_eq {P : Pl} {l o a b : Nat} : ∀ k, rowN P l a k = rowN P o b k ↔ ∀ w, w < k → thr P l w a = thr P o w b := fun k => by
  constructor
  · intro h w hw
    rw [← rowN_at k hw, h, rowN_at k hw]
  · intro h
    induction k with
    | zero => rfl
    | succ k ih =>
      show rowN P l a k + thr P l k a * 16 ^ k = rowN P o b k + thr P o k b * 16 ^ k
      rw [ih fun w hw => h w (by omega), h k (by omega)]
theorem rowN_mod {P : Pl} {l a k : Nat} : ∀ m, rowN P l a (k + m) % 16 ^ k = rowN P l a k
  | 0 => Nat.mod_eq_of_lt (rowN_lt k)
  | m + 1 => by
    show (rowN P l a (k + m) + thr P l (k + m) a * 16 ^ (k + m)) % 16 ^ k = _
    rw [Nat.pow_add, Nat.mul_comm (16 ^ k), ← Nat.mul_assoc, Nat.add_mul_mod_self_right]
    exact rowN_mod m
theorem nI_inj32 {a b : Nat} (ha : a < 2 ^ 32) (hb : b < 2 ^ 32) (h : nI a = nI b) : a = b := by
  have e : (nI a).toBitVec.toNat = (nI b).toBitVec.toNat := by rw [h]
  rw [bvN, bvN, BitVec.toNat_ofNat, BitVec.toNat_ofNat, Nat.mod_eq_of_lt ha, Nat.mod_eq_of_lt hb] at e
  exact e
theorem rowI_eq {P : Pl} {l a b : Nat} (h8 : pWi P l ≤ 8) : rowI P l a = rowI P l b ↔ eqF P l l a b (pWi P l) 0 = true := by
  rw [← eqP_F, eqP_iff, ← rowN_eq]
  have q := p16 h8
  exact ⟨fun h => nI_inj32 (Nat.lt_of_lt_of_le (rowN_lt _) q) (Nat.lt_of_lt_of_le (rowN_lt _) q) h, fun h => by unfold rowI; rw [h]⟩
/-- the cloth comes round: forth -/
def rndF (P : Pl) (l pick j : Nat) : Nat → Nat → Bool
  | 0, _ => true
  | m + 1, k => eqF P l l (pick + k) (pick + k + j) (pWi P l) 0 && rndF P l pick j m (k + 1)
theorem comesRound_c {P : Pl} {p l pick j : Nat} (hl : l < pL P) (hp : pick < 1000000) (hj : j < 1000) : ∀ (m k : Nat) (μ : Mem), k + m = 48 → CP P p μ → Kc P μ → ∃ μ', X9_comesRound_at3 (d + 2) (nI l) (nI pick) (nI j) (nI (pick + k)) μ (bI (rndF P l pick j m k)) μ' ∧ Kq (scC p) μ μ' ∧ Kc P μ'
  | 0, k, μ, hk, hC, hK => by
    have hk : k = 48 := hk
    subst hk
    exact ⟨μ, X9_comesRound_at3_ok (tpos (by rw [show nI pick + 48 = nI (pick + 48) from nJ_add pick 48]; exact nI_le (Nat.le_refl _) (by omega)) ⟨rfl, rfl⟩), Kq.refl, hK⟩
  | m + 1, k, μ, hk, hC, hK => by
    have w8 := (hC.1.2.2.2.2.2.2.2.2.2.1 l hl).2.1
    obtain ⟨m1, a1, a2, a3⟩ := rowAt_c (d := d) (pick := pick + k) hl (by omega) hC hK
    have hC1 := hC.kq (sRw_n hC.pp a2)
    obtain ⟨m2, b1, b2, b3⟩ := rowAt_c (d := d) (pick := pick + k + j) hl (by omega) hC1 a3
    have hC2 := hC1.kq (sRw_n hC.pp b2)
    have k12 : Kq (scC p) μ m2 := (sWv_sc (sRw_v a2)).trans (sWv_sc (sRw_v b2))
    have hn1 : ¬ nI pick + 48 ≤ nI (pick + k) := by rw [show nI pick + 48 = nI (pick + 48) from nJ_add pick 48]; exact nI_ge (by omega) (by omega)
    have er : rndF P l pick j (m + 1) k = (eqF P l l (pick + k) (pick + k + j) (pWi P l) 0 && rndF P l pick j m (k + 1)) := rfl
    by_cases e : rowI P l (pick + k) = rowI P l (pick + k + j)
    · obtain ⟨μ', g1, g2, g3⟩ := comesRound_c hl hp hj m (k + 1) m2 (by omega) hC2 b3
      refine ⟨μ', X9_comesRound_at3_ok (tneg hn1 ?_), k12.trans g2, g3⟩
      rw [er, (rowI_eq w8).mp e, Bool.true_and, nJ_add]
      rw [← Nat.add_assoc, nI_succ] at g1
      exact ⟨_, m1, a1, _, m2, b1, tpos e g1⟩
    · refine ⟨m2, X9_comesRound_at3_ok (tneg hn1 ?_), k12, b3⟩
      have e' : eqF P l l (pick + k) (pick + k + j) (pWi P l) 0 = false := by
        cases z : eqF P l l (pick + k) (pick + k + j) (pWi P l) 0 with
        | false => rfl
        | true => exact absurd ((rowI_eq w8).mpr z) e
      rw [er, e', nJ_add]
      exact ⟨_, m1, a1, _, m2, b1, tneg e ⟨rfl, rfl⟩⟩
theorem isRound_in {P : Pl} {l j k : Nat} {b : Bool} {r : Nat → Nat} (hl : l < pL P) (hj : j < 1000) (hk : k < 48) (hp : r (48 + l) < 1000000) (hc : ∀ μ, MP P μ → RowM μ 33 r → ∃ μ', X10_isRound_at2 (d + 2) (nI l) (nI j) (nI k + 1) μ (bI b) μ' ∧ Kp fVr μ μ') : ∀ (m w : Nat) (μ : Mem), w + m = pWi P l → MP P μ → RowM μ 33 r → ∃ μ', X10_isRound_at11 (d + 2) (nI l) (nI j) (nI k) (nI w) μ (bI (eqF P l l (r (48 + l) + k) (r (48 + l) + k + j) m w && b)) μ' ∧ Kp fVr μ μ'
  | 0, w, μ, hw, hM, hR => by
    have hw : w = pWi P l := hw
    subst hw
    have w8 := (hM.1.2.2.2.2.2.2.2.2.2.1 l hl).2.1
    obtain ⟨v8, eW⟩ := wideOf_m hl hM
    obtain ⟨μ', c1, c2⟩ := hc μ hM hR
    exact ⟨μ', X10_isRound_at11_ok ⟨v8, tpos (by rw [eW]; exact nI_le (Nat.le_refl _) (by omega)) c1⟩, c2⟩
  | m + 1, w, μ, hw, hM, hR => by
    have h4 := hM.1.2.2.2.1
    have w8 := (hM.1.2.2.2.2.2.2.2.2.2.1 l hl).2.1
    obtain ⟨v8, eW⟩ := wideOf_m hl hM
    obtain ⟨v1, v2⟩ := now48_m (show l < 4 by omega) hR
    obtain ⟨m1, a1, a2⟩ := threadOf_m (d := d) (l := l) (warp := w) (pick := r (48 + l) + k) hl (by omega) hM
    have hM1 := hM.kp (fV_M a2)
    have hR1 : RowM m1 33 r := hR.kp a2 fun _ => rfl
    obtain ⟨u1, u2⟩ := now48_m (show l < 4 by omega) hR1
    obtain ⟨m2, b1, b2⟩ := threadOf_m (d := d) (l := l) (warp := w) (pick := r (48 + l) + k + j) hl (by omega) hM1
    have t1 := thr_le (P := P) (l := l) (warp := w) (pick := r (48 + l) + k)
    have t2 := thr_le (P := P) (l := l) (warp := w) (pick := r (48 + l) + k + j)
    have er : eqF P l l (r (48 + l) + k) (r (48 + l) + k + j) (m + 1) w = (decide (thr P l w (r (48 + l) + k) = thr P l w (r (48 + l) + k + j)) && eqF P l l (r (48 + l) + k) (r (48 + l) + k + j) m (w + 1)) := rfl
    have hn1 : ¬ μ.1 16 ((4 * μ.1 0 18 + nI l).toNatClampNeg) ≤ nI w := by rw [eW]; exact nI_ge (by omega) (by omega)
    have c1 : X10_threadOf (d + 2) (nI l) (nI w) (μ.1 33 ((48 + nI l).toNatClampNeg) + nI k) μ (nI (thr P l w (r (48 + l) + k))) m1 := by rw [v2, nJ_add]; exact a1
    have c2 : X10_threadOf (d + 2) (nI l) (nI w) (m1.1 33 ((48 + nI l).toNatClampNeg) + nI k + nI j) m1 (nI (thr P l w (r (48 + l) + k + j))) m2 := by rw [u2, nJ_add, nJ_add]; exact b1
    by_cases e : thr P l w (r (48 + l) + k) = thr P l w (r (48 + l) + k + j)
    · obtain ⟨μ', g1, g2⟩ := isRound_in hl hj hk hp hc m (w + 1) m2 (by omega) (hM1.kp (fV_M b2)) (hR1.kp b2 fun _ => rfl)
      rw [nI_succ] at g1
      refine ⟨μ', X10_isRound_at11_ok ⟨v8, tneg hn1 ⟨v1, _, m1, c1, u1, _, m2, c2, tpos (by rw [e]) ?_⟩⟩, (a2.trans b2).trans g2⟩
      rw [er, decide_eq_true e, Bool.true_and]
      exact g1
    · refine ⟨m2, X10_isRound_at11_ok ⟨v8, tneg hn1 ⟨v1, _, m1, c1, u1, _, m2, c2, tneg (fun q => e (nI_inj (by omega) (by omega) q)) ?_⟩⟩, a2.trans b2⟩
      rw [er, decide_eq_false e]
      exact ⟨rfl, rfl⟩
theorem isRound_m {P : Pl} {l j : Nat} {r : Nat → Nat} (hl : l < pL P) (hj : j < 1000) (hp : r (48 + l) < 1000000) : ∀ (m k : Nat) (μ : Mem), k + m = 48 → MP P μ → RowM μ 33 r → ∃ μ', X10_isRound_at2 (d + 2) (nI l) (nI j) (nI k) μ (bI (rndF P l (r (48 + l)) j m k)) μ' ∧ Kp fVr μ μ'
  | 0, k, μ, hk, hM, hR => by
    have hk : k = 48 := hk
    subst hk
    exact ⟨μ, X10_isRound_at2_ok (tpos (nI_le (a := 48) (b := 48) (by decide) (by decide)) ⟨rfl, rfl⟩), Kp.refl⟩
  | m + 1, k, μ, hk, hM, hR => by
    obtain ⟨μ', g1, g2⟩ := isRound_in (d := d) (k := k) (b := rndF P l (r (48 + l)) j m (k + 1)) hl hj (by omega) hp (fun μ hM hR => by
      obtain ⟨μ', q1, q2⟩ := isRound_m hl hj hp m (k + 1) μ (by omega) hM hR
      rw [nI_succ] at q1
      exact ⟨μ', q1, q2⟩) (pWi P l) 0 μ (by omega) hM hR
    exact ⟨μ', X10_isRound_at2_ok (tneg (nI_ge (b := 48) (by omega) (by decide)) g1), g2⟩
def rouA (P : Pl) (l pick : Nat) : Nat → Nat → Int32
  | 0, _ => -2
  | m + 1, j => if rndF P l pick j 48 0 = true then nI j else rouA P l pick m (j + 1)
theorem round_c {P : Pl} {p l pick : Nat} (hl : l < pL P) (hp : pick < 1000000) : ∀ (m j : Nat) (μ : Mem), j + m = 100 → CP P p μ → Kc P μ → ∃ μ', X9_round_at25 (d + 3) (nI l) (nI pick) (nI j) μ (rouA P l pick m j) μ' ∧ Kq (scC p) μ μ' ∧ Kc P μ'
  | 0, j, μ, hj, hC, hK => by
    have hj : j = 100 := hj
    subst hj
    exact ⟨μ, X9_round_at25_ok (tpos (nI_lt (a := 99) (b := 100) (by decide) (by decide)) ⟨rfl, rfl⟩), Kq.refl, hK⟩
  | m + 1, j, μ, hj, hC, hK => by
    have hn1 : ¬ (99 : Int32) < nI j := nI_nlt (a := 99) (b := j) (by omega) (by decide)
    obtain ⟨m1, a1, a2, a3⟩ := comesRound_c (d := d) (j := j) hl hp (by omega) 48 0 μ (by omega) hC hK
    have b1 : X9_comesRound (d + 3) (nI l) (nI pick) (nI j) μ (bI (rndF P l pick j 48 0)) m1 := X9_comesRound_ok a1
    cases e : rndF P l pick j 48 0 with
    | true =>
      rw [e] at b1
      refine ⟨m1, X9_round_at25_ok (tneg hn1 ⟨_, m1, b1, tneg (by decide) ⟨if_pos e, rfl⟩⟩), a2, a3⟩
    | false =>
      rw [e] at b1
      obtain ⟨μ', g1, g2, g3⟩ := round_c hl hp m (j + 1) m1 (by omega) (hC.kq (scC_n hC.pp a2)) a3
      rw [nI_succ] at g1
      refine ⟨μ', X9_round_at25_ok (tneg hn1 ⟨_, m1, b1, tpos rfl ?_⟩), a2.trans g2, g3⟩
      rw [show rouA P l pick (m + 1) j = rouA P l pick m (j + 1) from if_neg (by rw [e]; decide)]
      exact g1
theorem round_m {P : Pl} {l : Nat} {r : Nat → Nat} (hl : l < pL P) (hp : r (48 + l) < 1000000) : ∀ (m j : Nat) (μ : Mem), j + m = 100 → MP P μ → RowM μ 33 r → ∃ μ', X10_round_at12 (d + 3) (nI l) (nI j) μ (rouA P l (r (48 + l)) m j) μ' ∧ Kp fVr μ μ'
  | 0, j, μ, hj, hM, hR => by
    have hj : j = 100 := hj
    subst hj
    exact ⟨μ, X10_round_at12_ok (tpos (nI_lt (a := 99) (b := 100) (by decide) (by decide)) ⟨rfl, rfl⟩), Kp.refl⟩
  | m + 1, j, μ, hj, hM, hR => by
    have hn1 : ¬ (99 : Int32) < nI j := nI_nlt (a := 99) (b := j) (by omega) (by decide)
    obtain ⟨m1, a1, a2⟩ := isRound_m (d := d) (j := j) hl (by omega) hp 48 0 μ (by omega) hM hR
    have b1 : X10_isRound (d + 3) (nI l) (nI j) μ (bI (rndF P l (r (48 + l)) j 48 0)) m1 := X10_isRound_ok a1
    cases e : rndF P l (r (48 + l)) j 48 0 with
    | true =>
      rw [e] at b1
      exact ⟨m1, X10_round_at12_ok (tneg hn1 ⟨_, m1, b1, tneg (by decide) ⟨if_pos e, rfl⟩⟩), a2⟩
    | false =>
      rw [e] at b1
      obtain ⟨μ', g1, g2⟩ := round_m hl hp m (j + 1) m1 (by omega) (hM.kp (fV_M a2)) (hR.kp a2 fun _ => rfl)
      rw [nI_succ] at g1
      refine ⟨μ', X10_round_at12_ok (tneg hn1 ⟨_, m1, b1, tpos rfl ?_⟩), a2.trans g2⟩
      rw [show rouA P l (r (48 + l)) (m + 1) j = rouA P l (r (48 + l)) m (j + 1) from if_neg (by rw [e]; decide)]
      exact g1
theorem call_round {a : Int32} (hn : n ≤ 512) : Both (X9_round (d + 8) a) (X10_round (d + 8) a) n := by
  rintro μC μM ⟨P, p, r, h⟩
  obtain ⟨⟨hC, hK, hR⟩, ⟨hM, hRM⟩, hS, _⟩ := id h
  have pw := hC.1
  have h4 := pw.2.2.2.1
  have p1 := hasLoom_c (d := d + 7) (x := a) hC
  have p2 := isLoom_m (d := d + 6) (f := a) hM
  cases ha : inN a (pL P) with
  | false =>
    rw [ha] at p1 p2
    exact ⟨-1, μC, μM, X9_round_ok ⟨_, μC, by rw [hC.ptr0]; exact p1, teq rfl ⟨rfl, rfl⟩⟩, X10_round_ok ⟨_, μM, p2, teq rfl ⟨rfl, rfl⟩⟩, h.next⟩
  | true =>
    rw [ha] at p1 p2
    obtain ⟨l, hl, rfl⟩ := inN_ex ha
    have hpk := (hS.2.2.1 l hl).1
    have pc := part_c (d := d + 6) (s := 13) (μ := μC) (l := l) (k := 1) (by omega) (by decide)
    rw [(hR.2.2.2.1 l hl).2.1] at pc
    obtain ⟨mC, a1, a2, a3⟩ := round_c (d := d + 4) (pick := r (48 + l)) hl (by omega) 99 1 μC (by omega) hC hK
    obtain ⟨mM, b1, b2⟩ := round_m (d := d + 4) (r := r) hl (by omega) 99 1 μM (by omega) hM hRM
    exact ⟨_, mC, mM, X9_round_ok ⟨_, μC, by rw [hC.ptr0]; exact p1, tne (by decide) ⟨_, μC, pc, a1⟩⟩, X10_round_ok ⟨_, μM, p2, tne (by decide) b1⟩, (h.scr a2 a3 (fV_scM b2)).next⟩
theorem xor_low {a b k : Nat} (ha : a < 2 ^ 32) (hb : b < 2 ^ 32) (hk : k < 32) : ((nI a ^^^ nI b) &&& (nI (2 ^ k) - 1) = 0) ↔ a % 2 ^ k = b % 2 ^ k := by
  have hp : 2 ^ k < 2 ^ 32 := Nat.pow_lt_pow_right (by decide) hk
  have h1 : 1 ≤ 2 ^ k := Nat.one_le_two_pow
  have e1 : nI (2 ^ k) - 1 = nI (2 ^ k - 1) := nI_sub (b := 1) h1
  have e2 : ((nI a ^^^ nI b) &&& nI (2 ^ k - 1)).toBitVec.toNat = (a ^^^ b) % 2 ^ k := by
    show ((BitVec.ofNat 32 a ^^^ BitVec.ofNat 32 b) &&& BitVec.ofNat 32 (2 ^ k - 1)).toNat = _
    rw [BitVec.toNat_and, BitVec.toNat_xor]
    simp only [BitVec.toNat_ofNat]
    rw [Nat.mod_eq_of_lt ha, Nat.mod_eq_of_lt hb, Nat.mod_eq_of_lt (show 2 ^ k - 1 < 2 ^ 32 by omega), Nat.and_two_pow_sub_one_eq_mod]
  rw [e1]
  have e3 : ((nI a ^^^ nI b) &&& nI (2 ^ k - 1) = 0) ↔ (a ^^^ b) % 2 ^ k = 0 := by
    rw [← e2]
    exact ⟨fun h => by rw [h]; rfl, fun h => i_bv h⟩
  rw [e3, Nat.xor_mod_two_pow]
  constructor
  · intro h
    apply Nat.eq_of_testBit_eq
    intro i
    have := congrArg (fun z => Nat.testBit z i) h
    simp only [Nat.testBit_xor, Nat.zero_testBit] at this
    revert this
    cases (a % 2 ^ k).testBit i <;> cases (b % 2 ^ k).testBit i <;> simp
  · intro h
    rw [h, Nat.xor_self]
theorem xor_all {a b : Nat} (ha : a < 2 ^ 32) (hb : b < 2 ^ 32) : (nI a ^^^ nI b = 0) ↔ a = b := by
  constructor
  · intro h
    have e : ((nI a).toBitVec ^^^ (nI b).toBitVec) = 0#32 := by
      show (nI a ^^^ nI b).toBitVec = _
      rw [h]; rfl
    exact nI_inj32 ha hb (Int32.toBitVec_inj.mp (BitVec.xor_eq_zero_iff.mp e))
  · intro h
    rw [h, Int32.xor_self]
theorem pow16 (k : Nat) : 16 ^ k = 2 ^ (4 * k) := by rw [show (16 : Nat) = 2 ^ 4 from rfl, ← Nat.pow_mul]
theorem narrowed_c {P : Pl} {l o a b : Nat} {μ : Mem} (hl : pWi P l ≤ 8) (ho : pWi P o ≤ 8) : ∃ y, X7_narrowed d (rowI P l a ^^^ rowI P o b) (nI (min (pWi P l) (pWi P o))) μ y μ ∧ (y = 0 ↔ eqP P l o a b (min (pWi P l) (pWi P o)) = true) := by
  have q1 := Nat.lt_of_lt_of_le (rowN_lt (P := P) (l := l) (pick := a) (pWi P l)) (p16 hl)
  have q2 := Nat.lt_of_lt_of_le (rowN_lt (P := P) (l := o) (pick := b) (pWi P o)) (p16 ho)
  have m1 := rowN_mod (P := P) (l := l) (a := a) (k := min (pWi P l) (pWi P o)) (pWi P l - min (pWi P l) (pWi P o))
  have m2 := rowN_mod (P := P) (l := o) (a := b) (k := min (pWi P l) (pWi P o)) (pWi P o - min (pWi P l) (pWi P o))
  rw [show min (pWi P l) (pWi P o) + (pWi P l - min (pWi P l) (pWi P o)) = pWi P l by omega] at m1
  rw [show min (pWi P l) (pWi P o) + (pWi P o - min (pWi P l) (pWi P o)) = pWi P o by omega] at m2
  rw [eqP_iff, ← rowN_eq]
  by_cases e : min (pWi P l) (pWi P o) < 8
  · refine ⟨_, X7_narrowed_ok (tpos (nI_lt (b := 8) e (by decide)) ⟨rfl, rfl⟩), ?_⟩
    rw [(m31 _ e).1, show (1 : Int32) = nI 1 from rfl, shl_nI (by omega), Nat.one_mul]
    unfold rowI
    rw [show nI (2 ^ (4 * min (pWi P l) (pWi P o))) - nI 1 = nI (2 ^ (4 * min (pWi P l) (pWi P o))) - 1 from rfl, xor_low q1 q2 (by omega), ← pow16, m1, m2]
  · refine ⟨_, X7_narrowed_ok (tneg (nI_nlt (b := 8) (by omega) (by omega)) ⟨rfl, rfl⟩), ?_⟩
    unfold rowI
    rw [xor_all q1 q2, ← m1, ← m2, show pWi P l = 8 by omega, show pWi P o = 8 by omega]
    rw [show pWi P l = 8 by omega] at q1
    rw [show pWi P o = 8 by omega] at q2
    rw [show min 8 8 = 8 from rfl, Nat.mod_eq_of_lt q1, Nat.mod_eq_of_lt q2]
def agrA (P : Pl) (l o a b : Nat) : Nat → Nat → Int32
  | 0, _ => -2
  | m + 1, j => if eqP P l o (a + j) (b + j) (min (pWi P l) (pWi P o)) = true then nI j else agrA P l o a b m (j + 1)
theorem agree_c {P : Pl} {p l o a b : Nat} (hl : l < pL P) (ho : o < pL P) (ha : a < 1000000) (hb : b < 1000000) : ∀ (m j : Nat) (μ : Mem), j + m = 201 → CP P p μ → Kc P μ → ∃ μ', X9_agree_at76 (d + 2) (nI l) (nI o) (nI (min (pWi P l) (pWi P o))) (nI a) (nI b) (nI j) μ (agrA P l o a b m j) μ' ∧ Kq (scC p) μ μ' ∧ Kc P μ'
  | 0, j, μ, hj, hC, hK => by
    have hj : j = 201 := hj
    subst hj
    exact ⟨μ, X9_agree_at76_ok (tpos (nI_lt (a := 200) (b := 201) (by decide) (by decide)) ⟨rfl, rfl⟩), Kq.refl, hK⟩
  | m + 1, j, μ, hj, hC, hK => by
    have hn1 : ¬ (200 : Int32) < nI j := nI_nlt (a := 200) (b := j) (by omega) (by decide)
    have w8 := (hC.1.2.2.2.2.2.2.2.2.2.1 l hl).2.1
    have o8 := (hC.1.2.2.2.2.2.2.2.2.2.1 o ho).2.1
    obtain ⟨m1, a1, a2, a3⟩ := rowAt_c (d := d) (pick := a + j) hl (by omega) hC hK
    have hC1 := hC.kq (sRw_n hC.pp a2)
    obtain ⟨m2, b1, b2, b3⟩ := rowAt_c (d := d) (pick := b + j) ho (by omega) hC1 a3
    have hC2 := hC1.kq (sRw_n hC.pp b2)
    have k12 : Kq (scC p) μ m2 := (sWv_sc (sRw_v a2)).trans (sWv_sc (sRw_v b2))
    obtain ⟨y, y1, y2⟩ := narrowed_c (d := d + 2) (P := P) (l := l) (o := o) (a := a + j) (b := b + j) (μ := m2) w8 o8
    by_cases e : y = 0
    · refine ⟨m2, X9_agree_at76_ok (tneg hn1 ?_), k12, b3⟩
      rw [nJ_add, nJ_add]
      exact ⟨_, m1, a1, _, m2, b1, _, m2, y1, teq e ⟨if_pos (y2.mp e), rfl⟩⟩
    · obtain ⟨μ', g1, g2, g3⟩ := agree_c hl ho ha hb m (j + 1) m2 (by omega) hC2 b3
      rw [nI_succ] at g1
      refine ⟨μ', X9_agree_at76_ok (tneg hn1 ?_), k12.trans g2, g3⟩
      rw [nJ_add, nJ_add, show agrA P l o a b (m + 1) j = agrA P l o a b m (j + 1) from if_neg (fun q => e (y2.mpr q))]
      exact ⟨_, m1, a1, _, m2, b1, _, m2, y1, tne e g1⟩
theorem agree_in {P : Pl} {l o j : Nat} {X : Int32} {r : Nat → Nat} (hl : l < pL P) (ho : o < pL P) (hj : j < 1000) (hp : r (48 + l) < 1000000) (hq : r (48 + o) < 1000000) (hc : ∀ μ, MP P μ → RowM μ 33 r → ∃ μ', ((bI (eqP P l o (r (48 + l) + j) (r (48 + o) + j) (min (pWi P l) (pWi P o))) = 0 → X10_agree_at25 (d + 2) (nI l) (nI o) (nI j + 1) μ X μ') ∧ (¬ bI (eqP P l o (r (48 + l) + j) (r (48 + o) + j) (min (pWi P l) (pWi P o))) = 0 → (X = nI j ∧ μ' = μ))) ∧ Kp fVr μ μ') : ∀ (m w : Nat) (μ : Mem), w + m = min (pWi P l) (pWi P o) → MP P μ → RowM μ 33 r → ∃ μ', X10_agree_at38 (d + 2) (nI l) (nI o) (nI j) (bI (eqP P l o (r (48 + l) + j) (r (48 + o) + j) w)) (nI w) μ X μ' ∧ Kp fVr μ μ'
  | 0, w, μ, hw, hM, hR => by
    have hw : w = min (pWi P l) (pWi P o) := hw
    have w8 := (hM.1.2.2.2.2.2.2.2.2.2.1 l hl).2.1
    have o8 := (hM.1.2.2.2.2.2.2.2.2.2.1 o ho).2.1
    obtain ⟨v8, eW⟩ := wideOf_m hl hM
    obtain ⟨u8, eO⟩ := wideOf_m ho hM
    obtain ⟨μ', c1, c2⟩ := hc μ hM hR
    rw [← hw] at c1
    by_cases q : pWi P l ≤ w
    · exact ⟨μ', X10_agree_at38_ok ⟨v8, tpos (by rw [eW]; exact nI_le q (by omega)) c1⟩, c2⟩
    · exact ⟨μ', X10_agree_at38_ok ⟨v8, tneg (by rw [eW]; exact nI_ge (by omega) (by omega)) ⟨u8, tpos (by rw [eO]; exact nI_le (by omega) (by omega)) c1⟩⟩, c2⟩
  | m + 1, w, μ, hw, hM, hR => by
    have h4 := hM.1.2.2.2.1
    have w8 := (hM.1.2.2.2.2.2.2.2.2.2.1 l hl).2.1
    have o8 := (hM.1.2.2.2.2.2.2.2.2.2.1 o ho).2.1
    obtain ⟨v8, eW⟩ := wideOf_m hl hM
    obtain ⟨u8, eO⟩ := wideOf_m ho hM
    obtain ⟨v1, v2⟩ := now48_m (show l < 4 by omega) hR
    obtain ⟨m1, a1, a2⟩ := threadOf_m (d := d) (l := l) (warp := w) (pick := r (48 + l) + j) hl (by omega) hM
    have hM1 := hM.kp (fV_M a2)
    have hR1 : RowM m1 33 r := hR.kp a2 fun _ => rfl
    obtain ⟨u1, u2⟩ := now48_m (show o < 4 by omega) hR1
    obtain ⟨m2, b1, b2⟩ := threadOf_m (d := d) (l := o) (warp := w) (pick := r (48 + o) + j) ho (by omega) hM1
    have t1 := thr_le (P := P) (l := l) (warp := w) (pick := r (48 + l) + j)
    have t2 := thr_le (P := P) (l := o) (warp := w) (pick := r (48 + o) + j)
    have er : eqP P l o (r (48 + l) + j) (r (48 + o) + j) (w + 1) = (eqP P l o (r (48 + l) + j) (r (48 + o) + j) w && decide (thr P l w (r (48 + l) + j) = thr P o w (r (48 + o) + j))) := rfl
    have hn1 : ¬ μ.1 16 ((4 * μ.1 0 18 + nI l).toNatClampNeg) ≤ nI w := by rw [eW]; exact nI_ge (by omega) (by omega)
    have hn2 : ¬ μ.1 16 ((4 * μ.1 0 18 + nI o).toNatClampNeg) ≤ nI w := by rw [eO]; exact nI_ge (by omega) (by omega)
    have c1 : X10_threadOf (d + 2) (nI l) (nI w) (μ.1 33 ((48 + nI l).toNatClampNeg) + nI j) μ (nI (thr P l w (r (48 + l) + j))) m1 := by rw [v2, nJ_add]; exact a1
    have c2 : X10_threadOf (d + 2) (nI o) (nI w) (m1.1 33 ((48 + nI o).toNatClampNeg) + nI j) m1 (nI (thr P o w (r (48 + o) + j))) m2 := by rw [u2, nJ_add]; exact b1
    obtain ⟨μ', g1, g2⟩ := agree_in hl ho hj hp hq hc m (w + 1) m2 (by omega) (hM1.kp (fV_M b2)) (hR1.kp b2 fun _ => rfl)
    rw [nI_succ, er] at g1
    refine ⟨μ', X10_agree_at38_ok ⟨v8, tneg hn1 ⟨u8, tneg hn2 ⟨v1, _, m1, c1, u1, _, m2, c2, ?_⟩⟩⟩, (a2.trans b2).trans g2⟩
    by_cases e : thr P l w (r (48 + l) + j) = thr P o w (r (48 + o) + j)
    · rw [decide_eq_true e, Bool.and_true] at g1
      exact tpos (by rw [e]) g1
    · rw [decide_eq_false e, Bool.and_false] at g1
      exact tneg (fun q => e (nI_inj (by omega) (by omega) q)) g1
theorem agree_m {P : Pl} {l o : Nat} {r : Nat → Nat} (hl : l < pL P) (ho : o < pL P) (hp : r (48 + l) < 1000000) (hq : r (48 + o) < 1000000) : ∀ (m j : Nat) (μ : Mem), j + m = 201 → MP P μ → RowM μ 33 r → ∃ μ', X10_agree_at25 (d + 2) (nI l) (nI o) (nI j) μ (agrA P l o (r (48 + l)) (r (48 + o)) m j) μ' ∧ Kp fVr μ μ'
  | 0, j, μ, hj, hM, hR => by
    have hj : j = 201 := hj
    subst hj
    exact ⟨μ, X10_agree_at25_ok (tpos (nI_lt (a := 200) (b := 201) (by decide) (by decide)) ⟨rfl, rfl⟩), Kp.refl⟩
  | m + 1, j, μ, hj, hM, hR => by
    have hn1 : ¬ (200 : Int32) < nI j := nI_nlt (a := 200) (b := j) (by omega) (by decide)
    obtain ⟨μ', g1, g2⟩ := agree_in (d := d) (j := j) (X := agrA P l o (r (48 + l)) (r (48 + o)) (m + 1) j) (r := r) hl ho (by omega) hp hq (fun μ hM hR => by
      cases e : eqP P l o (r (48 + l) + j) (r (48 + o) + j) (min (pWi P l) (pWi P o)) with
      | true => exact ⟨μ, tneg (by decide) ⟨if_pos e, rfl⟩, Kp.refl⟩
      | false =>
        obtain ⟨μ', q1, q2⟩ := agree_m hl ho hp hq m (j + 1) μ (by omega) hM hR
        rw [nI_succ] at q1
        refine ⟨μ', tpos rfl ?_, q2⟩
        rw [show agrA P l o (r (48 + l)) (r (48 + o)) (m + 1) j = agrA P l o (r (48 + l)) (r (48 + o)) m (j + 1) from if_neg (by rw [e]; decide)]
        exact q1) (min (pWi P l) (pWi P o)) 0 μ (by omega) hM hR
    exact ⟨μ', X10_agree_at25_ok (tneg hn1 g1), g2⟩
theorem call_agree {a b : Int32} (hn : n ≤ 512) : Both (X9_agree (d + 8) a b) (X10_agree (d + 8) a b) n := by
  rintro μC μM ⟨P, p, r, h⟩
  obtain ⟨⟨hC, hK, hR⟩, ⟨hM, hRM⟩, hS, _⟩ := id h
  have pw := hC.1
  have h4 := pw.2.2.2.1
  have p1 := hasLoom_c (d := d + 7) (x := a) hC
  have p2 := isLoom_m (d := d + 6) (f := a) hM
  have q1 := hasLoom_c (d := d + 7) (x := b) hC
  have q2 := isLoom_m (d := d + 6) (f := b) hM
  rw [← hC.ptr0] at p1 q1
  cases ha : inN a (pL P) with
  | false =>
    rw [ha] at p1 p2
    exact ⟨-1, μC, μM, X9_agree_ok ⟨_, μC, p1, tpos rfl ⟨rfl, rfl⟩⟩, X10_agree_ok ⟨_, μM, p2, tpos rfl ⟨rfl, rfl⟩⟩, h.next⟩
  | true =>
    rw [ha] at p1 p2
    cases hb : inN b (pL P) with
    | false =>
      rw [hb] at q1 q2
      exact ⟨-1, μC, μM, X9_agree_ok ⟨_, μC, p1, tneg (by decide) ⟨_, μC, q1, tpos rfl ⟨rfl, rfl⟩⟩⟩, X10_agree_ok ⟨_, μM, p2, tneg (by decide) ⟨_, μM, q2, tpos rfl ⟨rfl, rfl⟩⟩⟩, h.next⟩
    | true =>
      rw [hb] at q1 q2
      by_cases e : a = b
      · exact ⟨-1, μC, μM, X9_agree_ok ⟨_, μC, p1, tneg (by decide) ⟨_, μC, q1, tneg (by decide) (teq e ⟨rfl, rfl⟩)⟩⟩, X10_agree_ok ⟨_, μM, p2, tneg (by decide) ⟨_, μM, q2, tneg (by decide) (teq e ⟨rfl, rfl⟩)⟩⟩, h.next⟩
      · obtain ⟨l, hl, rfl⟩ := inN_ex ha
        obtain ⟨o, ho, rfl⟩ := inN_ex hb
        have pl := (hS.2.2.1 l hl).1
        have po := (hS.2.2.1 o ho).1
        have w8 := (pw.2.2.2.2.2.2.2.2.2.1 l hl).2.1
        have o8 := (pw.2.2.2.2.2.2.2.2.2.1 o ho).2.1
        have c1 := part_c (d := d + 6) (s := 13) (μ := μC) (l := l) (k := 1) (by omega) (by decide)
        rw [(hR.2.2.2.1 l hl).2.1] at c1
        have c2 := part_c (d := d + 6) (s := 13) (μ := μC) (l := o) (k := 1) (by omega) (by decide)
        rw [(hR.2.2.2.1 o ho).2.1] at c2
        have em : mn (μC.1 (μC.2.2 0 4 + 5) (nI l).toNatClampNeg) (μC.1 (μC.2.2 0 4 + 5) (nI o).toNatClampNeg) = nI (min (pWi P l) (pWi P o)) := by
          rw [hC.ptr0, nI_clamp (by omega), nI_clamp (by omega), (hC.loo hl).1, (hC.loo ho).1, mn_nI (by omega) (by omega)]
        obtain ⟨mC, a1, a2, a3⟩ := agree_c (d := d + 5) (a := r (48 + l)) (b := r (48 + o)) hl ho (by omega) (by omega) 201 0 μC (by omega) hC hK
        obtain ⟨mM, b1, b2⟩ := agree_m (d := d + 5) (r := r) hl ho (by omega) (by omega) 201 0 μM (by omega) hM hRM
        refine ⟨_, mC, mM, X9_agree_ok ⟨_, μC, p1, tneg (by decide) ⟨_, μC, q1, tneg (by decide) (tne e ⟨vp_inN (by omega) (by decide), vp_inN (by omega) (by decide), _, μC, c1, _, μC, c2, ?_⟩)⟩⟩, X10_agree_ok ⟨_, μM, p2, tneg (by decide) ⟨_, μM, q2, tneg (by decide) (tne e b1)⟩⟩, (h.scr a2 a3 (fV_scM b2)).next⟩
        rw [em]
        exact a1
end Calls
