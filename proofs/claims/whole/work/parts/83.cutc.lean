/-! ===== the class's cutter ===== -/
section Cut
variable {d : Nat}
theorem and_nI (a b : Nat) : nI a &&& nI b = nI (a &&& b) := by
  apply i_bv
  show ((BitVec.ofNat 32 a) &&& (BitVec.ofNat 32 b)).toNat = (BitVec.ofNat 32 (a &&& b)).toNat
  rw [BitVec.toNat_and]
  simp only [BitVec.toNat_ofNat]
  rw [Nat.and_mod_two_pow]
theorem or_nI' (a b : Nat) : nI a ||| nI b = nI (a ||| b) := by
  apply i_bv
  show ((BitVec.ofNat 32 a) ||| (BitVec.ofNat 32 b)).toNat = (BitVec.ofNat 32 (a ||| b)).toNat
  rw [BitVec.toNat_or]
  simp only [BitVec.toNat_ofNat]
  rw [Nat.or_mod_two_pow]
theorem xor_nI (a b : Nat) : nI a ^^^ nI b = nI (a ^^^ b) := by
  apply i_bv
  show ((BitVec.ofNat 32 a) ^^^ (BitVec.ofNat 32 b)).toNat = (BitVec.ofNat 32 (a ^^^ b)).toNat
  rw [BitVec.toNat_xor]
  simp only [BitVec.toNat_ofNat]
  rw [Nat.xor_mod_two_pow]
theorem bp1 : ∀ B, B < 256 → ∀ x, x < 8 → (nI B >>> (nI x &&& 31)) &&& 1 = nI (B / 2 ^ x % 2) := by decide +kernel
theorem n31 : ∀ w, w < 9 → nI w &&& 31 = nI w := by decide
section
variable {n bd : Nat} {W H Pl : Nat → Nat}
def CuC (n bd : Nat) (W H Pl : Nat → Nat) (μ : Mem) : Prop := μ.1 203 4 = nI n ∧ μ.1 203 6 = nI bd ∧ ∀ i, i < n → μ.1 204 i = nI (W i) ∧ μ.1 205 i = nI (H i) ∧ μ.1 206 i = nI (Pl i)
def sCu (lain a k : Nat) : Prop := (a = 203 ∧ k = 5) ∨ (208 + lain < a ∧ a ≤ 212)
theorem CuC.kq {lain : Nat} {μ μ' : Mem} (h : CuC n bd W H Pl μ) (k : Kq (sCu lain) μ μ') : CuC n bd W H Pl μ' := by
  obtain ⟨h1, h2, h3⟩ := h
  refine ⟨by rw [k.at (by unfold sCu; omega)]; exact h1, by rw [k.at (by unfold sCu; omega)]; exact h2, fun i hi => ?_⟩
  rw [k.at (by unfold sCu; omega), k.at (by unfold sCu; omega), k.at (by unfold sCu; omega)]
  exact h3 i hi
def EdC (lain : Nat) (E : Nat → Nat) (μ : Mem) : Prop := ∀ c, c < 8 → μ.1 (208 + lain) c = nI (E c)
def mxR (E : Nat → Nat) (x : Nat) : Nat → Nat
  | 0 => 0
  | k + 1 => max (mxR E x k) (E (x + k))
theorem mxR_le {E : Nat → Nat} {x B : Nat} : ∀ k, (∀ c, x ≤ c → c < x + k → E c ≤ B) → mxR E x k ≤ B
  | 0, _ => Nat.zero_le _
  | k + 1, h => by
    have a := mxR_le k fun c h1 h2 => h c h1 (by omega)
    have b := h (x + k) (by omega) (by omega)
    show max (mxR E x k) (E (x + k)) ≤ B
    omega
theorem mxR_ge {E : Nat → Nat} {x : Nat} : ∀ k c, x ≤ c → c < x + k → E c ≤ mxR E x k
  | 0, c, h1, h2 => by omega
  | k + 1, c, h1, h2 => by
    show E c ≤ max (mxR E x k) (E (x + k))
    by_cases e : c = x + k
    · rw [e]; omega
    · have := mxR_ge (E := E) k c h1 (by omega)
      omega
theorem lay35 {i x lain a5 : Nat} {E : Nat → Nat} {X : Int32} {μ μ' : Mem} (hs : SzP n W H) (hi : i < n) (hx : x + W i ≤ 8) (hC : CuC n bd W H Pl μ) (hE : EdC lain E μ) (hB : ∀ c, c < 8 → E c ≤ 100) (hc : X0_lay_at87 d (nI i) (nI x) a5 (nI (mxR E x (W i) + H i)) (nI x) μ X μ') : ∀ (m k : Nat), k + m = W i → X0_lay_at35 d (nI i) (nI x) (208 + lain) a5 (nI (mxR E x k)) (nI (x + k)) μ X μ'
  | 0, k, hk => by
    have h4 := hs.1
    have hk : k = W i := hk
    subst hk
    have v4 : vp_in (nI i) 4 := vp_inN (by omega) (by decide)
    obtain ⟨w1, w2, _⟩ := hC.2.2 i hi
    refine X0_lay_at35_ok ⟨v4, ?_⟩
    rw [nI_clamp (by omega), w1, w2, nJ_add, nJ_add]
    exact tpos (nI_le (Nat.le_refl _) (by omega)) ⟨v4, hc⟩
  | m + 1, k, hk => by
    have h4 := hs.1
    have v4 : vp_in (nI i) 4 := vp_inN (by omega) (by decide)
    obtain ⟨w1, w2, _⟩ := hC.2.2 i hi
    have ih := lay35 hs hi hx hC hE hB hc m (k + 1) (by omega)
    have b1 : mxR E x k ≤ 100 := mxR_le k fun c h1 h2 => hB c (by omega)
    have b2 := hB (x + k) (by omega)
    rw [show x + (k + 1) = x + k + 1 by omega, nI_succ, show mxR E x (k + 1) = max (mxR E x k) (E (x + k)) from rfl] at ih
    refine X0_lay_at35_ok ⟨v4, ?_⟩
    rw [nI_clamp (by omega), w1, nJ_add]
    refine tneg (nI_ge (by omega) (by omega)) (tneg (nI_ge (b := 8) (by omega) (by decide)) ⟨vp_inN (by omega) (by decide), ?_⟩)
    rw [nI_clamp (by omega), hE (x + k) (by omega), mx_nI (by omega) (by omega)]
    exact ih
theorem lay87 {i x a5 e : Nat} (hs : SzP n W H) (hi : i < n) (hx : x + W i ≤ 8) (ha : 208 < a5) : ∀ (m k : Nat) (μ : Mem), k + m = W i → CuC n bd W H Pl μ → ∃ μ', X0_lay_at87 d (nI i) (nI x) a5 (nI e) (nI (x + k)) μ (nI e) μ' ∧ Kq (fun a _ => a = a5) μ μ' ∧ ∀ c, μ'.1 a5 c = if x + k ≤ c ∧ c < x + W i then nI e else μ.1 a5 c
  | 0, k, μ, hk, hC => by
    have h4 := hs.1
    have hk : k = W i := hk
    subst hk
    have v4 : vp_in (nI i) 4 := vp_inN (by omega) (by decide)
    obtain ⟨w1, w2, _⟩ := hC.2.2 i hi
    refine ⟨μ, X0_lay_at87_ok ⟨v4, ?_⟩, Kq.refl, fun c => ?_⟩
    · rw [nI_clamp (by omega), w1, nJ_add]
      exact tpos (nI_le (Nat.le_refl _) (by omega)) ⟨rfl, rfl⟩
    · rw [if_neg (by omega)]
  | m + 1, k, μ, hk, hC => by
    have h4 := hs.1
    have v4 : vp_in (nI i) 4 := vp_inN (by omega) (by decide)
    obtain ⟨w1, w2, _⟩ := hC.2.2 i hi
    have k1 : Kq (fun a _ => a = a5) μ (sI μ a5 (x + k) (nI e)) := Kq.sI rfl
    obtain ⟨μ', g1, g2, g3⟩ := lay87 (e := e) hs hi hx ha m (k + 1) (sI μ a5 (x + k) (nI e)) (by omega) (by
      obtain ⟨h1, h2, h3⟩ := hC
      refine ⟨by rw [k1.at (by omega)]; exact h1, by rw [k1.at (by omega)]; exact h2, fun i hi => ?_⟩
      rw [k1.at (by omega), k1.at (by omega), k1.at (by omega)]
      exact h3 i hi)
    rw [show x + (k + 1) = x + k + 1 by omega, nI_succ] at g1
    refine ⟨μ', X0_lay_at87_ok ⟨v4, ?_⟩, k1.trans g2, fun c => ?_⟩
    · rw [nI_clamp (by omega), w1, nJ_add]
      refine tneg (nI_ge (by omega) (by omega)) (tneg (nI_ge (b := 8) (by omega) (by decide)) ⟨vp_inN (by omega) (by decide), ?_⟩)
      rintro μ1 rfl
      rw [nI_clamp (by omega)]
      exact g1
    · rw [g3 c]
      by_cases q : x + (k + 1) ≤ c ∧ c < x + W i
      · rw [if_pos q, if_pos (by omega)]
      · rw [if_neg q]
        by_cases z : c = x + k
        · rw [z, sI_1, if_pos (by omega)]
        · rw [sI_k z, if_neg (by omega)]
def layE (E : Nat → Nat) (x w e : Nat) : Nat → Nat := fun c => if x ≤ c ∧ c < x + w then e else E c
theorem lay_c {i x lain : Nat} {E : Nat → Nat} {μ : Mem} (hs : SzP n W H) (hi : i < n) (hl : lain < n) (hx : x + W i ≤ 8) (hC : CuC n bd W H Pl μ) (hE : EdC lain E μ) (hB : ∀ c, c < 8 → E c ≤ 100) : ∃ μ', X0_lay d (nI i) (nI lain) (nI x) μ (nI (mxR E x (W i) + H i)) μ' ∧ Kq (fun a _ => a = 208 + (lain + 1)) μ μ' ∧ EdC (lain + 1) (layE E x (W i) (mxR E x (W i) + H i)) μ' := by
  have h4 := hs.1
  have k1 : Kq (fun a _ => a = 208 + (lain + 1)) μ (sA μ (208 + (lain + 1)) (va_cpy (μ.1 (208 + lain)) (μ.1 (208 + (lain + 1))) 0 0 8)) := Kq.sA fun _ => rfl
  have hC1 : CuC n bd W H Pl (sA μ (208 + (lain + 1)) (va_cpy (μ.1 (208 + lain)) (μ.1 (208 + (lain + 1))) 0 0 8)) := hC.kq (lain := lain) (k1.mono fun a k q => by unfold sCu; omega)
  have hE1 : EdC lain E (sA μ (208 + (lain + 1)) (va_cpy (μ.1 (208 + lain)) (μ.1 (208 + (lain + 1))) 0 0 8)) := fun c hc => by
    rw [k1.at (by omega)]
    exact hE c hc
  obtain ⟨μ', g1, g2, g3⟩ := lay87 (d := d) (e := mxR E x (W i) + H i) hs hi hx (show 208 < 208 + (lain + 1) by omega) (W i) 0 _ (by omega) hC1
  refine ⟨μ', X0_lay_ok ?_, k1.trans g2, fun c hc => ?_⟩
  · rw [show nI lain + 1 = nI (lain + 1) from nI_1 lain]
    refine ⟨vp_inN (by omega) (by decide), vp_inN (by omega) (by decide), ?_⟩
    rintro μ1 rfl
    rw [nI_clamp (by omega), nI_clamp (by omega), Nat.one_mul, Nat.one_mul]
    exact lay35 hs hi hx hC1 hE1 hB g1 (W i) 0 (by omega)
  · rw [g3 c]
    unfold layE
    by_cases q : x ≤ c ∧ c < x + W i
    · rw [if_pos (by omega), if_pos q]
    · rw [if_neg (by omega), if_neg q, sA_1, cpy_lt hc]
      exact hE c hc
def usd (M u : Nat) : Prop := M / 2 ^ u % 2 = 1
theorem twin_c {i M : Nat} {μ : Mem} (hs : SzP n W H) (hi : i < n) (hM : M < 64) (hC : CuC n bd W H Pl μ) : ∀ (m o : Nat), o + m = i → ∃ y, X0_hasTwin_at2 d (nI i) (nI M) (nI o) μ y μ ∧ ((∀ v, o ≤ v → v < i → ¬ (¬ usd M v ∧ W v = W i ∧ H v = H i)) → y = 0)
  | 0, o, ho => by
    have h4 := hs.1
    have ho : o = i := ho
    subst ho
    exact ⟨0, X0_hasTwin_at2_ok (tpos (nI_le (Nat.le_refl _) (by omega)) ⟨rfl, rfl⟩), fun _ => rfl⟩
  | m + 1, o, ho => by
    have h4 := hs.1
    obtain ⟨y, g1, g2⟩ := twin_c hs hi hM hC m (o + 1) (by omega)
    rw [nI_succ] at g1
    have so := hs.2 o (by omega)
    have si := hs.2 i hi
    obtain ⟨w1, w2, _⟩ := hC.2.2 o (by omega)
    obtain ⟨w3, w4, _⟩ := hC.2.2 i hi
    have v1 : vp_in (nI o) 4 := vp_inN (by omega) (by decide)
    have v2 : vp_in (nI i) 4 := vp_inN (by omega) (by decide)
    have b := bt1 M hM o (by omega)
    have g2' : (∀ v, o ≤ v → v < i → ¬ (¬ usd M v ∧ W v = W i ∧ H v = H i)) → y = 0 := fun z => g2 fun v h1 h2 => z v (by omega) h2
    by_cases q : M / 2 ^ o % 2 = 1
    · refine ⟨y, X0_hasTwin_at2_ok (tneg (nI_ge (by omega) (by omega)) ?_), g2'⟩
      rw [b, q]
      exact tne (by decide) g1
    · have q0 := bz q
      by_cases qw : W o = W i
      · by_cases qh : H o = H i
        · refine ⟨1, X0_hasTwin_at2_ok (tneg (nI_ge (by omega) (by omega)) ?_), fun z => absurd ⟨q, qw, qh⟩ (z o (Nat.le_refl _) (by omega))⟩
          rw [b, q0, nI_clamp (by omega), nI_clamp (by omega), w1, w2, w3, w4]
          exact teq rfl ⟨v1, v2, teq (by rw [qw]) ⟨v1, v2, teq (by rw [qh]) ⟨rfl, rfl⟩⟩⟩
        · refine ⟨y, X0_hasTwin_at2_ok (tneg (nI_ge (by omega) (by omega)) ?_), g2'⟩
          rw [b, q0, nI_clamp (by omega), nI_clamp (by omega), w1, w2, w3, w4]
          exact teq rfl ⟨v1, v2, teq (by rw [qw]) ⟨v1, v2, tne (fun z => qh (nI_inj (by omega) (by omega) z)) g1⟩⟩
      · refine ⟨y, X0_hasTwin_at2_ok (tneg (nI_ge (by omega) (by omega)) ?_), g2'⟩
        rw [b, q0, nI_clamp (by omega), nI_clamp (by omega), w1, w2, w3, w4]
        exact teq rfl ⟨v1, v2, tne (fun z => qw (nI_inj (by omega) (by omega) z)) g1⟩
/-! what the search means -/
def Snd (n : Nat) (W H : Nat → Nat) (M : Nat) (E : Nat → Nat) (len : Nat) : Prop := ∃ x y, (∀ u, u < n → usd M u → x u + W u ≤ 8 ∧ y u + H u ≤ len ∧ ∀ c, x u ≤ c → c < x u + W u → y u + H u ≤ E c) ∧ ∀ u v, u < n → v < n → u ≠ v → usd M u → usd M v → Apt W H x y u v
def CmpP (n : Nat) (W H : Nat → Nat) (M : Nat) (E : Nat → Nat) (len L : Nat) (x y : Nat → Nat) : Prop := len ≤ L ∧ Norm n W H L x y ∧ (∀ c, c < 8 → E c = 0 ∨ ∃ u, u < n ∧ usd M u ∧ x u ≤ c ∧ c < x u + W u ∧ E c ≤ y u + H u) ∧ ∀ u v, u < n → v < n → usd M u → ¬ usd M v → y u ≤ y v
def ChP (n : Nat) (W H : Nat → Nat) (M : Nat) (y : Nat → Nat) (j : Nat) : Prop := j < n ∧ ¬ usd M j ∧ (∀ v, v < n → ¬ usd M v → y j ≤ y v) ∧ ∀ o, o < j → ¬ (¬ usd M o ∧ W o = W j ∧ H o = H j)
theorem usd_or {M i u : Nat} (hM : M < 64) (hi : i < 6) (hu : u < 6) : usd (M ||| 2 ^ i) u ↔ u = i ∨ usd M u := by
  unfold usd
  rw [bt3 M hM i hi u hu]
  by_cases e : i = u
  · rw [if_pos e]
    exact ⟨fun _ => Or.inl e.symm, fun _ => rfl⟩
  · rw [if_neg e]
    exact ⟨Or.inr, fun h => h.elim (fun z => absurd z.symm e) id⟩
theorem cmp_step {M len L i : Nat} {E x y : Nat → Nat} (hs : SzP n W H) (hM : M < 64) (h : CmpP n W H M E len L x y) (hc : ChP n W H M y i) : mxR E (x i) (W i) + H i ≤ L ∧ CmpP n W H (M ||| 2 ^ i) (layE E (x i) (W i) (mxR E (x i) (W i) + H i)) (max len (mxR E (x i) (W i) + H i)) L x y := by
  obtain ⟨h1, ⟨hL, hN⟩, h3, h4⟩ := h
  obtain ⟨c1, c2, c3, c4⟩ := hc
  have n4 := hs.1
  have si := hs.2 i c1
  have li := hL.1 i c1
  have eb : mxR E (x i) (W i) ≤ y i := mxR_le _ fun c q1 q2 => by
    rcases h3 c (by omega) with z | ⟨u, u1, u2, u3, u4, u5⟩
    · omega
    · have hne : u ≠ i := fun z => c2 (z ▸ u2)
      have ap := hL.2 u i u1 c1 hne
      have oy := h4 u i u1 c1 u2 c2
      unfold Apt at ap
      omega
  refine ⟨by omega, by omega, ⟨hL, hN⟩, fun c hc => ?_, fun u v hu hv q1 q2 => ?_⟩
  · unfold layE
    by_cases q : x i ≤ c ∧ c < x i + W i
    · rw [if_pos q]
      exact Or.inr ⟨i, c1, (usd_or hM (by omega) (by omega)).mpr (Or.inl rfl), q.1, q.2, by omega⟩
    · rw [if_neg q]
      rcases h3 c hc with z | ⟨u, u1, u2, u3⟩
      · exact Or.inl z
      · exact Or.inr ⟨u, u1, (usd_or hM (by omega) (by omega)).mpr (Or.inr u2), u3⟩
  · have q2' : v ≠ i ∧ ¬ usd M v := ⟨fun z => q2 ((usd_or hM (by omega) (by omega)).mpr (Or.inl z)), fun z => q2 ((usd_or hM (by omega) (by omega)).mpr (Or.inr z))⟩
    rcases (usd_or hM (by omega) (by omega)).mp q1 with z | z
    · rw [z]
      exact c3 v hv q2'.2
    · exact h4 u v hu hv z q2'.2
theorem snd_step {M len i xp : Nat} {E : Nat → Nat} (hs : SzP n W H) (hM : M < 64) (hi : i < n) (hu : ¬ usd M i) (hx : xp + W i ≤ 8) (h : Snd n W H M E len) : Snd n W H (M ||| 2 ^ i) (layE E xp (W i) (mxR E xp (W i) + H i)) (max len (mxR E xp (W i) + H i)) := by
  obtain ⟨x, y, h1, h2⟩ := h
  have n4 := hs.1
  have old : ∀ u, u < n → usd (M ||| 2 ^ i) u → u ≠ i → usd M u := fun u hu q z => ((usd_or hM (by omega) (by omega)).mp q).elim (fun e => absurd e z) id
  have base : ∀ u, u < n → usd M u → (xp < x u + W u ∧ x u < xp + W i) → y u + H u ≤ mxR E xp (W i) := fun u hu q z => by
    have wi := (hs.2 i hi).1
    have wu := (hs.2 u hu).1
    by_cases c : xp ≤ x u
    · exact Nat.le_trans ((h1 u hu q).2.2 (x u) (by omega) (by omega)) (mxR_ge _ _ c z.2)
    · exact Nat.le_trans ((h1 u hu q).2.2 xp (by omega) (by omega)) (mxR_ge _ _ (Nat.le_refl _) (by omega))
  refine ⟨updN x i xp, updN y i (mxR E xp (W i)), fun u hu' q => ?_, fun u v hu' hv' ne q1 q2 => ?_⟩
  · by_cases e : u = i
    · rw [e, updN_same, updN_same]
      refine ⟨hx, by omega, fun c q1 q2 => ?_⟩
      unfold layE
      rw [if_pos ⟨q1, q2⟩]
      exact Nat.le_refl _
    · rw [updN_ne e, updN_ne e]
      have o := h1 u hu' (old u hu' q e)
      refine ⟨o.1, by omega, fun c q1 q2 => ?_⟩
      unfold layE
      by_cases z : xp ≤ c ∧ c < xp + W i
      · rw [if_pos z]
        have := base u hu' (old u hu' q e) (by omega)
        omega
      · rw [if_neg z]
        exact o.2.2 c q1 q2
  · unfold Apt
    by_cases eu : u = i
    · have ev : v ≠ i := fun z => ne (by rw [eu, z])
      rw [eu, updN_same, updN_same, updN_ne ev, updN_ne ev]
      by_cases z : xp < x v + W v ∧ x v < xp + W i
      · have := base v hv' (old v hv' q2 ev) z
        omega
      · omega
    · rw [updN_ne eu, updN_ne eu]
      by_cases ev : v = i
      · rw [ev, updN_same, updN_same]
        by_cases z : xp < x u + W u ∧ x u < xp + W i
        · have := base u hu' (old u hu' q1 eu) z
          omega
        · omega
      · rw [updN_ne ev, updN_ne ev]
        exact h2 u v hu' hv' ne (old u hu' q1 eu) (old v hv' q2 ev)
def sw (a b k : Nat) : Nat := if k = a then b else if k = b then a else k
theorem sw_lt {a b k m : Nat} (ha : a < m) (hb : b < m) (hk : k < m) : sw a b k < m := by
  unfold sw
  split
  · exact hb
  · split
    · exact ha
    · exact hk
theorem sw_sw {a b k : Nat} : sw a b (sw a b k) = k := by
  unfold sw
  by_cases h1 : k = a
  · rw [if_pos h1]
    by_cases h2 : b = a
    · rw [if_pos h2, h1, h2]
    · rw [if_neg h2, if_pos rfl, h1]
  · rw [if_neg h1]
    by_cases h2 : k = b
    · rw [if_pos h2, if_pos rfl, h2]
    · rw [if_neg h2, if_neg h1, if_neg h2]
theorem sw_inj {a b i j : Nat} (h : i ≠ j) : sw a b i ≠ sw a b j := fun z => h (by
  have := congrArg (sw a b) z
  rwa [sw_sw, sw_sw] at this)
theorem least {p : Nat → Prop} {b : Nat} (h : p b) : ∃ a, a ≤ b ∧ p a ∧ ∀ o, o < a → ¬ p o := by
  induction b using Nat.strongRecOn with
  | ind b ih =>
    rcases Classical.em (∃ o, o < b ∧ p o) with ⟨o, h1, h2⟩ | q
    · obtain ⟨a, a1, a2, a3⟩ := ih o h1 h2
      exact ⟨a, by omega, a2, a3⟩
    · exact ⟨b, Nat.le_refl _, h, fun o h1 h2 => q ⟨o, h1, h2⟩⟩
theorem lowest {p : Nat → Prop} {y : Nat → Nat} : ∀ (v i : Nat), y i = v → p i → ∃ j, p j ∧ ∀ k, p k → y j ≤ y k := by
  intro v
  induction v using Nat.strongRecOn with
  | ind v ih =>
    intro i hv hi
    rcases Classical.em (∃ k, p k ∧ y k < y i) with ⟨k, h1, h2⟩ | q
    · exact ih (y k) (by omega) k rfl h1
    · exact ⟨i, hi, fun k hk => Nat.le_of_not_lt fun z => q ⟨k, hk, z⟩⟩
theorem choose_ex {M len L : Nat} {E x y : Nat → Nat} (h : CmpP n W H M E len L x y) {u : Nat} (hu : u < n) (hn : ¬ usd M u) : ∃ x' y' j, CmpP n W H M E len L x' y' ∧ ChP n W H M y' j := by
  obtain ⟨h1, ⟨hL, hN⟩, h3, h4⟩ := h
  obtain ⟨i, ⟨i1, i2⟩, i3⟩ := lowest (p := fun k => k < n ∧ ¬ usd M k) (y := y) (y u) u rfl ⟨hu, hn⟩
  obtain ⟨j, j1, ⟨j2, j3, j4⟩, j5⟩ := least (p := fun o => ¬ usd M o ∧ W o = W i ∧ H o = H i) (b := i) ⟨i2, rfl, rfl⟩
  have jn : j < n := by omega
  have eW : ∀ k, W (sw i j k) = W k := fun k => by
    unfold sw
    by_cases q : k = i
    · rw [if_pos q, q, j3]
    · rw [if_neg q]
      by_cases z : k = j
      · rw [if_pos z, z, j3]
      · rw [if_neg z]
  have eH : ∀ k, H (sw i j k) = H k := fun k => by
    unfold sw
    by_cases q : k = i
    · rw [if_pos q, q, j4]
    · rw [if_neg q]
      by_cases z : k = j
      · rw [if_pos z, z, j4]
      · rw [if_neg z]
  have eU : ∀ k, usd M k → sw i j k = k := fun k q => by
    unfold sw
    rw [if_neg (show ¬ k = i from fun z => i2 (z ▸ q)), if_neg (show ¬ k = j from fun z => j2 (z ▸ q))]
  have eN : ∀ k, ¬ usd M k → ¬ usd M (sw i j k) := fun k q => by
    unfold sw
    split
    · exact j2
    · split
      · exact i2
      · exact q
  have lt : ∀ k, k < n → sw i j k < n := fun k hk => sw_lt i1 jn hk
  refine ⟨fun k => x (sw i j k), fun k => y (sw i j k), j, ⟨h1, ⟨⟨fun k hk => ?_, fun a b ha hb ne => ?_⟩, fun k hk => ?_⟩, fun c hc => ?_, fun a b ha hb q1 q2 => ?_⟩, jn, j2, fun v hv q => ?_, fun o ho q => ?_⟩
  · have := hL.1 (sw i j k) (lt k hk)
    rw [eW, eH] at this
    exact this
  · have := hL.2 (sw i j a) (sw i j b) (lt a ha) (lt b hb) (sw_inj ne)
    unfold Apt at this ⊢
    rw [eW, eW, eH, eH] at this
    exact this
  · rcases hN (sw i j k) (lt k hk) with z | ⟨b, b1, b2, b3⟩
    · exact Or.inl z
    · refine Or.inr ⟨sw i j b, lt b b1, fun z => b2 ?_, ?_⟩
      · rw [← z, sw_sw]
      · show x (sw i j (sw i j b)) + W (sw i j b) = x (sw i j k)
        rw [sw_sw, eW]
        exact b3
  · rcases h3 c hc with z | ⟨v, v1, v2, v3, v4, v5⟩
    · exact Or.inl z
    · refine Or.inr ⟨v, v1, v2, ?_, ?_, ?_⟩
      · show x (sw i j v) ≤ c
        rw [eU v v2]; exact v3
      · show c < x (sw i j v) + W v
        rw [eU v v2]; exact v4
      · show E c ≤ y (sw i j v) + H v
        rw [eU v v2]; exact v5
  · show y (sw i j a) ≤ y (sw i j b)
    rw [eU a q1]
    exact h4 a _ ha (lt b hb) q1 (eN b q2)
  · show y (sw i j j) ≤ y (sw i j v)
    have : sw i j j = i := by
      unfold sw
      by_cases z : j = i
      · rw [if_pos z]; exact z
      · rw [if_neg z, if_pos rfl]
    rw [this]
    exact i3 _ ⟨lt v hv, eN v q⟩
  · exact j5 o ho ⟨q.1, q.2.1.trans j3, q.2.2.trans j4⟩
/-! counting what is used -/
def cU (M n : Nat) : Nat := cntA (fun u => decide (M / 2 ^ u % 2 = 1)) n
theorem cnt_full {f : Nat → Bool} : ∀ m, cntA f m = m → ∀ u, u < m → f u = true
  | 0, _, u, hu => absurd hu (Nat.not_lt_zero _)
  | m + 1, h, u, hu => by
    have l := cntA_le f m
    have h : cntA f m + (if f m then 1 else 0) = m + 1 := h
    have fm : f m = true := by
      cases e : f m with
      | true => rfl
      | false =>
        rw [e, if_neg (by decide)] at h
        omega
    rw [fm, if_pos rfl] at h
    by_cases e : u = m
    · rw [e]; exact fm
    · exact cnt_full m (by omega) u (by omega)
theorem cnt_not {f : Nat → Bool} : ∀ m, cntA f m < m → ∃ u, u < m ∧ f u = false
  | 0, h => absurd h (Nat.not_lt_zero _)
  | m + 1, h => by
    cases e : f m with
    | false => exact ⟨m, by omega, e⟩
    | true =>
      rw [cnt_s e] at h
      obtain ⟨u, u1, u2⟩ := cnt_not (f := f) m (by omega)
      exact ⟨u, by omega, u2⟩
theorem cnt_upd {f g : Nat → Bool} {i : Nat} (hf : f i = false) (hg : g i = true) (h : ∀ u, u ≠ i → g u = f u) : ∀ m, cntA g m = cntA f m + if i < m then 1 else 0
  | 0 => by rw [if_neg (Nat.not_lt_zero _)]; rfl
  | m + 1 => by
    have ih := cnt_upd hf hg h m
    show cntA g m + (if g m then 1 else 0) = cntA f m + (if f m then 1 else 0) + _
    by_cases e : m = i
    · rw [e] at ih ⊢
      rw [ih, hf, hg, if_neg (Nat.lt_irrefl _), if_pos rfl, if_pos (show i < i + 1 by omega)]
      rfl
    · rw [ih, h m e]
      by_cases q : i < m
      · rw [if_pos q, if_pos (show i < m + 1 by omega)]
        omega
      · rw [if_neg q, if_neg (show ¬ i < m + 1 by omega)]
        rfl
theorem cU_or {M i : Nat} (hM : M < 64) (hi : i < n) (hn : n ≤ 4) (hu : ¬ usd M i) : cU (M ||| 2 ^ i) n = cU M n + 1 := by
  have key : ∀ m, m ≤ n → cntA (fun u => decide ((M ||| 2 ^ i) / 2 ^ u % 2 = 1)) m = cntA (fun u => decide (u = i) || decide (M / 2 ^ u % 2 = 1)) m := by
    intro m
    induction m with
    | zero => intro _; rfl
    | succ m ih =>
      intro hm
      show cntA _ m + (if decide ((M ||| 2 ^ i) / 2 ^ m % 2 = 1) then 1 else 0) = cntA _ m + (if (decide (m = i) || decide (M / 2 ^ m % 2 = 1)) then 1 else 0)
      rw [ih (by omega)]
      have : decide ((M ||| 2 ^ i) / 2 ^ m % 2 = 1) = (decide (m = i) || decide (M / 2 ^ m % 2 = 1)) := by
        rw [Bool.eq_iff_iff, Bool.or_eq_true, decide_eq_true_iff, decide_eq_true_iff, decide_eq_true_iff]
        exact usd_or hM (by omega) (by omega)
      rw [this]
  unfold cU
  rw [key n (Nat.le_refl _), cnt_upd (f := fun u => decide (M / 2 ^ u % 2 = 1)) (i := i) (decide_eq_false hu) (by rw [decide_eq_true rfl, Bool.true_or]) (fun u q => by rw [decide_eq_false q, Bool.false_or]), if_pos hi]
/-! the search -/
def PlOK (n : Nat) (W H Pl : Nat → Nat) : Prop := (∀ i, i < n → Pl i < 256) ∧ ∀ L x y, Norm n W H L x y → ∀ i, i < n → Pl i / 2 ^ x i % 2 = 1
def StC (n bd : Nat) (W H Pl : Nat → Nat) (lain M len : Nat) (E : Nat → Nat) (best : Nat) (μ : Mem) : Prop := CuC n bd W H Pl μ ∧ EdC lain E μ ∧ μ.1 203 5 = nI best ∧ best ≤ 24 ∧ Fit n W H best
def LnS (d n bd : Nat) (W H Pl : Nat → Nat) (m : Nat) : Prop := ∀ (lain M len : Nat) (E : Nat → Nat) (best : Nat) (μ : Mem), lain + m = n → cU M n = lain → M < 64 → (∀ c, c < 8 → E c ≤ 6 * lain) → len ≤ 6 * lain → Snd n W H M E len → StC n bd W H Pl lain M len E best μ → ∃ R μ', X0_layNext (d + 2 * m + 1) (nI lain) (nI M) (nI len) μ μ' ∧ Kq (sCu lain) μ μ' ∧ StC n bd W H Pl lain M len E R μ' ∧ R ≤ best ∧ ∀ L x y, CmpP n W H M E len L x y → R ≤ bd ∨ R ≤ L
theorem StC.kq {lain M len R : Nat} {E : Nat → Nat} {best : Nat} {μ μ' : Mem} (h : StC n bd W H Pl lain M len E best μ) (k : Kq (sCu lain) μ μ') (hR : μ'.1 203 5 = nI R) (hR24 : R ≤ 24) (hF : Fit n W H R) : StC n bd W H Pl lain M len E R μ' := ⟨h.1.kq k, fun c hc => by rw [k.at (by unfold sCu; omega)]; exact h.2.1 c hc, hR, hR24, hF⟩
theorem layEv {lain M len i m : Nat} {E : Nat → Nat} (hs : SzP n W H) (hP : PlOK n W H Pl) (hb : bd ≤ 100) (hl : lain + (m + 1) = n) (hcu : cU M n = lain) (hM : M < 64) (hE : ∀ c, c < 8 → E c ≤ 6 * lain) (hlen : len ≤ 6 * lain) (hS : Snd n W H M E len) (hi : i < n) (hu : ¬ usd M i) (ih : LnS d n bd W H Pl m) : ∀ (t x best : Nat) (μ : Mem), x + t = 9 - W i → StC n bd W H Pl lain M len E best μ → ∃ R μ', X0_layEverywhere_at3 (d + 2 * m + 1) (nI i) (nI lain) (nI M) (nI len) (nI x) μ μ' ∧ Kq (sCu lain) μ μ' ∧ StC n bd W H Pl lain M len E R μ' ∧ R ≤ best ∧ ∀ L xx yy, CmpP n W H M E len L xx yy → ChP n W H M yy i → x ≤ xx i → R ≤ bd ∨ R ≤ L
  | 0, x, best, μ, hx, hT => by
    have h4 := hs.1
    have si := hs.2 i hi
    obtain ⟨w1, w2, w3⟩ := hT.1.2.2 i hi
    refine ⟨best, μ, X0_layEverywhere_at3_ok ⟨vp_inN (by omega) (by decide), ?_⟩, Kq.refl, hT, Nat.le_refl _, fun L xx yy c1 c2 c3 => ?_⟩
    · rw [nI_clamp (by omega), w1, nJ_add]
      exact tpos (nI_lt (a := 8) (by omega) (by omega)) rfl
    · have := (c1.2.1.1.1 i hi).1
      omega
  | t + 1, x, best, μ, hx, hT => by
    have h4 := hs.1
    have si := hs.2 i hi
    obtain ⟨w1, w2, w3⟩ := hT.1.2.2 i hi
    have v4 : vp_in (nI i) 4 := vp_inN (by omega) (by decide)
    have ec : (nI i).toNatClampNeg = i := nI_clamp (by omega)
    have hn8 : ¬ (8 : Int32) < nI x + nI (W i) := by rw [nJ_add]; exact nI_nlt (a := 8) (by omega) (by decide)
    have b24 := hT.2.2.2.1
    by_cases q : best ≤ bd
    · refine ⟨best, μ, X0_layEverywhere_at3_ok ⟨v4, ?_⟩, Kq.refl, hT, Nat.le_refl _, fun _ _ _ _ _ _ => Or.inl q⟩
      rw [ec, w1, hT.1.2.1, hT.2.2.1]
      exact tneg hn8 (tpos (nI_le q (by omega)) rfl)
    · have pb := hP.1 i hi
      have bt := bp1 (Pl i) pb x (by omega)
      by_cases z : Pl i / 2 ^ x % 2 = 1
      · obtain ⟨m1, a1, a2, a3⟩ := lay_c (d := d + 2 * m + 1) (x := x) hs hi (show lain < n by omega) (by omega) hT.1 hT.2.1 (fun c hc => by have := hE c hc; omega)
        have k1 : Kq (sCu lain) μ m1 := a2.mono fun a k q => by unfold sCu; omega
        have T1 : StC n bd W H Pl lain M len E best m1 := hT.kq k1 (by rw [a2.at (by omega)]; exact hT.2.2.1) b24 hT.2.2.2.2
        have mb : mxR E x (W i) ≤ 6 * lain := mxR_le _ fun c h1 h2 => hE c (by omega)
        generalize he : mxR E x (W i) + H i = e at a1 a3
        have emx : mx (nI len) (nI e) = nI (max len e) := mx_nI (by omega) (by omega)
        by_cases y : best ≤ max len e
        · obtain ⟨R, μ', g1, g2, g3, g4, g5⟩ := layEv hs hP hb hl hcu hM hE hlen hS hi hu ih t (x + 1) best m1 (by omega) T1
          rw [nI_succ] at g1
          refine ⟨R, μ', X0_layEverywhere_at3_ok ⟨v4, ?_⟩, k1.trans g2, g3, g4, fun L xx yy c1 c2 c3 => ?_⟩
          · rw [ec, w1, hT.1.2.1, hT.2.2.1, w3, bt, z]
            refine tneg hn8 (tneg (nI_ge (by omega) (by omega)) ⟨v4, tneg (by decide) ⟨_, m1, a1, ?_⟩⟩)
            rw [emx, T1.2.2.1]
            exact tpos (nI_le y (by omega)) g1
          · by_cases u : xx i = x
            · have cs := cmp_step hs hM c1 c2
              rw [u, he] at cs
              have := c1.1
              omega
            · exact g5 L xx yy c1 c2 (by omega)
        · obtain ⟨R1, m2, f1, f2, f3, f4, f5⟩ := ih (lain + 1) (M ||| 2 ^ i) (max len e) (layE E x (W i) e) best m1 (by omega) (by rw [cU_or hM hi h4 hu, hcu]) (bt2 M hM i (by omega)).2 (fun c hc => by
            have := hE c hc
            unfold layE
            split <;> omega) (by omega) (by rw [← he]; exact snd_step hs hM hi hu (by omega) hS) ⟨T1.1, a3, T1.2.2.1, b24, T1.2.2.2.2⟩
          have k2 : Kq (sCu lain) m1 m2 := f2.mono fun a k q => by unfold sCu at q ⊢; omega
          have T2 : StC n bd W H Pl lain M len E R1 m2 := T1.kq k2 f3.2.2.1 f3.2.2.2.1 f3.2.2.2.2
          obtain ⟨R, μ', g1, g2, g3, g4, g5⟩ := layEv hs hP hb hl hcu hM hE hlen hS hi hu ih t (x + 1) R1 m2 (by omega) T2
          rw [nI_succ] at g1
          refine ⟨R, μ', X0_layEverywhere_at3_ok ⟨v4, ?_⟩, (k1.trans k2).trans g2, g3, by omega, fun L xx yy c1 c2 c3 => ?_⟩
          · rw [ec, w1, hT.1.2.1, hT.2.2.1, w3, bt, z]
            refine tneg hn8 (tneg (nI_ge (by omega) (by omega)) ⟨v4, tneg (by decide) ⟨_, m1, a1, ?_⟩⟩)
            rw [emx, T1.2.2.1, (bt2 M hM i (by omega)).1, show nI lain + 1 = nI (lain + 1) from nI_1 lain]
            exact tneg (nI_ge (by omega) (by omega)) ⟨m2, f1, g1⟩
          · by_cases u : xx i = x
            · have cs := (cmp_step hs hM c1 c2).2
              rw [u, he] at cs
              rcases f5 L xx yy cs with o | o
              · exact Or.inl (by omega)
              · exact Or.inr (by omega)
            · exact g5 L xx yy c1 c2 (by omega)
      · have z0 := bz z
        obtain ⟨R, μ', g1, g2, g3, g4, g5⟩ := layEv hs hP hb hl hcu hM hE hlen hS hi hu ih t (x + 1) best μ (by omega) hT
        rw [nI_succ] at g1
        refine ⟨R, μ', X0_layEverywhere_at3_ok ⟨v4, ?_⟩, g2, g3, g4, fun L xx yy c1 c2 c3 => ?_⟩
        · rw [ec, w1, hT.1.2.1, hT.2.2.1, w3, bt, z0]
          exact tneg hn8 (tneg (nI_ge (by omega) (by omega)) ⟨v4, tpos rfl g1⟩)
        · have u : xx i ≠ x := fun u => z (by rw [← u]; exact hP.2 L xx yy c1.2.1 i hi)
          exact g5 L xx yy c1 c2 (by omega)
theorem layNx {lain M len m : Nat} {E : Nat → Nat} (hs : SzP n W H) (hP : PlOK n W H Pl) (hb : bd ≤ 100) (hl : lain + (m + 1) = n) (hcu : cU M n = lain) (hM : M < 64) (hE : ∀ c, c < 8 → E c ≤ 6 * lain) (hlen : len ≤ 6 * lain) (hS : Snd n W H M E len) (ih : LnS d n bd W H Pl m) : ∀ (t i best : Nat) (μ : Mem), i + t = n → StC n bd W H Pl lain M len E best μ → ∃ R μ', X0_layNext_at24 (d + 2 * m + 2) (nI lain) (nI M) (nI len) (nI i) μ μ' ∧ Kq (sCu lain) μ μ' ∧ StC n bd W H Pl lain M len E R μ' ∧ R ≤ best ∧ ∀ L xx yy j, CmpP n W H M E len L xx yy → ChP n W H M yy j → i ≤ j → R ≤ bd ∨ R ≤ L
  | 0, i, best, μ, hi, hT => by
    have h4 := hs.1
    have hi : i = n := hi
    refine ⟨best, μ, X0_layNext_at24_ok ?_, Kq.refl, hT, Nat.le_refl _, fun L xx yy j _ c2 c3 => ?_⟩
    · rw [hT.1.1, hi]
      exact tpos (nI_le (Nat.le_refl _) (by omega)) rfl
    · have := c2.1
      omega
  | t + 1, i, best, μ, hi, hT => by
    have h4 := hs.1
    have b24 := hT.2.2.2.1
    have si := hs.2 i (by omega)
    have hn1 : ¬ nI n ≤ nI i := nI_ge (by omega) (by omega)
    by_cases q : best ≤ bd
    · refine ⟨best, μ, X0_layNext_at24_ok ?_, Kq.refl, hT, Nat.le_refl _, fun _ _ _ _ _ _ _ => Or.inl q⟩
      rw [hT.1.1, hT.1.2.1, hT.2.2.1]
      exact tneg hn1 (tpos (nI_le q (by omega)) rfl)
    · have b1 := bt1 M hM i (by omega)
      by_cases z : M / 2 ^ i % 2 = 1
      · obtain ⟨R, μ', g1, g2, g3, g4, g5⟩ := layNx hs hP hb hl hcu hM hE hlen hS ih t (i + 1) best μ (by omega) hT
        rw [nI_succ] at g1
        refine ⟨R, μ', X0_layNext_at24_ok ?_, g2, g3, g4, fun L xx yy j c1 c2 c3 => ?_⟩
        · rw [hT.1.1, hT.1.2.1, hT.2.2.1, b1, z]
          exact tneg hn1 (tneg (nI_ge (by omega) (by omega)) (tne (by decide) g1))
        · have u : j ≠ i := fun u => c2.2.1 (u ▸ z)
          exact g5 L xx yy j c1 c2 (by omega)
      · have z0 := bz z
        obtain ⟨y, t1, t2⟩ := twin_c (d := d + 2 * m + 2) (i := i) hs (by omega) hM hT.1 i 0 (by omega)
        by_cases y0 : y = 0
        · obtain ⟨R1, m1, f1, f2, f3, f4, f5⟩ := layEv (i := i) hs hP hb hl hcu hM hE hlen hS (by omega) z ih (9 - W i) 0 best μ (by omega) hT
          obtain ⟨R, μ', g1, g2, g3, g4, g5⟩ := layNx hs hP hb hl hcu hM hE hlen hS ih t (i + 1) R1 m1 (by omega) f3
          rw [nI_succ] at g1
          refine ⟨R, μ', X0_layNext_at24_ok ?_, f2.trans g2, g3, by omega, fun L xx yy j c1 c2 c3 => ?_⟩
          · rw [hT.1.1, hT.1.2.1, hT.2.2.1, b1, z0]
            exact tneg hn1 (tneg (nI_ge (by omega) (by omega)) (teq rfl ⟨y, μ, X0_hasTwin_ok t1, teq y0 ⟨m1, X0_layEverywhere_ok f1, g1⟩⟩))
          · by_cases u : j = i
            · subst u
              rcases f5 L xx yy c1 c2 (Nat.zero_le _) with o | o
              · exact Or.inl (by omega)
              · exact Or.inr (by omega)
            · exact g5 L xx yy j c1 c2 (by omega)
        · obtain ⟨R, μ', g1, g2, g3, g4, g5⟩ := layNx hs hP hb hl hcu hM hE hlen hS ih t (i + 1) best μ (by omega) hT
          rw [nI_succ] at g1
          refine ⟨R, μ', X0_layNext_at24_ok ?_, g2, g3, g4, fun L xx yy j c1 c2 c3 => ?_⟩
          · rw [hT.1.1, hT.1.2.1, hT.2.2.1, b1, z0]
            exact tneg hn1 (tneg (nI_ge (by omega) (by omega)) (teq rfl ⟨y, μ, X0_hasTwin_ok t1, tne y0 g1⟩))
          · by_cases u : j = i
            · subst u
              exact absurd (t2 fun v _ hv => c2.2.2.2 v hv) y0
            · exact g5 L xx yy j c1 c2 (by omega)
theorem layNext_c (hs : SzP n W H) (hP : PlOK n W H Pl) (hb : bd ≤ 100) : ∀ m, LnS d n bd W H Pl m
  | 0 => by
    intro lain M len E best μ hl hcu hM hE hlen hS hT
    have h4 := hs.1
    have hl : lain = n := hl
    subst hl
    have b24 := hT.2.2.2.1
    have all : ∀ u, u < lain → usd M u := fun u hu => (of_decide_eq_true (cnt_full lain hcu u hu) : M / 2 ^ u % 2 = 1)
    have fl : Fit lain W H len := by
      obtain ⟨x, y, h1, h2⟩ := hS
      exact ⟨x, y, fun i hi => ⟨(h1 i hi (all i hi)).1, (h1 i hi (all i hi)).2.1⟩, fun i j hi hj ne => h2 i j hi hj ne (all i hi) (all j hj)⟩
    have k1 : Kq (sCu lain) μ (sI μ 203 5 (nI (min best len))) := Kq.sI (by unfold sCu; omega)
    refine ⟨min best len, sI μ 203 5 (nI (min best len)), X0_layNext_ok ?_, k1, hT.kq k1 sI_1 (by omega) ?_, by omega, fun L x y c => Or.inr ?_⟩
    · rw [hT.1.1, hT.2.2.1, mn_nI (by omega) (by omega)]
      exact tneg (nI_nlt (Nat.le_refl _) (by omega)) (by rintro μ1 rfl; rfl)
    · rcases Nat.le_total best len with q | q
      · rw [Nat.min_eq_left q]; exact hT.2.2.2.2
      · rw [Nat.min_eq_right q]; exact fl
    · have := c.1
      omega
  | m + 1 => by
    intro lain M len E best μ hl hcu hM hE hlen hS hT
    have h4 := hs.1
    obtain ⟨R, μ', g1, g2, g3, g4, g5⟩ := layNx hs hP hb hl hcu hM hE hlen hS (layNext_c hs hP hb m) n 0 best μ (by omega) hT
    refine ⟨R, μ', X0_layNext_ok ?_, g2, g3, g4, fun L x y c => ?_⟩
    · rw [hT.1.1]
      exact tpos (nI_lt (by omega) (by omega)) g1
    · obtain ⟨u, u1, u2⟩ := cnt_not (f := fun u => decide (M / 2 ^ u % 2 = 1)) n (by
        have : cU M n < n := by omega
        exact this)
      obtain ⟨x', y', j, e1, e2⟩ := choose_ex c u1 (of_decide_eq_false u2 : ¬ M / 2 ^ u % 2 = 1)
      exact g5 L x' y' j e1 e2 (Nat.zero_le _)
end
end Cut
