/-! ===== read: the text is cut up ===== -/
section Rd
variable {d : Nat}
def sgn (k : Nat) : Nat := if k = 59 then 23 else if k = 61 then 24 else if k = 43 then 25 else if k = 45 then 26 else if k = 42 then 27 else if k = 47 then 28 else if k = 60 then 29 else if k = 40 then 30 else if k = 41 then 31 else 33
theorem sgn_ix : ∀ k, k < 128 → (0 ≤ ixOf 1 (((nI k).toUInt32 % 65536).toInt32) ∧ 23 + ixOf 1 (((nI k).toUInt32 % 65536).toInt32) = nI (sgn k)) ∨ (¬ 0 ≤ ixOf 1 (((nI k).toUInt32 % 65536).toInt32) ∧ sgn k = 33) := by decide +kernel
theorem sgn_le (k : Nat) : sgn k ≤ 33 ∧ sgn k ≠ 32 ∧ sgn k ≠ 22 ∧ sgn k ≠ 21 := by
  unfold sgn
  repeat' split
  all_goals decide
theorem sign_m {i k : Nat} {y : Int32} {μ μ' : Mem} (hk : k < 256) (h : X10_token d (nI (mk (sgn k))) (nI i) 0 0 μ μ') : X10_sign (d + 1) (nI i) (nI k) y μ 1 μ' := by
  by_cases q59 : k = 59
  · subst q59
    exact X10_sign_ok (teq rfl (tne (by decide) (X10_sign_at55_ok (tne (by decide) (X10_sign_at65_ok (tne (by decide) (X10_sign_at75_ok (tne (by decide) (X10_sign_at85_ok (tne (by decide) ⟨_, h, rfl, rfl⟩))))))))))
  by_cases q61 : k = 61
  · subst q61
    exact X10_sign_ok (tne (by decide) (teq rfl (tne (by decide) (X10_sign_at55_ok (tne (by decide) (X10_sign_at65_ok (tne (by decide) (X10_sign_at75_ok (tne (by decide) (X10_sign_at85_ok (tne (by decide) ⟨_, h, rfl, rfl⟩)))))))))))
  by_cases q40 : k = 40
  · subst q40
    exact X10_sign_ok (tne (by decide) (tne (by decide) (teq rfl (tne (by decide) (X10_sign_at55_ok (tne (by decide) (X10_sign_at65_ok (tne (by decide) (X10_sign_at75_ok (tne (by decide) (X10_sign_at85_ok (tne (by decide) ⟨_, h, rfl, rfl⟩))))))))))))
  by_cases q41 : k = 41
  · subst q41
    exact X10_sign_ok (tne (by decide) (tne (by decide) (tne (by decide) (teq rfl (tne (by decide) (X10_sign_at55_ok (tne (by decide) (X10_sign_at65_ok (tne (by decide) (X10_sign_at75_ok (tne (by decide) (X10_sign_at85_ok (tne (by decide) ⟨_, h, rfl, rfl⟩)))))))))))))
  by_cases q43 : k = 43
  · subst q43
    exact X10_sign_ok (tne (by decide) (tne (by decide) (tne (by decide) (tne (by decide) (teq rfl (X10_sign_at55_ok (tne (by decide) (X10_sign_at65_ok (tne (by decide) (X10_sign_at75_ok (tne (by decide) (X10_sign_at85_ok (tne (by decide) ⟨_, h, rfl, rfl⟩)))))))))))))
  by_cases q45 : k = 45
  · subst q45
    exact X10_sign_ok (tne (by decide) (tne (by decide) (tne (by decide) (tne (by decide) (tne (by decide) (X10_sign_at55_ok (teq rfl (X10_sign_at65_ok (tne (by decide) (X10_sign_at75_ok (tne (by decide) (X10_sign_at85_ok (tne (by decide) ⟨_, h, rfl, rfl⟩)))))))))))))
  by_cases q42 : k = 42
  · subst q42
    exact X10_sign_ok (tne (by decide) (tne (by decide) (tne (by decide) (tne (by decide) (tne (by decide) (X10_sign_at55_ok (tne (by decide) (X10_sign_at65_ok (teq rfl (X10_sign_at75_ok (tne (by decide) (X10_sign_at85_ok (tne (by decide) ⟨_, h, rfl, rfl⟩)))))))))))))
  by_cases q47 : k = 47
  · subst q47
    exact X10_sign_ok (tne (by decide) (tne (by decide) (tne (by decide) (tne (by decide) (tne (by decide) (X10_sign_at55_ok (tne (by decide) (X10_sign_at65_ok (tne (by decide) (X10_sign_at75_ok (teq rfl (X10_sign_at85_ok (tne (by decide) ⟨_, h, rfl, rfl⟩)))))))))))))
  by_cases q60 : k = 60
  · subst q60
    exact X10_sign_ok (tne (by decide) (tne (by decide) (tne (by decide) (tne (by decide) (tne (by decide) (X10_sign_at55_ok (tne (by decide) (X10_sign_at65_ok (tne (by decide) (X10_sign_at75_ok (tne (by decide) (X10_sign_at85_ok (teq rfl ⟨_, h, rfl, rfl⟩)))))))))))))
  have e : sgn k = 33 := by
    unfold sgn
    rw [if_neg q59, if_neg q61, if_neg q43, if_neg q45, if_neg q42, if_neg q47, if_neg q60, if_neg q40, if_neg q41]
  rw [e] at h
  have hn : ∀ v, v < 1000 → k ≠ v → nI k ≠ nI v := fun v hv z e => z (nI_inj (by omega) (by omega) e)
  exact X10_sign_ok (tne (hn 59 (by decide) (by omega)) (tne (hn 61 (by decide) (by omega)) (tne (hn 40 (by decide) (by omega)) (tne (hn 41 (by decide) (by omega)) (tne (hn 43 (by decide) (by omega)) (X10_sign_at55_ok (tne (hn 45 (by decide) (by omega)) (X10_sign_at65_ok (tne (hn 42 (by decide) (by omega)) (X10_sign_at75_ok (tne (hn 47 (by decide) (by omega)) (X10_sign_at85_ok (tne (hn 60 (by decide) (by omega)) ⟨_, h, rfl, rfl⟩)))))))))))))
section
variable {S : Nat} {By : Nat → Int32}
theorem tl60 {i e : Nat} {cs : List Nat} {μ μ1 : Mem} (hw : ∀ k, k < 21 → μ.2.1 4 k = lI (nm 32 (wdL.getD k []))) (hd : dgs 32 cs) (hn : cs.length ≤ 8) (hp : X6_put d (nI (wkF cs 21 0)) (nI i) (lI (nm 32 cs)) μ μ1) : ∀ (m k : Nat), k + m = 21 → wkF cs m k = wkF cs 21 0 → X6_takeLetters_at60 d (nI i) (lI (nm 32 cs)) (nI e) 21 (nI k) μ (nI e) μ1
  | 0, k, hk, ew => by
    have hk : k = 21 := hk
    subst hk
    rw [← ew] at hp
    exact X6_takeLetters_at60_ok (tpos (nI_le (a := 21) (b := 21) (by decide) (by decide)) ⟨μ1, hp, rfl, rfl⟩)
  | m + 1, k, hk, ew => by
    refine X6_takeLetters_at60_ok (tneg (nI_ge (b := 21) (by omega) (by decide)) (teq rfl ⟨vp_inN (by omega) (by decide), ?_⟩))
    rw [nI_clamp (by omega), hw k (by omega)]
    by_cases q : wdL.getD k [] = cs
    · rw [wkF, if_pos q] at ew
      rw [← ew] at hp
      refine teq (lgc.mpr (by rw [q])) (X6_takeLetters_at60_ok ?_)
      rw [nI_1]
      by_cases z : k + 1 = 21
      · rw [z]
        exact tpos (nI_le (a := 21) (b := 21) (by decide) (by decide)) ⟨μ1, hp, rfl, rfl⟩
      · exact tneg (nI_ge (b := 21) (by omega) (by decide)) (tne (fun y => by have := nI_inj (b := 21) (by omega) (by decide) y; omega) ⟨μ1, hp, rfl, rfl⟩)
    · rw [wkF, if_neg q] at ew
      have ih := tl60 (e := e) hw hd hn hp m (k + 1) (by omega) ew
      rw [nI_succ] at ih
      refine tne (fun z => q ?_) ih
      have := lI_inj (nm63 (by decide) (by decide) (by have := (wd_ok k (by omega)).1; omega) (wd_dgs (by omega) (by decide))) (nm63 (by decide) (by decide) hn hd) (lgc.mp z)
      exact nm_inj (by decide) _ _ _ rfl (wd_dgs (by omega) (by decide)) hd this
theorem tl6 {i n : Nat} {X : Int32} {μ μ' : Mem} (hO : ByOK S By) (hT : TxC S By μ) (hr : ∀ j, j < n → isL By (i + j)) (hle : i + n ≤ S) (he : i + n = S ∨ ¬ isL By (i + n)) (hc : X6_takeLetters_at60 d (nI i) (lI (nm 32 (lts By i n))) (nI (i + n)) (nI (if n ≤ 8 then 21 else 33)) 0 μ X μ') : ∀ (m k : Nat), k + m = n → X6_takeLetters_at6 d (nI i) (nI S) (lI (nm 32 (lts By i k))) (nI (i + k)) μ X μ'
  | 0, k, hk => by
    have h2 := hO.1
    have hk : k = n := hk
    subst hk
    have en : nI (i + k) - nI i = nI k := by rw [nI_sub (by omega), show i + k - i = k by omega]
    have tail : (((nI (i + k) - nI i) ≤ 8 → X6_takeLetters_at60 d (nI i) (lI (nm 32 (lts By i k))) (nI (i + k)) 21 0 μ X μ') ∧ (¬ (nI (i + k) - nI i) ≤ 8 → X6_takeLetters_at60 d (nI i) (lI (nm 32 (lts By i k))) (nI (i + k)) 33 0 μ X μ')) := by
      rw [en]
      by_cases q : k ≤ 8
      · rw [if_pos q] at hc
        exact tpos (nI_le (b := 8) q (by decide)) hc
      · rw [if_neg q] at hc
        exact tneg (nI_ge (a := 8) (by omega) (by omega)) hc
    by_cases q : i + k = S
    · exact X6_takeLetters_at6_ok (tpos (by rw [q]; exact nI_le (Nat.le_refl _) (by omega)) tail)
    · have q2 : ¬ isL By (i + k) := he.elim (fun z => absurd z q) id
      obtain ⟨y, y1, y2⟩ := letter_c (d := d) (μ := μ) (hO.2 (i + k) (by omega))
      have y0 : y = 0 := Classical.byContradiction fun z => q2 (y2.mp z)
      refine X6_takeLetters_at6_ok (tneg (nI_ge (by omega) (by omega)) ⟨vp_inN (by omega) (by decide), ?_⟩)
      rw [nI_clamp (by omega), hT (i + k) (by omega)]
      exact ⟨y, μ, y1, tpos y0 tail⟩
  | m + 1, k, hk => by
    have h2 := hO.1
    have ih := tl6 hO hT hr hle he hc m (k + 1) (by omega)
    have lk := hr k (by omega)
    obtain ⟨y, y1, y2⟩ := letter_c (d := d) (μ := μ) (hO.2 (i + k) (by omega))
    refine X6_takeLetters_at6_ok (tneg (nI_ge (by omega) (by omega)) ⟨vp_inN (by omega) (by decide), ?_⟩)
    rw [nI_clamp (by omega), hT (i + k) (by omega)]
    refine ⟨y, μ, y1, tneg (y2.mpr lk) ⟨vp_inN (by omega) (by decide), _, μ, X6_nameWith_ok ⟨rfl, rfl⟩, ?_⟩⟩
    rw [hT (i + k) (by omega), lk.1]
    obtain ⟨_, l2, l3⟩ := lk
    rw [show (97 : Int32) = nI 97 from rfl, nI_sub l2, nI_1, lI_n (by omega), show (32 : Int64) = lI 32 from rfl, lI_mul, lI_add, nI_1, show bn By (i + k) - 97 + 1 = bn By (i + k) - 96 by omega]
    rw [show lts By i (k + 1) = lts By i k ++ [bn By (i + k) - 96] from rfl, nm_snoc, show i + (k + 1) = i + k + 1 by omega] at ih
    exact ih
theorem ml146 {i n kd : Nat} {cs : List Nat} {μ μ1 μ' : Mem} (hw : ∀ k, k < 21 → μ.2.1 7 k = lI (nm 27 (wdL.getD k []))) (hd : dgs 27 cs) (hn : cs.length ≤ 8) (hp : X10_token d (nI kd) (nI i) 0 (lI (nm 27 cs)) μ μ1) (hc : X10_cutsUp_at7 d (nI i + nI n) μ1 μ') : ∀ (m k x : Nat), k + m = 21 → (x = 1 ∧ mk (wkF cs m k) = kd ∨ x = kd ∧ ∃ k0, k0 < k ∧ wdL.getD k0 [] = cs) → X10_cutsUp_at146 d (nI i) (nI n) (lI (nm 27 cs)) (nI x) (nI k) μ μ'
  | 0, k, x, hk, hx => by
    have hk : k = 21 := hk
    subst hk
    have e : x = kd := hx.elim (fun z => z.1.trans (by rw [← z.2]; rfl)) (fun z => z.1)
    subst e
    exact X10_cutsUp_at146_ok (tpos (nI_le (a := 21) (b := 21) (by decide) (by decide)) ⟨μ1, hp, hc⟩)
  | m + 1, k, x, hk, hx => by
    refine X10_cutsUp_at146_ok (tneg (nI_ge (b := 21) (by omega) (by decide)) ⟨vp_inN (by omega) (by decide), ?_⟩)
    rw [nI_clamp (by omega), hw k (by omega)]
    by_cases q : wdL.getD k [] = cs
    · have e : 20 + k = kd := by
        rcases hx with ⟨_, z⟩ | ⟨_, k0, z1, z2⟩
        · rw [wkF, if_pos q] at z
          rw [← z]
          unfold mk
          rw [if_pos (by omega)]
        · have := wd_ne k0 (by omega) k (by omega) (z2.trans q.symm)
          omega
      have ih := ml146 hw hd hn hp hc m (k + 1) (20 + k) (by omega) (Or.inr ⟨e, k, by omega, q⟩)
      rw [nI_succ] at ih
      refine teq (lgc.mpr (by rw [q])) ?_
      rw [show (20 : Int32) = nI 20 from rfl, nJ_add]
      exact ih
    · have ih := ml146 hw hd hn hp hc m (k + 1) x (by omega) (by
        rcases hx with ⟨z1, z2⟩ | ⟨z1, k0, z2, z3⟩
        · rw [wkF, if_neg q] at z2
          exact Or.inl ⟨z1, z2⟩
        · exact Or.inr ⟨z1, k0, by omega, z3⟩)
      rw [nI_succ] at ih
      refine tne (fun z => q ?_) ih
      have := lI_inj (nm63 (by decide) (by decide) (by have := (wd_ok k (by omega)).1; omega) (wd_dgs (by omega) (by decide))) (nm63 (by decide) (by decide) hn hd) (lgc.mp z)
      exact nm_inj (by decide) _ _ _ rfl (wd_dgs (by omega) (by decide)) hd this
theorem ml85 {i n : Nat} {μ μ1 μ' : Mem} (hO : ByOK S By) (hT : TxM S By μ) (hw : ∀ k, k < 21 → μ.2.1 7 k = lI (nm 27 (wdL.getD k []))) (hr : ∀ j, j < n → isL By (i + j)) (hle : i + n ≤ S) (he : i + n = S ∨ ¬ isL By (i + n)) (hp : X10_token d (nI (mk (if n ≤ 8 then wkF (lts By i n) 21 0 else 33))) (nI i) 0 (lI (nm 27 (lts By i (min n 8)))) μ μ1) (hc : X10_cutsUp_at7 d (nI (i + n)) μ1 μ') : ∀ (m k : Nat), k + m = n → X10_cutsUp_at85 d (nI i) (nI k) (lI (nm 27 (lts By i (min k 8)))) μ μ'
  | 0, k, hk => by
    have h2 := hO.1
    have hk : k = n := hk
    subst hk
    obtain ⟨b1, b2⟩ := byteAt_m (d := d) (k := i + k) hT hO (by omega)
    obtain ⟨y, y1, y2⟩ := letter_m (d := d) (μ := μ) b2
    have y0 : y = 0 := Classical.byContradiction fun z => by
      have := (isL_bu hO).mpr (y2.mp z)
      rcases he with q | q
      · omega
      · exact q this.2
    have hd : dgs 27 (lts By i (min k 8)) := lts_dg (by decide) _ fun j hj => hr j (by omega)
    refine X10_cutsUp_at85_ok ?_
    rw [nJ_add]
    refine ⟨_, μ, b1, y, μ, y1, tpos y0 ?_⟩
    by_cases q : k ≤ 8
    · rw [if_pos q] at hp
      refine tpos (nI_le (b := 8) q (by decide)) ?_
      by_cases q7 : 7 < k
      · rw [wkF_long (by rw [lts_len]; omega) 21 0 (by decide)] at hp
        exact tpos (nI_lt (a := 7) q7 (by omega)) ⟨μ1, hp, hc⟩
      · rw [show min k 8 = k by omega] at hp hd ⊢
        refine tneg (nI_nlt (a := 7) (by omega) (by decide)) (ml146 hw hd (by rw [lts_len]; omega) hp ?_ 21 0 1 (by decide) (Or.inl ⟨rfl, rfl⟩))
        rw [nJ_add]
        exact hc
    · rw [if_neg q] at hp
      exact tneg (nI_ge (a := 8) (by omega) (by omega)) (tpos (nI_lt (a := 7) (by omega) (by omega)) ⟨μ1, hp, hc⟩)
  | m + 1, k, hk => by
    have h2 := hO.1
    have ih := ml85 hO hT hw hr hle he hp hc m (k + 1) (by omega)
    have lk := hr k (by omega)
    obtain ⟨b1, b2⟩ := byteAt_m (d := d) (k := i + k) hT hO (by omega)
    obtain ⟨y, y1, y2⟩ := letter_m (d := d) (μ := μ) b2
    have lb := (isL_bu hO).mp ⟨show i + k < S by omega, lk⟩
    rw [nI_succ] at ih
    refine X10_cutsUp_at85_ok ?_
    rw [nJ_add]
    refine ⟨_, μ, b1, y, μ, y1, tneg (y2.mpr lb) ?_⟩
    by_cases q : 8 ≤ k
    · rw [show min (k + 1) 8 = min k 8 by omega] at ih
      exact tpos (nI_le (a := 8) q (by omega)) ih
    · refine tneg (nI_ge (b := 8) (by omega) (by decide)) ⟨_, μ, b1, _, μ, X10_appends_ok (tne (nI_ne0 (by omega) (by omega)) ⟨rfl, rfl⟩), ?_⟩
      have eb : bu S By (i + k) = bn By (i + k) := by
        rcases (bu_at (show i + k < S by omega) (hO.2 (i + k) (by omega))).2.2 with ⟨_, e, _⟩ | ⟨c, _⟩
        · exact e
        · rw [lk.1] at c
          exact absurd c (nI_pos (by have := lk.2.2; omega))
      rw [eb, show (97 : Int32) = nI 97 from rfl, nI_sub lk.2.1, nI_1 (bn By (i + k) - 97), lI_n (by have := lk.2.2; omega), show (27 : Int64) = lI 27 from rfl, lI_mul, lI_add, show bn By (i + k) - 97 + 1 = bn By (i + k) - 96 by have := lk.2.1; omega]
      rw [show min (k + 1) 8 = k + 1 by omega, show lts By i (k + 1) = lts By i k ++ [bn By (i + k) - 96] from rfl, nm_snoc, Nat.mul_comm (nm 27 (lts By i k)) 27] at ih
      rw [show min k 8 = k by omega]
      exact ih
/-! digits -/
theorem td6 {i n : Nat} {μ μ1 : Mem} (hO : ByOK S By) (hT : TxC S By μ) (hr : ∀ j, j < n → isD By (i + j)) (hle : i + n ≤ S) (he : i + n = S ∨ ¬ isD By (i + n)) (hp : X6_put d (nI (if n ≤ 4 then 22 else 33)) (nI i) (nI (dv By i n)).toInt64 μ μ1) : ∀ (m k : Nat), k + m = n → X6_takeDigits_at6 d (nI i) (nI S) (nI (dv By i k)) (nI (i + k)) μ (nI (i + n)) μ1
  | 0, k, hk => by
    have h2 := hO.1
    have hk : k = n := hk
    subst hk
    have en : nI (i + k) - nI i = nI k := by rw [nI_sub (by omega), show i + k - i = k by omega]
    have tail : (((nI (i + k) - nI i) ≤ 4 → (∃ (μ3 : Mem), X6_put d 22 (nI i) (nI (dv By i k)).toInt64 μ μ3 ∧ (nI (i + k) = nI (i + k) ∧ μ1 = μ3))) ∧ (¬ (nI (i + k) - nI i) ≤ 4 → (∃ (μ3 : Mem), X6_put d 33 (nI i) (nI (dv By i k)).toInt64 μ μ3 ∧ (nI (i + k) = nI (i + k) ∧ μ1 = μ3)))) := by
      rw [en]
      by_cases q : k ≤ 4
      · rw [if_pos q] at hp
        exact tpos (nI_le (b := 4) q (by decide)) ⟨μ1, hp, rfl, rfl⟩
      · rw [if_neg q] at hp
        exact tneg (nI_ge (a := 4) (by omega) (by omega)) ⟨μ1, hp, rfl, rfl⟩
    by_cases q : i + k = S
    · exact X6_takeDigits_at6_ok (tpos (by rw [q]; exact nI_le (Nat.le_refl _) (by omega)) tail)
    · have q2 : ¬ isD By (i + k) := he.elim (fun z => absurd z q) id
      obtain ⟨y, y1, y2⟩ := digit_c (d := d) (μ := μ) (hO.2 (i + k) (by omega))
      have y0 : y = 0 := Classical.byContradiction fun z => q2 (y2.mp z)
      refine X6_takeDigits_at6_ok (tneg (nI_ge (by omega) (by omega)) ⟨vp_inN (by omega) (by decide), ?_⟩)
      rw [nI_clamp (by omega), hT (i + k) (by omega)]
      exact ⟨y, μ, y1, tpos y0 tail⟩
  | m + 1, k, hk => by
    have h2 := hO.1
    have ih := td6 hO hT hr hle he hp m (k + 1) (by omega)
    have lk := hr k (by omega)
    obtain ⟨y, y1, y2⟩ := digit_c (d := d) (μ := μ) (hO.2 (i + k) (by omega))
    refine X6_takeDigits_at6_ok (tneg (nI_ge (by omega) (by omega)) ⟨vp_inN (by omega) (by decide), ?_⟩)
    rw [nI_clamp (by omega), hT (i + k) (by omega)]
    refine ⟨y, μ, y1, tneg (y2.mpr lk) ⟨vp_inN (by omega) (by decide), ?_⟩⟩
    rw [hT (i + k) (by omega), lk.1]
    obtain ⟨_, l2, l3⟩ := lk
    rw [show (48 : Int32) = nI 48 from rfl, nI_sub l2, show (10 : Int32) = nI 10 from rfl, nI_mul, nJ_add, nI_1]
    rw [show dv By i (k + 1) = dv By i k * 10 + (bn By (i + k) - 48) from rfl, show i + (k + 1) = i + k + 1 by omega] at ih
    exact ih
theorem md208 {i n : Nat} {μ μ1 μ' : Mem} (hO : ByOK S By) (hT : TxM S By μ) (hr : ∀ j, j < n → isD By (i + j)) (hle : i + n ≤ S) (he : i + n = S ∨ ¬ isD By (i + n)) (hp : X10_token d (nI (mk (if n ≤ 4 then 22 else 33))) (nI i) (nI (dv By i (min n 4))) 0 μ μ1) (hc : X10_cutsUp_at7 d (nI (i + n)) μ1 μ') : ∀ (m k : Nat), k + m = n → X10_cutsUp_at208 d (nI i) (nI k) (nI (dv By i (min k 4))) μ μ'
  | 0, k, hk => by
    have h2 := hO.1
    have hk : k = n := hk
    subst hk
    obtain ⟨b1, b2⟩ := byteAt_m (d := d) (k := i + k) hT hO (by omega)
    obtain ⟨y, y1, y2⟩ := digit_m (d := d) (μ := μ) b2
    have y0 : y = 0 := Classical.byContradiction fun z => by
      have := (isD_bu hO).mpr (y2.mp z)
      rcases he with q | q
      · omega
      · exact q this.2
    refine X10_cutsUp_at208_ok ?_
    rw [nJ_add]
    refine ⟨_, μ, b1, y, μ, y1, tpos y0 ?_⟩
    by_cases q : k ≤ 4
    · rw [if_pos q] at hp
      exact tpos (nI_le (b := 4) q (by decide)) ⟨μ1, hp, hc⟩
    · rw [if_neg q] at hp
      exact tneg (nI_ge (a := 4) (by omega) (by omega)) ⟨μ1, hp, hc⟩
  | m + 1, k, hk => by
    have h2 := hO.1
    have ih := md208 hO hT hr hle he hp hc m (k + 1) (by omega)
    have lk := hr k (by omega)
    obtain ⟨b1, b2⟩ := byteAt_m (d := d) (k := i + k) hT hO (by omega)
    obtain ⟨y, y1, y2⟩ := digit_m (d := d) (μ := μ) b2
    have lb := (isD_bu hO).mp ⟨show i + k < S by omega, lk⟩
    rw [nI_succ] at ih
    refine X10_cutsUp_at208_ok ?_
    rw [nJ_add]
    refine ⟨_, μ, b1, y, μ, y1, tneg (y2.mpr lb) ?_⟩
    by_cases q : 4 ≤ k
    · rw [show min (k + 1) 4 = min k 4 by omega] at ih
      exact tpos (nI_le (a := 4) q (by omega)) ih
    · refine tneg (nI_ge (b := 4) (by omega) (by decide)) ⟨_, μ, b1, ?_⟩
      have eb : bu S By (i + k) = bn By (i + k) := by
        rcases (bu_at (show i + k < S by omega) (hO.2 (i + k) (by omega))).2.2 with ⟨_, e, _⟩ | ⟨c, _⟩
        · exact e
        · rw [lk.1] at c
          exact absurd c (nI_pos (by have := lk.2.2; omega))
      have l2 := lk.2.1
      rw [eb, show (10 : Int32) = nI 10 from rfl, show (48 : Int32) = nI 48 from rfl, nI_mul, nJ_add, nI_sub (by omega)]
      rw [show min (k + 1) 4 = k + 1 by omega, show dv By i (k + 1) = dv By i k * 10 + (bn By (i + k) - 48) from rfl] at ih
      rw [show min k 4 = k by omega, show 10 * dv By i k + bn By (i + k) - 48 = dv By i k * 10 + (bn By (i + k) - 48) by omega]
      exact ih
/-! the whole text -/
def TkF (S M : Nat) (T : Nat → Tk) (μC μM : Mem) : Prop := 1 ≤ M ∧ M ≤ 401 ∧ TkR M T μC μM ∧ (∀ j k, j < k → k < M → (T j).2.1 < (T k).2.1) ∧ (∀ j, j < M → (T j).1 = 32 → j + 1 = M ∧ (T j).2.1 = S) ∧ (M = 401 ∨ (T (M - 1)).1 = 32)
theorem tk_end {M : Nat} {T : Nat → Tk} {μC μM : Mem} (hS : S ≤ 2000) (h : TkS M S T μC μM) (hM : M ≤ 400) : TkF S (M + 1) (tkUp T M (32, S, 0, [])) (putC' M 32 S 0 μC) (putM' M 32 S 0 0 μM) := by
  have h' : TkS M S T μC μM := h
  obtain ⟨h1, h2, h3, h4, h5, h6⟩ := h
  refine ⟨by omega, by omega, fun j hj => ?_, fun j k hjk hk => ?_, fun j hj e => ?_, Or.inr ?_⟩
  · by_cases e : j = M
    · subst e
      rw [tkUp_s]
      refine ⟨show (32 : Nat) ≤ 33 by decide, hS, ?_, ?_, ?_, ?_, fun z => absurd (show (32 : Nat) = 22 from z) (by decide), fun z => absurd (show (32 : Nat) = 21 from z) (by decide)⟩
      · unfold putC'
        rw [sI_n (by decide), sJ_i, sI_n (by decide), sI_1]
      · unfold putM'
        rw [sI_n (by decide), sJ_i, sI_n (by decide), sI_n (by decide), sI_1]
      · unfold putC'
        rw [sI_n (by decide), sJ_i, sI_1]
      · unfold putM'
        rw [sI_n (by decide), sJ_i, sI_n (by decide), sI_1]
    · rw [tkUp_n e]
      obtain ⟨t1, t2, t3, t4, t5, t6, t7, t8⟩ := h4 j (by omega)
      refine ⟨t1, t2, ?_, ?_, ?_, ?_, fun z => ⟨(t7 z).1, ?_, ?_⟩, fun z => ?_⟩
      · unfold putC'
        rw [sI_n (by decide), sJ_i, sI_n (by decide), sI_k e]; exact t3
      · unfold putM'
        rw [sI_n (by decide), sJ_i, sI_n (by decide), sI_n (by decide), sI_k e]; exact t4
      · unfold putC'
        rw [sI_n (by decide), sJ_i, sI_k e, sI_n (by decide)]; exact t5
      · unfold putM'
        rw [sI_n (by decide), sJ_i, sI_n (by decide), sI_k e, sI_n (by decide)]; exact t6
      · unfold putC'
        rw [sI_2, sJ_k e, sI_2, sI_2]; exact (t7 z).2.1
      · unfold putM'
        rw [sI_n (by decide), sJ_i, sI_k e, sI_n (by decide), sI_n (by decide)]; exact (t7 z).2.2
      · obtain ⟨c1, c2, c3, c4, c5⟩ := t8 z
        refine ⟨c1, c2, c3, ?_, ?_⟩
        · unfold putC'
          rw [sI_2, sJ_k e, sI_2, sI_2]; exact c4
        · unfold putM'
          rw [sI_2, sJ_k e, sI_2, sI_2, sI_2]; exact c5
  · by_cases e : k = M
    · rw [tkUp_n (show j ≠ M by omega), e, tkUp_s]
      exact (h5 j (by omega)).2
    · rw [tkUp_n (show j ≠ M by omega), tkUp_n e]
      exact h6 j k hjk (by omega)
  · by_cases z : j = M
    · rw [z, tkUp_s]
      exact ⟨by omega, rfl⟩
    · rw [tkUp_n z] at e
      exact absurd e (h5 j (by omega)).1
  · rw [show M + 1 - 1 = M by omega, tkUp_s]
def InC (S : Nat) (By : Nat → Int32) (μ : Mem) : Prop := TxC S By μ ∧ ∀ k, k < 21 → μ.2.1 4 k = lI (nm 32 (wdL.getD k []))
def InM (S : Nat) (By : Nat → Int32) (μ : Mem) : Prop := TxM S By μ ∧ ∀ k, k < 21 → μ.2.1 7 k = lI (nm 27 (wdL.getD k []))
theorem InC.kz {μ μ' : Mem} (h : InC S By μ) (k : Kz tkC (fun a => a = 7) μ μ') : InC S By μ' := ⟨fun j hj => by rw [k.at (by unfold tkC; omega)]; exact h.1 j hj, fun j hj => by rw [k.lg (by decide)]; exact h.2 j hj⟩
theorem InM.kz {μ μ' : Mem} (h : InM S By μ) (k : Kz tkM (fun a => a = 6) μ μ') : InM S By μ' := ⟨⟨by rw [k.at (by unfold tkM; omega)]; exact h.1.1, fun j hj => by rw [k.at (by unfold tkM; omega)]; exact h.1.2 j hj⟩, fun j hj => by rw [k.lg (by decide)]; exact h.2 j hj⟩
theorem scan_both (hO : ByOK S By) : ∀ (m i st M : Nat) (T : Nat → Tk) (μC μM : Mem), i + m = S → st ≤ i → TkS M i T μC μM → InC S By μC → InM S By μM → ∃ M' T' mC mM, X6_scan_at18 (d + 4) (nI S) (nI i) (nI st) μC mC ∧ X10_cutsUp_at7 (d + 5) (nI i) μM mM ∧ TkF S M' T' mC mM ∧ Kz tkC (fun a => a = 7) μC mC ∧ Kz tkM (fun a => a = 6) μM mM := by
  have h2 := hO.1
  intro m
  induction m using Nat.strongRecOn with
  | ind m ih =>
    intro i st M T μC μM hi hst hT hC hM
    obtain ⟨h1, hm1, hm2, h4, h5, h6⟩ := id hT
    by_cases q4 : M = 401
    · subst q4
      have put0 : X6_put (d + 4) 32 (nI S) 0 μC μC := X6_put_ok (by rw [hm1]; exact tpos (by decide) rfl)
      have F : TkF S 401 T μC μM := ⟨by decide, by decide, h4, h6, fun j hj e => absurd e (h5 j hj).1, Or.inl rfl⟩
      refine ⟨401, T, μC, μM, X6_scan_at18_ok ?_, X10_cutsUp_at7_ok (by rw [hm2]; exact tpos (by decide) rfl), F, Kz.refl, Kz.refl⟩
      by_cases z : S ≤ st
      · exact tpos (nI_le z (by omega)) ⟨μC, put0, rfl⟩
      · refine tneg (nI_ge (by omega) (by omega)) ?_
        by_cases y : S ≤ i
        · exact tpos (nI_le y (by omega)) ⟨μC, put0, rfl⟩
        · refine tneg (nI_ge (by omega) (by omega)) ?_
          rw [hm1]
          exact tpos (by decide) ⟨μC, put0, rfl⟩
    · have hM4 : M ≤ 400 := by omega
      have hn4 : ¬ (400 : Int32) < μM.1 0 10 := by rw [hm2]; exact nI_nlt (a := 400) hM4 (by decide)
      have hn4c : ¬ (400 : Int32) < μC.1 3 4 := by rw [hm1]; exact nI_nlt (a := 400) hM4 (by decide)
      obtain ⟨b1, b2⟩ := byteAt_m (d := d + 5) (k := i) hM.1 hO (by omega)
      by_cases qi : i = S
      · subst qi
        have pc := put_cc (d := d + 4) (kd := 32) (pl := i) (v := 0) hM4 hm1
        have pm := token_mm (d := d + 5) (kd := 32) (pl := i) (vl := 0) (v := 0) hM4 hm2
        refine ⟨M + 1, _, _, _, X6_scan_at18_ok ?_, X10_cutsUp_at7_ok (tneg hn4 ⟨_, μM, b1, ?_⟩), tk_end h2 hT hM4, putC_k, putM_k⟩
        · by_cases z : i ≤ st
          · exact tpos (nI_le z (by omega)) ⟨_, pc, rfl⟩
          · exact tneg (nI_ge (by omega) (by omega)) (tpos (nI_le (Nat.le_refl _) (by omega)) ⟨_, pc, rfl⟩)
        · rw [hM.1.1]
          exact tneg (nI_nlt (Nat.le_refl _) (by omega)) ⟨_, pm, rfl⟩
      · have hiS : i < S := by omega
        have hb := hO.2 i hiS
        have wrapC : ∀ mC, (∃ (y9 : Int32) (μ7 : Mem), X6_isBlank (d + 4) (By i) μC y9 μ7 ∧ ((y9 = 0 → (∃ (y12 : Int32) (μ10 : Mem), X6_isLetter (d + 4) (By i) μ7 y12 μ10 ∧ ((y12 = 0 → (∃ (y15 : Int32) (μ13 : Mem), X6_isDigit (d + 4) (By i) μ10 y15 μ13 ∧ ((y15 = 0 → (∃ (y18 : Int32) (μ16 : Mem), X6_takeSign (d + 4) (By i) (nI i) μ13 y18 μ16 ∧ X6_scan_at18 (d + 4) (nI S) y18 (nI st + 1) μ16 mC)) ∧ (¬ y15 = 0 → (∃ (y21 : Int32) (μ19 : Mem), X6_takeDigits (d + 4) (nI i) (nI S) μ13 y21 μ19 ∧ X6_scan_at18 (d + 4) (nI S) y21 (nI st + 1) μ19 mC))))) ∧ (¬ y12 = 0 → (∃ (y24 : Int32) (μ22 : Mem), X6_takeLetters (d + 4) (nI i) (nI S) μ10 y24 μ22 ∧ X6_scan_at18 (d + 4) (nI S) y24 (nI st + 1) μ22 mC))))) ∧ (¬ y9 = 0 → X6_scan_at18 (d + 4) (nI S) (nI i + 1) (nI st + 1) μ7 mC))) → X6_scan_at18 (d + 4) (nI S) (nI i) (nI st) μC mC := fun mC z => by
          refine X6_scan_at18_ok (tneg (nI_ge (by omega) (by omega)) (tneg (nI_ge (by omega) (by omega)) (tneg hn4c ⟨vp_inN (by omega) (by decide), ?_⟩)))
          rw [nI_clamp (by omega), hC.1 i hiS]
          exact z
        have hlt : nI i < μM.1 0 4 := by rw [hM.1.1]; exact nI_lt hiS (by omega)
        obtain ⟨yl, l1, l2⟩ := letter_c (d := d + 4) (μ := μC) hb
        obtain ⟨yd, d1, d2⟩ := digit_c (d := d + 4) (μ := μC) hb
        obtain ⟨ym, n1, n2⟩ := letter_m (d := d + 5) (μ := μM) b2
        obtain ⟨yn, o1, o2⟩ := digit_m (d := d + 5) (μ := μM) b2
        have hx : ∀ v, v < 1000 → bu S By i ≠ v → nI (bu S By i) ≠ nI v := fun v hv z e => z (nI_inj (by omega) (by omega) e)
        rcases Classical.em (By i = nI (bu S By i) ∧ (bu S By i = 9 ∨ bu S By i = 10 ∨ bu S By i = 13 ∨ bu S By i = 32)) with qb | qb
        · obtain ⟨M', T', mC, mM, g1, g2, g3⟩ := ih (m - 1) (by omega) (i + 1) (st + 1) M T μC μM (by omega) (by omega) ⟨h1, hm1, hm2, h4, fun j hj => ⟨(h5 j hj).1, by have := (h5 j hj).2; omega⟩, h6⟩ hC hM
          rw [nI_succ, nI_succ] at g1
          rw [nI_succ] at g2
          refine ⟨M', T', mC, mM, wrapC _ ⟨1, μC, X6_isBlank_ok ?_, tneg (by decide) g1⟩, X10_cutsUp_at7_ok (tneg hn4 ⟨_, μM, b1, tpos hlt ?_⟩), g3⟩
          · rw [qb.1]
            rcases qb.2 with e | e | e | e
            · rw [e]; exact tpos rfl ⟨rfl, rfl⟩
            · rw [e]; exact tneg (by decide) (tpos rfl ⟨rfl, rfl⟩)
            · rw [e]; exact tneg (by decide) (tneg (by decide) (tpos rfl ⟨rfl, rfl⟩))
            · rw [e]; exact tneg (by decide) (tneg (by decide) (tneg (by decide) (teq rfl ⟨rfl, rfl⟩)))
          · rcases qb.2 with e | e | e | e
            · rw [e]; exact tpos rfl g2
            · rw [e]; exact tneg (by decide) (tpos rfl g2)
            · rw [e]; exact tneg (by decide) (tneg (by decide) (tpos rfl g2))
            · rw [e]; exact tneg (by decide) (tneg (by decide) (tneg (by decide) (teq rfl g2)))
        · have nbC : X6_isBlank (d + 4) (By i) μC 0 μC := by
            have ne : ∀ v, (v = 9 ∨ v = 10 ∨ v = 13 ∨ v = 32) → By i ≠ nI v := fun v hv e => by
              rcases (bu_at hiS hb).2.2 with ⟨e1, e2, _⟩ | ⟨e1, _⟩
              · rw [e1] at e
                have := nI_inj (by omega) (by omega) e
                exact qb ⟨by rw [e2]; exact e1, by omega⟩
              · rw [e] at e1
                exact absurd e1 (nI_pos (by omega))
            exact X6_isBlank_ok (tneg (ne 9 (by omega)) (tneg (ne 10 (by omega)) (tneg (ne 13 (by omega)) (tne (ne 32 (by omega)) ⟨rfl, rfl⟩))))
          have nbu : ∀ v, (v = 9 ∨ v = 10 ∨ v = 13 ∨ v = 32) → bu S By i ≠ v := fun v hv e => by
            rcases (bu_at hiS hb).2.2 with ⟨e1, e2, _⟩ | ⟨_, e2⟩
            · exact qb ⟨by rw [e2]; exact e1, by omega⟩
            · omega
          have wrapM : ∀ mM, ((∃ (y6 : Int32) (μ4 : Mem), X10_isLetter (d + 5) (nI (bu S By i)) μM y6 μ4 ∧ ((y6 = 0 → (∃ (y9 : Int32) (μ7 : Mem), X10_isDigit (d + 5) (nI (bu S By i)) μ4 y9 μ7 ∧ ((y9 = 0 → (∃ (y12 : Int32) (μ10 : Mem), X10_byteAt (d + 5) (nI i + 1) μ7 y12 μ10 ∧ (∃ (y15 : Int32) (μ13 : Mem), X10_sign (d + 5) (nI i) (nI (bu S By i)) y12 μ10 y15 μ13 ∧ X10_cutsUp_at7 (d + 5) (nI i + y15) μ13 mM))) ∧ (¬ y9 = 0 → X10_cutsUp_at208 (d + 5) (nI i) 0 0 μ7 mM)))) ∧ (¬ y6 = 0 → X10_cutsUp_at85 (d + 5) (nI i) 0 0 μ4 mM)))) → X10_cutsUp_at7 (d + 5) (nI i) μM mM := fun mM z =>
            X10_cutsUp_at7_ok (tneg hn4 ⟨_, μM, b1, tpos hlt (tneg (hx 9 (by decide) (nbu 9 (by omega))) (tneg (hx 10 (by decide) (nbu 10 (by omega))) (tneg (hx 13 (by decide) (nbu 13 (by omega))) (tne (hx 32 (by decide) (nbu 32 (by omega))) z))))⟩)
          rcases Classical.em (isL By i) with ql | ql
          · obtain ⟨n, r1, r2, r3⟩ := run_ex (S := S) (isL By) (S - i) i (by omega)
            have n0 : n ≠ 0 := fun z => by
              subst z
              rcases r3 with y | y
              · omega
              · exact y ql
            have kl : (if n ≤ 8 then wkF (lts By i n) 21 0 else 33) ≤ 33 ∧ (if n ≤ 8 then wkF (lts By i n) 21 0 else 33) ≠ 32 ∧ (if n ≤ 8 then wkF (lts By i n) 21 0 else 33) ≠ 22 := by
              have := wkF_le (cs := lts By i n) 21 0 (by decide)
              split <;> omega
            have pc := put_cc (d := d + 3) (kd := if n ≤ 8 then wkF (lts By i n) 21 0 else 33) (pl := i) (v := lI (nm 32 (lts By i n))) hM4 hm1
            have pm := token_mm (d := d + 5) (kd := if n ≤ 8 then wkF (lts By i n) 21 0 else 33) (pl := i) (vl := 0) (v := lI (nm 27 (lts By i (min n 8)))) hM4 hm2
            have tS := tk_put (i' := i + n) (vl := 0) (cs := lts By i n) (vC := lI (nm 32 (lts By i n))) (vM := lI (nm 27 (lts By i (min n 8)))) hT hM4 kl.1 (by omega) (fun z => absurd z kl.2.2) (fun z => by
              have hn8 : n ≤ 8 := Classical.byContradiction fun y => by
                rw [if_neg y] at z
                exact absurd z (by decide)
              refine ⟨by rw [lts_len]; omega, by rw [lts_len]; omega, lts_dg (by decide) n fun j hj => r2 j hj, rfl, by rw [show min n 8 = n by omega]⟩) kl.2.1 ⟨Nat.le_refl _, by omega⟩
            obtain ⟨M', T', mC, mM, g1, g2, g3, g4, g5⟩ := ih (m - n) (by omega) (i + n) (st + 1) (M + 1) _ _ _ (by omega) (by omega) tS (hC.kz putC_k) (hM.kz putM_k)
            rw [nI_succ st] at g1
            have c60 : X6_takeLetters_at60 (d + 3) (nI i) (lI (nm 32 (lts By i n))) (nI (i + n)) (nI (if n ≤ 8 then 21 else 33)) 0 μC (nI (i + n)) (putC' M (if n ≤ 8 then wkF (lts By i n) 21 0 else 33) i (lI (nm 32 (lts By i n))) μC) := by
              by_cases z : n ≤ 8
              · rw [if_pos z, if_pos z]
                rw [if_pos z] at pc
                exact tl60 hC.2 (lts_dg (by decide) n fun j hj => r2 j hj) (by rw [lts_len]; exact z) pc 21 0 (by decide) rfl
              · rw [if_neg z, if_neg z]
                rw [if_neg z] at pc
                exact X6_takeLetters_at60_ok (tneg (by decide) (tne (by decide) ⟨_, pc, rfl, rfl⟩))
            refine ⟨M', T', mC, mM, wrapC _ ⟨0, μC, nbC, tpos rfl ⟨yl, μC, l1, tneg (l2.mpr ql) ⟨_, _, X6_takeLetters_ok (tl6 hO hC.1 r2 r1 r3 c60 n 0 (by omega)), g1⟩⟩⟩, wrapM _ ⟨ym, μM, n1, tneg (n2.mpr ((isL_bu hO).mp ⟨hiS, ql⟩)) (ml85 hO hM.1 hM.2 r2 r1 r3 pm g2 n 0 (by omega))⟩, g3, putC_k.trans g4, putM_k.trans g5⟩
          · have yl0 : yl = 0 := Classical.byContradiction fun z => ql (l2.mp z)
            have ym0 : ym = 0 := Classical.byContradiction fun z => ql ((isL_bu hO).mpr (n2.mp z)).2
            rcases Classical.em (isD By i) with qd | qd
            · obtain ⟨n, r1, r2, r3⟩ := run_ex (S := S) (isD By) (S - i) i (by omega)
              have n0 : n ≠ 0 := fun z => by
                subst z
                rcases r3 with y | y
                · omega
                · exact y qd
              have pc := put_cc (d := d + 3) (kd := if n ≤ 4 then 22 else 33) (pl := i) (v := (nI (dv By i n)).toInt64) hM4 hm1
              have pm := token_mm (d := d + 5) (kd := if n ≤ 4 then 22 else 33) (pl := i) (vl := dv By i (min n 4)) (v := 0) hM4 hm2
              have tS := tk_put (i' := i + n) (vl := dv By i (min n 4)) (cs := []) (kd := if n ≤ 4 then 22 else 33) (vC := (nI (dv By i n)).toInt64) (vM := 0) hT hM4 (by split <;> decide) (by omega) (fun z => by
                have hn4' : n ≤ 4 := Classical.byContradiction fun y => by
                  rw [if_neg y] at z
                  exact absurd z (by decide)
                have dl := dv_lt (By := By) (i := i) n fun j hj => r2 j hj
                have dl2 : 10 ^ n ≤ 10 ^ 4 := Nat.pow_le_pow_right (by decide) hn4'
                rw [show min n 4 = n by omega]
                exact ⟨by omega, lI_n (by omega)⟩) (fun z => by
                split at z <;> exact absurd z (by decide)) (by split <;> decide) ⟨Nat.le_refl _, by omega⟩
              obtain ⟨M', T', mC, mM, g1, g2, g3, g4, g5⟩ := ih (m - n) (by omega) (i + n) (st + 1) (M + 1) _ _ _ (by omega) (by omega) tS (hC.kz putC_k) (hM.kz putM_k)
              rw [nI_succ st] at g1
              exact ⟨M', T', mC, mM, wrapC _ ⟨0, μC, nbC, tpos rfl ⟨yl, μC, l1, tpos yl0 ⟨yd, μC, d1, tneg (d2.mpr qd) ⟨_, _, X6_takeDigits_ok (td6 hO hC.1 r2 r1 r3 pc n 0 (by omega)), g1⟩⟩⟩⟩, wrapM _ ⟨ym, μM, n1, tpos ym0 ⟨yn, μM, o1, tneg (o2.mpr ((isD_bu hO).mp ⟨hiS, qd⟩)) (md208 hO hM.1 r2 r1 r3 pm g2 n 0 (by omega))⟩⟩, g3, putC_k.trans g4, putM_k.trans g5⟩
            · have yd0 : yd = 0 := Classical.byContradiction fun z => qd (d2.mp z)
              have yn0 : yn = 0 := Classical.byContradiction fun z => qd ((isD_bu hO).mpr (o2.mp z)).2
              have sl := sgn_le (bu S By i)
              have pc := put_cc (d := d + 3) (kd := sgn (bu S By i)) (pl := i) (v := 0) hM4 hm1
              have pm := token_mm (d := d + 4) (kd := sgn (bu S By i)) (pl := i) (vl := 0) (v := 0) hM4 hm2
              have tS := tk_put (i' := i + 1) (vl := 0) (cs := []) (kd := sgn (bu S By i)) (vC := 0) (vM := 0) hT hM4 sl.1 (by omega) (fun z => absurd z sl.2.2.1) (fun z => absurd z sl.2.2.2) sl.2.1 ⟨Nat.le_refl _, by omega⟩
              obtain ⟨M', T', mC, mM, g1, g2, g3, g4, g5⟩ := ih (m - 1) (by omega) (i + 1) (st + 1) (M + 1) _ _ _ (by omega) (by omega) tS (hC.kz putC_k) (hM.kz putM_k)
              rw [nI_succ st, nI_succ i] at g1
              rw [nI_succ i] at g2
              obtain ⟨bb1, _⟩ := byteAt_m (d := d + 5) (k := i + 1) hM.1 hO (by omega)
              rw [nI_succ i] at bb1
              have ts : X6_takeSign (d + 4) (By i) (nI i) μC (nI i + 1) (putC' M (sgn (bu S By i)) i 0 μC) := by
                rcases (bu_at hiS hb).2.2 with ⟨e1, e2, e3⟩ | ⟨e1, e2⟩
                · rw [e2] at pc ⊢
                  rw [e1]
                  have ix := ixOf_s (d := d) (n := 1) (a := 1000002) (x := ((nI (bn By i)).toUInt32 % 65536).toInt32) (μ := μC) (by decide) (by decide)
                  refine X6_takeSign_ok (tpos (nI_pos' (by omega)) ⟨_, μC, ix, ?_⟩)
                  rcases sgn_ix (bn By i) e3 with ⟨z1, z2⟩ | ⟨z1, z2⟩
                  · rw [z2]
                    exact tpos z1 ⟨_, pc, rfl, rfl⟩
                  · rw [z2] at pc
                    rw [z2]
                    exact tneg z1 ⟨_, pc, rfl, rfl⟩
                · have e3 : sgn (bu S By i) = 33 := by
                    unfold sgn
                    rw [if_neg (by omega), if_neg (by omega), if_neg (by omega), if_neg (by omega), if_neg (by omega), if_neg (by omega), if_neg (by omega), if_neg (by omega), if_neg (by omega)]
                  rw [e3] at pc ⊢
                  exact X6_takeSign_ok (tneg (i_lt_nle e1) (tneg (by decide) ⟨_, pc, rfl, rfl⟩))
              exact ⟨M', T', mC, mM, wrapC _ ⟨0, μC, nbC, tpos rfl ⟨yl, μC, l1, tpos yl0 ⟨yd, μC, d1, tpos yd0 ⟨_, _, ts, g1⟩⟩⟩⟩, wrapM _ ⟨ym, μM, n1, tpos ym0 ⟨yn, μM, o1, tpos yn0 ⟨_, μM, bb1, 1, _, sign_m b2 pm, g2⟩⟩⟩, g3, putC_k.trans g4, putM_k.trans g5⟩
end
end Rd
