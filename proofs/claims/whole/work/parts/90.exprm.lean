/-! ===== read: the model's E ===== -/
section Rd
variable {d : Nat}
section
variable {S M : Nat} {T : Nat → Tk} {C0 : Nat}
def TM (M : Nat) (T : Nat → Tk) (μ : Mem) : Prop := ∀ i, i < M → μ.1 3 i = nI (mk (kd T i)) ∧ μ.1 4 i = nI (pc' T i) ∧ (kd T i = 22 → μ.1 5 i = nI (vl' T i)) ∧ (kd T i = 21 → μ.2.1 6 i = lI (nm 27 (nm' T i)))
def RM (i : Nat) (μ : Mem) : Prop := μ.1 0 13 = 0 ∧ μ.1 0 11 = nI i
def FM (f pl : Nat) (μ : Mem) : Prop := (1 ≤ f ∧ f ≤ 6) ∧ μ.1 0 13 = nI f ∧ μ.1 0 14 = nI pl ∧ ∃ i, i ≤ 400 ∧ μ.1 0 11 = nI i
theorem FM.ne {f pl : Nat} {μ : Mem} (h : FM f pl μ) : μ.1 0 13 ≠ 0 := by rw [h.2.1]; exact nI_ne0 h.1.1 (by have := h.1.2; omega)
theorem FM.nle {f pl : Nat} {μ : Mem} (h : FM f pl μ) : ¬ μ.1 0 13 ≤ 0 := by
  rw [h.2.1]
  intro z
  have := (nI_le_iff (b := 0) (by have := h.1.2; omega) (by decide)).1 z
  have := h.1.1
  omega
theorem FM.of {f pl : Nat} {μ μ' : Mem} (h : FM f pl μ) (k1 : μ'.1 0 11 = μ.1 0 11) (k3 : μ'.1 0 13 = μ.1 0 13) (k4 : μ'.1 0 14 = μ.1 0 14) : FM f pl μ' := ⟨h.1, k3.trans h.2.1, k4.trans h.2.2.1, by rw [k1]; exact h.2.2.2⟩
theorem TM.kz {S' : Nat → Nat → Prop} {L' : Nat → Prop} {μ μ' : Mem} (h : TM M T μ) (k : Kz S' L' μ μ') (h3 : ∀ j, ¬ S' 3 j) (h4 : ∀ j, ¬ S' 4 j) (h5 : ∀ j, ¬ S' 5 j) (h6 : ¬ L' 6) : TM M T μ' := fun i hi => by
  rw [k.at (h3 i), k.at (h4 i), k.at (h5 i), k.lg h6]
  exact h i hi
/-- fault, faultPlace and t -/
def mvM (a k : Nat) : Prop := a = 0 ∧ (k = 11 ∨ k = 13 ∨ k = 14)
abbrev KV (μ μ' : Mem) : Prop := Kz mvM (fun _ => False) μ μ'
/-- what an E writes -/
def exM (C0 a k : Nat) : Prop := (a = 0 ∧ (k = 11 ∨ k = 12 ∨ k = 13 ∨ k = 14 ∨ k = 42 ∨ k = 46)) ∨ a = 30 ∨ ((a = 28 ∨ a = 29) ∧ C0 ≤ k ∧ k < C0 + 420)
abbrev KX (C0 : Nat) (μ μ' : Mem) : Prop := Kz (exM C0) (fun _ => False) μ μ'
def coM (C0 a k : Nat) : Prop := (a = 0 ∧ (k = 42 ∨ k = 46)) ∨ ((a = 28 ∨ a = 29) ∧ C0 ≤ k ∧ k < C0 + 420)
abbrev KO (C0 : Nat) (μ μ' : Mem) : Prop := Kz (coM C0) (fun _ => False) μ μ'
theorem KV.x {μ μ' : Mem} (h : KV μ μ') : KX C0 μ μ' := h.mono (fun a k q => by unfold mvM at q; unfold exM; omega) (fun _ q => q)
theorem KO.x {μ μ' : Mem} (h : KO C0 μ μ') : KX C0 μ μ' := h.mono (fun a k q => by unfold coM at q; unfold exM; omega) (fun _ q => q)
theorem TM.kx {μ μ' : Mem} (h : TM M T μ) (k : KX C0 μ μ') : TM M T μ' := h.kz k (fun j => by unfold exM; omega) (fun j => by unfold exM; omega) (fun j => by unfold exM; omega) (fun z => z)
theorem is_y {i k : Nat} {x : Int32} {μ : Mem} (hV : TV S M T) (hT : TM M T μ) (hR : RM i μ) (hi : i < M) (hx : x = nI (mk k)) (hk : kd T i = k) : X10_is d x μ 1 μ := by
  have hm := hV.2.1
  refine X10_is_ok (teq hR.1 ⟨by rw [hR.2]; exact vp_inN (by omega) (by decide), teq ?_ ⟨rfl, rfl⟩⟩)
  rw [hR.2, nI_clamp (by omega), (hT i hi).1, hk, hx]
theorem mk_nI {a b : Nat} (ha : a ≤ 33) (hb : b ≤ 33) (h : nI (mk a) = nI (mk b)) : a = b := mk_inj a (by omega) b (by omega) (nI_inj (by have := mk_lt a (by omega); omega) (by have := mk_lt b (by omega); omega) h)
theorem is_n {i k : Nat} {x : Int32} {μ : Mem} (hV : TV S M T) (hT : TM M T μ) (hR : RM i μ) (hi : i < M) (hx : x = nI (mk k)) (hk3 : k ≤ 33) (hk : kd T i ≠ k) : X10_is d x μ 0 μ := by
  have hm := hV.2.1
  have vi := hV.2.2.1 i hi
  refine X10_is_ok (teq hR.1 ⟨by rw [hR.2]; exact vp_inN (by omega) (by decide), tne ?_ ⟨rfl, rfl⟩⟩)
  rw [hR.2, nI_clamp (by omega), (hT i hi).1, hx]
  exact fun z => hk (mk_nI vi.1 hk3 z)
theorem is_F {x : Int32} {μ : Mem} (h : μ.1 0 13 ≠ 0) : X10_is d x μ 0 μ := X10_is_ok (tne h ⟨rfl, rfl⟩)
theorem fail_m {i f : Nat} {x : Int32} {μ : Mem} (hV : TV S M T) (hT : TM M T μ) (hR : RM i μ) (hi : i < M) (hf : 1 ≤ f ∧ f ≤ 6) (hx : x = nI f) : ∃ μ', X10_fail d x μ μ' ∧ FM f (pc' T i) μ' ∧ KV μ μ' := by
  have hm := hV.2.1
  refine ⟨sI (sI μ 0 13 (nI f)) 0 14 (nI (pc' T i)), X10_fail_ok ?_, ⟨hf, by rw [sI_k (by decide), sI_1], sI_1, i, by omega, by rw [sI_k (by decide), sI_k (by decide)]; exact hR.2⟩, (Kz.sI (by unfold mvM; omega)).trans (Kz.sI (by unfold mvM; omega))⟩
  rw [hR.1, hx]
  refine tpos (by decide) ?_
  rintro μ1 rfl
  rw [sI_k (show 11 ≠ 13 by decide), hR.2, nI_clamp (by omega), sI_n (show 4 ≠ 0 by decide), (hT i hi).2.1]
  refine ⟨vp_inN (by omega) (by decide), ?_⟩
  rintro μ2 rfl
  rfl
theorem fail_F {f pl : Nat} {x : Int32} {μ : Mem} (h : FM f pl μ) : X10_fail d x μ μ := X10_fail_ok (tneg h.nle rfl)
theorem go_S {i : Nat} {μ : Mem} (hR : RM i μ) (hi : i < 400) : X10_goesOn (d + 1) μ (sI μ 0 11 (nI (i + 1))) ∧ RM (i + 1) (sI μ 0 11 (nI (i + 1))) ∧ KV μ (sI μ 0 11 (nI (i + 1))) := by
  refine ⟨X10_goesOn_ok ?_, ⟨by rw [sI_k (by decide)]; exact hR.1, sI_1⟩, Kz.sI (by unfold mvM; omega)⟩
  rw [hR.2]
  refine tne (fun z => ?_) ?_
  · have := nI_inj (b := 400) (by omega) (by decide) z
    omega
  · rw [nI_1]
    rintro μ1 rfl
    rfl
theorem go_X {i : Nat} {μ : Mem} (hV : TV S M T) (hT : TM M T μ) (hR : RM i μ) (hi : i < M) (h4 : i = 400) : ∃ μ', X10_goesOn (d + 1) μ μ' ∧ FM 2 (pc' T i) μ' ∧ KV μ μ' := by
  obtain ⟨μ', g1, g2, g3⟩ := fail_m (d := d) (f := 2) (x := 2) hV hT hR hi (by omega) rfl
  exact ⟨μ', X10_goesOn_ok (teq (by rw [hR.2, h4]; rfl) ⟨μ', g1, rfl⟩), g2, g3⟩
theorem go_F {f pl : Nat} {μ : Mem} (h : FM f pl μ) : ∃ μ', X10_goesOn (d + 1) μ μ' ∧ FM f pl μ' ∧ KV μ μ' := by
  obtain ⟨i, i1, i2⟩ := h.2.2.2
  by_cases e : i = 400
  · exact ⟨μ, X10_goesOn_ok (teq (by rw [i2, e]; rfl) ⟨μ, fail_F h, rfl⟩), h, Kz.refl⟩
  · refine ⟨sI μ 0 11 (nI (i + 1)), X10_goesOn_ok ?_, ⟨h.1, by rw [sI_k (by decide)]; exact h.2.1, by rw [sI_k (by decide)]; exact h.2.2.1, i + 1, by omega, sI_1⟩, Kz.sI (by unfold mvM; omega)⟩
    rw [i2]
    refine tne (fun z => e (nI_inj (b := 400) (by omega) (by decide) z)) ?_
    rw [nI_1]
    rintro μ1 rfl
    rfl
theorem must_S {i k : Nat} {x : Int32} {μ : Mem} (hV : TV S M T) (hT : TM M T μ) (hR : RM i μ) (hi : i < M) (hx : x = nI (mk k)) (hk : kd T i = k) (h32 : k ≠ 32) (h4 : i ≠ 400) : ∃ μ', X10_must (d + 2) x μ μ' ∧ RM (i + 1) μ' ∧ KV μ μ' ∧ i + 1 < M := by
  have hm := hV.2.1
  obtain ⟨g1, g2, g3⟩ := go_S (d := d) hR (show i < 400 by omega)
  exact ⟨_, X10_must_ok ⟨1, μ, is_y hV hT hR hi hx hk, tneg (by decide) ⟨_, g1, rfl⟩⟩, g2, g3, hV.next hi (by omega) h4⟩
theorem must_X {i k : Nat} {x : Int32} {μ : Mem} (hV : TV S M T) (hT : TM M T μ) (hR : RM i μ) (hi : i < M) (hx : x = nI (mk k)) (hk : k ≤ 33) (h : kd T i ≠ k ∨ i = 400) : ∃ μ', X10_must (d + 2) x μ μ' ∧ FM (if kd T i = k then 2 else 1) (pc' T i) μ' ∧ KV μ μ' := by
  by_cases e : kd T i = k
  · have i4 : i = 400 := h.elim (fun z => absurd e z) id
    obtain ⟨μ', g1, g2, g3⟩ := go_X (d := d) hV hT hR hi i4
    exact ⟨μ', X10_must_ok ⟨1, μ, is_y hV hT hR hi hx e, tneg (by decide) ⟨_, g1, rfl⟩⟩, by rw [if_pos e]; exact g2, g3⟩
  · obtain ⟨μ', g1, g2, g3⟩ := fail_m (d := d + 1) (f := 1) (x := 1) hV hT hR hi (by omega) rfl
    exact ⟨μ', X10_must_ok ⟨0, μ, is_n hV hT hR hi hx hk e, tpos rfl ⟨_, g1, rfl⟩⟩, by rw [if_neg e]; exact g2, g3⟩
theorem must_F {f pl : Nat} {x : Int32} {μ : Mem} (h : FM f pl μ) : X10_must (d + 2) x μ μ := X10_must_ok ⟨0, μ, is_F h.ne, tpos rfl ⟨μ, fail_F h, rfl⟩⟩
/-! codes -/
theorem mC_app {μ : Mem} : ∀ {cs ds : List Cd} {c : Nat}, mCodes μ c cs → mCodes μ (c + cs.length) ds → mCodes μ c (cs ++ ds)
  | [], ds, c, _, h => h
  | q :: r, ds, c, h1, h2 => ⟨h1.1, h1.2.1, mC_app h1.2.2 (by rw [show c + 1 + r.length = c + (q :: r).length by rw [List.length_cons]; omega]; exact h2)⟩
theorem mC_same {μ μ' : Mem} : ∀ {cs : List Cd} {c : Nat}, (∀ j, c ≤ j → j < c + cs.length → μ'.1 28 j = μ.1 28 j ∧ μ'.1 29 j = μ.1 29 j) → mCodes μ c cs → mCodes μ' c cs
  | [], _, _, _ => trivial
  | q :: r, c, h, k => ⟨(h c (Nat.le_refl _) (by rw [List.length_cons]; omega)).1.trans k.1, (h c (Nat.le_refl _) (by rw [List.length_cons]; omega)).2.trans k.2.1, mC_same (fun j h1 h2 => h j (by omega) (by rw [List.length_cons]; omega)) k.2.2⟩
def PutM (c : Nat) (cs : List Cd) (μ μ' : Mem) : Prop := μ'.1 0 42 = nI (c + cs.length) ∧ mCodes μ' c cs ∧ ∀ j, j < c → μ'.1 28 j = μ.1 28 j ∧ μ'.1 29 j = μ.1 29 j
theorem PutM.trans {c : Nat} {cs ds : List Cd} {μ μ1 μ2 : Mem} (h : PutM c cs μ μ1) (k : PutM (c + cs.length) ds μ1 μ2) : PutM c (cs ++ ds) μ μ2 := ⟨by rw [List.length_append, ← Nat.add_assoc]; exact k.1, mC_app (mC_same (fun j h1 h2 => k.2.2 j h2) h.2.1) k.2.1, fun j hj => ⟨(k.2.2 j (by omega)).1.trans (h.2.2 j hj).1, (k.2.2 j (by omega)).2.trans (h.2.2 j hj).2⟩⟩
theorem PutM.nil {c : Nat} {μ : Mem} (h : μ.1 0 42 = nI c) : PutM c [] μ μ := ⟨h, trivial, fun _ _ => ⟨rfl, rfl⟩⟩
theorem PutM.kz {S' : Nat → Nat → Prop} {L' : Nat → Prop} {c : Nat} {cs : List Cd} {μ μ1 μ2 : Mem} (h : PutM c cs μ μ1) (k : Kz S' L' μ1 μ2) (k0 : ¬ S' 0 42) (k8 : ∀ j, ¬ S' 28 j) (k9 : ∀ j, ¬ S' 29 j) : PutM c cs μ μ2 := ⟨(k.at k0).trans h.1, mC_same (fun j _ _ => ⟨k.at (k8 j), k.at (k9 j)⟩) h.2.1, fun j hj => ⟨(k.at (k8 j)).trans (h.2.2 j hj).1, (k.at (k9 j)).trans (h.2.2 j hj).2⟩⟩
theorem PutM.zk {S' : Nat → Nat → Prop} {L' : Nat → Prop} {c : Nat} {cs : List Cd} {μ μ1 μ2 : Mem} (k : Kz S' L' μ μ1) (h : PutM c cs μ1 μ2) (k8 : ∀ j, ¬ S' 28 j) (k9 : ∀ j, ¬ S' 29 j) : PutM c cs μ μ2 := ⟨h.1, h.2.1, fun j hj => ⟨(h.2.2 j hj).1.trans (k.at (k8 j)), (h.2.2 j hj).2.trans (k.at (k9 j))⟩⟩
theorem emit_m {c : Nat} {k v : Int32} {μ : Mem} (hC : C0 + 420 ≤ 840) (h0 : C0 ≤ c) (hc : c < C0 + 420) (h : μ.1 0 42 = nI c) : ∃ μ', X10_emit d k v μ μ' ∧ (μ'.1 0 42 = nI (c + 1) ∧ μ'.1 28 c = k ∧ μ'.1 29 c = v ∧ (∀ j, j ≠ c → μ'.1 28 j = μ.1 28 j ∧ μ'.1 29 j = μ.1 29 j)) ∧ (∀ a j, a ≠ 28 → a ≠ 29 → (a ≠ 0 ∨ j ≠ 42) → μ'.1 a j = μ.1 a j) ∧ KO C0 μ μ' := by
  refine ⟨sI (sI (sI μ 28 c k) 29 c v) 0 42 (nI (c + 1)), X10_emit_ok ?_, ⟨sI_1, ?_, ?_, fun j hj => ⟨?_, ?_⟩⟩, fun a j h1 h2 h3 => ?_, ((Kz.sI (by unfold coM; omega)).trans (Kz.sI (by unfold coM; omega))).trans (Kz.sI (by unfold coM; omega))⟩
  · rw [h]
    refine ⟨vp_inN (by omega) (by decide), ?_⟩
    rw [nI_clamp (by omega)]
    rintro μ1 rfl
    rw [sI_n (show 0 ≠ 28 by decide), h]
    refine ⟨vp_inN (by omega) (by decide), ?_⟩
    rw [nI_clamp (by omega)]
    rintro μ2 rfl
    rw [sI_n (show 0 ≠ 29 by decide), sI_n (show 0 ≠ 28 by decide), h, nI_1]
    rintro μ3 rfl
    rfl
  · rw [sI_n (by decide), sI_n (by decide), sI_1]
  · rw [sI_n (by decide), sI_1]
  · rw [sI_n (by decide), sI_n (by decide), sI_k hj]
  · rw [sI_n (by decide), sI_k hj, sI_n (by decide)]
  · by_cases e : a = 0
    · subst e
      have : j ≠ 42 := h3.elim (fun z => absurd rfl z) id
      rw [sI_k this, sI_n (by decide), sI_n (by decide)]
    · rw [sI_n e, sI_n h2, sI_n h1]
/-! what waits -/
def km (o : Nat) : Nat := if o = 6 then 6 else if o = 5 then 15 else o + 6
def wst (μ : Mem) : List Nat → Prop
  | [] => True
  | w :: r => μ.1 30 r.length = nI (km w) ∧ wst μ r
theorem wst.of {μ μ' : Mem} : ∀ {W : List Nat}, (∀ j, j < W.length → μ'.1 30 j = μ.1 30 j) → wst μ W → wst μ' W
  | [], _, _ => trivial
  | w :: r, h, k => ⟨(h r.length (by rw [List.length_cons]; omega)).trans k.1, wst.of (fun j hj => h j (by rw [List.length_cons]; omega)) k.2⟩
def CS (W : List Nat) (c : Nat) (μ : Mem) : Prop := μ.1 0 46 = nI W.length ∧ wst μ W ∧ μ.1 0 42 = nI c
def nops : List Nat → Nat
  | [] => 0
  | w :: r => (if w = 6 then 0 else 1) + nops r
def pl (o : Nat) : List Nat := if o = 0 then [] else [o]
theorem pl_len (o : Nat) : (pl o).length = one o := by unfold pl one; split <;> rfl
theorem pl_map (o : Nat) : (pl o).map (fun q => ((q, 0) : Cd)) = opL o := by unfold pl opL; split <;> rfl
theorem nops_app : ∀ (A B : List Nat), nops (A ++ B) = nops A + nops B
  | [], B => by show nops B = 0 + nops B; omega
  | w :: r, B => by
    show (if w = 6 then 0 else 1) + nops (r ++ B) = (if w = 6 then 0 else 1) + nops r + nops B
    rw [nops_app r B]; omega
theorem nops_pl {o : Nat} (h : o ≤ 5) : nops (pl o) = one o := by
  unfold pl one
  by_cases e : o = 0
  · rw [if_pos e, if_pos e]; rfl
  · rw [if_neg e, if_neg e]
    show (if o = 6 then 0 else 1) + 0 = 1
    rw [if_neg (by omega)]
def okW (W : List Nat) : Prop := ∀ o, o ∈ W → 2 ≤ o ∧ o ≤ 6
def stW (x : Int32) (W : List Nat) : Prop := W = [] ∨ (∃ r, W = 6 :: r) ∨ (x ≠ 0 ∧ ∃ o r, W = o :: r ∧ (o = 2 ∨ o = 3))
theorem co_stop {W : List Nat} {c : Nat} {x : Int32} {μ : Mem} (h : stW x W) (hl : W.length ≤ 63) (hS : CS W c μ) : X10_comesOut_at0 d x μ μ := by
  refine X10_comesOut_at0_ok ?_
  rcases h with rfl | ⟨r, rfl⟩ | ⟨hx, o, r, rfl, ho⟩
  · exact tpos (by rw [hS.1]; decide) rfl
  · have hl : r.length + 1 ≤ 63 := hl
    have e : μ.1 0 46 = nI (r.length + 1) := hS.1
    have w := hS.2.1.1
    rw [e, nI_pred, nI_clamp (by omega), w]
    refine tneg (fun z => ?_) ⟨vp_inN (by omega) (by decide), tpos rfl rfl⟩
    have := (nI_le_iff (b := 0) (by omega) (by decide)).1 z
    omega
  · have hl : r.length + 1 ≤ 63 := hl
    have e : μ.1 0 46 = nI (r.length + 1) := hS.1
    have w := hS.2.1.1
    rw [e, nI_pred, nI_clamp (by omega), w]
    refine tneg (fun z => ?_) ⟨vp_inN (by omega) (by decide), ?_⟩
    · have := (nI_le_iff (b := 0) (by omega) (by decide)).1 z
      omega
    · rcases ho with rfl | rfl
      · exact tneg (by decide) (tneg hx (tpos rfl rfl))
      · exact tneg (by decide) (tneg hx (tneg (by decide) (teq rfl rfl)))
theorem co_step {o c : Nat} {r : List Nat} {x : Int32} {μ : Mem} (hC : C0 + 420 ≤ 840) (h0 : C0 ≤ c) (hc : c < C0 + 420) (ho : 2 ≤ o ∧ o ≤ 5) (hx : x = 0 ∨ 4 ≤ o) (hl : (o :: r).length ≤ 63) (hS : CS (o :: r) c μ) : ∃ μ1, (∀ μ', X10_comesOut_at0 d x μ1 μ' → X10_comesOut_at0 d x μ μ') ∧ CS r (c + 1) μ1 ∧ PutM c [(o, 0)] μ μ1 ∧ KO C0 μ μ1 := by
  have hl : r.length + 1 ≤ 63 := hl
  have e : μ.1 0 46 = nI (r.length + 1) := hS.1
  have w := hS.2.1.1
  obtain ⟨μ1, g1, ⟨g2, g3, g4, g5⟩, g6, g7⟩ := emit_m (d := d) (k := nI o) (v := 0) (μ := sI μ 0 46 (nI r.length)) hC h0 hc (by rw [sI_k (by decide)]; exact hS.2.2)
  refine ⟨μ1, fun μ' hk => X10_comesOut_at0_ok ?_, ⟨?_, wst.of (fun j _ => ?_) hS.2.1.2, g2⟩, ⟨g2, ⟨g3, g4, trivial⟩, fun j hj => ?_⟩, (Kz.sI (by unfold coM; omega)).trans g7⟩
  · rw [e, nI_pred, nI_clamp (by omega), w]
    refine tneg (fun z => ?_) ⟨vp_inN (by omega) (by decide), ?_⟩
    · have := (nI_le_iff (b := 0) (by omega) (by decide)).1 z
      omega
    · have : o = 2 ∨ o = 3 ∨ o = 4 ∨ o = 5 := by omega
      rcases this with rfl | rfl | rfl | rfl
      · have x0 : x = 0 := hx.elim id (fun z => by omega)
        exact tneg (by decide) (tpos x0 (fun μ2 e2 => by subst e2; exact teq rfl ⟨μ1, g1, hk⟩))
      · have x0 : x = 0 := hx.elim id (fun z => by omega)
        exact tneg (by decide) (tpos x0 (fun μ2 e2 => by subst e2; exact tne (by decide) (teq rfl ⟨μ1, g1, hk⟩)))
      · exact tneg (by decide) ⟨fun _ => (fun μ2 e2 => by subst e2; exact tne (by decide) (tne (by decide) (teq rfl ⟨μ1, g1, hk⟩))), fun _ => tneg (by decide) (tne (by decide) (fun μ2 e2 => by subst e2; exact tne (by decide) (tne (by decide) (teq rfl ⟨μ1, g1, hk⟩))))⟩
      · exact tneg (by decide) ⟨fun _ => (fun μ2 e2 => by subst e2; exact tne (by decide) (tne (by decide) (tne (by decide) ⟨μ1, g1, hk⟩))), fun _ => tneg (by decide) (tne (by decide) (fun μ2 e2 => by subst e2; exact tne (by decide) (tne (by decide) (tne (by decide) ⟨μ1, g1, hk⟩))))⟩
  · rw [g6 0 46 (by decide) (by decide) (Or.inr (by decide)), sI_1]
  · rw [g6 30 j (by decide) (by decide) (Or.inl (by decide)), sI_n (by decide)]
  · rw [(g5 j (by omega)).1, (g5 j (by omega)).2, sI_n (by decide), sI_n (by decide)]
    exact ⟨rfl, rfl⟩
theorem co_run {x : Int32} {W : List Nat} (hC : C0 + 420 ≤ 840) (hW : stW x W) : ∀ (L : List Nat) (c : Nat) (μ : Mem), (∀ o, o ∈ L → (2 ≤ o ∧ o ≤ 5) ∧ (x = 0 ∨ 4 ≤ o)) → (L ++ W).length ≤ 63 → C0 ≤ c → c + L.length ≤ C0 + 420 → CS (L ++ W) c μ → ∃ μ', X10_comesOut_at0 d x μ μ' ∧ CS W (c + L.length) μ' ∧ PutM c (L.map fun o => (o, 0)) μ μ' ∧ KO C0 μ μ'
  | [], c, μ, _, hl, _, _, hS => ⟨μ, co_stop hW hl hS, hS, PutM.nil hS.2.2, Kz.refl⟩
  | o :: r, c, μ, ho, hl, h0, hc, hS => by
    have hc' : c + (r.length + 1) ≤ C0 + 420 := hc
    have oo := ho o (List.mem_cons_self ..)
    obtain ⟨μ1, g1, g2, g3, g4⟩ := co_step (d := d) hC h0 (by omega) oo.1 oo.2 hl hS
    obtain ⟨μ', r1, r2, r3, r4⟩ := co_run hC hW r (c + 1) μ1 (fun q hq => ho q (List.mem_cons_of_mem _ hq)) (by have : (r ++ W).length + 1 ≤ 63 := hl; omega) (by omega) (by omega) g2
    exact ⟨μ', g1 μ' r1, by rw [List.length_cons, show c + (r.length + 1) = c + 1 + r.length by omega]; exact r2, PutM.trans (cs := [(o, 0)]) g3 r3, g4.trans r4⟩
theorem co_split : ∀ (W : List Nat), okW W → ∃ L V, W = L ++ V ∧ (∀ o, o ∈ L → (2 ≤ o ∧ o ≤ 5) ∧ ((0 : Int32) = 0 ∨ 4 ≤ o)) ∧ stW 0 V ∧ L.length ≤ nops W
  | [], _ => ⟨[], [], rfl, fun _ h => (by cases h), Or.inl rfl, Nat.zero_le _⟩
  | w :: r, h => by
    by_cases e : w = 6
    · exact ⟨[], w :: r, rfl, fun _ h => (by cases h), Or.inr (Or.inl ⟨r, by rw [e]⟩), Nat.zero_le _⟩
    · obtain ⟨L, V, h1, h2, h3, h4⟩ := co_split r (fun o ho => h o (List.mem_cons_of_mem _ ho))
      have hw := h w (List.mem_cons_self ..)
      refine ⟨w :: L, V, by rw [h1]; rfl, fun o ho => ?_, h3, ?_⟩
      · cases ho with
        | head => exact ⟨by omega, Or.inl rfl⟩
        | tail _ z => exact h2 o z
      · show L.length + 1 ≤ (if w = 6 then 0 else 1) + nops r
        rw [if_neg e]; omega
/-- comesOut(false), whatever waits -/
theorem cow_any {W : List Nat} {c : Nat} {μ : Mem} (hC : C0 + 420 ≤ 840) (hW : okW W) (hl : W.length ≤ 63) (h0 : C0 ≤ c) (hc : c + nops W ≤ C0 + 420) (hS : CS W c μ) : ∃ c' μ', X10_comesOut (d + 1) 0 μ μ' ∧ (C0 ≤ c' ∧ c' ≤ c + nops W ∧ μ'.1 0 42 = nI c') ∧ KO C0 μ μ' := by
  obtain ⟨L, V, rfl, h2, h3, h4⟩ := co_split W hW
  obtain ⟨μ', r1, r2, r3, r4⟩ := co_run (d := d) hC h3 L c μ h2 hl h0 (by omega) hS
  exact ⟨c + L.length, μ', X10_comesOut_ok r1, ⟨by omega, by omega, r2.2.2⟩, r4⟩
theorem push_m {W : List Nat} {o c : Nat} {μ : Mem} (hS : CS W c μ) : CS (o :: W) c (sI (sI μ 30 W.length (nI (km o))) 0 46 (nI (W.length + 1))) ∧ KX C0 μ (sI (sI μ 30 W.length (nI (km o))) 0 46 (nI (W.length + 1))) := by
  refine ⟨⟨sI_1, ⟨by rw [sI_n (by decide), sI_1], wst.of (fun j hj => by rw [sI_n (by decide), sI_k (by omega)]) hS.2.1⟩, by rw [sI_k (by decide), sI_n (by decide)]; exact hS.2.2⟩, (Kz.sI (by unfold exM; omega)).trans (Kz.sI (by unfold exM; omega))⟩
/-! a unit -/
theorem mk_lo : ∀ k, k < 34 → ¬ (12 ≤ k ∧ k ≤ 20) → mk k < 32 := by decide
theorem mk_var {k : Nat} (h : 12 ≤ k ∧ k ≤ 20) : mk k = 20 + k := by unfold mk; rw [if_pos h.2]
theorem unit_go {i : Nat} {v : Cd} {μ μe μ' : Mem} (hV : TV S M T) (hT : TM M T μ) (hR : RM i μ) (hi : i < M) (hv : (kd T i = 22 ∧ v = (0, vl' T i)) ∨ ((12 ≤ kd T i ∧ kd T i ≤ 20) ∧ v = (1, kd T i - 12))) (he : X10_emit (d + 1) (nI v.1) (nI v.2) μ μe) (go : X10_goesOn (d + 1) μe μ') : X10_unit (d + 2) μ μ' := by
  have hm := hV.2.1
  have vi := hV.2.2.1 i hi
  have vin : vp_in (nI i) 403 := vp_inN (by omega) (by decide)
  rcases hv with ⟨hk, rfl⟩ | ⟨hk, rfl⟩
  · refine X10_unit_ok ⟨1, μ, is_y hV hT hR hi rfl hk, ?_⟩
    rw [hR.2, nI_clamp (by omega), (hT i hi).2.2.1 hk]
    exact tneg (by decide) ⟨vin, μe, he, μ', go, rfl⟩
  · refine X10_unit_ok ⟨0, μ, is_n hV hT hR hi (k := 22) rfl (by decide) (by omega), ?_⟩
    rw [hR.2, nI_clamp (by omega), (hT i hi).1, mk_var hk]
    refine tpos rfl (teq hR.1 ⟨vin, tneg (nI_nlt (b := 32) (by omega) (by omega)) ⟨vin, tneg (nI_nlt (a := 40) (by omega) (by decide)) ⟨vin, μe, ?_, μ', go, rfl⟩⟩⟩)
    rw [show (32 : Int32) = nI 32 from rfl, nI_sub (by omega), show 20 + kd T i - 32 = kd T i - 12 by omega]
    exact he
theorem unit_bad {i : Nat} {μ μ' : Mem} (hV : TV S M T) (hT : TM M T μ) (hR : RM i μ) (hi : i < M) (h1 : kd T i ≠ 22) (h2 : ¬ (12 ≤ kd T i ∧ kd T i ≤ 20)) (hf : X10_fail (d + 1) 1 μ μ') : X10_unit (d + 2) μ μ' := by
  have hm := hV.2.1
  have vi := hV.2.2.1 i hi
  refine X10_unit_ok ⟨0, μ, is_n hV hT hR hi (k := 22) rfl (by decide) h1, ?_⟩
  rw [hR.2, nI_clamp (by omega), (hT i hi).1]
  exact tpos rfl (teq hR.1 ⟨vp_inN (by omega) (by decide), tpos (nI_lt (b := 32) (mk_lo _ (by omega) h2) (by decide)) ⟨μ', hf, rfl⟩⟩)
theorem at23F {f pl : Nat} {μ : Mem} (h : FM f pl μ) : X10_expression_at23 (d + 2) 0 μ μ := X10_expression_at23_ok ⟨0, μ, is_F h.ne, tpos rfl ⟨μ, X10_unit_ok ⟨0, μ, is_F h.ne, tpos rfl (tne h.ne ⟨μ, fail_F h, rfl⟩)⟩, tneg h.nle rfl⟩⟩
def BM (C0 f pl : Nat) (μ μ' : Mem) : Prop := FM f pl μ' ∧ (∃ c, C0 ≤ c ∧ c ≤ C0 + 402 ∧ μ'.1 0 42 = nI c) ∧ KX C0 μ μ'
theorem FM.ko {f pl : Nat} {μ μ' : Mem} (h : FM f pl μ) (k : KO C0 μ μ') : FM f pl μ' := h.of (k.at (by unfold coM; omega)) (k.at (by unfold coM; omega)) (k.at (by unfold coM; omega))
theorem at204F {W : List Nat} {f pl c : Nat} {μ : Mem} (hC : C0 + 420 ≤ 840) (h : FM f pl μ) (hW : okW W) (hl : W.length ≤ 63) (h0 : C0 ≤ c) (hc : c + nops W ≤ C0 + 402) (hS : CS W c μ) : ∃ μ', X10_expression_at204 (d + 1) μ μ' ∧ BM C0 f pl μ μ' := by
  obtain ⟨c', μ', g1, ⟨g2, g3, g4⟩, g5⟩ := cow_any (d := d) hC hW hl h0 (by omega) hS
  exact ⟨μ', X10_expression_at204_ok ⟨μ', g1, rfl⟩, h.ko g5, ⟨c', g2, by omega, g4⟩, g5.x⟩
theorem at186F {W : List Nat} {f pl c : Nat} {μ : Mem} (hC : C0 + 420 ≤ 840) (h : FM f pl μ) (hW : okW W) (hl : W.length ≤ 63) (h0 : C0 ≤ c) (hc : c + nops W ≤ C0 + 402) (hS : CS W c μ) : ∃ μ', X10_expression_at186 (d + 1) 0 0 μ μ' ∧ BM C0 f pl μ μ' := by
  obtain ⟨μ', g1, g2⟩ := at204F (d := d) hC h hW hl h0 hc hS
  exact ⟨μ', X10_expression_at186_ok (teq rfl ⟨fun _ => g1, fun _ => ⟨μ, fail_F h, g1⟩⟩), g2⟩
theorem at96F {W : List Nat} {f pl c : Nat} {μ : Mem} (hC : C0 + 420 ≤ 840) (h : FM f pl μ) (hW : okW W) (hl : W.length ≤ 63) (h0 : C0 ≤ c) (hc : c + nops W ≤ C0 + 402) (hS : CS W c μ) : ∃ μ', X10_expression_at96 (d + 1) 0 μ μ' ∧ BM C0 f pl μ μ' := by
  obtain ⟨μ', g1, g2⟩ := at186F (d := d) hC h hW hl h0 hc hS
  exact ⟨μ', X10_expression_at96_ok ⟨0, μ, is_F h.ne, tpos rfl ⟨0, μ, is_F h.ne, teq rfl ⟨0, μ, is_F h.ne, teq rfl ⟨0, μ, is_F h.ne, teq rfl ⟨0, μ, is_F h.ne, tpos rfl g1⟩⟩⟩⟩⟩, g2⟩
theorem at96_end {i : Nat} {μ μ' : Mem} (hV : TV S M T) (hT : TM M T μ) (hR : RM i μ) (hi : i < M) (h1 : ¬ (25 ≤ kd T i ∧ kd T i ≤ 28)) (h2 : kd T i ≠ 31 ∨ μ.1 0 12 = 0) (hk : X10_expression_at186 d 0 0 μ μ') : X10_expression_at96 d 0 μ μ' := by
  have n8 := is_n (d := d) (k := 25) (x := 8) hV hT hR hi rfl (by decide) (by omega)
  have n9 := is_n (d := d) (k := 26) (x := 9) hV hT hR hi rfl (by decide) (by omega)
  have n10 := is_n (d := d) (k := 27) (x := 10) hV hT hR hi rfl (by decide) (by omega)
  have n15 := is_n (d := d) (k := 28) (x := 15) hV hT hR hi rfl (by decide) (by omega)
  by_cases e : kd T i = 31
  · have o := h2.elim (fun z => absurd e z) id
    exact X10_expression_at96_ok ⟨1, μ, is_y hV hT hR hi rfl e, tneg (by decide) (tpos (by rw [o]; decide) ⟨0, μ, n8, teq rfl ⟨0, μ, n9, teq rfl ⟨0, μ, n10, teq rfl ⟨0, μ, n15, tpos rfl hk⟩⟩⟩⟩)⟩
  · exact X10_expression_at96_ok ⟨0, μ, is_n hV hT hR hi rfl (by decide) e, tpos rfl ⟨0, μ, n8, teq rfl ⟨0, μ, n9, teq rfl ⟨0, μ, n10, teq rfl ⟨0, μ, n15, tpos rfl hk⟩⟩⟩⟩⟩
theorem at96_op {i : Nat} {μ μ' : Mem} (hV : TV S M T) (hT : TM M T μ) (hR : RM i μ) (hi : i < M) (h1 : 25 ≤ kd T i ∧ kd T i ≤ 28) (hk : X10_expression_at186 d 0 1 μ μ') : X10_expression_at96 d 0 μ μ' := by
  refine X10_expression_at96_ok ⟨0, μ, is_n hV hT hR hi (k := 31) rfl (by decide) (by omega), tpos rfl ?_⟩
  by_cases e8 : kd T i = 25
  · exact ⟨1, μ, is_y hV hT hR hi rfl e8, tne (by decide) hk⟩
  · refine ⟨0, μ, is_n hV hT hR hi (k := 25) rfl (by decide) e8, teq rfl ?_⟩
    by_cases e9 : kd T i = 26
    · exact ⟨1, μ, is_y hV hT hR hi rfl e9, tne (by decide) hk⟩
    · refine ⟨0, μ, is_n hV hT hR hi (k := 26) rfl (by decide) e9, teq rfl ?_⟩
      by_cases e10 : kd T i = 27
      · exact ⟨1, μ, is_y hV hT hR hi rfl e10, tne (by decide) hk⟩
      · exact ⟨0, μ, is_n hV hT hR hi (k := 27) rfl (by decide) e10, teq rfl ⟨1, μ, is_y hV hT hR hi (k := 28) rfl (by omega), tneg (by decide) hk⟩⟩
theorem km_mk : ∀ k, k < 29 → 25 ≤ k → km (k - 23) = mk k := by decide
/-- an operator is read: out comes what must, the operator waits, and on -/
theorem at186_op {i c : Nat} {x : Int32} {W : List Nat} {μ μ1 μ3 μ' : Mem} (hV : TV S M T) (hT : TM M T μ) (hR : RM i μ) (hi : i < M) (hx : (x = 1 ∧ (kd T i = 27 ∨ kd T i = 28)) ∨ (x = 0 ∧ (kd T i = 25 ∨ kd T i = 26))) (hW : W.length ≤ 62) (co : X10_comesOut d x μ μ1) (hS : CS W c μ1) (k1 : KO C0 μ μ1) (hg : X10_goesOn d (sI (sI μ1 30 W.length (nI (km (kd T i - 23)))) 0 46 (nI (W.length + 1))) μ3) (hk : X10_expression_at12 d 0 1 μ3 μ') : X10_expression_at186 d 0 1 μ μ' := by
  have hm := hV.2.1
  have vin : vp_in (nI i) 403 := vp_inN (by omega) (by decide)
  have vw : vp_in (nI W.length) 64 := vp_inN (by omega) (by decide)
  have e11 : μ1.1 0 11 = nI i := by rw [k1.at (by unfold coM; omega)]; exact hR.2
  have e3 : μ1.1 3 i = nI (km (kd T i - 23)) := by
    rw [k1.at (by unfold coM; omega), (hT i hi).1, km_mk _ (by omega) (by omega)]
  refine X10_expression_at186_ok (tne (by decide) ?_)
  have fin : vp_in (μ1.1 0 11) 403 ∧ vp_in (μ1.1 0 46) 64 ∧ (∀ μ6 : Mem, μ6 = sI μ1 30 ((μ1.1 0 46).toNatClampNeg) (μ1.1 3 ((μ1.1 0 11).toNatClampNeg)) → (∀ μ7 : Mem, μ7 = sI μ6 0 46 ((μ6.1 0 46) + 1) → (∃ (μ8 : Mem), X10_goesOn d μ7 μ8 ∧ X10_expression_at12 d 0 1 μ8 μ'))) := by
    rw [e11, hS.1, nI_clamp (by omega), nI_clamp (by omega), e3]
    refine ⟨vin, vw, ?_⟩
    rintro μ6 rfl
    rw [sI_n (show 0 ≠ 30 by decide), hS.1, nI_1]
    rintro μ7 rfl
    exact ⟨μ3, hg, hk⟩
  rcases hx with ⟨rfl, z | z⟩ | ⟨rfl, z⟩
  · exact ⟨1, μ, is_y hV hT hR hi rfl z, tne (by decide) ⟨μ1, co, fin⟩⟩
  · exact ⟨0, μ, is_n hV hT hR hi (k := 27) rfl (by decide) (by omega), teq rfl ⟨1, μ, is_y hV hT hR hi rfl z, tneg (by decide) ⟨μ1, co, fin⟩⟩⟩
  · exact ⟨0, μ, is_n hV hT hR hi (k := 27) rfl (by decide) (by omega), teq rfl ⟨0, μ, is_n hV hT hR hi (k := 28) rfl (by decide) (by omega), tpos rfl ⟨μ1, co, fin⟩⟩⟩
end
end Rd
