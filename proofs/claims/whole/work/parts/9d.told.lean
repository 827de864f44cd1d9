/-! ===== read: what is told so far, both sides ===== -/
section Rd
variable {d : Nat}
section
variable {S M : Nat} {T : Nat → Tk}
def CcS (P : Pl) (q : Nat) (μ : Mem) : Prop := μ.1 q 4 = nI (pSt P) ∧ μ.1 q 5 = nI (pGu P) ∧ μ.1 q 6 = nI (pSe P)
def CcF (P : Pl) (q : Nat) (μ : Mem) : Prop := ∀ f, f < pF P → μ.1 (q + 3) f = nI (pNe P f) ∧ μ.1 (q + 4) f = nI (pDr P f)
def CcW (P : Pl) (q : Nat) (μ : Mem) : Prop := ∀ l, l < pL P → μ.1 (q + 5) l = nI (pWi P l) ∧ μ.1 (q + 6) l = nI (pPi P l)
def CcL (P : Pl) (q : Nat) (μ : Mem) : Prop := μ.1 q 0 = nI (pW P) ∧ (∀ c, c < 48 → μ.1 (q + 1) c = landI P c) ∧ ∀ f, f < 6 → μ.1 (q + 2) f = nI (cellsA P f 48)
def CcG (P : Pl) (q : Nat) (μ : Mem) : Prop := cLawAt μ (q + 7) 1 (pLw P 0) ∧ cLawAt μ (q + 11) 1 (pLw P 1) ∧ cLawAt μ (q + 15) 0 (pLw P 2)
def CmS (P : Pl) (s : Nat) (μ : Mem) : Prop := μ.1 18 s = nI (pSt P) ∧ μ.1 19 s = nI (pGu P) ∧ μ.1 20 s = nI (pSe P)
def CmF (P : Pl) (s : Nat) (μ : Mem) : Prop := ∀ f, f < pF P → μ.1 13 (6 * s + f) = nI (pNe P f) ∧ μ.1 14 (6 * s + f) = nI (pDr P f)
def CmW (P : Pl) (s : Nat) (μ : Mem) : Prop := ∀ l, l < pL P → μ.1 16 (4 * s + l) = nI (pWi P l) ∧ μ.1 17 (4 * s + l) = nI (pPi P l)
def CmL (P : Pl) (s : Nat) (μ : Mem) : Prop := μ.1 10 s = nI (pW P) ∧ ∀ c, onL P c = true → μ.1 11 (48 * s + c) = fI (pFld P c)
def mLs (s bc cc : Nat) (μ : Mem) (k : Nat) (L : Lw) : Prop := (L = [] ∧ μ.1 21 (3 * s + k) = 0 ∧ μ.1 22 (3 * s + k) = 0) ∨ (L ≠ [] ∧ ∃ b, 130 * s ≤ b ∧ b + L.length ≤ bc ∧ mL' (420 * s) cc μ b L ∧ μ.1 21 (3 * s + k) = nI b ∧ μ.1 22 (3 * s + k) = nI (b + L.length))
def CmG (P : Pl) (s bc cc : Nat) (μ : Mem) : Prop := ∀ k, k < 3 → mLs s bc cc μ k (pLw P k)
def PWr (P : Pl) : Prop := pW P ≤ 8 ∧ (pW P = 0 ↔ pH P = 0) ∧ (∀ c f, pFld P c = some f → f < 6) ∧ (∀ f, f < pF P → pNe P f ≤ 99 ∧ pDr P f ≤ 999) ∧ (∀ l, l < pL P → (1 ≤ pWi P l ∧ pWi P l ≤ 8) ∧ pPi P l ≤ 99) ∧ (pSt P ≤ 9999 ∧ pGu P ≤ 100 ∧ pSe P ≤ 9999) ∧ ∀ k, k < 3 → pLw P k = [] ∨ wfL (pLw P k)
def GR (P : Pl) (N : List (List Nat)) (l : Lt) (bc cc q s : Nat) (μC μM : Mem) : Prop := (q = 214 ∨ q = 233) ∧ (s < 2) ∧ (pH P ≤ 6 ∧ pF P ≤ 6 ∧ pL P ≤ 4) ∧ (N.length = pF P + pL P) ∧ (okN N) ∧ (μC.2.2 2 1 = q) ∧ (μC.1 q 1 = nI (pH P)) ∧ (μC.1 q 2 = nI (pF P)) ∧ (μC.1 q 3 = nI (pL P)) ∧ (NC N μC) ∧ (LC' l μC) ∧ (μM.1 9 s = nI (pH P)) ∧ (μM.1 12 s = nI (pF P)) ∧ (μM.1 15 s = nI (pL P)) ∧ (NMn N μM) ∧ (LM' l μM) ∧ (μM.1 0 19 = nI s) ∧ (CdB (420 * s) cc μM) ∧ (μM.1 0 36 = nI bc ∧ 130 * s ≤ bc) ∧ (l.1 = 0 → PWr P ∧ (CcS P q μC ∧ CcF P q μC ∧ CcW P q μC ∧ CcL P q μC ∧ CcG P q μC) ∧ (CmS P s μM ∧ CmF P s μM ∧ CmW P s μM ∧ CmL P s μM ∧ CmG P s bc cc μM))
section
variable {P : Pl} {N : List (List Nat)} {l : Lt} {bc cc q s : Nat} {μC μM : Mem}
theorem GR.hq (h : GR P N l bc cc q s μC μM) : q = 214 ∨ q = 233 := h.1
theorem GR.hs (h : GR P N l bc cc q s μC μM) : s < 2 := h.2.1
theorem GR.b6 (h : GR P N l bc cc q s μC μM) : pH P ≤ 6 ∧ pF P ≤ 6 ∧ pL P ≤ 4 := h.2.2.1
theorem GR.nl (h : GR P N l bc cc q s μC μM) : N.length = pF P + pL P := h.2.2.2.1
theorem GR.ok (h : GR P N l bc cc q s μC μM) : okN N := h.2.2.2.2.1
theorem GR.cp (h : GR P N l bc cc q s μC μM) : μC.2.2 2 1 = q := h.2.2.2.2.2.1
theorem GR.c1 (h : GR P N l bc cc q s μC μM) : μC.1 q 1 = nI (pH P) := h.2.2.2.2.2.2.1
theorem GR.c2 (h : GR P N l bc cc q s μC μM) : μC.1 q 2 = nI (pF P) := h.2.2.2.2.2.2.2.1
theorem GR.c3 (h : GR P N l bc cc q s μC μM) : μC.1 q 3 = nI (pL P) := h.2.2.2.2.2.2.2.2.1
theorem GR.cn (h : GR P N l bc cc q s μC μM) : NC N μC := h.2.2.2.2.2.2.2.2.2.1
theorem GR.cl (h : GR P N l bc cc q s μC μM) : LC' l μC := h.2.2.2.2.2.2.2.2.2.2.1
theorem GR.m1 (h : GR P N l bc cc q s μC μM) : μM.1 9 s = nI (pH P) := h.2.2.2.2.2.2.2.2.2.2.2.1
theorem GR.m2 (h : GR P N l bc cc q s μC μM) : μM.1 12 s = nI (pF P) := h.2.2.2.2.2.2.2.2.2.2.2.2.1
theorem GR.m3 (h : GR P N l bc cc q s μC μM) : μM.1 15 s = nI (pL P) := h.2.2.2.2.2.2.2.2.2.2.2.2.2.1
theorem GR.mn (h : GR P N l bc cc q s μC μM) : NMn N μM := h.2.2.2.2.2.2.2.2.2.2.2.2.2.2.1
theorem GR.ml (h : GR P N l bc cc q s μC μM) : LM' l μM := h.2.2.2.2.2.2.2.2.2.2.2.2.2.2.2.1
theorem GR.ms (h : GR P N l bc cc q s μC μM) : μM.1 0 19 = nI s := h.2.2.2.2.2.2.2.2.2.2.2.2.2.2.2.2.1
theorem GR.mc (h : GR P N l bc cc q s μC μM) : CdB (420 * s) cc μM := h.2.2.2.2.2.2.2.2.2.2.2.2.2.2.2.2.2.1
theorem GR.mb (h : GR P N l bc cc q s μC μM) : μM.1 0 36 = nI bc ∧ 130 * s ≤ bc := h.2.2.2.2.2.2.2.2.2.2.2.2.2.2.2.2.2.2.1
theorem GR.con (h : GR P N l bc cc q s μC μM) : l.1 = 0 → PWr P ∧ (CcS P q μC ∧ CcF P q μC ∧ CcW P q μC ∧ CcL P q μC ∧ CcG P q μC) ∧ (CmS P s μM ∧ CmF P s μM ∧ CmW P s μM ∧ CmL P s μM ∧ CmG P s bc cc μM) := h.2.2.2.2.2.2.2.2.2.2.2.2.2.2.2.2.2.2.2
end
section
variable {S' : Nat → Nat → Prop} {L' : Nat → Prop} {P P' : Pl} {q s bc cc : Nat} {μ μ' : Mem}
theorem CcS.kz (h : CcS P q μ) (k : Kz S' L' μ μ') (h4 : ¬ S' q 4) (h5 : ¬ S' q 5) (h6 : ¬ S' q 6) : CcS P q μ' := ⟨(k.at h4).trans h.1, (k.at h5).trans h.2.1, (k.at h6).trans h.2.2⟩
theorem CcF.kz (h : CcF P q μ) (k : Kz S' L' μ μ') (h3 : ∀ j, ¬ S' (q + 3) j) (h4 : ∀ j, ¬ S' (q + 4) j) : CcF P q μ' := fun f hf => ⟨(k.at (h3 f)).trans (h f hf).1, (k.at (h4 f)).trans (h f hf).2⟩
theorem CcW.kz (h : CcW P q μ) (k : Kz S' L' μ μ') (h3 : ∀ j, ¬ S' (q + 5) j) (h4 : ∀ j, ¬ S' (q + 6) j) : CcW P q μ' := fun f hf => ⟨(k.at (h3 f)).trans (h f hf).1, (k.at (h4 f)).trans (h f hf).2⟩
theorem CcL.kz (h : CcL P q μ) (k : Kz S' L' μ μ') (h0 : ¬ S' q 0) (h1 : ∀ j, ¬ S' (q + 1) j) (h2 : ∀ j, ¬ S' (q + 2) j) : CcL P q μ' := ⟨(k.at h0).trans h.1, fun c hc => (k.at (h1 c)).trans (h.2.1 c hc), fun f hf => (k.at (h2 f)).trans (h.2.2 f hf)⟩
theorem cLawAt.kz {a pl : Nat} {L : Lw} (h : cLawAt μ a pl L) (k : Kz S' L' μ μ') (h0 : ¬ S' a 3) (h1 : ∀ j, ¬ S' (a + 1) j) : cLawAt μ' a pl L := h.of (k.at h0) (funext fun j => k.at (h1 j))
theorem CmS.kz (h : CmS P s μ) (k : Kz S' L' μ μ') (h4 : ¬ S' 18 s) (h5 : ¬ S' 19 s) (h6 : ¬ S' 20 s) : CmS P s μ' := ⟨(k.at h4).trans h.1, (k.at h5).trans h.2.1, (k.at h6).trans h.2.2⟩
theorem CmF.kz (h : CmF P s μ) (k : Kz S' L' μ μ') (h3 : ∀ j, ¬ S' 13 j) (h4 : ∀ j, ¬ S' 14 j) : CmF P s μ' := fun f hf => ⟨(k.at (h3 _)).trans (h f hf).1, (k.at (h4 _)).trans (h f hf).2⟩
theorem CmW.kz (h : CmW P s μ) (k : Kz S' L' μ μ') (h3 : ∀ j, ¬ S' 16 j) (h4 : ∀ j, ¬ S' 17 j) : CmW P s μ' := fun f hf => ⟨(k.at (h3 _)).trans (h f hf).1, (k.at (h4 _)).trans (h f hf).2⟩
theorem CmL.kz (h : CmL P s μ) (k : Kz S' L' μ μ') (h0 : ¬ S' 10 s) (h1 : ∀ j, ¬ S' 11 j) : CmL P s μ' := ⟨(k.at h0).trans h.1, fun c hc => (k.at (h1 _)).trans (h.2 c hc)⟩
theorem CmG.kz (h : CmG P s bc cc μ) (k : Kz S' L' μ μ') (hh : ∀ a j, 21 ≤ a → a ≤ 29 → ¬ S' a j) : CmG P s bc cc μ' := fun j hj => by
  rcases h j hj with ⟨e, e1, e2⟩ | ⟨e, b, b1, b2, b3, b4, b5⟩
  · exact Or.inl ⟨e, (k.at (hh 21 _ (by decide) (by decide))).trans e1, (k.at (hh 22 _ (by decide) (by decide))).trans e2⟩
  · exact Or.inr ⟨e, b, b1, b2, b3.same (fun a z h1 h2 _ _ => k.at (hh a z (by omega) (by omega))) (fun z _ => ⟨k.at (hh 28 z (by decide) (by decide)), k.at (hh 29 z (by decide) (by decide))⟩) (Nat.le_refl _), (k.at (hh 21 _ (by decide) (by decide))).trans b4, (k.at (hh 22 _ (by decide) (by decide))).trans b5⟩
end
theorem ltS_z {b : Bool} {k pl : Nat} {l : Lt} (hk : k ≠ 0) (h : (ltS b k pl l).1 = 0) : l.1 = 0 ∧ b = false := by
  by_cases e : l.1 = 0
  · cases b with
    | false => exact ⟨e, rfl⟩
    | true => rw [ltS_0 e] at h; exact absurd h hk
  · rw [ltS_n e] at h; exact absurd h e
theorem outR_f {lo hi v : Nat} (h : outR lo hi v = false) : lo ≤ v ∧ v ≤ hi := by
  unfold outR at h
  rw [Bool.or_eq_false_iff] at h
  have h1 := of_decide_eq_false h.1
  have h2 := of_decide_eq_false h.2
  omega
/-- the frames of all tells -/
def rdC (q a k : Nat) : Prop := (a = 2 ∧ 2 ≤ k) ∨ (a = q ∧ k ≤ 6) ∨ (q + 1 ≤ a ∧ a ≤ q + 6) ∨ ((a = q + 7 ∨ a = q + 11 ∨ a = q + 15) ∧ k = 3) ∨ a = q + 8 ∨ a = q + 12 ∨ a = q + 16
def rdM (s a k : Nat) : Prop := (a = 0 ∧ (k = 11 ∨ k = 12 ∨ k = 13 ∨ k = 14 ∨ k = 15 ∨ k = 16 ∨ k = 20 ∨ k = 36 ∨ k = 42 ∨ k = 46)) ∨ a = 30 ∨ ((a = 9 ∨ a = 10 ∨ a = 12 ∨ a = 15 ∨ a = 18 ∨ a = 19 ∨ a = 20) ∧ k = s) ∨ (a = 11 ∧ 48 * s ≤ k ∧ k < 48 * s + 48) ∨ ((a = 13 ∨ a = 14) ∧ 6 * s ≤ k ∧ k < 6 * s + 6) ∨ ((a = 16 ∨ a = 17) ∧ 4 * s ≤ k ∧ k < 4 * s + 4) ∨ ((a = 21 ∨ a = 22) ∧ 3 * s ≤ k ∧ k < 3 * s + 3) ∨ (23 ≤ a ∧ a ≤ 27 ∧ 130 * s ≤ k ∧ k < 130 * s + 130) ∨ ((a = 28 ∨ a = 29) ∧ 420 * s ≤ k ∧ k < 420 * s + 420)
abbrev KRc (q : Nat) (μ μ' : Mem) : Prop := Kz (rdC q) (fun a => a = 8) μ μ'
abbrev KRm (s : Nat) (μ μ' : Mem) : Prop := Kz (rdM s) (fun a => a = 8) μ μ'
def Inv (T : Nat → Tk) (l : Lt) (bc cc s i : Nat) : Prop := cc ≤ 420 * s + i ∧ 4 * (bc - 130 * s) ≤ i ∧ (l.1 ≠ 0 → l.2 < pc' T i)
/-- how wide the model's land is is never more than 8, whatever is wrong later on -/
def Wd (s : Nat) (μ μ' : Mem) : Prop := μ'.1 10 s = μ.1 10 s ∨ ∃ w, w ≤ 8 ∧ μ'.1 10 s = nI w
def TellR (d : Nat) (M : Nat) (T : Nat → Tk) (q s i : Nat) (μC μM : Mem) : Prop := ∃ q' μC' μM', X4_readTell (d + 17) μC μC' ∧ X10_tellOne (d + 18) μM μM' ∧ QSc M T q' μC' ∧ QSm M T q' μM' ∧ KRc q μC μC' ∧ KRm s μM μM' ∧ ∀ j, q' = .inl j → i < j ∧ Wd s μM μM' ∧ ∃ P' N' l' bc' cc', GR P' N' l' bc' cc' q s μC' μM' ∧ Inv T l' bc' cc' s j
theorem lt_ltS {b : Bool} {k pl x : Nat} {l : Lt} (h : l.1 ≠ 0 → l.2 < x) (hp : pl < x) : (ltS b k pl l).1 ≠ 0 → (ltS b k pl l).2 < x := fun z => by
  by_cases e : l.1 = 0
  · cases b with
    | false => exact h z
    | true => rw [ltS_0 e]; exact hp
  · rw [ltS_n e] at z ⊢; exact h e
end
end Rd
