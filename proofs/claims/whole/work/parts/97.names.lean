/-! ===== read: names, both sides ===== -/
section Rd
variable {d : Nat}
section
variable {S M : Nat} {T : Nat → Tk}
def okNm (x : List Nat) : Prop := 1 ≤ x.length ∧ x.length ≤ 8 ∧ dgs 27 x
def nth (N : List (List Nat)) (j : Nat) : List Nat := N.getD j []
def okN (N : List (List Nat)) : Prop := ∀ j, j < N.length → okNm (nth N j)
theorem nmB_lt {B : Nat} {x : List Nat} (hB : B = 27 ∨ B = 32) (h : okNm x) : nm B x < 2 ^ 40 ∧ dgs B x := by
  have hd : dgs B x := fun c hc => by
    have := h.2.2 c hc
    omega
  refine ⟨Nat.lt_of_lt_of_le (nm_lt x.length x rfl hd) ?_, hd⟩
  have : B ^ x.length ≤ 32 ^ 8 := Nat.le_trans (Nat.pow_le_pow_left (by omega) _) (Nat.pow_le_pow_right (by decide) h.2.1)
  exact Nat.le_trans this (by decide)
theorem nmB_eq {B : Nat} {x y : List Nat} (hB : B = 27 ∨ B = 32) (hx : okNm x) (hy : okNm y) : lI (nm B x) = lI (nm B y) ↔ x = y := by
  obtain ⟨x1, x2⟩ := nmB_lt hB hx
  obtain ⟨y1, y2⟩ := nmB_lt hB hy
  refine ⟨fun h => nm_inj (by omega) _ x y rfl x2 y2 (lI_inj (by omega) (by omega) h), fun h => by rw [h]⟩
/-- does x lie among the n names from j on -/
def hs (N : List (List Nat)) (x : List Nat) : Nat → Nat → Bool
  | _, 0 => false
  | j, n + 1 => decide (nth N j = x) || hs N x (j + 1) n
theorem ltS_2 {b : Bool} {k pl : Nat} {l : Lt} (hk : k ≠ 0) : ltS b k pl (ltS true k pl l) = ltS true k pl l := by
  by_cases e : l.1 = 0
  · rw [ltS_0 e, ltS_n hk]
  · rw [ltS_n e, ltS_n e]
def NC (N : List (List Nat)) (μ : Mem) : Prop := μ.1 2 5 = nI N.length ∧ ∀ j, j < N.length → μ.2.1 8 j = lI (nm 32 (nth N j))
def NMn (N : List (List Nat)) (μ : Mem) : Prop := μ.1 0 20 = nI N.length ∧ ∀ j, j < N.length → μ.2.1 8 j = lI (nm 27 (nth N j))
theorem nth_app {N : List (List Nat)} {x : List Nat} {j : Nat} : (j < N.length → nth (N ++ [x]) j = nth N j) ∧ (j = N.length → nth (N ++ [x]) j = x) := by
  refine ⟨fun h => ?_, fun h => ?_⟩
  · show ((N ++ [x])[j]?).getD [] = (N[j]?).getD []
    rw [List.getElem?_append_left h]
  · show ((N ++ [x])[j]?).getD [] = x
    rw [h, List.getElem?_append_right (Nat.le_refl _), Nat.sub_self]
    rfl
def naC (a k : Nat) : Prop := a = 2 ∧ (k = 2 ∨ k = 3 ∨ k = 5 ∨ k = 6 ∨ k = 7 ∨ k = 8 ∨ k = 9)
def naM (a k : Nat) : Prop := a = 0 ∧ (k = 11 ∨ k = 13 ∨ k = 14 ∨ k = 15 ∨ k = 16 ∨ k = 20)
abbrev KNc (μ μ' : Mem) : Prop := Kz naC (fun a => a = 8) μ μ'
abbrev KNm (μ μ' : Mem) : Prop := Kz naM (fun a => a = 8) μ μ'
theorem KC.n {μ μ' : Mem} (h : KC μ μ') : KNc μ μ' := h.mono (fun a k q => by unfold laC at q; unfold naC; omega) (fun _ q => q.elim)
theorem KMl.n {μ μ' : Mem} (h : KMl μ μ') : KNm μ μ' := h.mono (fun a k q => by unfold laM at q; unfold naM; omega) (fun _ q => q.elim)
theorem NC.kc {N : List (List Nat)} {μ μ' : Mem} (h : NC N μ) (k : KC μ μ') : NC N μ' := ⟨(k.at (by unfold laC; omega)).trans h.1, fun j hj => by rw [k.lg (fun z => z)]; exact h.2 j hj⟩
theorem NMn.kc {N : List (List Nat)} {μ μ' : Mem} (h : NMn N μ) (k : KMl μ μ') : NMn N μ' := ⟨(k.at (by unfold laM; omega)).trans h.1, fun j hj => by rw [k.lg (fun z => z)]; exact h.2 j hj⟩
theorem nloop_c {N : List (List Nat)} {x : List Nat} {pl : Nat} (hN : okN N) (h10 : N.length < 10) (hx : okNm x) : ∀ (n j : Nat) (l : Lt) (μ : Mem), j + n = N.length → NC N μ → LC' l μ → ∃ μ', X4_readName_at23 d (lI (nm 32 x)) (nI pl) (nI j) μ μ' ∧ NC (N ++ [x]) μ' ∧ LC' (ltS (hs N x j n) 3 pl l) μ' ∧ Kz (fun a k => a = 2 ∧ (k = 5 ∨ k = 8 ∨ k = 9)) (fun a => a = 8) μ μ'
  | 0, j, l, μ, hj, hC, hl => by
    refine ⟨sI (sJ μ 8 N.length (lI (nm 32 x))) 2 5 (nI (N.length + 1)), X4_readName_at23_ok ?_, ⟨?_, fun k hk => ?_⟩, ⟨hl.1, ?_, ?_⟩, Kz.trans (Kz.sJ rfl) (Kz.sI (by omega))⟩
    · rw [hC.1]
      refine tpos ((nI_le_iff (by omega) (by omega)).2 (by omega)) (tneg (fun z => ?_) ⟨vp_inN (by omega) (by decide), ?_⟩)
      · have := (nI_le_iff (a := 10) (by omega) (by omega)).1 z
        omega
      · rw [nI_clamp (by omega)]
        rintro μ1 rfl
        rw [sJ_i, hC.1, nI_1]
        rintro μ2 rfl
        rfl
    · rw [sI_1, List.length_append]; rfl
    · rw [List.length_append] at hk
      have hk : k < N.length + 1 := hk
      rw [sI_2]
      by_cases e : k = N.length
      · rw [nth_app.2 e, e, sJ_at]
      · rw [nth_app.1 (by omega), sJ_k e]
        exact hC.2 k (by omega)
    · rw [sI_k (by decide), sJ_i]; exact hl.2.1
    · rw [sI_k (by decide), sJ_i]; exact hl.2.2
  | n + 1, j, l, μ, hj, hC, hl => by
    have hjl : j < N.length := by omega
    have nle : ¬ μ.1 2 5 ≤ nI j := by
      rw [hC.1]
      intro z
      have := (nI_le_iff (by omega) (by omega)).1 z
      omega
    have vin : vp_in (nI j) 10 := vp_inN (by omega) (by decide)
    by_cases e : nth N j = x
    · obtain ⟨m1, g1, g2, g3⟩ := later_c (d := d) (k := 3) (pl := pl) (by decide) hl
      have C1 : NC N m1 := ⟨(g3.at (by omega)).trans hC.1, fun k hk => by rw [g3.lg (fun z => z)]; exact hC.2 k hk⟩
      obtain ⟨m2, r1, r2, r3, r4⟩ := nloop_c hN h10 hx n (j + 1) _ m1 (by omega) C1 g2
      refine ⟨m2, X4_readName_at23_ok (tneg nle ⟨vin, teq (lgc.2 ?_) ⟨m1, g1, by rw [nI_1]; exact r1⟩⟩), r2, ?_, (g3.mono (fun a k q => by omega) (fun _ q => q.elim)).trans r4⟩
      · rw [nI_clamp (by omega), hC.2 j hjl, e]
      · rw [ltS_2 (by decide)] at r3
        show LC' (ltS (decide (nth N j = x) || hs N x (j + 1) n) 3 pl l) m2
        rw [decide_eq_true e, Bool.true_or]
        exact r3
    · obtain ⟨m2, r1, r2, r3, r4⟩ := nloop_c hN h10 hx n (j + 1) l μ (by omega) hC hl
      refine ⟨m2, X4_readName_at23_ok (tneg nle ⟨vin, tne (fun z => e ?_) (by rw [nI_1]; exact r1)⟩), r2, ?_, r4⟩
      · have z := lgc.1 z
        rw [nI_clamp (by omega), hC.2 j hjl] at z
        exact (nmB_eq (Or.inr rfl) (hN j hjl) hx).1 z
      · show LC' (ltS (decide (nth N j = x) || hs N x (j + 1) n) 3 pl l) m2
        rw [decide_eq_false e, Bool.false_or]
        exact r3
theorem tv_nm {i : Nat} (hV : TV S M T) (hi : i < M) (hk : kd T i = 21) : okNm (nm' T i) := (hV.2.2.1 i hi).2.2.2 hk
theorem name_c {N : List (List Nat)} {q : Qs} {l : Lt} {μ : Mem} (hN : okN N) (h10 : N.length < 10) (hV : TV S M T) (hT : TC M T μ) (h : QSc M T q μ) (hCl : ∀ i, q = .inl i → NC N μ ∧ LC' l μ) : ∃ μ', X4_readName (d + 2) μ μ' ∧ QSc M T (acq T 21 q) μ' ∧ KNc μ μ' ∧ ∀ j, acq T 21 q = .inl j → ∃ i, q = .inl i ∧ i < M ∧ j = i + 1 ∧ kd T i = 21 ∧ NC (N ++ [nm' T i]) μ' ∧ LC' (ltS (hs N (nm' T i) 0 N.length) 3 (pc' T i) l) μ' := by
  have hm := hV.2.1
  have hn : ∃ i, i ≤ 400 ∧ μ.1 2 2 = nI i := by
    cases q with
    | inl i => exact ⟨i, by have := h.1; omega, h.2.2.1⟩
    | inr e => exact h.2.2.2.2
  obtain ⟨n, n1, n2⟩ := hn
  have vc := value_c (d := d + 1) n1 n2
  have sc := start_c (d := d + 1) n1 n2
  obtain ⟨m1, a1, a2, a3⟩ := accQ (d := d) (k := 21) hV hT (by decide) (by decide) h
  cases hq : acq T 21 q with
  | inr e =>
    rw [hq] at a1 a2
    exact ⟨m1, X4_readName_ok ⟨_, μ, vc, _, μ, sc, _, m1, a1, teq rfl rfl⟩, a2, a3.c.n, fun j z => by cases z⟩
  | inl j =>
    rw [hq] at a1 a2
    obtain ⟨i, rfl, hk, _, rfl⟩ := acq_inl hq
    have ei : n = i := by
      have z := h.2.2.1
      rw [n2] at z
      exact nI_inj (by omega) (by have := h.1; omega) z
    subst ei
    obtain ⟨hC, hl⟩ := hCl n rfl
    obtain ⟨m2, r1, r2, r3, r4⟩ := nloop_c (d := d + 1) (pl := pc' T n) hN h10 (tv_nm hV h.1 hk) N.length 0 l m1 (by omega) (hC.kc a3.c) (hl.ka a3)
    refine ⟨m2, X4_readName_ok ⟨_, μ, vc, _, μ, sc, _, m1, a1, tne (show (1 : Int32) ≠ 0 by decide) ?_⟩, ⟨a2.1, ⟨(r4.at (by omega)).trans a2.2.1, (r4.at (by omega)).trans a2.2.2.1, (r4.at (by omega)).trans a2.2.2.2⟩⟩, a3.c.n.trans (r4.mono (fun a k q => by unfold naC; omega) (fun _ q => q)), fun j z => ?_⟩
    · rw [(hT n h.1).2.2.2 hk, (hT n h.1).2.1]
      exact r1
    · cases z
      exact ⟨n, rfl, h.1, rfl, hk, r2, r3⟩
theorem nloop_m {N : List (List Nat)} {t : Nat} (hN : okN N) (h10 : N.length < 10) (hV : TV S M T) (ht : t < M) (hk : kd T t = 21) : ∀ (n j : Nat) (l : Lt) (μ : Mem), j + n = N.length → TM M T μ → μ.1 0 13 = 0 → NMn N μ → LM' l μ → Lo l 3 (pc' T t) → ∃ μ', X10_named_at12 d (nI t) (nI j) μ (nI t) μ' ∧ LM' (ltS (hs N (nm' T t) j n) 3 (pc' T t) l) μ' ∧ Kz (fun a k => a = 0 ∧ (k = 15 ∨ k = 16)) (fun _ => False) μ μ'
  | 0, j, l, μ, hj, hT, h0, hC, hl, ho => ⟨μ, X10_named_at12_ok (tpos (by rw [hC.1]; exact (nI_le_iff (by omega) (by omega)).2 (by omega)) ⟨rfl, rfl⟩), hl, Kz.refl⟩
  | n + 1, j, l, μ, hj, hT, h0, hC, hl, ho => by
    have hm := hV.2.1
    have hjl : j < N.length := by omega
    have nle : ¬ μ.1 0 20 ≤ nI j := by
      rw [hC.1]
      intro z
      have := (nI_le_iff (by omega) (by omega)).1 z
      omega
    have vin : vp_in (nI j) 10 := vp_inN (by omega) (by decide)
    have vit : vp_in (nI t) 403 := vp_inN (by omega) (by decide)
    have hx := tv_nm hV ht hk
    by_cases e : nth N j = nm' T t
    · obtain ⟨m1, g1, g2, g3⟩ := wrong_m (d := d) (k := 3) hV hT h0 ht (by decide) hl ho
      have C1 : NMn N m1 := ⟨(g3.at (by omega)).trans hC.1, fun k hk => by rw [g3.lg (fun z => z)]; exact hC.2 k hk⟩
      have T1 : TM M T m1 := hT.kz g3 (fun j => by omega) (fun j => by omega) (fun j => by omega) (fun z => z)
      obtain ⟨m2, r1, r3, r4⟩ := nloop_m hN h10 hV ht hk n (j + 1) _ m1 (by omega) T1 ((g3.at (by omega)).trans h0) C1 g2 (ltS_lo ho (Or.inr ⟨rfl, Nat.le_refl _⟩) ho)
      refine ⟨m2, X10_named_at12_ok (tneg nle (teq h0 ⟨vin, vit, teq (lgc.2 ?_) ⟨m1, g1, by rw [nI_1]; exact r1⟩⟩)), ?_, g3.trans r4⟩
      · rw [nI_clamp (by omega), nI_clamp (by omega), hC.2 j hjl, e, (hT t ht).2.2.2 hk]
      · rw [ltS_2 (by decide)] at r3
        show LM' (ltS (decide (nth N j = nm' T t) || hs N (nm' T t) (j + 1) n) 3 (pc' T t) l) m2
        rw [decide_eq_true e, Bool.true_or]
        exact r3
    · obtain ⟨m2, r1, r3, r4⟩ := nloop_m hN h10 hV ht hk n (j + 1) l μ (by omega) hT h0 hC hl ho
      refine ⟨m2, X10_named_at12_ok (tneg nle (teq h0 ⟨vin, vit, tne (fun z => e ?_) (by rw [nI_1]; exact r1)⟩)), ?_, r4⟩
      · have z := lgc.1 z
        rw [nI_clamp (by omega), nI_clamp (by omega), hC.2 j hjl, (hT t ht).2.2.2 hk] at z
        exact (nmB_eq (Or.inl rfl) (hN j hjl) hx).1 z
      · show LM' (ltS (decide (nth N j = nm' T t) || hs N (nm' T t) (j + 1) n) 3 (pc' T t) l) m2
        rw [decide_eq_false e, Bool.false_or]
        exact r3
theorem named_m {N : List (List Nat)} {q : Qs} {l : Lt} {μ : Mem} (hN : okN N) (h10 : N.length < 10) (hV : TV S M T) (hT : TM M T μ) (h : QSm M T q μ) (hCl : ∀ i, q = .inl i → NMn N μ ∧ LM' l μ) (ho : ∀ i, q = .inl i → Lo l 3 (pc' T i)) : ∃ x μ', X10_named (d + 3) μ x μ' ∧ QSm M T (acq T 21 q) μ' ∧ KMl μ μ' ∧ (∃ i, i ≤ 400 ∧ x = nI i) ∧ ∀ j, acq T 21 q = .inl j → ∃ i, q = .inl i ∧ x = nI i ∧ LM' (ltS (hs N (nm' T i) 0 N.length) 3 (pc' T i) l) μ' := by
  have hm := hV.2.1
  have hn : ∃ i, i ≤ 400 ∧ μ.1 0 11 = nI i := by
    cases q with
    | inl i => exact ⟨i, by have := h.1; omega, h.2.1.2⟩
    | inr e => exact h.2.2.2.2
  obtain ⟨n, n1, n2⟩ := hn
  obtain ⟨m1, a1, a2, a3⟩ := mustQ (d := d) (k := 21) (x := 1) hV hT rfl (by decide) (by decide) h
  cases hq : acq T 21 q with
  | inr e =>
    rw [hq] at a2
    refine ⟨nI n, m1, X10_named_ok ⟨m1, a1, ?_⟩, a2, a3.c, ⟨n, n1, rfl⟩, fun j z => by cases z⟩
    rw [n2]
    refine X10_named_at12_ok ⟨fun _ => ⟨rfl, rfl⟩, fun _ => tne a2.2.ne ⟨rfl, rfl⟩⟩
  | inl j =>
    rw [hq] at a2
    obtain ⟨i, rfl, hk, _, rfl⟩ := acq_inl hq
    have ei : n = i := by
      have z := h.2.1.2
      rw [n2] at z
      exact nI_inj (by omega) (by have := h.1; omega) z
    subst ei
    obtain ⟨hC, hl⟩ := hCl n rfl
    have C1 := hC.kc a3.c
    obtain ⟨m2, r1, r3, r4⟩ := nloop_m (d := d + 2) hN h10 hV h.1 hk N.length 0 l m1 (by omega) (hT.kc a3.c) a2.2.1.1 C1 (hl.kv a3) (ho n rfl)
    refine ⟨nI n, m2, X10_named_ok ⟨m1, a1, ?_⟩, QSm.of a2 (r4.at (by omega)) (r4.at (by omega)) (r4.at (by omega)) (r4.at (by omega)), a3.c.trans (r4.mono (fun a k q => by unfold laM; omega) (fun _ q => q)), ⟨n, n1, rfl⟩, fun j z => ?_⟩
    · rw [n2]; exact r1
    · cases z
      exact ⟨n, rfl, rfl, r3⟩
theorem ends_m {N : List (List Nat)} {q : Qs} {t : Nat} {μ : Mem} (h10 : N.length < 10) (hV : TV S M T) (hT : TM M T μ) (h : QSm M T q μ) (hC : ∀ i, q = .inl i → NMn N μ) (ht : t ≤ 400) : ∃ μ', X10_ends (d + 3) (nI t) μ μ' ∧ QSm M T (acq T 23 q) μ' ∧ KNm μ μ' ∧ (μ'.1 0 15 = μ.1 0 15 ∧ μ'.1 0 16 = μ.1 0 16) ∧ ∀ j, acq T 23 q = .inl j → (t < M → kd T t = 21 → NMn (N ++ [nm' T t]) μ') := by
  obtain ⟨m1, a1, a2, a3⟩ := mustQ (d := d) (k := 23) (x := 4) hV hT rfl (by decide) (by decide) h
  cases hq : acq T 23 q with
  | inr e =>
    rw [hq] at a2
    exact ⟨m1, X10_ends_ok ⟨m1, a1, tneg a2.2.nle rfl⟩, a2, a3.c.n, ⟨a3.at (by unfold mvM; omega), a3.at (by unfold mvM; omega)⟩, fun j z => by cases z⟩
  | inl j =>
    rw [hq] at a2
    obtain ⟨i, hi, _⟩ := acq_inl hq
    have C1 := (hC i hi).kc a3.c
    have k2 : Kz (fun a k => a = 0 ∧ k = 20) (fun a => a = 8) m1 (sI (sJ m1 8 N.length (m1.2.1 6 t)) 0 20 (nI (N.length + 1))) := Kz.trans (Kz.sJ rfl) (Kz.sI (by omega))
    refine ⟨sI (sJ m1 8 N.length (m1.2.1 6 t)) 0 20 (nI (N.length + 1)), X10_ends_ok ⟨m1, a1, tpos (by rw [a2.2.1.1]; decide) ⟨vp_inN (by omega) (by decide), by rw [C1.1]; exact vp_inN (by omega) (by decide), ?_⟩⟩, QSm.of a2 (k2.at (by omega)) (k2.at (by omega)) (k2.at (by omega)) (k2.at (by omega)), a3.c.n.trans (k2.mono (fun a k q => by unfold naM; omega) (fun _ q => q)), ⟨(k2.at (by omega)).trans (a3.at (by unfold mvM; omega)), (k2.at (by omega)).trans (a3.at (by unfold mvM; omega))⟩, fun j z ht' hk => ⟨?_, fun k hk' => ?_⟩⟩
    · rw [C1.1, nI_clamp (by omega), nI_clamp (by omega)]
      rintro μ1 rfl
      rw [sJ_i, C1.1, nI_1]
      rintro μ2 rfl
      rfl
    · rw [sI_1, List.length_append]; rfl
    · rw [List.length_append] at hk'
      have hk' : k < N.length + 1 := hk'
      rw [sI_2]
      by_cases e : k = N.length
      · rw [nth_app.2 e, e, sJ_at, ((hT.kc a3.c) t ht').2.2.2 hk]
      · rw [nth_app.1 (by omega), sJ_k e]
        exact C1.2 k (by omega)
end
end Rd
