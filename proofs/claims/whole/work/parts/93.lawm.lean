/-! ===== read: a law, the model's side ===== -/
section Rd
variable {d : Nat}
section
variable {S M : Nat} {T : Nat → Tk} {C0 B0 : Nat}
theorem nar0 : vp_nar .boolean 0 = 0 := by decide
theorem nar1 : vp_nar .boolean 1 = 1 := by decide
def QSm (M : Nat) (T : Nat → Tk) (q : Qs) (μ : Mem) : Prop := match q with
  | .inl i => i < M ∧ RM i μ ∧ μ.1 0 12 = 0
  | .inr e => e.2 < M ∧ FM e.1 (pc' T e.2) μ
theorem QSm.of {q : Qs} {μ μ' : Mem} (h : QSm M T q μ) (k1 : μ'.1 0 11 = μ.1 0 11) (k2 : μ'.1 0 12 = μ.1 0 12) (k3 : μ'.1 0 13 = μ.1 0 13) (k4 : μ'.1 0 14 = μ.1 0 14) : QSm M T q μ' := by
  cases q with
  | inl i => exact ⟨h.1, ⟨k3.trans h.2.1.1, k1.trans h.2.1.2⟩, k2.trans h.2.2⟩
  | inr e => exact ⟨h.1, h.2.of k1 k3 k4⟩
theorem QSm.n {q : Qs} {a k : Nat} {x : Int32} {μ : Mem} (h : QSm M T q μ) (ha : a ≠ 0) : QSm M T q (sI μ a k x) := h.of (by rw [sI_n (Ne.symm ha)]) (by rw [sI_n (Ne.symm ha)]) (by rw [sI_n (Ne.symm ha)]) (by rw [sI_n (Ne.symm ha)])
theorem mustQ {k : Nat} {x : Int32} {q : Qs} {μ : Mem} (hV : TV S M T) (hT : TM M T μ) (hx : x = nI (mk k)) (hk : k ≤ 33) (h32 : k ≠ 32) (h : QSm M T q μ) : ∃ μ', X10_must (d + 2) x μ μ' ∧ QSm M T (acq T k q) μ' ∧ KV μ μ' := by
  cases q with
  | inr e => exact ⟨μ, must_F h.2, h, Kz.refl⟩
  | inl i =>
    rw [acq_i]
    by_cases e : kd T i = k
    · rw [if_pos e]
      by_cases e4 : i = 400
      · rw [if_pos e4]
        obtain ⟨μ', g1, g2, g3⟩ := must_X (d := d) hV hT h.2.1 h.1 hx hk (Or.inr e4)
        rw [if_pos e] at g2
        exact ⟨μ', g1, ⟨h.1, g2⟩, g3⟩
      · rw [if_neg e4]
        obtain ⟨μ', g1, g2, g3, g4⟩ := must_S (d := d) hV hT h.2.1 h.1 hx e h32 e4
        exact ⟨μ', g1, ⟨g4, g2, (g3.at (by unfold mvM; omega)).trans h.2.2⟩, g3⟩
    · rw [if_neg e]
      obtain ⟨μ', g1, g2, g3⟩ := must_X (d := d) hV hT h.2.1 h.1 hx hk (Or.inl e)
      rw [if_neg e] at g2
      exact ⟨μ', g1, ⟨h.1, g2⟩, g3⟩
theorem goQ {i : Nat} {μ : Mem} (hV : TV S M T) (hT : TM M T μ) (h : QSm M T (.inl i) μ) (h32 : kd T i ≠ 32) : ∃ μ', X10_goesOn (d + 1) μ μ' ∧ QSm M T (acq T (kd T i) (.inl i)) μ' ∧ KV μ μ' := by
  have hm := hV.2.1
  have hi := h.1
  rw [acq_i, if_pos rfl]
  by_cases e4 : i = 400
  · rw [if_pos e4]
    obtain ⟨μ', g1, g2, g3⟩ := go_X (d := d) hV hT h.2.1 h.1 e4
    exact ⟨μ', g1, ⟨h.1, g2⟩, g3⟩
  · rw [if_neg e4]
    obtain ⟨g1, g2, g3⟩ := go_S (d := d) h.2.1 (show i < 400 by omega)
    exact ⟨_, g1, ⟨hV.next h.1 h32 e4, g2, (g3.at (by unfold mvM; omega)).trans h.2.2⟩, g3⟩
def LeM (C0 c : Nat) (q : Qs) : Prop := ∀ i, q = .inl i → c ≤ C0 + i
theorem LeM.acq {c k : Nat} {q : Qs} (h : LeM C0 c q) : LeM C0 c (acq T k q) := fun j hj => by
  obtain ⟨i, h1, _, _, rfl⟩ := acq_inl hj
  have := h i h1
  omega
/-- the codes' count -/
def CdB (C0 c : Nat) (μ : Mem) : Prop := C0 ≤ c ∧ c ≤ C0 + 402 ∧ μ.1 0 42 = nI c
theorem exprQ {c : Nat} {q : Qs} {μ : Mem} (hC : C0 + 420 ≤ 840) (hV : TV S M T) (hT : TM M T μ) (h : QSm M T q μ) (hL : CdB C0 c μ) (hc : LeM C0 c q) : ∃ c' μ', X10_expression (d + 3) μ μ' ∧ QSm M T (eQ T q) μ' ∧ CdB C0 c' μ' ∧ KX C0 μ μ' ∧ (∀ j, eQ T q = .inl j → PutM c (cdQ T q) μ μ' ∧ c' = c + (cdQ T q).length ∧ ∃ i, q = .inl i ∧ i + (cdQ T q).length ≤ j ∧ i < j) := by
  have k0 : Kz (fun a k => a = 0 ∧ k = 46) (fun _ => False) μ (sI μ 0 46 0) := Kz.sI ⟨rfl, rfl⟩
  have x0 : KX C0 μ (sI μ 0 46 0) := Kz.sI (by unfold exM; omega)
  cases q with
  | inr e =>
    refine ⟨c, sI μ 0 46 0, X10_expression_ok ?_, h.of (k0.at (by omega)) (k0.at (by omega)) (k0.at (by omega)) (k0.at (by omega)), ⟨hL.1, hL.2.1, (k0.at (by omega)).trans hL.2.2⟩, x0, fun j z => by cases z⟩
    rintro μ1 rfl
    refine X10_expression_at12_ok (tneg (by decide) (tne ?_ rfl))
    rw [k0.at (by omega)]
    exact h.2.ne
  | inl i =>
    have hm := hV.2.1
    have ci := hc i rfl
    have h1 : QSm M T (.inl i) (sI μ 0 46 0) := h.of (k0.at (by omega)) (k0.at (by omega)) (k0.at (by omega)) (k0.at (by omega))
    have S0 : SM i 0 (pl 0 ++ (pl 0 ++ [])) c (sI μ 0 46 0) := ⟨h1.2.1, h1.2.2, sI_1, trivial, (k0.at (by omega)).trans hL.2.2⟩
    obtain ⟨g1, g2⟩ := par_m (d := d) hC hV 900 0 i c 0 0 true [] (sI μ 0 46 0) (by omega) (by rw [if_pos rfl]; omega) h.1 (Or.inl rfl) (Or.inl rfl) (fun z => by cases z) (fun o ho => by cases ho) (fun _ => Or.inl rfl) (by rw [if_pos rfl]; exact Nat.le_refl _) hL.1 (by show c + 0 + 0 + 0 ≤ C0 + i; omega) S0 (hT.kx x0)
    have ent : ∀ μ', X10_expression_at23 (d + 2) 0 (sI μ 0 46 0) μ' → X10_expression (d + 3) μ μ' := fun μ' z => by
      refine X10_expression_ok ?_
      rintro μ1 rfl
      rw [h1.2.2]
      exact X10_expression_at12_ok (tneg (by decide) (teq h1.2.1.1 z))
    show ∃ c' μ', _ ∧ QSm M T (match parE T 900 0 i true 0 0 with | .inl q => .inl q.2 | .inr e => .inr e) μ' ∧ _ ∧ _ ∧ (∀ j, (match parE T 900 0 i true 0 0 with | .inl q => (.inl q.2 : Qs) | .inr e => .inr e) = .inl j → PutM c (match parE T 900 0 i true 0 0 with | .inl q => q.1 | .inr _ => []) μ μ' ∧ c' = c + (match parE T 900 0 i true 0 0 with | .inl q => q.1 | .inr _ => []).length ∧ ∃ i', (.inl i : Qs) = .inl i' ∧ i' + (match parE T 900 0 i true 0 0 with | .inl q => q.1 | .inr _ => []).length ≤ j ∧ i' < j)
    cases hq : parE T 900 0 i true 0 0 with
    | inr e =>
      obtain ⟨ef, ek⟩ := e
      obtain ⟨μ', r1, r2, ⟨c', r3, r4, r5⟩, r6⟩ := g2 ef ek hq
      obtain ⟨x1, _, _⟩ := (par_c (d := 0) (a1 := 1000) (by omega) hV 900 0 6 i 0 0 0 0 true (sI (sI (sI ((fun a k => if a = 5 then nI (kd T k) else if a = 6 then nI (pc' T k) else 0), (fun _ k => if kd T k = 22 then lI (vl' T k) else lI (nm 32 (nm' T k))), μ.2.2) 2 6 0) 2 2 (nI i)) 2 3 (nI (kd T i))) rfl (by rw [if_pos rfl]; omega) h.1 (by show 0 + 0 + 0 ≤ i; omega) (Or.inl rfl) (Or.inl rfl) (fun z => by cases z) (Nat.zero_le _) ⟨by rw [sI_k (by decide), sI_k (by decide), sI_1], by rw [sI_k (by decide), sI_1], sI_1⟩ (fun j hj => ⟨by rw [sI_n (by decide), sI_n (by decide), sI_n (by decide)]; rfl, by rw [sI_n (by decide), sI_n (by decide), sI_n (by decide)]; rfl, fun z => if_pos z, fun z => if_neg (by omega)⟩) ⟨by omega, by rw [sI_n (by decide), sI_n (by decide), sI_n (by decide)]; rfl⟩).2 ef ek hq
      exact ⟨c', μ', ent _ r1, ⟨x1, r2⟩, ⟨r3, r4, r5⟩, x0.trans r6, fun j z => by cases z⟩
    | inl r =>
      obtain ⟨cs, j⟩ := r
      obtain ⟨μ1, c1, s', p', e1, e2, e3, _, ⟨R1, O1, S1⟩, e5, e6, e7, e8⟩ := g1 cs j hq
      obtain ⟨b1, b2, b3, b4, b5⟩ := par_ok hV 900 0 i true 0 0 cs j (by omega) h.1 (Or.inl rfl) (Or.inl rfl) (fun z => by cases z) hq
      have b3 : cs.length ≤ j - i + 0 + 0 := b3
      have e7 : c + c1.length + 0 + one s' + one p' ≤ C0 + j := e7
      have s5 : s' = 0 ∨ (2 ≤ s' ∧ s' ≤ 5) := by unfold isS at e2; omega
      have p5 : p' = 0 ∨ (2 ≤ p' ∧ p' ≤ 5) := by unfold isP at e3; omega
      have os : one s' ≤ 1 := by unfold one; split <;> omega
      have op : one p' ≤ 1 := by unfold one; split <;> omega
      obtain ⟨μ2, r1, r2, r3, r4⟩ := co_run (d := d + 1) (x := 0) (W := []) hC (Or.inl rfl) (pl p' ++ pl s') (c + c1.length) μ1 (fun o ho => by
        rcases List.mem_append.1 ho with z | z
        · have := mem_pl z; exact ⟨by omega, Or.inl rfl⟩
        · have := mem_pl z; exact ⟨by omega, Or.inl rfl⟩) (by rw [List.append_nil, List.length_append, pl_len, pl_len]; omega) (by have := hL.1; omega) (by rw [List.length_append, pl_len, pl_len]; omega) (by rw [List.append_assoc]; exact S1)
      rw [List.map_append, pl_map, pl_map] at r3
      have lcs : cs.length = c1.length + one p' + one s' := by rw [e1, List.length_append, List.length_append, opL_len, opL_len]
      have P : PutM c cs μ μ2 := by
        have := PutM.zk k0 (e5.trans r3) (fun j => by omega) (fun j => by omega)
        rw [e1, List.append_assoc]
        exact this
      have T1 := (hT.kx x0).kx e6
      refine ⟨c + cs.length, μ2, ent _ (e8 _ (at96_end hV T1 R1 b2 (b5 rfl) (Or.inr O1) (X10_expression_at186_ok (teq rfl (tpos (by rw [O1]; decide) (X10_expression_at204_ok ⟨μ2, X10_comesOut_ok r1, rfl⟩)))))), ⟨b2, ⟨(r4.at (by unfold coM; omega)).trans R1.1, (r4.at (by unfold coM; omega)).trans R1.2⟩, (r4.at (by unfold coM; omega)).trans O1⟩, ⟨by have := hL.1; omega, by omega, P.1⟩, x0.trans (e6.trans r4.x), fun j' z => ?_⟩
      cases z
      exact ⟨P, rfl, i, rfl, by show i + cs.length ≤ j; omega, b1⟩
/-- an E unless there was a fault -/
theorem exprG {c : Nat} {q : Qs} {μ : Mem} (hC : C0 + 420 ≤ 840) (hV : TV S M T) (hT : TM M T μ) (h : QSm M T q μ) (hL : CdB C0 c μ) (hc : LeM C0 c q) : ∃ c' μ', ((μ.1 0 13 ≠ 0 → μ' = μ) ∧ (μ.1 0 13 = 0 → X10_expression (d + 3) μ μ')) ∧ QSm M T (eQ T q) μ' ∧ CdB C0 c' μ' ∧ KX C0 μ μ' ∧ (∀ j, eQ T q = .inl j → PutM c (cdQ T q) μ μ' ∧ c' = c + (cdQ T q).length ∧ ∃ i, q = .inl i ∧ i + (cdQ T q).length ≤ j ∧ i < j) := by
  cases q with
  | inr e => exact ⟨c, μ, tne h.2.ne rfl, h, hL, Kz.refl, fun j z => by cases z⟩
  | inl i =>
    obtain ⟨c', μ', g1, g2⟩ := exprQ (d := d) hC hV hT h hL hc
    exact ⟨c', μ', teq h.2.1.1 g1, g2⟩
end
end Rd
