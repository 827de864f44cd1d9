/-! ===== read: the model's E, all of it ===== -/
section Rd
variable {d : Nat}
section
variable {S M : Nat} {T : Nat → Tk} {C0 : Nat}
def SM (i dep : Nat) (W : List Nat) (c : Nat) (μ : Mem) : Prop := RM i μ ∧ μ.1 0 12 = nI dep ∧ CS W c μ
theorem pl_eq (o : Nat) : pl o = if o = 0 then [] else [o] := rfl
theorem okW.pl {o : Nat} {W : List Nat} (h : o = 0 ∨ (2 ≤ o ∧ o ≤ 5)) (hW : okW W) : okW (pl o ++ W) := fun q hq => by
  rw [pl_eq] at hq
  by_cases e : o = 0
  · rw [if_pos e] at hq
    exact hW q hq
  · rw [if_neg e] at hq
    rcases List.mem_cons.1 hq with z | z
    · omega
    · exact hW q z
theorem CS.kz {S' : Nat → Nat → Prop} {L' : Nat → Prop} {W : List Nat} {c : Nat} {μ μ' : Mem} (h : CS W c μ) (k : Kz S' L' μ μ') (k1 : ¬ S' 0 46) (k2 : ¬ S' 0 42) (k3 : ∀ j, ¬ S' 30 j) : CS W c μ' := ⟨(k.at k1).trans h.1, wst.of (fun j _ => k.at (k3 j)) h.2.1, (k.at k2).trans h.2.2⟩
theorem CS.kv {W : List Nat} {c : Nat} {μ μ' : Mem} (h : CS W c μ) (k : KV μ μ') : CS W c μ' := h.kz k (by unfold mvM; omega) (by unfold mvM; omega) (fun j => by unfold mvM; omega)
theorem SM.w {i dep c : Nat} {V W : List Nat} {μ : Mem} (h : SM i dep V c μ) (e : V = W) : SM i dep W c μ := e ▸ h
theorem pl0 {W : List Nat} : pl 0 ++ (pl 0 ++ W) = W := rfl
theorem mem_pl {o q : Nat} (h : q ∈ pl o) : q = o ∧ o ≠ 0 := by
  unfold pl at h
  by_cases e : o = 0
  · rw [if_pos e] at h
    cases h
  · rw [if_neg e] at h
    exact ⟨List.mem_singleton.1 h, e⟩
theorem stW_pl {s : Nat} {W : List Nat} (hs : isS s) (hW : stW 0 W) : stW 1 (pl s ++ W) := by
  unfold pl
  by_cases e : s = 0
  · rw [if_pos e]
    rcases hW with z | z | z
    · exact Or.inl z
    · exact Or.inr (Or.inl z)
    · exact absurd rfl z.1
  · rw [if_neg e]
    exact Or.inr (Or.inr ⟨by decide, s, W, rfl, by unfold isS at hs; omega⟩)
theorem par_m (hC : C0 + 420 ≤ 840) (hV : TV S M T) : ∀ (f dep i c s p : Nat) (b : Bool) (W : List Nat) (μ : Mem), dep ≤ 6 → 2 * (401 - i) + (if b then 2 else 1) ≤ f → i < M → isS s → isP p → (b = false → s = 0 ∧ p = 0) → okW W → (b = true → stW 0 W) → W.length ≤ 3 * dep + (if b then 0 else 2) → C0 ≤ c → c + nops W + one s + one p ≤ C0 + i → SM i dep (pl p ++ (pl s ++ W)) c μ → TM M T μ →
    (∀ cs j, parE T f dep i b s p = .inl (cs, j) → ∃ μ1 c1 s' p', cs = c1 ++ opL p' ++ opL s' ∧ isS s' ∧ isP p' ∧ (b = false → s' = 0 ∧ p' = 0) ∧ SM j dep (pl p' ++ (pl s' ++ W)) (c + c1.length) μ1 ∧ PutM c c1 μ μ1 ∧ KX C0 μ μ1 ∧ c + c1.length + nops W + one s' + one p' ≤ C0 + j ∧ ∀ μ', X10_expression_at96 (d + 2) 0 μ1 μ' → X10_expression_at23 (d + 2) 0 μ μ') ∧
    (∀ ft k, parE T f dep i b s p = .inr (ft, k) → ∃ μ', X10_expression_at23 (d + 2) 0 μ μ' ∧ BM C0 ft (pc' T k) μ μ')
  | 0, dep, i, c, s, p, b, W, μ, _, hf, _, _, _, _, _, _, _, _, _, _, _ => by
    exfalso
    cases b <;> simp at hf
  | f + 1, dep, i, c, s, p, false, W, μ, hd, hf, hi, hs, hp, hb, hW, _, hl, h0, hc, hS, hT => by
    obtain ⟨rfl, rfl⟩ := hb rfl
    have o0 : one 0 = 0 := rfl
    have hm := hV.2.1
    have hf : 2 * (401 - i) + 1 ≤ f + 1 := by simpa using hf
    have hl : W.length ≤ 3 * dep + 2 := by simpa using hl
    have hS : SM i dep W c μ := hS
    obtain ⟨hR, hO, hSt⟩ := hS
    have vi := hV.2.2.1 i hi
    rw [parE]
    by_cases k30 : kd T i = 30
    · rw [if_pos k30]
      have y6 := is_y (d := d + 2) (x := 6) hV hT hR hi rfl k30
      -- behind a fault the bracket still waits
      have shut : ∀ (ft pl' : Nat) (μ1 : Mem), FM ft pl' μ1 → KX C0 μ μ1 → CS W c μ1 → ∃ μ', (∃ μ7 : Mem, X10_goesOn (d + 2) (sI μ1 0 12 ((μ1.1 0 12) + 1)) μ7 ∧ vp_in (μ7.1 0 46) 64 ∧ (∀ μ9 : Mem, μ9 = sI μ7 30 ((μ7.1 0 46).toNatClampNeg) 6 → (∀ μ10 : Mem, μ10 = sI μ9 0 46 ((μ9.1 0 46) + 1) → X10_expression_at23 (d + 2) 0 μ10 μ'))) ∧ BM C0 ft pl' μ μ' := fun ft pl' μ1 hF hK hc1 => by
        have k2 : Kz (fun a k => a = 0 ∧ k = 12) (fun _ => False) μ1 (sI μ1 0 12 ((μ1.1 0 12) + 1)) := Kz.sI ⟨rfl, rfl⟩
        have F2 : FM ft pl' (sI μ1 0 12 ((μ1.1 0 12) + 1)) := hF.of (k2.at (by omega)) (k2.at (by omega)) (k2.at (by omega))
        obtain ⟨μ7, g1, g2, g3⟩ := go_F (d := d + 1) F2
        have c7 : CS W c μ7 := (hc1.kz k2 (by omega) (by omega) (fun j => by omega)).kv g3
        obtain ⟨p1, p2⟩ := push_m (C0 := C0) (o := 6) c7
        refine ⟨_, ⟨μ7, g1, ?_, ?_⟩, ?_, ⟨c, h0, by omega, p1.2.2⟩, (hK.trans (Kz.sI (by unfold exM; omega))).trans (g3.x.trans p2)⟩
        · rw [c7.1]; exact vp_inN (by omega) (by decide)
        · rw [c7.1, nI_clamp (by omega)]
          rintro μ9 rfl
          rw [sI_n (show 0 ≠ 30 by decide), c7.1, nI_1]
          rintro μ10 rfl
          refine at23F (f := ft) (pl := pl') (g2.of ?_ ?_ ?_) <;> rw [sI_k (by decide), sI_n (by decide)]
        · refine g2.of ?_ ?_ ?_ <;> rw [sI_k (by decide), sI_n (by decide)]
      by_cases d6 : 6 ≤ dep
      · rw [if_pos d6]
        refine ⟨fun cs j z => (by cases z), fun ft k z => ?_⟩
        cases z
        obtain ⟨μ1, g1, g2, g3⟩ := fail_m (d := d + 2) (f := 2) (x := 2) hV hT hR hi (by omega) rfl
        obtain ⟨μ', r1, r2⟩ := shut 2 (pc' T i) μ1 g2 g3.x (hSt.kv g3)
        refine ⟨μ', X10_expression_at23_ok ⟨1, μ, y6, tneg (by decide) (teq (by rw [hO, show dep = 6 by omega]; rfl) ⟨μ1, g1, ?_⟩)⟩, r2⟩
        rintro μ13 rfl
        exact r1
      · rw [if_neg d6]
        have on6 : μ.1 0 12 ≠ 6 := by rw [hO]; exact fun z => d6 (by have := nI_inj (b := 6) (by omega) (by decide) z; omega)
        by_cases i4 : i = 400
        · rw [if_pos i4]
          refine ⟨fun cs j z => (by cases z), fun ft k z => ?_⟩
          cases z
          have k2 : Kz (fun a k => a = 0 ∧ k = 12) (fun _ => False) μ (sI μ 0 12 ((μ.1 0 12) + 1)) := Kz.sI ⟨rfl, rfl⟩
          have T2 : TM M T (sI μ 0 12 ((μ.1 0 12) + 1)) := hT.kz k2 (fun j => by omega) (fun j => by omega) (fun j => by omega) (fun z => z)
          have R2 : RM i (sI μ 0 12 ((μ.1 0 12) + 1)) := ⟨(k2.at (by omega)).trans hR.1, (k2.at (by omega)).trans hR.2⟩
          obtain ⟨μ7, g1, g2, g3⟩ := go_X (d := d + 1) hV T2 R2 hi i4
          have c7 : CS W c μ7 := (hSt.kz k2 (by omega) (by omega) (fun j => by omega)).kv g3
          obtain ⟨p1, p2⟩ := push_m (C0 := C0) (o := 6) c7
          refine ⟨_, X10_expression_at23_ok ⟨1, μ, y6, tneg (by decide) (tne on6 ?_)⟩, ?_, ⟨c, h0, by omega, p1.2.2⟩, (Kz.sI (by unfold exM; omega)).trans (g3.x.trans p2)⟩
          · rintro μ6 rfl
            refine ⟨μ7, g1, by rw [c7.1]; exact vp_inN (by omega) (by decide), ?_⟩
            rw [c7.1, nI_clamp (by omega)]
            rintro μ9 rfl
            rw [sI_n (show 0 ≠ 30 by decide), c7.1, nI_1]
            rintro μ10 rfl
            refine at23F (f := 2) (pl := pc' T i) (g2.of ?_ ?_ ?_) <;> rw [sI_k (by decide), sI_n (by decide)]
          · refine g2.of ?_ ?_ ?_ <;> rw [sI_k (by decide), sI_n (by decide)]
        · rw [if_neg i4]
          have hn := hV.next hi (by omega) i4
          have k2 : Kz (fun a k => a = 0 ∧ k = 12) (fun _ => False) μ (sI μ 0 12 (nI (dep + 1))) := Kz.sI ⟨rfl, rfl⟩
          have R2 : RM i (sI μ 0 12 (nI (dep + 1))) := ⟨(k2.at (by omega)).trans hR.1, (k2.at (by omega)).trans hR.2⟩
          obtain ⟨g1, g2, g3⟩ := go_S (d := d + 1) R2 (by omega)
          generalize hμ7 : sI (sI μ 0 12 (nI (dep + 1))) 0 11 (nI (i + 1)) = μ7 at g1 g2 g3
          have c7 : CS W c μ7 := (hSt.kz k2 (by omega) (by omega) (fun j => by omega)).kv g3
          obtain ⟨p1, p2⟩ := push_m (C0 := C0) (o := 6) c7
          generalize hμA : sI (sI μ7 30 W.length (nI (km 6))) 0 46 (nI (W.length + 1)) = μA at p1 p2
          have KA' : KX C0 μ μA := (Kz.sI (by unfold exM; omega)).trans (g3.x.trans p2)
          have eA : ∀ k, k ≠ 46 → μA.1 0 k = μ7.1 0 k := fun k hk => by rw [← hμA, sI_k hk, sI_n (by decide)]
          have SA : SM (i + 1) (dep + 1) (pl 0 ++ (pl 0 ++ (6 :: W))) c μA := ⟨⟨(eA 13 (by decide)).trans g2.1, (eA 11 (by decide)).trans g2.2⟩, by rw [eA 12 (by decide), ← hμ7, sI_k (by decide), sI_1], p1⟩
          have P0 : ∀ {cs : List Cd} {μ1 : Mem}, PutM c cs μA μ1 → PutM c cs μ μ1 := fun {cs μ1} q => ⟨q.1, q.2.1, fun j hj => by
            have e8 : μA.1 28 = μ.1 28 := by rw [← hμA, sI_n (by decide), sI_n (by decide), ← hμ7, sI_n (by decide), sI_n (by decide)]
            have e9 : μA.1 29 = μ.1 29 := by rw [← hμA, sI_n (by decide), sI_n (by decide), ← hμ7, sI_n (by decide), sI_n (by decide)]
            rw [← e8, ← e9]; exact q.2.2 j hj⟩
          have into : ∀ μ', X10_expression_at23 (d + 2) 0 μA μ' → X10_expression_at23 (d + 2) 0 μ μ' := fun μ' hk => by
            refine X10_expression_at23_ok ⟨1, μ, y6, tneg (by decide) (tne on6 ?_)⟩
            rw [hO, nI_1]
            rintro μ6 rfl
            refine ⟨μ7, g1, by rw [c7.1]; exact vp_inN (by omega) (by decide), ?_⟩
            rw [c7.1, nI_clamp (by omega)]
            rintro μ9 rfl
            rw [sI_n (show 0 ≠ 30 by decide), c7.1, nI_1]
            rintro μ10 rfl
            rw [show (6 : Int32) = nI (km 6) from rfl, hμA]
            exact hk
          have n6 : nops (6 :: W) = nops W := by show (if (6 : Nat) = 6 then 0 else 1) + nops W = nops W; rw [if_pos rfl]; omega
          have ok6 : okW (6 :: W) := fun o ho => by
            rcases List.mem_cons.1 ho with z | z
            · omega
            · exact hW o z
          have TA : TM M T μA := hT.kx KA'
          obtain ⟨ih1, ih2⟩ := par_m hC hV f (dep + 1) (i + 1) c 0 0 true (6 :: W) μA (by omega) (by rw [if_pos rfl]; omega) hn (Or.inl rfl) (Or.inl rfl) (fun z => by cases z) ok6 (fun _ => Or.inr (Or.inl ⟨W, rfl⟩)) (by rw [if_pos rfl, List.length_cons]; omega) h0 (by rw [n6]; omega) SA TA
          cases hq : parE T f (dep + 1) (i + 1) true 0 0 with
          | inr x =>
            obtain ⟨xf, xk⟩ := x
            refine ⟨fun cs j z => (by cases z), fun ft k z => ?_⟩
            cases z
            obtain ⟨μ', r1, r2⟩ := ih2 xf xk hq
            exact ⟨μ', into _ r1, r2.1, r2.2.1, KA'.trans r2.2.2⟩
          | inl q =>
            obtain ⟨cs', j'⟩ := q
            obtain ⟨μ1, c1, s', p', e1, e2, e3, _, ⟨R1, O1, S1⟩, e5, e6, e7, e8⟩ := ih1 cs' j' hq
            obtain ⟨_, j1, _, _, jn⟩ := par_ok hV f (dep + 1) (i + 1) true 0 0 cs' j' (by omega) hn (Or.inl rfl) (Or.inl rfl) (fun z => by cases z) hq
            have T1 : TM M T μ1 := TA.kx e6
            have s5 : s' = 0 ∨ (2 ≤ s' ∧ s' ≤ 5) := by unfold isS at e2; omega
            have p5 : p' = 0 ∨ (2 ≤ p' ∧ p' ≤ 5) := by unfold isP at e3; omega
            have lp := pl_len p'
            have ls := pl_len s'
            have os : one s' ≤ 1 := by unfold one; split <;> omega
            have op : one p' ≤ 1 := by unfold one; split <;> omega
            rw [n6] at e7
            have lenW : (pl p' ++ (pl s' ++ 6 :: W)).length ≤ 63 := by
              rw [List.length_append, List.length_append, List.length_cons, lp, ls]; omega
            have nW : nops (pl p' ++ (pl s' ++ 6 :: W)) = one p' + one s' + nops W := by
              rw [nops_app, nops_app, n6, nops_pl (by omega), nops_pl (by omega)]; omega
            dsimp only
            by_cases k31 : kd T j' = 31
            · rw [if_pos k31]
              -- out comes what waits, the bracket goes
              obtain ⟨μ2, r1, r2, r3, r4⟩ := co_run (d := d + 1) (x := 0) (W := 6 :: W) hC (Or.inr (Or.inl ⟨W, rfl⟩)) (pl p' ++ pl s') (c + c1.length) μ1 (fun o ho => by
                rcases List.mem_append.1 ho with z | z
                · have := mem_pl z; exact ⟨by omega, Or.inl rfl⟩
                · have := mem_pl z; exact ⟨by omega, Or.inl rfl⟩) (by rw [List.append_assoc]; exact lenW) (by omega) (by rw [List.length_append, lp, ls]; omega) (by rw [List.append_assoc]; exact S1)
              rw [List.map_append, pl_map, pl_map] at r3
              have len2 : c + c1.length + (pl p' ++ pl s').length = c + cs'.length := by
                rw [e1, List.length_append, List.length_append, List.length_append, opL_len, opL_len, lp, ls]; omega
              rw [len2] at r2
              have P2 : PutM c cs' μ μ2 := by
                have := P0 (e5.trans r3)
                rw [e1, List.append_assoc]
                exact this
              have y7 := is_y (d := d + 2) (x := 7) hV T1 R1 j1 rfl k31
              have gt0 : ¬ μ1.1 0 12 ≤ 0 := by
                rw [O1]
                intro z
                have := (nI_le_iff (b := 0) (by omega) (by decide)).1 z
                omega
              have k3 : Kz (fun a k => a = 0 ∧ (k = 12 ∨ k = 46)) (fun _ => False) μ2 (sI (sI μ2 0 46 (nI W.length)) 0 12 (nI dep)) := (Kz.sI (by omega)).trans (Kz.sI (by omega))
              have S3 : CS W (c + cs'.length) (sI (sI μ2 0 46 (nI W.length)) 0 12 (nI dep)) := ⟨by rw [sI_k (by decide), sI_1], wst.of (fun j _ => k3.at (by omega)) r2.2.1.2, by rw [sI_k (by decide), sI_k (by decide)]; exact r2.2.2⟩
              have R3 : RM j' (sI (sI μ2 0 46 (nI W.length)) 0 12 (nI dep)) := ⟨by rw [k3.at (by omega), r4.at (by unfold coM; omega)]; exact R1.1, by rw [k3.at (by omega), r4.at (by unfold coM; omega)]; exact R1.2⟩
              have K3 : KX C0 μ (sI (sI μ2 0 46 (nI W.length)) 0 12 (nI dep)) := (KA'.trans (e6.trans r4.x)).trans ((Kz.sI (by unfold exM; omega)).trans (Kz.sI (by unfold exM; omega)))
              have T3 := hT.kx K3
              have O3 : (sI (sI μ2 0 46 (nI W.length)) 0 12 (nI dep)).1 0 12 = nI dep := sI_1
              have P3 : PutM c cs' μ (sI (sI μ2 0 46 (nI W.length)) 0 12 (nI dep)) := P2.kz k3 (by omega) (fun j => by omega) (fun j => by omega)
              have eW : sI (sI μ2 0 46 ((μ2.1 0 46) - 1)) 0 12 (((sI μ2 0 46 ((μ2.1 0 46) - 1)).1 0 12) - 1) = sI (sI μ2 0 46 (nI W.length)) 0 12 (nI dep) := by
                have z : μ2.1 0 46 = nI (W.length + 1) := r2.1
                rw [z, nI_pred, sI_k (show 12 ≠ 46 by decide), r4.at (by unfold coM; omega), O1, nI_pred]
              have lcs : cs'.length = c1.length + one p' + one s' := by rw [e1, List.length_append, List.length_append, opL_len, opL_len]
              generalize sI (sI μ2 0 46 (nI W.length)) 0 12 (nI dep) = μB at *
              have back : ∀ μC μ', X10_goesOn (d + 2) μB μC → X10_expression_at96 (d + 2) 0 μC μ' → X10_expression_at23 (d + 2) 0 μ μ' := fun μC μ' z1 z2 => by
                refine into _ (e8 _ (X10_expression_at96_ok ⟨1, μ1, y7, tneg (by decide) (tneg gt0 ⟨μ2, X10_comesOut_ok r1, ?_⟩)⟩))
                rintro μ30 rfl μ31 rfl
                rw [eW]
                exact ⟨μC, z1, z2⟩
              by_cases j4 : j' = 400
              · rw [if_pos j4]
                refine ⟨fun cs j z => (by cases z), fun ft k z => ?_⟩
                cases z
                obtain ⟨μC, t1, t2, t3⟩ := go_X (d := d + 1) hV T3 R3 j1 j4
                obtain ⟨μ', u1, u2⟩ := at96F (d := d + 1) hC t2 hW (by omega) (by omega) (by omega) (S3.kv t3)
                exact ⟨μ', back _ _ t1 u1, u2.1, u2.2.1, K3.trans (t3.x.trans u2.2.2)⟩
              · rw [if_neg j4]
                refine ⟨fun cs j z => ?_, fun ft k z => by cases z⟩
                cases z
                obtain ⟨t1, t2, t3⟩ := go_S (d := d + 1) R3 (show j' < 400 by omega)
                refine ⟨_, cs', 0, 0, by rw [show opL 0 = [] from rfl, List.append_nil, List.append_nil], Or.inl rfl, Or.inl rfl, fun _ => ⟨rfl, rfl⟩, ⟨t2, by rw [t3.at (by unfold mvM; omega)]; exact O3, S3.kv t3⟩, P3.kz t3 (by unfold mvM; omega) (fun j => by unfold mvM; omega) (fun j => by unfold mvM; omega), K3.trans t3.x, ?_, fun μ' z => back _ _ t1 z⟩
                show c + cs'.length + nops W + 0 + 0 ≤ C0 + (j' + 1)
                omega
            · rw [if_neg k31]
              refine ⟨fun cs j z => (by cases z), fun ft k z => ?_⟩
              cases z
              obtain ⟨μ2, t1, t2, t3⟩ := fail_m (d := d + 2) (f := 1) (x := 1) hV T1 R1 j1 (by omega) rfl
              obtain ⟨μ', u1, u2⟩ := at204F (d := d + 1) hC t2 (okW.pl p5 (okW.pl s5 ok6)) lenW (show C0 ≤ c + c1.length by omega) (by rw [nW]; omega) (S1.kv t3)
              refine ⟨μ', into _ (e8 _ (at96_end hV T1 R1 j1 (jn rfl) (Or.inl k31) (X10_expression_at186_ok (teq rfl (tneg ?_ ⟨μ2, t1, u1⟩))))), u2.1, u2.2.1, KA'.trans (e6.trans (t3.x.trans u2.2.2))⟩
              rw [O1]
              intro z
              have := (nI_le_iff (b := 0) (by omega) (by decide)).1 z
              omega
    · rw [if_neg k30]
      have n6 := is_n (d := d + 2) (k := 30) (x := 6) hV hT hR hi rfl (by decide) k30
      have one_cd : ∀ (v : Cd), ((kd T i = 22 ∧ v = (0, vl' T i)) ∨ ((12 ≤ kd T i ∧ kd T i ≤ 20) ∧ v = (1, kd T i - 12))) → (∀ cs j, (if i = 400 then (.inr (2, i) : PR) else .inl ([v], i + 1)) = .inl (cs, j) → ∃ μ1 c1 s' p', cs = c1 ++ opL p' ++ opL s' ∧ isS s' ∧ isP p' ∧ (false = false → s' = 0 ∧ p' = 0) ∧ SM j dep (pl p' ++ (pl s' ++ W)) (c + c1.length) μ1 ∧ PutM c c1 μ μ1 ∧ KX C0 μ μ1 ∧ c + c1.length + nops W + one s' + one p' ≤ C0 + j ∧ ∀ μ', X10_expression_at96 (d + 2) 0 μ1 μ' → X10_expression_at23 (d + 2) 0 μ μ') ∧ (∀ ft k, (if i = 400 then (.inr (2, i) : PR) else .inl ([v], i + 1)) = .inr (ft, k) → ∃ μ', X10_expression_at23 (d + 2) 0 μ μ' ∧ BM C0 ft (pc' T k) μ μ') := fun v hv => by
        obtain ⟨μe, g1, ⟨g2, g3, g4, g5⟩, g6, g7⟩ := emit_m (d := d + 1 ) (k := nI v.1) (v := nI v.2) hC h0 (by omega) hSt.2.2
        have Re : RM i μe := ⟨(g6 0 13 (by decide) (by decide) (Or.inr (by decide))).trans hR.1, (g6 0 11 (by decide) (by decide) (Or.inr (by decide))).trans hR.2⟩
        have Se : CS W (c + 1) μe := ⟨(g6 0 46 (by decide) (by decide) (Or.inr (by decide))).trans hSt.1, wst.of (fun j _ => g6 30 j (by decide) (by decide) (Or.inl (by decide))) hSt.2.1, g2⟩
        have Te := hT.kx g7.x
        have Pe : PutM c [v] μ μe := ⟨g2, ⟨g3, g4, trivial⟩, fun j hj => g5 j (by omega)⟩
        by_cases i4 : i = 400
        · rw [if_pos i4]
          refine ⟨fun cs j z => (by cases z), fun ft k z => ?_⟩
          cases z
          obtain ⟨μ', t1, t2, t3⟩ := go_X (d := d) hV Te Re hi i4
          exact ⟨μ', X10_expression_at23_ok ⟨0, μ, n6, tpos rfl ⟨μ', unit_go hV hT hR hi hv g1 t1, tneg t2.nle rfl⟩⟩, t2, ⟨c + 1, by omega, by omega, (Se.kv t3).2.2⟩, g7.x.trans t3.x⟩
        · rw [if_neg i4]
          refine ⟨fun cs j z => ?_, fun ft k z => by cases z⟩
          cases z
          obtain ⟨t1, t2, t3⟩ := go_S (d := d) Re (show i < 400 by omega)
          refine ⟨_, [v], 0, 0, rfl, Or.inl rfl, Or.inl rfl, fun _ => ⟨rfl, rfl⟩, ⟨t2, ?_, Se.kv t3⟩, Pe.kz t3 (by unfold mvM; omega) (fun j => by unfold mvM; omega) (fun j => by unfold mvM; omega), g7.x.trans t3.x, ?_, fun μ' z => X10_expression_at23_ok ⟨0, μ, n6, tpos rfl ⟨_, unit_go hV hT hR hi hv g1 t1, tpos (by rw [t2.1]; decide) z⟩⟩⟩
          · rw [t3.at (by unfold mvM; omega), g6 0 12 (by decide) (by decide) (Or.inr (by decide))]; exact hO
          · show c + 1 + nops W + 0 + 0 ≤ C0 + (i + 1)
            omega
      by_cases kv : 12 ≤ kd T i ∧ kd T i ≤ 20
      · rw [if_pos kv]
        exact one_cd _ (Or.inr ⟨kv, rfl⟩)
      · rw [if_neg kv]
        by_cases k22 : kd T i = 22
        · rw [if_pos k22]
          exact one_cd _ (Or.inl ⟨k22, rfl⟩)
        · rw [if_neg k22]
          refine ⟨fun cs j z => (by cases z), fun ft k z => ?_⟩
          cases z
          obtain ⟨μ', t1, t2, t3⟩ := fail_m (d := d + 1) (f := 1) (x := 1) hV hT hR hi (by omega) rfl
          exact ⟨μ', X10_expression_at23_ok ⟨0, μ, n6, tpos rfl ⟨μ', unit_bad hV hT hR hi k22 kv t1, tneg t2.nle rfl⟩⟩, t2, ⟨c, h0, by omega, (hSt.kv t3).2.2⟩, t3.x⟩
  | f + 1, dep, i, c, s, p, true, W, μ, hd, hf, hi, hs, hp, _, hW, hst, hl, h0, hc, hS, hT => by
    have o0 : one 0 = 0 := rfl
    have hm := hV.2.1
    have hf : 2 * (401 - i) + 2 ≤ f + 1 := by simpa using hf
    have hl : W.length ≤ 3 * dep := by simpa using hl
    have s5 : s = 0 ∨ (2 ≤ s ∧ s ≤ 5) := by unfold isS at hs; omega
    have p5 : p = 0 ∨ (2 ≤ p ∧ p ≤ 5) := by unfold isP at hp; omega
    have lp := pl_len p
    have ls := pl_len s
    have os : one s ≤ 1 := by unfold one; split <;> omega
    have op : one p ≤ 1 := by unfold one; split <;> omega
    have nW : nops (pl p ++ (pl s ++ W)) = one p + one s + nops W := by
      rw [nops_app, nops_app, nops_pl (by omega), nops_pl (by omega)]; omega
    have lW : (pl p ++ (pl s ++ W)).length = one p + one s + W.length := by
      rw [List.length_append, List.length_append, lp, ls]; omega
    obtain ⟨ih1, ih2⟩ := par_m hC hV f dep i c 0 0 false (pl p ++ (pl s ++ W)) μ hd (by rw [if_neg (by decide)]; omega) hi (Or.inl rfl) (Or.inl rfl) (fun _ => ⟨rfl, rfl⟩) (okW.pl p5 (okW.pl s5 hW)) (fun z => by cases z) (by rw [if_neg (by decide), lW]; omega) h0 (by rw [nW]; omega) hS hT
    rw [parE]
    cases hq : parE T f dep i false 0 0 with
    | inr x =>
      obtain ⟨xf, xk⟩ := x
      refine ⟨fun cs j z => (by cases z), fun ft k z => ?_⟩
      cases z
      exact ih2 xf xk hq
    | inl q =>
      obtain ⟨q1, j1⟩ := q
      obtain ⟨μ1, c1, s1, p1, e1, _, _, e4, hS1, e5, e6, e7, e8⟩ := ih1 q1 j1 hq
      obtain ⟨rfl, rfl⟩ := e4 rfl
      have e1 : q1 = c1 := by rw [e1, show opL 0 = [] from rfl, List.append_nil, List.append_nil]
      subst e1
      have hS1 : SM j1 dep (pl p ++ (pl s ++ W)) (c + q1.length) μ1 := hS1
      obtain ⟨R1, O1, S1⟩ := hS1
      obtain ⟨b1, b2, b3, _, _⟩ := par_ok hV f dep i false 0 0 q1 j1 (by omega) hi (Or.inl rfl) (Or.inl rfl) (fun _ => ⟨rfl, rfl⟩) hq
      rw [nW] at e7
      have T1 := hT.kx e6
      have vj := hV.2.2.1 j1 b2
      dsimp only
      by_cases kp : kd T j1 = 27 ∨ kd T j1 = 28
      · rw [if_pos kp]
        obtain ⟨μ2, r1, r2, r3, r4⟩ := co_run (d := d + 1) (x := 1) (W := pl s ++ W) hC (stW_pl hs (hst rfl)) (pl p) (c + q1.length) μ1 (fun o ho => by
          have := mem_pl ho
          unfold isP at hp
          exact ⟨by omega, Or.inr (by omega)⟩) (by rw [lW]; omega) (by omega) (by rw [lp]; omega) S1
        rw [pl_map] at r3
        have P2 := e5.trans r3
        obtain ⟨u1, u2⟩ := push_m (C0 := C0) (o := kd T j1 - 23) r2
        have lsW : (pl s ++ W).length = one s + W.length := by rw [List.length_append, ls]
        have k3 : Kz (fun a k => a = 30 ∨ (a = 0 ∧ k = 46)) (fun _ => False) μ2 (sI (sI μ2 30 (pl s ++ W).length (nI (km (kd T j1 - 23)))) 0 46 (nI ((pl s ++ W).length + 1))) := (Kz.sI (by omega)).trans (Kz.sI (by omega))
        have go : ∀ μ3 μ', X10_goesOn (d + 2) (sI (sI μ2 30 (pl s ++ W).length (nI (km (kd T j1 - 23)))) 0 46 (nI ((pl s ++ W).length + 1))) μ3 → X10_expression_at12 (d + 2) 0 1 μ3 μ' → X10_expression_at23 (d + 2) 0 μ μ' := fun μ3 μ' z1 z2 => e8 _ (at96_op hV T1 R1 b2 (by omega) (at186_op (C0 := C0) hV T1 R1 b2 (Or.inl ⟨rfl, kp⟩) (by rw [lsW]; omega) (X10_comesOut_ok r1) r2 r4 z1 z2))
        generalize sI (sI μ2 30 (pl s ++ W).length (nI (km (kd T j1 - 23)))) 0 46 (nI ((pl s ++ W).length + 1)) = μB at *
        have RB : RM j1 μB := ⟨by rw [k3.at (by omega), r4.at (by unfold coM; omega)]; exact R1.1, by rw [k3.at (by omega), r4.at (by unfold coM; omega)]; exact R1.2⟩
        have OB : μB.1 0 12 = nI dep := by rw [k3.at (by omega), r4.at (by unfold coM; omega)]; exact O1
        have KB : KX C0 μ μB := e6.trans (r4.x.trans u2)
        have PB : PutM c (q1 ++ opL p) μ μB := P2.kz k3 (by omega) (fun j => by omega) (fun j => by omega)
        have TB := hT.kx KB
        rw [lp] at u1
        by_cases j4 : j1 = 400
        · rw [if_pos j4]
          refine ⟨fun cs j z => (by cases z), fun ft k z => ?_⟩
          cases z
          obtain ⟨μ3, t1, t2, t3⟩ := go_X (d := d + 1) hV TB RB b2 j4
          exact ⟨μ3, go _ _ t1 (X10_expression_at12_ok (tneg (by decide) (tne t2.ne rfl))), t2, ⟨_, by omega, by omega, (u1.kv t3).2.2⟩, KB.trans t3.x⟩
        · rw [if_neg j4]
          obtain ⟨t1, t2, t3⟩ := go_S (d := d + 1) RB (show j1 < 400 by omega)
          have hn := hV.next b2 (by omega) j4
          have op' : one (kd T j1 - 23) = 1 := by unfold one; rw [if_neg (by omega)]
          have ep : pl (kd T j1 - 23) = [kd T j1 - 23] := by unfold pl; rw [if_neg (by omega)]
          generalize sI μB 0 11 (nI (j1 + 1)) = μD at *
          have SD : SM (j1 + 1) dep (pl (kd T j1 - 23) ++ (pl s ++ W)) (c + q1.length + one p) μD := ⟨t2, by rw [t3.at (by unfold mvM; omega)]; exact OB, by rw [ep]; exact u1.kv t3⟩
          have PD : PutM c (q1 ++ opL p) μ μD := PB.kz t3 (by unfold mvM; omega) (fun j => by unfold mvM; omega) (fun j => by unfold mvM; omega)
          have len : (q1 ++ opL p).length = q1.length + one p := by rw [List.length_append, opL_len]
          obtain ⟨jh1, jh2⟩ := par_m hC hV f dep (j1 + 1) (c + q1.length + one p) s (kd T j1 - 23) true W μD hd (by rw [if_pos rfl]; omega) hn hs (by unfold isP; omega) (fun z => by cases z) hW hst (by rw [if_pos rfl]; omega) (by omega) (by rw [op']; omega) SD (TM.kx (C0 := C0) TB (KV.x t3))
          have on : ∀ μ', X10_expression_at23 (d + 2) 0 μD μ' → X10_expression_at23 (d + 2) 0 μ μ' := fun μ' z => go _ _ t1 (X10_expression_at12_ok (tneg (by decide) (teq t2.1 z)))
          cases hr : parE T f dep (j1 + 1) true s (kd T j1 - 23) with
          | inr x =>
            obtain ⟨xf, xk⟩ := x
            refine ⟨fun cs j z => (by cases z), fun ft k z => ?_⟩
            cases z
            obtain ⟨μ', v1, v2⟩ := jh2 xf xk hr
            exact ⟨μ', on _ v1, v2.1, v2.2.1, KB.trans (t3.x.trans v2.2.2)⟩
          | inl r =>
            obtain ⟨c2, j2⟩ := r
            refine ⟨fun cs j z => ?_, fun ft k z => by cases z⟩
            cases z
            obtain ⟨μ4, c3, s', p', f1, f2, f3, _, f5, f6, f7, f8, f9⟩ := jh1 c2 j2 hr
            refine ⟨μ4, q1 ++ opL p ++ c3, s', p', ?_, f2, f3, fun z => (by cases z), ?_, ?_, KB.trans (t3.x.trans f7), ?_, fun μ' z => on _ (f9 _ z)⟩
            · show q1 ++ opL p ++ c2 = _
              rw [f1]
              simp only [List.append_assoc]
            · rw [List.length_append, len, show c + (q1.length + one p + c3.length) = c + q1.length + one p + c3.length by omega]
              exact f5
            · refine PD.trans ?_
              rw [len, show c + (q1.length + one p) = c + q1.length + one p by omega]
              exact f6
            · rw [List.length_append, len]; show _ ≤ C0 + j2; omega
      · rw [if_neg kp]
        by_cases ks : kd T j1 = 25 ∨ kd T j1 = 26
        · rw [if_pos ks]
          obtain ⟨μ2, r1, r2, r3, r4⟩ := co_run (d := d + 1) (x := 0) (W := W) hC (hst rfl) (pl p ++ pl s) (c + q1.length) μ1 (fun o ho => by
            rcases List.mem_append.1 ho with z | z
            · have := mem_pl z; exact ⟨by omega, Or.inl rfl⟩
            · have := mem_pl z; exact ⟨by omega, Or.inl rfl⟩) (by rw [List.append_assoc, lW]; omega) (by omega) (by rw [List.length_append, lp, ls]; omega) (by rw [List.append_assoc]; exact S1)
          rw [List.map_append, pl_map, pl_map] at r3
          have P2 := e5.trans r3
          obtain ⟨u1, u2⟩ := push_m (C0 := C0) (o := kd T j1 - 23) r2
          have k3 : Kz (fun a k => a = 30 ∨ (a = 0 ∧ k = 46)) (fun _ => False) μ2 (sI (sI μ2 30 W.length (nI (km (kd T j1 - 23)))) 0 46 (nI (W.length + 1))) := (Kz.sI (by omega)).trans (Kz.sI (by omega))
          have go : ∀ μ3 μ', X10_goesOn (d + 2) (sI (sI μ2 30 W.length (nI (km (kd T j1 - 23)))) 0 46 (nI (W.length + 1))) μ3 → X10_expression_at12 (d + 2) 0 1 μ3 μ' → X10_expression_at23 (d + 2) 0 μ μ' := fun μ3 μ' z1 z2 => e8 _ (at96_op hV T1 R1 b2 (by omega) (at186_op (C0 := C0) hV T1 R1 b2 (Or.inr ⟨rfl, ks⟩) (by omega) (X10_comesOut_ok r1) r2 r4 z1 z2))
          generalize sI (sI μ2 30 W.length (nI (km (kd T j1 - 23)))) 0 46 (nI (W.length + 1)) = μB at *
          have RB : RM j1 μB := ⟨by rw [k3.at (by omega), r4.at (by unfold coM; omega)]; exact R1.1, by rw [k3.at (by omega), r4.at (by unfold coM; omega)]; exact R1.2⟩
          have OB : μB.1 0 12 = nI dep := by rw [k3.at (by omega), r4.at (by unfold coM; omega)]; exact O1
          have KB : KX C0 μ μB := e6.trans (r4.x.trans u2)
          have PB : PutM c (q1 ++ (opL p ++ opL s)) μ μB := P2.kz k3 (by omega) (fun j => by omega) (fun j => by omega)
          have TB := hT.kx KB
          rw [List.length_append, lp, ls] at u1
          by_cases j4 : j1 = 400
          · rw [if_pos j4]
            refine ⟨fun cs j z => (by cases z), fun ft k z => ?_⟩
            cases z
            obtain ⟨μ3, t1, t2, t3⟩ := go_X (d := d + 1) hV TB RB b2 j4
            exact ⟨μ3, go _ _ t1 (X10_expression_at12_ok (tneg (by decide) (tne t2.ne rfl))), t2, ⟨_, by omega, by omega, (u1.kv t3).2.2⟩, KB.trans t3.x⟩
          · rw [if_neg j4]
            obtain ⟨t1, t2, t3⟩ := go_S (d := d + 1) RB (show j1 < 400 by omega)
            have hn := hV.next b2 (by omega) j4
            have os' : one (kd T j1 - 23) = 1 := by unfold one; rw [if_neg (by omega)]
            have ep : pl (kd T j1 - 23) = [kd T j1 - 23] := by unfold pl; rw [if_neg (by omega)]
            generalize sI μB 0 11 (nI (j1 + 1)) = μD at *
            have SD : SM (j1 + 1) dep (pl 0 ++ (pl (kd T j1 - 23) ++ W)) (c + q1.length + (one p + one s)) μD := ⟨t2, by rw [t3.at (by unfold mvM; omega)]; exact OB, by rw [ep]; exact u1.kv t3⟩
            have PD : PutM c (q1 ++ (opL p ++ opL s)) μ μD := PB.kz t3 (by unfold mvM; omega) (fun j => by unfold mvM; omega) (fun j => by unfold mvM; omega)
            have len : (q1 ++ (opL p ++ opL s)).length = q1.length + (one p + one s) := by rw [List.length_append, List.length_append, opL_len, opL_len]
            obtain ⟨jh1, jh2⟩ := par_m hC hV f dep (j1 + 1) (c + q1.length + (one p + one s)) (kd T j1 - 23) 0 true W μD hd (by rw [if_pos rfl]; omega) hn (by unfold isS; omega) (Or.inl rfl) (fun z => by cases z) hW hst (by rw [if_pos rfl]; omega) (by omega) (by rw [os', o0]; omega) SD (TM.kx (C0 := C0) TB (KV.x t3))
            have on : ∀ μ', X10_expression_at23 (d + 2) 0 μD μ' → X10_expression_at23 (d + 2) 0 μ μ' := fun μ' z => go _ _ t1 (X10_expression_at12_ok (tneg (by decide) (teq t2.1 z)))
            cases hr : parE T f dep (j1 + 1) true (kd T j1 - 23) 0 with
            | inr x =>
              obtain ⟨xf, xk⟩ := x
              refine ⟨fun cs j z => (by cases z), fun ft k z => ?_⟩
              cases z
              obtain ⟨μ', v1, v2⟩ := jh2 xf xk hr
              exact ⟨μ', on _ v1, v2.1, v2.2.1, KB.trans (t3.x.trans v2.2.2)⟩
            | inl r =>
              obtain ⟨c2, j2⟩ := r
              refine ⟨fun cs j z => ?_, fun ft k z => by cases z⟩
              cases z
              obtain ⟨μ4, c3, s', p', f1, f2, f3, _, f5, f6, f7, f8, f9⟩ := jh1 c2 j2 hr
              refine ⟨μ4, q1 ++ (opL p ++ opL s) ++ c3, s', p', ?_, f2, f3, fun z => (by cases z), ?_, ?_, KB.trans (t3.x.trans f7), ?_, fun μ' z => on _ (f9 _ z)⟩
              · show q1 ++ opL p ++ opL s ++ c2 = _
                rw [f1]
                simp only [List.append_assoc]
              · rw [List.length_append, len, show c + (q1.length + (one p + one s) + c3.length) = c + q1.length + (one p + one s) + c3.length by omega]
                exact f5
              · refine PD.trans ?_
                rw [len, show c + (q1.length + (one p + one s)) = c + q1.length + (one p + one s) by omega]
                exact f6
              · rw [List.length_append, len]; show _ ≤ C0 + j2; omega
        · rw [if_neg ks]
          refine ⟨fun cs j z => ?_, fun ft k z => by cases z⟩
          cases z
          exact ⟨μ1, q1, s, p, rfl, hs, hp, fun z => (by cases z), ⟨R1, O1, S1⟩, e5, e6, by show _ ≤ C0 + j1; omega, e8⟩
end
end Rd
