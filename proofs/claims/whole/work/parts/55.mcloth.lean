/-! ===== the model: cloth and what falls ===== -/
theorem runC_congr {vs ws : Nat → Int32} (hv : ∀ i, i < 9 → vs i = ws i) {B : Nat} : ∀ {cs : List Cd} {st : List Int32} {m : Nat}, wfD B cs st.length m → runC vs cs st = runC ws cs st
  | [], _, _, _ => rfl
  | q :: r, st, m, h => by
    rcases wfD_len h with ⟨k, h1, h2, h3⟩ | ⟨k, h1, h2, h3⟩ | ⟨k, h1, h2, h3⟩
    · rw [runC_0 k, runC_0 k]
      exact runC_congr hv (st := nI q.2 :: st) h3
    · rw [runC_1 k, runC_1 k, hv q.2 h2]
      exact runC_congr hv (st := ws q.2 :: st) h3
    · obtain ⟨b, a, s, rfl⟩ := len2 h2
      rw [runC_2 k, runC_2 k]
      rw [runC_congr hv (st := opC q.1 a b :: s) h3]
theorem valC_congr {vs ws : Nat → Int32} (hv : ∀ i, i < 9 → vs i = ws i) {B m : Nat} {cs : List Cd} (h : wfD B cs 0 m) : valC vs cs = valC ws cs := by
  unfold valC
  rw [runC_congr hv (st := []) h]
theorem askL_congr {vs ws : Nat → Int32} (hv : ∀ i, i < 9 → vs i = ws i) : ∀ {L : Lw}, wfL L → askL vs L = askL ws L
  | [], h => h.elim
  | (none, w) :: r, h => valC_congr hv h.1
  | (some (u, v), w) :: r, h => by
    unfold askL
    rw [valC_congr hv h.1, valC_congr hv h.2.1, valC_congr hv h.2.2.1, askL_congr hv h.2.2.2]
theorem askA_congr {vs ws : Nat → Int32} (hv : ∀ i, i < 9 → vs i = ws i) {L : Lw} {pl most : Nat} (h : L = [] ∨ wfL L) : askA vs pl most L = askA ws pl most L := by
  unfold askA
  rcases h with rfl | h
  · rfl
  · rw [askL_congr hv h]
theorem upd_congr {f g : Nat → Int32} {n k : Nat} {v : Int32} (h : ∀ i, i < n → f i = g i) : ∀ i, i < n → upd f k v i = upd g k v i := fun i hi => by
  unfold upd
  split
  · rfl
  · exact h i hi
def vT (P : Pl) (l warp pick : Nat) : Nat → Int32 := upd (upd (upd (upd (upd (fun _ => 0) 0 (nI (pick % 4))) 1 (nI warp)) 2 (nI pick)) 7 (nI l)) 8 (nI (pWi P l))
def vD (water need drown day : Nat) : Nat → Int32 := upd (upd (upd (upd (fun _ => 0) 3 (nI water)) 4 (nI need)) 5 (nI drown)) 6 (nI day)
def vG (day : Nat) : Nat → Int32 := upd (fun _ => 0) 6 (nI day)
/-- how much lies in the THREAD; how a CELL dries; what fog comes -/
def thr (P : Pl) (l warp pick : Nat) : Nat := askA (vT P l warp pick) 1 9 (pLw P 0)
def dryA (P : Pl) (water need drown day : Nat) : Nat := askA (vD water need drown day) 1 99 (pLw P 1)
def gathA (P : Pl) (day : Nat) : Nat := askA (vG day) 0 999 (pLw P 2)
theorem thr_le {P : Pl} {l warp pick : Nat} : thr P l warp pick ≤ 9 := askA_le (by decide) (by decide)
theorem dryA_le {P : Pl} {w n d y : Nat} : dryA P w n d y ≤ 99 := askA_le (by decide) (by decide)
theorem gathA_le {P : Pl} {day : Nat} : gathA P day ≤ 999 := askA_le (by decide) (by decide)
def fVr : Fr := fun a k => a == 31 || a == 32 || (a == 0 && k == 49)
theorem fT_V {μ μ' : Mem} (h : Kp fT μ μ') : Kp fVr μ μ' := h.mono fun a k q => by
  unfold fVr at q
  unfold fT
  cases h1 : a == 32 <;> cases h2 : a == 0 && k == 49 <;> cases h3 : a == 31 <;> simp_all
theorem fV_M {μ μ' : Mem} (h : Kp fVr μ μ') : Kp fM μ μ' := h.mono fun a k q => by
  unfold fM at q
  unfold fVr
  by_cases h0 : a = 0
  · subst h0
    rw [if_pos rfl] at q
    have : k = 18 := by simpa using q
    subst this
    rfl
  · rw [if_neg h0] at q
    have h1 : (a == 31) = false := by
      rw [beq_eq_false_iff_ne]; rintro rfl; cases q
    have h2 : (a == 32) = false := by
      rw [beq_eq_false_iff_ne]; rintro rfl; cases q
    have h3 : (a == 0) = false := by rw [beq_eq_false_iff_ne]; exact h0
    rw [h1, h2, h3]
    rfl
section Looks
variable {P : Pl} {μ : Mem} {d : Nat}
theorem looks_loop : ∀ (m i : Nat), i + m = 9 → X10_looks_at2 d (nI i) (sA μ 31 (fillTo (μ.1 31) i 0)) (sA μ 31 (fillTo (μ.1 31) 9 0))
  | 0, i, h => by
    have : i = 9 := by omega
    subst this
    exact X10_looks_at2_ok (tpos (by decide) rfl)
  | m + 1, i, h => by
    refine X10_looks_at2_ok (tneg (nI_ge (b := 9) (by omega) (by decide)) ⟨vp_inN (by omega) (by decide), ?_⟩)
    rintro μ1 rfl
    rw [nI_clamp (by omega), ← nI_succ]
    have e : sI (sA μ 31 (fillTo (μ.1 31) i 0)) 31 i 0 = sA μ 31 (fillTo (μ.1 31) (i + 1) 0) := by
      unfold sI
      rw [sA_1, sA_sA, fillTo_s]
    rw [e]
    exact looks_loop m (i + 1) (by omega)
theorem looks_s : X10_looks d μ (sA μ 31 (fillTo (μ.1 31) 9 0)) := by
  refine X10_looks_ok ?_
  have := looks_loop (d := d) (μ := μ) 9 0 (by omega)
  rw [fillTo_0, sA_id] at this
  exact this
theorem fill9 {f : Nat → Int32} : ∀ i, i < 9 → fillTo f 9 0 i = (fun _ => (0 : Int32)) i := fun i hi => if_pos hi
/-- the variables set behind looks, and a law asked -/
theorem asks_v {k pl most : Nat} (hk : k < 3) (hmo : most < 2 ^ 31) (h : MP P μ) {vs : Nat → Int32} (hv : ∀ i, i < 9 → μ.1 31 i = vs i) : ∃ μ', X10_asks (d + 1) (nI k) (nI pl) (nI most) μ (nI (askA vs pl most (pLw P k))) μ' ∧ Kp fT μ μ' := by
  obtain ⟨L, _, _, _, m⟩ := h.eL
  obtain ⟨μ', h1, h2⟩ := asks_s (d := d) (pl := pl) hk hmo h.live (m.2.2.2.2.2.2.2.2.2.2.2.2 k hk)
  rw [askA_congr hv (h.1.2.2.2.2.2.2.2.2.2.2.2 k hk)] at h1
  exact ⟨μ', h1, h2⟩
theorem threadOf_m {l warp pick : Nat} (hl : l < pL P) (hp : pick < 2 ^ 31) (h : MP P μ) : ∃ μ', X10_threadOf (d + 2) (nI l) (nI warp) (nI pick) μ (nI (thr P l warp pick)) μ' ∧ Kp fVr μ μ' := by
  obtain ⟨L, h1, h2, _, m⟩ := h.eL
  have h4 := h.1.2.2.2.1
  have ev : ∀ f : Nat → Int32, Kp fVr μ (sA μ 31 f) := fun f => Kp.sA fun _ => rfl
  let g : Nat → Int32 := upd (upd (upd (upd (upd (fillTo (μ.1 31) 9 0) 0 (nI (pick % 4))) 1 (nI warp)) 2 (nI pick)) 7 (nI l)) 8 (nI (pWi P l))
  have hg : ∀ i, i < 9 → g i = vT P l warp pick i := upd_congr (upd_congr (upd_congr (upd_congr (upd_congr fill9))))
  obtain ⟨μ', k1, k2⟩ := asks_v (d := d) (k := 0) (pl := 1) (most := 9) (by decide) (by decide) (h.kp (fV_M (ev g))) (vs := vT P l warp pick) (by rw [sA_1]; exact hg)
  refine ⟨μ', X10_threadOf_ok ⟨_, looks_s, ?_⟩, (ev g).trans (fT_V k2)⟩
  rintro μ3 rfl μ4 rfl μ5 rfl μ6 rfl
  have e0 : (sI (sI (sI (sI (sA μ 31 (fillTo (μ.1 31) 9 0)) 31 0 (nI pick - nI pick / 4 * 4)) 31 1 (nI warp)) 31 2 (nI pick)) 31 7 (nI l)) = sA μ 31 (upd (upd (upd (upd (fillTo (μ.1 31) 9 0) 0 (nI (pick % 4))) 1 (nI warp)) 2 (nI pick)) 7 (nI l)) := by
    rw [show (4 : Int32) = nI 4 from rfl, nI_rem hp (by decide)]
    unfold sI
    simp only [sA_1, sA_sA]
  rw [e0, sA_n (show 0 ≠ 31 by decide), sA_n (show 16 ≠ 31 by decide), h2, show (4 : Int32) = nI 4 from rfl, nI_mul, nJ_add, nI_clamp (by omega), (m.2.2.2.2.2.2.2.2.2.2.2.1 l hl).1]
  refine ⟨vp_inN (by omega) (by decide), ?_⟩
  rintro μ7 rfl
  have e1 : sI (sA μ 31 (upd (upd (upd (upd (fillTo (μ.1 31) 9 0) 0 (nI (pick % 4))) 1 (nI warp)) 2 (nI pick)) 7 (nI l))) 31 8 (nI (pWi P l)) = sA μ 31 g := by
    unfold sI
    rw [sA_1, sA_sA]
  rw [e1]
  exact ⟨_, μ', k1, rfl, rfl⟩
theorem driesIn_m {c w day : Nat} (hc : c < 48) (ho : onL P c = true) (h : MP P μ) (hw : μ.1 34 c = nI w) (hd : μ.1 34 89 = nI day) : ∃ μ', X10_driesIn (d + 2) (nI c) μ (nI (dryA P w (needO P c) (drownO P c) day)) μ' ∧ Kp fVr μ μ' := by
  have ev : ∀ f : Nat → Int32, Kp fVr μ (sA μ 31 f) := fun f => Kp.sA fun _ => rfl
  let g : Nat → Int32 := upd (upd (upd (upd (fillTo (μ.1 31) 9 0) 3 (nI w)) 4 (nI (needO P c))) 5 (nI (drownO P c))) 6 (nI day)
  have hg : ∀ i, i < 9 → g i = vD w (needO P c) (drownO P c) day i := upd_congr (upd_congr (upd_congr (upd_congr fill9)))
  obtain ⟨μ', k1, k2⟩ := asks_v (d := d) (k := 1) (pl := 1) (most := 99) (by decide) (by decide) (h.kp (fV_M (ev g))) (vs := vD w (needO P c) (drownO P c) day) (by rw [sA_1]; exact hg)
  refine ⟨μ', X10_driesIn_ok ⟨_, looks_s, vp_inN (by omega) (by decide), ?_⟩, (ev g).trans (fT_V k2)⟩
  rintro μ3 rfl
  rw [nI_clamp (by omega), sA_n (show 34 ≠ 31 by decide), hw]
  have e0 : sI (sA μ 31 (fillTo (μ.1 31) 9 0)) 31 3 (nI w) = sA μ 31 (upd (fillTo (μ.1 31) 9 0) 3 (nI w)) := by
    unfold sI
    rw [sA_1, sA_sA]
  rw [e0]
  refine ⟨_, _, needOf_m hc ho (h.kp (fV_M (ev _))), ?_⟩
  rintro μ7 rfl
  have e1 : sI (sA μ 31 (upd (fillTo (μ.1 31) 9 0) 3 (nI w))) 31 4 (nI (needO P c)) = sA μ 31 (upd (upd (fillTo (μ.1 31) 9 0) 3 (nI w)) 4 (nI (needO P c))) := by
    unfold sI
    rw [sA_1, sA_sA]
  rw [e1]
  refine ⟨_, _, drownOf_m hc ho (h.kp (fV_M (ev _))), ?_⟩
  rintro μ11 rfl μ12 rfl
  have e2 : sI (sI (sA μ 31 (upd (upd (fillTo (μ.1 31) 9 0) 3 (nI w)) 4 (nI (needO P c)))) 31 5 (nI (drownO P c))) 31 6 ((sI (sA μ 31 (upd (upd (fillTo (μ.1 31) 9 0) 3 (nI w)) 4 (nI (needO P c)))) 31 5 (nI (drownO P c))).1 34 89) = sA μ 31 g := by
    unfold sI
    rw [sA_n (show 34 ≠ 31 by decide), sA_n (show 34 ≠ 31 by decide), hd]
    simp only [sA_1, sA_sA]
    rfl
  rw [e2]
  exact ⟨_, μ', k1, rfl, rfl⟩
end Looks
def cpTo (f g : Nat → Int32) (n : Nat) : Nat → Int32 := fun j => if j < n then g j else f j
theorem cpTo_0 {f g : Nat → Int32} : cpTo f g 0 = f := by
  funext j
  exact if_neg (Nat.not_lt_zero j)
theorem cpTo_s {f g : Nat → Int32} {n : Nat} : upd (cpTo f g n) n (g n) = cpTo f g (n + 1) := by
  funext j
  unfold upd cpTo
  by_cases h : j = n
  · subst h
    rw [if_pos rfl, if_pos (by omega)]
  · rw [if_neg h]
    by_cases h2 : j < n
    · rw [if_pos h2, if_pos (by omega)]
    · rw [if_neg h2, if_neg (by omega)]
section Rows
variable {P : Pl} {μ : Mem} {d : Nat}
theorem copies_loop {μ' : Mem} (hl : vp_in (μ.1 0 18) 2) (hμ : μ' = sI (sA μ 34 (cpTo (μ.1 34) (μ.1 33) 92)) 0 52 (μ.1 20 (μ.1 0 18).toNatClampNeg)) : ∀ (m i : Nat), i + m = 92 → X10_copies_at2 d (nI i) (sA μ 34 (cpTo (μ.1 34) (μ.1 33) i)) μ'
  | 0, i, h => by
    have : i = 92 := by omega
    subst this
    refine X10_copies_at2_ok (tpos (by decide) ⟨?_, ?_⟩)
    · rw [sA_n (by decide)]; exact hl
    · rintro μ1 rfl
      rw [sA_n (show 0 ≠ 34 by decide), sA_n (show 20 ≠ 34 by decide)]
      exact hμ
  | m + 1, i, h => by
    refine X10_copies_at2_ok (tneg (nI_ge (b := 92) (by omega) (by decide)) ⟨vp_inN (by omega) (by decide), vp_inN (by omega) (by decide), ?_⟩)
    rintro μ1 rfl
    rw [nI_clamp (by omega), ← nI_succ]
    have e : sI (sA μ 34 (cpTo (μ.1 34) (μ.1 33) i)) 34 i ((sA μ 34 (cpTo (μ.1 34) (μ.1 33) i)).1 33 i) = sA μ 34 (cpTo (μ.1 34) (μ.1 33) (i + 1)) := by
      unfold sI
      rw [sA_n (show 33 ≠ 34 by decide), sA_1, sA_sA, cpTo_s]
    rw [e]
    exact copies_loop hl hμ m (i + 1) (by omega)
theorem keepsRow_loop : ∀ (m i : Nat), i + m = 92 → X10_keepsRow_at2 d (nI i) (sA μ 33 (cpTo (μ.1 33) (μ.1 34) i)) (sA μ 33 (cpTo (μ.1 33) (μ.1 34) 92))
  | 0, i, h => by
    have : i = 92 := by omega
    subst this
    exact X10_keepsRow_at2_ok (tpos (by decide) rfl)
  | m + 1, i, h => by
    refine X10_keepsRow_at2_ok (tneg (nI_ge (b := 92) (by omega) (by decide)) ⟨vp_inN (by omega) (by decide), vp_inN (by omega) (by decide), ?_⟩)
    rintro μ1 rfl
    rw [nI_clamp (by omega), ← nI_succ]
    have e : sI (sA μ 33 (cpTo (μ.1 33) (μ.1 34) i)) 33 i ((sA μ 33 (cpTo (μ.1 33) (μ.1 34) i)).1 34 i) = sA μ 33 (cpTo (μ.1 33) (μ.1 34) (i + 1)) := by
      unfold sI
      rw [sA_n (show 34 ≠ 33 by decide), sA_1, sA_sA, cpTo_s]
    rw [e]
    exact keepsRow_loop m (i + 1) (by omega)
/-- a row of 92 numbers -/
def RowM (μ : Mem) (a : Nat) (r : Nat → Nat) : Prop := ∀ k, k < 92 → μ.1 a k = nI (r k)
def updN (f : Nat → Nat) (k v : Nat) : Nat → Nat := fun j => if j = k then v else f j
theorem updN_same {f : Nat → Nat} {k v : Nat} : updN f k v k = v := if_pos rfl
theorem updN_ne {f : Nat → Nat} {k v j : Nat} (h : j ≠ k) : updN f k v j = f j := if_neg h
theorem RowM.upd {a k v : Nat} {r : Nat → Nat} (h : RowM μ a r) : RowM (sI μ a k (nI v)) a (updN r k v) := fun j hj => by
  by_cases e : j = k
  · subst e
    rw [sI_1, updN_same]
  · rw [sI_k e, updN_ne e, h j hj]
theorem RowM.kp {S : Fr} {μ' : Mem} {a : Nat} {r : Nat → Nat} (h : RowM μ a r) (k : Kp S μ μ') (hS : ∀ j, S a j = false) : RowM μ' a r := fun j hj => (k.at (hS j)).trans (h j hj)
def fC : Fr := fun a k => a == 34 || (a == 0 && k == 52)
theorem copies_m {r : Nat → Nat} (h : MP P μ) (hr : RowM μ 33 r) : ∃ μ', X10_copies d μ μ' ∧ Kp fC μ μ' ∧ RowM μ' 34 r ∧ μ'.1 0 52 = nI (pSe P) := by
  obtain ⟨L, h1, h2, _, m⟩ := h.eL
  refine ⟨_, X10_copies_ok (by have := copies_loop (d := d) h.live rfl 92 0 (by omega); rwa [cpTo_0, sA_id] at this), (Kp.sA fun _ => rfl).trans (Kp.sI rfl), fun k hk => ?_, ?_⟩
  · rw [sI_n (by decide), sA_1]
    show (if k < 92 then μ.1 33 k else _) = _
    rw [if_pos hk, hr k hk]
  · rw [sI_1, h2, nI_clamp (by omega)]
    exact m.2.2.2.2.2.2.2.2.1
theorem keepsRow_m {r : Nat → Nat} (hr : RowM μ 34 r) : ∃ μ', X10_keepsRow d μ μ' ∧ Kp (fun a _ => a == 33) μ μ' ∧ RowM μ' 33 r := by
  refine ⟨_, X10_keepsRow_ok (by have := keepsRow_loop (d := d) (μ := μ) 92 0 (by omega); rwa [cpTo_0, sA_id] at this), Kp.sA fun _ => rfl, fun k hk => ?_⟩
  rw [sA_1]
  show (if k < 92 then μ.1 34 k else _) = _
  rw [if_pos hk, hr k hk]
end Rows
