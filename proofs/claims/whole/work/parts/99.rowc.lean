/-! ===== read: a row told; the class's side ===== -/
section Rd
variable {d : Nat}
section
variable {S M : Nat} {T : Nat → Tk}
def lt' (x : List Nat) (p : Nat) : Nat := x.getD p 0
theorem take_s {x : List Nat} {m : Nat} (h : m < x.length) : x.take (m + 1) = x.take m ++ [lt' x m] := by
  rw [List.take_succ]
  congr 1
  show (x[m]?).toList = [(x[m]?).getD 0]
  rw [List.getElem?_eq_getElem h]
  rfl
theorem lt_mem {x : List Nat} {m : Nat} (h : m < x.length) : lt' x m ∈ x := by
  show (x[m]?).getD 0 ∈ x
  rw [List.getElem?_eq_getElem h]
  exact List.getElem_mem h
theorem nm_div {B : Nat} {x : List Nat} (hB : 0 < B) (hd : dgs B x) : ∀ k, k ≤ x.length → nm B x / B ^ k = nm B (x.take (x.length - k))
  | 0, _ => by rw [Nat.pow_zero, Nat.div_one, Nat.sub_zero, List.take_length]
  | k + 1, h => by
    rw [Nat.pow_succ, ← Nat.div_div_eq_div_mul, nm_div hB hd k (by omega), show x.length - k = (x.length - (k + 1)) + 1 by omega, take_s (by omega), nm_snoc]
    have := hd _ (lt_mem (x := x) (m := x.length - (k + 1)) (by omega))
    rw [Nat.mul_comm, Nat.mul_add_div hB, Nat.div_eq_of_lt this.2, Nat.add_zero]
theorem nm_mod {B : Nat} {x : List Nat} {m : Nat} (hd : dgs B x) (h : m < x.length) : nm B (x.take (m + 1)) % B = lt' x m := by
  have := hd _ (lt_mem h)
  rw [take_s h, nm_snoc, Nat.mul_comm, Nat.mul_add_mod, Nat.mod_eq_of_lt this.2]
theorem nm_pos {B : Nat} {x : List Nat} {m : Nat} (hd : dgs B x) (h : m < x.length) : 1 ≤ nm B (x.take (m + 1)) := by
  have := hd _ (lt_mem h)
  rw [take_s h, nm_snoc]
  omega
theorem sh5 : ∀ k, k < 9 → ((5 * nI k : Int32).toInt64.toUInt64 &&& Int64.toUInt64 63) = UInt64.ofNat (5 * k) := by decide
theorem shr5 {v k : Nat} (hv : v < 2 ^ 63) (hk : k < 9) : ((lI v).toUInt64 >>> ((5 * nI k : Int32).toInt64.toUInt64 &&& Int64.toUInt64 63)).toInt64 = lI (v / 32 ^ k) := by
  rw [sh5 k hk]
  have e : (lI v).toUInt64 >>> UInt64.ofNat (5 * k) = UInt64.ofNat (v / 32 ^ k) := by
    apply UInt64.toNat_inj.mp
    have l : v / 32 ^ k ≤ v := Nat.div_le_self _ _
    rw [UInt64.toNat_shiftRight, show ((lI v).toUInt64).toNat = v % 2 ^ 64 from rfl, UInt64.toNat_ofNat', UInt64.toNat_ofNat', Nat.mod_eq_of_lt (show v < 2 ^ 64 by omega), Nat.mod_eq_of_lt (show 5 * k < 2 ^ 64 by omega), Nat.mod_eq_of_lt (show v / 32 ^ k < 2 ^ 64 by omega), Nat.mod_eq_of_lt (show 5 * k < 64 by omega), Nat.shiftRight_eq_div_pow, Nat.pow_mul]
  rw [e]
  rfl
theorem and31 {w : Nat} (hw : w < 2 ^ 63) : ((lI w &&& 31).toInt32 : Int32) = nI (w % 32) := by
  apply i_bv
  show ((BitVec.ofNat 64 w &&& BitVec.ofNat 64 31).signExtend 32).toNat = (BitVec.ofNat 32 (w % 32)).toNat
  rw [BitVec.signExtend_eq_setWidth_of_le _ (by decide), BitVec.toNat_setWidth, BitVec.toNat_and, BitVec.toNat_ofNat, BitVec.toNat_ofNat, BitVec.toNat_ofNat, Nat.mod_eq_of_lt (show w < 2 ^ 64 by omega)]
  have : w &&& 31 % 2 ^ 64 = w % 32 := Nat.and_two_pow_sub_one_eq_mod w 5
  rw [this]
theorem len_c {x : List Nat} {μ : Mem} (hx : okNm x) : ∀ (m k : Nat), k + m = x.length → X6_lengthOf_at2 d (lI (nm 32 x)) (nI k) μ (nI x.length) μ
  | 0, k, hk => by
    have hk : k = x.length := hk
    obtain ⟨b1, b2⟩ := nmB_lt (Or.inr rfl) hx
    have h8 := hx.2.1
    refine X6_lengthOf_at2_ok ⟨fun _ => ⟨by rw [hk], rfl⟩, fun _ => tpos (lgc.2 ?_) ⟨by rw [hk], rfl⟩⟩
    rw [shr5 (by omega) (by omega), hk, nm_div (by decide) b2 _ (Nat.le_refl _), Nat.sub_self]
    rfl
  | m + 1, k, hk => by
    obtain ⟨b1, b2⟩ := nmB_lt (Or.inr rfl) hx
    have h8 := hx.2.1
    refine X6_lengthOf_at2_ok (tneg (fun z => ?_) (tneg (fun z => ?_) ?_))
    · have := (nI_le_iff (a := 8) (by omega) (by omega)).1 z
      omega
    · have z := lgc.1 z
      rw [shr5 (by omega) (by omega), nm_div (by decide) b2 k (by omega), show x.length - k = (x.length - k - 1) + 1 by omega] at z
      have p := nm_pos (m := x.length - k - 1) b2 (by omega)
      have l : nm 32 (x.take (x.length - k - 1 + 1)) < 2 ^ 40 := by
        rw [show x.length - k - 1 + 1 = x.length - k by omega, ← nm_div (by decide) b2 k (by omega)]
        exact Nat.lt_of_le_of_lt (Nat.div_le_self _ _) b1
      have := lI_inj (b := 0) (by omega) (by decide) z
      omega
    · rw [nI_1]
      exact len_c hx m (k + 1) (by omega)
theorem rletter_c {x : List Nat} {p : Nat} {μ : Mem} (hx : okNm x) (hp : p < x.length) : X6_letterAt d (lI (nm 32 x)) (nI (x.length - 1 - p)) μ (nI (lt' x p + 96)) μ := by
  obtain ⟨b1, b2⟩ := nmB_lt (Or.inr rfl) hx
  have h8 := hx.2.1
  refine X6_letterAt_ok ⟨?_, rfl⟩
  rw [shr5 (by omega) (by omega), nm_div (by decide) b2 _ (by omega), show x.length - (x.length - 1 - p) = p + 1 by omega, and31 ?_, nm_mod b2 hp, show (97 : Int32) = nI 97 from rfl, nJ_add, show lt' x p + 97 = (lt' x p + 96) + 1 by omega, nI_pred]
  have e := nm_div (by decide) b2 (x.length - 1 - p) (by omega)
  rw [show x.length - (x.length - 1 - p) = p + 1 by omega] at e
  rw [← e]
  exact Nat.lt_of_le_of_lt (Nat.div_le_self _ _) (by omega)
def okL (c : Nat) : Bool := decide (c ≤ 6) || decide (c = 15)
def badL (x : List Nat) : Nat → Nat → Bool
  | _, 0 => false
  | p, k + 1 => !okL (lt' x p) || badL x (p + 1) k
def cnL (x : List Nat) (f : Nat) : Nat → Nat → Nat
  | _, 0 => 0
  | p, k + 1 => (if lt' x p = f + 1 then 1 else 0) + cnL x f (p + 1) k
def rlC (q a k : Nat) : Prop := (a = 2 ∧ (k = 8 ∨ k = 9)) ∨ (a = q ∧ k ≤ 1) ∨ a = q + 1 ∨ a = q + 2
theorem ltS_or {b c : Bool} {k pl : Nat} {l : Lt} (hk : k ≠ 0) : ltS c k pl (ltS b k pl l) = ltS (b || c) k pl l := by
  cases b with
  | false => rw [ltS_f, Bool.false_or]
  | true => rw [ltS_2 hk, Bool.true_or]
theorem rlay_c {q r pl : Nat} {x : List Nat} (hq : 200 < q) (hx : okNm x) (hr : r < 6) : ∀ (m p : Nat) (l : Lt) (μ : Mem), p + m = x.length → LC' l μ → μ.2.2 2 1 = q → μ.1 q 1 = nI r → ∃ μ', X4_layRow_at47 d (lI (nm 32 x)) (nI pl) (nI x.length) (nI p) μ μ' ∧ LC' (ltS (badL x p m) 6 pl l) μ' ∧ Kz (rlC q) (fun _ => False) μ μ' ∧ μ'.1 q 1 = nI (r + 1) ∧ μ'.1 q 0 = μ.1 q 0 ∧ (∀ c, μ'.1 (q + 1) c = if c / 8 = r ∧ p ≤ c % 8 ∧ c % 8 < x.length ∧ lt' x (c % 8) ≤ 6 then nI (lt' x (c % 8) - 1) else μ.1 (q + 1) c) ∧ (∀ f, f < 6 → μ'.1 (q + 2) f = μ.1 (q + 2) f + nI (cnL x f p m))
  | 0, p, l, μ, hp, hl, hP, hc => by
    have hp : p = x.length := hp
    have h8 := hx.2.1
    refine ⟨sI μ q 1 (nI (r + 1)), X4_layRow_at47_ok (tpos ((nI_le_iff (by omega) (by omega)).2 (by omega)) ?_), hl.n (by omega), Kz.sI (by unfold rlC; omega), sI_1, sI_k (by decide), fun c => ?_, fun f _ => ?_⟩
    · rw [hP, hc, nI_1]
      rintro μ1 rfl
      rfl
    · rw [if_neg (by omega), sI_n (by omega)]
    · rw [sI_n (by omega)]
      show _ = _ + nI 0
      exact (Int32.add_zero _).symm
  | m + 1, p, l, μ, hp, hl, hP, hc => by
    have h8 := hx.2.1
    have hpl : p < x.length := by omega
    have hd := hx.2.2 _ (lt_mem hpl)
    have n1 : ¬ nI x.length ≤ nI p := fun z => by
      have := (nI_le_iff (by omega) (by omega)).1 z
      omega
    have n2 : ¬ (8 : Int32) ≤ nI p := fun z => by
      have := (nI_le_iff (a := 8) (by omega) (by omega)).1 z
      omega
    have la : X6_letterAt d (lI (nm 32 x)) ((nI x.length - 1) - nI p) μ (nI (lt' x p + 96)) μ := by
      rw [show nI x.length - 1 = nI (x.length - 1) from nI_sub (b := 1) (by omega), nI_sub (by omega)]
      exact rletter_c hx hpl
    have e97 : nI (lt' x p + 96) - 97 = nI (lt' x p - 1) := by
      rw [show (97 : Int32) = nI 97 from rfl, nI_sub (by omega), show lt' x p + 96 - 97 = lt' x p - 1 by omega]
    have n3 : ¬ nI (lt' x p - 1) < 0 := nI_nlt (b := 0) (by omega) (by omega)
    -- on, with a memory whose land and cells are told
    have fin : ∀ (μ1 : Mem) (b : Bool) (g : Nat → Int32), (∀ μ', X4_layRow_at47 d (lI (nm 32 x)) (nI pl) (nI x.length) (nI (p + 1)) μ1 μ' → X4_layRow_at47 d (lI (nm 32 x)) (nI pl) (nI x.length) (nI p) μ μ') → b = !okL (lt' x p) → LC' (ltS b 6 pl l) μ1 → Kz (rlC q) (fun _ => False) μ μ1 → μ1.1 q 1 = nI r → μ1.1 q 0 = μ.1 q 0 → (∀ c, μ1.1 (q + 1) c = if c = 8 * r + p ∧ lt' x p ≤ 6 then nI (lt' x p - 1) else μ.1 (q + 1) c) → (∀ f, f < 6 → μ1.1 (q + 2) f = μ.1 (q + 2) f + nI (if lt' x p = f + 1 then 1 else 0)) → ∃ μ', X4_layRow_at47 d (lI (nm 32 x)) (nI pl) (nI x.length) (nI p) μ μ' ∧ LC' (ltS (badL x p (m + 1)) 6 pl l) μ' ∧ Kz (rlC q) (fun _ => False) μ μ' ∧ μ'.1 q 1 = nI (r + 1) ∧ μ'.1 q 0 = μ.1 q 0 ∧ (∀ c, μ'.1 (q + 1) c = if c / 8 = r ∧ p ≤ c % 8 ∧ c % 8 < x.length ∧ lt' x (c % 8) ≤ 6 then nI (lt' x (c % 8) - 1) else μ.1 (q + 1) c) ∧ (∀ f, f < 6 → μ'.1 (q + 2) f = μ.1 (q + 2) f + nI (cnL x f p (m + 1))) := fun μ1 b g go hb l1 k1 r1 r0 la1 ce1 => by
      obtain ⟨μ', t1, t2, t3, t4, t5, t6, t7⟩ := rlay_c hq hx hr m (p + 1) _ μ1 (by omega) l1 (by rw [k1.2.2]; exact hP) r1
      refine ⟨μ', go _ t1, ?_, k1.trans t3, t4, t5.trans r0, fun c => ?_, fun f hf => ?_⟩
      · rw [ltS_or (by decide), hb] at t2
        exact t2
      · rw [t6 c, la1 c]
        by_cases e : c = 8 * r + p
        · have e1 : c / 8 = r := by omega
          have e2 : c % 8 = p := by omega
          rw [e2, if_neg (show ¬ (c / 8 = r ∧ p + 1 ≤ p ∧ p < x.length ∧ lt' x p ≤ 6) from fun z => by omega)]
          by_cases y : lt' x p ≤ 6
          · rw [if_pos ⟨e, y⟩, if_pos ⟨e1, Nat.le_refl _, hpl, y⟩]
          · rw [if_neg (fun z => y z.2), if_neg (fun z => y z.2.2.2)]
        · rw [if_neg (show ¬ (c = 8 * r + p ∧ lt' x p ≤ 6) from fun z => e z.1)]
          by_cases y : c / 8 = r ∧ p + 1 ≤ c % 8 ∧ c % 8 < x.length ∧ lt' x (c % 8) ≤ 6
          · rw [if_pos y, if_pos ⟨y.1, by omega, y.2.2⟩]
          · rw [if_neg y, if_neg (fun z => y ⟨z.1, by omega, z.2.2⟩)]
      · rw [t7 f hf, ce1 f hf, Int32.add_assoc, nJ_add]
        rfl
    by_cases c6 : lt' x p ≤ 6
    · have n4 : ¬ (6 : Int32) ≤ nI (lt' x p - 1) := fun z => by
        have := (nI_le_iff (a := 6) (by omega) (by omega)).1 z
        omega
      refine fin (sI (sI μ (q + 1) (8 * r + p) (nI (lt' x p - 1))) (q + 2) (lt' x p - 1) (μ.1 (q + 2) (lt' x p - 1) + 1)) false (fun _ => 0) (fun μ' hk => X4_layRow_at47_ok (tneg n1 (tneg n2 ⟨_, μ, la, ?_⟩))) (by unfold okL; rw [decide_eq_true c6]; rfl) ((hl.n (by omega)).n (by omega)) ((Kz.sI (by unfold rlC; omega)).trans (Kz.sI (by unfold rlC; omega))) (by rw [sI_n (by omega), sI_n (by omega)]; exact hc) (by rw [sI_n (by omega), sI_n (by omega)]) (fun c => ?_) (fun f hf => ?_)
      · rw [e97]
        refine tneg n3 (tneg n4 ?_)
        rw [hP, hc, show (nI r : Int32) * 8 + nI p = nI (8 * r + p) by rw [show (8 : Int32) = nI 8 from rfl, nI_mul, nJ_add, Nat.mul_comm]]
        refine ⟨vp_inN (by omega) (by decide), ?_⟩
        rw [nI_clamp (by omega), nI_clamp (by omega)]
        rintro μ10 rfl
        refine ⟨vp_inN (by omega) (by decide), vp_inN (by omega) (by decide), ?_⟩
        rw [sI_2, hP, sI_n (show q + 2 ≠ q + 1 by omega)]
        rintro μ11 rfl
        rw [nI_1]
        exact hk
      · rw [sI_n (by omega)]
        by_cases e : c = 8 * r + p
        · rw [if_pos ⟨e, c6⟩, e, sI_1]
        · rw [if_neg (fun z => e z.1), sI_k e]
      · by_cases e : lt' x p = f + 1
        · rw [if_pos e, show lt' x p - 1 = f by omega, sI_1]
          rfl
        · rw [if_neg e, sI_k (by omega), sI_n (by omega)]
          exact (Int32.add_zero _).symm
    · have n4 : (6 : Int32) ≤ nI (lt' x p - 1) := (nI_le_iff (a := 6) (by omega) (by omega)).2 (by omega)
      by_cases c15 : lt' x p = 15
      · refine fin μ false (fun _ => 0) (fun μ' hk => X4_layRow_at47_ok (tneg n1 (tneg n2 ⟨_, μ, la, ?_⟩))) (by unfold okL; rw [c15]; rfl) hl Kz.refl hc rfl (fun c => by rw [if_neg (fun z => c6 z.2)]) (fun f hf => ?_)
        · rw [e97]
          refine tneg n3 (tpos n4 (tpos (by rw [c15]; rfl) ?_))
          rw [nI_1]
          exact hk
        · rw [if_neg (by omega)]
          exact (Int32.add_zero _).symm
      · obtain ⟨μ1, g1, g2, g3⟩ := later_c (d := d) (k := 6) (pl := pl) (by decide) hl
        refine fin μ1 true (fun _ => 0) (fun μ' hk => X4_layRow_at47_ok (tneg n1 (tneg n2 ⟨_, μ, la, ?_⟩))) (by unfold okL; rw [decide_eq_false c6, decide_eq_false c15]; rfl) g2 (g3.mono (fun a k z => by unfold rlC; omega) (fun _ z => z)) ((g3.at (by omega)).trans hc) (g3.at (by omega)) (fun c => by rw [if_neg (fun z => c6 z.2), g3.at (by omega)]) (fun f hf => ?_)
        · rw [e97]
          refine tneg n3 (tpos n4 (tneg (fun z => c15 ?_) ⟨μ1, g1, ?_⟩))
          · have := nI_inj (b := 111) (by omega) (by decide) z
            omega
          · rw [nI_1]
            exact hk
        · rw [if_neg (by omega), g3.at (by omega)]
          exact (Int32.add_zero _).symm
end
end Rd
