/-! ===== packings: pure ===== -/
section Pack
def sumN (f : Nat → Nat) : Nat → Nat
  | 0 => 0
  | i + 1 => sumN f i + f i
theorem sumN_le {f g : Nat → Nat} : ∀ n, (∀ i, i < n → f i ≤ g i) → sumN f n ≤ sumN g n
  | 0, _ => Nat.le_refl _
  | n + 1, h => by
    have a := sumN_le n fun i hi => h i (by omega)
    have b := h n (by omega)
    show sumN f n + f n ≤ sumN g n + g n
    omega
theorem sumN_congr {f g : Nat → Nat} : ∀ n, (∀ i, i < n → f i = g i) → sumN f n = sumN g n
  | 0, _ => rfl
  | n + 1, h => by
    show sumN f n + f n = sumN g n + g n
    rw [sumN_congr n fun i hi => h i (by omega), h n (by omega)]
theorem sumN_add {f g : Nat → Nat} : ∀ n, sumN (fun i => f i + g i) n = sumN f n + sumN g n
  | 0 => rfl
  | n + 1 => by
    show sumN (fun i => f i + g i) n + (f n + g n) = sumN f n + f n + (sumN g n + g n)
    rw [sumN_add n]
    omega
theorem sumN_0 : ∀ n, sumN (fun _ => 0) n = 0
  | 0 => rfl
  | n + 1 => by
    show sumN (fun _ => 0) n + 0 = 0
    rw [sumN_0 n]
theorem sumN_swap {g : Nat → Nat → Nat} {m : Nat} : ∀ n, sumN (fun c => sumN (fun i => g i c) m) n = sumN (fun i => sumN (fun c => g i c) n) m
  | 0 => (sumN_0 m).symm
  | n + 1 => by
    show sumN (fun c => sumN (fun i => g i c) m) n + sumN (fun i => g i n) m = sumN (fun i => sumN (fun c => g i c) n + g i n) m
    rw [sumN_add, sumN_swap n]
/-- at most one of them -/
theorem sumN_one {b : Nat → Bool} : ∀ n, (∀ i j, i < n → j < n → b i = true → b j = true → i = j) → sumN (fun i => if b i then 1 else 0) n ≤ 1
  | 0, _ => by show (0 : Nat) ≤ 1; omega
  | n + 1, h => by
    have ih := sumN_one n fun i j hi hj => h i j (by omega) (by omega)
    show sumN (fun i => if b i then 1 else 0) n + (if b n then 1 else 0) ≤ 1
    cases e : b n with
    | false => simpa using ih
    | true =>
      have z : sumN (fun i => if b i then 1 else 0) n = sumN (fun _ => 0) n := sumN_congr n fun i hi => by
        cases q : b i with
        | false => rfl
        | true => exact absurd (h i n (by omega) (by omega) q e) (by omega)
      rw [z, sumN_0]
      simp
section
variable {n : Nat} {W H : Nat → Nat}
/-- apart -/
def Apt (W H x y : Nat → Nat) (i j : Nat) : Prop := x i + W i ≤ x j ∨ x j + W j ≤ x i ∨ y i + H i ≤ y j ∨ y j + H j ≤ y i
theorem Apt.symm {x y : Nat → Nat} {i j : Nat} (h : Apt W H x y i j) : Apt W H x y j i := by
  unfold Apt at h ⊢
  omega
def Lie (n : Nat) (W H : Nat → Nat) (L : Nat) (x y : Nat → Nat) : Prop := (∀ i, i < n → x i + W i ≤ 8 ∧ y i + H i ≤ L) ∧ ∀ i j, i < n → j < n → i ≠ j → Apt W H x y i j
def Fit (n : Nat) (W H : Nat → Nat) (L : Nat) : Prop := ∃ x y, Lie n W H L x y
def SzP (n : Nat) (W H : Nat → Nat) : Prop := n ≤ 4 ∧ ∀ i, i < n → 1 ≤ W i ∧ W i ≤ 8 ∧ 1 ≤ H i ∧ H i ≤ 6
theorem fit_all (hs : SzP n W H) : Fit n W H (sumN H n) := by
  refine ⟨fun _ => 0, fun i => sumN H i, ⟨fun i hi => ⟨by show 0 + W i ≤ 8; have := (hs.2 i hi).2.1; omega, ?_⟩, fun i j hi hj hne => ?_⟩⟩
  · have mono : ∀ a b, a ≤ b → sumN H a ≤ sumN H b := by
      intro a b hab
      obtain ⟨m, rfl⟩ := Nat.exists_eq_add_of_le hab
      induction m with
      | zero => exact Nat.le_refl _
      | succ m ih =>
        have := ih (by omega)
        show _ ≤ sumN H (a + m) + H (a + m)
        omega
    exact mono (i + 1) n (by omega)
  · have mono : ∀ a b, a ≤ b → sumN H a ≤ sumN H b := by
      intro a b hab
      obtain ⟨m, rfl⟩ := Nat.exists_eq_add_of_le hab
      induction m with
      | zero => exact Nat.le_refl _
      | succ m ih =>
        have := ih (by omega)
        show _ ≤ sumN H (a + m) + H (a + m)
        omega
    rcases Nat.lt_or_ge i j with q | q
    · exact Or.inr (Or.inr (Or.inl (mono (i + 1) j (by omega))))
    · exact Or.inr (Or.inr (Or.inr (mono (j + 1) i (by omega))))
theorem Fit.mono {L K : Nat} (h : Fit n W H L) (hLK : L ≤ K) : Fit n W H K := by
  obtain ⟨x, y, h1, h2⟩ := h
  exact ⟨x, y, fun i hi => ⟨(h1 i hi).1, by have := (h1 i hi).2; omega⟩, h2⟩
/-- pieces over one column -/
theorem column {L c : Nat} {x y : Nat → Nat} (h : Lie n W H L x y) : sumN (fun i => if x i ≤ c ∧ c < x i + W i then H i else 0) n ≤ L := by
  have key : ∀ t, sumN (fun i => if x i ≤ c ∧ c < x i + W i then min (t - y i) (H i) else 0) n ≤ t := by
    intro t
    induction t with
    | zero =>
      rw [sumN_congr (g := fun _ => 0) n fun i hi => by split <;> simp, sumN_0]
      exact Nat.le_refl _
    | succ t ih =>
      have e : sumN (fun i => if x i ≤ c ∧ c < x i + W i then min (t + 1 - y i) (H i) else 0) n = sumN (fun i => (if x i ≤ c ∧ c < x i + W i then min (t - y i) (H i) else 0) + (if decide ((x i ≤ c ∧ c < x i + W i) ∧ y i ≤ t ∧ t < y i + H i) then 1 else 0)) n := sumN_congr n fun i hi => by
        by_cases q : x i ≤ c ∧ c < x i + W i
        · rw [if_pos q, if_pos q]
          by_cases z : y i ≤ t ∧ t < y i + H i
          · rw [decide_eq_true ⟨q, z⟩, if_pos rfl]
            omega
          · rw [decide_eq_false fun u => z u.2, if_neg (by decide)]
            omega
        · rw [if_neg q, if_neg q, decide_eq_false fun u => q u.1]
          rfl
      rw [e, sumN_add]
      have o := sumN_one (b := fun i => decide ((x i ≤ c ∧ c < x i + W i) ∧ y i ≤ t ∧ t < y i + H i)) n fun i j hi hj bi bj => by
        have p := of_decide_eq_true bi
        have q := of_decide_eq_true bj
        refine Classical.byContradiction fun ne => ?_
        have := h.2 i j hi hj ne
        unfold Apt at this
        omega
      omega
  have k := key L
  rw [sumN_congr (g := fun i => if x i ≤ c ∧ c < x i + W i then H i else 0) n fun i hi => by
    have := (h.1 i hi).2
    split
    · omega
    · rfl] at k
  exact k
theorem cols {x w v : Nat} (h : x + w ≤ 8) : sumN (fun c => if x ≤ c ∧ c < x + w then v else 0) 8 = w * v := by
  have key : ∀ m, sumN (fun c => if x ≤ c ∧ c < x + w then v else 0) m = (min m (x + w) - min m x) * v := by
    intro m
    induction m with
    | zero => rw [show min 0 (x + w) - min 0 x = 0 by omega, Nat.zero_mul]; rfl
    | succ m ih =>
      show sumN (fun c => if x ≤ c ∧ c < x + w then v else 0) m + (if x ≤ m ∧ m < x + w then v else 0) = _
      rw [ih]
      by_cases q : x ≤ m ∧ m < x + w
      · rw [if_pos q, show min (m + 1) (x + w) - min (m + 1) x = (min m (x + w) - min m x) + 1 by omega, Nat.succ_mul]
      · rw [if_neg q, show min (m + 1) (x + w) - min (m + 1) x = min m (x + w) - min m x by omega]
        rfl
  rw [key, show min 8 (x + w) - min 8 x = w by omega]
theorem fit_area {L : Nat} (h : Fit n W H L) : sumN (fun i => W i * H i) n ≤ 8 * L := by
  obtain ⟨x, y, h⟩ := h
  have e : sumN (fun i => W i * H i) n = sumN (fun i => sumN (fun c => if x i ≤ c ∧ c < x i + W i then H i else 0) 8) n := sumN_congr n fun i hi => (cols (h.1 i hi).1).symm
  rw [e, ← sumN_swap]
  have : sumN (fun c => sumN (fun i => if x i ≤ c ∧ c < x i + W i then H i else 0) n) 8 ≤ sumN (fun _ => L) 8 := sumN_le 8 fun c _ => column h
  have e8 : sumN (fun _ => L) 8 = 8 * L := by
    show 0 + L + L + L + L + L + L + L + L = 8 * L
    omega
  omega
theorem fit_alone {L : Nat} (h : Fit n W H L) : sumN (fun i => if 4 < W i then H i else 0) n ≤ L := by
  obtain ⟨x, y, h⟩ := h
  refine Nat.le_trans (sumN_le n fun i hi => ?_) (column (c := 3) h)
  have := (h.1 i hi).1
  by_cases q : 4 < W i
  · rw [if_pos q, if_pos (by omega)]
    exact Nat.le_refl _
  · rw [if_neg q]
    exact Nat.zero_le _
theorem fit_long {L i : Nat} (h : Fit n W H L) (hi : i < n) : H i ≤ L := by
  obtain ⟨x, y, h⟩ := h
  have := (h.1 i hi).2
  omega
/-- each leans on another one -/
def Norm (n : Nat) (W H : Nat → Nat) (L : Nat) (x y : Nat → Nat) : Prop := Lie n W H L x y ∧ ∀ i, i < n → x i = 0 ∨ ∃ j, j < n ∧ j ≠ i ∧ x j + W j = x i
theorem updN_sum {x : Nat → Nat} {i v : Nat} : ∀ n, i < n → sumN (updN x i v) n + x i = sumN x n + v
  | 0, h => absurd h (Nat.not_lt_zero _)
  | n + 1, h => by
    show sumN (updN x i v) n + updN x i v n + x i = sumN x n + x n + v
    by_cases e : i = n
    · rw [← e, updN_same, sumN_congr (g := x) i fun j hj => updN_ne (by omega)]
      omega
    · rw [updN_ne (fun z => e z.symm)]
      have := updN_sum (x := x) (v := v) n (show i < n by omega)
      omega
theorem norm_ex {L : Nat} : ∀ (S : Nat) (x y : Nat → Nat), sumN x n = S → Lie n W H L x y → ∃ x' y', Norm n W H L x' y' := by
  intro S
  induction S using Nat.strongRecOn with
  | ind S ih =>
    intro x y hS h
    rcases Classical.em (∀ i, i < n → x i = 0 ∨ ∃ j, j < n ∧ j ≠ i ∧ x j + W j = x i) with q | q
    · exact ⟨x, y, h, q⟩
    · obtain ⟨i, q1⟩ := Classical.not_forall.mp q
      obtain ⟨hi, q2⟩ := Classical.not_imp.mp q1
      have q3 : x i ≠ 0 := fun z => q2 (Or.inl z)
      have q4 : ∀ j, j < n → j ≠ i → x j + W j ≠ x i := fun j h1 h2 h3 => q2 (Or.inr ⟨j, h1, h2, h3⟩)
      have us := updN_sum (x := x) (v := x i - 1) n hi
      refine ih (sumN (updN x i (x i - 1)) n) (by omega) (updN x i (x i - 1)) y rfl ⟨fun j hj => ?_, fun a b ha hb hne => ?_⟩
      · by_cases e : j = i
        · rw [e, updN_same]
          have := h.1 i hi
          omega
        · rw [updN_ne e]
          exact h.1 j hj
      · have o := h.2 a b ha hb hne
        unfold Apt at o ⊢
        by_cases ea : a = i
        · have eb : b ≠ i := fun z => hne (by rw [ea, z])
          rw [ea] at o ⊢
          rw [updN_same, updN_ne eb]
          have := q4 b hb eb
          omega
        · rw [updN_ne ea]
          by_cases eb : b = i
          · rw [eb] at o ⊢
            rw [updN_same]
            have := q4 a ha ea
            omega
          · rw [updN_ne eb]
            exact o
/-- sums of the others' widths -/
theorem chain {L : Nat} {x y : Nat → Nat} (hs : SzP n W H) (h : Norm n W H L x y) : ∀ (v i : Nat), x i = v → i < n → ∃ s : Nat → Bool, (∀ m, s m = true → m < n ∧ x m < x i) ∧ sumN (fun m => if s m then W m else 0) n = x i := by
  intro v
  induction v using Nat.strongRecOn with
  | ind v ih =>
    intro i hv hi
    rcases h.2 i hi with q | ⟨j, j1, j2, j3⟩
    · refine ⟨fun _ => false, fun m hm => (by cases hm), ?_⟩
      rw [q]
      exact sumN_0 n
    · have wj := (hs.2 j j1).1
      obtain ⟨s, s1, s2⟩ := ih (x j) (by omega) j rfl j1
      have sj : s j = false := by
        cases e : s j with
        | false => rfl
        | true => exact absurd (s1 j e).2 (Nat.lt_irrefl _)
      refine ⟨fun m => if m = j then true else s m, fun m hm => ?_, ?_⟩
      · by_cases e : m = j
        · rw [e]
          exact ⟨j1, by omega⟩
        · have hm : (if m = j then true else s m) = true := hm
          rw [if_neg e] at hm
          have := s1 m hm
          exact ⟨this.1, by omega⟩
      · have e : sumN (fun m => if (if m = j then true else s m) then W m else 0) n = sumN (updN (fun m => if s m then W m else 0) j (W j)) n := sumN_congr n fun m hm => by
          by_cases e : m = j
          · rw [e, updN_same, if_pos rfl, if_pos rfl]
          · rw [updN_ne e, if_neg e]
        have us := updN_sum (x := fun m => if s m then W m else 0) (v := W j) n j1
        rw [sj] at us
        rw [e]
        have us : sumN (updN (fun m => if s m = true then W m else 0) j (W j)) n + 0 = sumN (fun m => if s m = true then W m else 0) n + W j := us
        omega
/-- the bits of the places -/
def plB (W : Nat → Nat) (i : Nat) : Nat → Nat
  | 0 => 1
  | k + 1 => if k = i then plB W i k else plB W i k ||| (plB W i k * 2 ^ W k)
theorem plB_sum {i : Nat} {s : Nat → Bool} (hsi : s i = false) : ∀ k, (plB W i k).testBit (sumN (fun m => if s m then W m else 0) k) = true
  | 0 => by
    show (1 : Nat).testBit 0 = true
    decide
  | k + 1 => by
    have ih := plB_sum hsi k
    show (if k = i then plB W i k else plB W i k ||| (plB W i k * 2 ^ W k)).testBit (sumN (fun m => if s m then W m else 0) k + if s k then W k else 0) = true
    by_cases e : k = i
    · rw [if_pos e, e, hsi]
      rw [e] at ih
      exact ih
    · rw [if_neg e, Nat.testBit_or]
      cases q : s k with
      | false =>
        rw [if_neg (by decide), Nat.add_zero, ih, Bool.true_or]
      | true =>
        rw [if_pos rfl, ← Nat.shiftLeft_eq, Nat.testBit_shiftLeft, decide_eq_true (show W k ≤ _ by omega), Nat.add_sub_cancel, ih, Bool.true_and, Bool.or_true]
theorem pl_norm {L i : Nat} {x y : Nat → Nat} (hs : SzP n W H) (h : Norm n W H L x y) (hi : i < n) : (plB W i n).testBit (x i) = true := by
  obtain ⟨s, s1, s2⟩ := chain hs h (x i) i rfl hi
  have si : s i = false := by
    cases e : s i with
    | false => rfl
    | true => exact absurd (s1 i e).2 (Nat.lt_irrefl _)
  rw [← s2]
  exact plB_sum si n
end
end Pack
