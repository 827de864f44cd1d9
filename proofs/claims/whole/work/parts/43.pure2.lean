/-! ===== pure: texts ===== -/
theorem coder_s {d n a : Nat} {μ : Mem} : J0_coder_7d493 d n a μ 0 μ := J0_coder_7d493_ok ⟨fun h => absurd h (by decide), fun _ => ⟨rfl, rfl⟩⟩
theorem isLatin1_s {d n a : Nat} {μ : Mem} : J0_isLatin1_aae02 d n a μ 1 μ := J0_isLatin1_aae02_ok ⟨fun h => absurd h (by decide), fun _ => ⟨fun h => absurd rfl h, fun _ => ⟨rfl, rfl⟩⟩⟩
theorem length_s {d n a : Nat} {μ : Mem} : J0_length_8abf5 (d + 1) n a μ (nI (sln n)) μ := J0_length_8abf5_ok ⟨0, μ, coder_s, (sb_shr0 _).symm, rfl⟩
theorem charAt1_s {d n a i : Nat} {μ : Mem} (hi : i < sln n) (hs : sln n < 2 ^ 31) : J1_charAt_3b067 (d + 2) n a (nI i) μ (sby n i &&& 255) μ := by
  refine J1_charAt_3b067_ok ⟨μ, J0_chk_ok (nI_pos (by omega)) (nI_lt hi hs), vp_in_nI hi hs, ?_, ?_, rfl⟩
  · rw [nI_clamp (by omega), sc_c2]
    exact sc_nar _
  · rw [nI_clamp (by omega), sc_c2]
theorem charAt_s {d n a i : Nat} {μ : Mem} (hi : i < sln n) (hs : sln n < 2 ^ 31) : J0_charAt_5068e (d + 3) n a (nI i) μ (sby n i &&& 255) μ :=
  J0_charAt_5068e_ok ⟨1, μ, isLatin1_s, fun h => absurd h (by decide), fun _ => ⟨_, μ, charAt1_s hi hs, sc_nar _, rfl, rfl⟩⟩
def ixFrom (n : Nat) (c : Int32) : Nat → Nat → Int32
  | 0, _ => -1
  | m + 1, i => if sby n i = c then nI i else ixFrom n c m (i + 1)
theorem ixChar_loop {d n a : Nat} {c : Int32} {μ : Mem} (hs : sln n < 2 ^ 31) : ∀ (m i : Nat), i + m = sln n → J1_indexOfChar_4cfef_at7 d n a (nI (sln n)) c (nI i) μ (ixFrom n c m i) μ
  | 0, i, h => by
    refine J1_indexOfChar_4cfef_at7_ok ⟨fun _ => ⟨rfl, rfl⟩, fun q => absurd (nI_le (by omega) (by omega)) q⟩
  | m + 1, i, h => by
    refine J1_indexOfChar_4cfef_at7_ok ⟨fun q => absurd q (nI_ge (by omega) hs), fun _ => ⟨vp_in_nI (by omega) hs, fun q => ?_, fun q => ?_⟩⟩
    · rw [nI_clamp (by omega)] at q
      rw [nI_1, ixFrom, if_neg q]
      exact ixChar_loop hs m (i + 1) (by omega)
    · rw [nI_clamp (by omega)] at q
      rw [ixFrom, if_pos q]
      exact ⟨rfl, rfl⟩
theorem ixChar_s {d n a : Nat} {x : Int32} {μ : Mem} (hs : sln n < 2 ^ 31) : J1_indexOfChar_4cfef d n a x 0 (nI (sln n)) μ (ixFrom n x.toInt8.toInt32 (sln n) 0) μ := J1_indexOfChar_4cfef_ok (ixChar_loop hs _ 0 (by omega))
def canEnc (x : Int32) : Int32 := if x < 0 then 0 else if 255 < x then 0 else 1
theorem canEnc_s {d : Nat} {x : Int32} {μ : Mem} : J1_canEncode_9a6ad d x μ (canEnc x) μ := by
  unfold canEnc
  refine J1_canEncode_9a6ad_ok ⟨fun h => ⟨by rw [if_pos h], rfl⟩, fun h => ⟨fun h2 => ⟨by rw [if_neg h, if_pos h2], rfl⟩, fun h2 => ⟨by rw [if_neg h, if_neg h2], rfl⟩⟩⟩
def ixOf (n : Nat) (x : Int32) : Int32 := if canEnc x = 0 then -1 else ixFrom n x.toInt8.toInt32 (sln n) 0
theorem ixOf1_s {d n a : Nat} {x : Int32} {μ : Mem} (h0 : 0 < sln n) (hs : sln n < 2 ^ 31) : J1_indexOf_4cfef (d + 1) n a x 0 (nI (sln n)) μ (ixOf n x) μ := by
  have e1 : mx 0 0 = 0 := by decide
  have e2 : mn (nI (sln n)) (nI (sln n)) = nI (sln n) := by
    unfold mn
    split <;> rfl
  refine J1_indexOf_4cfef_ok ⟨_, μ, canEnc_s, fun q => ?_, fun q => ?_⟩
  · rw [e1, e2]
    refine ⟨fun _ => ⟨_, μ, ixChar_s hs, by unfold ixOf; rw [if_neg q], rfl⟩, fun z => absurd ?_ z⟩
    have := nI_lt (a := 0) (b := sln n) h0 hs
    exact this
  · exact ⟨by unfold ixOf; rw [if_pos q], rfl⟩
theorem ixOf2_s {d n a : Nat} {x : Int32} {μ : Mem} (h0 : 0 < sln n) (hs : sln n < 2 ^ 31) : J0_indexOf_7cf53 (d + 2) n a x 0 μ (ixOf n x) μ :=
  J0_indexOf_7cf53_ok ⟨1, μ, isLatin1_s, fun h => absurd h (by decide), fun _ => ⟨_, μ, length_s, _, μ, ixOf1_s h0 hs, rfl, rfl⟩⟩
theorem ixOf_s {d n a : Nat} {x : Int32} {μ : Mem} (h0 : 0 < sln n) (hs : sln n < 2 ^ 31) : J0_indexOf_0f7a4 (d + 3) n a x μ (ixOf n x) μ := J0_indexOf_0f7a4_ok ⟨_, μ, ixOf2_s h0 hs, rfl, rfl⟩
/-! ===== pure: the words that Tokens makes ===== -/
theorem sJ_1 {μ : Mem} {a k : Nat} {x : Int64} : (sJ μ a k x).2.1 a = vp_updL (μ.2.1 a) k x := up_same
theorem sB_id {μ : Mem} {a : Nat} : sB μ a (μ.2.1 a) = μ := by
  unfold sB
  have : va_up μ.2.1 a (μ.2.1 a) = μ.2.1 := by
    funext b
    by_cases h : b = a
    · rw [h, up_same]
    · rw [up_ne h]
  rw [this]
theorem sB_sB {μ : Mem} {a : Nat} {f g : Nat → Int64} : sB (sB μ a f) a g = sB μ a g := by
  unfold sB
  rw [bx_uu]
/-- the words, from byte i on: w are made, l the letters so far, f the row -/
def tkW : Nat → Nat → Nat → Int64 → (Nat → Int64) → (Nat → Int64)
  | 0, _, _, _, f => f
  | m + 1, i, w, l, f => if sby 0 i &&& 255 = 32 then tkW m (i + 1) (w + 1) 0 (vp_updL f w l) else tkW m (i + 1) w (l * 32 + ((sby 0 i &&& 255) - 97 + 1).toInt64) f
/-- how many blanks are ahead of i -/
def tkB (i : Nat) : Nat := ((List.range i).filter (fun j => decide (sby 0 j &&& 255 = 32))).length
theorem tkB_lt : ∀ i, i < 115 → tkB i < 21 := by decide +kernel
theorem tkB_s (i : Nat) : tkB (i + 1) = if sby 0 i &&& 255 = 32 then tkB i + 1 else tkB i := by
  unfold tkB
  rw [List.range_succ, List.filter_append, List.length_append]
  by_cases h : sby 0 i &&& 255 = 32
  · rw [if_pos h]
    simp [h]
  · rw [if_neg h]
    simp [h]
theorem tk_loop {d : Nat} {μ : Mem} : ∀ (m i : Nat) (l : Int64) (f : Nat → Int64), i + m = 115 → X6_init_at51 (d + 3) (nI (tkB i)) l (nI i) (sB μ 1 f) (sB μ 1 (tkW m i (tkB i) l f))
  | 0, i, l, f, h => by
    have : i = 115 := by omega
    subst this
    exact X6_init_at51_ok ⟨_, _, length_s, fun _ => rfl, fun q => absurd (nI_le (Nat.le_refl 115) (by decide)) q⟩
  | m + 1, i, l, f, h => by
    have hb := tkB_lt i (by omega)
    refine X6_init_at51_ok ⟨_, _, length_s, fun q => absurd q (nI_ge (a := i) (b := 115) (by omega) (by decide)), fun _ => ⟨fun q => absurd q (nI_ge (a := tkB i) (b := 21) hb (by decide)), fun _ => ?_⟩⟩
    refine ⟨_, _, charAt_s (show i < sln 0 from (by show i < 115; omega)) (by decide), fun q => ?_, fun q => ⟨vp_in_nI hb (by decide), ?_⟩⟩
    · refine ⟨_, _, X6_nameWith_ok ⟨rfl, rfl⟩, ?_⟩
      have e : tkB (i + 1) = tkB i := by rw [tkB_s, if_neg q]
      rw [nI_1, tkW, if_neg q, ← e]
      exact tk_loop m (i + 1) _ f (by omega)
    · rintro μ1 rfl
      have e : tkB (i + 1) = tkB i + 1 := by rw [tkB_s, if_pos q]
      rw [nI_1, nI_1, nI_clamp (by omega), tkW, if_pos q, ← e]
      have e2 : sJ (sB μ 1 f) 1 (tkB i) l = sB μ 1 (vp_updL f (tkB i) l) := by
        unfold sJ
        rw [sB_sB]
        show sB μ 1 (vp_updL ((va_up μ.2.1 1 f) 1) (tkB i) l) = _
        rw [up_same]
      rw [e2]
      exact tk_loop m (i + 1) 0 _ (by omega)
theorem tok_at44 {d : Nat} {μ : Mem} : X6_init_at44 (d + 3) μ (sB μ 1 (tkW 115 0 0 0 (μ.2.1 1))) := by
  refine X6_init_at44_ok ?_
  have := tk_loop (d := d) (μ := μ) 115 0 0 (μ.2.1 1) (by omega)
  rw [sB_id] at this
  exact this
