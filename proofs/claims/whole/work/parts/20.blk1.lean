abbrev J0_checkIndex_df160 (d : Nat) (x0 x1 : Int32) (μ : Mem) (μ' : Mem) : Prop := Me d yJ0_checkIndex_df160 cJ0_checkIndex_df160 2 none [vi x0, vi x1] μ none μ'
abbrev J0_length_8abf5 (d : Nat) (n0 : Nat) (a0 : Nat) (μ : Mem) (x : Int32) (μ' : Mem) : Prop := Me d yJ0_length_8abf5 cJ0_length_8abf5 1 ((some .int)) [vr 20 n0 a0] μ (some (vi x)) μ'
abbrev J0_charAt_5068e (d : Nat) (n0 : Nat) (a0 : Nat) (x1 : Int32) (μ : Mem) (x : Int32) (μ' : Mem) : Prop := Me d yJ0_charAt_5068e cJ0_charAt_5068e 2 ((some .char)) [vr 20 n0 a0, vi x1] μ (some (vi x)) μ'
abbrev J0_indexOf_0f7a4 (d : Nat) (n0 : Nat) (a0 : Nat) (x1 : Int32) (μ : Mem) (x : Int32) (μ' : Mem) : Prop := Me d yJ0_indexOf_0f7a4 cJ0_indexOf_0f7a4 2 ((some .int)) [vr 20 n0 a0, vi x1] μ (some (vi x)) μ'
abbrev J0_indexOf_7cf53 (d : Nat) (n0 : Nat) (a0 : Nat) (x1 : Int32) (x2 : Int32) (μ : Mem) (x : Int32) (μ' : Mem) : Prop := Me d yJ0_indexOf_7cf53 cJ0_indexOf_7cf53 3 ((some .int)) [vr 20 n0 a0, vi x1, vi x2] μ (some (vi x)) μ'
abbrev J0_coder_7d493 (d : Nat) (n0 : Nat) (a0 : Nat) (μ : Mem) (x : Int32) (μ' : Mem) : Prop := Me d yJ0_coder_7d493 cJ0_coder_7d493 1 ((some .byte)) [vr 20 n0 a0] μ (some (vi x)) μ'
abbrev J0_isLatin1_aae02 (d : Nat) (n0 : Nat) (a0 : Nat) (μ : Mem) (x : Int32) (μ' : Mem) : Prop := Me d yJ0_isLatin1_aae02 cJ0_isLatin1_aae02 1 ((some .boolean)) [vr 20 n0 a0] μ (some (vi x)) μ'
abbrev J1_charAt_3b067 (d : Nat) (n0 : Nat) (a0 : Nat) (x1 : Int32) (μ : Mem) (x : Int32) (μ' : Mem) : Prop := Me d yJ1_charAt_3b067 cJ1_charAt_3b067 2 ((some .char)) [vr 21 n0 a0, vi x1] μ (some (vi x)) μ'
abbrev J1_canEncode_9a6ad (d : Nat) (x0 : Int32) (μ : Mem) (x : Int32) (μ' : Mem) : Prop := Me d yJ1_canEncode_9a6ad cJ1_canEncode_9a6ad 1 ((some .boolean)) [vi x0] μ (some (vi x)) μ'
abbrev J1_indexOf_4cfef (d : Nat) (n0 : Nat) (a0 : Nat) (x1 : Int32) (x2 : Int32) (x3 : Int32) (μ : Mem) (x : Int32) (μ' : Mem) : Prop := Me d yJ1_indexOf_4cfef cJ1_indexOf_4cfef 4 ((some .int)) [vr 21 n0 a0, vi x1, vi x2, vi x3] μ (some (vi x)) μ'
abbrev J1_indexOfChar_4cfef (d : Nat) (n0 : Nat) (a0 : Nat) (x1 : Int32) (x2 : Int32) (x3 : Int32) (μ : Mem) (x : Int32) (μ' : Mem) : Prop := Me d yJ1_indexOfChar_4cfef cJ1_indexOfChar_4cfef 6 ((some .int)) [vr 21 n0 a0, vi x1, vi x2, vi x3] μ (some (vi x)) μ'
abbrev J1_indexOfChar_4cfef_at7 (d : Nat) (n0 : Nat) (a0 : Nat) (x3 : Int32) (x4 : Int32) (x5 : Int32) (μ : Mem) (x : Int32) (μ' : Mem) : Prop := Ev d yJ1_indexOfChar_4cfef cJ1_indexOfChar_4cfef 6 ((some .int)) 7 [some (vr 21 n0 a0), none, none, some (vi x3), some (vi x4), some (vi x5)] [] μ (some (vi x)) μ'
abbrev J7_fill_53178 (d : Nat) (n0 : Nat) (a0 : Nat) (x1 : Int32) (μ : Mem) (μ' : Mem) : Prop := Me d yJ7_fill_53178 cJ7_fill_53178 4 (none) [vr 11 n0 a0, vi x1] μ none μ'
abbrev J7_fill_53178_at5 (d : Nat) (n0 : Nat) (a0 : Nat) (x1 : Int32) (x2 : Int32) (x3 : Int32) (μ : Mem) (μ' : Mem) : Prop := Ev d yJ7_fill_53178 cJ7_fill_53178 4 (none) 5 [some (vr 11 n0 a0), some (vi x1), some (vi x2), some (vi x3)] [] μ none μ'
abbrev X0_add (d : Nat) (x1 : Int32) (μ : Mem) (x : Int32) (μ' : Mem) : Prop := Me d yX0_add cX0_add 4 ((some .boolean)) [vr 0 0 203, vi x1] μ (some (vi x)) μ'
abbrev X0_clear (d : Nat)  (μ : Mem) (μ' : Mem) : Prop := Me d yX0_clear cX0_clear 1 (none) [vr 0 0 203] μ none μ'
abbrev X0_hasTwin (d : Nat) (x1 : Int32) (x2 : Int32) (μ : Mem) (x : Int32) (μ' : Mem) : Prop := Me d yX0_hasTwin cX0_hasTwin 4 ((some .boolean)) [vr 0 0 203, vi x1, vi x2] μ (some (vi x)) μ'
abbrev X0_hasTwin_at2 (d : Nat) (x1 : Int32) (x2 : Int32) (x3 : Int32) (μ : Mem) (x : Int32) (μ' : Mem) : Prop := Ev d yX0_hasTwin cX0_hasTwin 4 ((some .boolean)) 2 [some (vr 0 0 203), some (vi x1), some (vi x2), some (vi x3)] [] μ (some (vi x)) μ'
abbrev X0_lay (d : Nat) (x1 : Int32) (x2 : Int32) (x3 : Int32) (μ : Mem) (x : Int32) (μ' : Mem) : Prop := Me d yX0_lay cX0_lay 8 ((some .int)) [vr 0 0 203, vi x1, vi x2, vi x3] μ (some (vi x)) μ'
abbrev X0_lay_at35 (d : Nat) (x1 : Int32) (x3 : Int32) (a4 : Nat) (a5 : Nat) (x6 : Int32) (x7 : Int32) (μ : Mem) (x : Int32) (μ' : Mem) : Prop := Ev d yX0_lay cX0_lay 8 ((some .int)) 35 [some (vr 0 0 203), some (vi x1), none, some (vi x3), some (vr 11 8 a4), some (vr 11 8 a5), some (vi x6), some (vi x7)] [] μ (some (vi x)) μ'
abbrev X0_lay_at87 (d : Nat) (x1 : Int32) (x3 : Int32) (a5 : Nat) (x6 : Int32) (x7 : Int32) (μ : Mem) (x : Int32) (μ' : Mem) : Prop := Ev d yX0_lay cX0_lay 8 ((some .int)) 87 [some (vr 0 0 203), some (vi x1), none, some (vi x3), none, some (vr 11 8 a5), some (vi x6), some (vi x7)] [] μ (some (vi x)) μ'
abbrev X0_layEverywhere (d : Nat) (x1 : Int32) (x2 : Int32) (x3 : Int32) (x4 : Int32) (μ : Mem) (μ' : Mem) : Prop := Me d yX0_layEverywhere cX0_layEverywhere 8 (none) [vr 0 0 203, vi x1, vi x2, vi x3, vi x4] μ none μ'
abbrev X0_layEverywhere_at3 (d : Nat) (x1 : Int32) (x2 : Int32) (x3 : Int32) (x4 : Int32) (x5 : Int32) (μ : Mem) (μ' : Mem) : Prop := Ev (d + 1) yX0_layEverywhere cX0_layEverywhere 8 (none) 3 [some (vr 0 0 203), some (vi x1), some (vi x2), some (vi x3), some (vi x4), some (vi x5), none, none] [] μ none μ'
abbrev X0_layNext (d : Nat) (x1 : Int32) (x2 : Int32) (x3 : Int32) (μ : Mem) (μ' : Mem) : Prop := Me d yX0_layNext cX0_layNext 5 (none) [vr 0 0 203, vi x1, vi x2, vi x3] μ none μ'
abbrev X0_layNext_at24 (d : Nat) (x1 : Int32) (x2 : Int32) (x3 : Int32) (x4 : Int32) (μ : Mem) (μ' : Mem) : Prop := Ev (d + 1) yX0_layNext cX0_layNext 5 (none) 24 [some (vr 0 0 203), some (vi x1), some (vi x2), some (vi x3), some (vi x4)] [] μ none μ'
abbrev X0_leastLength (d : Nat)  (μ : Mem) (x : Int32) (μ' : Mem) : Prop := Me d yX0_leastLength cX0_leastLength 3 ((some .int)) [vr 0 0 203] μ (some (vi x)) μ'
abbrev X0_leastLength_at14 (d : Nat) (x1 : Int32) (x2 : Int32) (μ : Mem) (x : Int32) (μ' : Mem) : Prop := Ev (d + 1) yX0_leastLength cX0_leastLength 3 ((some .int)) 14 [some (vr 0 0 203), some (vi x1), some (vi x2)] [] μ (some (vi x)) μ'
abbrev X0_placesFor (d : Nat) (x1 : Int32) (μ : Mem) (x : Int32) (μ' : Mem) : Prop := Me d yX0_placesFor cX0_placesFor 4 ((some .int)) [vr 0 0 203, vi x1] μ (some (vi x)) μ'
abbrev X0_placesFor_at4 (d : Nat) (x1 : Int32) (x2 : Int32) (x3 : Int32) (μ : Mem) (x : Int32) (μ' : Mem) : Prop := Ev d yX0_placesFor cX0_placesFor 4 ((some .int)) 4 [some (vr 0 0 203), some (vi x1), some (vi x2), some (vi x3)] [] μ (some (vi x)) μ'
abbrev X1_aimHere (d : Nat) (a : Nat) (x1 : Int32) (μ : Mem) (μ' : Mem) : Prop := Me d yX1_aimHere cX1_aimHere 2 (none) [vr 1 0 a, vi x1] μ none μ'
abbrev X1_answer (d : Nat) (a : Nat) (μ : Mem) (x : Int32) (μ' : Mem) : Prop := Me d yX1_answer cX1_answer 6 ((some .int)) [vr 1 0 a] μ (some (vi x)) μ'
abbrev X1_answer_at4 (d : Nat) (a : Nat) (x1 : Int32) (x2 : Int32) (μ : Mem) (x : Int32) (μ' : Mem) : Prop := Ev (d + 1) yX1_answer cX1_answer 6 ((some .int)) 4 [some (vr 1 0 a), some (vi x1), some (vi x2), none, none, none] [] μ (some (vi x)) μ'
abbrev X1_clear (d : Nat) (a : Nat) (μ : Mem) (μ' : Mem) : Prop := Me d yX1_clear cX1_clear 1 (none) [vr 1 0 a] μ none μ'
abbrev X1_put (d : Nat) (a : Nat) (x1 : Int32) (μ : Mem) (μ' : Mem) : Prop := Me d yX1_put cX1_put 2 (none) [vr 1 0 a, vi x1] μ none μ'
abbrev X1_putConstant (d : Nat) (a : Nat) (x1 : Int32) (μ : Mem) (μ' : Mem) : Prop := Me d yX1_putConstant cX1_putConstant 2 (none) [vr 1 0 a, vi x1] μ none μ'
abbrev X1_putUnlessLess (d : Nat) (a : Nat) (μ : Mem) (x : Int32) (μ' : Mem) : Prop := Me d yX1_putUnlessLess cX1_putUnlessLess 1 ((some .int)) [vr 1 0 a] μ (some (vi x)) μ'
abbrev X1_worked (d : Nat) (x0 : Int32) (x1 : Int32) (x2 : Int32) (μ : Mem) (x : Int32) (μ' : Mem) : Prop := Me d yX1_worked cX1_worked 3 ((some .int)) [vi x0, vi x1, vi x2] μ (some (vi x)) μ'
abbrev X2_clear (d : Nat)  (μ : Mem) (μ' : Mem) : Prop := Me d yX2_clear cX2_clear 1 (none) [vr 2 0 23] μ none μ'
abbrev X2_remember (d : Nat) (a1 : Nat) (μ : Mem) (μ' : Mem) : Prop := Me d yX2_remember cX2_remember 2 (none) [vr 2 0 23, vr 5 0 a1] μ none μ'
abbrev X2_takeBack (d : Nat) (a1 : Nat) (μ : Mem) (x : Int32) (μ' : Mem) : Prop := Me d yX2_takeBack cX2_takeBack 2 ((some .boolean)) [vr 2 0 23, vr 5 0 a1] μ (some (vi x)) μ'
abbrev X3_clear (d : Nat) (a : Nat) (μ : Mem) (μ' : Mem) : Prop := Me d yX3_clear cX3_clear 1 (none) [vr 3 0 a] μ none μ'
abbrev X3_drowned (d : Nat) (a : Nat) (x1 : Int32) (x2 : Int32) (μ : Mem) (x : Int32) (μ' : Mem) : Prop := Me d yX3_drowned cX3_drowned 3 ((some .boolean)) [vr 3 0 a, vi x1, vi x2] μ (some (vi x)) μ'
abbrev X3_fieldAt (d : Nat) (a : Nat) (x1 : Int32) (x2 : Int32) (μ : Mem) (x : Int32) (μ' : Mem) : Prop := Me d yX3_fieldAt cX3_fieldAt 3 ((some .int)) [vr 3 0 a, vi x1, vi x2] μ (some (vi x)) μ'
abbrev X3_hasCell (d : Nat) (a : Nat) (x1 : Int32) (x2 : Int32) (μ : Mem) (x : Int32) (μ' : Mem) : Prop := Me d yX3_hasCell cX3_hasCell 3 ((some .boolean)) [vr 3 0 a, vi x1, vi x2] μ (some (vi x)) μ'
abbrev X3_hasField (d : Nat) (a : Nat) (x1 : Int32) (μ : Mem) (x : Int32) (μ' : Mem) : Prop := Me d yX3_hasField cX3_hasField 2 ((some .boolean)) [vr 3 0 a, vi x1] μ (some (vi x)) μ'
abbrev X3_hasLoom (d : Nat) (a : Nat) (x1 : Int32) (μ : Mem) (x : Int32) (μ' : Mem) : Prop := Me d yX3_hasLoom cX3_hasLoom 2 ((some .boolean)) [vr 3 0 a, vi x1] μ (some (vi x)) μ'
abbrev X3_lacks (d : Nat) (a : Nat) (x1 : Int32) (x2 : Int32) (μ : Mem) (x : Int32) (μ' : Mem) : Prop := Me d yX3_lacks cX3_lacks 3 ((some .boolean)) [vr 3 0 a, vi x1, vi x2] μ (some (vi x)) μ'
abbrev X3_narrowest (d : Nat) (a : Nat) (μ : Mem) (x : Int32) (μ' : Mem) : Prop := Me d yX3_narrowest cX3_narrowest 3 ((some .int)) [vr 3 0 a] μ (some (vi x)) μ'
abbrev X3_narrowest_at5 (d : Nat) (a : Nat) (x1 : Int32) (x2 : Int32) (μ : Mem) (x : Int32) (μ' : Mem) : Prop := Ev d yX3_narrowest cX3_narrowest 3 ((some .int)) 5 [some (vr 3 0 a), some (vi x1), some (vi x2)] [] μ (some (vi x)) μ'
abbrev X3_needOf (d : Nat) (a : Nat) (x1 : Int32) (μ : Mem) (x : Int32) (μ' : Mem) : Prop := Me d yX3_needOf cX3_needOf 2 ((some .int)) [vr 3 0 a, vi x1] μ (some (vi x)) μ'
abbrev X4_accept (d : Nat) (x1 : Int32) (μ : Mem) (x : Int32) (μ' : Mem) : Prop := Me d yX4_accept cX4_accept 2 ((some .boolean)) [vr 4 0 2, vi x1] μ (some (vi x)) μ'
abbrev X4_begin (d : Nat)  (μ : Mem) (μ' : Mem) : Prop := Me d yX4_begin cX4_begin 1 (none) [vr 4 0 2] μ none μ'
abbrev X4_blame (d : Nat) (x1 : Int32) (μ : Mem) (μ' : Mem) : Prop := Me d yX4_blame cX4_blame 2 (none) [vr 4 0 2, vi x1] μ none μ'
abbrev X4_blameLater (d : Nat) (x1 : Int32) (x2 : Int32) (μ : Mem) (μ' : Mem) : Prop := Me d yX4_blameLater cX4_blameLater 3 (none) [vr 4 0 2, vi x1, vi x2] μ none μ'
abbrev X4_layRow (d : Nat) (x1 : Int64) (x3 : Int32) (μ : Mem) (μ' : Mem) : Prop := Me d yX4_layRow cX4_layRow 8 (none) [vr 4 0 2, vl x1, vi x3] μ none μ'
abbrev X4_layRow_at47 (d : Nat) (x1 : Int64) (x3 : Int32) (x4 : Int32) (x5 : Int32) (μ : Mem) (μ' : Mem) : Prop := Ev (d + 1) yX4_layRow cX4_layRow 8 (none) 47 [some (vr 4 0 2), some (vl x1), none, some (vi x3), some (vi x4), some (vi x5), none, none] [] μ none μ'
abbrev X4_productCode (d : Nat)  (μ : Mem) (x : Int32) (μ' : Mem) : Prop := Me d yX4_productCode cX4_productCode 1 ((some .int)) [vr 4 0 2] μ (some (vi x)) μ'
abbrev X4_readField (d : Nat)  (μ : Mem) (μ' : Mem) : Prop := Me d yX4_readField cX4_readField 1 (none) [vr 4 0 2] μ none μ'
abbrev X4_readInt (d : Nat) (x1 : Int32) (x2 : Int32) (μ : Mem) (x : Int32) (μ' : Mem) : Prop := Me d yX4_readInt cX4_readInt 5 ((some .int)) [vr 4 0 2, vi x1, vi x2] μ (some (vi x)) μ'
abbrev X4_readLaw (d : Nat) (a1 : Nat) (μ : Mem) (μ' : Mem) : Prop := Me d yX4_readLaw cX4_readLaw 4 (none) [vr 4 0 2, vr 1 0 a1] μ none μ'
abbrev X4_readLaw_at22 (d : Nat) (a1 : Nat) (x2 : Int32) (μ : Mem) (μ' : Mem) : Prop := Ev (d + 1) yX4_readLaw cX4_readLaw 4 (none) 22 [some (vr 4 0 2), some (vr 1 0 a1), some (vi x2), none] [] μ none μ'
abbrev X4_readLoom (d : Nat)  (μ : Mem) (μ' : Mem) : Prop := Me d yX4_readLoom cX4_readLoom 1 (none) [vr 4 0 2] μ none μ'
abbrev X4_readName (d : Nat)  (μ : Mem) (μ' : Mem) : Prop := Me d yX4_readName cX4_readName 5 (none) [vr 4 0 2] μ none μ'
abbrev X4_readName_at23 (d : Nat) (x1 : Int64) (x3 : Int32) (x4 : Int32) (μ : Mem) (μ' : Mem) : Prop := Ev (d + 1) yX4_readName cX4_readName 5 (none) 23 [some (vr 4 0 2), some (vl x1), none, some (vi x3), some (vi x4)] [] μ none μ'
abbrev X4_readRow (d : Nat)  (μ : Mem) (μ' : Mem) : Prop := Me d yX4_readRow cX4_readRow 4 (none) [vr 4 0 2] μ none μ'
abbrev X4_readSum (d : Nat) (a1 : Nat) (x2 : Int32) (μ : Mem) (μ' : Mem) : Prop := Me d yX4_readSum cX4_readSum 7 (none) [vr 4 0 2, vr 1 0 a1, vi x2] μ none μ'
abbrev X4_readSum_at11 (d : Nat) (a1 : Nat) (x2 : Int32) (x3 : Int32) (x4 : Int32) (x5 : Int32) (x6 : Int32) (μ : Mem) (μ' : Mem) : Prop := Ev (d + 1) yX4_readSum cX4_readSum 7 (none) 11 [some (vr 4 0 2), some (vr 1 0 a1), some (vi x2), some (vi x3), some (vi x4), some (vi x5), some (vi x6)] [] μ none μ'
abbrev X4_readSum_at69 (d : Nat) (a1 : Nat) (x2 : Int32) (x3 : Int32) (x4 : Int32) (x6 : Int32) (μ : Mem) (μ' : Mem) : Prop := Ev (d + 1) yX4_readSum cX4_readSum 7 (none) 69 [some (vr 4 0 2), some (vr 1 0 a1), some (vi x2), some (vi x3), some (vi x4), none, some (vi x6)] [] μ none μ'
abbrev X4_readSum_at78 (d : Nat) (a1 : Nat) (x2 : Int32) (x3 : Int32) (x4 : Int32) (x6 : Int32) (μ : Mem) (μ' : Mem) : Prop := Ev (d + 1) yX4_readSum cX4_readSum 7 (none) 78 [some (vr 4 0 2), some (vr 1 0 a1), some (vi x2), some (vi x3), some (vi x4), none, some (vi x6)] [] μ none μ'
abbrev X4_readSum_at93 (d : Nat) (a1 : Nat) (x2 : Int32) (x3 : Int32) (x4 : Int32) (x6 : Int32) (μ : Mem) (μ' : Mem) : Prop := Ev (d + 1) yX4_readSum cX4_readSum 7 (none) 93 [some (vr 4 0 2), some (vr 1 0 a1), some (vi x2), some (vi x3), some (vi x4), none, some (vi x6)] [] μ none μ'
abbrev X4_readTell (d : Nat)  (μ : Mem) (μ' : Mem) : Prop := Me d yX4_readTell cX4_readTell 1 (none) [vr 4 0 2] μ none μ'
abbrev X4_readText (d : Nat) (x2 : Int32) (μ : Mem) (x : Int32) (μ' : Mem) : Prop := Me d yX4_readText cX4_readText 4 ((some .int)) [vr 4 0 2, vr 12 2000 1, vi x2] μ (some (vi x)) μ'
abbrev X4_readText_at15 (d : Nat) (x2 : Int32) (x3 : Int32) (μ : Mem) (x : Int32) (μ' : Mem) : Prop := Ev (d + 1) yX4_readText cX4_readText 4 ((some .int)) 15 [some (vr 4 0 2), none, some (vi x2), some (vi x3)] [] μ (some (vi x)) μ'
abbrev X4_readText_at50 (d : Nat) (x2 : Int32) (x3 : Int32) (μ : Mem) (x : Int32) (μ' : Mem) : Prop := Ev (d + 1) yX4_readText cX4_readText 4 ((some .int)) 50 [some (vr 4 0 2), none, some (vi x2), some (vi x3)] [] μ (some (vi x)) μ'
abbrev X4_readUnit (d : Nat) (a1 : Nat) (x2 : Int32) (μ : Mem) (μ' : Mem) : Prop := Me d yX4_readUnit cX4_readUnit 3 (none) [vr 4 0 2, vr 1 0 a1, vi x2] μ none μ'
abbrev X4_start (d : Nat)  (μ : Mem) (x : Int32) (μ' : Mem) : Prop := Me d yX4_start cX4_start 1 ((some .int)) [vr 4 0 2] μ (some (vi x)) μ'
abbrev X4_sumCode (d : Nat)  (μ : Mem) (x : Int32) (μ' : Mem) : Prop := Me d yX4_sumCode cX4_sumCode 1 ((some .int)) [vr 4 0 2] μ (some (vi x)) μ'
abbrev X4_value (d : Nat)  (μ : Mem) (x : Int64) (μ' : Mem) : Prop := Me d yX4_value cX4_value 1 ((some .long)) [vr 4 0 2] μ (some (vl x)) μ'
abbrev X5_addPart (d : Nat) (a : Nat) (x1 : Int32) (x2 : Int32) (x3 : Int32) (μ : Mem) (μ' : Mem) : Prop := Me d yX5_addPart cX5_addPart 4 (none) [vr 5 0 a, vi x1, vi x2, vi x3] μ none μ'
abbrev X5_begin (d : Nat) (a : Nat) (a1 : Nat) (μ : Mem) (μ' : Mem) : Prop := Me d yX5_begin cX5_begin 3 (none) [vr 5 0 a, vr 3 0 a1] μ none μ'
abbrev X5_begin_at47 (d : Nat) (a : Nat) (a1 : Nat) (x2 : Int32) (μ : Mem) (μ' : Mem) : Prop := Ev (d + 1) yX5_begin cX5_begin 3 (none) 47 [some (vr 5 0 a), some (vr 3 0 a1), some (vi x2)] [] μ none μ'
abbrev X5_copy (d : Nat) (a : Nat) (a1 : Nat) (μ : Mem) (x : Nat) (μ' : Mem) : Prop := Me d yX5_copy cX5_copy 2 ((some (.object RX5))) [vr 5 0 a, vr 5 0 a1] μ (some (vr 5 0 x)) μ'
abbrev X5_hasOrder (d : Nat) (a : Nat) (x1 : Int32) (μ : Mem) (x : Int32) (μ' : Mem) : Prop := Me d yX5_hasOrder cX5_hasOrder 2 ((some .boolean)) [vr 5 0 a, vi x1] μ (some (vi x)) μ'
abbrev X5_isOrdered (d : Nat) (a : Nat) (x1 : Int32) (x2 : Int32) (x3 : Int32) (x4 : Int32) (x5 : Int32) (μ : Mem) (x : Int32) (μ' : Mem) : Prop := Me d yX5_isOrdered cX5_isOrdered 6 ((some .boolean)) [vr 5 0 a, vi x1, vi x2, vi x3, vi x4, vi x5] μ (some (vi x)) μ'
abbrev X5_isPart (d : Nat) (x0 : Int32) (x1 : Int32) (μ : Mem) (x : Int32) (μ' : Mem) : Prop := Me d yX5_isPart cX5_isPart 2 ((some .boolean)) [vi x0, vi x1] μ (some (vi x)) μ'
abbrev X5_part (d : Nat) (a : Nat) (x1 : Int32) (x2 : Int32) (μ : Mem) (x : Int32) (μ' : Mem) : Prop := Me d yX5_part cX5_part 3 ((some .int)) [vr 5 0 a, vi x1, vi x2] μ (some (vi x)) μ'
abbrev X5_setOrder (d : Nat) (a : Nat) (x1 : Int32) (x2 : Int32) (x3 : Int32) (x4 : Int32) (x5 : Int32) (μ : Mem) (μ' : Mem) : Prop := Me d yX5_setOrder cX5_setOrder 6 (none) [vr 5 0 a, vi x1, vi x2, vi x3, vi x4, vi x5] μ none μ'
abbrev X5_setPart (d : Nat) (a : Nat) (x1 : Int32) (x2 : Int32) (x3 : Int32) (μ : Mem) (μ' : Mem) : Prop := Me d yX5_setPart cX5_setPart 4 (none) [vr 5 0 a, vi x1, vi x2, vi x3] μ none μ'
abbrev X5_sum (d : Nat) (n0 : Nat) (a0 : Nat) (μ : Mem) (x : Int32) (μ' : Mem) : Prop := Me d yX5_sum cX5_sum 3 ((some .int)) [vr 11 n0 a0] μ (some (vi x)) μ'
abbrev X5_sum_at4 (d : Nat) (n0 : Nat) (a0 : Nat) (x1 : Int32) (x2 : Int32) (μ : Mem) (x : Int32) (μ' : Mem) : Prop := Ev d yX5_sum cX5_sum 3 ((some .int)) 4 [some (vr 11 n0 a0), some (vi x1), some (vi x2)] [] μ (some (vi x)) μ'
abbrev X5_waterAt (d : Nat) (a : Nat) (x1 : Int32) (x2 : Int32) (μ : Mem) (x : Int32) (μ' : Mem) : Prop := Me d yX5_waterAt cX5_waterAt 4 ((some .int)) [vr 5 0 a, vi x1, vi x2] μ (some (vi x)) μ'
abbrev X5_waterOf (d : Nat) (a : Nat) (a1 : Nat) (x2 : Int32) (μ : Mem) (x : Int32) (μ' : Mem) : Prop := Me d yX5_waterOf cX5_waterOf 5 ((some .int)) [vr 5 0 a, vr 3 0 a1, vi x2] μ (some (vi x)) μ'
abbrev X5_waterOf_at5 (d : Nat) (a : Nat) (a1 : Nat) (x2 : Int32) (x3 : Int32) (x4 : Int32) (μ : Mem) (x : Int32) (μ' : Mem) : Prop := Ev d yX5_waterOf cX5_waterOf 5 ((some .int)) 5 [some (vr 5 0 a), some (vr 3 0 a1), some (vi x2), some (vi x3), some (vi x4)] [] μ (some (vi x)) μ'
abbrev X5_woven (d : Nat) (a : Nat) (μ : Mem) (x : Int32) (μ' : Mem) : Prop := Me d yX5_woven cX5_woven 3 ((some .int)) [vr 5 0 a] μ (some (vi x)) μ'
abbrev X5_woven_at4 (d : Nat) (a : Nat) (x1 : Int32) (x2 : Int32) (μ : Mem) (x : Int32) (μ' : Mem) : Prop := Ev (d + 1) yX5_woven cX5_woven 3 ((some .int)) 4 [some (vr 5 0 a), some (vi x1), some (vi x2)] [] μ (some (vi x)) μ'
abbrev X6_isBlank (d : Nat) (x0 : Int32) (μ : Mem) (x : Int32) (μ' : Mem) : Prop := Me d yX6_isBlank cX6_isBlank 1 ((some .boolean)) [vi x0] μ (some (vi x)) μ'
abbrev X6_isDigit (d : Nat) (x0 : Int32) (μ : Mem) (x : Int32) (μ' : Mem) : Prop := Me d yX6_isDigit cX6_isDigit 1 ((some .boolean)) [vi x0] μ (some (vi x)) μ'
abbrev X6_isLetter (d : Nat) (x0 : Int32) (μ : Mem) (x : Int32) (μ' : Mem) : Prop := Me d yX6_isLetter cX6_isLetter 1 ((some .boolean)) [vi x0] μ (some (vi x)) μ'
abbrev X6_lengthOf (d : Nat) (x0 : Int64) (μ : Mem) (x : Int32) (μ' : Mem) : Prop := Me d yX6_lengthOf cX6_lengthOf 3 ((some .int)) [vl x0] μ (some (vi x)) μ'
abbrev X6_lengthOf_at2 (d : Nat) (x0 : Int64) (x2 : Int32) (μ : Mem) (x : Int32) (μ' : Mem) : Prop := Ev d yX6_lengthOf cX6_lengthOf 3 ((some .int)) 2 [some (vl x0), none, some (vi x2)] [] μ (some (vi x)) μ'
abbrev X6_letterAt (d : Nat) (x0 : Int64) (x2 : Int32) (μ : Mem) (x : Int32) (μ' : Mem) : Prop := Me d yX6_letterAt cX6_letterAt 3 ((some .int)) [vl x0, vi x2] μ (some (vi x)) μ'
abbrev X6_nameWith (d : Nat) (x0 : Int64) (x2 : Int32) (μ : Mem) (x : Int64) (μ' : Mem) : Prop := Me d yX6_nameWith cX6_nameWith 3 ((some .long)) [vl x0, vi x2] μ (some (vl x)) μ'
abbrev X6_put (d : Nat) (x1 : Int32) (x2 : Int32) (x3 : Int64) (μ : Mem) (μ' : Mem) : Prop := Me d yX6_put cX6_put 5 (none) [vr 6 0 3, vi x1, vi x2, vl x3] μ none μ'
abbrev X6_scan (d : Nat) (x2 : Int32) (μ : Mem) (μ' : Mem) : Prop := Me d yX6_scan cX6_scan 7 (none) [vr 6 0 3, vr 12 2000 1, vi x2] μ none μ'
abbrev X6_scan_at18 (d : Nat) (x3 : Int32) (x4 : Int32) (x5 : Int32) (μ : Mem) (μ' : Mem) : Prop := Ev (d + 1) yX6_scan cX6_scan 7 (none) 18 [some (vr 6 0 3), some (vr 12 2000 1), none, some (vi x3), some (vi x4), some (vi x5), none] [] μ none μ'
abbrev X6_takeDigits (d : Nat) (x2 : Int32) (x3 : Int32) (μ : Mem) (x : Int32) (μ' : Mem) : Prop := Me d yX6_takeDigits cX6_takeDigits 6 ((some .int)) [vr 6 0 3, vr 12 2000 1, vi x2, vi x3] μ (some (vi x)) μ'
abbrev X6_takeDigits_at6 (d : Nat) (x2 : Int32) (x3 : Int32) (x4 : Int32) (x5 : Int32) (μ : Mem) (x : Int32) (μ' : Mem) : Prop := Ev (d + 1) yX6_takeDigits cX6_takeDigits 6 ((some .int)) 6 [some (vr 6 0 3), some (vr 12 2000 1), some (vi x2), some (vi x3), some (vi x4), some (vi x5)] [] μ (some (vi x)) μ'
abbrev X6_takeLetters (d : Nat) (x2 : Int32) (x3 : Int32) (μ : Mem) (x : Int32) (μ' : Mem) : Prop := Me d yX6_takeLetters cX6_takeLetters 9 ((some .int)) [vr 6 0 3, vr 12 2000 1, vi x2, vi x3] μ (some (vi x)) μ'
abbrev X6_takeLetters_at6 (d : Nat) (x2 : Int32) (x3 : Int32) (x4 : Int64) (x6 : Int32) (μ : Mem) (x : Int32) (μ' : Mem) : Prop := Ev (d + 1) yX6_takeLetters cX6_takeLetters 9 ((some .int)) 6 [some (vr 6 0 3), some (vr 12 2000 1), some (vi x2), some (vi x3), some (vl x4), none, some (vi x6), none, none] [] μ (some (vi x)) μ'
abbrev X6_takeLetters_at60 (d : Nat) (x2 : Int32) (x4 : Int64) (x6 : Int32) (x7 : Int32) (x8 : Int32) (μ : Mem) (x : Int32) (μ' : Mem) : Prop := Ev (d + 1) yX6_takeLetters cX6_takeLetters 9 ((some .int)) 60 [some (vr 6 0 3), none, some (vi x2), none, some (vl x4), none, some (vi x6), some (vi x7), some (vi x8)] [] μ (some (vi x)) μ'
abbrev X6_takeSign (d : Nat) (x1 : Int32) (x2 : Int32) (μ : Mem) (x : Int32) (μ' : Mem) : Prop := Me d yX6_takeSign cX6_takeSign 4 ((some .int)) [vr 6 0 3, vi x1, vi x2] μ (some (vi x)) μ'
abbrev X7_begin (d : Nat) (a1 : Nat) (μ : Mem) (μ' : Mem) : Prop := Me d yX7_begin cX7_begin 2 (none) [vr 7 0 9, vr 3 0 a1] μ none μ'
abbrev X7_bitsOf (d : Nat) (x0 : Int32) (x1 : Int32) (μ : Mem) (x : Int32) (μ' : Mem) : Prop := Me d yX7_bitsOf cX7_bitsOf 4 ((some .int)) [vi x0, vi x1] μ (some (vi x)) μ'
abbrev X7_bitsOf_at4 (d : Nat) (x0 : Int32) (x1 : Int32) (x2 : Int32) (x3 : Int32) (μ : Mem) (x : Int32) (μ' : Mem) : Prop := Ev (d + 1) yX7_bitsOf cX7_bitsOf 4 ((some .int)) 4 [some (vi x0), some (vi x1), some (vi x2), some (vi x3)] [] μ (some (vi x)) μ'
abbrev X7_dryCells (d : Nat) (a1 : Nat) (μ : Mem) (μ' : Mem) : Prop := Me d yX7_dryCells cX7_dryCells 5 (none) [vr 7 0 9, vr 5 0 a1] μ none μ'
abbrev X7_dryCells_at21 (d : Nat) (a1 : Nat) (a2 : Nat) (x3 : Int32) (μ : Mem) (μ' : Mem) : Prop := Ev (d + 1) yX7_dryCells cX7_dryCells 5 (none) 21 [some (vr 7 0 9), some (vr 5 0 a1), some (vr 11 9 a2), some (vi x3), none] [] μ none μ'
abbrev X7_emptyThreads (d : Nat) (x1 : Int32) (x2 : Int32) (μ : Mem) (x : Int32) (μ' : Mem) : Prop := Me d yX7_emptyThreads cX7_emptyThreads 5 ((some .int)) [vr 7 0 9, vi x1, vi x2] μ (some (vi x)) μ'
abbrev X7_emptyThreads_at5 (d : Nat) (x1 : Int32) (x2 : Int32) (x3 : Int32) (x4 : Int32) (μ : Mem) (x : Int32) (μ' : Mem) : Prop := Ev d yX7_emptyThreads cX7_emptyThreads 5 ((some .int)) 5 [some (vr 7 0 9), some (vi x1), some (vi x2), some (vi x3), some (vi x4)] [] μ (some (vi x)) μ'
abbrev X7_endDay (d : Nat) (a1 : Nat) (μ : Mem) (μ' : Mem) : Prop := Me d yX7_endDay cX7_endDay 2 (none) [vr 7 0 9, vr 5 0 a1] μ none μ'
abbrev X7_gain (d : Nat) (a1 : Nat) (x2 : Int32) (x3 : Int32) (x4 : Int32) (x5 : Int32) (μ : Mem) (x : Int32) (μ' : Mem) : Prop := Me d yX7_gain cX7_gain 12 ((some .int)) [vr 7 0 9, vr 5 0 a1, vi x2, vi x3, vi x4, vi x5] μ (some (vi x)) μ'
abbrev X7_gain_at6 (d : Nat) (a1 : Nat) (x2 : Int32) (x3 : Int32) (x4 : Int32) (x5 : Int32) (x6 : Int32) (x7 : Int32) (μ : Mem) (x : Int32) (μ' : Mem) : Prop := Ev (d + 1) yX7_gain cX7_gain 12 ((some .int)) 6 [some (vr 7 0 9), some (vr 5 0 a1), some (vi x2), some (vi x3), some (vi x4), some (vi x5), some (vi x6), some (vi x7), none, none, none, none] [] μ (some (vi x)) μ'
abbrev X7_gain_at15 (d : Nat) (a1 : Nat) (x2 : Int32) (x3 : Int32) (x4 : Int32) (x5 : Int32) (x6 : Int32) (x7 : Int32) (x8 : Int32) (μ : Mem) (x : Int32) (μ' : Mem) : Prop := Ev (d + 1) yX7_gain cX7_gain 12 ((some .int)) 15 [some (vr 7 0 9), some (vr 5 0 a1), some (vi x2), some (vi x3), some (vi x4), some (vi x5), some (vi x6), some (vi x7), some (vi x8), none, none, none] [] μ (some (vi x)) μ'
abbrev X7_letFall (d : Nat) (a1 : Nat) (x2 : Int32) (x3 : Int32) (x4 : Int32) (x5 : Int32) (x6 : Int32) (μ : Mem) (x : Int32) (μ' : Mem) : Prop := Me d yX7_letFall cX7_letFall 10 ((some .int)) [vr 7 0 9, vr 5 0 a1, vi x2, vi x3, vi x4, vi x5, vi x6] μ (some (vi x)) μ'
abbrev X7_letFall_at21 (d : Nat) (a1 : Nat) (x2 : Int32) (x3 : Int32) (x4 : Int32) (x5 : Int32) (x6 : Int32) (x7 : Int32) (μ : Mem) (x : Int32) (μ' : Mem) : Prop := Ev (d + 1) yX7_letFall cX7_letFall 10 ((some .int)) 21 [some (vr 7 0 9), some (vr 5 0 a1), some (vi x2), some (vi x3), some (vi x4), some (vi x5), some (vi x6), some (vi x7), none, none] [] μ (some (vi x)) μ'
abbrev X7_letFall_at46 (d : Nat) (a1 : Nat) (x2 : Int32) (x3 : Int32) (x4 : Int32) (x5 : Int32) (x6 : Int32) (x7 : Int32) (x8 : Int32) (μ : Mem) (x : Int32) (μ' : Mem) : Prop := Ev (d + 1) yX7_letFall cX7_letFall 10 ((some .int)) 46 [some (vr 7 0 9), some (vr 5 0 a1), some (vi x2), some (vi x3), some (vi x4), some (vi x5), some (vi x6), some (vi x7), some (vi x8), none] [] μ (some (vi x)) μ'
abbrev X7_letOrdersFall (d : Nat) (a1 : Nat) (x2 : Int32) (μ : Mem) (μ' : Mem) : Prop := Me d yX7_letOrdersFall cX7_letOrdersFall 5 (none) [vr 7 0 9, vr 5 0 a1, vi x2] μ none μ'
abbrev X7_letOrdersFall_at2 (d : Nat) (a1 : Nat) (x2 : Int32) (x3 : Int32) (μ : Mem) (μ' : Mem) : Prop := Ev (d + 1) yX7_letOrdersFall cX7_letOrdersFall 5 (none) 2 [some (vr 7 0 9), some (vr 5 0 a1), some (vi x2), some (vi x3), none] [] μ none μ'
abbrev X7_lot (d : Nat) (x0 : Int32) (x1 : Int32) (x2 : Int32) (μ : Mem) (x : Int32) (μ' : Mem) : Prop := Me d yX7_lot cX7_lot 4 ((some .int)) [vi x0, vi x1, vi x2] μ (some (vi x)) μ'
abbrev X7_mix (d : Nat) (x0 : Int32) (x1 : Int32) (μ : Mem) (x : Int32) (μ' : Mem) : Prop := Me d yX7_mix cX7_mix 3 ((some .int)) [vi x0, vi x1] μ (some (vi x)) μ'
abbrev X7_narrowed (d : Nat) (x0 : Int32) (x1 : Int32) (μ : Mem) (x : Int32) (μ' : Mem) : Prop := Me d yX7_narrowed cX7_narrowed 2 ((some .int)) [vi x0, vi x1] μ (some (vi x)) μ'
abbrev X7_passDays (d : Nat) (a1 : Nat) (x2 : Int32) (x3 : Int32) (μ : Mem) (μ' : Mem) : Prop := Me d yX7_passDays cX7_passDays 5 (none) [vr 7 0 9, vr 5 0 a1, vi x2, vi x3] μ none μ'
abbrev X7_passDays_at3 (d : Nat) (a1 : Nat) (x2 : Int32) (x3 : Int32) (x4 : Int32) (μ : Mem) (μ' : Mem) : Prop := Ev (d + 1) yX7_passDays cX7_passDays 5 (none) 3 [some (vr 7 0 9), some (vr 5 0 a1), some (vi x2), some (vi x3), some (vi x4)] [] μ none μ'
abbrev X7_passStoreDay (d : Nat) (a1 : Nat) (μ : Mem) (μ' : Mem) : Prop := Me d yX7_passStoreDay cX7_passStoreDay 2 (none) [vr 7 0 9, vr 5 0 a1] μ none μ'
abbrev X7_rowAt (d : Nat) (x1 : Int32) (x2 : Int32) (μ : Mem) (x : Int32) (μ' : Mem) : Prop := Me d yX7_rowAt cX7_rowAt 7 ((some .int)) [vr 7 0 9, vi x1, vi x2] μ (some (vi x)) μ'
abbrev X7_rowAt_at98 (d : Nat) (x1 : Int32) (x2 : Int32) (x3 : Int32) (a4 : Nat) (x5 : Int32) (x6 : Int32) (μ : Mem) (x : Int32) (μ' : Mem) : Prop := Ev (d + 1) yX7_rowAt cX7_rowAt 7 ((some .int)) 98 [some (vr 7 0 9), some (vi x1), some (vi x2), some (vi x3), some (vr 11 9 a4), some (vi x5), some (vi x6)] [] μ (some (vi x)) μ'
abbrev X7_tally (d : Nat) (a1 : Nat) (μ : Mem) (μ' : Mem) : Prop := Me d yX7_tally cX7_tally 4 (none) [vr 7 0 9, vr 5 0 a1] μ none μ'
abbrev X7_tally_at2 (d : Nat) (a1 : Nat) (x2 : Int32) (μ : Mem) (μ' : Mem) : Prop := Ev (d + 1) yX7_tally cX7_tally 4 (none) 2 [some (vr 7 0 9), some (vr 5 0 a1), some (vi x2), none] [] μ none μ'
abbrev X7_threadOf (d : Nat) (x0 : Int32) (x1 : Int32) (μ : Mem) (x : Int32) (μ' : Mem) : Prop := Me d yX7_threadOf cX7_threadOf 2 ((some .int)) [vi x0, vi x1] μ (some (vi x)) μ'
abbrev X7_weave (d : Nat) (x1 : Int32) (x2 : Int32) (x3 : Int32) (x4 : Int32) (x5 : Int32) (μ : Mem) (μ' : Mem) : Prop := Me d yX7_weave cX7_weave 11 (none) [vr 7 0 9, vi x1, vi x2, vi x3, vi x4, vi x5] μ none μ'
abbrev X7_weave_at16 (d : Nat) (x1 : Int32) (x2 : Int32) (x3 : Int32) (x4 : Int32) (x5 : Int32) (x6 : Int32) (x7 : Int32) (μ : Mem) (μ' : Mem) : Prop := Ev (d + 1) yX7_weave cX7_weave 11 (none) 16 [some (vr 7 0 9), some (vi x1), some (vi x2), some (vi x3), some (vi x4), some (vi x5), some (vi x6), some (vi x7), none, none, none] [] μ none μ'
abbrev X7_weave_at37 (d : Nat) (x1 : Int32) (x2 : Int32) (x3 : Int32) (x4 : Int32) (x5 : Int32) (x6 : Int32) (x7 : Int32) (x8 : Int32) (x9 : Int32) (μ : Mem) (μ' : Mem) : Prop := Ev (d + 1) yX7_weave cX7_weave 11 (none) 37 [some (vr 7 0 9), some (vi x1), some (vi x2), some (vi x3), some (vi x4), some (vi x5), some (vi x6), some (vi x7), some (vi x8), some (vi x9), none] [] μ none μ'
abbrev X7_wetter (d : Nat) (x0 : Int32) (x1 : Int32) (μ : Mem) (x : Int32) (μ' : Mem) : Prop := Me d yX7_wetter cX7_wetter 2 ((some .int)) [vi x0, vi x1] μ (some (vi x)) μ'
abbrev X7_within (d : Nat) (x0 : Int32) (x1 : Int32) (μ : Mem) (x : Int32) (μ' : Mem) : Prop := Me d yX7_within cX7_within 2 ((some .int)) [vi x0, vi x1] μ (some (vi x)) μ'
abbrev X8_add (d : Nat) (x1 : Int32) (x2 : Int32) (x3 : Int32) (μ : Mem) (x : Int32) (μ' : Mem) : Prop := Me d yX8_add cX8_add 4 ((some .int)) [vr 8 0 192, vi x1, vi x2, vi x3] μ (some (vi x)) μ'
abbrev X8_addWays (d : Nat) (x1 : Int32) (x2 : Int32) (x3 : Int32) (x4 : Int32) (μ : Mem) (μ' : Mem) : Prop := Me d yX8_addWays cX8_addWays 8 (none) [vr 8 0 192, vi x1, vi x2, vi x3, vi x4] μ none μ'
abbrev X8_addWays_at3 (d : Nat) (x1 : Int32) (x2 : Int32) (x3 : Int32) (x4 : Int32) (x5 : Int32) (μ : Mem) (μ' : Mem) : Prop := Ev (d + 1) yX8_addWays cX8_addWays 8 (none) 3 [some (vr 8 0 192), some (vi x1), some (vi x2), some (vi x3), some (vi x4), some (vi x5), none, none] [] μ none μ'
abbrev X8_addWays_at18 (d : Nat) (x1 : Int32) (x2 : Int32) (x3 : Int32) (x4 : Int32) (x5 : Int32) (x6 : Int32) (μ : Mem) (μ' : Mem) : Prop := Ev (d + 1) yX8_addWays cX8_addWays 8 (none) 18 [some (vr 8 0 192), some (vi x1), some (vi x2), some (vi x3), some (vi x4), some (vi x5), some (vi x6), none] [] μ none μ'
abbrev X8_agreesWithKnown (d : Nat) (x1 : Int32) (x2 : Int32) (μ : Mem) (x : Int32) (μ' : Mem) : Prop := Me d yX8_agreesWithKnown cX8_agreesWithKnown 4 ((some .boolean)) [vr 8 0 192, vi x1, vi x2] μ (some (vi x)) μ'
abbrev X8_agreesWithKnown_at2 (d : Nat) (x1 : Int32) (x2 : Int32) (x3 : Int32) (μ : Mem) (x : Int32) (μ' : Mem) : Prop := Ev (d + 1) yX8_agreesWithKnown cX8_agreesWithKnown 4 ((some .boolean)) 2 [some (vr 8 0 192), some (vi x1), some (vi x2), some (vi x3)] [] μ (some (vi x)) μ'
abbrev X8_beginWays (d : Nat) (x1 : Int32) (x2 : Int32) (μ : Mem) (μ' : Mem) : Prop := Me d yX8_beginWays cX8_beginWays 3 (none) [vr 8 0 192, vi x1, vi x2] μ none μ'
abbrev X8_clear (d : Nat)  (μ : Mem) (μ' : Mem) : Prop := Me d yX8_clear cX8_clear 1 (none) [vr 8 0 192] μ none μ'
abbrev X8_keepPiece (d : Nat) (x1 : Int32) (μ : Mem) (μ' : Mem) : Prop := Me d yX8_keepPiece cX8_keepPiece 3 (none) [vr 8 0 192, vi x1, vr 11 48 12] μ none μ'
abbrev X8_knows (d : Nat) (x1 : Int32) (μ : Mem) (x : Int32) (μ' : Mem) : Prop := Me d yX8_knows cX8_knows 2 ((some .boolean)) [vr 8 0 192, vi x1] μ (some (vi x)) μ'
abbrev X8_leftAtWorst (d : Nat) (x1 : Int32) (x2 : Int32) (μ : Mem) (x : Int32) (μ' : Mem) : Prop := Me d yX8_leftAtWorst cX8_leftAtWorst 6 ((some .int)) [vr 8 0 192, vi x1, vi x2] μ (some (vi x)) μ'
abbrev X8_leftAtWorst_at13 (d : Nat) (x1 : Int32) (x2 : Int32) (x3 : Int32) (x4 : Int32) (μ : Mem) (x : Int32) (μ' : Mem) : Prop := Ev (d + 1) yX8_leftAtWorst cX8_leftAtWorst 6 ((some .int)) 13 [some (vr 8 0 192), some (vi x1), some (vi x2), some (vi x3), some (vi x4), none] [] μ (some (vi x)) μ'
abbrev X8_waterBy (d : Nat) (x1 : Int32) (x2 : Int32) (x3 : Int32) (μ : Mem) (x : Int32) (μ' : Mem) : Prop := Me d yX8_waterBy cX8_waterBy 6 ((some .int)) [vr 8 0 192, vi x1, vi x2, vi x3] μ (some (vi x)) μ'
abbrev X9_agree (d : Nat) (x1 : Int32) (x2 : Int32) (μ : Mem) (x : Int32) (μ' : Mem) : Prop := Me d yX9_agree cX9_agree 8 ((some .int)) [vr 9 0 0, vi x1, vi x2] μ (some (vi x)) μ'
abbrev X9_agree_at76 (d : Nat) (x1 : Int32) (x2 : Int32) (x3 : Int32) (x4 : Int32) (x5 : Int32) (x6 : Int32) (μ : Mem) (x : Int32) (μ' : Mem) : Prop := Ev (d + 1) yX9_agree cX9_agree 8 ((some .int)) 76 [some (vr 9 0 0), some (vi x1), some (vi x2), some (vi x3), some (vi x4), some (vi x5), some (vi x6), none] [] μ (some (vi x)) μ'
abbrev X9_all (d : Nat) (x1 : Int32) (x2 : Int32) (μ : Mem) (x : Int32) (μ' : Mem) : Prop := Me d yX9_all cX9_all 3 ((some .int)) [vr 9 0 0, vi x1, vi x2] μ (some (vi x)) μ'
abbrev X9_back (d : Nat) (x1 : Int32) (μ : Mem) (x : Int32) (μ' : Mem) : Prop := Me d yX9_back cX9_back 2 ((some .int)) [vr 9 0 0, vi x1] μ (some (vi x)) μ'
abbrev X9_beginAnew (d : Nat)  (μ : Mem) (μ' : Mem) : Prop := Me d yX9_beginAnew cX9_beginAnew 2 (none) [vr 9 0 0] μ none μ'
abbrev X9_beginAnew_at38 (d : Nat) (x1 : Int32) (μ : Mem) (μ' : Mem) : Prop := Ev (d + 1) yX9_beginAnew cX9_beginAnew 2 (none) 38 [some (vr 9 0 0), some (vi x1)] [] μ none μ'
abbrev X9_bestLook (d : Nat)  (μ : Mem) (x : Int32) (μ' : Mem) : Prop := Me d yX9_bestLook cX9_bestLook 6 ((some .int)) [vr 9 0 0] μ (some (vi x)) μ'
abbrev X9_bestLook_at8 (d : Nat) (x1 : Int32) (x2 : Int32) (x3 : Int32) (μ : Mem) (x : Int32) (μ' : Mem) : Prop := Ev (d + 1) yX9_bestLook cX9_bestLook 6 ((some .int)) 8 [some (vr 9 0 0), some (vi x1), some (vi x2), some (vi x3), none, none] [] μ (some (vi x)) μ'
abbrev X9_bestLook_at22 (d : Nat) (x1 : Int32) (x2 : Int32) (x3 : Int32) (x4 : Int32) (μ : Mem) (x : Int32) (μ' : Mem) : Prop := Ev (d + 1) yX9_bestLook cX9_bestLook 6 ((some .int)) 22 [some (vr 9 0 0), some (vi x1), some (vi x2), some (vi x3), some (vi x4), none] [] μ (some (vi x)) μ'
abbrev X9_bestService (d : Nat) (x1 : Int32) (μ : Mem) (x : Int32) (μ' : Mem) : Prop := Me d yX9_bestService cX9_bestService 7 ((some .int)) [vr 9 0 0, vi x1] μ (some (vi x)) μ'
abbrev X9_bestService_at4 (d : Nat) (x1 : Int32) (x2 : Int32) (x3 : Int32) (μ : Mem) (x : Int32) (μ' : Mem) : Prop := Ev (d + 1) yX9_bestService cX9_bestService 7 ((some .int)) 4 [some (vr 9 0 0), some (vi x1), some (vi x2), some (vi x3), none, none, none] [] μ (some (vi x)) μ'
abbrev X9_bestService_at41 (d : Nat) (x1 : Int32) (x2 : Int32) (x3 : Int32) (x4 : Int32) (x5 : Int32) (μ : Mem) (x : Int32) (μ' : Mem) : Prop := Ev (d + 1) yX9_bestService cX9_bestService 7 ((some .int)) 41 [some (vr 9 0 0), some (vi x1), some (vi x2), some (vi x3), some (vi x4), some (vi x5), none] [] μ (some (vi x)) μ'
abbrev X9_cell (d : Nat) (x1 : Int32) (x2 : Int32) (x3 : Int32) (μ : Mem) (x : Int32) (μ' : Mem) : Prop := Me d yX9_cell cX9_cell 6 ((some .int)) [vr 9 0 0, vi x1, vi x2, vi x3] μ (some (vi x)) μ'
abbrev X9_comes (d : Nat) (x1 : Int32) (x2 : Int32) (x3 : Int32) (μ : Mem) (x : Int32) (μ' : Mem) : Prop := Me d yX9_comes cX9_comes 6 ((some .int)) [vr 9 0 0, vi x1, vi x2, vi x3] μ (some (vi x)) μ'
abbrev X9_comes_at37 (d : Nat) (x1 : Int32) (x2 : Int32) (x3 : Int32) (x4 : Int32) (x5 : Int32) (μ : Mem) (x : Int32) (μ' : Mem) : Prop := Ev (d + 1) yX9_comes cX9_comes 6 ((some .int)) 37 [some (vr 9 0 0), some (vi x1), some (vi x2), some (vi x3), some (vi x4), some (vi x5)] [] μ (some (vi x)) μ'
abbrev X9_comesRound (d : Nat) (x1 : Int32) (x2 : Int32) (x3 : Int32) (μ : Mem) (x : Int32) (μ' : Mem) : Prop := Me d yX9_comesRound cX9_comesRound 5 ((some .boolean)) [vr 9 0 0, vi x1, vi x2, vi x3] μ (some (vi x)) μ'
abbrev X9_comesRound_at3 (d : Nat) (x1 : Int32) (x2 : Int32) (x3 : Int32) (x4 : Int32) (μ : Mem) (x : Int32) (μ' : Mem) : Prop := Ev (d + 1) yX9_comesRound cX9_comesRound 5 ((some .boolean)) 3 [some (vr 9 0 0), some (vi x1), some (vi x2), some (vi x3), some (vi x4)] [] μ (some (vi x)) μ'
abbrev X9_count (d : Nat) (x1 : Int32) (μ : Mem) (x : Int32) (μ' : Mem) : Prop := Me d yX9_count cX9_count 2 ((some .int)) [vr 9 0 0, vi x1] μ (some (vi x)) μ'
abbrev X9_cut (d : Nat) (x1 : Int32) (x2 : Int32) (x3 : Int32) (x4 : Int32) (μ : Mem) (x : Int32) (μ' : Mem) : Prop := Me d yX9_cut cX9_cut 6 ((some .int)) [vr 9 0 0, vi x1, vi x2, vi x3, vi x4] μ (some (vi x)) μ'
abbrev X9_cut_at42 (d : Nat) (x2 : Int32) (x3 : Int32) (x4 : Int32) (s0 : Int32) (μ : Mem) (x : Int32) (μ' : Mem) : Prop := Ev (d + 1) yX9_cut cX9_cut 6 ((some .int)) 42 [some (vr 9 0 0), none, some (vi x2), some (vi x3), some (vi x4), none] [vi s0] μ (some (vi x)) μ'
abbrev X9_cut_at72 (d : Nat) (x3 : Int32) (x4 : Int32) (μ : Mem) (x : Int32) (μ' : Mem) : Prop := Ev (d + 1) yX9_cut cX9_cut 6 ((some .int)) 72 [some (vr 9 0 0), none, none, some (vi x3), some (vi x4), none] [] μ (some (vi x)) μ'
abbrev X9_cut_at68 (d : Nat) (x3 : Int32) (x4 : Int32) (μ : Mem) (x : Int32) (μ' : Mem) : Prop := Ev (d + 1) yX9_cut cX9_cut 6 ((some .int)) 68 [some (vr 9 0 0), none, none, some (vi x3), some (vi x4), none] [] μ (some (vi x)) μ'
abbrev X9_cut_at73 (d : Nat) (x3 : Int32) (x4 : Int32) (s0 : Int32) (μ : Mem) (x : Int32) (μ' : Mem) : Prop := Ev (d + 1) yX9_cut cX9_cut 6 ((some .int)) 73 [some (vr 9 0 0), none, none, some (vi x3), some (vi x4), none] [vi s0] μ (some (vi x)) μ'
abbrev X9_cut_at105 (d : Nat)  (μ : Mem) (x : Int32) (μ' : Mem) : Prop := Ev (d + 1) yX9_cut cX9_cut 6 ((some .int)) 105 [some (vr 9 0 0), none, none, none, none, none] [] μ (some (vi x)) μ'
abbrev X9_cut_at101 (d : Nat)  (μ : Mem) (x : Int32) (μ' : Mem) : Prop := Ev (d + 1) yX9_cut cX9_cut 6 ((some .int)) 101 [some (vr 9 0 0), none, none, none, none, none] [] μ (some (vi x)) μ'
abbrev X9_days (d : Nat) (x1 : Int32) (μ : Mem) (x : Int32) (μ' : Mem) : Prop := Me d yX9_days cX9_days 2 ((some .int)) [vr 9 0 0, vi x1] μ (some (vi x)) μ'
abbrev X9_dry (d : Nat) (x1 : Int32) (μ : Mem) (x : Int32) (μ' : Mem) : Prop := Me d yX9_dry cX9_dry 5 ((some .int)) [vr 9 0 0, vi x1] μ (some (vi x)) μ'
abbrev X9_dry_at39 (d : Nat) (x2 : Int32) (x3 : Int32) (μ : Mem) (x : Int32) (μ' : Mem) : Prop := Ev (d + 1) yX9_dry cX9_dry 5 ((some .int)) 39 [some (vr 9 0 0), none, some (vi x2), some (vi x3), none] [] μ (some (vi x)) μ'
abbrev X9_dry_at53 (d : Nat) (x2 : Int32) (x3 : Int32) (x4 : Int32) (μ : Mem) (x : Int32) (μ' : Mem) : Prop := Ev (d + 1) yX9_dry cX9_dry 5 ((some .int)) 53 [some (vr 9 0 0), none, some (vi x2), some (vi x3), some (vi x4)] [] μ (some (vi x)) μ'
abbrev X9_emptyBy (d : Nat)  (μ : Mem) (x : Int32) (μ' : Mem) : Prop := Me d yX9_emptyBy cX9_emptyBy 2 ((some .int)) [vr 9 0 0] μ (some (vi x)) μ'
abbrev X9_emptyBy_at14 (d : Nat) (x1 : Int32) (μ : Mem) (x : Int32) (μ' : Mem) : Prop := Ev (d + 1) yX9_emptyBy cX9_emptyBy 2 ((some .int)) 14 [some (vr 9 0 0), some (vi x1)] [] μ (some (vi x)) μ'
abbrev X9_fall (d : Nat) (x1 : Int32) (x2 : Int32) (x3 : Int32) (x4 : Int32) (x5 : Int32) (μ : Mem) (x : Int32) (μ' : Mem) : Prop := Me d yX9_fall cX9_fall 6 ((some .int)) [vr 9 0 0, vi x1, vi x2, vi x3, vi x4, vi x5] μ (some (vi x)) μ'
abbrev X9_feed (d : Nat) (x1 : Int32) (x2 : Int32) (x3 : Int32) (x4 : Int32) (x5 : Int32) (μ : Mem) (x : Int32) (μ' : Mem) : Prop := Me d yX9_feed cX9_feed 6 ((some .int)) [vr 9 0 0, vi x1, vi x2, vi x3, vi x4, vi x5] μ (some (vi x)) μ'
abbrev X9_fell (d : Nat) (x1 : Int32) (x2 : Int32) (x3 : Int32) (x4 : Int32) (μ : Mem) (x : Int32) (μ' : Mem) : Prop := Me d yX9_fell cX9_fell 5 ((some .int)) [vr 9 0 0, vi x1, vi x2, vi x3, vi x4] μ (some (vi x)) μ'
abbrev X9_field (d : Nat) (x1 : Int32) (x2 : Int32) (μ : Mem) (x : Int32) (μ' : Mem) : Prop := Me d yX9_field cX9_field 3 ((some .int)) [vr 9 0 0, vi x1, vi x2] μ (some (vi x)) μ'
abbrev X9_forget (d : Nat)  (μ : Mem) (x : Int32) (μ' : Mem) : Prop := Me d yX9_forget cX9_forget 2 ((some .int)) [vr 9 0 0] μ (some (vi x)) μ'
abbrev X9_gatherWays (d : Nat) (x1 : Int32) (x2 : Int32) (x3 : Int32) (μ : Mem) (μ' : Mem) : Prop := Me d yX9_gatherWays cX9_gatherWays 5 (none) [vr 9 0 0, vi x1, vi x2, vi x3] μ none μ'
abbrev X9_gatherWays_at12 (d : Nat) (x1 : Int32) (x2 : Int32) (x3 : Int32) (x4 : Int32) (μ : Mem) (μ' : Mem) : Prop := Ev (d + 1) yX9_gatherWays cX9_gatherWays 5 (none) 12 [some (vr 9 0 0), some (vi x1), some (vi x2), some (vi x3), some (vi x4)] [] μ none μ'
abbrev X9_heldBy (d : Nat) (x1 : Int32) (x2 : Int32) (x3 : Int32) (μ : Mem) (x : Int32) (μ' : Mem) : Prop := Me d yX9_heldBy cX9_heldBy 4 ((some .int)) [vr 9 0 0, vi x1, vi x2, vi x3] μ (some (vi x)) μ'
abbrev X9_heldSlots (d : Nat)  (μ : Mem) (x : Int32) (μ' : Mem) : Prop := Me d yX9_heldSlots cX9_heldSlots 3 ((some .int)) [vr 9 0 0] μ (some (vi x)) μ'
abbrev X9_heldSlots_at4 (d : Nat) (x1 : Int32) (x2 : Int32) (μ : Mem) (x : Int32) (μ' : Mem) : Prop := Ev d yX9_heldSlots cX9_heldSlots 3 ((some .int)) 4 [some (vr 9 0 0), some (vi x1), some (vi x2)] [] μ (some (vi x)) μ'
abbrev X9_hold (d : Nat) (x1 : Int32) (μ : Mem) (x : Int32) (μ' : Mem) : Prop := Me d yX9_hold cX9_hold 2 ((some .boolean)) [vr 9 0 0, vi x1] μ (some (vi x)) μ'
abbrev X9_holds (d : Nat) (x1 : Int32) (x2 : Int32) (x3 : Int32) (x4 : Int32) (μ : Mem) (x : Int32) (μ' : Mem) : Prop := Me d yX9_holds cX9_holds 5 ((some .int)) [vr 9 0 0, vi x1, vi x2, vi x3, vi x4] μ (some (vi x)) μ'
abbrev X9_isAhead (d : Nat) (x0 : Int32) (μ : Mem) (x : Int32) (μ' : Mem) : Prop := Me d yX9_isAhead cX9_isAhead 1 ((some .boolean)) [vi x0] μ (some (vi x)) μ'
abbrev X9_isPiece (d : Nat) (x1 : Int32) (x2 : Int32) (x3 : Int32) (μ : Mem) (x : Int32) (μ' : Mem) : Prop := Me d yX9_isPiece cX9_isPiece 4 ((some .boolean)) [vr 9 0 0, vi x1, vi x2, vi x3] μ (some (vi x)) μ'
abbrev X9_isSize (d : Nat) (x0 : Int32) (x1 : Int32) (μ : Mem) (x : Int32) (μ' : Mem) : Prop := Me d yX9_isSize cX9_isSize 2 ((some .boolean)) [vi x0, vi x1] μ (some (vi x)) μ'
abbrev X9_look (d : Nat) (x1 : Int32) (x2 : Int32) (x3 : Int32) (μ : Mem) (x : Int32) (μ' : Mem) : Prop := Me d yX9_look cX9_look 4 ((some .int)) [vr 9 0 0, vi x1, vi x2, vi x3] μ (some (vi x)) μ'
abbrev X9_loom (d : Nat) (x1 : Int32) (x2 : Int32) (μ : Mem) (x : Int32) (μ' : Mem) : Prop := Me d yX9_loom cX9_loom 3 ((some .int)) [vr 9 0 0, vi x1, vi x2] μ (some (vi x)) μ'
abbrev X9_now (d : Nat) (x1 : Int32) (x2 : Int32) (μ : Mem) (x : Int32) (μ' : Mem) : Prop := Me d yX9_now cX9_now 6 ((some .int)) [vr 9 0 0, vi x1, vi x2] μ (some (vi x)) μ'
abbrev X9_now_at18 (d : Nat) (x1 : Int32) (x2 : Int32) (x3 : Int32) (x4 : Int32) (μ : Mem) (x : Int32) (μ' : Mem) : Prop := Ev (d + 1) yX9_now cX9_now 6 ((some .int)) 18 [some (vr 9 0 0), some (vi x1), some (vi x2), some (vi x3), some (vi x4), none] [] μ (some (vi x)) μ'
abbrev X9_order (d : Nat) (x1 : Int32) (x2 : Int32) (x3 : Int32) (x4 : Int32) (x5 : Int32) (μ : Mem) (x : Int32) (μ' : Mem) : Prop := Me d yX9_order cX9_order 6 ((some .boolean)) [vr 9 0 0, vi x1, vi x2, vi x3, vi x4, vi x5] μ (some (vi x)) μ'
abbrev X9_place (d : Nat)  (μ : Mem) (x : Int32) (μ' : Mem) : Prop := Me d yX9_place cX9_place 1 ((some .int)) [vr 9 0 0] μ (some (vi x)) μ'
abbrev X9_putFour (d : Nat) (x1 : Int32) (μ : Mem) (μ' : Mem) : Prop := Me d yX9_putFour cX9_putFour 3 (none) [vr 9 0 0, vi x1] μ none μ'
abbrev X9_putFour_at3 (d : Nat) (x1 : Int32) (x2 : Int32) (μ : Mem) (μ' : Mem) : Prop := Ev d yX9_putFour cX9_putFour 3 (none) 3 [some (vr 9 0 0), some (vi x1), some (vi x2)] [] μ none μ'
abbrev X9_read (d : Nat)  (μ : Mem) (x : Int32) (μ' : Mem) : Prop := Me d yX9_read cX9_read 3 ((some .int)) [vr 9 0 0] μ (some (vi x)) μ'
abbrev X9_restore (d : Nat) (x1 : Int32) (μ : Mem) (x : Int32) (μ' : Mem) : Prop := Me d yX9_restore cX9_restore 2 ((some .boolean)) [vr 9 0 0, vi x1] μ (some (vi x)) μ'
abbrev X9_round (d : Nat) (x1 : Int32) (μ : Mem) (x : Int32) (μ' : Mem) : Prop := Me d yX9_round cX9_round 4 ((some .int)) [vr 9 0 0, vi x1] μ (some (vi x)) μ'
abbrev X9_round_at25 (d : Nat) (x1 : Int32) (x2 : Int32) (x3 : Int32) (μ : Mem) (x : Int32) (μ' : Mem) : Prop := Ev (d + 1) yX9_round cX9_round 4 ((some .int)) 25 [some (vr 9 0 0), some (vi x1), some (vi x2), some (vi x3)] [] μ (some (vi x)) μ'
abbrev X9_serve (d : Nat) (x1 : Int32) (x2 : Int32) (x3 : Int32) (μ : Mem) (x : Int32) (μ' : Mem) : Prop := Me d yX9_serve cX9_serve 5 ((some .int)) [vr 9 0 0, vi x1, vi x2, vi x3] μ (some (vi x)) μ'
abbrev X9_serve_at60 (d : Nat) (x1 : Int32) (x2 : Int32) (x3 : Int32) (x4 : Int32) (μ : Mem) (x : Int32) (μ' : Mem) : Prop := Ev (d + 1) yX9_serve cX9_serve 5 ((some .int)) 60 [some (vr 9 0 0), some (vi x1), some (vi x2), some (vi x3), some (vi x4)] [] μ (some (vi x)) μ'
abbrev X9_servedBy (d : Nat) (x1 : Int32) (x2 : Int32) (μ : Mem) (x : Int32) (μ' : Mem) : Prop := Me d yX9_servedBy cX9_servedBy 5 ((some .int)) [vr 9 0 0, vi x1, vi x2] μ (some (vi x)) μ'
abbrev X9_servedBy_at13 (d : Nat) (x2 : Int32) (x3 : Int32) (x4 : Int32) (μ : Mem) (x : Int32) (μ' : Mem) : Prop := Ev d yX9_servedBy cX9_servedBy 5 ((some .int)) 13 [some (vr 9 0 0), none, some (vi x2), some (vi x3), some (vi x4)] [] μ (some (vi x)) μ'
abbrev X9_serviceSum (d : Nat) (x1 : Int32) (μ : Mem) (x : Int32) (μ' : Mem) : Prop := Me d yX9_serviceSum cX9_serviceSum 7 ((some .int)) [vr 9 0 0, vi x1] μ (some (vi x)) μ'
abbrev X9_serviceSum_at18 (d : Nat) (x2 : Int32) (x3 : Int32) (x4 : Int32) (x5 : Int32) (μ : Mem) (x : Int32) (μ' : Mem) : Prop := Ev (d + 1) yX9_serviceSum cX9_serviceSum 7 ((some .int)) 18 [some (vr 9 0 0), none, some (vi x2), some (vi x3), some (vi x4), some (vi x5), none] [] μ (some (vi x)) μ'
abbrev X9_stop (d : Nat) (x1 : Int32) (μ : Mem) (x : Int32) (μ' : Mem) : Prop := Me d yX9_stop cX9_stop 2 ((some .boolean)) [vr 9 0 0, vi x1] μ (some (vi x)) μ'
abbrev X9_suits (d : Nat) (x1 : Int32) (x2 : Int32) (x3 : Int32) (μ : Mem) (x : Int32) (μ' : Mem) : Prop := Me d yX9_suits cX9_suits 9 ((some .int)) [vr 9 0 0, vi x1, vi x2, vi x3] μ (some (vi x)) μ'
abbrev X9_suits_at43 (d : Nat) (x2 : Int32) (x3 : Int32) (x4 : Int32) (x5 : Int32) (x6 : Int32) (x7 : Int32) (μ : Mem) (x : Int32) (μ' : Mem) : Prop := Ev (d + 1) yX9_suits cX9_suits 9 ((some .int)) 43 [some (vr 9 0 0), none, some (vi x2), some (vi x3), some (vi x4), some (vi x5), some (vi x6), some (vi x7), none] [] μ (some (vi x)) μ'
abbrev X9_tell (d : Nat) (x1 : Int32) (x2 : Int32) (x3 : Int32) (μ : Mem) (x : Int32) (μ' : Mem) : Prop := Me d yX9_tell cX9_tell 4 ((some .int)) [vr 9 0 0, vi x1, vi x2, vi x3] μ (some (vi x)) μ'
abbrev X9_then (d : Nat) (x1 : Int32) (x2 : Int32) (x3 : Int32) (μ : Mem) (x : Int32) (μ' : Mem) : Prop := Me d yX9_then cX9_then 4 ((some .int)) [vr 9 0 0, vi x1, vi x2, vi x3] μ (some (vi x)) μ'
abbrev X9_thread (d : Nat) (x1 : Int32) (x2 : Int32) (x3 : Int32) (μ : Mem) (x : Int32) (μ' : Mem) : Prop := Me d yX9_thread cX9_thread 4 ((some .int)) [vr 9 0 0, vi x1, vi x2, vi x3] μ (some (vi x)) μ'
abbrev X9_turn (d : Nat) (x1 : Int32) (x2 : Int32) (μ : Mem) (x : Int32) (μ' : Mem) : Prop := Me d yX9_turn cX9_turn 3 ((some .int)) [vr 9 0 0, vi x1, vi x2] μ (some (vi x)) μ'
abbrev X9_undo (d : Nat)  (μ : Mem) (x : Int32) (μ' : Mem) : Prop := Me d yX9_undo cX9_undo 1 ((some .boolean)) [vr 9 0 0] μ (some (vi x)) μ'
abbrev X9_weaveWhole (d : Nat) (x1 : Int32) (x2 : Int32) (x3 : Int32) (μ : Mem) (μ' : Mem) : Prop := Me d yX9_weaveWhole cX9_weaveWhole 4 (none) [vr 9 0 0, vi x1, vi x2, vi x3] μ none μ'
abbrev X9_wettest (d : Nat) (x1 : Int32) (x2 : Int32) (μ : Mem) (x : Int32) (μ' : Mem) : Prop := Me d yX9_wettest cX9_wettest 5 ((some .int)) [vr 9 0 0, vi x1, vi x2] μ (some (vi x)) μ'
abbrev X9_wettest_at64 (d : Nat) (x2 : Int32) (x3 : Int32) (x4 : Int32) (μ : Mem) (x : Int32) (μ' : Mem) : Prop := Ev (d + 1) yX9_wettest cX9_wettest 5 ((some .int)) 64 [some (vr 9 0 0), none, some (vi x2), some (vi x3), some (vi x4)] [] μ (some (vi x)) μ'
abbrev X9_where (d : Nat) (x1 : Int32) (x2 : Int32) (x3 : Int32) (x4 : Int32) (μ : Mem) (x : Int32) (μ' : Mem) : Prop := Me d yX9_where cX9_where 11 ((some .int)) [vr 9 0 0, vi x1, vi x2, vi x3, vi x4] μ (some (vi x)) μ'
abbrev X9_where_at87 (d : Nat) (x2 : Int32) (x3 : Int32) (x4 : Int32) (x5 : Int32) (x6 : Int32) (x7 : Int32) (x8 : Int32) (μ : Mem) (x : Int32) (μ' : Mem) : Prop := Ev (d + 1) yX9_where cX9_where 11 ((some .int)) 87 [some (vr 9 0 0), none, some (vi x2), some (vi x3), some (vi x4), some (vi x5), some (vi x6), some (vi x7), some (vi x8), none, none] [] μ (some (vi x)) μ'
abbrev X9_where_at104 (d : Nat) (x2 : Int32) (x3 : Int32) (x4 : Int32) (x5 : Int32) (x6 : Int32) (x7 : Int32) (x8 : Int32) (x9 : Int32) (μ : Mem) (x : Int32) (μ' : Mem) : Prop := Ev (d + 1) yX9_where cX9_where 11 ((some .int)) 104 [some (vr 9 0 0), none, some (vi x2), some (vi x3), some (vi x4), some (vi x5), some (vi x6), some (vi x7), some (vi x8), some (vi x9), none] [] μ (some (vi x)) μ'
abbrev X9_year (d : Nat) (x1 : Int32) (x2 : Int32) (μ : Mem) (x : Int32) (μ' : Mem) : Prop := Me d yX9_year cX9_year 6 ((some .int)) [vr 9 0 0, vi x1, vi x2] μ (some (vi x)) μ'
abbrev X9_year_at43 (d : Nat) (x1 : Int32) (x2 : Int32) (x3 : Int32) (x4 : Int32) (x5 : Int32) (μ : Mem) (x : Int32) (μ' : Mem) : Prop := Ev (d + 1) yX9_year cX9_year 6 ((some .int)) 43 [some (vr 9 0 0), some (vi x1), some (vi x2), some (vi x3), some (vi x4), some (vi x5)] [] μ (some (vi x)) μ'
abbrev X10_adds (d : Nat) (x1 : Int32) (μ : Mem) (x : Int32) (μ' : Mem) : Prop := Me d yX10_adds cX10_adds 4 ((some .boolean)) [vr 10 0 0, vi x1] μ (some (vi x)) μ'
abbrev X10_agree (d : Nat) (x1 : Int32) (x2 : Int32) (μ : Mem) (x : Int32) (μ' : Mem) : Prop := Me d yX10_agree cX10_agree 6 ((some .int)) [vr 10 0 0, vi x1, vi x2] μ (some (vi x)) μ'
abbrev X10_agree_at25 (d : Nat) (x1 : Int32) (x2 : Int32) (x3 : Int32) (μ : Mem) (x : Int32) (μ' : Mem) : Prop := Ev (d + 1) yX10_agree cX10_agree 6 ((some .int)) 25 [some (vr 10 0 0), some (vi x1), some (vi x2), some (vi x3), none, none] [] μ (some (vi x)) μ'
abbrev X10_agree_at38 (d : Nat) (x1 : Int32) (x2 : Int32) (x3 : Int32) (x4 : Int32) (x5 : Int32) (μ : Mem) (x : Int32) (μ' : Mem) : Prop := Ev (d + 1) yX10_agree cX10_agree 6 ((some .int)) 38 [some (vr 10 0 0), some (vi x1), some (vi x2), some (vi x3), some (vi x4), some (vi x5)] [] μ (some (vi x)) μ'
abbrev X10_all (d : Nat) (x1 : Int32) (x2 : Int32) (μ : Mem) (x : Int32) (μ' : Mem) : Prop := Me d yX10_all cX10_all 3 ((some .int)) [vr 10 0 0, vi x1, vi x2] μ (some (vi x)) μ'
abbrev X10_appends (d : Nat) (x0 : Int64) (x2 : Int32) (μ : Mem) (x : Int64) (μ' : Mem) : Prop := Me d yX10_appends cX10_appends 3 ((some .long)) [vl x0, vi x2] μ (some (vl x)) μ'
abbrev X10_areFields (d : Nat)  (μ : Mem) (x : Int32) (μ' : Mem) : Prop := Me d yX10_areFields cX10_areFields 3 ((some .boolean)) [vr 10 0 0] μ (some (vi x)) μ'
abbrev X10_areFields_at2 (d : Nat) (x1 : Int32) (μ : Mem) (x : Int32) (μ' : Mem) : Prop := Ev d yX10_areFields cX10_areFields 3 ((some .boolean)) 2 [some (vr 10 0 0), some (vi x1), none] [] μ (some (vi x)) μ'
abbrev X10_areFields_at17 (d : Nat) (x1 : Int32) (x2 : Int32) (μ : Mem) (x : Int32) (μ' : Mem) : Prop := Ev d yX10_areFields cX10_areFields 3 ((some .boolean)) 17 [some (vr 10 0 0), some (vi x1), some (vi x2)] [] μ (some (vi x)) μ'
abbrev X10_asks (d : Nat) (x1 : Int32) (x2 : Int32) (x3 : Int32) (μ : Mem) (x : Int32) (μ' : Mem) : Prop := Me d yX10_asks cX10_asks 8 ((some .int)) [vr 10 0 0, vi x1, vi x2, vi x3] μ (some (vi x)) μ'
abbrev X10_asks_at43 (d : Nat) (x3 : Int32) (x4 : Int32) (x5 : Int32) (μ : Mem) (x : Int32) (μ' : Mem) : Prop := Ev (d + 1) yX10_asks cX10_asks 8 ((some .int)) 43 [some (vr 10 0 0), none, none, some (vi x3), some (vi x4), some (vi x5), none, none] [] μ (some (vi x)) μ'
abbrev X10_back (d : Nat) (x1 : Int32) (μ : Mem) (x : Int32) (μ' : Mem) : Prop := Me d yX10_back cX10_back 2 ((some .int)) [vr 10 0 0, vi x1] μ (some (vi x)) μ'
abbrev X10_begins (d : Nat)  (μ : Mem) (μ' : Mem) : Prop := Me d yX10_begins cX10_begins 2 (none) [vr 10 0 0] μ none μ'
abbrev X10_begins_at2 (d : Nat) (x1 : Int32) (μ : Mem) (μ' : Mem) : Prop := Ev d yX10_begins cX10_begins 2 (none) 2 [some (vr 10 0 0), some (vi x1)] [] μ none μ'
abbrev X10_begins_at23 (d : Nat) (x1 : Int32) (μ : Mem) (μ' : Mem) : Prop := Ev d yX10_begins cX10_begins 2 (none) 23 [some (vr 10 0 0), some (vi x1)] [] μ none μ'
abbrev X10_bounded (d : Nat) (x1 : Int32) (x2 : Int32) (μ : Mem) (x : Int32) (μ' : Mem) : Prop := Me d yX10_bounded cX10_bounded 4 ((some .int)) [vr 10 0 0, vi x1, vi x2] μ (some (vi x)) μ'
abbrev X10_byteAt (d : Nat) (x1 : Int32) (μ : Mem) (x : Int32) (μ' : Mem) : Prop := Me d yX10_byteAt cX10_byteAt 2 ((some .int)) [vr 10 0 0, vi x1] μ (some (vi x)) μ'
abbrev X10_cell (d : Nat) (x1 : Int32) (x2 : Int32) (x3 : Int32) (μ : Mem) (x : Int32) (μ' : Mem) : Prop := Me d yX10_cell cX10_cell 5 ((some .int)) [vr 10 0 0, vi x1, vi x2, vi x3] μ (some (vi x)) μ'
abbrev X10_cellsOf (d : Nat) (x1 : Int32) (μ : Mem) (x : Int32) (μ' : Mem) : Prop := Me d yX10_cellsOf cX10_cellsOf 4 ((some .int)) [vr 10 0 0, vi x1] μ (some (vi x)) μ'
abbrev X10_cellsOf_at4 (d : Nat) (x1 : Int32) (x2 : Int32) (x3 : Int32) (μ : Mem) (x : Int32) (μ' : Mem) : Prop := Ev (d + 1) yX10_cellsOf cX10_cellsOf 4 ((some .int)) 4 [some (vr 10 0 0), some (vi x1), some (vi x2), some (vi x3)] [] μ (some (vi x)) μ'
abbrev X10_comes (d : Nat) (x1 : Int32) (x2 : Int32) (x3 : Int32) (μ : Mem) (x : Int32) (μ' : Mem) : Prop := Me d yX10_comes cX10_comes 7 ((some .int)) [vr 10 0 0, vi x1, vi x2, vi x3] μ (some (vi x)) μ'
abbrev X10_comes_at47 (d : Nat) (x1 : Int32) (x2 : Int32) (x3 : Int32) (x4 : Int32) (μ : Mem) (x : Int32) (μ' : Mem) : Prop := Ev (d + 1) yX10_comes cX10_comes 7 ((some .int)) 47 [some (vr 10 0 0), some (vi x1), some (vi x2), some (vi x3), some (vi x4), none, none] [] μ (some (vi x)) μ'
abbrev X10_comes_at61 (d : Nat) (x1 : Int32) (x2 : Int32) (x3 : Int32) (x4 : Int32) (x5 : Int32) (x6 : Int32) (μ : Mem) (x : Int32) (μ' : Mem) : Prop := Ev (d + 1) yX10_comes cX10_comes 7 ((some .int)) 61 [some (vr 10 0 0), some (vi x1), some (vi x2), some (vi x3), some (vi x4), some (vi x5), some (vi x6)] [] μ (some (vi x)) μ'
abbrev X10_comesOut (d : Nat) (x1 : Int32) (μ : Mem) (μ' : Mem) : Prop := Me d yX10_comesOut cX10_comesOut 3 (none) [vr 10 0 0, vi x1] μ none μ'
abbrev X10_comesOut_at0 (d : Nat) (x1 : Int32) (μ : Mem) (μ' : Mem) : Prop := Ev (d + 1) yX10_comesOut cX10_comesOut 3 (none) 0 [some (vr 10 0 0), some (vi x1), none] [] μ none μ'
abbrev X10_copies (d : Nat)  (μ : Mem) (μ' : Mem) : Prop := Me d yX10_copies cX10_copies 2 (none) [vr 10 0 0] μ none μ'
abbrev X10_copies_at2 (d : Nat) (x1 : Int32) (μ : Mem) (μ' : Mem) : Prop := Ev d yX10_copies cX10_copies 2 (none) 2 [some (vr 10 0 0), some (vi x1)] [] μ none μ'
abbrev X10_count (d : Nat) (x1 : Int32) (μ : Mem) (x : Int32) (μ' : Mem) : Prop := Me d yX10_count cX10_count 2 ((some .int)) [vr 10 0 0, vi x1] μ (some (vi x)) μ'
abbrev X10_count_at173 (d : Nat) (s0 : Int32) (μ : Mem) (x : Int32) (μ' : Mem) : Prop := Ev (d + 1) yX10_count cX10_count 2 ((some .int)) 173 [some (vr 10 0 0), none] [vi s0] μ (some (vi x)) μ'
abbrev X10_count_at187 (d : Nat) (s0 : Int32) (s1 : Int32) (μ : Mem) (x : Int32) (μ' : Mem) : Prop := Ev (d + 1) yX10_count cX10_count 2 ((some .int)) 187 [some (vr 10 0 0), none] [vi s1, vi s0] μ (some (vi x)) μ'
abbrev X10_count_at202 (d : Nat) (s0 : Int32) (s1 : Int32) (μ : Mem) (x : Int32) (μ' : Mem) : Prop := Ev (d + 1) yX10_count cX10_count 2 ((some .int)) 202 [none, none] [vi s1, vi s0] μ (some (vi x)) μ'
abbrev X10_cut (d : Nat) (x1 : Int32) (x2 : Int32) (x3 : Int32) (x4 : Int32) (μ : Mem) (x : Int32) (μ' : Mem) : Prop := Me d yX10_cut cX10_cut 9 ((some .int)) [vr 10 0 0, vi x1, vi x2, vi x3, vi x4] μ (some (vi x)) μ'
abbrev X10_cut_at35 (d : Nat) (x3 : Int32) (x4 : Int32) (μ : Mem) (x : Int32) (μ' : Mem) : Prop := Ev (d + 1) yX10_cut cX10_cut 9 ((some .int)) 35 [some (vr 10 0 0), none, none, some (vi x3), some (vi x4), none, none, none, none] [] μ (some (vi x)) μ'
abbrev X10_cut_at70 (d : Nat)  (μ : Mem) (x : Int32) (μ' : Mem) : Prop := Ev (d + 1) yX10_cut cX10_cut 9 ((some .int)) 70 [none, none, none, none, none, none, none, none, none] [] μ (some (vi x)) μ'
abbrev X10_cut_at47 (d : Nat) (x3 : Int32) (x4 : Int32) (μ : Mem) (x : Int32) (μ' : Mem) : Prop := Ev (d + 1) yX10_cut cX10_cut 9 ((some .int)) 47 [some (vr 10 0 0), none, none, some (vi x3), some (vi x4), none, none, none, none] [] μ (some (vi x)) μ'
abbrev X10_cut_at56 (d : Nat) (x4 : Int32) (μ : Mem) (x : Int32) (μ' : Mem) : Prop := Ev (d + 1) yX10_cut cX10_cut 9 ((some .int)) 56 [some (vr 10 0 0), none, none, none, some (vi x4), none, none, none, none] [] μ (some (vi x)) μ'
abbrev X10_cut_at72 (d : Nat)  (μ : Mem) (x : Int32) (μ' : Mem) : Prop := Ev (d + 1) yX10_cut cX10_cut 9 ((some .int)) 72 [some (vr 10 0 0), none, none, none, none, none, none, none, none] [] μ (some (vi x)) μ'
abbrev X10_cut_at84 (d : Nat) (x5 : Int32) (x6 : Int32) (x7 : Int32) (x8 : Int32) (μ : Mem) (x : Int32) (μ' : Mem) : Prop := Ev (d + 1) yX10_cut cX10_cut 9 ((some .int)) 84 [some (vr 10 0 0), none, none, none, none, some (vi x5), some (vi x6), some (vi x7), some (vi x8)] [] μ (some (vi x)) μ'
abbrev X10_cut_at197 (d : Nat) (x6 : Int32) (μ : Mem) (x : Int32) (μ' : Mem) : Prop := Ev (d + 1) yX10_cut cX10_cut 9 ((some .int)) 197 [some (vr 10 0 0), none, none, none, none, none, some (vi x6), none, none] [] μ (some (vi x)) μ'
abbrev X10_cut_at136 (d : Nat) (x5 : Int32) (x6 : Int32) (x7 : Int32) (x8 : Int32) (μ : Mem) (x : Int32) (μ' : Mem) : Prop := Ev (d + 1) yX10_cut cX10_cut 9 ((some .int)) 136 [some (vr 10 0 0), none, none, none, none, some (vi x5), some (vi x6), some (vi x7), some (vi x8)] [] μ (some (vi x)) μ'
abbrev X10_cut_at157 (d : Nat) (x5 : Int32) (x6 : Int32) (x7 : Int32) (x8 : Int32) (μ : Mem) (x : Int32) (μ' : Mem) : Prop := Ev (d + 1) yX10_cut cX10_cut 9 ((some .int)) 157 [some (vr 10 0 0), none, none, none, none, some (vi x5), some (vi x6), some (vi x7), some (vi x8)] [] μ (some (vi x)) μ'
abbrev X10_cutsUp (d : Nat)  (μ : Mem) (μ' : Mem) : Prop := Me d yX10_cutsUp cX10_cutsUp 8 (none) [vr 10 0 0] μ none μ'
abbrev X10_cutsUp_at7 (d : Nat) (x1 : Int32) (μ : Mem) (μ' : Mem) : Prop := Ev (d + 1) yX10_cutsUp cX10_cutsUp 8 (none) 7 [some (vr 10 0 0), some (vi x1), none, none, none, none, none, none] [] μ none μ'
abbrev X10_cutsUp_at208 (d : Nat) (x1 : Int32) (x3 : Int32) (x4 : Int32) (μ : Mem) (μ' : Mem) : Prop := Ev (d + 1) yX10_cutsUp cX10_cutsUp 8 (none) 208 [some (vr 10 0 0), some (vi x1), none, some (vi x3), some (vi x4), none, none, none] [] μ none μ'
abbrev X10_cutsUp_at85 (d : Nat) (x1 : Int32) (x3 : Int32) (x4 : Int64) (μ : Mem) (μ' : Mem) : Prop := Ev (d + 1) yX10_cutsUp cX10_cutsUp 8 (none) 85 [some (vr 10 0 0), some (vi x1), none, some (vi x3), some (vl x4), none, none, none] [] μ none μ'
abbrev X10_cutsUp_at146 (d : Nat) (x1 : Int32) (x3 : Int32) (x4 : Int64) (x6 : Int32) (x7 : Int32) (μ : Mem) (μ' : Mem) : Prop := Ev (d + 1) yX10_cutsUp cX10_cutsUp 8 (none) 146 [some (vr 10 0 0), some (vi x1), none, some (vi x3), some (vl x4), none, some (vi x6), some (vi x7)] [] μ none μ'
abbrev X10_dayGoes (d : Nat)  (μ : Mem) (μ' : Mem) : Prop := Me d yX10_dayGoes cX10_dayGoes 3 (none) [vr 10 0 0] μ none μ'
abbrev X10_dayGoes_at2 (d : Nat) (x1 : Int32) (μ : Mem) (μ' : Mem) : Prop := Ev (d + 1) yX10_dayGoes cX10_dayGoes 3 (none) 2 [some (vr 10 0 0), some (vi x1), none] [] μ none μ'
abbrev X10_dayGoes_at116 (d : Nat) (x1 : Int32) (μ : Mem) (μ' : Mem) : Prop := Ev (d + 1) yX10_dayGoes cX10_dayGoes 3 (none) 116 [some (vr 10 0 0), some (vi x1), none] [] μ none μ'
abbrev X10_dayGoes_at191 (d : Nat) (x1 : Int32) (μ : Mem) (μ' : Mem) : Prop := Ev (d + 1) yX10_dayGoes cX10_dayGoes 3 (none) 191 [some (vr 10 0 0), some (vi x1), none] [] μ none μ'
abbrev X10_days (d : Nat) (x1 : Int32) (μ : Mem) (x : Int32) (μ' : Mem) : Prop := Me d yX10_days cX10_days 2 ((some .int)) [vr 10 0 0, vi x1] μ (some (vi x)) μ'
abbrev X10_driesIn (d : Nat) (x1 : Int32) (μ : Mem) (x : Int32) (μ' : Mem) : Prop := Me d yX10_driesIn cX10_driesIn 2 ((some .int)) [vr 10 0 0, vi x1] μ (some (vi x)) μ'
abbrev X10_drownOf (d : Nat) (x1 : Int32) (μ : Mem) (x : Int32) (μ' : Mem) : Prop := Me d yX10_drownOf cX10_drownOf 2 ((some .int)) [vr 10 0 0, vi x1] μ (some (vi x)) μ'
abbrev X10_dry (d : Nat) (x1 : Int32) (μ : Mem) (x : Int32) (μ' : Mem) : Prop := Me d yX10_dry cX10_dry 4 ((some .int)) [vr 10 0 0, vi x1] μ (some (vi x)) μ'
abbrev X10_dry_at22 (d : Nat) (x2 : Int32) (x3 : Int32) (μ : Mem) (x : Int32) (μ' : Mem) : Prop := Ev (d + 1) yX10_dry cX10_dry 4 ((some .int)) 22 [some (vr 10 0 0), none, some (vi x2), some (vi x3)] [] μ (some (vi x)) μ'
abbrev X10_emit (d : Nat) (x1 : Int32) (x2 : Int32) (μ : Mem) (μ' : Mem) : Prop := Me d yX10_emit cX10_emit 3 (none) [vr 10 0 0, vi x1, vi x2] μ none μ'
abbrev X10_emptyBy (d : Nat)  (μ : Mem) (x : Int32) (μ' : Mem) : Prop := Me d yX10_emptyBy cX10_emptyBy 2 ((some .int)) [vr 10 0 0] μ (some (vi x)) μ'
abbrev X10_emptyBy_at6 (d : Nat) (x1 : Int32) (μ : Mem) (x : Int32) (μ' : Mem) : Prop := Ev (d + 1) yX10_emptyBy cX10_emptyBy 2 ((some .int)) 6 [some (vr 10 0 0), some (vi x1)] [] μ (some (vi x)) μ'
abbrev X10_ends (d : Nat) (x1 : Int32) (μ : Mem) (μ' : Mem) : Prop := Me d yX10_ends cX10_ends 2 (none) [vr 10 0 0, vi x1] μ none μ'
abbrev X10_expression (d : Nat)  (μ : Mem) (μ' : Mem) : Prop := Me d yX10_expression cX10_expression 3 (none) [vr 10 0 0] μ none μ'
abbrev X10_expression_at12 (d : Nat) (x1 : Int32) (x2 : Int32) (μ : Mem) (μ' : Mem) : Prop := Ev (d + 1) yX10_expression cX10_expression 3 (none) 12 [some (vr 10 0 0), some (vi x1), some (vi x2)] [] μ none μ'
abbrev X10_expression_at23 (d : Nat) (x1 : Int32) (μ : Mem) (μ' : Mem) : Prop := Ev (d + 1) yX10_expression cX10_expression 3 (none) 23 [some (vr 10 0 0), some (vi x1), none] [] μ none μ'
abbrev X10_expression_at96 (d : Nat) (x1 : Int32) (μ : Mem) (μ' : Mem) : Prop := Ev (d + 1) yX10_expression cX10_expression 3 (none) 96 [some (vr 10 0 0), some (vi x1), none] [] μ none μ'
abbrev X10_expression_at186 (d : Nat) (x1 : Int32) (s0 : Int32) (μ : Mem) (μ' : Mem) : Prop := Ev (d + 1) yX10_expression cX10_expression 3 (none) 186 [some (vr 10 0 0), some (vi x1), none] [vi s0] μ none μ'
abbrev X10_expression_at204 (d : Nat)  (μ : Mem) (μ' : Mem) : Prop := Ev (d + 1) yX10_expression cX10_expression 3 (none) 204 [some (vr 10 0 0), none, none] [] μ none μ'
abbrev X10_fail (d : Nat) (x1 : Int32) (μ : Mem) (μ' : Mem) : Prop := Me d yX10_fail cX10_fail 2 (none) [vr 10 0 0, vi x1] μ none μ'
abbrev X10_fall (d : Nat) (x1 : Int32) (x2 : Int32) (x3 : Int32) (x4 : Int32) (x5 : Int32) (μ : Mem) (x : Int32) (μ' : Mem) : Prop := Me d yX10_fall cX10_fall 7 ((some .int)) [vr 10 0 0, vi x1, vi x2, vi x3, vi x4, vi x5] μ (some (vi x)) μ'
abbrev X10_falls (d : Nat) (x1 : Int32) (x2 : Int32) (x3 : Int32) (x4 : Int32) (x5 : Int32) (μ : Mem) (x : Int32) (μ' : Mem) : Prop := Me d yX10_falls cX10_falls 14 ((some .int)) [vr 10 0 0, vi x1, vi x2, vi x3, vi x4, vi x5] μ (some (vi x)) μ'
abbrev X10_falls_at20 (d : Nat) (x1 : Int32) (x2 : Int32) (x3 : Int32) (x4 : Int32) (x5 : Int32) (x6 : Int32) (x7 : Int32) (x8 : Int32) (x9 : Int32) (μ : Mem) (x : Int32) (μ' : Mem) : Prop := Ev (d + 1) yX10_falls cX10_falls 14 ((some .int)) 20 [some (vr 10 0 0), some (vi x1), some (vi x2), some (vi x3), some (vi x4), some (vi x5), some (vi x6), some (vi x7), some (vi x8), some (vi x9), none, none, none, none] [] μ (some (vi x)) μ'
abbrev X10_feed (d : Nat) (x1 : Int32) (x2 : Int32) (x3 : Int32) (x4 : Int32) (x5 : Int32) (μ : Mem) (x : Int32) (μ' : Mem) : Prop := Me d yX10_feed cX10_feed 6 ((some .int)) [vr 10 0 0, vi x1, vi x2, vi x3, vi x4, vi x5] μ (some (vi x)) μ'
abbrev X10_fell (d : Nat) (x1 : Int32) (x2 : Int32) (x3 : Int32) (x4 : Int32) (μ : Mem) (x : Int32) (μ' : Mem) : Prop := Me d yX10_fell cX10_fell 7 ((some .int)) [vr 10 0 0, vi x1, vi x2, vi x3, vi x4] μ (some (vi x)) μ'
abbrev X10_fell_at24 (d : Nat) (x1 : Int32) (x2 : Int32) (x3 : Int32) (x4 : Int32) (x5 : Int32) (x6 : Int32) (μ : Mem) (x : Int32) (μ' : Mem) : Prop := Ev (d + 1) yX10_fell cX10_fell 7 ((some .int)) 24 [some (vr 10 0 0), some (vi x1), some (vi x2), some (vi x3), some (vi x4), some (vi x5), some (vi x6)] [] μ (some (vi x)) μ'
abbrev X10_field (d : Nat) (x1 : Int32) (x2 : Int32) (μ : Mem) (x : Int32) (μ' : Mem) : Prop := Me d yX10_field cX10_field 5 ((some .int)) [vr 10 0 0, vi x1, vi x2] μ (some (vi x)) μ'
abbrev X10_field_at55 (d : Nat) (x1 : Int32) (x3 : Int32) (x4 : Int32) (μ : Mem) (x : Int32) (μ' : Mem) : Prop := Ev (d + 1) yX10_field cX10_field 5 ((some .int)) 55 [some (vr 10 0 0), some (vi x1), none, some (vi x3), some (vi x4)] [] μ (some (vi x)) μ'
abbrev X10_fieldAt (d : Nat) (x1 : Int32) (μ : Mem) (x : Int32) (μ' : Mem) : Prop := Me d yX10_fieldAt cX10_fieldAt 2 ((some .int)) [vr 10 0 0, vi x1] μ (some (vi x)) μ'
abbrev X10_fillsServe (d : Nat) (x1 : Int32) (x2 : Int32) (μ : Mem) (μ' : Mem) : Prop := Me d yX10_fillsServe cX10_fillsServe 5 (none) [vr 10 0 0, vi x1, vi x2] μ none μ'
abbrev X10_fillsServe_at2 (d : Nat) (x1 : Int32) (x2 : Int32) (x3 : Int32) (μ : Mem) (μ' : Mem) : Prop := Ev (d + 1) yX10_fillsServe cX10_fillsServe 5 (none) 2 [some (vr 10 0 0), some (vi x1), some (vi x2), some (vi x3), none] [] μ none μ'
abbrev X10_fillsServe_at72 (d : Nat) (x3 : Int32) (μ : Mem) (μ' : Mem) : Prop := Ev (d + 1) yX10_fillsServe cX10_fillsServe 5 (none) 72 [some (vr 10 0 0), none, none, some (vi x3), none] [] μ none μ'
abbrev X10_fillsServe_at18 (d : Nat) (x1 : Int32) (x2 : Int32) (x3 : Int32) (x4 : Int32) (μ : Mem) (μ' : Mem) : Prop := Ev (d + 1) yX10_fillsServe cX10_fillsServe 5 (none) 18 [some (vr 10 0 0), some (vi x1), some (vi x2), some (vi x3), some (vi x4)] [] μ none μ'
abbrev X10_fillsWhere (d : Nat) (x1 : Int32) (x2 : Int32) (x3 : Int32) (μ : Mem) (μ' : Mem) : Prop := Me d yX10_fillsWhere cX10_fillsWhere 7 (none) [vr 10 0 0, vi x1, vi x2, vi x3] μ none μ'
abbrev X10_fillsWhere_at8 (d : Nat) (x1 : Int32) (x2 : Int32) (x3 : Int32) (x4 : Int32) (μ : Mem) (μ' : Mem) : Prop := Ev (d + 1) yX10_fillsWhere cX10_fillsWhere 7 (none) 8 [some (vr 10 0 0), some (vi x1), some (vi x2), some (vi x3), some (vi x4), none, none] [] μ none μ'
abbrev X10_fillsWhere_at27 (d : Nat) (x1 : Int32) (x2 : Int32) (x3 : Int32) (x4 : Int32) (x5 : Int32) (μ : Mem) (μ' : Mem) : Prop := Ev (d + 1) yX10_fillsWhere cX10_fillsWhere 7 (none) 27 [some (vr 10 0 0), some (vi x1), some (vi x2), some (vi x3), some (vi x4), some (vi x5), none] [] μ none μ'
abbrev X10_flips (d : Nat) (x1 : Int32) (x2 : Int32) (μ : Mem) (μ' : Mem) : Prop := Me d yX10_flips cX10_flips 5 (none) [vr 10 0 0, vi x1, vi x2] μ none μ'
abbrev X10_flips_at22 (d : Nat) (x1 : Int32) (x2 : Int32) (x3 : Int32) (x4 : Int32) (μ : Mem) (μ' : Mem) : Prop := Ev d yX10_flips cX10_flips 5 (none) 22 [some (vr 10 0 0), some (vi x1), some (vi x2), some (vi x3), some (vi x4)] [] μ none μ'
abbrev X10_forget (d : Nat)  (μ : Mem) (x : Int32) (μ' : Mem) : Prop := Me d yX10_forget cX10_forget 2 ((some .int)) [vr 10 0 0] μ (some (vi x)) μ'
abbrev X10_goes (d : Nat) (x1 : Int32) (μ : Mem) (μ' : Mem) : Prop := Me d yX10_goes cX10_goes 3 (none) [vr 10 0 0, vi x1] μ none μ'
abbrev X10_goes_at2 (d : Nat) (x1 : Int32) (x2 : Int32) (μ : Mem) (μ' : Mem) : Prop := Ev (d + 1) yX10_goes cX10_goes 3 (none) 2 [some (vr 10 0 0), some (vi x1), some (vi x2)] [] μ none μ'
abbrev X10_goesIn (d : Nat) (x1 : Int32) (μ : Mem) (x : Int32) (μ' : Mem) : Prop := Me d yX10_goesIn cX10_goesIn 5 ((some .boolean)) [vr 10 0 0, vi x1] μ (some (vi x)) μ'
abbrev X10_goesIn_at2 (d : Nat) (x1 : Int32) (x2 : Int32) (μ : Mem) (x : Int32) (μ' : Mem) : Prop := Ev (d + 1) yX10_goesIn cX10_goesIn 5 ((some .boolean)) 2 [some (vr 10 0 0), some (vi x1), some (vi x2), none, none] [] μ (some (vi x)) μ'
abbrev X10_goesIn_at25 (d : Nat) (x1 : Int32) (x2 : Int32) (x3 : Int32) (μ : Mem) (x : Int32) (μ' : Mem) : Prop := Ev (d + 1) yX10_goesIn cX10_goesIn 5 ((some .boolean)) 25 [some (vr 10 0 0), some (vi x1), some (vi x2), some (vi x3), none] [] μ (some (vi x)) μ'
abbrev X10_goesOn (d : Nat)  (μ : Mem) (μ' : Mem) : Prop := Me d yX10_goesOn cX10_goesOn 1 (none) [vr 10 0 0] μ none μ'
abbrev X10_heldBy (d : Nat) (x1 : Int32) (x2 : Int32) (x3 : Int32) (μ : Mem) (x : Int32) (μ' : Mem) : Prop := Me d yX10_heldBy cX10_heldBy 6 ((some .int)) [vr 10 0 0, vi x1, vi x2, vi x3] μ (some (vi x)) μ'
abbrev X10_heldBy_at6 (d : Nat) (x1 : Int32) (x2 : Int32) (x3 : Int32) (x4 : Int32) (x5 : Int32) (μ : Mem) (x : Int32) (μ' : Mem) : Prop := Ev (d + 1) yX10_heldBy cX10_heldBy 6 ((some .int)) 6 [some (vr 10 0 0), some (vi x1), some (vi x2), some (vi x3), some (vi x4), some (vi x5)] [] μ (some (vi x)) μ'
abbrev X10_hold (d : Nat) (x1 : Int32) (μ : Mem) (x : Int32) (μ' : Mem) : Prop := Me d yX10_hold cX10_hold 3 ((some .boolean)) [vr 10 0 0, vi x1] μ (some (vi x)) μ'
abbrev X10_hold_at20 (d : Nat) (x1 : Int32) (x2 : Int32) (μ : Mem) (x : Int32) (μ' : Mem) : Prop := Ev (d + 1) yX10_hold cX10_hold 3 ((some .boolean)) 20 [some (vr 10 0 0), some (vi x1), some (vi x2)] [] μ (some (vi x)) μ'
abbrev X10_holds (d : Nat) (x1 : Int32) (x2 : Int32) (x3 : Int32) (x4 : Int32) (μ : Mem) (x : Int32) (μ' : Mem) : Prop := Me d yX10_holds cX10_holds 7 ((some .int)) [vr 10 0 0, vi x1, vi x2, vi x3, vi x4] μ (some (vi x)) μ'
abbrev X10_holds_at31 (d : Nat) (x1 : Int32) (x2 : Int32) (x3 : Int32) (x5 : Int32) (x6 : Int32) (μ : Mem) (x : Int32) (μ' : Mem) : Prop := Ev (d + 1) yX10_holds cX10_holds 7 ((some .int)) 31 [some (vr 10 0 0), some (vi x1), some (vi x2), some (vi x3), none, some (vi x5), some (vi x6)] [] μ (some (vi x)) μ'
abbrev X10_in (d : Nat) (x0 : Int32) (x1 : Int32) (x2 : Int32) (μ : Mem) (x : Int32) (μ' : Mem) : Prop := Me d yX10_in cX10_in 3 ((some .boolean)) [vi x0, vi x1, vi x2] μ (some (vi x)) μ'
abbrev X10_is (d : Nat) (x1 : Int32) (μ : Mem) (x : Int32) (μ' : Mem) : Prop := Me d yX10_is cX10_is 2 ((some .boolean)) [vr 10 0 0, vi x1] μ (some (vi x)) μ'
abbrev X10_isAsked (d : Nat) (x1 : Int32) (x2 : Int32) (x3 : Int32) (μ : Mem) (x : Int32) (μ' : Mem) : Prop := Me d yX10_isAsked cX10_isAsked 4 ((some .boolean)) [vr 10 0 0, vi x1, vi x2, vi x3] μ (some (vi x)) μ'
abbrev X10_isCell (d : Nat) (x1 : Int32) (x2 : Int32) (μ : Mem) (x : Int32) (μ' : Mem) : Prop := Me d yX10_isCell cX10_isCell 3 ((some .boolean)) [vr 10 0 0, vi x1, vi x2] μ (some (vi x)) μ'
abbrev X10_isDigit (d : Nat) (x0 : Int32) (μ : Mem) (x : Int32) (μ' : Mem) : Prop := Me d yX10_isDigit cX10_isDigit 1 ((some .boolean)) [vi x0] μ (some (vi x)) μ'
abbrev X10_isField (d : Nat) (x1 : Int32) (μ : Mem) (x : Int32) (μ' : Mem) : Prop := Me d yX10_isField cX10_isField 2 ((some .boolean)) [vr 10 0 0, vi x1] μ (some (vi x)) μ'
abbrev X10_isFlooded (d : Nat) (x1 : Int32) (μ : Mem) (x : Int32) (μ' : Mem) : Prop := Me d yX10_isFlooded cX10_isFlooded 2 ((some .boolean)) [vr 10 0 0, vi x1] μ (some (vi x)) μ'
abbrev X10_isFree (d : Nat) (x1 : Int32) (x2 : Int32) (μ : Mem) (x : Int32) (μ' : Mem) : Prop := Me d yX10_isFree cX10_isFree 5 ((some .boolean)) [vr 10 0 0, vi x1, vi x2] μ (some (vi x)) μ'
abbrev X10_isFree_at22 (d : Nat) (x1 : Int32) (x2 : Int32) (x3 : Int32) (x4 : Int32) (μ : Mem) (x : Int32) (μ' : Mem) : Prop := Ev d yX10_isFree cX10_isFree 5 ((some .boolean)) 22 [some (vr 10 0 0), some (vi x1), some (vi x2), some (vi x3), some (vi x4)] [] μ (some (vi x)) μ'
abbrev X10_isLacking (d : Nat) (x1 : Int32) (μ : Mem) (x : Int32) (μ' : Mem) : Prop := Me d yX10_isLacking cX10_isLacking 2 ((some .boolean)) [vr 10 0 0, vi x1] μ (some (vi x)) μ'
abbrev X10_isLand (d : Nat) (x1 : Int32) (μ : Mem) (x : Int32) (μ' : Mem) : Prop := Me d yX10_isLand cX10_isLand 2 ((some .boolean)) [vr 10 0 0, vi x1] μ (some (vi x)) μ'
abbrev X10_isLetter (d : Nat) (x0 : Int32) (μ : Mem) (x : Int32) (μ' : Mem) : Prop := Me d yX10_isLetter cX10_isLetter 1 ((some .boolean)) [vi x0] μ (some (vi x)) μ'
abbrev X10_isLong (d : Nat) (x0 : Int32) (μ : Mem) (x : Int32) (μ' : Mem) : Prop := Me d yX10_isLong cX10_isLong 1 ((some .boolean)) [vi x0] μ (some (vi x)) μ'
abbrev X10_isLoom (d : Nat) (x1 : Int32) (μ : Mem) (x : Int32) (μ' : Mem) : Prop := Me d yX10_isLoom cX10_isLoom 2 ((some .boolean)) [vr 10 0 0, vi x1] μ (some (vi x)) μ'
abbrev X10_isPiece (d : Nat) (x1 : Int32) (x2 : Int32) (x3 : Int32) (μ : Mem) (x : Int32) (μ' : Mem) : Prop := Me d yX10_isPiece cX10_isPiece 4 ((some .boolean)) [vr 10 0 0, vi x1, vi x2, vi x3] μ (some (vi x)) μ'
abbrev X10_isRound (d : Nat) (x1 : Int32) (x2 : Int32) (μ : Mem) (x : Int32) (μ' : Mem) : Prop := Me d yX10_isRound cX10_isRound 5 ((some .boolean)) [vr 10 0 0, vi x1, vi x2] μ (some (vi x)) μ'
abbrev X10_isRound_at2 (d : Nat) (x1 : Int32) (x2 : Int32) (x3 : Int32) (μ : Mem) (x : Int32) (μ' : Mem) : Prop := Ev (d + 1) yX10_isRound cX10_isRound 5 ((some .boolean)) 2 [some (vr 10 0 0), some (vi x1), some (vi x2), some (vi x3), none] [] μ (some (vi x)) μ'
abbrev X10_isRound_at11 (d : Nat) (x1 : Int32) (x2 : Int32) (x3 : Int32) (x4 : Int32) (μ : Mem) (x : Int32) (μ' : Mem) : Prop := Ev (d + 1) yX10_isRound cX10_isRound 5 ((some .boolean)) 11 [some (vr 10 0 0), some (vi x1), some (vi x2), some (vi x3), some (vi x4)] [] μ (some (vi x)) μ'
abbrev X10_isWay (d : Nat) (x1 : Int32) (x2 : Int32) (x3 : Int32) (x4 : Int32) (μ : Mem) (x : Int32) (μ' : Mem) : Prop := Me d yX10_isWay cX10_isWay 6 ((some .boolean)) [vr 10 0 0, vi x1, vi x2, vi x3, vi x4] μ (some (vi x)) μ'
abbrev X10_isWay_at75 (d : Nat) (x1 : Int32) (x2 : Int32) (x3 : Int32) (x4 : Int32) (x5 : Int32) (μ : Mem) (x : Int32) (μ' : Mem) : Prop := Ev (d + 1) yX10_isWay cX10_isWay 6 ((some .boolean)) 75 [some (vr 10 0 0), some (vi x1), some (vi x2), some (vi x3), some (vi x4), some (vi x5)] [] μ (some (vi x)) μ'
abbrev X10_keeps (d : Nat)  (μ : Mem) (μ' : Mem) : Prop := Me d yX10_keeps cX10_keeps 2 (none) [vr 10 0 0] μ none μ'
abbrev X10_keeps_at51 (d : Nat) (x1 : Int32) (μ : Mem) (μ' : Mem) : Prop := Ev (d + 1) yX10_keeps cX10_keeps 2 (none) 51 [some (vr 10 0 0), some (vi x1)] [] μ none μ'
abbrev X10_keeps_at11 (d : Nat) (x1 : Int32) (μ : Mem) (μ' : Mem) : Prop := Ev (d + 1) yX10_keeps cX10_keeps 2 (none) 11 [some (vr 10 0 0), some (vi x1)] [] μ none μ'
abbrev X10_keepsRow (d : Nat)  (μ : Mem) (μ' : Mem) : Prop := Me d yX10_keepsRow cX10_keepsRow 2 (none) [vr 10 0 0] μ none μ'
abbrev X10_keepsRow_at2 (d : Nat) (x1 : Int32) (μ : Mem) (μ' : Mem) : Prop := Ev d yX10_keepsRow cX10_keepsRow 2 (none) 2 [some (vr 10 0 0), some (vi x1)] [] μ none μ'
abbrev X10_look (d : Nat) (x1 : Int32) (x2 : Int32) (x3 : Int32) (μ : Mem) (x : Int32) (μ' : Mem) : Prop := Me d yX10_look cX10_look 8 ((some .int)) [vr 10 0 0, vi x1, vi x2, vi x3] μ (some (vi x)) μ'
abbrev X10_look_at15 (d : Nat) (x1 : Int32) (x2 : Int32) (x3 : Int32) (x4 : Int32) (μ : Mem) (x : Int32) (μ' : Mem) : Prop := Ev (d + 1) yX10_look cX10_look 8 ((some .int)) 15 [some (vr 10 0 0), some (vi x1), some (vi x2), some (vi x3), some (vi x4), none, none, none] [] μ (some (vi x)) μ'
abbrev X10_look_at55 (d : Nat) (x2 : Int32) (x3 : Int32) (x4 : Int32) (x5 : Int32) (x6 : Int32) (μ : Mem) (x : Int32) (μ' : Mem) : Prop := Ev (d + 1) yX10_look cX10_look 8 ((some .int)) 55 [some (vr 10 0 0), none, some (vi x2), some (vi x3), some (vi x4), some (vi x5), some (vi x6), none] [] μ (some (vi x)) μ'
abbrev X10_looks (d : Nat)  (μ : Mem) (μ' : Mem) : Prop := Me d yX10_looks cX10_looks 2 (none) [vr 10 0 0] μ none μ'
abbrev X10_looks_at2 (d : Nat) (x1 : Int32) (μ : Mem) (μ' : Mem) : Prop := Ev d yX10_looks cX10_looks 2 (none) 2 [some (vr 10 0 0), some (vi x1)] [] μ none μ'
abbrev X10_loom (d : Nat) (x1 : Int32) (x2 : Int32) (μ : Mem) (x : Int32) (μ' : Mem) : Prop := Me d yX10_loom cX10_loom 3 ((some .int)) [vr 10 0 0, vi x1, vi x2] μ (some (vi x)) μ'
abbrev X10_lotOf (d : Nat) (x1 : Int32) (μ : Mem) (x : Int32) (μ' : Mem) : Prop := Me d yX10_lotOf cX10_lotOf 2 ((some .int)) [vr 10 0 0, vi x1] μ (some (vi x)) μ'
abbrev X10_mixed (d : Nat) (x0 : Int32) (x1 : Int32) (μ : Mem) (x : Int32) (μ' : Mem) : Prop := Me d yX10_mixed cX10_mixed 3 ((some .int)) [vi x0, vi x1] μ (some (vi x)) μ'
abbrev X10_moreBy (d : Nat) (x1 : Int32) (x2 : Int32) (x3 : Int32) (x4 : Int32) (x5 : Int32) (μ : Mem) (x : Int32) (μ' : Mem) : Prop := Me d yX10_moreBy cX10_moreBy 8 ((some .int)) [vr 10 0 0, vi x1, vi x2, vi x3, vi x4, vi x5] μ (some (vi x)) μ'
abbrev X10_moreBy_at22 (d : Nat) (x6 : Int32) (x7 : Int32) (μ : Mem) (x : Int32) (μ' : Mem) : Prop := Ev (d + 1) yX10_moreBy cX10_moreBy 8 ((some .int)) 22 [some (vr 10 0 0), none, none, none, none, none, some (vi x6), some (vi x7)] [] μ (some (vi x)) μ'
abbrev X10_moreIn (d : Nat) (x1 : Int32) (μ : Mem) (x : Int32) (μ' : Mem) : Prop := Me d yX10_moreIn cX10_moreIn 4 ((some .int)) [vr 10 0 0, vi x1] μ (some (vi x)) μ'
abbrev X10_moreIn_at4 (d : Nat) (x1 : Int32) (x2 : Int32) (x3 : Int32) (μ : Mem) (x : Int32) (μ' : Mem) : Prop := Ev d yX10_moreIn cX10_moreIn 4 ((some .int)) 4 [some (vr 10 0 0), some (vi x1), some (vi x2), some (vi x3)] [] μ (some (vi x)) μ'
abbrev X10_must (d : Nat) (x1 : Int32) (μ : Mem) (μ' : Mem) : Prop := Me d yX10_must cX10_must 2 (none) [vr 10 0 0, vi x1] μ none μ'
abbrev X10_named (d : Nat)  (μ : Mem) (x : Int32) (μ' : Mem) : Prop := Me d yX10_named cX10_named 3 ((some .int)) [vr 10 0 0] μ (some (vi x)) μ'
abbrev X10_named_at12 (d : Nat) (x1 : Int32) (x2 : Int32) (μ : Mem) (x : Int32) (μ' : Mem) : Prop := Ev (d + 1) yX10_named cX10_named 3 ((some .int)) 12 [some (vr 10 0 0), some (vi x1), some (vi x2)] [] μ (some (vi x)) μ'
abbrev X10_needAll (d : Nat) (x1 : Int32) (μ : Mem) (x : Int32) (μ' : Mem) : Prop := Me d yX10_needAll cX10_needAll 2 ((some .int)) [vr 10 0 0, vi x1] μ (some (vi x)) μ'
abbrev X10_needOf (d : Nat) (x1 : Int32) (μ : Mem) (x : Int32) (μ' : Mem) : Prop := Me d yX10_needOf cX10_needOf 2 ((some .int)) [vr 10 0 0, vi x1] μ (some (vi x)) μ'
abbrev X10_nextPlace (d : Nat) (x1 : Int32) (x2 : Int32) (x3 : Int32) (μ : Mem) (x : Int32) (μ' : Mem) : Prop := Me d yX10_nextPlace cX10_nextPlace 5 ((some .int)) [vr 10 0 0, vi x1, vi x2, vi x3] μ (some (vi x)) μ'
abbrev X10_nextPlace_at3 (d : Nat) (x1 : Int32) (x3 : Int32) (x4 : Int32) (μ : Mem) (x : Int32) (μ' : Mem) : Prop := Ev (d + 1) yX10_nextPlace cX10_nextPlace 5 ((some .int)) 3 [some (vr 10 0 0), some (vi x1), none, some (vi x3), some (vi x4)] [] μ (some (vi x)) μ'
abbrev X10_now (d : Nat) (x1 : Int32) (x2 : Int32) (μ : Mem) (x : Int32) (μ' : Mem) : Prop := Me d yX10_now cX10_now 5 ((some .int)) [vr 10 0 0, vi x1, vi x2] μ (some (vi x)) μ'
abbrev X10_now_at19 (d : Nat) (x1 : Int32) (x2 : Int32) (x3 : Int32) (x4 : Int32) (μ : Mem) (x : Int32) (μ' : Mem) : Prop := Ev (d + 1) yX10_now cX10_now 5 ((some .int)) 19 [some (vr 10 0 0), some (vi x1), some (vi x2), some (vi x3), some (vi x4)] [] μ (some (vi x)) μ'
abbrev X10_offAll (d : Nat) (x1 : Int32) (μ : Mem) (x : Int32) (μ' : Mem) : Prop := Me d yX10_offAll cX10_offAll 7 ((some .int)) [vr 10 0 0, vi x1] μ (some (vi x)) μ'
abbrev X10_offAll_at21 (d : Nat) (x1 : Int32) (x2 : Int32) (x3 : Int32) (x4 : Int32) (x5 : Int32) (μ : Mem) (x : Int32) (μ' : Mem) : Prop := Ev (d + 1) yX10_offAll cX10_offAll 7 ((some .int)) 21 [some (vr 10 0 0), some (vi x1), some (vi x2), some (vi x3), some (vi x4), some (vi x5), none] [] μ (some (vi x)) μ'
abbrev X10_offBy (d : Nat) (x1 : Int32) (x2 : Int32) (x3 : Int32) (x4 : Int32) (μ : Mem) (x : Int32) (μ' : Mem) : Prop := Me d yX10_offBy cX10_offBy 6 ((some .int)) [vr 10 0 0, vi x1, vi x2, vi x3, vi x4] μ (some (vi x)) μ'
abbrev X10_order (d : Nat) (x1 : Int32) (x2 : Int32) (x3 : Int32) (x4 : Int32) (x5 : Int32) (μ : Mem) (x : Int32) (μ' : Mem) : Prop := Me d yX10_order cX10_order 6 ((some .boolean)) [vr 10 0 0, vi x1, vi x2, vi x3, vi x4, vi x5] μ (some (vi x)) μ'
abbrev X10_place (d : Nat)  (μ : Mem) (x : Int32) (μ' : Mem) : Prop := Me d yX10_place cX10_place 1 ((some .int)) [vr 10 0 0] μ (some (vi x)) μ'
abbrev X10_plain (d : Nat) (x1 : Int32) (μ : Mem) (μ' : Mem) : Prop := Me d yX10_plain cX10_plain 3 (none) [vr 10 0 0, vi x1] μ none μ'
abbrev X10_plain_at52 (d : Nat) (x1 : Int32) (x2 : Int32) (μ : Mem) (μ' : Mem) : Prop := Ev d yX10_plain cX10_plain 3 (none) 52 [some (vr 10 0 0), some (vi x1), some (vi x2)] [] μ none μ'
abbrev X10_put (d : Nat) (x1 : Int32) (μ : Mem) (μ' : Mem) : Prop := Me d yX10_put cX10_put 3 (none) [vr 10 0 0, vi x1] μ none μ'
abbrev X10_put_at3 (d : Nat) (x1 : Int32) (x2 : Int32) (μ : Mem) (μ' : Mem) : Prop := Ev d yX10_put cX10_put 3 (none) 3 [some (vr 10 0 0), some (vi x1), some (vi x2)] [] μ none μ'
abbrev X10_read (d : Nat)  (μ : Mem) (x : Int32) (μ' : Mem) : Prop := Me d yX10_read cX10_read 2 ((some .int)) [vr 10 0 0] μ (some (vi x)) μ'
abbrev X10_read_at10 (d : Nat) (x1 : Int32) (μ : Mem) (x : Int32) (μ' : Mem) : Prop := Ev (d + 1) yX10_read cX10_read 2 ((some .int)) 10 [some (vr 10 0 0), some (vi x1)] [] μ (some (vi x)) μ'
abbrev X10_read_at112 (d : Nat)  (μ : Mem) (x : Int32) (μ' : Mem) : Prop := Ev (d + 1) yX10_read cX10_read 2 ((some .int)) 112 [some (vr 10 0 0), none] [] μ (some (vi x)) μ'
abbrev X10_read_at158 (d : Nat)  (μ : Mem) (x : Int32) (μ' : Mem) : Prop := Ev (d + 1) yX10_read cX10_read 2 ((some .int)) 158 [some (vr 10 0 0), none] [] μ (some (vi x)) μ'
abbrev X10_read_at243 (d : Nat) (x1 : Int32) (μ : Mem) (x : Int32) (μ' : Mem) : Prop := Ev (d + 1) yX10_read cX10_read 2 ((some .int)) 243 [some (vr 10 0 0), some (vi x1)] [] μ (some (vi x)) μ'
abbrev X10_restore (d : Nat) (x1 : Int32) (μ : Mem) (x : Int32) (μ' : Mem) : Prop := Me d yX10_restore cX10_restore 3 ((some .boolean)) [vr 10 0 0, vi x1] μ (some (vi x)) μ'
abbrev X10_restore_at22 (d : Nat) (x1 : Int32) (x2 : Int32) (μ : Mem) (x : Int32) (μ' : Mem) : Prop := Ev (d + 1) yX10_restore cX10_restore 3 ((some .boolean)) 22 [some (vr 10 0 0), some (vi x1), some (vi x2)] [] μ (some (vi x)) μ'
abbrev X10_roomFor (d : Nat) (x1 : Int32) (x2 : Int32) (μ : Mem) (μ' : Mem) : Prop := Me d yX10_roomFor cX10_roomFor 3 (none) [vr 10 0 0, vi x1, vi x2] μ none μ'
abbrev X10_round (d : Nat) (x1 : Int32) (μ : Mem) (x : Int32) (μ' : Mem) : Prop := Me d yX10_round cX10_round 3 ((some .int)) [vr 10 0 0, vi x1] μ (some (vi x)) μ'
abbrev X10_round_at12 (d : Nat) (x1 : Int32) (x2 : Int32) (μ : Mem) (x : Int32) (μ' : Mem) : Prop := Ev (d + 1) yX10_round cX10_round 3 ((some .int)) 12 [some (vr 10 0 0), some (vi x1), some (vi x2)] [] μ (some (vi x)) μ'
abbrev X10_serve (d : Nat) (x1 : Int32) (x2 : Int32) (x3 : Int32) (μ : Mem) (x : Int32) (μ' : Mem) : Prop := Me d yX10_serve cX10_serve 5 ((some .int)) [vr 10 0 0, vi x1, vi x2, vi x3] μ (some (vi x)) μ'
abbrev X10_serve_at44 (d : Nat) (x1 : Int32) (x2 : Int32) (x3 : Int32) (x4 : Int32) (μ : Mem) (x : Int32) (μ' : Mem) : Prop := Ev (d + 1) yX10_serve cX10_serve 5 ((some .int)) 44 [some (vr 10 0 0), some (vi x1), some (vi x2), some (vi x3), some (vi x4)] [] μ (some (vi x)) μ'
abbrev X10_sign (d : Nat) (x1 : Int32) (x2 : Int32) (x3 : Int32) (μ : Mem) (x : Int32) (μ' : Mem) : Prop := Me d yX10_sign cX10_sign 5 ((some .int)) [vr 10 0 0, vi x1, vi x2, vi x3] μ (some (vi x)) μ'
abbrev X10_sign_at55 (d : Nat) (x1 : Int32) (x2 : Int32) (x4 : Int32) (μ : Mem) (x : Int32) (μ' : Mem) : Prop := Ev (d + 1) yX10_sign cX10_sign 5 ((some .int)) 55 [some (vr 10 0 0), some (vi x1), some (vi x2), none, some (vi x4)] [] μ (some (vi x)) μ'
abbrev X10_sign_at65 (d : Nat) (x1 : Int32) (x2 : Int32) (x4 : Int32) (μ : Mem) (x : Int32) (μ' : Mem) : Prop := Ev (d + 1) yX10_sign cX10_sign 5 ((some .int)) 65 [some (vr 10 0 0), some (vi x1), some (vi x2), none, some (vi x4)] [] μ (some (vi x)) μ'
abbrev X10_sign_at75 (d : Nat) (x1 : Int32) (x2 : Int32) (x4 : Int32) (μ : Mem) (x : Int32) (μ' : Mem) : Prop := Ev (d + 1) yX10_sign cX10_sign 5 ((some .int)) 75 [some (vr 10 0 0), some (vi x1), some (vi x2), none, some (vi x4)] [] μ (some (vi x)) μ'
abbrev X10_sign_at85 (d : Nat) (x1 : Int32) (x2 : Int32) (x4 : Int32) (μ : Mem) (x : Int32) (μ' : Mem) : Prop := Ev (d + 1) yX10_sign cX10_sign 5 ((some .int)) 85 [some (vr 10 0 0), some (vi x1), some (vi x2), none, some (vi x4)] [] μ (some (vi x)) μ'
abbrev X10_sixes (d : Nat) (x0 : Int32) (μ : Mem) (x : Int32) (μ' : Mem) : Prop := Me d yX10_sixes cX10_sixes 3 ((some .int)) [vi x0] μ (some (vi x)) μ'
abbrev X10_sixes_at4 (d : Nat) (x0 : Int32) (x1 : Int32) (x2 : Int32) (μ : Mem) (x : Int32) (μ' : Mem) : Prop := Ev d yX10_sixes cX10_sixes 3 ((some .int)) 4 [some (vi x0), some (vi x1), some (vi x2)] [] μ (some (vi x)) μ'
abbrev X10_stop (d : Nat) (x1 : Int32) (μ : Mem) (x : Int32) (μ' : Mem) : Prop := Me d yX10_stop cX10_stop 3 ((some .boolean)) [vr 10 0 0, vi x1] μ (some (vi x)) μ'
abbrev X10_stop_at29 (d : Nat) (x1 : Int32) (x2 : Int32) (μ : Mem) (x : Int32) (μ' : Mem) : Prop := Ev (d + 1) yX10_stop cX10_stop 3 ((some .boolean)) 29 [some (vr 10 0 0), some (vi x1), some (vi x2)] [] μ (some (vi x)) μ'
abbrev X10_suits (d : Nat) (x1 : Int32) (x2 : Int32) (x3 : Int32) (μ : Mem) (x : Int32) (μ' : Mem) : Prop := Me d yX10_suits cX10_suits 6 ((some .int)) [vr 10 0 0, vi x1, vi x2, vi x3] μ (some (vi x)) μ'
abbrev X10_suits_at37 (d : Nat) (x1 : Int32) (x2 : Int32) (x3 : Int32) (x4 : Int32) (x5 : Int32) (μ : Mem) (x : Int32) (μ' : Mem) : Prop := Ev (d + 1) yX10_suits cX10_suits 6 ((some .int)) 37 [some (vr 10 0 0), some (vi x1), some (vi x2), some (vi x3), some (vi x4), some (vi x5)] [] μ (some (vi x)) μ'
abbrev X10_sumNow (d : Nat) (x1 : Int32) (x2 : Int32) (μ : Mem) (x : Int32) (μ' : Mem) : Prop := Me d yX10_sumNow cX10_sumNow 5 ((some .int)) [vr 10 0 0, vi x1, vi x2] μ (some (vi x)) μ'
abbrev X10_sumNow_at5 (d : Nat) (x1 : Int32) (x2 : Int32) (x3 : Int32) (x4 : Int32) (μ : Mem) (x : Int32) (μ' : Mem) : Prop := Ev d yX10_sumNow cX10_sumNow 5 ((some .int)) 5 [some (vr 10 0 0), some (vi x1), some (vi x2), some (vi x3), some (vi x4)] [] μ (some (vi x)) μ'
abbrev X10_tell (d : Nat) (x1 : Int32) (x2 : Int32) (x3 : Int32) (μ : Mem) (x : Int32) (μ' : Mem) : Prop := Me d yX10_tell cX10_tell 4 ((some .int)) [vr 10 0 0, vi x1, vi x2, vi x3] μ (some (vi x)) μ'
abbrev X10_tellField (d : Nat)  (μ : Mem) (μ' : Mem) : Prop := Me d yX10_tellField cX10_tellField 3 (none) [vr 10 0 0] μ none μ'
abbrev X10_tellLaw (d : Nat) (x1 : Int32) (μ : Mem) (μ' : Mem) : Prop := Me d yX10_tellLaw cX10_tellLaw 4 (none) [vr 10 0 0, vi x1] μ none μ'
abbrev X10_tellLaw_at12 (d : Nat) (x1 : Int32) (x2 : Int32) (x3 : Int32) (μ : Mem) (μ' : Mem) : Prop := Ev (d + 1) yX10_tellLaw cX10_tellLaw 4 (none) 12 [some (vr 10 0 0), some (vi x1), some (vi x2), some (vi x3)] [] μ none μ'
abbrev X10_tellLoom (d : Nat)  (μ : Mem) (μ' : Mem) : Prop := Me d yX10_tellLoom cX10_tellLoom 3 (none) [vr 10 0 0] μ none μ'
abbrev X10_tellOne (d : Nat)  (μ : Mem) (μ' : Mem) : Prop := Me d yX10_tellOne cX10_tellOne 2 (none) [vr 10 0 0] μ none μ'
abbrev X10_tellOne_at285 (d : Nat)  (μ : Mem) (μ' : Mem) : Prop := Ev (d + 1) yX10_tellOne cX10_tellOne 2 (none) 285 [none, none] [] μ none μ'
abbrev X10_tellOne_at232 (d : Nat)  (μ : Mem) (μ' : Mem) : Prop := Ev (d + 1) yX10_tellOne cX10_tellOne 2 (none) 232 [some (vr 10 0 0), none] [] μ none μ'
abbrev X10_tellOne_at263 (d : Nat) (x1 : Int32) (μ : Mem) (μ' : Mem) : Prop := Ev (d + 1) yX10_tellOne cX10_tellOne 2 (none) 263 [some (vr 10 0 0), some (vi x1)] [] μ none μ'
abbrev X10_tellOne_at268 (d : Nat) (x1 : Int32) (μ : Mem) (μ' : Mem) : Prop := Ev (d + 1) yX10_tellOne cX10_tellOne 2 (none) 268 [some (vr 10 0 0), some (vi x1)] [] μ none μ'
abbrev X10_tellRow (d : Nat)  (μ : Mem) (μ' : Mem) : Prop := Me d yX10_tellRow cX10_tellRow 7 (none) [vr 10 0 0] μ none μ'
abbrev X10_tellRow_at30 (d : Nat) (x1 : Int32) (x2 : Int64) (x4 : Int32) (x5 : Int64) (μ : Mem) (μ' : Mem) : Prop := Ev (d + 1) yX10_tellRow cX10_tellRow 7 (none) 30 [some (vr 10 0 0), some (vi x1), some (vl x2), none, some (vi x4), some (vl x5), none] [] μ none μ'
abbrev X10_tellRow_at101 (d : Nat) (x1 : Int32) (x2 : Int64) (x5 : Int32) (μ : Mem) (μ' : Mem) : Prop := Ev (d + 1) yX10_tellRow cX10_tellRow 7 (none) 101 [some (vr 10 0 0), some (vi x1), some (vl x2), none, none, some (vi x5), none] [] μ none μ'
abbrev X10_term (d : Nat)  (μ : Mem) (μ' : Mem) : Prop := Me d yX10_term cX10_term 1 (none) [vr 10 0 0] μ none μ'
abbrev X10_termOf (d : Nat) (x1 : Int32) (x2 : Int32) (μ : Mem) (x : Int32) (μ' : Mem) : Prop := Me d yX10_termOf cX10_termOf 8 ((some .int)) [vr 10 0 0, vi x1, vi x2] μ (some (vi x)) μ'
abbrev X10_termOf_at5 (d : Nat) (x2 : Int32) (x3 : Int32) (x4 : Int32) (μ : Mem) (x : Int32) (μ' : Mem) : Prop := Ev d yX10_termOf cX10_termOf 8 ((some .int)) 5 [some (vr 10 0 0), none, some (vi x2), some (vi x3), some (vi x4), none, none, none] [] μ (some (vi x)) μ'
abbrev X10_then (d : Nat) (x1 : Int32) (x2 : Int32) (x3 : Int32) (μ : Mem) (x : Int32) (μ' : Mem) : Prop := Me d yX10_then cX10_then 4 ((some .int)) [vr 10 0 0, vi x1, vi x2, vi x3] μ (some (vi x)) μ'
abbrev X10_thread (d : Nat) (x1 : Int32) (x2 : Int32) (x3 : Int32) (μ : Mem) (x : Int32) (μ' : Mem) : Prop := Me d yX10_thread cX10_thread 4 ((some .int)) [vr 10 0 0, vi x1, vi x2, vi x3] μ (some (vi x)) μ'
abbrev X10_threadOf (d : Nat) (x1 : Int32) (x2 : Int32) (x3 : Int32) (μ : Mem) (x : Int32) (μ' : Mem) : Prop := Me d yX10_threadOf cX10_threadOf 4 ((some .int)) [vr 10 0 0, vi x1, vi x2, vi x3] μ (some (vi x)) μ'
abbrev X10_token (d : Nat) (x1 : Int32) (x2 : Int32) (x3 : Int32) (x4 : Int64) (μ : Mem) (μ' : Mem) : Prop := Me d yX10_token cX10_token 6 (none) [vr 10 0 0, vi x1, vi x2, vi x3, vl x4] μ none μ'
abbrev X10_turn (d : Nat) (x1 : Int32) (x2 : Int32) (μ : Mem) (x : Int32) (μ' : Mem) : Prop := Me d yX10_turn cX10_turn 3 ((some .int)) [vr 10 0 0, vi x1, vi x2] μ (some (vi x)) μ'
abbrev X10_undo (d : Nat)  (μ : Mem) (x : Int32) (μ' : Mem) : Prop := Me d yX10_undo cX10_undo 2 ((some .boolean)) [vr 10 0 0] μ (some (vi x)) μ'
abbrev X10_undo_at21 (d : Nat) (x1 : Int32) (μ : Mem) (x : Int32) (μ' : Mem) : Prop := Ev d yX10_undo cX10_undo 2 ((some .boolean)) 21 [some (vr 10 0 0), some (vi x1)] [] μ (some (vi x)) μ'
abbrev X10_unit (d : Nat)  (μ : Mem) (μ' : Mem) : Prop := Me d yX10_unit cX10_unit 1 (none) [vr 10 0 0] μ none μ'
abbrev X10_wetBy (d : Nat) (x1 : Int32) (x2 : Int32) (x3 : Int32) (x4 : Int32) (μ : Mem) (x : Int32) (μ' : Mem) : Prop := Me d yX10_wetBy cX10_wetBy 7 ((some .int)) [vr 10 0 0, vi x1, vi x2, vi x3, vi x4] μ (some (vi x)) μ'
abbrev X10_wettest (d : Nat) (x1 : Int32) (x2 : Int32) (μ : Mem) (x : Int32) (μ' : Mem) : Prop := Me d yX10_wettest cX10_wettest 5 ((some .int)) [vr 10 0 0, vi x1, vi x2] μ (some (vi x)) μ'
abbrev X10_wettest_at32 (d : Nat) (x2 : Int32) (x3 : Int32) (x4 : Int32) (μ : Mem) (x : Int32) (μ' : Mem) : Prop := Ev (d + 1) yX10_wettest cX10_wettest 5 ((some .int)) 32 [some (vr 10 0 0), none, some (vi x2), some (vi x3), some (vi x4)] [] μ (some (vi x)) μ'
abbrev X10_where (d : Nat) (x1 : Int32) (x2 : Int32) (x3 : Int32) (x4 : Int32) (μ : Mem) (x : Int32) (μ' : Mem) : Prop := Me d yX10_where cX10_where 5 ((some .int)) [vr 10 0 0, vi x1, vi x2, vi x3, vi x4] μ (some (vi x)) μ'
abbrev X10_word (d : Nat) (x0 : Int32) (x1 : Int32) (x2 : Int32) (x3 : Int32) (x4 : Int32) (x5 : Int32) (x6 : Int32) (μ : Mem) (x : Int64) (μ' : Mem) : Prop := Me d yX10_word cX10_word 7 ((some .long)) [vi x0, vi x1, vi x2, vi x3, vi x4, vi x5, vi x6] μ (some (vl x)) μ'
abbrev X10_worstAt (d : Nat) (x1 : Int32) (x2 : Int32) (x3 : Int32) (μ : Mem) (x : Int32) (μ' : Mem) : Prop := Me d yX10_worstAt cX10_worstAt 6 ((some .int)) [vr 10 0 0, vi x1, vi x2, vi x3] μ (some (vi x)) μ'
abbrev X10_worstAt_at3 (d : Nat) (x1 : Int32) (x2 : Int32) (x3 : Int32) (x4 : Int32) (μ : Mem) (x : Int32) (μ' : Mem) : Prop := Ev (d + 1) yX10_worstAt cX10_worstAt 6 ((some .int)) 3 [some (vr 10 0 0), some (vi x1), some (vi x2), some (vi x3), some (vi x4), none] [] μ (some (vi x)) μ'
abbrev X10_worstAt_at27 (d : Nat) (x1 : Int32) (x2 : Int32) (x3 : Int32) (x4 : Int32) (μ : Mem) (x : Int32) (μ' : Mem) : Prop := Ev (d + 1) yX10_worstAt cX10_worstAt 6 ((some .int)) 27 [some (vr 10 0 0), some (vi x1), some (vi x2), some (vi x3), some (vi x4), none] [] μ (some (vi x)) μ'
abbrev X10_worstAt_at75 (d : Nat) (x4 : Int32) (x5 : Int32) (μ : Mem) (x : Int32) (μ' : Mem) : Prop := Ev (d + 1) yX10_worstAt cX10_worstAt 6 ((some .int)) 75 [some (vr 10 0 0), none, none, none, some (vi x4), some (vi x5)] [] μ (some (vi x)) μ'
abbrev X10_wrong (d : Nat) (x1 : Int32) (x2 : Int32) (μ : Mem) (μ' : Mem) : Prop := Me d yX10_wrong cX10_wrong 4 (none) [vr 10 0 0, vi x1, vi x2] μ none μ'
abbrev X10_year (d : Nat) (x1 : Int32) (x2 : Int32) (μ : Mem) (x : Int32) (μ' : Mem) : Prop := Me d yX10_year cX10_year 5 ((some .int)) [vr 10 0 0, vi x1, vi x2] μ (some (vi x)) μ'
abbrev X10_year_at24 (d : Nat) (x1 : Int32) (x2 : Int32) (x3 : Int32) (x4 : Int32) (μ : Mem) (x : Int32) (μ' : Mem) : Prop := Ev (d + 1) yX10_year cX10_year 5 ((some .int)) 24 [some (vr 10 0 0), some (vi x1), some (vi x2), some (vi x3), some (vi x4)] [] μ (some (vi x)) μ'
set_option maxHeartbeats 4000000 in
set_option maxRecDepth 100000 in
theorem J0_length_8abf5_ok {d : Nat} {n0 : Nat} {a0 : Nat} {μ μ' : Mem} {x : Int32} (h : (∃ (y3 : Int32) (μ1 : Mem), J0_coder_7d493 d n0 a0 μ y3 μ1 ∧ (x = (nI (sln n0)) >>> (y3 &&& 31) ∧ μ' = μ1))) : J0_length_8abf5 (d + 1) n0 a0 μ x μ' := by
  refine Me_of [some (vr 20 n0 a0)] rfl (Nat.le_of_ble_eq_true rfl) (by decide) ?_
  refine Ev_aload_n dJ0_length_8abf5_0 rfl ?_
  refine Ev_getSV (ts8 132 rfl rfl) dJ0_length_8abf5_1 ?_
  refine Ev_slen dJ0_length_8abf5_4 ?_
  refine Ev_aload_n dJ0_length_8abf5_5 rfl ?_
  obtain ⟨y3, μ1, hM2, h⟩ := h
  refine Ev_callT [] mlJ0_335 rfl rfl (Nat.le_of_ble_eq_true rfl) dJ0_length_8abf5_6 hM2 ?_
  refine Ev_ishr dJ0_length_8abf5_9 ?_
  obtain ⟨rfl, rfl⟩ := h
  exact R_i rfl dJ0_length_8abf5_10 rfl
set_option maxHeartbeats 4000000 in
set_option maxRecDepth 100000 in
theorem J0_charAt_5068e_ok {d : Nat} {n0 : Nat} {a0 : Nat} {x1 : Int32} {μ μ' : Mem} {x : Int32} (h : (∃ (y3 : Int32) (μ1 : Mem), J0_isLatin1_aae02 d n0 a0 μ y3 μ1 ∧ ((y3 = 0 → False) ∧ (¬ y3 = 0 → (∃ (y6 : Int32) (μ4 : Mem), J1_charAt_3b067 d n0 (a0 + 1) x1 μ1 y6 μ4 ∧ (narrow .char (.int y6) = .int y6 ∧ x = y6 ∧ μ' = μ4)))))) : J0_charAt_5068e (d + 1) n0 a0 x1 μ x μ' := by
  refine Me_of [some (vr 20 n0 a0), some (vi x1)] rfl (Nat.le_of_ble_eq_true rfl) (by decide) ?_
  refine Ev_aload_n dJ0_charAt_5068e_0 rfl ?_
  obtain ⟨y3, μ1, hM2, h⟩ := h
  refine Ev_callT [] mlJ0_492 rfl rfl (Nat.le_of_ble_eq_true rfl) dJ0_charAt_5068e_1 hM2 ?_
  refine Ev_if_eq 16 dJ0_charAt_5068e_4 (by decide) (fun q => ?_) (fun q => ?_)
  · have h := h.1 q
    refine Ev_aload_n dJ0_charAt_5068e_16 rfl ?_
    refine Ev_getSV (ts8 132 rfl rfl) dJ0_charAt_5068e_17 ?_
    refine Ev_iload_n dJ0_charAt_5068e_20 rfl ?_
    exact h.elim
  · have h := h.2 q
    refine Ev_aload_n dJ0_charAt_5068e_7 rfl ?_
    refine Ev_getSV (ts8 132 rfl rfl) dJ0_charAt_5068e_8 ?_
    refine Ev_iload_n dJ0_charAt_5068e_11 rfl ?_
    obtain ⟨y6, μ4, hM5, h⟩ := h
    refine Ev_callS [_, _] mlJ0_495 rfl rfl (Nat.le_of_ble_eq_true rfl) dJ0_charAt_5068e_12 hM5 ?_
    obtain ⟨g, rfl, rfl⟩ := h
    exact R_i rfl dJ0_charAt_5068e_15 g
set_option maxHeartbeats 4000000 in
set_option maxRecDepth 100000 in
theorem J0_indexOf_0f7a4_ok {d : Nat} {n0 : Nat} {a0 : Nat} {x1 : Int32} {μ μ' : Mem} {x : Int32} (h : (∃ (y3 : Int32) (μ1 : Mem), J0_indexOf_7cf53 d n0 a0 x1 0 μ y3 μ1 ∧ (x = y3 ∧ μ' = μ1))) : J0_indexOf_0f7a4 (d + 1) n0 a0 x1 μ x μ' := by
  refine Me_of [some (vr 20 n0 a0), some (vi x1)] rfl (Nat.le_of_ble_eq_true rfl) (by decide) ?_
  refine Ev_aload_n dJ0_indexOf_0f7a4_0 rfl ?_
  refine Ev_iload_n dJ0_indexOf_0f7a4_1 rfl ?_
  refine Ev_iconst 0 dJ0_indexOf_0f7a4_2 (by decide) ?_
  obtain ⟨y3, μ1, hM2, h⟩ := h
  refine Ev_callT [_, _] mlJ0_633 rfl rfl (Nat.le_of_ble_eq_true rfl) dJ0_indexOf_0f7a4_3 hM2 ?_
  obtain ⟨rfl, rfl⟩ := h
  exact R_i rfl dJ0_indexOf_0f7a4_6 rfl
set_option maxHeartbeats 4000000 in
set_option maxRecDepth 100000 in
theorem J0_indexOf_7cf53_ok {d : Nat} {n0 : Nat} {a0 : Nat} {x1 : Int32} {x2 : Int32} {μ μ' : Mem} {x : Int32} (h : (∃ (y3 : Int32) (μ1 : Mem), J0_isLatin1_aae02 d n0 a0 μ y3 μ1 ∧ ((y3 = 0 → (∃ (y6 : Int32) (μ4 : Mem), J0_length_8abf5 d n0 a0 μ1 y6 μ4 ∧ False)) ∧ (¬ y3 = 0 → (∃ (y9 : Int32) (μ7 : Mem), J0_length_8abf5 d n0 a0 μ1 y9 μ7 ∧ (∃ (y12 : Int32) (μ10 : Mem), J1_indexOf_4cfef d n0 (a0 + 1) x1 x2 y9 μ7 y12 μ10 ∧ (x = y12 ∧ μ' = μ10))))))) : J0_indexOf_7cf53 (d + 1) n0 a0 x1 x2 μ x μ' := by
  refine Me_of [some (vr 20 n0 a0), some (vi x1), some (vi x2)] rfl (Nat.le_of_ble_eq_true rfl) (by decide) ?_
  refine Ev_aload_n dJ0_indexOf_7cf53_0 rfl ?_
  obtain ⟨y3, μ1, hM2, h⟩ := h
  refine Ev_callT [] mlJ0_492 rfl rfl (Nat.le_of_ble_eq_true rfl) dJ0_indexOf_7cf53_1 hM2 ?_
  refine Ev_if_eq 23 dJ0_indexOf_7cf53_4 (by decide) (fun q => ?_) (fun q => ?_)
  · have h := h.1 q
    refine Ev_aload_n dJ0_indexOf_7cf53_23 rfl ?_
    refine Ev_getSV (ts8 132 rfl rfl) dJ0_indexOf_7cf53_24 ?_
    refine Ev_iload_n dJ0_indexOf_7cf53_27 rfl ?_
    refine Ev_iload_n dJ0_indexOf_7cf53_28 rfl ?_
    refine Ev_aload_n dJ0_indexOf_7cf53_29 rfl ?_
    obtain ⟨y6, μ4, hM5, h⟩ := h
    refine Ev_callT [] mlJ0_505 rfl rfl (Nat.le_of_ble_eq_true rfl) dJ0_indexOf_7cf53_30 hM5 ?_
    exact h.elim
  · have h := h.2 q
    refine Ev_aload_n dJ0_indexOf_7cf53_7 rfl ?_
    refine Ev_getSV (ts8 132 rfl rfl) dJ0_indexOf_7cf53_8 ?_
    refine Ev_iload_n dJ0_indexOf_7cf53_11 rfl ?_
    refine Ev_iload_n dJ0_indexOf_7cf53_12 rfl ?_
    refine Ev_aload_n dJ0_indexOf_7cf53_13 rfl ?_
    obtain ⟨y9, μ7, hM8, h⟩ := h
    refine Ev_callT [] mlJ0_505 rfl rfl (Nat.le_of_ble_eq_true rfl) dJ0_indexOf_7cf53_14 hM8 ?_
    obtain ⟨y12, μ10, hM11, h⟩ := h
    refine Ev_callS [_, _, _, _] mlJ0_637 rfl rfl (Nat.le_of_ble_eq_true rfl) dJ0_indexOf_7cf53_17 hM11 ?_
    refine Ev_goto 36 dJ0_indexOf_7cf53_20 (by decide) ?_
    obtain ⟨rfl, rfl⟩ := h
    exact R_i rfl dJ0_indexOf_7cf53_36 rfl
set_option maxHeartbeats 4000000 in
set_option maxRecDepth 100000 in
theorem J0_coder_7d493_ok {d : Nat} {n0 : Nat} {a0 : Nat} {μ μ' : Mem} {x : Int32} (h : (((1 : Int32) = 0 → (x = 1 ∧ μ' = μ)) ∧ (¬ (1 : Int32) = 0 → (x = 0 ∧ μ' = μ)))) : J0_coder_7d493 d n0 a0 μ x μ' := by
  refine Me_of [some (vr 20 n0 a0)] rfl (Nat.le_of_ble_eq_true rfl) (by decide) ?_
  refine Ev_getCS (ts1 49 rfl rfl) dJ0_coder_7d493_0 ?_
  refine Ev_if_eq 13 dJ0_coder_7d493_3 (by decide) (fun q => ?_) (fun q => ?_)
  · have h := h.1 q
    refine Ev_iconst 1 dJ0_coder_7d493_13 (by decide) ?_
    obtain ⟨rfl, rfl⟩ := h
    exact R_i rfl dJ0_coder_7d493_14 rfl
  · have h := h.2 q
    refine Ev_aload_n dJ0_coder_7d493_6 rfl ?_
    refine Ev_getSC (ts8 133 rfl rfl) dJ0_coder_7d493_7 ?_
    refine Ev_goto 14 dJ0_coder_7d493_10 (by decide) ?_
    obtain ⟨rfl, rfl⟩ := h
    exact R_i rfl dJ0_coder_7d493_14 rfl
set_option maxHeartbeats 4000000 in
set_option maxRecDepth 100000 in
theorem J0_isLatin1_aae02_ok {d : Nat} {n0 : Nat} {a0 : Nat} {μ μ' : Mem} {x : Int32} (h : (((1 : Int32) = 0 → (x = 0 ∧ μ' = μ)) ∧ (¬ (1 : Int32) = 0 → (((0 : Int32) ≠ 0 → (x = 0 ∧ μ' = μ)) ∧ ((0 : Int32) = 0 → (x = 1 ∧ μ' = μ)))))) : J0_isLatin1_aae02 d n0 a0 μ x μ' := by
  refine Me_of [some (vr 20 n0 a0)] rfl (Nat.le_of_ble_eq_true rfl) (by decide) ?_
  refine Ev_getCS (ts1 49 rfl rfl) dJ0_isLatin1_aae02_0 ?_
  refine Ev_if_eq 17 dJ0_isLatin1_aae02_3 (by decide) (fun q => ?_) (fun q => ?_)
  · have h := h.1 q
    refine Ev_iconst 0 dJ0_isLatin1_aae02_17 (by decide) ?_
    obtain ⟨rfl, rfl⟩ := h
    exact R_i rfl dJ0_isLatin1_aae02_18 rfl
  · have h := h.2 q
    refine Ev_aload_n dJ0_isLatin1_aae02_6 rfl ?_
    refine Ev_getSC (ts8 133 rfl rfl) dJ0_isLatin1_aae02_7 ?_
    refine Ev_if_ne 17 dJ0_isLatin1_aae02_10 (by decide) (fun q => ?_) (fun q => ?_)
    · have h := h.1 q
      refine Ev_iconst 0 dJ0_isLatin1_aae02_17 (by decide) ?_
      obtain ⟨rfl, rfl⟩ := h
      exact R_i rfl dJ0_isLatin1_aae02_18 rfl
    · have h := h.2 q
      refine Ev_iconst 1 dJ0_isLatin1_aae02_13 (by decide) ?_
      refine Ev_goto 18 dJ0_isLatin1_aae02_14 (by decide) ?_
      obtain ⟨rfl, rfl⟩ := h
      exact R_i rfl dJ0_isLatin1_aae02_18 rfl
set_option maxHeartbeats 4000000 in
set_option maxRecDepth 100000 in
theorem J1_charAt_3b067_ok {d : Nat} {n0 : Nat} {a0 : Nat} {x1 : Int32} {μ μ' : Mem} {x : Int32} (h : (∃ (μ1 : Mem), J0_checkIndex_df160 d x1 (nI (sln n0)) μ μ1 ∧ vp_in x1 (sln n0) ∧ (narrow .char (.int ((((sby n0 x1.toNatClampNeg) &&& 255).toUInt32 % 65536).toInt32)) = .int ((((sby n0 x1.toNatClampNeg) &&& 255).toUInt32 % 65536).toInt32) ∧ x = (((sby n0 x1.toNatClampNeg) &&& 255).toUInt32 % 65536).toInt32 ∧ μ' = μ1))) : J1_charAt_3b067 (d + 1) n0 a0 x1 μ x μ' := by
  refine Me_of [some (vr 21 n0 a0), some (vi x1)] rfl (Nat.le_of_ble_eq_true rfl) (by decide) ?_
  refine Ev_iload_n dJ1_charAt_3b067_0 rfl ?_
  refine Ev_aload_n dJ1_charAt_3b067_1 rfl ?_
  refine Ev_slen dJ1_charAt_3b067_2 ?_
  obtain ⟨μ1, hM2, h⟩ := h
  refine Ev_callS [_, _] mlJ1_9 rfl rfl (Nat.le_of_ble_eq_true rfl) dJ1_charAt_3b067_3 hM2 ?_
  refine Ev_aload_n dJ1_charAt_3b067_6 rfl ?_
  refine Ev_iload_n dJ1_charAt_3b067_7 rfl ?_
  obtain ⟨g, h⟩ := h
  refine Ev_sbald g dJ1_charAt_3b067_8 ?_
  refine Ev_sipush 255 dJ1_charAt_3b067_9 (by decide) ?_
  refine Ev_iand dJ1_charAt_3b067_12 ?_
  refine Ev_i2c dJ1_charAt_3b067_13 ?_
  obtain ⟨g, rfl, rfl⟩ := h
  exact R_i rfl dJ1_charAt_3b067_14 g
set_option maxHeartbeats 4000000 in
set_option maxRecDepth 100000 in
theorem J1_canEncode_9a6ad_ok {d : Nat} {x0 : Int32} {μ μ' : Mem} {x : Int32} (h : ((x0 < 0 → (x = 0 ∧ μ' = μ)) ∧ (¬ x0 < 0 → ((255 < x0 → (x = 0 ∧ μ' = μ)) ∧ (¬ 255 < x0 → (x = 1 ∧ μ' = μ)))))) : J1_canEncode_9a6ad d x0 μ x μ' := by
  refine Me_of [some (vi x0)] rfl (Nat.le_of_ble_eq_true rfl) (by decide) ?_
  refine Ev_iload_n dJ1_canEncode_9a6ad_0 rfl ?_
  refine Ev_if_lt 15 dJ1_canEncode_9a6ad_1 (by decide) (fun q => ?_) (fun q => ?_)
  · have h := h.1 q
    refine Ev_iconst 0 dJ1_canEncode_9a6ad_15 (by decide) ?_
    obtain ⟨rfl, rfl⟩ := h
    exact R_i rfl dJ1_canEncode_9a6ad_16 rfl
  · have h := h.2 q
    refine Ev_iload_n dJ1_canEncode_9a6ad_4 rfl ?_
    refine Ev_sipush 255 dJ1_canEncode_9a6ad_5 (by decide) ?_
    refine Ev_icmp_gt 15 dJ1_canEncode_9a6ad_8 (by decide) (fun q => ?_) (fun q => ?_)
    · have h := h.1 q
      refine Ev_iconst 0 dJ1_canEncode_9a6ad_15 (by decide) ?_
      obtain ⟨rfl, rfl⟩ := h
      exact R_i rfl dJ1_canEncode_9a6ad_16 rfl
    · have h := h.2 q
      refine Ev_iconst 1 dJ1_canEncode_9a6ad_11 (by decide) ?_
      refine Ev_goto 16 dJ1_canEncode_9a6ad_12 (by decide) ?_
      obtain ⟨rfl, rfl⟩ := h
      exact R_i rfl dJ1_canEncode_9a6ad_16 rfl
set_option maxHeartbeats 4000000 in
set_option maxRecDepth 100000 in
theorem J1_indexOf_4cfef_ok {d : Nat} {n0 : Nat} {a0 : Nat} {x1 : Int32} {x2 : Int32} {x3 : Int32} {μ μ' : Mem} {x : Int32} (h : (∃ (y3 : Int32) (μ1 : Mem), J1_canEncode_9a6ad d x1 μ y3 μ1 ∧ ((y3 ≠ 0 → (((mx x2 0) < (mn x3 (nI (sln n0))) → (∃ (y6 : Int32) (μ4 : Mem), J1_indexOfChar_4cfef d n0 a0 x1 (mx x2 0) (mn x3 (nI (sln n0))) μ1 y6 μ4 ∧ (x = y6 ∧ μ' = μ4))) ∧ (¬ (mx x2 0) < (mn x3 (nI (sln n0))) → (x = (-1) ∧ μ' = μ1)))) ∧ (y3 = 0 → (x = (-1) ∧ μ' = μ1))))) : J1_indexOf_4cfef (d + 1) n0 a0 x1 x2 x3 μ x μ' := by
  refine Me_of [some (vr 21 n0 a0), some (vi x1), some (vi x2), some (vi x3)] rfl (Nat.le_of_ble_eq_true rfl) (by decide) ?_
  refine Ev_iload_n dJ1_indexOf_4cfef_0 rfl ?_
  obtain ⟨y3, μ1, hM2, h⟩ := h
  refine Ev_callS [_] mlJ1_88 rfl rfl (Nat.le_of_ble_eq_true rfl) dJ1_indexOf_4cfef_1 hM2 ?_
  refine Ev_if_ne 9 dJ1_indexOf_4cfef_4 (by decide) (fun q => ?_) (fun q => ?_)
  · have h := h.1 q
    refine Ev_iload_n dJ1_indexOf_4cfef_9 rfl ?_
    refine Ev_iconst 0 dJ1_indexOf_4cfef_10 (by decide) ?_
    refine Ev_mmax (ts3 90 rfl rfl) (ts3 91 rfl rfl) (ts1 17 rfl rfl) (ts3 92 rfl rfl) (Nat.le_of_ble_eq_true rfl) dJ1_indexOf_4cfef_11 ?_
    refine Ev_istore_n dJ1_indexOf_4cfef_14 (Nat.le_of_ble_eq_true rfl) (okp_of rfl) ?_
    refine Ev_iload_n dJ1_indexOf_4cfef_15 rfl ?_
    refine Ev_aload_n dJ1_indexOf_4cfef_16 rfl ?_
    refine Ev_slen dJ1_indexOf_4cfef_17 ?_
    refine Ev_mmin (ts3 93 rfl rfl) (ts3 47 rfl rfl) (ts1 17 rfl rfl) (ts3 48 rfl rfl) (Nat.le_of_ble_eq_true rfl) dJ1_indexOf_4cfef_18 ?_
    refine Ev_istore_n dJ1_indexOf_4cfef_21 (Nat.le_of_ble_eq_true rfl) (okp_of rfl) ?_
    refine Ev_iload_n dJ1_indexOf_4cfef_22 rfl ?_
    refine Ev_iload_n dJ1_indexOf_4cfef_23 rfl ?_
    refine Ev_icmp_lt 29 dJ1_indexOf_4cfef_24 (by decide) (fun q => ?_) (fun q => ?_)
    · have h := h.1 q
      refine Ev_aload_n dJ1_indexOf_4cfef_29 rfl ?_
      refine Ev_iload_n dJ1_indexOf_4cfef_30 rfl ?_
      refine Ev_iload_n dJ1_indexOf_4cfef_31 rfl ?_
      refine Ev_iload_n dJ1_indexOf_4cfef_32 rfl ?_
      obtain ⟨y6, μ4, hM5, h⟩ := h
      refine Ev_callS [_, _, _, _] mlJ1_95 rfl rfl (Nat.le_of_ble_eq_true rfl) dJ1_indexOf_4cfef_33 hM5 ?_
      obtain ⟨rfl, rfl⟩ := h
      exact R_i rfl dJ1_indexOf_4cfef_36 rfl
    · have h := h.2 q
      refine Ev_iconst (-1) dJ1_indexOf_4cfef_27 (by decide) ?_
      obtain ⟨rfl, rfl⟩ := h
      exact R_i rfl dJ1_indexOf_4cfef_28 rfl
  · have h := h.2 q
    refine Ev_iconst (-1) dJ1_indexOf_4cfef_7 (by decide) ?_
    obtain ⟨rfl, rfl⟩ := h
    exact R_i rfl dJ1_indexOf_4cfef_8 rfl
set_option maxHeartbeats 4000000 in
set_option maxRecDepth 100000 in
theorem J1_indexOfChar_4cfef_ok {d : Nat} {n0 : Nat} {a0 : Nat} {x1 : Int32} {x2 : Int32} {x3 : Int32} {μ μ' : Mem} {x : Int32} (h : J1_indexOfChar_4cfef_at7 d n0 a0 x3 x1.toInt8.toInt32 x2 μ x μ') : J1_indexOfChar_4cfef d n0 a0 x1 x2 x3 μ x μ' := by
  refine Me_of [some (vr 21 n0 a0), some (vi x1), some (vi x2), some (vi x3), none, none] rfl (Nat.le_of_ble_eq_true rfl) (by decide) ?_
  refine Ev_iload_n dJ1_indexOfChar_4cfef_0 rfl ?_
  refine Ev_i2b dJ1_indexOfChar_4cfef_1 ?_
  refine Ev_istore dJ1_indexOfChar_4cfef_2 (Nat.le_of_ble_eq_true rfl) (okp_of rfl) ?_
  refine Ev_iload_n dJ1_indexOfChar_4cfef_4 rfl ?_
  refine Ev_istore dJ1_indexOfChar_4cfef_5 (Nat.le_of_ble_eq_true rfl) (okp_of rfl) ?_
  refine Ev_weak ?_ h
  exact And.intro rfl (And.intro trivial (And.intro trivial (And.intro rfl (And.intro rfl (And.intro rfl (trivial))))))
set_option maxHeartbeats 4000000 in
set_option maxRecDepth 100000 in
theorem J1_indexOfChar_4cfef_at7_ok {d : Nat} {n0 : Nat} {a0 : Nat} {x3 : Int32} {x4 : Int32} {x5 : Int32} {μ μ' : Mem} {x : Int32} (h : ((x3 ≤ x5 → (x = (-1) ∧ μ' = μ)) ∧ (¬ x3 ≤ x5 → vp_in x5 (sln n0) ∧ (((sby n0 x5.toNatClampNeg) ≠ x4 → J1_indexOfChar_4cfef_at7 d n0 a0 x3 x4 (x5 + 1) μ x μ') ∧ ((sby n0 x5.toNatClampNeg) = x4 → (x = x5 ∧ μ' = μ)))))) : J1_indexOfChar_4cfef_at7 d n0 a0 x3 x4 x5 μ x μ' := by
  refine Ev_iload dJ1_indexOfChar_4cfef_7 rfl ?_
  refine Ev_iload_n dJ1_indexOfChar_4cfef_9 rfl ?_
  refine Ev_icmp_ge 31 dJ1_indexOfChar_4cfef_10 (by decide) (fun q => ?_) (fun q => ?_)
  · have h := h.1 q
    refine Ev_iconst (-1) dJ1_indexOfChar_4cfef_31 (by decide) ?_
    obtain ⟨rfl, rfl⟩ := h
    exact R_i rfl dJ1_indexOfChar_4cfef_32 rfl
  · have h := h.2 q
    refine Ev_aload_n dJ1_indexOfChar_4cfef_13 rfl ?_
    refine Ev_iload dJ1_indexOfChar_4cfef_14 rfl ?_
    obtain ⟨g, h⟩ := h
    refine Ev_sbald g dJ1_indexOfChar_4cfef_16 ?_
    refine Ev_iload dJ1_indexOfChar_4cfef_17 rfl ?_
    refine Ev_icmp_ne 25 dJ1_indexOfChar_4cfef_19 (by decide) (fun q => ?_) (fun q => ?_)
    · have h := h.1 q
      refine Ev_iinc (x5 + 1) dJ1_indexOfChar_4cfef_25 rfl rfl (okp_of rfl) ?_
      refine Ev_goto 7 dJ1_indexOfChar_4cfef_28 (by decide) ?_
      exact h
    · have h := h.2 q
      refine Ev_iload dJ1_indexOfChar_4cfef_22 rfl ?_
      obtain ⟨rfl, rfl⟩ := h
      exact R_i rfl dJ1_indexOfChar_4cfef_24 rfl
set_option maxHeartbeats 4000000 in
set_option maxRecDepth 100000 in
theorem J7_fill_53178_ok {d : Nat} {n0 : Nat} {a0 : Nat} {x1 : Int32} {μ μ' : Mem} (h : J7_fill_53178_at5 d n0 a0 x1 0 (nI n0) μ μ') : J7_fill_53178 d n0 a0 x1 μ μ' := by
  refine Me_of [some (vr 11 n0 a0), some (vi x1), none, none] rfl (Nat.le_of_ble_eq_true rfl) (by decide) ?_
  refine Ev_iconst 0 dJ7_fill_53178_0 (by decide) ?_
  refine Ev_istore_n dJ7_fill_53178_1 (Nat.le_of_ble_eq_true rfl) (okp_of rfl) ?_
  refine Ev_aload_n dJ7_fill_53178_2 rfl ?_
  refine Ev_alen (nI n0) (by decide) (by decide) rfl dJ7_fill_53178_3 ?_
  refine Ev_istore_n dJ7_fill_53178_4 (Nat.le_of_ble_eq_true rfl) (okp_of rfl) ?_
  exact h
set_option maxHeartbeats 4000000 in
set_option maxRecDepth 100000 in
theorem J7_fill_53178_at5_ok {d : Nat} {n0 : Nat} {a0 : Nat} {x1 : Int32} {x2 : Int32} {x3 : Int32} {μ μ' : Mem} (h : ((x3 ≤ x2 → μ' = μ) ∧ (¬ x3 ≤ x2 → vp_in x2 n0 ∧ (∀ μ1 : Mem, μ1 = sI μ a0 x2.toNatClampNeg x1 → J7_fill_53178_at5 d n0 a0 x1 (x2 + 1) x3 μ1 μ')))) : J7_fill_53178_at5 d n0 a0 x1 x2 x3 μ μ' := by
  refine Ev_iload_n dJ7_fill_53178_5 rfl ?_
  refine Ev_iload_n dJ7_fill_53178_6 rfl ?_
  refine Ev_icmp_ge 20 dJ7_fill_53178_7 (by decide) (fun q => ?_) (fun q => ?_)
  · have h := h.1 q
    subst h
    exact R_v rfl dJ7_fill_53178_20
  · have h := h.2 q
    refine Ev_aload_n dJ7_fill_53178_10 rfl ?_
    refine Ev_iload_n dJ7_fill_53178_11 rfl ?_
    refine Ev_iload_n dJ7_fill_53178_12 rfl ?_
    obtain ⟨g, h⟩ := h
    refine Ev_iast g dJ7_fill_53178_13 ?_
    have h := h _ rfl
    refine Ev_iinc (x2 + 1) dJ7_fill_53178_14 rfl rfl (okp_of rfl) ?_
    refine Ev_goto 5 dJ7_fill_53178_17 (by decide) ?_
    exact h
set_option maxHeartbeats 4000000 in
set_option maxRecDepth 100000 in
theorem X0_add_ok {d : Nat} {x1 : Int32} {μ μ' : Mem} {x : Int32} (h : (∃ (y3 : Int32) (μ1 : Mem), X9_isSize d (x1 / 10) (x1 - x1 / 10 * 10) μ y3 μ1 ∧ ((y3 = 0 → (x = 0 ∧ μ' = μ1)) ∧ (¬ y3 = 0 → (((μ1.1 203 4) < 4 → vp_in (μ1.1 203 4) 4 ∧ (∀ μ4 : Mem, μ4 = sI μ1 204 ((μ1.1 203 4).toNatClampNeg) (x1 / 10) → vp_in (μ4.1 203 4) 4 ∧ (∀ μ5 : Mem, μ5 = sI μ4 205 ((μ4.1 203 4).toNatClampNeg) (x1 - x1 / 10 * 10) → (∀ μ6 : Mem, μ6 = sI μ5 203 4 ((μ5.1 203 4) + 1) → (x = 1 ∧ μ' = μ6))))) ∧ (¬ (μ1.1 203 4) < 4 → (x = 0 ∧ μ' = μ1))))))) : X0_add (d + 1) x1 μ x μ' := by
  refine Me_of [some (vr 0 0 203), some (vi x1), none, none] rfl (Nat.le_of_ble_eq_true rfl) (by decide) ?_
  refine Ev_iload_n dX0_add_0 rfl ?_
  refine Ev_bipush 10 dX0_add_1 (by decide) ?_
  refine Ev_idiv dX0_add_3 (by decide) ?_
  refine Ev_istore_n dX0_add_4 (Nat.le_of_ble_eq_true rfl) (okp_of rfl) ?_
  refine Ev_iload_n dX0_add_5 rfl ?_
  refine Ev_bipush 10 dX0_add_6 (by decide) ?_
  refine Ev_irem dX0_add_8 (by decide) ?_
  refine Ev_istore_n dX0_add_9 (Nat.le_of_ble_eq_true rfl) (okp_of rfl) ?_
  refine Ev_iload_n dX0_add_10 rfl ?_
  refine Ev_iload_n dX0_add_11 rfl ?_
  obtain ⟨y3, μ1, hM2, h⟩ := h
  refine Ev_callN [_, _] ⟨mwX9_isSize.1, mwX9_isSize.2.1, mwX9_isSize.2.2, mdX9_isSize, by decide⟩ rfl rfl rfl (Nat.le_of_ble_eq_true rfl) dX0_add_12 hM2 ?_
  refine Ev_if_eq 26 dX0_add_15 (by decide) (fun q => ?_) (fun q => ?_)
  · have h := h.1 q
    refine Ev_iconst 0 dX0_add_26 (by decide) ?_
    obtain ⟨rfl, rfl⟩ := h
    exact R_i rfl dX0_add_27 rfl
  · have h := h.2 q
    refine Ev_aload_n dX0_add_18 rfl ?_
    refine Ev_getI flX0_24 rfl dX0_add_19 ?_
    refine Ev_iconst 4 dX0_add_22 (by decide) ?_
    refine Ev_icmp_lt 28 dX0_add_23 (by decide) (fun q => ?_) (fun q => ?_)
    · have h := h.1 q
      refine Ev_aload_n dX0_add_28 rfl ?_
      refine Ev_getF 11 4 1 flX0_9 rfl dX0_add_29 ?_
      refine Ev_aload_n dX0_add_32 rfl ?_
      refine Ev_getI flX0_24 rfl dX0_add_33 ?_
      refine Ev_iload_n dX0_add_36 rfl ?_
      obtain ⟨g, h⟩ := h
      refine Ev_iast g dX0_add_37 ?_
      have h := h _ rfl
      refine Ev_aload_n dX0_add_38 rfl ?_
      refine Ev_getF 11 4 2 flX0_13 rfl dX0_add_39 ?_
      refine Ev_aload_n dX0_add_42 rfl ?_
      refine Ev_getI flX0_24 rfl dX0_add_43 ?_
      refine Ev_iload_n dX0_add_46 rfl ?_
      obtain ⟨g, h⟩ := h
      refine Ev_iast g dX0_add_47 ?_
      have h := h _ rfl
      refine Ev_aload_n dX0_add_48 rfl ?_
      refine Ev_dup dX0_add_49 (fun _ z => by cases z) ?_
      refine Ev_getI flX0_24 rfl dX0_add_50 ?_
      refine Ev_iconst 1 dX0_add_53 (by decide) ?_
      refine Ev_iadd dX0_add_54 ?_
      refine Ev_putI .int flX0_24 fpX0_4 rfl rfl rfl dX0_add_55 ?_
      have h := h _ rfl
      refine Ev_iconst 1 dX0_add_58 (by decide) ?_
      obtain ⟨rfl, rfl⟩ := h
      exact R_i rfl dX0_add_59 rfl
    · have h := h.2 q
      refine Ev_iconst 0 dX0_add_26 (by decide) ?_
      obtain ⟨rfl, rfl⟩ := h
      exact R_i rfl dX0_add_27 rfl
set_option maxHeartbeats 4000000 in
set_option maxRecDepth 100000 in
theorem X0_clear_ok {d : Nat}  {μ μ' : Mem} (h : (∀ μ1 : Mem, μ1 = sI μ 203 4 0 → μ' = μ1)) : X0_clear d μ μ' := by
  refine Me_of [some (vr 0 0 203)] rfl (Nat.le_of_ble_eq_true rfl) (by decide) ?_
  refine Ev_aload_n dX0_clear_0 rfl ?_
  refine Ev_iconst 0 dX0_clear_1 (by decide) ?_
  refine Ev_putI .int flX0_24 fpX0_4 rfl rfl rfl dX0_clear_2 ?_
  have h := h _ rfl
  subst h
  exact R_v rfl dX0_clear_5
set_option maxHeartbeats 4000000 in
set_option maxRecDepth 100000 in
theorem X0_hasTwin_ok {d : Nat} {x1 : Int32} {x2 : Int32} {μ μ' : Mem} {x : Int32} (h : X0_hasTwin_at2 d x1 x2 0 μ x μ') : X0_hasTwin d x1 x2 μ x μ' := by
  refine Me_of [some (vr 0 0 203), some (vi x1), some (vi x2), none] rfl (Nat.le_of_ble_eq_true rfl) (by decide) ?_
  refine Ev_iconst 0 dX0_hasTwin_0 (by decide) ?_
  refine Ev_istore_n dX0_hasTwin_1 (Nat.le_of_ble_eq_true rfl) (okp_of rfl) ?_
  exact h
set_option maxHeartbeats 4000000 in
set_option maxRecDepth 100000 in
theorem X0_hasTwin_at2_ok {d : Nat} {x1 : Int32} {x2 : Int32} {x3 : Int32} {μ μ' : Mem} {x : Int32} (h : ((x1 ≤ x3 → (x = 0 ∧ μ' = μ)) ∧ (¬ x1 ≤ x3 → ((((x2 >>> (x3 &&& 31)) &&& 1) ≠ 0 → X0_hasTwin_at2 d x1 x2 (x3 + 1) μ x μ') ∧ (((x2 >>> (x3 &&& 31)) &&& 1) = 0 → vp_in x3 4 ∧ vp_in x1 4 ∧ (((μ.1 204 x3.toNatClampNeg) ≠ (μ.1 204 x1.toNatClampNeg) → X0_hasTwin_at2 d x1 x2 (x3 + 1) μ x μ') ∧ ((μ.1 204 x3.toNatClampNeg) = (μ.1 204 x1.toNatClampNeg) → vp_in x3 4 ∧ vp_in x1 4 ∧ (((μ.1 205 x3.toNatClampNeg) ≠ (μ.1 205 x1.toNatClampNeg) → X0_hasTwin_at2 d x1 x2 (x3 + 1) μ x μ') ∧ ((μ.1 205 x3.toNatClampNeg) = (μ.1 205 x1.toNatClampNeg) → (x = 1 ∧ μ' = μ)))))))))) : X0_hasTwin_at2 d x1 x2 x3 μ x μ' := by
  refine Ev_iload_n dX0_hasTwin_2 rfl ?_
  refine Ev_iload_n dX0_hasTwin_3 rfl ?_
  refine Ev_icmp_ge 53 dX0_hasTwin_4 (by decide) (fun q => ?_) (fun q => ?_)
  · have h := h.1 q
    refine Ev_iconst 0 dX0_hasTwin_53 (by decide) ?_
    obtain ⟨rfl, rfl⟩ := h
    exact R_i rfl dX0_hasTwin_54 rfl
  · have h := h.2 q
    refine Ev_iload_n dX0_hasTwin_7 rfl ?_
    refine Ev_iload_n dX0_hasTwin_8 rfl ?_
    refine Ev_ishr dX0_hasTwin_9 ?_
    refine Ev_iconst 1 dX0_hasTwin_10 (by decide) ?_
    refine Ev_iand dX0_hasTwin_11 ?_
    refine Ev_if_ne 47 dX0_hasTwin_12 (by decide) (fun q => ?_) (fun q => ?_)
    · have h := h.1 q
      refine Ev_iinc (x3 + 1) dX0_hasTwin_47 rfl rfl (okp_of rfl) ?_
      refine Ev_goto 2 dX0_hasTwin_50 (by decide) ?_
      exact h
    · have h := h.2 q
      refine Ev_aload_n dX0_hasTwin_15 rfl ?_
      refine Ev_getF 11 4 1 flX0_9 rfl dX0_hasTwin_16 ?_
      refine Ev_iload_n dX0_hasTwin_19 rfl ?_
      obtain ⟨g, h⟩ := h
      refine Ev_iald g dX0_hasTwin_20 ?_
      refine Ev_aload_n dX0_hasTwin_21 rfl ?_
      refine Ev_getF 11 4 1 flX0_9 rfl dX0_hasTwin_22 ?_
      refine Ev_iload_n dX0_hasTwin_25 rfl ?_
      obtain ⟨g, h⟩ := h
      refine Ev_iald g dX0_hasTwin_26 ?_
      refine Ev_icmp_ne 47 dX0_hasTwin_27 (by decide) (fun q => ?_) (fun q => ?_)
      · have h := h.1 q
        refine Ev_iinc (x3 + 1) dX0_hasTwin_47 rfl rfl (okp_of rfl) ?_
        refine Ev_goto 2 dX0_hasTwin_50 (by decide) ?_
        exact h
      · have h := h.2 q
        refine Ev_aload_n dX0_hasTwin_30 rfl ?_
        refine Ev_getF 11 4 2 flX0_13 rfl dX0_hasTwin_31 ?_
        refine Ev_iload_n dX0_hasTwin_34 rfl ?_
        obtain ⟨g, h⟩ := h
        refine Ev_iald g dX0_hasTwin_35 ?_
        refine Ev_aload_n dX0_hasTwin_36 rfl ?_
        refine Ev_getF 11 4 2 flX0_13 rfl dX0_hasTwin_37 ?_
        refine Ev_iload_n dX0_hasTwin_40 rfl ?_
        obtain ⟨g, h⟩ := h
        refine Ev_iald g dX0_hasTwin_41 ?_
        refine Ev_icmp_ne 47 dX0_hasTwin_42 (by decide) (fun q => ?_) (fun q => ?_)
        · have h := h.1 q
          refine Ev_iinc (x3 + 1) dX0_hasTwin_47 rfl rfl (okp_of rfl) ?_
          refine Ev_goto 2 dX0_hasTwin_50 (by decide) ?_
          exact h
        · have h := h.2 q
          refine Ev_iconst 1 dX0_hasTwin_45 (by decide) ?_
          obtain ⟨rfl, rfl⟩ := h
          exact R_i rfl dX0_hasTwin_46 rfl
set_option maxHeartbeats 4000000 in
set_option maxRecDepth 100000 in
theorem X0_lay_ok {d : Nat} {x1 : Int32} {x2 : Int32} {x3 : Int32} {μ μ' : Mem} {x : Int32} (h : vp_in x2 5 ∧ vp_in (x2 + 1) 5 ∧ (∀ μ1 : Mem, μ1 = sA μ (208 + 1 * (x2 + 1).toNatClampNeg) (va_cpy (μ.1 (208 + 1 * x2.toNatClampNeg)) (μ.1 (208 + 1 * (x2 + 1).toNatClampNeg)) 0 0 8) → X0_lay_at35 d x1 x3 (208 + 1 * x2.toNatClampNeg) (208 + 1 * (x2 + 1).toNatClampNeg) 0 x3 μ1 x μ')) : X0_lay d x1 x2 x3 μ x μ' := by
  refine Me_of [some (vr 0 0 203), some (vi x1), some (vi x2), some (vi x3), none, none, none, none] rfl (Nat.le_of_ble_eq_true rfl) (by decide) ?_
  refine Ev_aload_n dX0_lay_0 rfl ?_
  refine Ev_getF 17 5 4 flX0_21 rfl dX0_lay_1 ?_
  refine Ev_iload_n dX0_lay_4 rfl ?_
  obtain ⟨g, h⟩ := h
  refine Ev_aald 11 8 1 (by decide) (by decide) rfl g dX0_lay_5 ?_
  refine Ev_astore dX0_lay_6 (Nat.le_of_ble_eq_true rfl) (okp_of rfl) ?_
  refine Ev_aload_n dX0_lay_8 rfl ?_
  refine Ev_getF 17 5 4 flX0_21 rfl dX0_lay_9 ?_
  refine Ev_iload_n dX0_lay_12 rfl ?_
  refine Ev_iconst 1 dX0_lay_13 (by decide) ?_
  refine Ev_iadd dX0_lay_14 ?_
  obtain ⟨g, h⟩ := h
  refine Ev_aald 11 8 1 (by decide) (by decide) rfl g dX0_lay_15 ?_
  refine Ev_astore dX0_lay_16 (Nat.le_of_ble_eq_true rfl) (okp_of rfl) ?_
  refine Ev_aload dX0_lay_18 rfl ?_
  refine Ev_iconst 0 dX0_lay_20 (by decide) ?_
  refine Ev_aload dX0_lay_21 rfl ?_
  refine Ev_iconst 0 dX0_lay_23 (by decide) ?_
  refine Ev_bipush 8 dX0_lay_24 (by decide) ?_
  refine Ev_copy (t := 0) (n0 := 8) (n1 := 8) (ts5 50 rfl rfl) (ts4 121 rfl rfl) (ts4 120 rfl rfl) (ts1 19 rfl rfl) (by decide) (by decide) (by decide) (by decide) (by decide) (Nat.le_of_ble_eq_true rfl) dX0_lay_26 ?_
  have h := h _ rfl
  refine Ev_iconst 0 dX0_lay_29 (by decide) ?_
  refine Ev_istore dX0_lay_30 (Nat.le_of_ble_eq_true rfl) (okp_of rfl) ?_
  refine Ev_iload_n dX0_lay_32 rfl ?_
  refine Ev_istore dX0_lay_33 (Nat.le_of_ble_eq_true rfl) (okp_of rfl) ?_
  refine Ev_weak ?_ h
  exact And.intro rfl (And.intro rfl (And.intro trivial (And.intro rfl (And.intro rfl (And.intro rfl (And.intro rfl (And.intro rfl (trivial))))))))
set_option maxHeartbeats 4000000 in
set_option maxRecDepth 100000 in
theorem X0_lay_at35_ok {d : Nat} {x1 : Int32} {x3 : Int32} {a4 : Nat} {a5 : Nat} {x6 : Int32} {x7 : Int32} {μ μ' : Mem} {x : Int32} (h : vp_in x1 4 ∧ (((x3 + (μ.1 204 x1.toNatClampNeg)) ≤ x7 → vp_in x1 4 ∧ X0_lay_at87 d x1 x3 a5 (x6 + (μ.1 205 x1.toNatClampNeg)) x3 μ x μ') ∧ (¬ (x3 + (μ.1 204 x1.toNatClampNeg)) ≤ x7 → ((8 ≤ x7 → vp_in x1 4 ∧ X0_lay_at87 d x1 x3 a5 (x6 + (μ.1 205 x1.toNatClampNeg)) x3 μ x μ') ∧ (¬ 8 ≤ x7 → vp_in x7 8 ∧ X0_lay_at35 d x1 x3 a4 a5 (mx x6 (μ.1 a4 x7.toNatClampNeg)) (x7 + 1) μ x μ'))))) : X0_lay_at35 d x1 x3 a4 a5 x6 x7 μ x μ' := by
  refine Ev_iload dX0_lay_35 rfl ?_
  refine Ev_iload_n dX0_lay_37 rfl ?_
  refine Ev_aload_n dX0_lay_38 rfl ?_
  refine Ev_getF 11 4 1 flX0_9 rfl dX0_lay_39 ?_
  refine Ev_iload_n dX0_lay_42 rfl ?_
  obtain ⟨g, h⟩ := h
  refine Ev_iald g dX0_lay_43 ?_
  refine Ev_iadd dX0_lay_44 ?_
  refine Ev_icmp_ge 73 dX0_lay_45 (by decide) (fun q => ?_) (fun q => ?_)
  · have h := h.1 q
    refine Ev_iload dX0_lay_73 rfl ?_
    refine Ev_aload_n dX0_lay_75 rfl ?_
    refine Ev_getF 11 4 2 flX0_13 rfl dX0_lay_76 ?_
    refine Ev_iload_n dX0_lay_79 rfl ?_
    obtain ⟨g, h⟩ := h
    refine Ev_iald g dX0_lay_80 ?_
    refine Ev_iadd dX0_lay_81 ?_
    refine Ev_istore dX0_lay_82 (Nat.le_of_ble_eq_true rfl) (okp_of rfl) ?_
    refine Ev_iload_n dX0_lay_84 rfl ?_
    refine Ev_istore dX0_lay_85 (Nat.le_of_ble_eq_true rfl) (okp_of rfl) ?_
    refine Ev_weak ?_ h
    exact And.intro rfl (And.intro rfl (And.intro trivial (And.intro rfl (And.intro trivial (And.intro rfl (And.intro rfl (And.intro rfl (trivial))))))))
  · have h := h.2 q
    refine Ev_iload dX0_lay_48 rfl ?_
    refine Ev_bipush 8 dX0_lay_50 (by decide) ?_
    refine Ev_icmp_ge 73 dX0_lay_52 (by decide) (fun q => ?_) (fun q => ?_)
    · have h := h.1 q
      refine Ev_iload dX0_lay_73 rfl ?_
      refine Ev_aload_n dX0_lay_75 rfl ?_
      refine Ev_getF 11 4 2 flX0_13 rfl dX0_lay_76 ?_
      refine Ev_iload_n dX0_lay_79 rfl ?_
      obtain ⟨g, h⟩ := h
      refine Ev_iald g dX0_lay_80 ?_
      refine Ev_iadd dX0_lay_81 ?_
      refine Ev_istore dX0_lay_82 (Nat.le_of_ble_eq_true rfl) (okp_of rfl) ?_
      refine Ev_iload_n dX0_lay_84 rfl ?_
      refine Ev_istore dX0_lay_85 (Nat.le_of_ble_eq_true rfl) (okp_of rfl) ?_
      refine Ev_weak ?_ h
      exact And.intro rfl (And.intro rfl (And.intro trivial (And.intro rfl (And.intro trivial (And.intro rfl (And.intro rfl (And.intro rfl (trivial))))))))
    · have h := h.2 q
      refine Ev_iload dX0_lay_55 rfl ?_
      refine Ev_aload dX0_lay_57 rfl ?_
      refine Ev_iload dX0_lay_59 rfl ?_
      obtain ⟨g, h⟩ := h
      refine Ev_iald g dX0_lay_61 ?_
      refine Ev_mmax (ts5 27 rfl rfl) (ts3 91 rfl rfl) (ts1 17 rfl rfl) (ts3 92 rfl rfl) (Nat.le_of_ble_eq_true rfl) dX0_lay_62 ?_
      refine Ev_istore dX0_lay_65 (Nat.le_of_ble_eq_true rfl) (okp_of rfl) ?_
      refine Ev_iinc (x7 + 1) dX0_lay_67 rfl rfl (okp_of rfl) ?_
      refine Ev_goto 35 dX0_lay_70 (by decide) ?_
      exact h
set_option maxHeartbeats 4000000 in
set_option maxRecDepth 100000 in
theorem X0_lay_at87_ok {d : Nat} {x1 : Int32} {x3 : Int32} {a5 : Nat} {x6 : Int32} {x7 : Int32} {μ μ' : Mem} {x : Int32} (h : vp_in x1 4 ∧ (((x3 + (μ.1 204 x1.toNatClampNeg)) ≤ x7 → (x = x6 ∧ μ' = μ)) ∧ (¬ (x3 + (μ.1 204 x1.toNatClampNeg)) ≤ x7 → ((8 ≤ x7 → (x = x6 ∧ μ' = μ)) ∧ (¬ 8 ≤ x7 → vp_in x7 8 ∧ (∀ μ1 : Mem, μ1 = sI μ a5 x7.toNatClampNeg x6 → X0_lay_at87 d x1 x3 a5 x6 (x7 + 1) μ1 x μ')))))) : X0_lay_at87 d x1 x3 a5 x6 x7 μ x μ' := by
  refine Ev_iload dX0_lay_87 rfl ?_
  refine Ev_iload_n dX0_lay_89 rfl ?_
  refine Ev_aload_n dX0_lay_90 rfl ?_
  refine Ev_getF 11 4 1 flX0_9 rfl dX0_lay_91 ?_
  refine Ev_iload_n dX0_lay_94 rfl ?_
  obtain ⟨g, h⟩ := h
  refine Ev_iald g dX0_lay_95 ?_
  refine Ev_iadd dX0_lay_96 ?_
  refine Ev_icmp_ge 120 dX0_lay_97 (by decide) (fun q => ?_) (fun q => ?_)
  · have h := h.1 q
    refine Ev_iload dX0_lay_120 rfl ?_
    obtain ⟨rfl, rfl⟩ := h
    exact R_i rfl dX0_lay_122 rfl
  · have h := h.2 q
    refine Ev_iload dX0_lay_100 rfl ?_
    refine Ev_bipush 8 dX0_lay_102 (by decide) ?_
    refine Ev_icmp_ge 120 dX0_lay_104 (by decide) (fun q => ?_) (fun q => ?_)
    · have h := h.1 q
      refine Ev_iload dX0_lay_120 rfl ?_
      obtain ⟨rfl, rfl⟩ := h
      exact R_i rfl dX0_lay_122 rfl
    · have h := h.2 q
      refine Ev_aload dX0_lay_107 rfl ?_
      refine Ev_iload dX0_lay_109 rfl ?_
      refine Ev_iload dX0_lay_111 rfl ?_
      obtain ⟨g, h⟩ := h
      refine Ev_iast g dX0_lay_113 ?_
      have h := h _ rfl
      refine Ev_iinc (x7 + 1) dX0_lay_114 rfl rfl (okp_of rfl) ?_
      refine Ev_goto 87 dX0_lay_117 (by decide) ?_
      exact h
set_option maxHeartbeats 4000000 in
set_option maxRecDepth 100000 in
theorem X0_layEverywhere_ok {d : Nat} {x1 : Int32} {x2 : Int32} {x3 : Int32} {x4 : Int32} {μ μ' : Mem} (h : X0_layEverywhere_at3 d x1 x2 x3 x4 0 μ μ') : X0_layEverywhere (d + 1) x1 x2 x3 x4 μ μ' := by
  refine Me_of [some (vr 0 0 203), some (vi x1), some (vi x2), some (vi x3), some (vi x4), none, none, none] rfl (Nat.le_of_ble_eq_true rfl) (by decide) ?_
  refine Ev_iconst 0 dX0_layEverywhere_0 (by decide) ?_
  refine Ev_istore dX0_layEverywhere_1 (Nat.le_of_ble_eq_true rfl) (okp_of rfl) ?_
  exact h
set_option maxHeartbeats 4000000 in
set_option maxRecDepth 100000 in
theorem X0_layEverywhere_at3_ok {d : Nat} {x1 : Int32} {x2 : Int32} {x3 : Int32} {x4 : Int32} {x5 : Int32} {μ μ' : Mem} (h : vp_in x1 4 ∧ ((8 < (x5 + (μ.1 204 x1.toNatClampNeg)) → μ' = μ) ∧ (¬ 8 < (x5 + (μ.1 204 x1.toNatClampNeg)) → (((μ.1 203 5) ≤ (μ.1 203 6) → μ' = μ) ∧ (¬ (μ.1 203 5) ≤ (μ.1 203 6) → vp_in x1 4 ∧ (((((μ.1 206 x1.toNatClampNeg) >>> (x5 &&& 31)) &&& 1) = 0 → X0_layEverywhere_at3 d x1 x2 x3 x4 (x5 + 1) μ μ') ∧ (¬ (((μ.1 206 x1.toNatClampNeg) >>> (x5 &&& 31)) &&& 1) = 0 → (∃ (y3 : Int32) (μ1 : Mem), X0_lay d x1 x2 x5 μ y3 μ1 ∧ (((μ1.1 203 5) ≤ (mx x4 y3) → X0_layEverywhere_at3 d x1 x2 x3 x4 (x5 + 1) μ1 μ') ∧ (¬ (μ1.1 203 5) ≤ (mx x4 y3) → (∃ (μ4 : Mem), X0_layNext d (x2 + 1) (x3 ||| (1 <<< (x1 &&& 31))) (mx x4 y3) μ1 μ4 ∧ X0_layEverywhere_at3 d x1 x2 x3 x4 (x5 + 1) μ4 μ'))))))))))) : X0_layEverywhere_at3 d x1 x2 x3 x4 x5 μ μ' := by
  refine Ev_iload dX0_layEverywhere_3 rfl ?_
  refine Ev_aload_n dX0_layEverywhere_5 rfl ?_
  refine Ev_getF 11 4 1 flX0_9 rfl dX0_layEverywhere_6 ?_
  refine Ev_iload_n dX0_layEverywhere_9 rfl ?_
  obtain ⟨g, h⟩ := h
  refine Ev_iald g dX0_layEverywhere_10 ?_
  refine Ev_iadd dX0_layEverywhere_11 ?_
  refine Ev_bipush 8 dX0_layEverywhere_12 (by decide) ?_
  refine Ev_icmp_gt 90 dX0_layEverywhere_14 (by decide) (fun q => ?_) (fun q => ?_)
  · have h := h.1 q
    subst h
    exact R_v rfl dX0_layEverywhere_90
  · have h := h.2 q
    refine Ev_aload_n dX0_layEverywhere_17 rfl ?_
    refine Ev_getI flX0_28 rfl dX0_layEverywhere_18 ?_
    refine Ev_aload_n dX0_layEverywhere_21 rfl ?_
    refine Ev_getI flX0_31 rfl dX0_layEverywhere_22 ?_
    refine Ev_icmp_le 90 dX0_layEverywhere_25 (by decide) (fun q => ?_) (fun q => ?_)
    · have h := h.1 q
      subst h
      exact R_v rfl dX0_layEverywhere_90
    · have h := h.2 q
      refine Ev_aload_n dX0_layEverywhere_28 rfl ?_
      refine Ev_getF 11 4 3 flX0_16 rfl dX0_layEverywhere_29 ?_
      refine Ev_iload_n dX0_layEverywhere_32 rfl ?_
      obtain ⟨g, h⟩ := h
      refine Ev_iald g dX0_layEverywhere_33 ?_
      refine Ev_iload dX0_layEverywhere_34 rfl ?_
      refine Ev_ishr dX0_layEverywhere_36 ?_
      refine Ev_iconst 1 dX0_layEverywhere_37 (by decide) ?_
      refine Ev_iand dX0_layEverywhere_38 ?_
      refine Ev_if_eq 84 dX0_layEverywhere_39 (by decide) (fun q => ?_) (fun q => ?_)
      · have h := h.1 q
        refine Ev_iinc (x5 + 1) dX0_layEverywhere_84 rfl rfl (okp_of rfl) ?_
        refine Ev_goto 3 dX0_layEverywhere_87 (by decide) ?_
        exact h
      · have h := h.2 q
        refine Ev_aload_n dX0_layEverywhere_42 rfl ?_
        refine Ev_iload_n dX0_layEverywhere_43 rfl ?_
        refine Ev_iload_n dX0_layEverywhere_44 rfl ?_
        refine Ev_iload dX0_layEverywhere_45 rfl ?_
        obtain ⟨y3, μ1, hM2, h⟩ := h
        refine Ev_callV [_, _, _] mlX0_70 rfl rfl (Nat.le_of_ble_eq_true rfl) dX0_layEverywhere_47 hM2 ?_
        refine Ev_istore dX0_layEverywhere_50 (Nat.le_of_ble_eq_true rfl) (okp_of rfl) ?_
        refine Ev_iload dX0_layEverywhere_52 rfl ?_
        refine Ev_iload dX0_layEverywhere_54 rfl ?_
        refine Ev_mmax (ts5 27 rfl rfl) (ts3 91 rfl rfl) (ts1 17 rfl rfl) (ts3 92 rfl rfl) (Nat.le_of_ble_eq_true rfl) dX0_layEverywhere_56 ?_
        refine Ev_istore dX0_layEverywhere_59 (Nat.le_of_ble_eq_true rfl) (okp_of rfl) ?_
        refine Ev_iload dX0_layEverywhere_61 rfl ?_
        refine Ev_aload_n dX0_layEverywhere_63 rfl ?_
        refine Ev_getI flX0_28 rfl dX0_layEverywhere_64 ?_
        refine Ev_icmp_ge 84 dX0_layEverywhere_67 (by decide) (fun q => ?_) (fun q => ?_)
        · have h := h.1 q
          refine Ev_iinc (x5 + 1) dX0_layEverywhere_84 rfl rfl (okp_of rfl) ?_
          refine Ev_goto 3 dX0_layEverywhere_87 (by decide) ?_
          refine Ev_weak ?_ h
          exact And.intro rfl (And.intro rfl (And.intro rfl (And.intro rfl (And.intro rfl (And.intro rfl (And.intro trivial (And.intro trivial (trivial))))))))
        · have h := h.2 q
          refine Ev_aload_n dX0_layEverywhere_70 rfl ?_
          refine Ev_iload_n dX0_layEverywhere_71 rfl ?_
          refine Ev_iconst 1 dX0_layEverywhere_72 (by decide) ?_
          refine Ev_iadd dX0_layEverywhere_73 ?_
          refine Ev_iload_n dX0_layEverywhere_74 rfl ?_
          refine Ev_iconst 1 dX0_layEverywhere_75 (by decide) ?_
          refine Ev_iload_n dX0_layEverywhere_76 rfl ?_
          refine Ev_ishl dX0_layEverywhere_77 ?_
          refine Ev_ior dX0_layEverywhere_78 ?_
          refine Ev_iload dX0_layEverywhere_79 rfl ?_
          obtain ⟨μ4, hM5, h⟩ := h
          refine Ev_callV [_, _, _] mlX0_56 rfl rfl (Nat.le_of_ble_eq_true rfl) dX0_layEverywhere_81 hM5 ?_
          refine Ev_iinc (x5 + 1) dX0_layEverywhere_84 rfl rfl (okp_of rfl) ?_
          refine Ev_goto 3 dX0_layEverywhere_87 (by decide) ?_
          refine Ev_weak ?_ h
          exact And.intro rfl (And.intro rfl (And.intro rfl (And.intro rfl (And.intro rfl (And.intro rfl (And.intro trivial (And.intro trivial (trivial))))))))
set_option maxHeartbeats 4000000 in
set_option maxRecDepth 100000 in
theorem X0_layNext_ok {d : Nat} {x1 : Int32} {x2 : Int32} {x3 : Int32} {μ μ' : Mem} (h : ((x1 < (μ.1 203 4) → X0_layNext_at24 d x1 x2 x3 0 μ μ') ∧ (¬ x1 < (μ.1 203 4) → (∀ μ1 : Mem, μ1 = sI μ 203 5 (mn (μ.1 203 5) x3) → μ' = μ1)))) : X0_layNext (d + 1) x1 x2 x3 μ μ' := by
  refine Me_of [some (vr 0 0 203), some (vi x1), some (vi x2), some (vi x3), none] rfl (Nat.le_of_ble_eq_true rfl) (by decide) ?_
  refine Ev_iload_n dX0_layNext_0 rfl ?_
  refine Ev_aload_n dX0_layNext_1 rfl ?_
  refine Ev_getI flX0_24 rfl dX0_layNext_2 ?_
  refine Ev_icmp_lt 21 dX0_layNext_5 (by decide) (fun q => ?_) (fun q => ?_)
  · have h := h.1 q
    refine Ev_iconst 0 dX0_layNext_21 (by decide) ?_
    refine Ev_istore dX0_layNext_22 (Nat.le_of_ble_eq_true rfl) (okp_of rfl) ?_
    exact h
  · have h := h.2 q
    refine Ev_aload_n dX0_layNext_8 rfl ?_
    refine Ev_aload_n dX0_layNext_9 rfl ?_
    refine Ev_getI flX0_28 rfl dX0_layNext_10 ?_
    refine Ev_iload_n dX0_layNext_13 rfl ?_
    refine Ev_mmin (ts5 37 rfl rfl) (ts3 47 rfl rfl) (ts1 17 rfl rfl) (ts3 48 rfl rfl) (Nat.le_of_ble_eq_true rfl) dX0_layNext_14 ?_
    refine Ev_putI .int flX0_28 fpX0_5 rfl rfl rfl dX0_layNext_17 ?_
    have h := h _ rfl
    subst h
    exact R_v rfl dX0_layNext_20
set_option maxHeartbeats 4000000 in
set_option maxRecDepth 100000 in
theorem X0_layNext_at24_ok {d : Nat} {x1 : Int32} {x2 : Int32} {x3 : Int32} {x4 : Int32} {μ μ' : Mem} (h : (((μ.1 203 4) ≤ x4 → μ' = μ) ∧ (¬ (μ.1 203 4) ≤ x4 → (((μ.1 203 5) ≤ (μ.1 203 6) → μ' = μ) ∧ (¬ (μ.1 203 5) ≤ (μ.1 203 6) → ((((x2 >>> (x4 &&& 31)) &&& 1) ≠ 0 → X0_layNext_at24 d x1 x2 x3 (x4 + 1) μ μ') ∧ (((x2 >>> (x4 &&& 31)) &&& 1) = 0 → (∃ (y3 : Int32) (μ1 : Mem), X0_hasTwin d x4 x2 μ y3 μ1 ∧ ((y3 ≠ 0 → X0_layNext_at24 d x1 x2 x3 (x4 + 1) μ1 μ') ∧ (y3 = 0 → (∃ (μ4 : Mem), X0_layEverywhere d x4 x1 x2 x3 μ1 μ4 ∧ X0_layNext_at24 d x1 x2 x3 (x4 + 1) μ4 μ'))))))))))) : X0_layNext_at24 d x1 x2 x3 x4 μ μ' := by
  refine Ev_iload dX0_layNext_24 rfl ?_
  refine Ev_aload_n dX0_layNext_26 rfl ?_
  refine Ev_getI flX0_24 rfl dX0_layNext_27 ?_
  refine Ev_icmp_ge 78 dX0_layNext_30 (by decide) (fun q => ?_) (fun q => ?_)
  · have h := h.1 q
    subst h
    exact R_v rfl dX0_layNext_78
  · have h := h.2 q
    refine Ev_aload_n dX0_layNext_33 rfl ?_
    refine Ev_getI flX0_28 rfl dX0_layNext_34 ?_
    refine Ev_aload_n dX0_layNext_37 rfl ?_
    refine Ev_getI flX0_31 rfl dX0_layNext_38 ?_
    refine Ev_icmp_le 78 dX0_layNext_41 (by decide) (fun q => ?_) (fun q => ?_)
    · have h := h.1 q
      subst h
      exact R_v rfl dX0_layNext_78
    · have h := h.2 q
      refine Ev_iload_n dX0_layNext_44 rfl ?_
      refine Ev_iload dX0_layNext_45 rfl ?_
      refine Ev_ishr dX0_layNext_47 ?_
      refine Ev_iconst 1 dX0_layNext_48 (by decide) ?_
      refine Ev_iand dX0_layNext_49 ?_
      refine Ev_if_ne 72 dX0_layNext_50 (by decide) (fun q => ?_) (fun q => ?_)
      · have h := h.1 q
        refine Ev_iinc (x4 + 1) dX0_layNext_72 rfl rfl (okp_of rfl) ?_
        refine Ev_goto 24 dX0_layNext_75 (by decide) ?_
        exact h
      · have h := h.2 q
        refine Ev_aload_n dX0_layNext_53 rfl ?_
        refine Ev_iload dX0_layNext_54 rfl ?_
        refine Ev_iload_n dX0_layNext_56 rfl ?_
        obtain ⟨y3, μ1, hM2, h⟩ := h
        refine Ev_callV [_, _] mlX0_63 rfl rfl (Nat.le_of_ble_eq_true rfl) dX0_layNext_57 hM2 ?_
        refine Ev_if_ne 72 dX0_layNext_60 (by decide) (fun q => ?_) (fun q => ?_)
        · have h := h.1 q
          refine Ev_iinc (x4 + 1) dX0_layNext_72 rfl rfl (okp_of rfl) ?_
          refine Ev_goto 24 dX0_layNext_75 (by decide) ?_
          exact h
        · have h := h.2 q
          refine Ev_aload_n dX0_layNext_63 rfl ?_
          refine Ev_iload dX0_layNext_64 rfl ?_
          refine Ev_iload_n dX0_layNext_66 rfl ?_
          refine Ev_iload_n dX0_layNext_67 rfl ?_
          refine Ev_iload_n dX0_layNext_68 rfl ?_
          obtain ⟨μ4, hM5, h⟩ := h
          refine Ev_callV [_, _, _, _] mlX0_66 rfl rfl (Nat.le_of_ble_eq_true rfl) dX0_layNext_69 hM5 ?_
          refine Ev_iinc (x4 + 1) dX0_layNext_72 rfl rfl (okp_of rfl) ?_
          refine Ev_goto 24 dX0_layNext_75 (by decide) ?_
          exact h
set_option maxHeartbeats 4000000 in
set_option maxRecDepth 100000 in
theorem X0_leastLength_ok {d : Nat}  {μ μ' : Mem} {x : Int32} (h : (∀ μ1 : Mem, μ1 = sI μ 203 5 0 → (∀ μ2 : Mem, μ2 = sI μ1 203 6 0 → X0_leastLength_at14 d 0 0 μ2 x μ'))) : X0_leastLength (d + 1) μ x μ' := by
  refine Me_of [some (vr 0 0 203), none, none] rfl (Nat.le_of_ble_eq_true rfl) (by decide) ?_
  refine Ev_aload_n dX0_leastLength_0 rfl ?_
  refine Ev_iconst 0 dX0_leastLength_1 (by decide) ?_
  refine Ev_putI .int flX0_28 fpX0_5 rfl rfl rfl dX0_leastLength_2 ?_
  have h := h _ rfl
  refine Ev_aload_n dX0_leastLength_5 rfl ?_
  refine Ev_iconst 0 dX0_leastLength_6 (by decide) ?_
  refine Ev_putI .int flX0_31 fpX0_6 rfl rfl rfl dX0_leastLength_7 ?_
  have h := h _ rfl
  refine Ev_iconst 0 dX0_leastLength_10 (by decide) ?_
  refine Ev_istore_n dX0_leastLength_11 (Nat.le_of_ble_eq_true rfl) (okp_of rfl) ?_
  refine Ev_iconst 0 dX0_leastLength_12 (by decide) ?_
  refine Ev_istore_n dX0_leastLength_13 (Nat.le_of_ble_eq_true rfl) (okp_of rfl) ?_
  exact h
set_option maxHeartbeats 4000000 in
set_option maxRecDepth 100000 in
theorem X0_leastLength_at14_ok {d : Nat} {x1 : Int32} {x2 : Int32} {μ μ' : Mem} {x : Int32} (h : (((μ.1 203 4) ≤ x2 → (∀ μ1 : Mem, μ1 = sI μ 203 6 (mx (μ.1 203 6) (((x1 + 8) - 1) / 8)) → (∃ (μ2 : Mem), J7_fill_53178 d 8 208 0 μ1 μ2 ∧ (∃ (μ4 : Mem), X0_layNext d 0 0 0 μ2 μ4 ∧ (x = μ4.1 203 5 ∧ μ' = μ4))))) ∧ (¬ (μ.1 203 4) ≤ x2 → vp_in x2 4 ∧ (∀ μ6 : Mem, μ6 = sI μ 203 5 ((μ.1 203 5) + (μ.1 205 x2.toNatClampNeg)) → vp_in x2 4 ∧ (∀ μ7 : Mem, μ7 = sI μ6 203 6 (mx (μ6.1 203 6) (μ6.1 205 x2.toNatClampNeg)) → vp_in x2 4 ∧ vp_in x2 4 ∧ (∃ (y10 : Int32) (μ8 : Mem), X0_placesFor d x2 μ7 y10 μ8 ∧ vp_in x2 4 ∧ (∀ μ11 : Mem, μ11 = sI μ8 206 x2.toNatClampNeg y10 → X0_leastLength_at14 d (x1 + ((μ7.1 204 x2.toNatClampNeg) * (μ7.1 205 x2.toNatClampNeg))) (x2 + 1) μ11 x μ'))))))) : X0_leastLength_at14 d x1 x2 μ x μ' := by
  refine Ev_iload_n dX0_leastLength_14 rfl ?_
  refine Ev_aload_n dX0_leastLength_15 rfl ?_
  refine Ev_getI flX0_24 rfl dX0_leastLength_16 ?_
  refine Ev_icmp_ge 87 dX0_leastLength_19 (by decide) (fun q => ?_) (fun q => ?_)
  · have h := h.1 q
    refine Ev_aload_n dX0_leastLength_87 rfl ?_
    refine Ev_aload_n dX0_leastLength_88 rfl ?_
    refine Ev_getI flX0_31 rfl dX0_leastLength_89 ?_
    refine Ev_iload_n dX0_leastLength_92 rfl ?_
    refine Ev_bipush 8 dX0_leastLength_93 (by decide) ?_
    refine Ev_iadd dX0_leastLength_95 ?_
    refine Ev_iconst 1 dX0_leastLength_96 (by decide) ?_
    refine Ev_isub dX0_leastLength_97 ?_
    refine Ev_bipush 8 dX0_leastLength_98 (by decide) ?_
    refine Ev_idiv dX0_leastLength_100 (by decide) ?_
    refine Ev_mmax (ts5 27 rfl rfl) (ts3 91 rfl rfl) (ts1 17 rfl rfl) (ts3 92 rfl rfl) (Nat.le_of_ble_eq_true rfl) dX0_leastLength_101 ?_
    refine Ev_putI .int flX0_31 fpX0_6 rfl rfl rfl dX0_leastLength_104 ?_
    have h := h _ rfl
    refine Ev_aload_n dX0_leastLength_107 rfl ?_
    refine Ev_getF 17 5 4 flX0_21 rfl dX0_leastLength_108 ?_
    refine Ev_iconst 0 dX0_leastLength_111 (by decide) ?_
    refine Ev_aald 11 8 1 (by decide) (by decide) rfl (n := 5) (vp_lit (by decide)) dX0_leastLength_112 ?_
    refine Ev_iconst 0 dX0_leastLength_113 (by decide) ?_
    obtain ⟨μ2, hM3, h⟩ := h
    refine Ev_callS [_, _] mlX0_50 rfl rfl (Nat.le_of_ble_eq_true rfl) dX0_leastLength_114 hM3 ?_
    refine Ev_aload_n dX0_leastLength_117 rfl ?_
    refine Ev_iconst 0 dX0_leastLength_118 (by decide) ?_
    refine Ev_iconst 0 dX0_leastLength_119 (by decide) ?_
    refine Ev_iconst 0 dX0_leastLength_120 (by decide) ?_
    obtain ⟨μ4, hM5, h⟩ := h
    refine Ev_callV [_, _, _] mlX0_56 rfl rfl (Nat.le_of_ble_eq_true rfl) dX0_leastLength_121 hM5 ?_
    refine Ev_aload_n dX0_leastLength_124 rfl ?_
    refine Ev_getI flX0_28 rfl dX0_leastLength_125 ?_
    obtain ⟨rfl, rfl⟩ := h
    exact R_i rfl dX0_leastLength_128 rfl
  · have h := h.2 q
    refine Ev_aload_n dX0_leastLength_22 rfl ?_
    refine Ev_dup dX0_leastLength_23 (fun _ z => by cases z) ?_
    refine Ev_getI flX0_28 rfl dX0_leastLength_24 ?_
    refine Ev_aload_n dX0_leastLength_27 rfl ?_
    refine Ev_getF 11 4 2 flX0_13 rfl dX0_leastLength_28 ?_
    refine Ev_iload_n dX0_leastLength_31 rfl ?_
    obtain ⟨g, h⟩ := h
    refine Ev_iald g dX0_leastLength_32 ?_
    refine Ev_iadd dX0_leastLength_33 ?_
    refine Ev_putI .int flX0_28 fpX0_5 rfl rfl rfl dX0_leastLength_34 ?_
    have h := h _ rfl
    refine Ev_aload_n dX0_leastLength_37 rfl ?_
    refine Ev_aload_n dX0_leastLength_38 rfl ?_
    refine Ev_getI flX0_31 rfl dX0_leastLength_39 ?_
    refine Ev_aload_n dX0_leastLength_42 rfl ?_
    refine Ev_getF 11 4 2 flX0_13 rfl dX0_leastLength_43 ?_
    refine Ev_iload_n dX0_leastLength_46 rfl ?_
    obtain ⟨g, h⟩ := h
    refine Ev_iald g dX0_leastLength_47 ?_
    refine Ev_mmax (ts5 27 rfl rfl) (ts3 91 rfl rfl) (ts1 17 rfl rfl) (ts3 92 rfl rfl) (Nat.le_of_ble_eq_true rfl) dX0_leastLength_48 ?_
    refine Ev_putI .int flX0_31 fpX0_6 rfl rfl rfl dX0_leastLength_51 ?_
    have h := h _ rfl
    refine Ev_iload_n dX0_leastLength_54 rfl ?_
    refine Ev_aload_n dX0_leastLength_55 rfl ?_
    refine Ev_getF 11 4 1 flX0_9 rfl dX0_leastLength_56 ?_
    refine Ev_iload_n dX0_leastLength_59 rfl ?_
    obtain ⟨g, h⟩ := h
    refine Ev_iald g dX0_leastLength_60 ?_
    refine Ev_aload_n dX0_leastLength_61 rfl ?_
    refine Ev_getF 11 4 2 flX0_13 rfl dX0_leastLength_62 ?_
    refine Ev_iload_n dX0_leastLength_65 rfl ?_
    obtain ⟨g, h⟩ := h
    refine Ev_iald g dX0_leastLength_66 ?_
    refine Ev_imul dX0_leastLength_67 ?_
    refine Ev_iadd dX0_leastLength_68 ?_
    refine Ev_istore_n dX0_leastLength_69 (Nat.le_of_ble_eq_true rfl) (okp_of rfl) ?_
    refine Ev_aload_n dX0_leastLength_70 rfl ?_
    refine Ev_getF 11 4 3 flX0_16 rfl dX0_leastLength_71 ?_
    refine Ev_iload_n dX0_leastLength_74 rfl ?_
    refine Ev_aload_n dX0_leastLength_75 rfl ?_
    refine Ev_iload_n dX0_leastLength_76 rfl ?_
    obtain ⟨y10, μ8, hM9, h⟩ := h
    refine Ev_callV [_] mlX0_46 rfl rfl (Nat.le_of_ble_eq_true rfl) dX0_leastLength_77 hM9 ?_
    obtain ⟨g, h⟩ := h
    refine Ev_iast g dX0_leastLength_80 ?_
    have h := h _ rfl
    refine Ev_iinc (x2 + 1) dX0_leastLength_81 rfl rfl (okp_of rfl) ?_
    refine Ev_goto 14 dX0_leastLength_84 (by decide) ?_
    exact h
set_option maxHeartbeats 4000000 in
set_option maxRecDepth 100000 in
theorem X0_placesFor_ok {d : Nat} {x1 : Int32} {μ μ' : Mem} {x : Int32} (h : X0_placesFor_at4 d x1 1 0 μ x μ') : X0_placesFor d x1 μ x μ' := by
  refine Me_of [some (vr 0 0 203), some (vi x1), none, none] rfl (Nat.le_of_ble_eq_true rfl) (by decide) ?_
  refine Ev_iconst 1 dX0_placesFor_0 (by decide) ?_
  refine Ev_istore_n dX0_placesFor_1 (Nat.le_of_ble_eq_true rfl) (okp_of rfl) ?_
  refine Ev_iconst 0 dX0_placesFor_2 (by decide) ?_
  refine Ev_istore_n dX0_placesFor_3 (Nat.le_of_ble_eq_true rfl) (okp_of rfl) ?_
  exact h
set_option maxHeartbeats 4000000 in
set_option maxRecDepth 100000 in
theorem X0_placesFor_at4_ok {d : Nat} {x1 : Int32} {x2 : Int32} {x3 : Int32} {μ μ' : Mem} {x : Int32} (h : (((μ.1 203 4) ≤ x3 → vp_in x1 4 ∧ (x = x2 &&& ((1 <<< (((8 - (μ.1 204 x1.toNatClampNeg)) + 1) &&& 31)) - 1) ∧ μ' = μ)) ∧ (¬ (μ.1 203 4) ≤ x3 → ((x3 = x1 → X0_placesFor_at4 d x1 x2 (x3 + 1) μ x μ') ∧ (¬ x3 = x1 → vp_in x3 4 ∧ X0_placesFor_at4 d x1 (x2 ||| (x2 <<< ((μ.1 204 x3.toNatClampNeg) &&& 31))) (x3 + 1) μ x μ'))))) : X0_placesFor_at4 d x1 x2 x3 μ x μ' := by
  refine Ev_iload_n dX0_placesFor_4 rfl ?_
  refine Ev_aload_n dX0_placesFor_5 rfl ?_
  refine Ev_getI flX0_24 rfl dX0_placesFor_6 ?_
  refine Ev_icmp_ge 34 dX0_placesFor_9 (by decide) (fun q => ?_) (fun q => ?_)
  · have h := h.1 q
    refine Ev_iload_n dX0_placesFor_34 rfl ?_
    refine Ev_iconst 1 dX0_placesFor_35 (by decide) ?_
    refine Ev_bipush 8 dX0_placesFor_36 (by decide) ?_
    refine Ev_aload_n dX0_placesFor_38 rfl ?_
    refine Ev_getF 11 4 1 flX0_9 rfl dX0_placesFor_39 ?_
    refine Ev_iload_n dX0_placesFor_42 rfl ?_
    obtain ⟨g, h⟩ := h
    refine Ev_iald g dX0_placesFor_43 ?_
    refine Ev_isub dX0_placesFor_44 ?_
    refine Ev_iconst 1 dX0_placesFor_45 (by decide) ?_
    refine Ev_iadd dX0_placesFor_46 ?_
    refine Ev_ishl dX0_placesFor_47 ?_
    refine Ev_iconst 1 dX0_placesFor_48 (by decide) ?_
    refine Ev_isub dX0_placesFor_49 ?_
    refine Ev_iand dX0_placesFor_50 ?_
    obtain ⟨rfl, rfl⟩ := h
    exact R_i rfl dX0_placesFor_51 rfl
  · have h := h.2 q
    refine Ev_iload_n dX0_placesFor_12 rfl ?_
    refine Ev_iload_n dX0_placesFor_13 rfl ?_
    refine Ev_icmp_eq 28 dX0_placesFor_14 (by decide) (fun q => ?_) (fun q => ?_)
    · have h := h.1 q
      refine Ev_iinc (x3 + 1) dX0_placesFor_28 rfl rfl (okp_of rfl) ?_
      refine Ev_goto 4 dX0_placesFor_31 (by decide) ?_
      exact h
    · have h := h.2 q
      refine Ev_iload_n dX0_placesFor_17 rfl ?_
      refine Ev_iload_n dX0_placesFor_18 rfl ?_
      refine Ev_aload_n dX0_placesFor_19 rfl ?_
      refine Ev_getF 11 4 1 flX0_9 rfl dX0_placesFor_20 ?_
      refine Ev_iload_n dX0_placesFor_23 rfl ?_
      obtain ⟨g, h⟩ := h
      refine Ev_iald g dX0_placesFor_24 ?_
      refine Ev_ishl dX0_placesFor_25 ?_
      refine Ev_ior dX0_placesFor_26 ?_
      refine Ev_istore_n dX0_placesFor_27 (Nat.le_of_ble_eq_true rfl) (okp_of rfl) ?_
      refine Ev_iinc (x3 + 1) dX0_placesFor_28 rfl rfl (okp_of rfl) ?_
      refine Ev_goto 4 dX0_placesFor_31 (by decide) ?_
      exact h
set_option maxHeartbeats 4000000 in
set_option maxRecDepth 100000 in
theorem X1_aimHere_ok {d : Nat} {a : Nat} {x1 : Int32} {μ μ' : Mem} (h : ((x1 < 0 → μ' = μ) ∧ (¬ x1 < 0 → (((μ.1 a 3) ≤ x1 → μ' = μ) ∧ (¬ (μ.1 a 3) ≤ x1 → vp_in x1 512 ∧ (∀ μ1 : Mem, μ1 = sI μ (a + 1) x1.toNatClampNeg (μ.1 a 3) → μ' = μ1)))))) : X1_aimHere d a x1 μ μ' := by
  refine Me_of [some (vr 1 0 a), some (vi x1)] rfl (Nat.le_of_ble_eq_true rfl) (by decide) ?_
  refine Ev_iload_n dX1_aimHere_0 rfl ?_
  refine Ev_if_lt 22 dX1_aimHere_1 (by decide) (fun q => ?_) (fun q => ?_)
  · have h := h.1 q
    subst h
    exact R_v rfl dX1_aimHere_22
  · have h := h.2 q
    refine Ev_iload_n dX1_aimHere_4 rfl ?_
    refine Ev_aload_n dX1_aimHere_5 rfl ?_
    refine Ev_getI flX1_19 rfl dX1_aimHere_6 ?_
    refine Ev_icmp_ge 22 dX1_aimHere_9 (by decide) (fun q => ?_) (fun q => ?_)
    · have h := h.1 q
      subst h
      exact R_v rfl dX1_aimHere_22
    · have h := h.2 q
      refine Ev_aload_n dX1_aimHere_12 rfl ?_
      refine Ev_getF 11 512 1 flX1_7 rfl dX1_aimHere_13 ?_
      refine Ev_iload_n dX1_aimHere_16 rfl ?_
      refine Ev_aload_n dX1_aimHere_17 rfl ?_
      refine Ev_getI flX1_19 rfl dX1_aimHere_18 ?_
      obtain ⟨g, h⟩ := h
      refine Ev_iast g dX1_aimHere_21 ?_
      have h := h _ rfl
      subst h
      exact R_v rfl dX1_aimHere_22
set_option maxHeartbeats 4000000 in
set_option maxRecDepth 100000 in
theorem X1_answer_ok {d : Nat} {a : Nat} {μ μ' : Mem} {x : Int32} (h : X1_answer_at4 d a 0 0 μ x μ') : X1_answer (d + 1) a μ x μ' := by
  refine Me_of [some (vr 1 0 a), none, none, none, none, none] rfl (Nat.le_of_ble_eq_true rfl) (by decide) ?_
  refine Ev_iconst 0 dX1_answer_0 (by decide) ?_
  refine Ev_istore_n dX1_answer_1 (Nat.le_of_ble_eq_true rfl) (okp_of rfl) ?_
  refine Ev_iconst 0 dX1_answer_2 (by decide) ?_
  refine Ev_istore_n dX1_answer_3 (Nat.le_of_ble_eq_true rfl) (okp_of rfl) ?_
  exact h
set_option maxHeartbeats 4000000 in
set_option maxRecDepth 100000 in
theorem X1_answer_at4_ok {d : Nat} {a : Nat} {x1 : Int32} {x2 : Int32} {μ μ' : Mem} {x : Int32} (h : (((μ.1 a 3) ≤ x2 → (x = 0 ∧ μ' = μ)) ∧ (¬ (μ.1 a 3) ≤ x2 → vp_in x2 512 ∧ (((μ.1 (a + 1) x2.toNatClampNeg) < (-9) → (((μ.1 (a + 1) x2.toNatClampNeg) ≠ (-15) → ((x1 < 2 → (x = 0 ∧ μ' = μ)) ∧ (¬ x1 < 2 → (((x2 + 1) < (μ.1 a 3) → vp_in (x1 - 2) 32 ∧ vp_in (x1 - 1) 32 ∧ (((μ.1 (a + 1) x2.toNatClampNeg) ≠ (-14) → (((μ.1 (a + 1) x2.toNatClampNeg) ≠ (-13) → (∃ (y3 : Int32) (μ1 : Mem), X1_worked d (μ.1 (a + 1) x2.toNatClampNeg) (μ.1 (a + 2) ((x1 - 2).toNatClampNeg)) (μ.1 (a + 2) ((x1 - 1).toNatClampNeg)) μ y3 μ1 ∧ vp_in ((x1 + (-1)) - 1) 32 ∧ (∀ μ4 : Mem, μ4 = sI μ1 (a + 2) (((x1 + (-1)) - 1).toNatClampNeg) y3 → X1_answer_at4 d a (x1 + (-1)) (x2 + 1) μ4 x μ'))) ∧ ((μ.1 (a + 1) x2.toNatClampNeg) = (-13) → (((μ.1 (a + 2) ((x1 - 1).toNatClampNeg)) ≠ 0 → (∃ (y7 : Int32) (μ5 : Mem), X1_worked d (μ.1 (a + 1) x2.toNatClampNeg) (μ.1 (a + 2) ((x1 - 2).toNatClampNeg)) (μ.1 (a + 2) ((x1 - 1).toNatClampNeg)) μ y7 μ5 ∧ vp_in ((x1 + (-1)) - 1) 32 ∧ (∀ μ8 : Mem, μ8 = sI μ5 (a + 2) (((x1 + (-1)) - 1).toNatClampNeg) y7 → X1_answer_at4 d a (x1 + (-1)) (x2 + 1) μ8 x μ'))) ∧ ((μ.1 (a + 2) ((x1 - 1).toNatClampNeg)) = 0 → (x = 0 ∧ μ' = μ)))))) ∧ ((μ.1 (a + 1) x2.toNatClampNeg) = (-14) → (((μ.1 (a + 2) ((x1 - 2).toNatClampNeg)) < (μ.1 (a + 2) ((x1 - 1).toNatClampNeg)) → X1_answer_at4 d a (x1 + (-2)) ((x2 + 1) + 1) μ x μ') ∧ (¬ (μ.1 (a + 2) ((x1 - 2).toNatClampNeg)) < (μ.1 (a + 2) ((x1 - 1).toNatClampNeg)) → vp_in (x2 + 1) 512 ∧ (((μ.1 (a + 1) ((x2 + 1).toNatClampNeg)) ≤ (x2 + 2) → X1_answer_at4 d a (x1 + (-2)) ((x2 + 1) + 1) μ x μ') ∧ (¬ (μ.1 (a + 1) ((x2 + 1).toNatClampNeg)) ≤ (x2 + 2) → vp_in (x2 + 1) 512 ∧ X1_answer_at4 d a (x1 + (-2)) (((μ.1 (a + 1) ((x2 + 1).toNatClampNeg)) - 1) + 1) μ x μ'))))))) ∧ (¬ (x2 + 1) < (μ.1 a 3) → (x = 0 ∧ μ' = μ)))))) ∧ ((μ.1 (a + 1) x2.toNatClampNeg) = (-15) → ((x1 ≤ 0 → (x = 0 ∧ μ' = μ)) ∧ (¬ x1 ≤ 0 → vp_in (x1 - 1) 32 ∧ (x = μ.1 (a + 2) ((x1 - 1).toNatClampNeg) ∧ μ' = μ)))))) ∧ (¬ (μ.1 (a + 1) x2.toNatClampNeg) < (-9) → ((x1 < 32 → (((μ.1 (a + 1) x2.toNatClampNeg) < 0 → vp_in ((-1) - (μ.1 (a + 1) x2.toNatClampNeg)) 9 ∧ vp_in x1 32 ∧ (∀ μ9 : Mem, μ9 = sI μ (a + 2) x1.toNatClampNeg (μ.1 (a + 3) (((-1) - (μ.1 (a + 1) x2.toNatClampNeg)).toNatClampNeg)) → X1_answer_at4 d a (x1 + 1) (x2 + 1) μ9 x μ')) ∧ (¬ (μ.1 (a + 1) x2.toNatClampNeg) < 0 → vp_in x1 32 ∧ (∀ μ10 : Mem, μ10 = sI μ (a + 2) x1.toNatClampNeg (μ.1 (a + 1) x2.toNatClampNeg) → X1_answer_at4 d a (x1 + 1) (x2 + 1) μ10 x μ')))) ∧ (¬ x1 < 32 → (x = 0 ∧ μ' = μ)))))))) : X1_answer_at4 d a x1 x2 μ x μ' := by
  refine Ev_iload_n dX1_answer_4 rfl ?_
  refine Ev_aload_n dX1_answer_5 rfl ?_
  refine Ev_getI flX1_19 rfl dX1_answer_6 ?_
  refine Ev_icmp_ge 212 dX1_answer_9 (by decide) (fun q => ?_) (fun q => ?_)
  · have h := h.1 q
    refine Ev_iconst 0 dX1_answer_212 (by decide) ?_
    obtain ⟨rfl, rfl⟩ := h
    exact R_i rfl dX1_answer_213 rfl
  · have h := h.2 q
    refine Ev_aload_n dX1_answer_12 rfl ?_
    refine Ev_getF 11 512 1 flX1_7 rfl dX1_answer_13 ?_
    refine Ev_iload_n dX1_answer_16 rfl ?_
    obtain ⟨g, h⟩ := h
    refine Ev_iald g dX1_answer_17 ?_
    refine Ev_istore_n dX1_answer_18 (Nat.le_of_ble_eq_true rfl) (okp_of rfl) ?_
    refine Ev_iload_n dX1_answer_19 rfl ?_
    refine Ev_bipush (-9) dX1_answer_20 (by decide) ?_
    refine Ev_icmp_lt 64 dX1_answer_22 (by decide) (fun q => ?_) (fun q => ?_)
    · have h := h.1 q
      refine Ev_iload_n dX1_answer_64 rfl ?_
      refine Ev_bipush (-15) dX1_answer_65 (by decide) ?_
      refine Ev_icmp_ne 87 dX1_answer_67 (by decide) (fun q => ?_) (fun q => ?_)
      · have h := h.1 q
        refine Ev_iload_n dX1_answer_87 rfl ?_
        refine Ev_iconst 2 dX1_answer_88 (by decide) ?_
        refine Ev_icmp_lt 102 dX1_answer_89 (by decide) (fun q => ?_) (fun q => ?_)
        · have h := h.1 q
          refine Ev_iconst 0 dX1_answer_102 (by decide) ?_
          obtain ⟨rfl, rfl⟩ := h
          exact R_i rfl dX1_answer_103 rfl
        · have h := h.2 q
          refine Ev_iload_n dX1_answer_92 rfl ?_
          refine Ev_iconst 1 dX1_answer_93 (by decide) ?_
          refine Ev_iadd dX1_answer_94 ?_
          refine Ev_aload_n dX1_answer_95 rfl ?_
          refine Ev_getI flX1_19 rfl dX1_answer_96 ?_
          refine Ev_icmp_lt 104 dX1_answer_99 (by decide) (fun q => ?_) (fun q => ?_)
          · have h := h.1 q
            refine Ev_aload_n dX1_answer_104 rfl ?_
            refine Ev_getF 11 32 2 flX1_13 rfl dX1_answer_105 ?_
            refine Ev_iload_n dX1_answer_108 rfl ?_
            refine Ev_iconst 2 dX1_answer_109 (by decide) ?_
            refine Ev_isub dX1_answer_110 ?_
            obtain ⟨g, h⟩ := h
            refine Ev_iald g dX1_answer_111 ?_
            refine Ev_istore dX1_answer_112 (Nat.le_of_ble_eq_true rfl) (okp_of rfl) ?_
            refine Ev_aload_n dX1_answer_114 rfl ?_
            refine Ev_getF 11 32 2 flX1_13 rfl dX1_answer_115 ?_
            refine Ev_iload_n dX1_answer_118 rfl ?_
            refine Ev_iconst 1 dX1_answer_119 (by decide) ?_
            refine Ev_isub dX1_answer_120 ?_
            obtain ⟨g, h⟩ := h
            refine Ev_iald g dX1_answer_121 ?_
            refine Ev_istore dX1_answer_122 (Nat.le_of_ble_eq_true rfl) (okp_of rfl) ?_
            refine Ev_iload_n dX1_answer_124 rfl ?_
            refine Ev_bipush (-14) dX1_answer_125 (by decide) ?_
            refine Ev_icmp_ne 174 dX1_answer_127 (by decide) (fun q => ?_) (fun q => ?_)
            · have h := h.1 q
              refine Ev_iload_n dX1_answer_174 rfl ?_
              refine Ev_bipush (-13) dX1_answer_175 (by decide) ?_
              refine Ev_icmp_ne 187 dX1_answer_177 (by decide) (fun q => ?_) (fun q => ?_)
              · have h := h.1 q
                refine Ev_iinc (x1 + (-1)) dX1_answer_187 rfl rfl (okp_of rfl) ?_
                refine Ev_aload_n dX1_answer_190 rfl ?_
                refine Ev_getF 11 32 2 flX1_13 rfl dX1_answer_191 ?_
                refine Ev_iload_n dX1_answer_194 rfl ?_
                refine Ev_iconst 1 dX1_answer_195 (by decide) ?_
                refine Ev_isub dX1_answer_196 ?_
                refine Ev_iload_n dX1_answer_197 rfl ?_
                refine Ev_iload dX1_answer_198 rfl ?_
                refine Ev_iload dX1_answer_200 rfl ?_
                obtain ⟨y3, μ1, hM2, h⟩ := h
                refine Ev_callS [_, _, _] mlX1_30 rfl rfl (Nat.le_of_ble_eq_true rfl) dX1_answer_202 hM2 ?_
                obtain ⟨g, h⟩ := h
                refine Ev_iast g dX1_answer_205 ?_
                have h := h _ rfl
                refine Ev_iinc (x2 + 1) dX1_answer_206 rfl rfl (okp_of rfl) ?_
                refine Ev_goto 4 dX1_answer_209 (by decide) ?_
                refine Ev_weak ?_ h
                exact And.intro rfl (And.intro rfl (And.intro rfl (And.intro trivial (And.intro trivial (And.intro trivial (trivial))))))
              · have h := h.2 q
                refine Ev_iload dX1_answer_180 rfl ?_
                refine Ev_if_ne 187 dX1_answer_182 (by decide) (fun q => ?_) (fun q => ?_)
                · have h := h.1 q
                  refine Ev_iinc (x1 + (-1)) dX1_answer_187 rfl rfl (okp_of rfl) ?_
                  refine Ev_aload_n dX1_answer_190 rfl ?_
                  refine Ev_getF 11 32 2 flX1_13 rfl dX1_answer_191 ?_
                  refine Ev_iload_n dX1_answer_194 rfl ?_
                  refine Ev_iconst 1 dX1_answer_195 (by decide) ?_
                  refine Ev_isub dX1_answer_196 ?_
                  refine Ev_iload_n dX1_answer_197 rfl ?_
                  refine Ev_iload dX1_answer_198 rfl ?_
                  refine Ev_iload dX1_answer_200 rfl ?_
                  obtain ⟨y7, μ5, hM6, h⟩ := h
                  refine Ev_callS [_, _, _] mlX1_30 rfl rfl (Nat.le_of_ble_eq_true rfl) dX1_answer_202 hM6 ?_
                  obtain ⟨g, h⟩ := h
                  refine Ev_iast g dX1_answer_205 ?_
                  have h := h _ rfl
                  refine Ev_iinc (x2 + 1) dX1_answer_206 rfl rfl (okp_of rfl) ?_
                  refine Ev_goto 4 dX1_answer_209 (by decide) ?_
                  refine Ev_weak ?_ h
                  exact And.intro rfl (And.intro rfl (And.intro rfl (And.intro trivial (And.intro trivial (And.intro trivial (trivial))))))
                · have h := h.2 q
                  refine Ev_iconst 0 dX1_answer_185 (by decide) ?_
                  obtain ⟨rfl, rfl⟩ := h
                  exact R_i rfl dX1_answer_186 rfl
            · have h := h.2 q
              refine Ev_iinc (x1 + (-2)) dX1_answer_130 rfl rfl (okp_of rfl) ?_
              refine Ev_iload dX1_answer_133 rfl ?_
              refine Ev_iload dX1_answer_135 rfl ?_
              refine Ev_icmp_lt 167 dX1_answer_137 (by decide) (fun q => ?_) (fun q => ?_)
              · have h := h.1 q
                refine Ev_iload_n dX1_answer_167 rfl ?_
                refine Ev_iconst 1 dX1_answer_168 (by decide) ?_
                refine Ev_iadd dX1_answer_169 ?_
                refine Ev_istore_n dX1_answer_170 (Nat.le_of_ble_eq_true rfl) (okp_of rfl) ?_
                refine Ev_goto 206 dX1_answer_171 (by decide) ?_
                refine Ev_iinc ((x2 + 1) + 1) dX1_answer_206 rfl rfl (okp_of rfl) ?_
                refine Ev_goto 4 dX1_answer_209 (by decide) ?_
                refine Ev_weak ?_ h
                exact And.intro rfl (And.intro rfl (And.intro rfl (And.intro trivial (And.intro trivial (And.intro trivial (trivial))))))
              · have h := h.2 q
                refine Ev_aload_n dX1_answer_140 rfl ?_
                refine Ev_getF 11 512 1 flX1_7 rfl dX1_answer_141 ?_
                refine Ev_iload_n dX1_answer_144 rfl ?_
                refine Ev_iconst 1 dX1_answer_145 (by decide) ?_
                refine Ev_iadd dX1_answer_146 ?_
                obtain ⟨g, h⟩ := h
                refine Ev_iald g dX1_answer_147 ?_
                refine Ev_iload_n dX1_answer_148 rfl ?_
                refine Ev_iconst 2 dX1_answer_149 (by decide) ?_
                refine Ev_iadd dX1_answer_150 ?_
                refine Ev_icmp_le 167 dX1_answer_151 (by decide) (fun q => ?_) (fun q => ?_)
                · have h := h.1 q
                  refine Ev_iload_n dX1_answer_167 rfl ?_
                  refine Ev_iconst 1 dX1_answer_168 (by decide) ?_
                  refine Ev_iadd dX1_answer_169 ?_
                  refine Ev_istore_n dX1_answer_170 (Nat.le_of_ble_eq_true rfl) (okp_of rfl) ?_
                  refine Ev_goto 206 dX1_answer_171 (by decide) ?_
                  refine Ev_iinc ((x2 + 1) + 1) dX1_answer_206 rfl rfl (okp_of rfl) ?_
                  refine Ev_goto 4 dX1_answer_209 (by decide) ?_
                  refine Ev_weak ?_ h
                  exact And.intro rfl (And.intro rfl (And.intro rfl (And.intro trivial (And.intro trivial (And.intro trivial (trivial))))))
                · have h := h.2 q
                  refine Ev_aload_n dX1_answer_154 rfl ?_
                  refine Ev_getF 11 512 1 flX1_7 rfl dX1_answer_155 ?_
                  refine Ev_iload_n dX1_answer_158 rfl ?_
                  refine Ev_iconst 1 dX1_answer_159 (by decide) ?_
                  refine Ev_iadd dX1_answer_160 ?_
                  obtain ⟨g, h⟩ := h
                  refine Ev_iald g dX1_answer_161 ?_
                  refine Ev_iconst 1 dX1_answer_162 (by decide) ?_
                  refine Ev_isub dX1_answer_163 ?_
                  refine Ev_goto 170 dX1_answer_164 (by decide) ?_
                  refine Ev_istore_n dX1_answer_170 (Nat.le_of_ble_eq_true rfl) (okp_of rfl) ?_
                  refine Ev_goto 206 dX1_answer_171 (by decide) ?_
                  refine Ev_iinc _ dX1_answer_206 rfl rfl (okp_of rfl) ?_
                  refine Ev_goto 4 dX1_answer_209 (by decide) ?_
                  refine Ev_weak ?_ h
                  exact And.intro rfl (And.intro rfl (And.intro rfl (And.intro trivial (And.intro trivial (And.intro trivial (trivial))))))
          · have h := h.2 q
            refine Ev_iconst 0 dX1_answer_102 (by decide) ?_
            obtain ⟨rfl, rfl⟩ := h
            exact R_i rfl dX1_answer_103 rfl
      · have h := h.2 q
        refine Ev_iload_n dX1_answer_70 rfl ?_
        refine Ev_if_le 85 dX1_answer_71 (by decide) (fun q => ?_) (fun q => ?_)
        · have h := h.1 q
          refine Ev_iconst 0 dX1_answer_85 (by decide) ?_
          obtain ⟨rfl, rfl⟩ := h
          exact R_i rfl dX1_answer_86 rfl
        · have h := h.2 q
          refine Ev_aload_n dX1_answer_74 rfl ?_
          refine Ev_getF 11 32 2 flX1_13 rfl dX1_answer_75 ?_
          refine Ev_iload_n dX1_answer_78 rfl ?_
          refine Ev_iconst 1 dX1_answer_79 (by decide) ?_
          refine Ev_isub dX1_answer_80 ?_
          obtain ⟨g, h⟩ := h
          refine Ev_iald g dX1_answer_81 ?_
          refine Ev_goto 86 dX1_answer_82 (by decide) ?_
          obtain ⟨rfl, rfl⟩ := h
          exact R_i rfl dX1_answer_86 rfl
    · have h := h.2 q
      refine Ev_iload_n dX1_answer_25 rfl ?_
      refine Ev_aload_n dX1_answer_26 rfl ?_
      refine Ev_getF 11 32 2 flX1_13 rfl dX1_answer_27 ?_
      refine Ev_alen (32) (by decide) (by decide) (by decide) dX1_answer_30 ?_
      refine Ev_icmp_lt 36 dX1_answer_31 (by decide) (fun q => ?_) (fun q => ?_)
      · have h := h.1 q
        refine Ev_aload_n dX1_answer_36 rfl ?_
        refine Ev_getF 11 32 2 flX1_13 rfl dX1_answer_37 ?_
        refine Ev_iload_n dX1_answer_40 rfl ?_
        refine Ev_iload_n dX1_answer_41 rfl ?_
        refine Ev_if_lt 49 dX1_answer_42 (by decide) (fun q => ?_) (fun q => ?_)
        · have h := h.1 q
          refine Ev_aload_n dX1_answer_49 rfl ?_
          refine Ev_getF 11 9 3 flX1_16 rfl dX1_answer_50 ?_
          refine Ev_iconst (-1) dX1_answer_53 (by decide) ?_
          refine Ev_iload_n dX1_answer_54 rfl ?_
          refine Ev_isub dX1_answer_55 ?_
          obtain ⟨g, h⟩ := h
          refine Ev_iald g dX1_answer_56 ?_
          obtain ⟨g, h⟩ := h
          refine Ev_iast g dX1_answer_57 ?_
          have h := h _ rfl
          refine Ev_iinc (x1 + 1) dX1_answer_58 rfl rfl (okp_of rfl) ?_
          refine Ev_goto 206 dX1_answer_61 (by decide) ?_
          refine Ev_iinc (x2 + 1) dX1_answer_206 rfl rfl (okp_of rfl) ?_
          refine Ev_goto 4 dX1_answer_209 (by decide) ?_
          refine Ev_weak ?_ h
          exact And.intro rfl (And.intro rfl (And.intro rfl (And.intro trivial (And.intro trivial (And.intro trivial (trivial))))))
        · have h := h.2 q
          refine Ev_iload_n dX1_answer_45 rfl ?_
          refine Ev_goto 57 dX1_answer_46 (by decide) ?_
          obtain ⟨g, h⟩ := h
          refine Ev_iast g dX1_answer_57 ?_
          have h := h _ rfl
          refine Ev_iinc (x1 + 1) dX1_answer_58 rfl rfl (okp_of rfl) ?_
          refine Ev_goto 206 dX1_answer_61 (by decide) ?_
          refine Ev_iinc (x2 + 1) dX1_answer_206 rfl rfl (okp_of rfl) ?_
          refine Ev_goto 4 dX1_answer_209 (by decide) ?_
          refine Ev_weak ?_ h
          exact And.intro rfl (And.intro rfl (And.intro rfl (And.intro trivial (And.intro trivial (And.intro trivial (trivial))))))
      · have h := h.2 q
        refine Ev_iconst 0 dX1_answer_34 (by decide) ?_
        obtain ⟨rfl, rfl⟩ := h
        exact R_i rfl dX1_answer_35 rfl
set_option maxHeartbeats 4000000 in
set_option maxRecDepth 100000 in
theorem X1_clear_ok {d : Nat} {a : Nat} {μ μ' : Mem} (h : (∀ μ1 : Mem, μ1 = sI μ a 3 0 → μ' = μ1)) : X1_clear d a μ μ' := by
  refine Me_of [some (vr 1 0 a)] rfl (Nat.le_of_ble_eq_true rfl) (by decide) ?_
  refine Ev_aload_n dX1_clear_0 rfl ?_
  refine Ev_iconst 0 dX1_clear_1 (by decide) ?_
  refine Ev_putI .int flX1_19 fpX1_3 rfl rfl rfl dX1_clear_2 ?_
  have h := h _ rfl
  subst h
  exact R_v rfl dX1_clear_5
set_option maxHeartbeats 4000000 in
set_option maxRecDepth 100000 in
theorem X1_put_ok {d : Nat} {a : Nat} {x1 : Int32} {μ μ' : Mem} (h : ((512 ≤ (μ.1 a 3) → μ' = μ) ∧ (¬ 512 ≤ (μ.1 a 3) → vp_in (μ.1 a 3) 512 ∧ (∀ μ1 : Mem, μ1 = sI μ (a + 1) ((μ.1 a 3).toNatClampNeg) x1 → (∀ μ2 : Mem, μ2 = sI μ1 a 3 ((μ1.1 a 3) + 1) → μ' = μ2))))) : X1_put d a x1 μ μ' := by
  refine Me_of [some (vr 1 0 a), some (vi x1)] rfl (Nat.le_of_ble_eq_true rfl) (by decide) ?_
  refine Ev_aload_n dX1_put_0 rfl ?_
  refine Ev_getI flX1_19 rfl dX1_put_1 ?_
  refine Ev_aload_n dX1_put_4 rfl ?_
  refine Ev_getF 11 512 1 flX1_7 rfl dX1_put_5 ?_
  refine Ev_alen (512) (by decide) (by decide) (by decide) dX1_put_8 ?_
  refine Ev_icmp_ge 32 dX1_put_9 (by decide) (fun q => ?_) (fun q => ?_)
  · have h := h.1 q
    subst h
    exact R_v rfl dX1_put_32
  · have h := h.2 q
    refine Ev_aload_n dX1_put_12 rfl ?_
    refine Ev_getF 11 512 1 flX1_7 rfl dX1_put_13 ?_
    refine Ev_aload_n dX1_put_16 rfl ?_
    refine Ev_getI flX1_19 rfl dX1_put_17 ?_
    refine Ev_iload_n dX1_put_20 rfl ?_
    obtain ⟨g, h⟩ := h
    refine Ev_iast g dX1_put_21 ?_
    have h := h _ rfl
    refine Ev_aload_n dX1_put_22 rfl ?_
    refine Ev_dup dX1_put_23 (fun _ z => by cases z) ?_
    refine Ev_getI flX1_19 rfl dX1_put_24 ?_
    refine Ev_iconst 1 dX1_put_27 (by decide) ?_
    refine Ev_iadd dX1_put_28 ?_
    refine Ev_putI .int flX1_19 fpX1_3 rfl rfl rfl dX1_put_29 ?_
    have h := h _ rfl
    subst h
    exact R_v rfl dX1_put_32
set_option maxHeartbeats 4000000 in
set_option maxRecDepth 100000 in
theorem X1_putConstant_ok {d : Nat} {a : Nat} {x1 : Int32} {μ μ' : Mem} (h : (∃ (μ1 : Mem), X1_clear d a μ μ1 ∧ (∃ (μ3 : Mem), X1_put d a x1 μ1 μ3 ∧ (∃ (μ5 : Mem), X1_put d a (-15) μ3 μ5 ∧ μ' = μ5)))) : X1_putConstant (d + 1) a x1 μ μ' := by
  refine Me_of [some (vr 1 0 a), some (vi x1)] rfl (Nat.le_of_ble_eq_true rfl) (by decide) ?_
  refine Ev_aload_n dX1_putConstant_0 rfl ?_
  obtain ⟨μ1, hM2, h⟩ := h
  refine Ev_callV [] mlX1_23 rfl rfl (Nat.le_of_ble_eq_true rfl) dX1_putConstant_1 hM2 ?_
  refine Ev_aload_n dX1_putConstant_4 rfl ?_
  refine Ev_iload_n dX1_putConstant_5 rfl ?_
  obtain ⟨μ3, hM4, h⟩ := h
  refine Ev_callV [_] mlX1_26 rfl rfl (Nat.le_of_ble_eq_true rfl) dX1_putConstant_6 hM4 ?_
  refine Ev_aload_n dX1_putConstant_9 rfl ?_
  refine Ev_bipush (-15) dX1_putConstant_10 (by decide) ?_
  obtain ⟨μ5, hM6, h⟩ := h
  refine Ev_callV [_] mlX1_26 rfl rfl (Nat.le_of_ble_eq_true rfl) dX1_putConstant_12 hM6 ?_
  subst h
  exact R_v rfl dX1_putConstant_15
set_option maxHeartbeats 4000000 in
set_option maxRecDepth 100000 in
theorem X1_putUnlessLess_ok {d : Nat} {a : Nat} {μ μ' : Mem} {x : Int32} (h : (∃ (μ1 : Mem), X1_put d a (-14) μ μ1 ∧ (∃ (μ3 : Mem), X1_put d a 0 μ1 μ3 ∧ (x = (μ3.1 a 3) - 1 ∧ μ' = μ3)))) : X1_putUnlessLess (d + 1) a μ x μ' := by
  refine Me_of [some (vr 1 0 a)] rfl (Nat.le_of_ble_eq_true rfl) (by decide) ?_
  refine Ev_aload_n dX1_putUnlessLess_0 rfl ?_
  refine Ev_bipush (-14) dX1_putUnlessLess_1 (by decide) ?_
  obtain ⟨μ1, hM2, h⟩ := h
  refine Ev_callV [_] mlX1_26 rfl rfl (Nat.le_of_ble_eq_true rfl) dX1_putUnlessLess_3 hM2 ?_
  refine Ev_aload_n dX1_putUnlessLess_6 rfl ?_
  refine Ev_iconst 0 dX1_putUnlessLess_7 (by decide) ?_
  obtain ⟨μ3, hM4, h⟩ := h
  refine Ev_callV [_] mlX1_26 rfl rfl (Nat.le_of_ble_eq_true rfl) dX1_putUnlessLess_8 hM4 ?_
  refine Ev_aload_n dX1_putUnlessLess_11 rfl ?_
  refine Ev_getI flX1_19 rfl dX1_putUnlessLess_12 ?_
  refine Ev_iconst 1 dX1_putUnlessLess_15 (by decide) ?_
  refine Ev_isub dX1_putUnlessLess_16 ?_
  obtain ⟨rfl, rfl⟩ := h
  exact R_i rfl dX1_putUnlessLess_17 rfl
set_option maxHeartbeats 4000000 in
set_option maxRecDepth 100000 in
theorem X1_worked_ok {d : Nat} {x0 : Int32} {x1 : Int32} {x2 : Int32} {μ μ' : Mem} {x : Int32} (h : ((x0 = (-12) → (x = x1 * x2 ∧ μ' = μ)) ∧ (x0 = (-11) → (x = x1 - x2 ∧ μ' = μ)) ∧ (x0 = (-10) → (x = x1 + x2 ∧ μ' = μ)) ∧ (((x0).toInt < (-12) ∨ (-10) < (x0).toInt) → ((x2 ≠ 0 → ¬ x2 = 0 ∧ (x = x1 / x2 ∧ μ' = μ)) ∧ (x2 = 0 → (x = 0 ∧ μ' = μ)))))) : X1_worked d x0 x1 x2 μ x μ' := by
  refine Me_of [some (vi x0), some (vi x1), some (vi x2)] rfl (Nat.le_of_ble_eq_true rfl) (by decide) ?_
  refine Ev_iload_n dX1_worked_0 rfl ?_
  refine Ev_tab 40 dX1_worked_1 (by decide) (fun k hk e => ?_) (fun q => ?_)
  · rcases (show k = 0 ∨ k = 1 ∨ k = 2 by omega) with rfl | rfl | rfl
    · have h := h.1 (Int32.toInt_inj.mp (e.trans (by decide)))
      refine ⟨_, 36, rfl, by decide, ?_⟩
      refine Ev_iload_n dX1_worked_36 rfl ?_
      refine Ev_iload_n dX1_worked_37 rfl ?_
      refine Ev_imul dX1_worked_38 ?_
      obtain ⟨rfl, rfl⟩ := h
      exact R_i rfl dX1_worked_39 rfl
    · have h := h.2.1 (Int32.toInt_inj.mp (e.trans (by decide)))
      refine ⟨_, 32, rfl, by decide, ?_⟩
      refine Ev_iload_n dX1_worked_32 rfl ?_
      refine Ev_iload_n dX1_worked_33 rfl ?_
      refine Ev_isub dX1_worked_34 ?_
      obtain ⟨rfl, rfl⟩ := h
      exact R_i rfl dX1_worked_35 rfl
    · have h := h.2.2.1 (Int32.toInt_inj.mp (e.trans (by decide)))
      refine ⟨_, 28, rfl, by decide, ?_⟩
      refine Ev_iload_n dX1_worked_28 rfl ?_
      refine Ev_iload_n dX1_worked_29 rfl ?_
      refine Ev_iadd dX1_worked_30 ?_
      obtain ⟨rfl, rfl⟩ := h
      exact R_i rfl dX1_worked_31 rfl
  · have h := h.2.2.2 q
    refine Ev_iload_n dX1_worked_40 rfl ?_
    refine Ev_if_ne 48 dX1_worked_41 (by decide) (fun q => ?_) (fun q => ?_)
    · have h := h.1 q
      refine Ev_iload_n dX1_worked_48 rfl ?_
      refine Ev_iload_n dX1_worked_49 rfl ?_
      obtain ⟨g, h⟩ := h
      refine Ev_idiv dX1_worked_50 g ?_
      obtain ⟨rfl, rfl⟩ := h
      exact R_i rfl dX1_worked_51 rfl
    · have h := h.2 q
      refine Ev_iconst 0 dX1_worked_44 (by decide) ?_
      refine Ev_goto 51 dX1_worked_45 (by decide) ?_
      obtain ⟨rfl, rfl⟩ := h
      exact R_i rfl dX1_worked_51 rfl
set_option maxHeartbeats 4000000 in
set_option maxRecDepth 100000 in
theorem X2_clear_ok {d : Nat}  {μ μ' : Mem} (h : (∀ μ1 : Mem, μ1 = sI μ 23 2 0 → μ' = μ1)) : X2_clear d μ μ' := by
  refine Me_of [some (vr 2 0 23)] rfl (Nat.le_of_ble_eq_true rfl) (by decide) ?_
  refine Ev_aload_n dX2_clear_0 rfl ?_
  refine Ev_iconst 0 dX2_clear_1 (by decide) ?_
  refine Ev_putI .int flX2_19 fpX2_2 rfl rfl rfl dX2_clear_2 ?_
  have h := h _ rfl
  subst h
  exact R_v rfl dX2_clear_5
set_option maxHeartbeats 4000000 in
set_option maxRecDepth 100000 in
theorem X2_remember_ok {d : Nat} {a1 : Nat} {μ μ' : Mem} (h : vp_in (μ.1 23 1) 30 ∧ (∃ (y3 : Nat) (μ1 : Mem), X5_copy d (25 + 5 * (μ.1 23 1).toNatClampNeg) a1 μ y3 μ1 ∧ (∀ μ4 : Mem, μ4 = sI μ1 23 1 (((μ1.1 23 1) + 1) - ((μ1.1 23 1) + 1) / 30 * 30) → (∀ μ5 : Mem, μ5 = sI μ4 23 2 (mn ((μ4.1 23 2) + 1) 30) → μ' = μ5)))) : X2_remember (d + 1) a1 μ μ' := by
  refine Me_of [some (vr 2 0 23), some (vr 5 0 a1)] rfl (Nat.le_of_ble_eq_true rfl) (by decide) ?_
  refine Ev_aload_n dX2_remember_0 rfl ?_
  refine Ev_getF 15 30 1 flX2_11 rfl dX2_remember_1 ?_
  refine Ev_aload_n dX2_remember_4 rfl ?_
  refine Ev_getI flX2_15 rfl dX2_remember_5 ?_
  obtain ⟨g, h⟩ := h
  refine Ev_aald 5 0 5 (by decide) (by decide) rfl g dX2_remember_8 ?_
  refine Ev_aload_n dX2_remember_9 rfl ?_
  obtain ⟨y3, μ1, hM2, h⟩ := h
  refine Ev_callV [_] mlX2_23 rfl rfl (Nat.le_of_ble_eq_true rfl) dX2_remember_10 hM2 ?_
  refine Ev_pop dX2_remember_13 (fun _ z => by cases z) ?_
  refine Ev_aload_n dX2_remember_14 rfl ?_
  refine Ev_aload_n dX2_remember_15 rfl ?_
  refine Ev_getI flX2_15 rfl dX2_remember_16 ?_
  refine Ev_iconst 1 dX2_remember_19 (by decide) ?_
  refine Ev_iadd dX2_remember_20 ?_
  refine Ev_bipush 30 dX2_remember_21 (by decide) ?_
  refine Ev_irem dX2_remember_23 (by decide) ?_
  refine Ev_putI .int flX2_15 fpX2_1 rfl rfl rfl dX2_remember_24 ?_
  have h := h _ rfl
  refine Ev_aload_n dX2_remember_27 rfl ?_
  refine Ev_aload_n dX2_remember_28 rfl ?_
  refine Ev_getI flX2_19 rfl dX2_remember_29 ?_
  refine Ev_iconst 1 dX2_remember_32 (by decide) ?_
  refine Ev_iadd dX2_remember_33 ?_
  refine Ev_bipush 30 dX2_remember_34 (by decide) ?_
  refine Ev_mmin (ts4 122 rfl rfl) (ts3 47 rfl rfl) (ts1 17 rfl rfl) (ts3 48 rfl rfl) (Nat.le_of_ble_eq_true rfl) dX2_remember_36 ?_
  refine Ev_putI .int flX2_19 fpX2_2 rfl rfl rfl dX2_remember_39 ?_
  have h := h _ rfl
  subst h
  exact R_v rfl dX2_remember_42
set_option maxHeartbeats 4000000 in
set_option maxRecDepth 100000 in
theorem X2_takeBack_ok {d : Nat} {a1 : Nat} {μ μ' : Mem} {x : Int32} (h : (((μ.1 23 2) ≠ 0 → (∀ μ1 : Mem, μ1 = sI μ 23 1 ((((μ.1 23 1) + 30) - 1) - (((μ.1 23 1) + 30) - 1) / 30 * 30) → (∀ μ2 : Mem, μ2 = sI μ1 23 2 ((μ1.1 23 2) - 1) → vp_in (μ2.1 23 1) 30 ∧ (∃ (y5 : Nat) (μ3 : Mem), X5_copy d a1 (25 + 5 * (μ2.1 23 1).toNatClampNeg) μ2 y5 μ3 ∧ (x = 1 ∧ μ' = μ3))))) ∧ ((μ.1 23 2) = 0 → (x = 0 ∧ μ' = μ)))) : X2_takeBack (d + 1) a1 μ x μ' := by
  refine Me_of [some (vr 2 0 23), some (vr 5 0 a1)] rfl (Nat.le_of_ble_eq_true rfl) (by decide) ?_
  refine Ev_aload_n dX2_takeBack_0 rfl ?_
  refine Ev_getI flX2_19 rfl dX2_takeBack_1 ?_
  refine Ev_if_ne 9 dX2_takeBack_4 (by decide) (fun q => ?_) (fun q => ?_)
  · have h := h.1 q
    refine Ev_aload_n dX2_takeBack_9 rfl ?_
    refine Ev_aload_n dX2_takeBack_10 rfl ?_
    refine Ev_getI flX2_15 rfl dX2_takeBack_11 ?_
    refine Ev_bipush 30 dX2_takeBack_14 (by decide) ?_
    refine Ev_iadd dX2_takeBack_16 ?_
    refine Ev_iconst 1 dX2_takeBack_17 (by decide) ?_
    refine Ev_isub dX2_takeBack_18 ?_
    refine Ev_bipush 30 dX2_takeBack_19 (by decide) ?_
    refine Ev_irem dX2_takeBack_21 (by decide) ?_
    refine Ev_putI .int flX2_15 fpX2_1 rfl rfl rfl dX2_takeBack_22 ?_
    have h := h _ rfl
    refine Ev_aload_n dX2_takeBack_25 rfl ?_
    refine Ev_dup dX2_takeBack_26 (fun _ z => by cases z) ?_
    refine Ev_getI flX2_19 rfl dX2_takeBack_27 ?_
    refine Ev_iconst 1 dX2_takeBack_30 (by decide) ?_
    refine Ev_isub dX2_takeBack_31 ?_
    refine Ev_putI .int flX2_19 fpX2_2 rfl rfl rfl dX2_takeBack_32 ?_
    have h := h _ rfl
    refine Ev_aload_n dX2_takeBack_35 rfl ?_
    refine Ev_aload_n dX2_takeBack_36 rfl ?_
    refine Ev_getF 15 30 1 flX2_11 rfl dX2_takeBack_37 ?_
    refine Ev_aload_n dX2_takeBack_40 rfl ?_
    refine Ev_getI flX2_15 rfl dX2_takeBack_41 ?_
    obtain ⟨g, h⟩ := h
    refine Ev_aald 5 0 5 (by decide) (by decide) rfl g dX2_takeBack_44 ?_
    obtain ⟨y5, μ3, hM4, h⟩ := h
    refine Ev_callV [_] mlX2_23 rfl rfl (Nat.le_of_ble_eq_true rfl) dX2_takeBack_45 hM4 ?_
    refine Ev_pop dX2_takeBack_48 (fun _ z => by cases z) ?_
    refine Ev_iconst 1 dX2_takeBack_49 (by decide) ?_
    obtain ⟨rfl, rfl⟩ := h
    exact R_i rfl dX2_takeBack_50 rfl
  · have h := h.2 q
    refine Ev_iconst 0 dX2_takeBack_7 (by decide) ?_
    obtain ⟨rfl, rfl⟩ := h
    exact R_i rfl dX2_takeBack_8 rfl
set_option maxHeartbeats 4000000 in
set_option maxRecDepth 100000 in
theorem X3_clear_ok {d : Nat} {a : Nat} {μ μ' : Mem} (h : (∀ μ1 : Mem, μ1 = sI μ a 0 0 → (∀ μ2 : Mem, μ2 = sI μ1 a 1 0 → (∀ μ3 : Mem, μ3 = sI μ2 a 2 0 → (∀ μ4 : Mem, μ4 = sI μ3 a 3 0 → (∀ μ5 : Mem, μ5 = sI μ4 a 4 100 → (∀ μ6 : Mem, μ6 = sI μ5 a 5 0 → (∀ μ7 : Mem, μ7 = sI μ6 a 6 0 → (∃ (μ8 : Mem), J7_fill_53178 d 48 (a + 1) (-2) μ7 μ8 ∧ (∃ (μ10 : Mem), J7_fill_53178 d 6 (a + 2) 0 μ8 μ10 ∧ (∃ (μ12 : Mem), X1_putConstant d (a + 7) 1 μ10 μ12 ∧ (∃ (μ14 : Mem), X1_putConstant d (a + 11) 1 μ12 μ14 ∧ (∃ (μ16 : Mem), X1_putConstant d (a + 15) 0 μ14 μ16 ∧ μ' = μ16))))))))))))) : X3_clear (d + 1) a μ μ' := by
  refine Me_of [some (vr 3 0 a)] rfl (Nat.le_of_ble_eq_true rfl) (by decide) ?_
  refine Ev_aload_n dX3_clear_0 rfl ?_
  refine Ev_iconst 0 dX3_clear_1 (by decide) ?_
  refine Ev_putI .int flX3_9 fpX3_0 rfl rfl rfl dX3_clear_2 ?_
  have h := h _ rfl
  refine Ev_aload_n dX3_clear_5 rfl ?_
  refine Ev_iconst 0 dX3_clear_6 (by decide) ?_
  refine Ev_putI .int flX3_15 fpX3_1 rfl rfl rfl dX3_clear_7 ?_
  have h := h _ rfl
  refine Ev_aload_n dX3_clear_10 rfl ?_
  refine Ev_iconst 0 dX3_clear_11 (by decide) ?_
  refine Ev_putI .int flX3_18 fpX3_2 rfl rfl rfl dX3_clear_12 ?_
  have h := h _ rfl
  refine Ev_aload_n dX3_clear_15 rfl ?_
  refine Ev_iconst 0 dX3_clear_16 (by decide) ?_
  refine Ev_putI .int flX3_21 fpX3_3 rfl rfl rfl dX3_clear_17 ?_
  have h := h _ rfl
  refine Ev_aload_n dX3_clear_20 rfl ?_
  refine Ev_bipush 100 dX3_clear_21 (by decide) ?_
  refine Ev_putI .int flX3_24 fpX3_4 rfl rfl rfl dX3_clear_23 ?_
  have h := h _ rfl
  refine Ev_aload_n dX3_clear_26 rfl ?_
  refine Ev_iconst 0 dX3_clear_27 (by decide) ?_
  refine Ev_putI .int flX3_27 fpX3_5 rfl rfl rfl dX3_clear_28 ?_
  have h := h _ rfl
  refine Ev_aload_n dX3_clear_31 rfl ?_
  refine Ev_iconst 0 dX3_clear_32 (by decide) ?_
  refine Ev_putI .int flX3_30 fpX3_6 rfl rfl rfl dX3_clear_33 ?_
  have h := h _ rfl
  refine Ev_aload_n dX3_clear_36 rfl ?_
  refine Ev_getF 11 48 1 flX3_33 rfl dX3_clear_37 ?_
  refine Ev_bipush (-2) dX3_clear_40 (by decide) ?_
  obtain ⟨μ8, hM9, h⟩ := h
  refine Ev_callS [_, _] mlX3_68 rfl rfl (Nat.le_of_ble_eq_true rfl) dX3_clear_42 hM9 ?_
  refine Ev_aload_n dX3_clear_45 rfl ?_
  refine Ev_getF 11 6 2 flX3_37 rfl dX3_clear_46 ?_
  refine Ev_iconst 0 dX3_clear_49 (by decide) ?_
  obtain ⟨μ10, hM11, h⟩ := h
  refine Ev_callS [_, _] mlX3_68 rfl rfl (Nat.le_of_ble_eq_true rfl) dX3_clear_50 hM11 ?_
  refine Ev_aload_n dX3_clear_53 rfl ?_
  refine Ev_getF 1 0 7 flX3_55 rfl dX3_clear_54 ?_
  refine Ev_iconst 1 dX3_clear_57 (by decide) ?_
  obtain ⟨μ12, hM13, h⟩ := h
  refine Ev_callV [_] mlX3_74 rfl rfl (Nat.le_of_ble_eq_true rfl) dX3_clear_58 hM13 ?_
  refine Ev_aload_n dX3_clear_61 rfl ?_
  refine Ev_getF 1 0 11 flX3_59 rfl dX3_clear_62 ?_
  refine Ev_iconst 1 dX3_clear_65 (by decide) ?_
  obtain ⟨μ14, hM15, h⟩ := h
  refine Ev_callV [_] mlX3_74 rfl rfl (Nat.le_of_ble_eq_true rfl) dX3_clear_66 hM15 ?_
  refine Ev_aload_n dX3_clear_69 rfl ?_
  refine Ev_getF 1 0 15 flX3_62 rfl dX3_clear_70 ?_
  refine Ev_iconst 0 dX3_clear_73 (by decide) ?_
  obtain ⟨μ16, hM17, h⟩ := h
  refine Ev_callV [_] mlX3_74 rfl rfl (Nat.le_of_ble_eq_true rfl) dX3_clear_74 hM17 ?_
  subst h
  exact R_v rfl dX3_clear_77
set_option maxHeartbeats 4000000 in
set_option maxRecDepth 100000 in
theorem X3_drowned_ok {d : Nat} {a : Nat} {x1 : Int32} {x2 : Int32} {μ μ' : Mem} {x : Int32} (h : (∃ (y3 : Int32) (μ1 : Mem), X3_hasField d a x1 μ y3 μ1 ∧ ((y3 = 0 → (x = 0 ∧ μ' = μ1)) ∧ (¬ y3 = 0 → vp_in x1 6 ∧ ((x2 ≤ (μ1.1 (a + 4) x1.toNatClampNeg) → (x = 0 ∧ μ' = μ1)) ∧ (¬ x2 ≤ (μ1.1 (a + 4) x1.toNatClampNeg) → (x = 1 ∧ μ' = μ1))))))) : X3_drowned (d + 1) a x1 x2 μ x μ' := by
  refine Me_of [some (vr 3 0 a), some (vi x1), some (vi x2)] rfl (Nat.le_of_ble_eq_true rfl) (by decide) ?_
  refine Ev_aload_n dX3_drowned_0 rfl ?_
  refine Ev_iload_n dX3_drowned_1 rfl ?_
  obtain ⟨y3, μ1, hM2, h⟩ := h
  refine Ev_callV [_] mlX3_82 rfl rfl (Nat.le_of_ble_eq_true rfl) dX3_drowned_2 hM2 ?_
  refine Ev_if_eq 22 dX3_drowned_5 (by decide) (fun q => ?_) (fun q => ?_)
  · have h := h.1 q
    refine Ev_iconst 0 dX3_drowned_22 (by decide) ?_
    obtain ⟨rfl, rfl⟩ := h
    exact R_i rfl dX3_drowned_23 rfl
  · have h := h.2 q
    refine Ev_iload_n dX3_drowned_8 rfl ?_
    refine Ev_aload_n dX3_drowned_9 rfl ?_
    refine Ev_getF 11 6 4 flX3_43 rfl dX3_drowned_10 ?_
    refine Ev_iload_n dX3_drowned_13 rfl ?_
    obtain ⟨g, h⟩ := h
    refine Ev_iald g dX3_drowned_14 ?_
    refine Ev_icmp_le 22 dX3_drowned_15 (by decide) (fun q => ?_) (fun q => ?_)
    · have h := h.1 q
      refine Ev_iconst 0 dX3_drowned_22 (by decide) ?_
      obtain ⟨rfl, rfl⟩ := h
      exact R_i rfl dX3_drowned_23 rfl
    · have h := h.2 q
      refine Ev_iconst 1 dX3_drowned_18 (by decide) ?_
      refine Ev_goto 23 dX3_drowned_19 (by decide) ?_
      obtain ⟨rfl, rfl⟩ := h
      exact R_i rfl dX3_drowned_23 rfl
set_option maxHeartbeats 4000000 in
set_option maxRecDepth 100000 in
theorem X3_fieldAt_ok {d : Nat} {a : Nat} {x1 : Int32} {x2 : Int32} {μ μ' : Mem} {x : Int32} (h : (∃ (y3 : Int32) (μ1 : Mem), X3_hasCell d a x1 x2 μ y3 μ1 ∧ ((y3 = 0 → (x = (-2) ∧ μ' = μ1)) ∧ (¬ y3 = 0 → vp_in ((x2 * 8) + x1) 48 ∧ (x = μ1.1 (a + 1) (((x2 * 8) + x1).toNatClampNeg) ∧ μ' = μ1))))) : X3_fieldAt (d + 1) a x1 x2 μ x μ' := by
  refine Me_of [some (vr 3 0 a), some (vi x1), some (vi x2)] rfl (Nat.le_of_ble_eq_true rfl) (by decide) ?_
  refine Ev_aload_n dX3_fieldAt_0 rfl ?_
  refine Ev_iload_n dX3_fieldAt_1 rfl ?_
  refine Ev_iload_n dX3_fieldAt_2 rfl ?_
  obtain ⟨y3, μ1, hM2, h⟩ := h
  refine Ev_callV [_, _] mlX3_78 rfl rfl (Nat.le_of_ble_eq_true rfl) dX3_fieldAt_3 hM2 ?_
  refine Ev_if_eq 23 dX3_fieldAt_6 (by decide) (fun q => ?_) (fun q => ?_)
  · have h := h.1 q
    refine Ev_bipush (-2) dX3_fieldAt_23 (by decide) ?_
    obtain ⟨rfl, rfl⟩ := h
    exact R_i rfl dX3_fieldAt_25 rfl
  · have h := h.2 q
    refine Ev_aload_n dX3_fieldAt_9 rfl ?_
    refine Ev_getF 11 48 1 flX3_33 rfl dX3_fieldAt_10 ?_
    refine Ev_iload_n dX3_fieldAt_13 rfl ?_
    refine Ev_bipush 8 dX3_fieldAt_14 (by decide) ?_
    refine Ev_imul dX3_fieldAt_16 ?_
    refine Ev_iload_n dX3_fieldAt_17 rfl ?_
    refine Ev_iadd dX3_fieldAt_18 ?_
    obtain ⟨g, h⟩ := h
    refine Ev_iald g dX3_fieldAt_19 ?_
    refine Ev_goto 25 dX3_fieldAt_20 (by decide) ?_
    obtain ⟨rfl, rfl⟩ := h
    exact R_i rfl dX3_fieldAt_25 rfl
set_option maxHeartbeats 4000000 in
set_option maxRecDepth 100000 in
theorem X3_hasCell_ok {d : Nat} {a : Nat} {x1 : Int32} {x2 : Int32} {μ μ' : Mem} {x : Int32} (h : ((x1 < 0 → (x = 0 ∧ μ' = μ)) ∧ (¬ x1 < 0 → (((μ.1 a 0) ≤ x1 → (x = 0 ∧ μ' = μ)) ∧ (¬ (μ.1 a 0) ≤ x1 → ((x2 < 0 → (x = 0 ∧ μ' = μ)) ∧ (¬ x2 < 0 → (((μ.1 a 1) ≤ x2 → (x = 0 ∧ μ' = μ)) ∧ (¬ (μ.1 a 1) ≤ x2 → (x = 1 ∧ μ' = μ)))))))))) : X3_hasCell d a x1 x2 μ x μ' := by
  refine Me_of [some (vr 3 0 a), some (vi x1), some (vi x2)] rfl (Nat.le_of_ble_eq_true rfl) (by decide) ?_
  refine Ev_iload_n dX3_hasCell_0 rfl ?_
  refine Ev_if_lt 28 dX3_hasCell_1 (by decide) (fun q => ?_) (fun q => ?_)
  · have h := h.1 q
    refine Ev_iconst 0 dX3_hasCell_28 (by decide) ?_
    obtain ⟨rfl, rfl⟩ := h
    exact R_i rfl dX3_hasCell_29 rfl
  · have h := h.2 q
    refine Ev_iload_n dX3_hasCell_4 rfl ?_
    refine Ev_aload_n dX3_hasCell_5 rfl ?_
    refine Ev_getI flX3_9 rfl dX3_hasCell_6 ?_
    refine Ev_icmp_ge 28 dX3_hasCell_9 (by decide) (fun q => ?_) (fun q => ?_)
    · have h := h.1 q
      refine Ev_iconst 0 dX3_hasCell_28 (by decide) ?_
      obtain ⟨rfl, rfl⟩ := h
      exact R_i rfl dX3_hasCell_29 rfl
    · have h := h.2 q
      refine Ev_iload_n dX3_hasCell_12 rfl ?_
      refine Ev_if_lt 28 dX3_hasCell_13 (by decide) (fun q => ?_) (fun q => ?_)
      · have h := h.1 q
        refine Ev_iconst 0 dX3_hasCell_28 (by decide) ?_
        obtain ⟨rfl, rfl⟩ := h
        exact R_i rfl dX3_hasCell_29 rfl
      · have h := h.2 q
        refine Ev_iload_n dX3_hasCell_16 rfl ?_
        refine Ev_aload_n dX3_hasCell_17 rfl ?_
        refine Ev_getI flX3_15 rfl dX3_hasCell_18 ?_
        refine Ev_icmp_ge 28 dX3_hasCell_21 (by decide) (fun q => ?_) (fun q => ?_)
        · have h := h.1 q
          refine Ev_iconst 0 dX3_hasCell_28 (by decide) ?_
          obtain ⟨rfl, rfl⟩ := h
          exact R_i rfl dX3_hasCell_29 rfl
        · have h := h.2 q
          refine Ev_iconst 1 dX3_hasCell_24 (by decide) ?_
          refine Ev_goto 29 dX3_hasCell_25 (by decide) ?_
          obtain ⟨rfl, rfl⟩ := h
          exact R_i rfl dX3_hasCell_29 rfl
set_option maxHeartbeats 4000000 in
set_option maxRecDepth 100000 in
theorem X3_hasField_ok {d : Nat} {a : Nat} {x1 : Int32} {μ μ' : Mem} {x : Int32} (h : ((x1 < 0 → (x = 0 ∧ μ' = μ)) ∧ (¬ x1 < 0 → (((μ.1 a 2) ≤ x1 → (x = 0 ∧ μ' = μ)) ∧ (¬ (μ.1 a 2) ≤ x1 → (x = 1 ∧ μ' = μ)))))) : X3_hasField d a x1 μ x μ' := by
  refine Me_of [some (vr 3 0 a), some (vi x1)] rfl (Nat.le_of_ble_eq_true rfl) (by decide) ?_
  refine Ev_iload_n dX3_hasField_0 rfl ?_
  refine Ev_if_lt 16 dX3_hasField_1 (by decide) (fun q => ?_) (fun q => ?_)
  · have h := h.1 q
    refine Ev_iconst 0 dX3_hasField_16 (by decide) ?_
    obtain ⟨rfl, rfl⟩ := h
    exact R_i rfl dX3_hasField_17 rfl
  · have h := h.2 q
    refine Ev_iload_n dX3_hasField_4 rfl ?_
    refine Ev_aload_n dX3_hasField_5 rfl ?_
    refine Ev_getI flX3_18 rfl dX3_hasField_6 ?_
    refine Ev_icmp_ge 16 dX3_hasField_9 (by decide) (fun q => ?_) (fun q => ?_)
    · have h := h.1 q
      refine Ev_iconst 0 dX3_hasField_16 (by decide) ?_
      obtain ⟨rfl, rfl⟩ := h
      exact R_i rfl dX3_hasField_17 rfl
    · have h := h.2 q
      refine Ev_iconst 1 dX3_hasField_12 (by decide) ?_
      refine Ev_goto 17 dX3_hasField_13 (by decide) ?_
      obtain ⟨rfl, rfl⟩ := h
      exact R_i rfl dX3_hasField_17 rfl
set_option maxHeartbeats 4000000 in
set_option maxRecDepth 100000 in
theorem X3_hasLoom_ok {d : Nat} {a : Nat} {x1 : Int32} {μ μ' : Mem} {x : Int32} (h : ((x1 < 0 → (x = 0 ∧ μ' = μ)) ∧ (¬ x1 < 0 → (((μ.1 a 3) ≤ x1 → (x = 0 ∧ μ' = μ)) ∧ (¬ (μ.1 a 3) ≤ x1 → (x = 1 ∧ μ' = μ)))))) : X3_hasLoom d a x1 μ x μ' := by
  refine Me_of [some (vr 3 0 a), some (vi x1)] rfl (Nat.le_of_ble_eq_true rfl) (by decide) ?_
  refine Ev_iload_n dX3_hasLoom_0 rfl ?_
  refine Ev_if_lt 16 dX3_hasLoom_1 (by decide) (fun q => ?_) (fun q => ?_)
  · have h := h.1 q
    refine Ev_iconst 0 dX3_hasLoom_16 (by decide) ?_
    obtain ⟨rfl, rfl⟩ := h
    exact R_i rfl dX3_hasLoom_17 rfl
  · have h := h.2 q
    refine Ev_iload_n dX3_hasLoom_4 rfl ?_
    refine Ev_aload_n dX3_hasLoom_5 rfl ?_
    refine Ev_getI flX3_21 rfl dX3_hasLoom_6 ?_
    refine Ev_icmp_ge 16 dX3_hasLoom_9 (by decide) (fun q => ?_) (fun q => ?_)
    · have h := h.1 q
      refine Ev_iconst 0 dX3_hasLoom_16 (by decide) ?_
      obtain ⟨rfl, rfl⟩ := h
      exact R_i rfl dX3_hasLoom_17 rfl
    · have h := h.2 q
      refine Ev_iconst 1 dX3_hasLoom_12 (by decide) ?_
      refine Ev_goto 17 dX3_hasLoom_13 (by decide) ?_
      obtain ⟨rfl, rfl⟩ := h
      exact R_i rfl dX3_hasLoom_17 rfl
set_option maxHeartbeats 4000000 in
set_option maxRecDepth 100000 in
theorem X3_lacks_ok {d : Nat} {a : Nat} {x1 : Int32} {x2 : Int32} {μ μ' : Mem} {x : Int32} (h : (∃ (y3 : Int32) (μ1 : Mem), X3_hasField d a x1 μ y3 μ1 ∧ ((y3 = 0 → (x = 0 ∧ μ' = μ1)) ∧ (¬ y3 = 0 → vp_in x1 6 ∧ (((μ1.1 (a + 3) x1.toNatClampNeg) ≤ x2 → (x = 0 ∧ μ' = μ1)) ∧ (¬ (μ1.1 (a + 3) x1.toNatClampNeg) ≤ x2 → (x = 1 ∧ μ' = μ1))))))) : X3_lacks (d + 1) a x1 x2 μ x μ' := by
  refine Me_of [some (vr 3 0 a), some (vi x1), some (vi x2)] rfl (Nat.le_of_ble_eq_true rfl) (by decide) ?_
  refine Ev_aload_n dX3_lacks_0 rfl ?_
  refine Ev_iload_n dX3_lacks_1 rfl ?_
  obtain ⟨y3, μ1, hM2, h⟩ := h
  refine Ev_callV [_] mlX3_82 rfl rfl (Nat.le_of_ble_eq_true rfl) dX3_lacks_2 hM2 ?_
  refine Ev_if_eq 22 dX3_lacks_5 (by decide) (fun q => ?_) (fun q => ?_)
  · have h := h.1 q
    refine Ev_iconst 0 dX3_lacks_22 (by decide) ?_
    obtain ⟨rfl, rfl⟩ := h
    exact R_i rfl dX3_lacks_23 rfl
  · have h := h.2 q
    refine Ev_iload_n dX3_lacks_8 rfl ?_
    refine Ev_aload_n dX3_lacks_9 rfl ?_
    refine Ev_getF 11 6 3 flX3_40 rfl dX3_lacks_10 ?_
    refine Ev_iload_n dX3_lacks_13 rfl ?_
    obtain ⟨g, h⟩ := h
    refine Ev_iald g dX3_lacks_14 ?_
    refine Ev_icmp_ge 22 dX3_lacks_15 (by decide) (fun q => ?_) (fun q => ?_)
    · have h := h.1 q
      refine Ev_iconst 0 dX3_lacks_22 (by decide) ?_
      obtain ⟨rfl, rfl⟩ := h
      exact R_i rfl dX3_lacks_23 rfl
    · have h := h.2 q
      refine Ev_iconst 1 dX3_lacks_18 (by decide) ?_
      refine Ev_goto 23 dX3_lacks_19 (by decide) ?_
      obtain ⟨rfl, rfl⟩ := h
      exact R_i rfl dX3_lacks_23 rfl
set_option maxHeartbeats 4000000 in
set_option maxRecDepth 100000 in
theorem X3_narrowest_ok {d : Nat} {a : Nat} {μ μ' : Mem} {x : Int32} (h : X3_narrowest_at5 d a 8 0 μ x μ') : X3_narrowest d a μ x μ' := by
  refine Me_of [some (vr 3 0 a), none, none] rfl (Nat.le_of_ble_eq_true rfl) (by decide) ?_
  refine Ev_bipush 8 dX3_narrowest_0 (by decide) ?_
  refine Ev_istore_n dX3_narrowest_2 (Nat.le_of_ble_eq_true rfl) (okp_of rfl) ?_
  refine Ev_iconst 0 dX3_narrowest_3 (by decide) ?_
  refine Ev_istore_n dX3_narrowest_4 (Nat.le_of_ble_eq_true rfl) (okp_of rfl) ?_
  exact h
set_option maxHeartbeats 4000000 in
set_option maxRecDepth 100000 in
theorem X3_narrowest_at5_ok {d : Nat} {a : Nat} {x1 : Int32} {x2 : Int32} {μ μ' : Mem} {x : Int32} (h : (((μ.1 a 3) ≤ x2 → (x = x1 ∧ μ' = μ)) ∧ (¬ (μ.1 a 3) ≤ x2 → vp_in x2 4 ∧ X3_narrowest_at5 d a (mn x1 (μ.1 (a + 5) x2.toNatClampNeg)) (x2 + 1) μ x μ'))) : X3_narrowest_at5 d a x1 x2 μ x μ' := by
  refine Ev_iload_n dX3_narrowest_5 rfl ?_
  refine Ev_aload_n dX3_narrowest_6 rfl ?_
  refine Ev_getI flX3_21 rfl dX3_narrowest_7 ?_
  refine Ev_icmp_ge 30 dX3_narrowest_10 (by decide) (fun q => ?_) (fun q => ?_)
  · have h := h.1 q
    refine Ev_iload_n dX3_narrowest_30 rfl ?_
    obtain ⟨rfl, rfl⟩ := h
    exact R_i rfl dX3_narrowest_31 rfl
  · have h := h.2 q
    refine Ev_iload_n dX3_narrowest_13 rfl ?_
    refine Ev_aload_n dX3_narrowest_14 rfl ?_
    refine Ev_getF 11 4 5 flX3_46 rfl dX3_narrowest_15 ?_
    refine Ev_iload_n dX3_narrowest_18 rfl ?_
    obtain ⟨g, h⟩ := h
    refine Ev_iald g dX3_narrowest_19 ?_
    refine Ev_mmin (ts5 60 rfl rfl) (ts3 47 rfl rfl) (ts1 17 rfl rfl) (ts3 48 rfl rfl) (Nat.le_of_ble_eq_true rfl) dX3_narrowest_20 ?_
    refine Ev_istore_n dX3_narrowest_23 (Nat.le_of_ble_eq_true rfl) (okp_of rfl) ?_
    refine Ev_iinc (x2 + 1) dX3_narrowest_24 rfl rfl (okp_of rfl) ?_
    refine Ev_goto 5 dX3_narrowest_27 (by decide) ?_
    exact h
set_option maxHeartbeats 4000000 in
set_option maxRecDepth 100000 in
theorem X3_needOf_ok {d : Nat} {a : Nat} {x1 : Int32} {μ μ' : Mem} {x : Int32} (h : (∃ (y3 : Int32) (μ1 : Mem), X3_hasField d a x1 μ y3 μ1 ∧ ((y3 = 0 → (x = 0 ∧ μ' = μ1)) ∧ (¬ y3 = 0 → vp_in x1 6 ∧ vp_in x1 6 ∧ (x = (μ1.1 (a + 2) x1.toNatClampNeg) * (μ1.1 (a + 3) x1.toNatClampNeg) ∧ μ' = μ1))))) : X3_needOf (d + 1) a x1 μ x μ' := by
  refine Me_of [some (vr 3 0 a), some (vi x1)] rfl (Nat.le_of_ble_eq_true rfl) (by decide) ?_
  refine Ev_aload_n dX3_needOf_0 rfl ?_
  refine Ev_iload_n dX3_needOf_1 rfl ?_
  obtain ⟨y3, μ1, hM2, h⟩ := h
  refine Ev_callV [_] mlX3_82 rfl rfl (Nat.le_of_ble_eq_true rfl) dX3_needOf_2 hM2 ?_
  refine Ev_if_eq 24 dX3_needOf_5 (by decide) (fun q => ?_) (fun q => ?_)
  · have h := h.1 q
    refine Ev_iconst 0 dX3_needOf_24 (by decide) ?_
    obtain ⟨rfl, rfl⟩ := h
    exact R_i rfl dX3_needOf_25 rfl
  · have h := h.2 q
    refine Ev_aload_n dX3_needOf_8 rfl ?_
    refine Ev_getF 11 6 2 flX3_37 rfl dX3_needOf_9 ?_
    refine Ev_iload_n dX3_needOf_12 rfl ?_
    obtain ⟨g, h⟩ := h
    refine Ev_iald g dX3_needOf_13 ?_
    refine Ev_aload_n dX3_needOf_14 rfl ?_
    refine Ev_getF 11 6 3 flX3_40 rfl dX3_needOf_15 ?_
    refine Ev_iload_n dX3_needOf_18 rfl ?_
    obtain ⟨g, h⟩ := h
    refine Ev_iald g dX3_needOf_19 ?_
    refine Ev_imul dX3_needOf_20 ?_
    refine Ev_goto 25 dX3_needOf_21 (by decide) ?_
    obtain ⟨rfl, rfl⟩ := h
    exact R_i rfl dX3_needOf_25 rfl
set_option maxHeartbeats 4000000 in
set_option maxRecDepth 100000 in
theorem X4_accept_ok {d : Nat} {x1 : Int32} {μ μ' : Mem} {x : Int32} (h : (((μ.1 2 3) = x1 → (((μ.1 2 2) < 400 → (((μ.1 2 6) = 0 → (∀ μ1 : Mem, μ1 = sI μ 2 2 ((μ.1 2 2) + 1) → vp_in (μ1.1 2 2) 401 ∧ (∀ μ2 : Mem, μ2 = sI μ1 2 3 (μ1.1 5 ((μ1.1 2 2).toNatClampNeg)) → (x = 1 ∧ μ' = μ2)))) ∧ (¬ (μ.1 2 6) = 0 → (x = 0 ∧ μ' = μ)))) ∧ (¬ (μ.1 2 2) < 400 → (∃ (μ3 : Mem), X4_blame d 2 μ μ3 ∧ (((μ3.1 2 6) = 0 → (∀ μ5 : Mem, μ5 = sI μ3 2 2 ((μ3.1 2 2) + 1) → vp_in (μ5.1 2 2) 401 ∧ (∀ μ6 : Mem, μ6 = sI μ5 2 3 (μ5.1 5 ((μ5.1 2 2).toNatClampNeg)) → (x = 1 ∧ μ' = μ6)))) ∧ (¬ (μ3.1 2 6) = 0 → (x = 0 ∧ μ' = μ3))))))) ∧ (¬ (μ.1 2 3) = x1 → (∃ (μ7 : Mem), X4_blame d 1 μ μ7 ∧ (((μ7.1 2 6) = 0 → (∀ μ9 : Mem, μ9 = sI μ7 2 2 ((μ7.1 2 2) + 1) → vp_in (μ9.1 2 2) 401 ∧ (∀ μ10 : Mem, μ10 = sI μ9 2 3 (μ9.1 5 ((μ9.1 2 2).toNatClampNeg)) → (x = 1 ∧ μ' = μ10)))) ∧ (¬ (μ7.1 2 6) = 0 → (x = 0 ∧ μ' = μ7))))))) : X4_accept (d + 1) x1 μ x μ' := by
  refine Me_of [some (vr 4 0 2), some (vi x1)] rfl (Nat.le_of_ble_eq_true rfl) (by decide) ?_
  refine Ev_aload_n dX4_accept_0 rfl ?_
  refine Ev_getI flX4_29 rfl dX4_accept_1 ?_
  refine Ev_iload_n dX4_accept_4 rfl ?_
  refine Ev_icmp_eq 16 dX4_accept_5 (by decide) (fun q => ?_) (fun q => ?_)
  · have h := h.1 q
    refine Ev_aload_n dX4_accept_16 rfl ?_
    refine Ev_getI flX4_25 rfl dX4_accept_17 ?_
    refine Ev_sipush 400 dX4_accept_20 (by decide) ?_
    refine Ev_icmp_lt 31 dX4_accept_23 (by decide) (fun q => ?_) (fun q => ?_)
    · have h := h.1 q
      refine Ev_aload_n dX4_accept_31 rfl ?_
      refine Ev_getI flX4_39 rfl dX4_accept_32 ?_
      refine Ev_if_eq 40 dX4_accept_35 (by decide) (fun q => ?_) (fun q => ?_)
      · have h := h.1 q
        refine Ev_aload_n dX4_accept_40 rfl ?_
        refine Ev_dup dX4_accept_41 (fun _ z => by cases z) ?_
        refine Ev_getI flX4_25 rfl dX4_accept_42 ?_
        refine Ev_iconst 1 dX4_accept_45 (by decide) ?_
        refine Ev_iadd dX4_accept_46 ?_
        refine Ev_putI .int flX4_25 fpX4_2 rfl rfl rfl dX4_accept_47 ?_
        have h := h _ rfl
        refine Ev_aload_n dX4_accept_50 rfl ?_
        refine Ev_aload_n dX4_accept_51 rfl ?_
        refine Ev_getF 6 0 1 flX4_12 rfl dX4_accept_52 ?_
        refine Ev_getF 11 401 2 flX4_75 rfl dX4_accept_55 ?_
        refine Ev_aload_n dX4_accept_58 rfl ?_
        refine Ev_getI flX4_25 rfl dX4_accept_59 ?_
        obtain ⟨g, h⟩ := h
        refine Ev_iald g dX4_accept_62 ?_
        refine Ev_putI .int flX4_29 fpX4_3 rfl rfl rfl dX4_accept_63 ?_
        have h := h _ rfl
        refine Ev_iconst 1 dX4_accept_66 (by decide) ?_
        obtain ⟨rfl, rfl⟩ := h
        exact R_i rfl dX4_accept_67 rfl
      · have h := h.2 q
        refine Ev_iconst 0 dX4_accept_38 (by decide) ?_
        obtain ⟨rfl, rfl⟩ := h
        exact R_i rfl dX4_accept_39 rfl
    · have h := h.2 q
      refine Ev_aload_n dX4_accept_26 rfl ?_
      refine Ev_iconst 2 dX4_accept_27 (by decide) ?_
      obtain ⟨μ3, hM4, h⟩ := h
      refine Ev_callV [_] mlX4_84 rfl rfl (Nat.le_of_ble_eq_true rfl) dX4_accept_28 hM4 ?_
      refine Ev_aload_n dX4_accept_31 rfl ?_
      refine Ev_getI flX4_39 rfl dX4_accept_32 ?_
      refine Ev_if_eq 40 dX4_accept_35 (by decide) (fun q => ?_) (fun q => ?_)
      · have h := h.1 q
        refine Ev_aload_n dX4_accept_40 rfl ?_
        refine Ev_dup dX4_accept_41 (fun _ z => by cases z) ?_
        refine Ev_getI flX4_25 rfl dX4_accept_42 ?_
        refine Ev_iconst 1 dX4_accept_45 (by decide) ?_
        refine Ev_iadd dX4_accept_46 ?_
        refine Ev_putI .int flX4_25 fpX4_2 rfl rfl rfl dX4_accept_47 ?_
        have h := h _ rfl
        refine Ev_aload_n dX4_accept_50 rfl ?_
        refine Ev_aload_n dX4_accept_51 rfl ?_
        refine Ev_getF 6 0 1 flX4_12 rfl dX4_accept_52 ?_
        refine Ev_getF 11 401 2 flX4_75 rfl dX4_accept_55 ?_
        refine Ev_aload_n dX4_accept_58 rfl ?_
        refine Ev_getI flX4_25 rfl dX4_accept_59 ?_
        obtain ⟨g, h⟩ := h
        refine Ev_iald g dX4_accept_62 ?_
        refine Ev_putI .int flX4_29 fpX4_3 rfl rfl rfl dX4_accept_63 ?_
        have h := h _ rfl
        refine Ev_iconst 1 dX4_accept_66 (by decide) ?_
        obtain ⟨rfl, rfl⟩ := h
        exact R_i rfl dX4_accept_67 rfl
      · have h := h.2 q
        refine Ev_iconst 0 dX4_accept_38 (by decide) ?_
        obtain ⟨rfl, rfl⟩ := h
        exact R_i rfl dX4_accept_39 rfl
  · have h := h.2 q
    refine Ev_aload_n dX4_accept_8 rfl ?_
    refine Ev_iconst 1 dX4_accept_9 (by decide) ?_
    obtain ⟨μ7, hM8, h⟩ := h
    refine Ev_callV [_] mlX4_84 rfl rfl (Nat.le_of_ble_eq_true rfl) dX4_accept_10 hM8 ?_
    refine Ev_goto 31 dX4_accept_13 (by decide) ?_
    refine Ev_aload_n dX4_accept_31 rfl ?_
    refine Ev_getI flX4_39 rfl dX4_accept_32 ?_
    refine Ev_if_eq 40 dX4_accept_35 (by decide) (fun q => ?_) (fun q => ?_)
    · have h := h.1 q
      refine Ev_aload_n dX4_accept_40 rfl ?_
      refine Ev_dup dX4_accept_41 (fun _ z => by cases z) ?_
      refine Ev_getI flX4_25 rfl dX4_accept_42 ?_
      refine Ev_iconst 1 dX4_accept_45 (by decide) ?_
      refine Ev_iadd dX4_accept_46 ?_
      refine Ev_putI .int flX4_25 fpX4_2 rfl rfl rfl dX4_accept_47 ?_
      have h := h _ rfl
      refine Ev_aload_n dX4_accept_50 rfl ?_
      refine Ev_aload_n dX4_accept_51 rfl ?_
      refine Ev_getF 6 0 1 flX4_12 rfl dX4_accept_52 ?_
      refine Ev_getF 11 401 2 flX4_75 rfl dX4_accept_55 ?_
      refine Ev_aload_n dX4_accept_58 rfl ?_
      refine Ev_getI flX4_25 rfl dX4_accept_59 ?_
      obtain ⟨g, h⟩ := h
      refine Ev_iald g dX4_accept_62 ?_
      refine Ev_putI .int flX4_29 fpX4_3 rfl rfl rfl dX4_accept_63 ?_
      have h := h _ rfl
      refine Ev_iconst 1 dX4_accept_66 (by decide) ?_
      obtain ⟨rfl, rfl⟩ := h
      exact R_i rfl dX4_accept_67 rfl
    · have h := h.2 q
      refine Ev_iconst 0 dX4_accept_38 (by decide) ?_
      obtain ⟨rfl, rfl⟩ := h
      exact R_i rfl dX4_accept_39 rfl
set_option maxHeartbeats 4000000 in
set_option maxRecDepth 100000 in
theorem X4_begin_ok {d : Nat}  {μ μ' : Mem} (h : (∃ (μ1 : Mem), X3_clear d (μ.2.2 2 1) μ μ1 ∧ (∀ μ3 : Mem, μ3 = sI μ1 2 2 0 → (∀ μ4 : Mem, μ4 = sI μ3 2 3 (μ3.1 5 0) → (∀ μ5 : Mem, μ5 = sI μ4 2 5 0 → (∀ μ6 : Mem, μ6 = sI μ5 2 6 0 → (∀ μ7 : Mem, μ7 = sI μ6 2 7 (-1) → (∀ μ8 : Mem, μ8 = sI μ7 2 8 0 → (∀ μ9 : Mem, μ9 = sI μ8 2 9 (-1) → μ' = μ9))))))))) : X4_begin (d + 1) μ μ' := by
  refine Me_of [some (vr 4 0 2)] rfl (Nat.le_of_ble_eq_true rfl) (by decide) ?_
  refine Ev_aload_n dX4_begin_0 rfl ?_
  refine Ev_getP flX4_21 rfl dX4_begin_1 ?_
  obtain ⟨μ1, hM2, h⟩ := h
  refine Ev_callV [] mlX4_72 rfl rfl (Nat.le_of_ble_eq_true rfl) dX4_begin_4 hM2 ?_
  refine Ev_aload_n dX4_begin_7 rfl ?_
  refine Ev_iconst 0 dX4_begin_8 (by decide) ?_
  refine Ev_putI .int flX4_25 fpX4_2 rfl rfl rfl dX4_begin_9 ?_
  have h := h _ rfl
  refine Ev_aload_n dX4_begin_12 rfl ?_
  refine Ev_aload_n dX4_begin_13 rfl ?_
  refine Ev_getF 6 0 1 flX4_12 rfl dX4_begin_14 ?_
  refine Ev_getF 11 401 2 flX4_75 rfl dX4_begin_17 ?_
  refine Ev_iconst 0 dX4_begin_20 (by decide) ?_
  refine Ev_iald (n := 401) (vp_lit (by decide)) dX4_begin_21 ?_
  refine Ev_putI .int flX4_29 fpX4_3 rfl rfl rfl dX4_begin_22 ?_
  have h := h _ rfl
  refine Ev_aload_n dX4_begin_25 rfl ?_
  refine Ev_iconst 0 dX4_begin_26 (by decide) ?_
  refine Ev_putI .int flX4_36 fpX4_5 rfl rfl rfl dX4_begin_27 ?_
  have h := h _ rfl
  refine Ev_aload_n dX4_begin_30 rfl ?_
  refine Ev_iconst 0 dX4_begin_31 (by decide) ?_
  refine Ev_putI .int flX4_39 fpX4_6 rfl rfl rfl dX4_begin_32 ?_
  have h := h _ rfl
  refine Ev_aload_n dX4_begin_35 rfl ?_
  refine Ev_iconst (-1) dX4_begin_36 (by decide) ?_
  refine Ev_putI .int flX4_42 fpX4_7 rfl rfl rfl dX4_begin_37 ?_
  have h := h _ rfl
  refine Ev_aload_n dX4_begin_40 rfl ?_
  refine Ev_iconst 0 dX4_begin_41 (by decide) ?_
  refine Ev_putI .int flX4_45 fpX4_8 rfl rfl rfl dX4_begin_42 ?_
  have h := h _ rfl
  refine Ev_aload_n dX4_begin_45 rfl ?_
  refine Ev_iconst (-1) dX4_begin_46 (by decide) ?_
  refine Ev_putI .int flX4_48 fpX4_9 rfl rfl rfl dX4_begin_47 ?_
  have h := h _ rfl
  subst h
  exact R_v rfl dX4_begin_50
set_option maxHeartbeats 4000000 in
set_option maxRecDepth 100000 in
theorem X4_blame_ok {d : Nat} {x1 : Int32} {μ μ' : Mem} (h : (((μ.1 2 6) ≠ 0 → μ' = μ) ∧ ((μ.1 2 6) = 0 → (∀ μ1 : Mem, μ1 = sI μ 2 6 x1 → vp_in (μ1.1 2 2) 401 ∧ (∀ μ2 : Mem, μ2 = sI μ1 2 7 (μ1.1 6 ((μ1.1 2 2).toNatClampNeg)) → μ' = μ2))))) : X4_blame d x1 μ μ' := by
  refine Me_of [some (vr 4 0 2), some (vi x1)] rfl (Nat.le_of_ble_eq_true rfl) (by decide) ?_
  refine Ev_aload_n dX4_blame_0 rfl ?_
  refine Ev_getI flX4_39 rfl dX4_blame_1 ?_
  refine Ev_if_ne 28 dX4_blame_4 (by decide) (fun q => ?_) (fun q => ?_)
  · have h := h.1 q
    subst h
    exact R_v rfl dX4_blame_28
  · have h := h.2 q
    refine Ev_aload_n dX4_blame_7 rfl ?_
    refine Ev_iload_n dX4_blame_8 rfl ?_
    refine Ev_putI .int flX4_39 fpX4_6 rfl rfl rfl dX4_blame_9 ?_
    have h := h _ rfl
    refine Ev_aload_n dX4_blame_12 rfl ?_
    refine Ev_aload_n dX4_blame_13 rfl ?_
    refine Ev_getF 6 0 1 flX4_12 rfl dX4_blame_14 ?_
    refine Ev_getF 11 401 3 flX4_78 rfl dX4_blame_17 ?_
    refine Ev_aload_n dX4_blame_20 rfl ?_
    refine Ev_getI flX4_25 rfl dX4_blame_21 ?_
    obtain ⟨g, h⟩ := h
    refine Ev_iald g dX4_blame_24 ?_
    refine Ev_putI .int flX4_42 fpX4_7 rfl rfl rfl dX4_blame_25 ?_
    have h := h _ rfl
    subst h
    exact R_v rfl dX4_blame_28
set_option maxHeartbeats 4000000 in
set_option maxRecDepth 100000 in
theorem X4_blameLater_ok {d : Nat} {x1 : Int32} {x2 : Int32} {μ μ' : Mem} (h : (((μ.1 2 8) ≠ 0 → μ' = μ) ∧ ((μ.1 2 8) = 0 → (∀ μ1 : Mem, μ1 = sI μ 2 8 x1 → (∀ μ2 : Mem, μ2 = sI μ1 2 9 x2 → μ' = μ2))))) : X4_blameLater d x1 x2 μ μ' := by
  refine Me_of [some (vr 4 0 2), some (vi x1), some (vi x2)] rfl (Nat.le_of_ble_eq_true rfl) (by decide) ?_
  refine Ev_aload_n dX4_blameLater_0 rfl ?_
  refine Ev_getI flX4_45 rfl dX4_blameLater_1 ?_
  refine Ev_if_ne 17 dX4_blameLater_4 (by decide) (fun q => ?_) (fun q => ?_)
  · have h := h.1 q
    subst h
    exact R_v rfl dX4_blameLater_17
  · have h := h.2 q
    refine Ev_aload_n dX4_blameLater_7 rfl ?_
    refine Ev_iload_n dX4_blameLater_8 rfl ?_
    refine Ev_putI .int flX4_45 fpX4_8 rfl rfl rfl dX4_blameLater_9 ?_
    have h := h _ rfl
    refine Ev_aload_n dX4_blameLater_12 rfl ?_
    refine Ev_iload_n dX4_blameLater_13 rfl ?_
    refine Ev_putI .int flX4_48 fpX4_9 rfl rfl rfl dX4_blameLater_14 ?_
    have h := h _ rfl
    subst h
    exact R_v rfl dX4_blameLater_17
set_option maxHeartbeats 4000000 in
set_option maxRecDepth 100000 in
theorem X4_layRow_ok {d : Nat} {x1 : Int64} {x3 : Int32} {μ μ' : Mem} (h : (∃ (y3 : Int32) (μ1 : Mem), X6_lengthOf d x1 μ y3 μ1 ∧ (((μ1.1 (μ1.2.2 2 1) 1) ≠ 0 → ((y3 = (μ1.1 (μ1.2.2 2 1) 0) → X4_layRow_at47 d x1 x3 y3 0 μ1 μ') ∧ (¬ y3 = (μ1.1 (μ1.2.2 2 1) 0) → (∃ (μ4 : Mem), X4_blameLater d 6 x3 μ1 μ4 ∧ X4_layRow_at47 d x1 x3 y3 0 μ4 μ')))) ∧ ((μ1.1 (μ1.2.2 2 1) 1) = 0 → (∀ μ6 : Mem, μ6 = sI μ1 (μ1.2.2 2 1) 0 y3 → ((y3 = (μ6.1 (μ6.2.2 2 1) 0) → X4_layRow_at47 d x1 x3 y3 0 μ6 μ') ∧ (¬ y3 = (μ6.1 (μ6.2.2 2 1) 0) → (∃ (μ7 : Mem), X4_blameLater d 6 x3 μ6 μ7 ∧ X4_layRow_at47 d x1 x3 y3 0 μ7 μ')))))))) : X4_layRow (d + 1) x1 x3 μ μ' := by
  refine Me_of [some (vr 4 0 2), some (vl x1), none, some (vi x3), none, none, none, none] rfl (Nat.le_of_ble_eq_true rfl) (by decide) ?_
  refine Ev_lload_n dX4_layRow_0 rfl ?_
  obtain ⟨y3, μ1, hM2, h⟩ := h
  refine Ev_callS [_] mlX4_143 rfl rfl (Nat.le_of_ble_eq_true rfl) dX4_layRow_1 hM2 ?_
  refine Ev_istore dX4_layRow_4 (Nat.le_of_ble_eq_true rfl) (okp_of rfl) ?_
  refine Ev_aload_n dX4_layRow_6 rfl ?_
  refine Ev_getP flX4_21 rfl dX4_layRow_7 ?_
  refine Ev_getI flX4_136 rfl dX4_layRow_10 ?_
  refine Ev_if_ne 25 dX4_layRow_13 (by decide) (fun q => ?_) (fun q => ?_)
  · have h := h.1 q
    refine Ev_iload dX4_layRow_25 rfl ?_
    refine Ev_aload_n dX4_layRow_27 rfl ?_
    refine Ev_getP flX4_21 rfl dX4_layRow_28 ?_
    refine Ev_getI flX4_147 rfl dX4_layRow_31 ?_
    refine Ev_icmp_eq 44 dX4_layRow_34 (by decide) (fun q => ?_) (fun q => ?_)
    · have h := h.1 q
      refine Ev_iconst 0 dX4_layRow_44 (by decide) ?_
      refine Ev_istore dX4_layRow_45 (Nat.le_of_ble_eq_true rfl) (okp_of rfl) ?_
      exact h
    · have h := h.2 q
      refine Ev_aload_n dX4_layRow_37 rfl ?_
      refine Ev_bipush 6 dX4_layRow_38 (by decide) ?_
      refine Ev_iload_n dX4_layRow_40 rfl ?_
      obtain ⟨μ4, hM5, h⟩ := h
      refine Ev_callV [_, _] mlX4_68 rfl rfl (Nat.le_of_ble_eq_true rfl) dX4_layRow_41 hM5 ?_
      refine Ev_iconst 0 dX4_layRow_44 (by decide) ?_
      refine Ev_istore dX4_layRow_45 (Nat.le_of_ble_eq_true rfl) (okp_of rfl) ?_
      exact h
  · have h := h.2 q
    refine Ev_aload_n dX4_layRow_16 rfl ?_
    refine Ev_getP flX4_21 rfl dX4_layRow_17 ?_
    refine Ev_iload dX4_layRow_20 rfl ?_
    refine Ev_putI .int flX4_147 fpX3_0 rfl rfl rfl dX4_layRow_22 ?_
    have h := h _ rfl
    refine Ev_iload dX4_layRow_25 rfl ?_
    refine Ev_aload_n dX4_layRow_27 rfl ?_
    refine Ev_getP flX4_21 rfl dX4_layRow_28 ?_
    refine Ev_getI flX4_147 rfl dX4_layRow_31 ?_
    refine Ev_icmp_eq 44 dX4_layRow_34 (by decide) (fun q => ?_) (fun q => ?_)
    · have h := h.1 q
      refine Ev_iconst 0 dX4_layRow_44 (by decide) ?_
      refine Ev_istore dX4_layRow_45 (Nat.le_of_ble_eq_true rfl) (okp_of rfl) ?_
      exact h
    · have h := h.2 q
      refine Ev_aload_n dX4_layRow_37 rfl ?_
      refine Ev_bipush 6 dX4_layRow_38 (by decide) ?_
      refine Ev_iload_n dX4_layRow_40 rfl ?_
      obtain ⟨μ7, hM8, h⟩ := h
      refine Ev_callV [_, _] mlX4_68 rfl rfl (Nat.le_of_ble_eq_true rfl) dX4_layRow_41 hM8 ?_
      refine Ev_iconst 0 dX4_layRow_44 (by decide) ?_
      refine Ev_istore dX4_layRow_45 (Nat.le_of_ble_eq_true rfl) (okp_of rfl) ?_
      exact h
set_option maxHeartbeats 4000000 in
set_option maxRecDepth 100000 in
theorem X4_layRow_at47_ok {d : Nat} {x1 : Int64} {x3 : Int32} {x4 : Int32} {x5 : Int32} {μ μ' : Mem} (h : ((x4 ≤ x5 → (∀ μ1 : Mem, μ1 = sI μ (μ.2.2 2 1) 1 ((μ.1 (μ.2.2 2 1) 1) + 1) → μ' = μ1)) ∧ (¬ x4 ≤ x5 → ((8 ≤ x5 → (∀ μ2 : Mem, μ2 = sI μ (μ.2.2 2 1) 1 ((μ.1 (μ.2.2 2 1) 1) + 1) → μ' = μ2)) ∧ (¬ 8 ≤ x5 → (∃ (y5 : Int32) (μ3 : Mem), X6_letterAt d x1 ((x4 - 1) - x5) μ y5 μ3 ∧ (((y5 - 97) < 0 → ((y5 = 111 → X4_layRow_at47 d x1 x3 x4 (x5 + 1) μ3 μ') ∧ (¬ y5 = 111 → (∃ (μ6 : Mem), X4_blameLater d 6 x3 μ3 μ6 ∧ X4_layRow_at47 d x1 x3 x4 (x5 + 1) μ6 μ')))) ∧ (¬ (y5 - 97) < 0 → ((6 ≤ (y5 - 97) → ((y5 = 111 → X4_layRow_at47 d x1 x3 x4 (x5 + 1) μ3 μ') ∧ (¬ y5 = 111 → (∃ (μ8 : Mem), X4_blameLater d 6 x3 μ3 μ8 ∧ X4_layRow_at47 d x1 x3 x4 (x5 + 1) μ8 μ')))) ∧ (¬ 6 ≤ (y5 - 97) → vp_in (((μ3.1 (μ3.2.2 2 1) 1) * 8) + x5) 48 ∧ (∀ μ10 : Mem, μ10 = sI μ3 (μ3.2.2 2 1 + 1) ((((μ3.1 (μ3.2.2 2 1) 1) * 8) + x5).toNatClampNeg) (y5 - 97) → vp_in (y5 - 97) 6 ∧ vp_in (y5 - 97) 6 ∧ (∀ μ11 : Mem, μ11 = sI μ10 (μ10.2.2 2 1 + 2) ((y5 - 97).toNatClampNeg) ((μ10.1 (μ10.2.2 2 1 + 2) ((y5 - 97).toNatClampNeg)) + 1) → X4_layRow_at47 d x1 x3 x4 (x5 + 1) μ11 μ')))))))))))) : X4_layRow_at47 d x1 x3 x4 x5 μ μ' := by
  refine Ev_iload dX4_layRow_47 rfl ?_
  refine Ev_iload dX4_layRow_49 rfl ?_
  refine Ev_icmp_ge 153 dX4_layRow_51 (by decide) (fun q => ?_) (fun q => ?_)
  · have h := h.1 q
    refine Ev_aload_n dX4_layRow_153 rfl ?_
    refine Ev_getP flX4_21 rfl dX4_layRow_154 ?_
    refine Ev_dup dX4_layRow_157 (fun _ z => by cases z) ?_
    refine Ev_getI flX4_136 rfl dX4_layRow_158 ?_
    refine Ev_iconst 1 dX4_layRow_161 (by decide) ?_
    refine Ev_iadd dX4_layRow_162 ?_
    refine Ev_putI .int flX4_136 fpX3_1 rfl rfl rfl dX4_layRow_163 ?_
    have h := h _ rfl
    subst h
    exact R_v rfl dX4_layRow_166
  · have h := h.2 q
    refine Ev_iload dX4_layRow_54 rfl ?_
    refine Ev_bipush 8 dX4_layRow_56 (by decide) ?_
    refine Ev_icmp_ge 153 dX4_layRow_58 (by decide) (fun q => ?_) (fun q => ?_)
    · have h := h.1 q
      refine Ev_aload_n dX4_layRow_153 rfl ?_
      refine Ev_getP flX4_21 rfl dX4_layRow_154 ?_
      refine Ev_dup dX4_layRow_157 (fun _ z => by cases z) ?_
      refine Ev_getI flX4_136 rfl dX4_layRow_158 ?_
      refine Ev_iconst 1 dX4_layRow_161 (by decide) ?_
      refine Ev_iadd dX4_layRow_162 ?_
      refine Ev_putI .int flX4_136 fpX3_1 rfl rfl rfl dX4_layRow_163 ?_
      have h := h _ rfl
      subst h
      exact R_v rfl dX4_layRow_166
    · have h := h.2 q
      refine Ev_lload_n dX4_layRow_61 rfl ?_
      refine Ev_iload dX4_layRow_62 rfl ?_
      refine Ev_iconst 1 dX4_layRow_64 (by decide) ?_
      refine Ev_isub dX4_layRow_65 ?_
      refine Ev_iload dX4_layRow_66 rfl ?_
      refine Ev_isub dX4_layRow_68 ?_
      obtain ⟨y5, μ3, hM4, h⟩ := h
      refine Ev_callS [_, _] mlX4_150 rfl rfl (Nat.le_of_ble_eq_true rfl) dX4_layRow_69 hM4 ?_
      refine Ev_istore dX4_layRow_72 (Nat.le_of_ble_eq_true rfl) (okp_of rfl) ?_
      refine Ev_iload dX4_layRow_74 rfl ?_
      refine Ev_bipush 97 dX4_layRow_76 (by decide) ?_
      refine Ev_isub dX4_layRow_78 ?_
      refine Ev_istore dX4_layRow_79 (Nat.le_of_ble_eq_true rfl) (okp_of rfl) ?_
      refine Ev_iload dX4_layRow_81 rfl ?_
      refine Ev_if_lt 133 dX4_layRow_83 (by decide) (fun q => ?_) (fun q => ?_)
      · have h := h.1 q
        refine Ev_iload dX4_layRow_133 rfl ?_
        refine Ev_bipush 111 dX4_layRow_135 (by decide) ?_
        refine Ev_icmp_eq 147 dX4_layRow_137 (by decide) (fun q => ?_) (fun q => ?_)
        · have h := h.1 q
          refine Ev_iinc (x5 + 1) dX4_layRow_147 rfl rfl (okp_of rfl) ?_
          refine Ev_goto 47 dX4_layRow_150 (by decide) ?_
          refine Ev_weak ?_ h
          exact And.intro rfl (And.intro rfl (And.intro trivial (And.intro rfl (And.intro rfl (And.intro rfl (And.intro trivial (And.intro trivial (trivial))))))))
        · have h := h.2 q
          refine Ev_aload_n dX4_layRow_140 rfl ?_
          refine Ev_bipush 6 dX4_layRow_141 (by decide) ?_
          refine Ev_iload_n dX4_layRow_143 rfl ?_
          obtain ⟨μ6, hM7, h⟩ := h
          refine Ev_callV [_, _] mlX4_68 rfl rfl (Nat.le_of_ble_eq_true rfl) dX4_layRow_144 hM7 ?_
          refine Ev_iinc (x5 + 1) dX4_layRow_147 rfl rfl (okp_of rfl) ?_
          refine Ev_goto 47 dX4_layRow_150 (by decide) ?_
          refine Ev_weak ?_ h
          exact And.intro rfl (And.intro rfl (And.intro trivial (And.intro rfl (And.intro rfl (And.intro rfl (And.intro trivial (And.intro trivial (trivial))))))))
      · have h := h.2 q
        refine Ev_iload dX4_layRow_86 rfl ?_
        refine Ev_bipush 6 dX4_layRow_88 (by decide) ?_
        refine Ev_icmp_ge 133 dX4_layRow_90 (by decide) (fun q => ?_) (fun q => ?_)
        · have h := h.1 q
          refine Ev_iload dX4_layRow_133 rfl ?_
          refine Ev_bipush 111 dX4_layRow_135 (by decide) ?_
          refine Ev_icmp_eq 147 dX4_layRow_137 (by decide) (fun q => ?_) (fun q => ?_)
          · have h := h.1 q
            refine Ev_iinc (x5 + 1) dX4_layRow_147 rfl rfl (okp_of rfl) ?_
            refine Ev_goto 47 dX4_layRow_150 (by decide) ?_
            refine Ev_weak ?_ h
            exact And.intro rfl (And.intro rfl (And.intro trivial (And.intro rfl (And.intro rfl (And.intro rfl (And.intro trivial (And.intro trivial (trivial))))))))
          · have h := h.2 q
            refine Ev_aload_n dX4_layRow_140 rfl ?_
            refine Ev_bipush 6 dX4_layRow_141 (by decide) ?_
            refine Ev_iload_n dX4_layRow_143 rfl ?_
            obtain ⟨μ8, hM9, h⟩ := h
            refine Ev_callV [_, _] mlX4_68 rfl rfl (Nat.le_of_ble_eq_true rfl) dX4_layRow_144 hM9 ?_
            refine Ev_iinc (x5 + 1) dX4_layRow_147 rfl rfl (okp_of rfl) ?_
            refine Ev_goto 47 dX4_layRow_150 (by decide) ?_
            refine Ev_weak ?_ h
            exact And.intro rfl (And.intro rfl (And.intro trivial (And.intro rfl (And.intro rfl (And.intro rfl (And.intro trivial (And.intro trivial (trivial))))))))
        · have h := h.2 q
          refine Ev_aload_n dX4_layRow_93 rfl ?_
          refine Ev_getP flX4_21 rfl dX4_layRow_94 ?_
          refine Ev_getF 11 48 1 flX4_61 rfl dX4_layRow_97 ?_
          refine Ev_aload_n dX4_layRow_100 rfl ?_
          refine Ev_getP flX4_21 rfl dX4_layRow_101 ?_
          refine Ev_getI flX4_136 rfl dX4_layRow_104 ?_
          refine Ev_bipush 8 dX4_layRow_107 (by decide) ?_
          refine Ev_imul dX4_layRow_109 ?_
          refine Ev_iload dX4_layRow_110 rfl ?_
          refine Ev_iadd dX4_layRow_112 ?_
          refine Ev_iload dX4_layRow_113 rfl ?_
          obtain ⟨g, h⟩ := h
          refine Ev_iast g dX4_layRow_115 ?_
          have h := h _ rfl
          refine Ev_aload_n dX4_layRow_116 rfl ?_
          refine Ev_getP flX4_21 rfl dX4_layRow_117 ?_
          refine Ev_getF 11 6 2 flX4_154 rfl dX4_layRow_120 ?_
          refine Ev_iload dX4_layRow_123 rfl ?_
          refine Ev_dup2 dX4_layRow_125 ?_
          obtain ⟨g, h⟩ := h
          refine Ev_iald g dX4_layRow_126 ?_
          refine Ev_iconst 1 dX4_layRow_127 (by decide) ?_
          refine Ev_iadd dX4_layRow_128 ?_
          obtain ⟨g, h⟩ := h
          refine Ev_iast g dX4_layRow_129 ?_
          have h := h _ rfl
          refine Ev_goto 147 dX4_layRow_130 (by decide) ?_
          refine Ev_iinc (x5 + 1) dX4_layRow_147 rfl rfl (okp_of rfl) ?_
          refine Ev_goto 47 dX4_layRow_150 (by decide) ?_
          refine Ev_weak ?_ h
          exact And.intro rfl (And.intro rfl (And.intro trivial (And.intro rfl (And.intro rfl (And.intro rfl (And.intro trivial (And.intro trivial (trivial))))))))
set_option maxHeartbeats 4000000 in
set_option maxRecDepth 100000 in
theorem X4_productCode_ok {d : Nat}  {μ μ' : Mem} {x : Int32} (h : (((μ.1 2 3) ≠ 27 → (((μ.1 2 3) ≠ 28 → (x = 0 ∧ μ' = μ)) ∧ ((μ.1 2 3) = 28 → (x = (-13) ∧ μ' = μ)))) ∧ ((μ.1 2 3) = 27 → (x = (-12) ∧ μ' = μ)))) : X4_productCode d μ x μ' := by
  refine Me_of [some (vr 4 0 2)] rfl (Nat.le_of_ble_eq_true rfl) (by decide) ?_
  refine Ev_aload_n dX4_productCode_0 rfl ?_
  refine Ev_getI flX4_29 rfl dX4_productCode_1 ?_
  refine Ev_bipush 27 dX4_productCode_4 (by decide) ?_
  refine Ev_icmp_ne 14 dX4_productCode_6 (by decide) (fun q => ?_) (fun q => ?_)
  · have h := h.1 q
    refine Ev_aload_n dX4_productCode_14 rfl ?_
    refine Ev_getI flX4_29 rfl dX4_productCode_15 ?_
    refine Ev_bipush 28 dX4_productCode_18 (by decide) ?_
    refine Ev_icmp_ne 28 dX4_productCode_20 (by decide) (fun q => ?_) (fun q => ?_)
    · have h := h.1 q
      refine Ev_iconst 0 dX4_productCode_28 (by decide) ?_
      obtain ⟨rfl, rfl⟩ := h
      exact R_i rfl dX4_productCode_29 rfl
    · have h := h.2 q
      refine Ev_bipush (-13) dX4_productCode_23 (by decide) ?_
      refine Ev_goto 29 dX4_productCode_25 (by decide) ?_
      obtain ⟨rfl, rfl⟩ := h
      exact R_i rfl dX4_productCode_29 rfl
  · have h := h.2 q
    refine Ev_bipush (-12) dX4_productCode_9 (by decide) ?_
    refine Ev_goto 29 dX4_productCode_11 (by decide) ?_
    obtain ⟨rfl, rfl⟩ := h
    exact R_i rfl dX4_productCode_29 rfl
set_option maxHeartbeats 4000000 in
set_option maxRecDepth 100000 in
theorem X4_readField_ok {d : Nat}  {μ μ' : Mem} (h : (((μ.1 (μ.2.2 2 1) 2) < 6 → (∃ (y3 : Int32) (μ1 : Mem), X4_accept d 1 μ y3 μ1 ∧ (∃ (μ4 : Mem), X4_readName d μ1 μ4 ∧ (∃ (y8 : Int32) (μ6 : Mem), X4_readInt d 0 99 μ4 y8 μ6 ∧ vp_in (μ4.1 (μ4.2.2 2 1) 2) 6 ∧ (∀ μ9 : Mem, μ9 = sI μ6 (μ4.2.2 2 1 + 3) ((μ4.1 (μ4.2.2 2 1) 2).toNatClampNeg) y8 → (∃ (y12 : Int32) (μ10 : Mem), X4_readInt d 0 999 μ9 y12 μ10 ∧ vp_in (μ9.1 (μ9.2.2 2 1) 2) 6 ∧ (∀ μ13 : Mem, μ13 = sI μ10 (μ9.2.2 2 1 + 4) ((μ9.1 (μ9.2.2 2 1) 2).toNatClampNeg) y12 → (∀ μ14 : Mem, μ14 = sI μ13 (μ13.2.2 2 1) 2 ((μ13.1 (μ13.2.2 2 1) 2) + 1) → μ' = μ14)))))))) ∧ (¬ (μ.1 (μ.2.2 2 1) 2) < 6 → (∃ (μ15 : Mem), X4_blame d 2 μ μ15 ∧ μ' = μ15)))) : X4_readField (d + 1) μ μ' := by
  refine Me_of [some (vr 4 0 2)] rfl (Nat.le_of_ble_eq_true rfl) (by decide) ?_
  refine Ev_aload_n dX4_readField_0 rfl ?_
  refine Ev_getP flX4_21 rfl dX4_readField_1 ?_
  refine Ev_getI flX4_65 rfl dX4_readField_4 ?_
  refine Ev_bipush 6 dX4_readField_7 (by decide) ?_
  refine Ev_icmp_lt 18 dX4_readField_9 (by decide) (fun q => ?_) (fun q => ?_)
  · have h := h.1 q
    refine Ev_aload_n dX4_readField_18 rfl ?_
    refine Ev_iconst 1 dX4_readField_19 (by decide) ?_
    obtain ⟨y3, μ1, hM2, h⟩ := h
    refine Ev_callV [_] mlX4_111 rfl rfl (Nat.le_of_ble_eq_true rfl) dX4_readField_20 hM2 ?_
    refine Ev_pop dX4_readField_23 (fun _ z => by cases z) ?_
    refine Ev_aload_n dX4_readField_24 rfl ?_
    obtain ⟨μ4, hM5, h⟩ := h
    refine Ev_callV [] mlX4_157 rfl rfl (Nat.le_of_ble_eq_true rfl) dX4_readField_25 hM5 ?_
    refine Ev_aload_n dX4_readField_28 rfl ?_
    refine Ev_getP flX4_21 rfl dX4_readField_29 ?_
    refine Ev_getF 11 6 3 flX4_160 rfl dX4_readField_32 ?_
    refine Ev_aload_n dX4_readField_35 rfl ?_
    refine Ev_getP flX4_21 rfl dX4_readField_36 ?_
    refine Ev_getI flX4_65 rfl dX4_readField_39 ?_
    refine Ev_aload_n dX4_readField_42 rfl ?_
    refine Ev_iconst 0 dX4_readField_43 (by decide) ?_
    refine Ev_bipush 99 dX4_readField_44 (by decide) ?_
    obtain ⟨y8, μ6, hM7, h⟩ := h
    refine Ev_callV [_, _] mlX4_115 rfl rfl (Nat.le_of_ble_eq_true rfl) dX4_readField_46 hM7 ?_
    obtain ⟨g, h⟩ := h
    refine Ev_iast g dX4_readField_49 ?_
    have h := h _ rfl
    refine Ev_aload_n dX4_readField_50 rfl ?_
    refine Ev_getP flX4_21 rfl dX4_readField_51 ?_
    refine Ev_getF 11 6 4 flX4_163 rfl dX4_readField_54 ?_
    refine Ev_aload_n dX4_readField_57 rfl ?_
    refine Ev_getP flX4_21 rfl dX4_readField_58 ?_
    refine Ev_getI flX4_65 rfl dX4_readField_61 ?_
    refine Ev_aload_n dX4_readField_64 rfl ?_
    refine Ev_iconst 0 dX4_readField_65 (by decide) ?_
    refine Ev_sipush 999 dX4_readField_66 (by decide) ?_
    obtain ⟨y12, μ10, hM11, h⟩ := h
    refine Ev_callV [_, _] mlX4_115 rfl rfl (Nat.le_of_ble_eq_true rfl) dX4_readField_69 hM11 ?_
    obtain ⟨g, h⟩ := h
    refine Ev_iast g dX4_readField_72 ?_
    have h := h _ rfl
    refine Ev_aload_n dX4_readField_73 rfl ?_
    refine Ev_getP flX4_21 rfl dX4_readField_74 ?_
    refine Ev_dup dX4_readField_77 (fun _ z => by cases z) ?_
    refine Ev_getI flX4_65 rfl dX4_readField_78 ?_
    refine Ev_iconst 1 dX4_readField_81 (by decide) ?_
    refine Ev_iadd dX4_readField_82 ?_
    refine Ev_putI .int flX4_65 fpX3_2 rfl rfl rfl dX4_readField_83 ?_
    have h := h _ rfl
    subst h
    exact R_v rfl dX4_readField_86
  · have h := h.2 q
    refine Ev_aload_n dX4_readField_12 rfl ?_
    refine Ev_iconst 2 dX4_readField_13 (by decide) ?_
    obtain ⟨μ15, hM16, h⟩ := h
    refine Ev_callV [_] mlX4_84 rfl rfl (Nat.le_of_ble_eq_true rfl) dX4_readField_14 hM16 ?_
    subst h
    exact R_v rfl dX4_readField_17
set_option maxHeartbeats 4000000 in
set_option maxRecDepth 100000 in
theorem X4_readInt_ok {d : Nat} {x1 : Int32} {x2 : Int32} {μ μ' : Mem} {x : Int32} (h : (∃ (y3 : Int64) (μ1 : Mem), X4_value d μ y3 μ1 ∧ (∃ (y6 : Int32) (μ4 : Mem), X4_start d μ1 y6 μ4 ∧ (∃ (y9 : Int32) (μ7 : Mem), X4_accept d 22 μ4 y9 μ7 ∧ ((y9 = 0 → (x = y3.toInt32 ∧ μ' = μ7)) ∧ (¬ y9 = 0 → ((y3.toInt32 < x1 → (∃ (μ10 : Mem), X4_blameLater d 5 y6 μ7 μ10 ∧ (x = y3.toInt32 ∧ μ' = μ10))) ∧ (¬ y3.toInt32 < x1 → ((y3.toInt32 ≤ x2 → (x = y3.toInt32 ∧ μ' = μ7)) ∧ (¬ y3.toInt32 ≤ x2 → (∃ (μ12 : Mem), X4_blameLater d 5 y6 μ7 μ12 ∧ (x = y3.toInt32 ∧ μ' = μ12)))))))))))) : X4_readInt (d + 1) x1 x2 μ x μ' := by
  refine Me_of [some (vr 4 0 2), some (vi x1), some (vi x2), none, none] rfl (Nat.le_of_ble_eq_true rfl) (by decide) ?_
  refine Ev_aload_n dX4_readInt_0 rfl ?_
  obtain ⟨y3, μ1, hM2, h⟩ := h
  refine Ev_callV [] mlX4_128 rfl rfl (Nat.le_of_ble_eq_true rfl) dX4_readInt_1 hM2 ?_
  refine Ev_l2i dX4_readInt_4 ?_
  refine Ev_istore_n dX4_readInt_5 (Nat.le_of_ble_eq_true rfl) (okp_of rfl) ?_
  refine Ev_aload_n dX4_readInt_6 rfl ?_
  obtain ⟨y6, μ4, hM5, h⟩ := h
  refine Ev_callV [] mlX4_132 rfl rfl (Nat.le_of_ble_eq_true rfl) dX4_readInt_7 hM5 ?_
  refine Ev_istore dX4_readInt_10 (Nat.le_of_ble_eq_true rfl) (okp_of rfl) ?_
  refine Ev_aload_n dX4_readInt_12 rfl ?_
  refine Ev_bipush 22 dX4_readInt_13 (by decide) ?_
  obtain ⟨y9, μ7, hM8, h⟩ := h
  refine Ev_callV [_] mlX4_111 rfl rfl (Nat.le_of_ble_eq_true rfl) dX4_readInt_15 hM8 ?_
  refine Ev_if_eq 38 dX4_readInt_18 (by decide) (fun q => ?_) (fun q => ?_)
  · have h := h.1 q
    refine Ev_iload_n dX4_readInt_38 rfl ?_
    obtain ⟨rfl, rfl⟩ := h
    exact R_i rfl dX4_readInt_39 rfl
  · have h := h.2 q
    refine Ev_iload_n dX4_readInt_21 rfl ?_
    refine Ev_iload_n dX4_readInt_22 rfl ?_
    refine Ev_icmp_lt 31 dX4_readInt_23 (by decide) (fun q => ?_) (fun q => ?_)
    · have h := h.1 q
      refine Ev_aload_n dX4_readInt_31 rfl ?_
      refine Ev_iconst 5 dX4_readInt_32 (by decide) ?_
      refine Ev_iload dX4_readInt_33 rfl ?_
      obtain ⟨μ10, hM11, h⟩ := h
      refine Ev_callV [_, _] mlX4_68 rfl rfl (Nat.le_of_ble_eq_true rfl) dX4_readInt_35 hM11 ?_
      refine Ev_iload_n dX4_readInt_38 rfl ?_
      obtain ⟨rfl, rfl⟩ := h
      exact R_i rfl dX4_readInt_39 rfl
    · have h := h.2 q
      refine Ev_iload_n dX4_readInt_26 rfl ?_
      refine Ev_iload_n dX4_readInt_27 rfl ?_
      refine Ev_icmp_le 38 dX4_readInt_28 (by decide) (fun q => ?_) (fun q => ?_)
      · have h := h.1 q
        refine Ev_iload_n dX4_readInt_38 rfl ?_
        obtain ⟨rfl, rfl⟩ := h
        exact R_i rfl dX4_readInt_39 rfl
      · have h := h.2 q
        refine Ev_aload_n dX4_readInt_31 rfl ?_
        refine Ev_iconst 5 dX4_readInt_32 (by decide) ?_
        refine Ev_iload dX4_readInt_33 rfl ?_
        obtain ⟨μ12, hM13, h⟩ := h
        refine Ev_callV [_, _] mlX4_68 rfl rfl (Nat.le_of_ble_eq_true rfl) dX4_readInt_35 hM13 ?_
        refine Ev_iload_n dX4_readInt_38 rfl ?_
        obtain ⟨rfl, rfl⟩ := h
        exact R_i rfl dX4_readInt_39 rfl
set_option maxHeartbeats 4000000 in
set_option maxRecDepth 100000 in
theorem X4_readLaw_ok {d : Nat} {a1 : Nat} {μ μ' : Mem} (h : (∃ (μ1 : Mem), X1_clear d a1 μ μ1 ∧ (∃ (y5 : Int32) (μ3 : Mem), X4_accept d (μ1.1 2 3) μ1 y5 μ3 ∧ (∃ (y8 : Int32) (μ6 : Mem), X4_accept d 24 μ3 y8 μ6 ∧ X4_readLaw_at22 d a1 0 μ6 μ')))) : X4_readLaw (d + 1) a1 μ μ' := by
  refine Me_of [some (vr 4 0 2), some (vr 1 0 a1), none, none] rfl (Nat.le_of_ble_eq_true rfl) (by decide) ?_
  refine Ev_aload_n dX4_readLaw_0 rfl ?_
  obtain ⟨μ1, hM2, h⟩ := h
  refine Ev_callV [] mlX4_175 rfl rfl (Nat.le_of_ble_eq_true rfl) dX4_readLaw_1 hM2 ?_
  refine Ev_aload_n dX4_readLaw_4 rfl ?_
  refine Ev_aload_n dX4_readLaw_5 rfl ?_
  refine Ev_getI flX4_29 rfl dX4_readLaw_6 ?_
  obtain ⟨y5, μ3, hM4, h⟩ := h
  refine Ev_callV [_] mlX4_111 rfl rfl (Nat.le_of_ble_eq_true rfl) dX4_readLaw_9 hM4 ?_
  refine Ev_pop dX4_readLaw_12 (fun _ z => by cases z) ?_
  refine Ev_aload_n dX4_readLaw_13 rfl ?_
  refine Ev_bipush 24 dX4_readLaw_14 (by decide) ?_
  obtain ⟨y8, μ6, hM7, h⟩ := h
  refine Ev_callV [_] mlX4_111 rfl rfl (Nat.le_of_ble_eq_true rfl) dX4_readLaw_16 hM7 ?_
  refine Ev_pop dX4_readLaw_19 (fun _ z => by cases z) ?_
  refine Ev_iconst 0 dX4_readLaw_20 (by decide) ?_
  refine Ev_istore_n dX4_readLaw_21 (Nat.le_of_ble_eq_true rfl) (okp_of rfl) ?_
  exact h
set_option maxHeartbeats 4000000 in
set_option maxRecDepth 100000 in
theorem X4_readLaw_at22_ok {d : Nat} {a1 : Nat} {x2 : Int32} {μ μ' : Mem} (h : ((4 < x2 → (∃ (μ1 : Mem), X4_readSum d a1 0 μ μ1 ∧ (∃ (μ3 : Mem), X1_put d a1 (-15) μ1 μ3 ∧ μ' = μ3))) ∧ (¬ 4 < x2 → (((μ.1 2 6) ≠ 0 → (∃ (μ5 : Mem), X4_readSum d a1 0 μ μ5 ∧ (∃ (μ7 : Mem), X1_put d a1 (-15) μ5 μ7 ∧ μ' = μ7))) ∧ ((μ.1 2 6) = 0 → (((μ.1 2 3) ≠ 9 → (∃ (μ9 : Mem), X4_readSum d a1 0 μ μ9 ∧ (∃ (μ11 : Mem), X1_put d a1 (-15) μ9 μ11 ∧ μ' = μ11))) ∧ ((μ.1 2 3) = 9 → ((x2 ≠ 4 → (∃ (y15 : Int32) (μ13 : Mem), X4_accept d 9 μ y15 μ13 ∧ (∃ (μ16 : Mem), X4_readSum d a1 0 μ13 μ16 ∧ (∃ (y20 : Int32) (μ18 : Mem), X4_accept d 29 μ16 y20 μ18 ∧ (∃ (μ21 : Mem), X4_readSum d a1 0 μ18 μ21 ∧ (∃ (y25 : Int32) (μ23 : Mem), X4_accept d 10 μ21 y25 μ23 ∧ (∃ (y28 : Int32) (μ26 : Mem), X1_putUnlessLess d a1 μ23 y28 μ26 ∧ (∃ (μ29 : Mem), X4_readSum d a1 0 μ26 μ29 ∧ (∃ (y33 : Int32) (μ31 : Mem), X4_accept d 11 μ29 y33 μ31 ∧ (∃ (μ34 : Mem), X1_put d a1 (-15) μ31 μ34 ∧ (∃ (μ36 : Mem), X1_aimHere d a1 y28 μ34 μ36 ∧ X4_readLaw_at22 d a1 (x2 + 1) μ36 μ'))))))))))) ∧ (x2 = 4 → (∃ (μ38 : Mem), X4_blame d 2 μ μ38 ∧ (∃ (y42 : Int32) (μ40 : Mem), X4_accept d 9 μ38 y42 μ40 ∧ (∃ (μ43 : Mem), X4_readSum d a1 0 μ40 μ43 ∧ (∃ (y47 : Int32) (μ45 : Mem), X4_accept d 29 μ43 y47 μ45 ∧ (∃ (μ48 : Mem), X4_readSum d a1 0 μ45 μ48 ∧ (∃ (y52 : Int32) (μ50 : Mem), X4_accept d 10 μ48 y52 μ50 ∧ (∃ (y55 : Int32) (μ53 : Mem), X1_putUnlessLess d a1 μ50 y55 μ53 ∧ (∃ (μ56 : Mem), X4_readSum d a1 0 μ53 μ56 ∧ (∃ (y60 : Int32) (μ58 : Mem), X4_accept d 11 μ56 y60 μ58 ∧ (∃ (μ61 : Mem), X1_put d a1 (-15) μ58 μ61 ∧ (∃ (μ63 : Mem), X1_aimHere d a1 y55 μ61 μ63 ∧ X4_readLaw_at22 d a1 (x2 + 1) μ63 μ')))))))))))))))))))) : X4_readLaw_at22 d a1 x2 μ μ' := by
  refine Ev_iload_n dX4_readLaw_22 rfl ?_
  refine Ev_iconst 4 dX4_readLaw_23 (by decide) ?_
  refine Ev_icmp_gt 121 dX4_readLaw_24 (by decide) (fun q => ?_) (fun q => ?_)
  · have h := h.1 q
    refine Ev_aload_n dX4_readLaw_121 rfl ?_
    refine Ev_aload_n dX4_readLaw_122 rfl ?_
    refine Ev_iconst 0 dX4_readLaw_123 (by decide) ?_
    obtain ⟨μ1, hM2, h⟩ := h
    refine Ev_callV [_, _] mlX4_178 rfl rfl (Nat.le_of_ble_eq_true rfl) dX4_readLaw_124 hM2 ?_
    refine Ev_aload_n dX4_readLaw_127 rfl ?_
    refine Ev_bipush (-15) dX4_readLaw_128 (by decide) ?_
    obtain ⟨μ3, hM4, h⟩ := h
    refine Ev_callV [_] mlX4_185 rfl rfl (Nat.le_of_ble_eq_true rfl) dX4_readLaw_130 hM4 ?_
    subst h
    exact R_v rfl dX4_readLaw_133
  · have h := h.2 q
    refine Ev_aload_n dX4_readLaw_27 rfl ?_
    refine Ev_getI flX4_39 rfl dX4_readLaw_28 ?_
    refine Ev_if_ne 121 dX4_readLaw_31 (by decide) (fun q => ?_) (fun q => ?_)
    · have h := h.1 q
      refine Ev_aload_n dX4_readLaw_121 rfl ?_
      refine Ev_aload_n dX4_readLaw_122 rfl ?_
      refine Ev_iconst 0 dX4_readLaw_123 (by decide) ?_
      obtain ⟨μ5, hM6, h⟩ := h
      refine Ev_callV [_, _] mlX4_178 rfl rfl (Nat.le_of_ble_eq_true rfl) dX4_readLaw_124 hM6 ?_
      refine Ev_aload_n dX4_readLaw_127 rfl ?_
      refine Ev_bipush (-15) dX4_readLaw_128 (by decide) ?_
      obtain ⟨μ7, hM8, h⟩ := h
      refine Ev_callV [_] mlX4_185 rfl rfl (Nat.le_of_ble_eq_true rfl) dX4_readLaw_130 hM8 ?_
      subst h
      exact R_v rfl dX4_readLaw_133
    · have h := h.2 q
      refine Ev_aload_n dX4_readLaw_34 rfl ?_
      refine Ev_getI flX4_29 rfl dX4_readLaw_35 ?_
      refine Ev_bipush 9 dX4_readLaw_38 (by decide) ?_
      refine Ev_icmp_ne 121 dX4_readLaw_40 (by decide) (fun q => ?_) (fun q => ?_)
      · have h := h.1 q
        refine Ev_aload_n dX4_readLaw_121 rfl ?_
        refine Ev_aload_n dX4_readLaw_122 rfl ?_
        refine Ev_iconst 0 dX4_readLaw_123 (by decide) ?_
        obtain ⟨μ9, hM10, h⟩ := h
        refine Ev_callV [_, _] mlX4_178 rfl rfl (Nat.le_of_ble_eq_true rfl) dX4_readLaw_124 hM10 ?_
        refine Ev_aload_n dX4_readLaw_127 rfl ?_
        refine Ev_bipush (-15) dX4_readLaw_128 (by decide) ?_
        obtain ⟨μ11, hM12, h⟩ := h
        refine Ev_callV [_] mlX4_185 rfl rfl (Nat.le_of_ble_eq_true rfl) dX4_readLaw_130 hM12 ?_
        subst h
        exact R_v rfl dX4_readLaw_133
      · have h := h.2 q
        refine Ev_iload_n dX4_readLaw_43 rfl ?_
        refine Ev_iconst 4 dX4_readLaw_44 (by decide) ?_
        refine Ev_icmp_ne 53 dX4_readLaw_45 (by decide) (fun q => ?_) (fun q => ?_)
        · have h := h.1 q
          refine Ev_aload_n dX4_readLaw_53 rfl ?_
          refine Ev_bipush 9 dX4_readLaw_54 (by decide) ?_
          obtain ⟨y15, μ13, hM14, h⟩ := h
          refine Ev_callV [_] mlX4_111 rfl rfl (Nat.le_of_ble_eq_true rfl) dX4_readLaw_56 hM14 ?_
          refine Ev_pop dX4_readLaw_59 (fun _ z => by cases z) ?_
          refine Ev_aload_n dX4_readLaw_60 rfl ?_
          refine Ev_aload_n dX4_readLaw_61 rfl ?_
          refine Ev_iconst 0 dX4_readLaw_62 (by decide) ?_
          obtain ⟨μ16, hM17, h⟩ := h
          refine Ev_callV [_, _] mlX4_178 rfl rfl (Nat.le_of_ble_eq_true rfl) dX4_readLaw_63 hM17 ?_
          refine Ev_aload_n dX4_readLaw_66 rfl ?_
          refine Ev_bipush 29 dX4_readLaw_67 (by decide) ?_
          obtain ⟨y20, μ18, hM19, h⟩ := h
          refine Ev_callV [_] mlX4_111 rfl rfl (Nat.le_of_ble_eq_true rfl) dX4_readLaw_69 hM19 ?_
          refine Ev_pop dX4_readLaw_72 (fun _ z => by cases z) ?_
          refine Ev_aload_n dX4_readLaw_73 rfl ?_
          refine Ev_aload_n dX4_readLaw_74 rfl ?_
          refine Ev_iconst 0 dX4_readLaw_75 (by decide) ?_
          obtain ⟨μ21, hM22, h⟩ := h
          refine Ev_callV [_, _] mlX4_178 rfl rfl (Nat.le_of_ble_eq_true rfl) dX4_readLaw_76 hM22 ?_
          refine Ev_aload_n dX4_readLaw_79 rfl ?_
          refine Ev_bipush 10 dX4_readLaw_80 (by decide) ?_
          obtain ⟨y25, μ23, hM24, h⟩ := h
          refine Ev_callV [_] mlX4_111 rfl rfl (Nat.le_of_ble_eq_true rfl) dX4_readLaw_82 hM24 ?_
          refine Ev_pop dX4_readLaw_85 (fun _ z => by cases z) ?_
          refine Ev_aload_n dX4_readLaw_86 rfl ?_
          obtain ⟨y28, μ26, hM27, h⟩ := h
          refine Ev_callV [] mlX4_182 rfl rfl (Nat.le_of_ble_eq_true rfl) dX4_readLaw_87 hM27 ?_
          refine Ev_istore_n dX4_readLaw_90 (Nat.le_of_ble_eq_true rfl) (okp_of rfl) ?_
          refine Ev_aload_n dX4_readLaw_91 rfl ?_
          refine Ev_aload_n dX4_readLaw_92 rfl ?_
          refine Ev_iconst 0 dX4_readLaw_93 (by decide) ?_
          obtain ⟨μ29, hM30, h⟩ := h
          refine Ev_callV [_, _] mlX4_178 rfl rfl (Nat.le_of_ble_eq_true rfl) dX4_readLaw_94 hM30 ?_
          refine Ev_aload_n dX4_readLaw_97 rfl ?_
          refine Ev_bipush 11 dX4_readLaw_98 (by decide) ?_
          obtain ⟨y33, μ31, hM32, h⟩ := h
          refine Ev_callV [_] mlX4_111 rfl rfl (Nat.le_of_ble_eq_true rfl) dX4_readLaw_100 hM32 ?_
          refine Ev_pop dX4_readLaw_103 (fun _ z => by cases z) ?_
          refine Ev_aload_n dX4_readLaw_104 rfl ?_
          refine Ev_bipush (-15) dX4_readLaw_105 (by decide) ?_
          obtain ⟨μ34, hM35, h⟩ := h
          refine Ev_callV [_] mlX4_185 rfl rfl (Nat.le_of_ble_eq_true rfl) dX4_readLaw_107 hM35 ?_
          refine Ev_aload_n dX4_readLaw_110 rfl ?_
          refine Ev_iload_n dX4_readLaw_111 rfl ?_
          obtain ⟨μ36, hM37, h⟩ := h
          refine Ev_callV [_] mlX4_188 rfl rfl (Nat.le_of_ble_eq_true rfl) dX4_readLaw_112 hM37 ?_
          refine Ev_iinc (x2 + 1) dX4_readLaw_115 rfl rfl (okp_of rfl) ?_
          refine Ev_goto 22 dX4_readLaw_118 (by decide) ?_
          refine Ev_weak ?_ h
          exact And.intro rfl (And.intro rfl (And.intro rfl (And.intro trivial (trivial))))
        · have h := h.2 q
          refine Ev_aload_n dX4_readLaw_48 rfl ?_
          refine Ev_iconst 2 dX4_readLaw_49 (by decide) ?_
          obtain ⟨μ38, hM39, h⟩ := h
          refine Ev_callV [_] mlX4_84 rfl rfl (Nat.le_of_ble_eq_true rfl) dX4_readLaw_50 hM39 ?_
          refine Ev_aload_n dX4_readLaw_53 rfl ?_
          refine Ev_bipush 9 dX4_readLaw_54 (by decide) ?_
          obtain ⟨y42, μ40, hM41, h⟩ := h
          refine Ev_callV [_] mlX4_111 rfl rfl (Nat.le_of_ble_eq_true rfl) dX4_readLaw_56 hM41 ?_
          refine Ev_pop dX4_readLaw_59 (fun _ z => by cases z) ?_
          refine Ev_aload_n dX4_readLaw_60 rfl ?_
          refine Ev_aload_n dX4_readLaw_61 rfl ?_
          refine Ev_iconst 0 dX4_readLaw_62 (by decide) ?_
          obtain ⟨μ43, hM44, h⟩ := h
          refine Ev_callV [_, _] mlX4_178 rfl rfl (Nat.le_of_ble_eq_true rfl) dX4_readLaw_63 hM44 ?_
          refine Ev_aload_n dX4_readLaw_66 rfl ?_
          refine Ev_bipush 29 dX4_readLaw_67 (by decide) ?_
          obtain ⟨y47, μ45, hM46, h⟩ := h
          refine Ev_callV [_] mlX4_111 rfl rfl (Nat.le_of_ble_eq_true rfl) dX4_readLaw_69 hM46 ?_
          refine Ev_pop dX4_readLaw_72 (fun _ z => by cases z) ?_
          refine Ev_aload_n dX4_readLaw_73 rfl ?_
          refine Ev_aload_n dX4_readLaw_74 rfl ?_
          refine Ev_iconst 0 dX4_readLaw_75 (by decide) ?_
          obtain ⟨μ48, hM49, h⟩ := h
          refine Ev_callV [_, _] mlX4_178 rfl rfl (Nat.le_of_ble_eq_true rfl) dX4_readLaw_76 hM49 ?_
          refine Ev_aload_n dX4_readLaw_79 rfl ?_
          refine Ev_bipush 10 dX4_readLaw_80 (by decide) ?_
          obtain ⟨y52, μ50, hM51, h⟩ := h
          refine Ev_callV [_] mlX4_111 rfl rfl (Nat.le_of_ble_eq_true rfl) dX4_readLaw_82 hM51 ?_
          refine Ev_pop dX4_readLaw_85 (fun _ z => by cases z) ?_
          refine Ev_aload_n dX4_readLaw_86 rfl ?_
          obtain ⟨y55, μ53, hM54, h⟩ := h
          refine Ev_callV [] mlX4_182 rfl rfl (Nat.le_of_ble_eq_true rfl) dX4_readLaw_87 hM54 ?_
          refine Ev_istore_n dX4_readLaw_90 (Nat.le_of_ble_eq_true rfl) (okp_of rfl) ?_
          refine Ev_aload_n dX4_readLaw_91 rfl ?_
          refine Ev_aload_n dX4_readLaw_92 rfl ?_
          refine Ev_iconst 0 dX4_readLaw_93 (by decide) ?_
          obtain ⟨μ56, hM57, h⟩ := h
          refine Ev_callV [_, _] mlX4_178 rfl rfl (Nat.le_of_ble_eq_true rfl) dX4_readLaw_94 hM57 ?_
          refine Ev_aload_n dX4_readLaw_97 rfl ?_
          refine Ev_bipush 11 dX4_readLaw_98 (by decide) ?_
          obtain ⟨y60, μ58, hM59, h⟩ := h
          refine Ev_callV [_] mlX4_111 rfl rfl (Nat.le_of_ble_eq_true rfl) dX4_readLaw_100 hM59 ?_
          refine Ev_pop dX4_readLaw_103 (fun _ z => by cases z) ?_
          refine Ev_aload_n dX4_readLaw_104 rfl ?_
          refine Ev_bipush (-15) dX4_readLaw_105 (by decide) ?_
          obtain ⟨μ61, hM62, h⟩ := h
          refine Ev_callV [_] mlX4_185 rfl rfl (Nat.le_of_ble_eq_true rfl) dX4_readLaw_107 hM62 ?_
          refine Ev_aload_n dX4_readLaw_110 rfl ?_
          refine Ev_iload_n dX4_readLaw_111 rfl ?_
          obtain ⟨μ63, hM64, h⟩ := h
          refine Ev_callV [_] mlX4_188 rfl rfl (Nat.le_of_ble_eq_true rfl) dX4_readLaw_112 hM64 ?_
          refine Ev_iinc (x2 + 1) dX4_readLaw_115 rfl rfl (okp_of rfl) ?_
          refine Ev_goto 22 dX4_readLaw_118 (by decide) ?_
          refine Ev_weak ?_ h
          exact And.intro rfl (And.intro rfl (And.intro rfl (And.intro trivial (trivial))))
set_option maxHeartbeats 4000000 in
set_option maxRecDepth 100000 in
theorem X4_readLoom_ok {d : Nat}  {μ μ' : Mem} (h : (((μ.1 (μ.2.2 2 1) 3) < 4 → (∃ (y3 : Int32) (μ1 : Mem), X4_accept d 2 μ y3 μ1 ∧ (∃ (μ4 : Mem), X4_readName d μ1 μ4 ∧ (∃ (y8 : Int32) (μ6 : Mem), X4_readInt d 1 8 μ4 y8 μ6 ∧ vp_in (μ4.1 (μ4.2.2 2 1) 3) 4 ∧ (∀ μ9 : Mem, μ9 = sI μ6 (μ4.2.2 2 1 + 5) ((μ4.1 (μ4.2.2 2 1) 3).toNatClampNeg) y8 → (∃ (y12 : Int32) (μ10 : Mem), X4_readInt d 0 99 μ9 y12 μ10 ∧ vp_in (μ9.1 (μ9.2.2 2 1) 3) 4 ∧ (∀ μ13 : Mem, μ13 = sI μ10 (μ9.2.2 2 1 + 6) ((μ9.1 (μ9.2.2 2 1) 3).toNatClampNeg) y12 → (∀ μ14 : Mem, μ14 = sI μ13 (μ13.2.2 2 1) 3 ((μ13.1 (μ13.2.2 2 1) 3) + 1) → μ' = μ14)))))))) ∧ (¬ (μ.1 (μ.2.2 2 1) 3) < 4 → (∃ (μ15 : Mem), X4_blame d 2 μ μ15 ∧ μ' = μ15)))) : X4_readLoom (d + 1) μ μ' := by
  refine Me_of [some (vr 4 0 2)] rfl (Nat.le_of_ble_eq_true rfl) (by decide) ?_
  refine Ev_aload_n dX4_readLoom_0 rfl ?_
  refine Ev_getP flX4_21 rfl dX4_readLoom_1 ?_
  refine Ev_getI flX4_166 rfl dX4_readLoom_4 ?_
  refine Ev_iconst 4 dX4_readLoom_7 (by decide) ?_
  refine Ev_icmp_lt 17 dX4_readLoom_8 (by decide) (fun q => ?_) (fun q => ?_)
  · have h := h.1 q
    refine Ev_aload_n dX4_readLoom_17 rfl ?_
    refine Ev_iconst 2 dX4_readLoom_18 (by decide) ?_
    obtain ⟨y3, μ1, hM2, h⟩ := h
    refine Ev_callV [_] mlX4_111 rfl rfl (Nat.le_of_ble_eq_true rfl) dX4_readLoom_19 hM2 ?_
    refine Ev_pop dX4_readLoom_22 (fun _ z => by cases z) ?_
    refine Ev_aload_n dX4_readLoom_23 rfl ?_
    obtain ⟨μ4, hM5, h⟩ := h
    refine Ev_callV [] mlX4_157 rfl rfl (Nat.le_of_ble_eq_true rfl) dX4_readLoom_24 hM5 ?_
    refine Ev_aload_n dX4_readLoom_27 rfl ?_
    refine Ev_getP flX4_21 rfl dX4_readLoom_28 ?_
    refine Ev_getF 11 4 5 flX4_169 rfl dX4_readLoom_31 ?_
    refine Ev_aload_n dX4_readLoom_34 rfl ?_
    refine Ev_getP flX4_21 rfl dX4_readLoom_35 ?_
    refine Ev_getI flX4_166 rfl dX4_readLoom_38 ?_
    refine Ev_aload_n dX4_readLoom_41 rfl ?_
    refine Ev_iconst 1 dX4_readLoom_42 (by decide) ?_
    refine Ev_bipush 8 dX4_readLoom_43 (by decide) ?_
    obtain ⟨y8, μ6, hM7, h⟩ := h
    refine Ev_callV [_, _] mlX4_115 rfl rfl (Nat.le_of_ble_eq_true rfl) dX4_readLoom_45 hM7 ?_
    obtain ⟨g, h⟩ := h
    refine Ev_iast g dX4_readLoom_48 ?_
    have h := h _ rfl
    refine Ev_aload_n dX4_readLoom_49 rfl ?_
    refine Ev_getP flX4_21 rfl dX4_readLoom_50 ?_
    refine Ev_getF 11 4 6 flX4_172 rfl dX4_readLoom_53 ?_
    refine Ev_aload_n dX4_readLoom_56 rfl ?_
    refine Ev_getP flX4_21 rfl dX4_readLoom_57 ?_
    refine Ev_getI flX4_166 rfl dX4_readLoom_60 ?_
    refine Ev_aload_n dX4_readLoom_63 rfl ?_
    refine Ev_iconst 0 dX4_readLoom_64 (by decide) ?_
    refine Ev_bipush 99 dX4_readLoom_65 (by decide) ?_
    obtain ⟨y12, μ10, hM11, h⟩ := h
    refine Ev_callV [_, _] mlX4_115 rfl rfl (Nat.le_of_ble_eq_true rfl) dX4_readLoom_67 hM11 ?_
    obtain ⟨g, h⟩ := h
    refine Ev_iast g dX4_readLoom_70 ?_
    have h := h _ rfl
    refine Ev_aload_n dX4_readLoom_71 rfl ?_
    refine Ev_getP flX4_21 rfl dX4_readLoom_72 ?_
    refine Ev_dup dX4_readLoom_75 (fun _ z => by cases z) ?_
    refine Ev_getI flX4_166 rfl dX4_readLoom_76 ?_
    refine Ev_iconst 1 dX4_readLoom_79 (by decide) ?_
    refine Ev_iadd dX4_readLoom_80 ?_
    refine Ev_putI .int flX4_166 fpX3_3 rfl rfl rfl dX4_readLoom_81 ?_
    have h := h _ rfl
    subst h
    exact R_v rfl dX4_readLoom_84
  · have h := h.2 q
    refine Ev_aload_n dX4_readLoom_11 rfl ?_
    refine Ev_iconst 2 dX4_readLoom_12 (by decide) ?_
    obtain ⟨μ15, hM16, h⟩ := h
    refine Ev_callV [_] mlX4_84 rfl rfl (Nat.le_of_ble_eq_true rfl) dX4_readLoom_13 hM16 ?_
    subst h
    exact R_v rfl dX4_readLoom_16
set_option maxHeartbeats 4000000 in
set_option maxRecDepth 100000 in
theorem X4_readName_ok {d : Nat}  {μ μ' : Mem} (h : (∃ (y3 : Int64) (μ1 : Mem), X4_value d μ y3 μ1 ∧ (∃ (y6 : Int32) (μ4 : Mem), X4_start d μ1 y6 μ4 ∧ (∃ (y9 : Int32) (μ7 : Mem), X4_accept d 21 μ4 y9 μ7 ∧ ((y9 ≠ 0 → X4_readName_at23 d y3 y6 0 μ7 μ') ∧ (y9 = 0 → μ' = μ7)))))) : X4_readName (d + 1) μ μ' := by
  refine Me_of [some (vr 4 0 2), none, none, none, none] rfl (Nat.le_of_ble_eq_true rfl) (by decide) ?_
  refine Ev_aload_n dX4_readName_0 rfl ?_
  obtain ⟨y3, μ1, hM2, h⟩ := h
  refine Ev_callV [] mlX4_128 rfl rfl (Nat.le_of_ble_eq_true rfl) dX4_readName_1 hM2 ?_
  refine Ev_lstore_n dX4_readName_4 (Nat.le_of_ble_eq_true rfl) (okp_of rfl) ?_
  refine Ev_aload_n dX4_readName_5 rfl ?_
  obtain ⟨y6, μ4, hM5, h⟩ := h
  refine Ev_callV [] mlX4_132 rfl rfl (Nat.le_of_ble_eq_true rfl) dX4_readName_6 hM5 ?_
  refine Ev_istore_n dX4_readName_9 (Nat.le_of_ble_eq_true rfl) (okp_of rfl) ?_
  refine Ev_aload_n dX4_readName_10 rfl ?_
  refine Ev_bipush 21 dX4_readName_11 (by decide) ?_
  obtain ⟨y9, μ7, hM8, h⟩ := h
  refine Ev_callV [_] mlX4_111 rfl rfl (Nat.le_of_ble_eq_true rfl) dX4_readName_13 hM8 ?_
  refine Ev_if_ne 20 dX4_readName_16 (by decide) (fun q => ?_) (fun q => ?_)
  · have h := h.1 q
    refine Ev_iconst 0 dX4_readName_20 (by decide) ?_
    refine Ev_istore dX4_readName_21 (Nat.le_of_ble_eq_true rfl) (okp_of rfl) ?_
    exact h
  · have h := h.2 q
    subst h
    exact R_v rfl dX4_readName_19
set_option maxHeartbeats 4000000 in
set_option maxRecDepth 100000 in
theorem X4_readName_at23_ok {d : Nat} {x1 : Int64} {x3 : Int32} {x4 : Int32} {μ μ' : Mem} (h : (((μ.1 2 5) ≤ x4 → ((10 ≤ (μ.1 2 5) → μ' = μ) ∧ (¬ 10 ≤ (μ.1 2 5) → vp_in (μ.1 2 5) 10 ∧ (∀ μ1 : Mem, μ1 = sJ μ 8 ((μ.1 2 5).toNatClampNeg) x1 → (∀ μ2 : Mem, μ2 = sI μ1 2 5 ((μ1.1 2 5) + 1) → μ' = μ2))))) ∧ (¬ (μ.1 2 5) ≤ x4 → vp_in x4 10 ∧ (((lg_cmp (μ.2.1 8 x4.toNatClampNeg) x1) ≠ 0 → X4_readName_at23 d x1 x3 (x4 + 1) μ μ') ∧ ((lg_cmp (μ.2.1 8 x4.toNatClampNeg) x1) = 0 → (∃ (μ3 : Mem), X4_blameLater d 3 x3 μ μ3 ∧ X4_readName_at23 d x1 x3 (x4 + 1) μ3 μ')))))) : X4_readName_at23 d x1 x3 x4 μ μ' := by
  refine Ev_iload dX4_readName_23 rfl ?_
  refine Ev_aload_n dX4_readName_25 rfl ?_
  refine Ev_getI flX4_36 rfl dX4_readName_26 ?_
  refine Ev_icmp_ge 56 dX4_readName_29 (by decide) (fun q => ?_) (fun q => ?_)
  · have h := h.1 q
    refine Ev_aload_n dX4_readName_56 rfl ?_
    refine Ev_getI flX4_36 rfl dX4_readName_57 ?_
    refine Ev_aload_n dX4_readName_60 rfl ?_
    refine Ev_getF 13 10 6 flX4_32 rfl dX4_readName_61 ?_
    refine Ev_alen (10) (by decide) (by decide) (by decide) dX4_readName_64 ?_
    refine Ev_icmp_ge 88 dX4_readName_65 (by decide) (fun q => ?_) (fun q => ?_)
    · have h := h.1 q
      subst h
      exact R_v rfl dX4_readName_88
    · have h := h.2 q
      refine Ev_aload_n dX4_readName_68 rfl ?_
      refine Ev_getF 13 10 6 flX4_32 rfl dX4_readName_69 ?_
      refine Ev_aload_n dX4_readName_72 rfl ?_
      refine Ev_getI flX4_36 rfl dX4_readName_73 ?_
      refine Ev_lload_n dX4_readName_76 rfl ?_
      obtain ⟨g, h⟩ := h
      refine Ev_last g dX4_readName_77 ?_
      have h := h _ rfl
      refine Ev_aload_n dX4_readName_78 rfl ?_
      refine Ev_dup dX4_readName_79 (fun _ z => by cases z) ?_
      refine Ev_getI flX4_36 rfl dX4_readName_80 ?_
      refine Ev_iconst 1 dX4_readName_83 (by decide) ?_
      refine Ev_iadd dX4_readName_84 ?_
      refine Ev_putI .int flX4_36 fpX4_5 rfl rfl rfl dX4_readName_85 ?_
      have h := h _ rfl
      subst h
      exact R_v rfl dX4_readName_88
  · have h := h.2 q
    refine Ev_aload_n dX4_readName_32 rfl ?_
    refine Ev_getF 13 10 6 flX4_32 rfl dX4_readName_33 ?_
    refine Ev_iload dX4_readName_36 rfl ?_
    obtain ⟨g, h⟩ := h
    refine Ev_lald g dX4_readName_38 ?_
    refine Ev_lload_n dX4_readName_39 rfl ?_
    refine Ev_lcmp dX4_readName_40 ?_
    refine Ev_if_ne 50 dX4_readName_41 (by decide) (fun q => ?_) (fun q => ?_)
    · have h := h.1 q
      refine Ev_iinc (x4 + 1) dX4_readName_50 rfl rfl (okp_of rfl) ?_
      refine Ev_goto 23 dX4_readName_53 (by decide) ?_
      exact h
    · have h := h.2 q
      refine Ev_aload_n dX4_readName_44 rfl ?_
      refine Ev_iconst 3 dX4_readName_45 (by decide) ?_
      refine Ev_iload_n dX4_readName_46 rfl ?_
      obtain ⟨μ3, hM4, h⟩ := h
      refine Ev_callV [_, _] mlX4_68 rfl rfl (Nat.le_of_ble_eq_true rfl) dX4_readName_47 hM4 ?_
      refine Ev_iinc (x4 + 1) dX4_readName_50 rfl rfl (okp_of rfl) ?_
      refine Ev_goto 23 dX4_readName_53 (by decide) ?_
      exact h
set_option maxHeartbeats 4000000 in
set_option maxRecDepth 100000 in
theorem X4_readRow_ok {d : Nat}  {μ μ' : Mem} (h : (((μ.1 (μ.2.2 2 1) 1) < 6 → (∃ (y3 : Int32) (μ1 : Mem), X4_accept d 0 μ y3 μ1 ∧ (∃ (y6 : Int64) (μ4 : Mem), X4_value d μ1 y6 μ4 ∧ (∃ (y9 : Int32) (μ7 : Mem), X4_start d μ4 y9 μ7 ∧ (∃ (y12 : Int32) (μ10 : Mem), X4_accept d 21 μ7 y12 μ10 ∧ ((y12 = 0 → μ' = μ10) ∧ (¬ y12 = 0 → (∃ (μ13 : Mem), X4_layRow d y6 y9 μ10 μ13 ∧ μ' = μ13)))))))) ∧ (¬ (μ.1 (μ.2.2 2 1) 1) < 6 → (∃ (μ15 : Mem), X4_blame d 2 μ μ15 ∧ μ' = μ15)))) : X4_readRow (d + 1) μ μ' := by
  refine Me_of [some (vr 4 0 2), none, none, none] rfl (Nat.le_of_ble_eq_true rfl) (by decide) ?_
  refine Ev_aload_n dX4_readRow_0 rfl ?_
  refine Ev_getP flX4_21 rfl dX4_readRow_1 ?_
  refine Ev_getI flX4_136 rfl dX4_readRow_4 ?_
  refine Ev_bipush 6 dX4_readRow_7 (by decide) ?_
  refine Ev_icmp_lt 18 dX4_readRow_9 (by decide) (fun q => ?_) (fun q => ?_)
  · have h := h.1 q
    refine Ev_aload_n dX4_readRow_18 rfl ?_
    refine Ev_iconst 0 dX4_readRow_19 (by decide) ?_
    obtain ⟨y3, μ1, hM2, h⟩ := h
    refine Ev_callV [_] mlX4_111 rfl rfl (Nat.le_of_ble_eq_true rfl) dX4_readRow_20 hM2 ?_
    refine Ev_pop dX4_readRow_23 (fun _ z => by cases z) ?_
    refine Ev_aload_n dX4_readRow_24 rfl ?_
    obtain ⟨y6, μ4, hM5, h⟩ := h
    refine Ev_callV [] mlX4_128 rfl rfl (Nat.le_of_ble_eq_true rfl) dX4_readRow_25 hM5 ?_
    refine Ev_lstore_n dX4_readRow_28 (Nat.le_of_ble_eq_true rfl) (okp_of rfl) ?_
    refine Ev_aload_n dX4_readRow_29 rfl ?_
    obtain ⟨y9, μ7, hM8, h⟩ := h
    refine Ev_callV [] mlX4_132 rfl rfl (Nat.le_of_ble_eq_true rfl) dX4_readRow_30 hM8 ?_
    refine Ev_istore_n dX4_readRow_33 (Nat.le_of_ble_eq_true rfl) (okp_of rfl) ?_
    refine Ev_aload_n dX4_readRow_34 rfl ?_
    refine Ev_bipush 21 dX4_readRow_35 (by decide) ?_
    obtain ⟨y12, μ10, hM11, h⟩ := h
    refine Ev_callV [_] mlX4_111 rfl rfl (Nat.le_of_ble_eq_true rfl) dX4_readRow_37 hM11 ?_
    refine Ev_if_eq 49 dX4_readRow_40 (by decide) (fun q => ?_) (fun q => ?_)
    · have h := h.1 q
      subst h
      exact R_v rfl dX4_readRow_49
    · have h := h.2 q
      refine Ev_aload_n dX4_readRow_43 rfl ?_
      refine Ev_lload_n dX4_readRow_44 rfl ?_
      refine Ev_iload_n dX4_readRow_45 rfl ?_
      obtain ⟨μ13, hM14, h⟩ := h
      refine Ev_callV [_, _] mlX4_139 rfl rfl (Nat.le_of_ble_eq_true rfl) dX4_readRow_46 hM14 ?_
      subst h
      exact R_v rfl dX4_readRow_49
  · have h := h.2 q
    refine Ev_aload_n dX4_readRow_12 rfl ?_
    refine Ev_iconst 2 dX4_readRow_13 (by decide) ?_
    obtain ⟨μ15, hM16, h⟩ := h
    refine Ev_callV [_] mlX4_84 rfl rfl (Nat.le_of_ble_eq_true rfl) dX4_readRow_14 hM16 ?_
    subst h
    exact R_v rfl dX4_readRow_17
set_option maxHeartbeats 4000000 in
set_option maxRecDepth 100000 in
theorem X4_readSum_ok {d : Nat} {a1 : Nat} {x2 : Int32} {μ μ' : Mem} (h : X4_readSum_at11 d a1 x2 0 0 1 0 μ μ') : X4_readSum (d + 1) a1 x2 μ μ' := by
  refine Me_of [some (vr 4 0 2), some (vr 1 0 a1), some (vi x2), none, none, none, none] rfl (Nat.le_of_ble_eq_true rfl) (by decide) ?_
  refine Ev_iconst 0 dX4_readSum_0 (by decide) ?_
  refine Ev_istore_n dX4_readSum_1 (Nat.le_of_ble_eq_true rfl) (okp_of rfl) ?_
  refine Ev_iconst 0 dX4_readSum_2 (by decide) ?_
  refine Ev_istore dX4_readSum_3 (Nat.le_of_ble_eq_true rfl) (okp_of rfl) ?_
  refine Ev_iconst 1 dX4_readSum_5 (by decide) ?_
  refine Ev_istore dX4_readSum_6 (Nat.le_of_ble_eq_true rfl) (okp_of rfl) ?_
  refine Ev_iconst 0 dX4_readSum_8 (by decide) ?_
  refine Ev_istore dX4_readSum_9 (Nat.le_of_ble_eq_true rfl) (okp_of rfl) ?_
  exact h
set_option maxHeartbeats 4000000 in
set_option maxRecDepth 100000 in
theorem X4_readSum_at11_ok {d : Nat} {a1 : Nat} {x2 : Int32} {x3 : Int32} {x4 : Int32} {x5 : Int32} {x6 : Int32} {μ μ' : Mem} (h : ((400 < x6 → μ' = μ) ∧ (¬ 400 < x6 → ((x5 = 0 → μ' = μ) ∧ (¬ x5 = 0 → (∃ (μ1 : Mem), X4_readUnit d a1 x2 μ μ1 ∧ ((x3 = 0 → (∃ (y5 : Int32) (μ3 : Mem), X4_productCode d μ1 y5 μ3 ∧ ((y5 ≠ 0 → ((y5 ≠ 0 → X4_readSum_at69 d a1 x2 y5 x4 x6 μ3 μ') ∧ (y5 = 0 → (∃ (y8 : Int32) (μ6 : Mem), X4_sumCode d μ3 y8 μ6 ∧ X4_readSum_at69 d a1 x2 y5 y8 x6 μ6 μ')))) ∧ (y5 = 0 → ((x4 = 0 → ((y5 ≠ 0 → X4_readSum_at69 d a1 x2 y5 x4 x6 μ3 μ') ∧ (y5 = 0 → (∃ (y11 : Int32) (μ9 : Mem), X4_sumCode d μ3 y11 μ9 ∧ X4_readSum_at69 d a1 x2 y5 y11 x6 μ9 μ')))) ∧ (¬ x4 = 0 → (∃ (μ12 : Mem), X1_put d a1 x4 μ3 μ12 ∧ ((y5 ≠ 0 → X4_readSum_at69 d a1 x2 y5 x4 x6 μ12 μ') ∧ (y5 = 0 → (∃ (y16 : Int32) (μ14 : Mem), X4_sumCode d μ12 y16 μ14 ∧ X4_readSum_at69 d a1 x2 y5 y16 x6 μ14 μ')))))))))) ∧ (¬ x3 = 0 → (∃ (μ17 : Mem), X1_put d a1 x3 μ1 μ17 ∧ (∃ (y21 : Int32) (μ19 : Mem), X4_productCode d μ17 y21 μ19 ∧ ((y21 ≠ 0 → ((y21 ≠ 0 → X4_readSum_at69 d a1 x2 y21 x4 x6 μ19 μ') ∧ (y21 = 0 → (∃ (y24 : Int32) (μ22 : Mem), X4_sumCode d μ19 y24 μ22 ∧ X4_readSum_at69 d a1 x2 y21 y24 x6 μ22 μ')))) ∧ (y21 = 0 → ((x4 = 0 → ((y21 ≠ 0 → X4_readSum_at69 d a1 x2 y21 x4 x6 μ19 μ') ∧ (y21 = 0 → (∃ (y27 : Int32) (μ25 : Mem), X4_sumCode d μ19 y27 μ25 ∧ X4_readSum_at69 d a1 x2 y21 y27 x6 μ25 μ')))) ∧ (¬ x4 = 0 → (∃ (μ28 : Mem), X1_put d a1 x4 μ19 μ28 ∧ ((y21 ≠ 0 → X4_readSum_at69 d a1 x2 y21 x4 x6 μ28 μ') ∧ (y21 = 0 → (∃ (y32 : Int32) (μ30 : Mem), X4_sumCode d μ28 y32 μ30 ∧ X4_readSum_at69 d a1 x2 y21 y32 x6 μ30 μ')))))))))))))))))) : X4_readSum_at11 d a1 x2 x3 x4 x5 x6 μ μ' := by
  refine Ev_iload dX4_readSum_11 rfl ?_
  refine Ev_sipush 400 dX4_readSum_13 (by decide) ?_
  refine Ev_icmp_gt 102 dX4_readSum_16 (by decide) (fun q => ?_) (fun q => ?_)
  · have h := h.1 q
    subst h
    exact R_v rfl dX4_readSum_102
  · have h := h.2 q
    refine Ev_iload dX4_readSum_19 rfl ?_
    refine Ev_if_eq 102 dX4_readSum_21 (by decide) (fun q => ?_) (fun q => ?_)
    · have h := h.1 q
      subst h
      exact R_v rfl dX4_readSum_102
    · have h := h.2 q
      refine Ev_aload_n dX4_readSum_24 rfl ?_
      refine Ev_aload_n dX4_readSum_25 rfl ?_
      refine Ev_iload_n dX4_readSum_26 rfl ?_
      obtain ⟨μ1, hM2, h⟩ := h
      refine Ev_callV [_, _] mlX4_191 rfl rfl (Nat.le_of_ble_eq_true rfl) dX4_readSum_27 hM2 ?_
      refine Ev_iload_n dX4_readSum_30 rfl ?_
      refine Ev_if_eq 39 dX4_readSum_31 (by decide) (fun q => ?_) (fun q => ?_)
      · have h := h.1 q
        refine Ev_aload_n dX4_readSum_39 rfl ?_
        obtain ⟨y5, μ3, hM4, h⟩ := h
        refine Ev_callV [] mlX4_194 rfl rfl (Nat.le_of_ble_eq_true rfl) dX4_readSum_40 hM4 ?_
        refine Ev_istore_n dX4_readSum_43 (Nat.le_of_ble_eq_true rfl) (okp_of rfl) ?_
        refine Ev_iload_n dX4_readSum_44 rfl ?_
        refine Ev_if_ne 59 dX4_readSum_45 (by decide) (fun q => ?_) (fun q => ?_)
        · have h := h.1 q
          refine Ev_iload_n dX4_readSum_59 rfl ?_
          refine Ev_if_ne 69 dX4_readSum_60 (by decide) (fun q => ?_) (fun q => ?_)
          · have h := h.1 q
            refine Ev_weak ?_ h
            exact And.intro rfl (And.intro rfl (And.intro rfl (And.intro rfl (And.intro rfl (And.intro trivial (And.intro rfl (trivial)))))))
          · have h := h.2 q
            refine Ev_aload_n dX4_readSum_63 rfl ?_
            obtain ⟨y8, μ6, hM7, h⟩ := h
            refine Ev_callV [] mlX4_197 rfl rfl (Nat.le_of_ble_eq_true rfl) dX4_readSum_64 hM7 ?_
            refine Ev_istore dX4_readSum_67 (Nat.le_of_ble_eq_true rfl) (okp_of rfl) ?_
            refine Ev_weak ?_ h
            exact And.intro rfl (And.intro rfl (And.intro rfl (And.intro rfl (And.intro rfl (And.intro trivial (And.intro rfl (trivial)))))))
        · have h := h.2 q
          refine Ev_iload dX4_readSum_48 rfl ?_
          refine Ev_if_eq 59 dX4_readSum_50 (by decide) (fun q => ?_) (fun q => ?_)
          · have h := h.1 q
            refine Ev_iload_n dX4_readSum_59 rfl ?_
            refine Ev_if_ne 69 dX4_readSum_60 (by decide) (fun q => ?_) (fun q => ?_)
            · have h := h.1 q
              refine Ev_weak ?_ h
              exact And.intro rfl (And.intro rfl (And.intro rfl (And.intro rfl (And.intro rfl (And.intro trivial (And.intro rfl (trivial)))))))
            · have h := h.2 q
              refine Ev_aload_n dX4_readSum_63 rfl ?_
              obtain ⟨y11, μ9, hM10, h⟩ := h
              refine Ev_callV [] mlX4_197 rfl rfl (Nat.le_of_ble_eq_true rfl) dX4_readSum_64 hM10 ?_
              refine Ev_istore dX4_readSum_67 (Nat.le_of_ble_eq_true rfl) (okp_of rfl) ?_
              refine Ev_weak ?_ h
              exact And.intro rfl (And.intro rfl (And.intro rfl (And.intro rfl (And.intro rfl (And.intro trivial (And.intro rfl (trivial)))))))
          · have h := h.2 q
            refine Ev_aload_n dX4_readSum_53 rfl ?_
            refine Ev_iload dX4_readSum_54 rfl ?_
            obtain ⟨μ12, hM13, h⟩ := h
            refine Ev_callV [_] mlX4_185 rfl rfl (Nat.le_of_ble_eq_true rfl) dX4_readSum_56 hM13 ?_
            refine Ev_iload_n dX4_readSum_59 rfl ?_
            refine Ev_if_ne 69 dX4_readSum_60 (by decide) (fun q => ?_) (fun q => ?_)
            · have h := h.1 q
              refine Ev_weak ?_ h
              exact And.intro rfl (And.intro rfl (And.intro rfl (And.intro rfl (And.intro rfl (And.intro trivial (And.intro rfl (trivial)))))))
            · have h := h.2 q
              refine Ev_aload_n dX4_readSum_63 rfl ?_
              obtain ⟨y16, μ14, hM15, h⟩ := h
              refine Ev_callV [] mlX4_197 rfl rfl (Nat.le_of_ble_eq_true rfl) dX4_readSum_64 hM15 ?_
              refine Ev_istore dX4_readSum_67 (Nat.le_of_ble_eq_true rfl) (okp_of rfl) ?_
              refine Ev_weak ?_ h
              exact And.intro rfl (And.intro rfl (And.intro rfl (And.intro rfl (And.intro rfl (And.intro trivial (And.intro rfl (trivial)))))))
      · have h := h.2 q
        refine Ev_aload_n dX4_readSum_34 rfl ?_
        refine Ev_iload_n dX4_readSum_35 rfl ?_
        obtain ⟨μ17, hM18, h⟩ := h
        refine Ev_callV [_] mlX4_185 rfl rfl (Nat.le_of_ble_eq_true rfl) dX4_readSum_36 hM18 ?_
        refine Ev_aload_n dX4_readSum_39 rfl ?_
        obtain ⟨y21, μ19, hM20, h⟩ := h
        refine Ev_callV [] mlX4_194 rfl rfl (Nat.le_of_ble_eq_true rfl) dX4_readSum_40 hM20 ?_
        refine Ev_istore_n dX4_readSum_43 (Nat.le_of_ble_eq_true rfl) (okp_of rfl) ?_
        refine Ev_iload_n dX4_readSum_44 rfl ?_
        refine Ev_if_ne 59 dX4_readSum_45 (by decide) (fun q => ?_) (fun q => ?_)
        · have h := h.1 q
          refine Ev_iload_n dX4_readSum_59 rfl ?_
          refine Ev_if_ne 69 dX4_readSum_60 (by decide) (fun q => ?_) (fun q => ?_)
          · have h := h.1 q
            refine Ev_weak ?_ h
            exact And.intro rfl (And.intro rfl (And.intro rfl (And.intro rfl (And.intro rfl (And.intro trivial (And.intro rfl (trivial)))))))
          · have h := h.2 q
            refine Ev_aload_n dX4_readSum_63 rfl ?_
            obtain ⟨y24, μ22, hM23, h⟩ := h
            refine Ev_callV [] mlX4_197 rfl rfl (Nat.le_of_ble_eq_true rfl) dX4_readSum_64 hM23 ?_
            refine Ev_istore dX4_readSum_67 (Nat.le_of_ble_eq_true rfl) (okp_of rfl) ?_
            refine Ev_weak ?_ h
            exact And.intro rfl (And.intro rfl (And.intro rfl (And.intro rfl (And.intro rfl (And.intro trivial (And.intro rfl (trivial)))))))
        · have h := h.2 q
          refine Ev_iload dX4_readSum_48 rfl ?_
          refine Ev_if_eq 59 dX4_readSum_50 (by decide) (fun q => ?_) (fun q => ?_)
          · have h := h.1 q
            refine Ev_iload_n dX4_readSum_59 rfl ?_
            refine Ev_if_ne 69 dX4_readSum_60 (by decide) (fun q => ?_) (fun q => ?_)
            · have h := h.1 q
              refine Ev_weak ?_ h
              exact And.intro rfl (And.intro rfl (And.intro rfl (And.intro rfl (And.intro rfl (And.intro trivial (And.intro rfl (trivial)))))))
            · have h := h.2 q
              refine Ev_aload_n dX4_readSum_63 rfl ?_
              obtain ⟨y27, μ25, hM26, h⟩ := h
              refine Ev_callV [] mlX4_197 rfl rfl (Nat.le_of_ble_eq_true rfl) dX4_readSum_64 hM26 ?_
              refine Ev_istore dX4_readSum_67 (Nat.le_of_ble_eq_true rfl) (okp_of rfl) ?_
              refine Ev_weak ?_ h
              exact And.intro rfl (And.intro rfl (And.intro rfl (And.intro rfl (And.intro rfl (And.intro trivial (And.intro rfl (trivial)))))))
          · have h := h.2 q
            refine Ev_aload_n dX4_readSum_53 rfl ?_
            refine Ev_iload dX4_readSum_54 rfl ?_
            obtain ⟨μ28, hM29, h⟩ := h
            refine Ev_callV [_] mlX4_185 rfl rfl (Nat.le_of_ble_eq_true rfl) dX4_readSum_56 hM29 ?_
            refine Ev_iload_n dX4_readSum_59 rfl ?_
            refine Ev_if_ne 69 dX4_readSum_60 (by decide) (fun q => ?_) (fun q => ?_)
            · have h := h.1 q
              refine Ev_weak ?_ h
              exact And.intro rfl (And.intro rfl (And.intro rfl (And.intro rfl (And.intro rfl (And.intro trivial (And.intro rfl (trivial)))))))
            · have h := h.2 q
              refine Ev_aload_n dX4_readSum_63 rfl ?_
              obtain ⟨y32, μ30, hM31, h⟩ := h
              refine Ev_callV [] mlX4_197 rfl rfl (Nat.le_of_ble_eq_true rfl) dX4_readSum_64 hM31 ?_
              refine Ev_istore dX4_readSum_67 (Nat.le_of_ble_eq_true rfl) (okp_of rfl) ?_
              refine Ev_weak ?_ h
              exact And.intro rfl (And.intro rfl (And.intro rfl (And.intro rfl (And.intro rfl (And.intro trivial (And.intro rfl (trivial)))))))
set_option maxHeartbeats 4000000 in
set_option maxRecDepth 100000 in
theorem X4_readSum_at69_ok {d : Nat} {a1 : Nat} {x2 : Int32} {x3 : Int32} {x4 : Int32} {x6 : Int32} {μ μ' : Mem} (h : ((x3 ≠ 0 → X4_readSum_at78 d a1 x2 x3 x4 x6 μ μ') ∧ (x3 = 0 → ((x4 = 0 → X4_readSum_at93 d a1 x2 x3 x4 x6 μ μ') ∧ (¬ x4 = 0 → X4_readSum_at78 d a1 x2 x3 x4 x6 μ μ'))))) : X4_readSum_at69 d a1 x2 x3 x4 x6 μ μ' := by
  refine Ev_iload_n dX4_readSum_69 rfl ?_
  refine Ev_if_ne 78 dX4_readSum_70 (by decide) (fun q => ?_) (fun q => ?_)
  · have h := h.1 q
    exact h
  · have h := h.2 q
    refine Ev_iload dX4_readSum_73 rfl ?_
    refine Ev_if_eq 93 dX4_readSum_75 (by decide) (fun q => ?_) (fun q => ?_)
    · have h := h.1 q
      exact h
    · have h := h.2 q
      exact h
set_option maxHeartbeats 4000000 in
set_option maxRecDepth 100000 in
theorem X4_readSum_at78_ok {d : Nat} {a1 : Nat} {x2 : Int32} {x3 : Int32} {x4 : Int32} {x6 : Int32} {μ μ' : Mem} (h : (∃ (y3 : Int32) (μ1 : Mem), X4_accept d (μ.1 2 3) μ y3 μ1 ∧ ((y3 = 0 → X4_readSum_at93 d a1 x2 x3 x4 x6 μ1 μ') ∧ (¬ y3 = 0 → X4_readSum_at11 d a1 x2 x3 x4 1 (x6 + 1) μ1 μ')))) : X4_readSum_at78 d a1 x2 x3 x4 x6 μ μ' := by
  refine Ev_aload_n dX4_readSum_78 rfl ?_
  refine Ev_aload_n dX4_readSum_79 rfl ?_
  refine Ev_getI flX4_29 rfl dX4_readSum_80 ?_
  obtain ⟨y3, μ1, hM2, h⟩ := h
  refine Ev_callV [_] mlX4_111 rfl rfl (Nat.le_of_ble_eq_true rfl) dX4_readSum_83 hM2 ?_
  refine Ev_if_eq 93 dX4_readSum_86 (by decide) (fun q => ?_) (fun q => ?_)
  · have h := h.1 q
    exact h
  · have h := h.2 q
    refine Ev_iconst 1 dX4_readSum_89 (by decide) ?_
    refine Ev_goto 94 dX4_readSum_90 (by decide) ?_
    refine Ev_istore dX4_readSum_94 (Nat.le_of_ble_eq_true rfl) (okp_of rfl) ?_
    refine Ev_iinc (x6 + 1) dX4_readSum_96 rfl rfl (okp_of rfl) ?_
    refine Ev_goto 11 dX4_readSum_99 (by decide) ?_
    exact h
set_option maxHeartbeats 4000000 in
set_option maxRecDepth 100000 in
theorem X4_readSum_at93_ok {d : Nat} {a1 : Nat} {x2 : Int32} {x3 : Int32} {x4 : Int32} {x6 : Int32} {μ μ' : Mem} (h : X4_readSum_at11 d a1 x2 x3 x4 0 (x6 + 1) μ μ') : X4_readSum_at93 d a1 x2 x3 x4 x6 μ μ' := by
  refine Ev_iconst 0 dX4_readSum_93 (by decide) ?_
  refine Ev_istore dX4_readSum_94 (Nat.le_of_ble_eq_true rfl) (okp_of rfl) ?_
  refine Ev_iinc (x6 + 1) dX4_readSum_96 rfl rfl (okp_of rfl) ?_
  refine Ev_goto 11 dX4_readSum_99 (by decide) ?_
  exact h
set_option maxHeartbeats 4000000 in
set_option maxRecDepth 100000 in
theorem X4_readTell_ok {d : Nat}  {μ μ' : Mem} (h : (((μ.1 2 3) = 0 → (∃ (μ1 : Mem), X4_readRow d μ μ1 ∧ (∃ (y5 : Int32) (μ3 : Mem), X4_accept d 23 μ1 y5 μ3 ∧ μ' = μ3))) ∧ ((μ.1 2 3) = 1 → (∃ (μ6 : Mem), X4_readField d μ μ6 ∧ (∃ (y10 : Int32) (μ8 : Mem), X4_accept d 23 μ6 y10 μ8 ∧ μ' = μ8))) ∧ ((μ.1 2 3) = 2 → (∃ (μ11 : Mem), X4_readLoom d μ μ11 ∧ (∃ (y15 : Int32) (μ13 : Mem), X4_accept d 23 μ11 y15 μ13 ∧ μ' = μ13))) ∧ ((μ.1 2 3) = 3 → (∃ (μ16 : Mem), X4_readLaw d (μ.2.2 2 1 + 7) μ μ16 ∧ (∃ (y20 : Int32) (μ18 : Mem), X4_accept d 23 μ16 y20 μ18 ∧ μ' = μ18))) ∧ ((μ.1 2 3) = 4 → (∃ (μ21 : Mem), X4_readLaw d (μ.2.2 2 1 + 11) μ μ21 ∧ (∃ (y25 : Int32) (μ23 : Mem), X4_accept d 23 μ21 y25 μ23 ∧ μ' = μ23))) ∧ ((μ.1 2 3) = 5 → (∃ (μ26 : Mem), X4_readLaw d (μ.2.2 2 1 + 15) μ μ26 ∧ (∃ (y30 : Int32) (μ28 : Mem), X4_accept d 23 μ26 y30 μ28 ∧ μ' = μ28))) ∧ ((μ.1 2 3) = 6 → (∃ (y33 : Int32) (μ31 : Mem), X4_accept d 6 μ y33 μ31 ∧ (∃ (y36 : Int32) (μ34 : Mem), X4_readInt d 0 9999 μ31 y36 μ34 ∧ (∀ μ37 : Mem, μ37 = sI μ34 (μ31.2.2 2 1) 4 y36 → (∃ (y40 : Int32) (μ38 : Mem), X4_accept d 23 μ37 y40 μ38 ∧ μ' = μ38))))) ∧ ((μ.1 2 3) = 7 → (∃ (y43 : Int32) (μ41 : Mem), X4_accept d 7 μ y43 μ41 ∧ (∃ (y46 : Int32) (μ44 : Mem), X4_readInt d 0 100 μ41 y46 μ44 ∧ (∀ μ47 : Mem, μ47 = sI μ44 (μ41.2.2 2 1) 5 y46 → (∃ (y50 : Int32) (μ48 : Mem), X4_accept d 23 μ47 y50 μ48 ∧ μ' = μ48))))) ∧ ((μ.1 2 3) = 8 → (∃ (y53 : Int32) (μ51 : Mem), X4_accept d 8 μ y53 μ51 ∧ (∃ (y56 : Int32) (μ54 : Mem), X4_readInt d 0 9999 μ51 y56 μ54 ∧ (∀ μ57 : Mem, μ57 = sI μ54 (μ51.2.2 2 1) 6 y56 → (∃ (y60 : Int32) (μ58 : Mem), X4_accept d 23 μ57 y60 μ58 ∧ μ' = μ58))))) ∧ ((((μ.1 2 3)).toInt < 0 ∨ 8 < ((μ.1 2 3)).toInt) → (∃ (μ61 : Mem), X4_blame d 1 μ μ61 ∧ (∃ (y65 : Int32) (μ63 : Mem), X4_accept d 23 μ61 y65 μ63 ∧ μ' = μ63))))) : X4_readTell (d + 1) μ μ' := by
  refine Me_of [some (vr 4 0 2)] rfl (Nat.le_of_ble_eq_true rfl) (by decide) ?_
  refine Ev_aload_n dX4_readTell_0 rfl ?_
  refine Ev_getI flX4_29 rfl dX4_readTell_1 ?_
  refine Ev_tab 193 dX4_readTell_4 (by decide) (fun k hk e => ?_) (fun q => ?_)
  · rcases (show k = 0 ∨ k = 1 ∨ k = 2 ∨ k = 3 ∨ k = 4 ∨ k = 5 ∨ k = 6 ∨ k = 7 ∨ k = 8 by omega) with rfl | rfl | rfl | rfl | rfl | rfl | rfl | rfl | rfl
    · have h := h.1 (Int32.toInt_inj.mp (e.trans (by decide)))
      refine ⟨_, 56, rfl, by decide, ?_⟩
      refine Ev_aload_n dX4_readTell_56 rfl ?_
      obtain ⟨μ1, hM2, h⟩ := h
      refine Ev_callV [] mlX4_88 rfl rfl (Nat.le_of_ble_eq_true rfl) dX4_readTell_57 hM2 ?_
      refine Ev_goto 198 dX4_readTell_60 (by decide) ?_
      refine Ev_aload_n dX4_readTell_198 rfl ?_
      refine Ev_bipush 23 dX4_readTell_199 (by decide) ?_
      obtain ⟨y5, μ3, hM4, h⟩ := h
      refine Ev_callV [_] mlX4_111 rfl rfl (Nat.le_of_ble_eq_true rfl) dX4_readTell_201 hM4 ?_
      refine Ev_pop dX4_readTell_204 (fun _ z => by cases z) ?_
      subst h
      exact R_v rfl dX4_readTell_205
    · have h := h.2.1 (Int32.toInt_inj.mp (e.trans (by decide)))
      refine ⟨_, 63, rfl, by decide, ?_⟩
      refine Ev_aload_n dX4_readTell_63 rfl ?_
      obtain ⟨μ6, hM7, h⟩ := h
      refine Ev_callV [] mlX4_91 rfl rfl (Nat.le_of_ble_eq_true rfl) dX4_readTell_64 hM7 ?_
      refine Ev_goto 198 dX4_readTell_67 (by decide) ?_
      refine Ev_aload_n dX4_readTell_198 rfl ?_
      refine Ev_bipush 23 dX4_readTell_199 (by decide) ?_
      obtain ⟨y10, μ8, hM9, h⟩ := h
      refine Ev_callV [_] mlX4_111 rfl rfl (Nat.le_of_ble_eq_true rfl) dX4_readTell_201 hM9 ?_
      refine Ev_pop dX4_readTell_204 (fun _ z => by cases z) ?_
      subst h
      exact R_v rfl dX4_readTell_205
    · have h := h.2.2.1 (Int32.toInt_inj.mp (e.trans (by decide)))
      refine ⟨_, 70, rfl, by decide, ?_⟩
      refine Ev_aload_n dX4_readTell_70 rfl ?_
      obtain ⟨μ11, hM12, h⟩ := h
      refine Ev_callV [] mlX4_94 rfl rfl (Nat.le_of_ble_eq_true rfl) dX4_readTell_71 hM12 ?_
      refine Ev_goto 198 dX4_readTell_74 (by decide) ?_
      refine Ev_aload_n dX4_readTell_198 rfl ?_
      refine Ev_bipush 23 dX4_readTell_199 (by decide) ?_
      obtain ⟨y15, μ13, hM14, h⟩ := h
      refine Ev_callV [_] mlX4_111 rfl rfl (Nat.le_of_ble_eq_true rfl) dX4_readTell_201 hM14 ?_
      refine Ev_pop dX4_readTell_204 (fun _ z => by cases z) ?_
      subst h
      exact R_v rfl dX4_readTell_205
    · have h := h.2.2.2.1 (Int32.toInt_inj.mp (e.trans (by decide)))
      refine ⟨_, 77, rfl, by decide, ?_⟩
      refine Ev_aload_n dX4_readTell_77 rfl ?_
      refine Ev_aload_n dX4_readTell_78 rfl ?_
      refine Ev_getP flX4_21 rfl dX4_readTell_79 ?_
      refine Ev_getF 1 0 7 flX4_97 rfl dX4_readTell_82 ?_
      obtain ⟨μ16, hM17, h⟩ := h
      refine Ev_callV [_] mlX4_101 rfl rfl (Nat.le_of_ble_eq_true rfl) dX4_readTell_85 hM17 ?_
      refine Ev_goto 198 dX4_readTell_88 (by decide) ?_
      refine Ev_aload_n dX4_readTell_198 rfl ?_
      refine Ev_bipush 23 dX4_readTell_199 (by decide) ?_
      obtain ⟨y20, μ18, hM19, h⟩ := h
      refine Ev_callV [_] mlX4_111 rfl rfl (Nat.le_of_ble_eq_true rfl) dX4_readTell_201 hM19 ?_
      refine Ev_pop dX4_readTell_204 (fun _ z => by cases z) ?_
      subst h
      exact R_v rfl dX4_readTell_205
    · have h := h.2.2.2.2.1 (Int32.toInt_inj.mp (e.trans (by decide)))
      refine ⟨_, 91, rfl, by decide, ?_⟩
      refine Ev_aload_n dX4_readTell_91 rfl ?_
      refine Ev_aload_n dX4_readTell_92 rfl ?_
      refine Ev_getP flX4_21 rfl dX4_readTell_93 ?_
      refine Ev_getF 1 0 11 flX4_105 rfl dX4_readTell_96 ?_
      obtain ⟨μ21, hM22, h⟩ := h
      refine Ev_callV [_] mlX4_101 rfl rfl (Nat.le_of_ble_eq_true rfl) dX4_readTell_99 hM22 ?_
      refine Ev_goto 198 dX4_readTell_102 (by decide) ?_
      refine Ev_aload_n dX4_readTell_198 rfl ?_
      refine Ev_bipush 23 dX4_readTell_199 (by decide) ?_
      obtain ⟨y25, μ23, hM24, h⟩ := h
      refine Ev_callV [_] mlX4_111 rfl rfl (Nat.le_of_ble_eq_true rfl) dX4_readTell_201 hM24 ?_
      refine Ev_pop dX4_readTell_204 (fun _ z => by cases z) ?_
      subst h
      exact R_v rfl dX4_readTell_205
    · have h := h.2.2.2.2.2.1 (Int32.toInt_inj.mp (e.trans (by decide)))
      refine ⟨_, 105, rfl, by decide, ?_⟩
      refine Ev_aload_n dX4_readTell_105 rfl ?_
      refine Ev_aload_n dX4_readTell_106 rfl ?_
      refine Ev_getP flX4_21 rfl dX4_readTell_107 ?_
      refine Ev_getF 1 0 15 flX4_108 rfl dX4_readTell_110 ?_
      obtain ⟨μ26, hM27, h⟩ := h
      refine Ev_callV [_] mlX4_101 rfl rfl (Nat.le_of_ble_eq_true rfl) dX4_readTell_113 hM27 ?_
      refine Ev_goto 198 dX4_readTell_116 (by decide) ?_
      refine Ev_aload_n dX4_readTell_198 rfl ?_
      refine Ev_bipush 23 dX4_readTell_199 (by decide) ?_
      obtain ⟨y30, μ28, hM29, h⟩ := h
      refine Ev_callV [_] mlX4_111 rfl rfl (Nat.le_of_ble_eq_true rfl) dX4_readTell_201 hM29 ?_
      refine Ev_pop dX4_readTell_204 (fun _ z => by cases z) ?_
      subst h
      exact R_v rfl dX4_readTell_205
    · have h := h.2.2.2.2.2.2.1 (Int32.toInt_inj.mp (e.trans (by decide)))
      refine ⟨_, 119, rfl, by decide, ?_⟩
      refine Ev_aload_n dX4_readTell_119 rfl ?_
      refine Ev_bipush 6 dX4_readTell_120 (by decide) ?_
      obtain ⟨y33, μ31, hM32, h⟩ := h
      refine Ev_callV [_] mlX4_111 rfl rfl (Nat.le_of_ble_eq_true rfl) dX4_readTell_122 hM32 ?_
      refine Ev_pop dX4_readTell_125 (fun _ z => by cases z) ?_
      refine Ev_aload_n dX4_readTell_126 rfl ?_
      refine Ev_getP flX4_21 rfl dX4_readTell_127 ?_
      refine Ev_aload_n dX4_readTell_130 rfl ?_
      refine Ev_iconst 0 dX4_readTell_131 (by decide) ?_
      refine Ev_sipush 9999 dX4_readTell_132 (by decide) ?_
      obtain ⟨y36, μ34, hM35, h⟩ := h
      refine Ev_callV [_, _] mlX4_115 rfl rfl (Nat.le_of_ble_eq_true rfl) dX4_readTell_135 hM35 ?_
      refine Ev_putI .int flX4_119 fpX3_4 rfl rfl rfl dX4_readTell_138 ?_
      have h := h _ rfl
      refine Ev_goto 198 dX4_readTell_141 (by decide) ?_
      refine Ev_aload_n dX4_readTell_198 rfl ?_
      refine Ev_bipush 23 dX4_readTell_199 (by decide) ?_
      obtain ⟨y40, μ38, hM39, h⟩ := h
      refine Ev_callV [_] mlX4_111 rfl rfl (Nat.le_of_ble_eq_true rfl) dX4_readTell_201 hM39 ?_
      refine Ev_pop dX4_readTell_204 (fun _ z => by cases z) ?_
      subst h
      exact R_v rfl dX4_readTell_205
    · have h := h.2.2.2.2.2.2.2.1 (Int32.toInt_inj.mp (e.trans (by decide)))
      refine ⟨_, 144, rfl, by decide, ?_⟩
      refine Ev_aload_n dX4_readTell_144 rfl ?_
      refine Ev_bipush 7 dX4_readTell_145 (by decide) ?_
      obtain ⟨y43, μ41, hM42, h⟩ := h
      refine Ev_callV [_] mlX4_111 rfl rfl (Nat.le_of_ble_eq_true rfl) dX4_readTell_147 hM42 ?_
      refine Ev_pop dX4_readTell_150 (fun _ z => by cases z) ?_
      refine Ev_aload_n dX4_readTell_151 rfl ?_
      refine Ev_getP flX4_21 rfl dX4_readTell_152 ?_
      refine Ev_aload_n dX4_readTell_155 rfl ?_
      refine Ev_iconst 0 dX4_readTell_156 (by decide) ?_
      refine Ev_bipush 100 dX4_readTell_157 (by decide) ?_
      obtain ⟨y46, μ44, hM45, h⟩ := h
      refine Ev_callV [_, _] mlX4_115 rfl rfl (Nat.le_of_ble_eq_true rfl) dX4_readTell_159 hM45 ?_
      refine Ev_putI .int flX4_122 fpX3_5 rfl rfl rfl dX4_readTell_162 ?_
      have h := h _ rfl
      refine Ev_goto 198 dX4_readTell_165 (by decide) ?_
      refine Ev_aload_n dX4_readTell_198 rfl ?_
      refine Ev_bipush 23 dX4_readTell_199 (by decide) ?_
      obtain ⟨y50, μ48, hM49, h⟩ := h
      refine Ev_callV [_] mlX4_111 rfl rfl (Nat.le_of_ble_eq_true rfl) dX4_readTell_201 hM49 ?_
      refine Ev_pop dX4_readTell_204 (fun _ z => by cases z) ?_
      subst h
      exact R_v rfl dX4_readTell_205
    · have h := h.2.2.2.2.2.2.2.2.1 (Int32.toInt_inj.mp (e.trans (by decide)))
      refine ⟨_, 168, rfl, by decide, ?_⟩
      refine Ev_aload_n dX4_readTell_168 rfl ?_
      refine Ev_bipush 8 dX4_readTell_169 (by decide) ?_
      obtain ⟨y53, μ51, hM52, h⟩ := h
      refine Ev_callV [_] mlX4_111 rfl rfl (Nat.le_of_ble_eq_true rfl) dX4_readTell_171 hM52 ?_
      refine Ev_pop dX4_readTell_174 (fun _ z => by cases z) ?_
      refine Ev_aload_n dX4_readTell_175 rfl ?_
      refine Ev_getP flX4_21 rfl dX4_readTell_176 ?_
      refine Ev_aload_n dX4_readTell_179 rfl ?_
      refine Ev_iconst 0 dX4_readTell_180 (by decide) ?_
      refine Ev_sipush 9999 dX4_readTell_181 (by decide) ?_
      obtain ⟨y56, μ54, hM55, h⟩ := h
      refine Ev_callV [_, _] mlX4_115 rfl rfl (Nat.le_of_ble_eq_true rfl) dX4_readTell_184 hM55 ?_
      refine Ev_putI .int flX4_125 fpX3_6 rfl rfl rfl dX4_readTell_187 ?_
      have h := h _ rfl
      refine Ev_goto 198 dX4_readTell_190 (by decide) ?_
      refine Ev_aload_n dX4_readTell_198 rfl ?_
      refine Ev_bipush 23 dX4_readTell_199 (by decide) ?_
      obtain ⟨y60, μ58, hM59, h⟩ := h
      refine Ev_callV [_] mlX4_111 rfl rfl (Nat.le_of_ble_eq_true rfl) dX4_readTell_201 hM59 ?_
      refine Ev_pop dX4_readTell_204 (fun _ z => by cases z) ?_
      subst h
      exact R_v rfl dX4_readTell_205
  · have h := h.2.2.2.2.2.2.2.2.2 q
    refine Ev_aload_n dX4_readTell_193 rfl ?_
    refine Ev_iconst 1 dX4_readTell_194 (by decide) ?_
    obtain ⟨μ61, hM62, h⟩ := h
    refine Ev_callV [_] mlX4_84 rfl rfl (Nat.le_of_ble_eq_true rfl) dX4_readTell_195 hM62 ?_
    refine Ev_aload_n dX4_readTell_198 rfl ?_
    refine Ev_bipush 23 dX4_readTell_199 (by decide) ?_
    obtain ⟨y65, μ63, hM64, h⟩ := h
    refine Ev_callV [_] mlX4_111 rfl rfl (Nat.le_of_ble_eq_true rfl) dX4_readTell_201 hM64 ?_
    refine Ev_pop dX4_readTell_204 (fun _ z => by cases z) ?_
    subst h
    exact R_v rfl dX4_readTell_205
set_option maxHeartbeats 4000000 in
set_option maxRecDepth 100000 in
theorem X4_readText_ok {d : Nat} {x2 : Int32} {μ μ' : Mem} {x : Int32} (h : (∃ (μ1 : Mem), X6_scan d x2 μ μ1 ∧ (∃ (μ3 : Mem), X4_begin d μ1 μ3 ∧ X4_readText_at15 d x2 0 μ3 x μ'))) : X4_readText (d + 1) x2 μ x μ' := by
  refine Me_of [some (vr 4 0 2), some (vr 12 2000 1), some (vi x2), none] rfl (Nat.le_of_ble_eq_true rfl) (by decide) ?_
  refine Ev_aload_n dX4_readText_0 rfl ?_
  refine Ev_getF 6 0 1 flX4_12 rfl dX4_readText_1 ?_
  refine Ev_aload_n dX4_readText_4 rfl ?_
  refine Ev_iload_n dX4_readText_5 rfl ?_
  obtain ⟨μ1, hM2, h⟩ := h
  refine Ev_callV [_, _] mlX4_51 rfl rfl (Nat.le_of_ble_eq_true rfl) dX4_readText_6 hM2 ?_
  refine Ev_aload_n dX4_readText_9 rfl ?_
  obtain ⟨μ3, hM4, h⟩ := h
  refine Ev_callV [] mlX4_55 rfl rfl (Nat.le_of_ble_eq_true rfl) dX4_readText_10 hM4 ?_
  refine Ev_iconst 0 dX4_readText_13 (by decide) ?_
  refine Ev_istore_n dX4_readText_14 (Nat.le_of_ble_eq_true rfl) (okp_of rfl) ?_
  refine Ev_weak ?_ h
  exact And.intro rfl (And.intro trivial (And.intro rfl (And.intro rfl (trivial))))
set_option maxHeartbeats 4000000 in
set_option maxRecDepth 100000 in
theorem X4_readText_at15_ok {d : Nat} {x2 : Int32} {x3 : Int32} {μ μ' : Mem} {x : Int32} (h : ((400 < x3 → X4_readText_at50 d x2 0 μ x μ') ∧ (¬ 400 < x3 → (((μ.1 2 6) ≠ 0 → X4_readText_at50 d x2 0 μ x μ') ∧ ((μ.1 2 6) = 0 → (((μ.1 2 3) = 32 → X4_readText_at50 d x2 0 μ x μ') ∧ (¬ (μ.1 2 3) = 32 → (∃ (μ1 : Mem), X4_readTell d μ μ1 ∧ X4_readText_at15 d x2 (x3 + 1) μ1 x μ')))))))) : X4_readText_at15 d x2 x3 μ x μ' := by
  refine Ev_iload_n dX4_readText_15 rfl ?_
  refine Ev_sipush 400 dX4_readText_16 (by decide) ?_
  refine Ev_icmp_gt 48 dX4_readText_19 (by decide) (fun q => ?_) (fun q => ?_)
  · have h := h.1 q
    refine Ev_iconst 0 dX4_readText_48 (by decide) ?_
    refine Ev_istore_n dX4_readText_49 (Nat.le_of_ble_eq_true rfl) (okp_of rfl) ?_
    exact h
  · have h := h.2 q
    refine Ev_aload_n dX4_readText_22 rfl ?_
    refine Ev_getI flX4_39 rfl dX4_readText_23 ?_
    refine Ev_if_ne 48 dX4_readText_26 (by decide) (fun q => ?_) (fun q => ?_)
    · have h := h.1 q
      refine Ev_iconst 0 dX4_readText_48 (by decide) ?_
      refine Ev_istore_n dX4_readText_49 (Nat.le_of_ble_eq_true rfl) (okp_of rfl) ?_
      exact h
    · have h := h.2 q
      refine Ev_aload_n dX4_readText_29 rfl ?_
      refine Ev_getI flX4_29 rfl dX4_readText_30 ?_
      refine Ev_bipush 32 dX4_readText_33 (by decide) ?_
      refine Ev_icmp_eq 48 dX4_readText_35 (by decide) (fun q => ?_) (fun q => ?_)
      · have h := h.1 q
        refine Ev_iconst 0 dX4_readText_48 (by decide) ?_
        refine Ev_istore_n dX4_readText_49 (Nat.le_of_ble_eq_true rfl) (okp_of rfl) ?_
        exact h
      · have h := h.2 q
        refine Ev_aload_n dX4_readText_38 rfl ?_
        obtain ⟨μ1, hM2, h⟩ := h
        refine Ev_callV [] mlX4_58 rfl rfl (Nat.le_of_ble_eq_true rfl) dX4_readText_39 hM2 ?_
        refine Ev_iinc (x3 + 1) dX4_readText_42 rfl rfl (okp_of rfl) ?_
        refine Ev_goto 15 dX4_readText_45 (by decide) ?_
        exact h
set_option maxHeartbeats 4000000 in
set_option maxRecDepth 100000 in
theorem X4_readText_at50_ok {d : Nat} {x2 : Int32} {x3 : Int32} {μ μ' : Mem} {x : Int32} (h : ((48 ≤ x3 → (((μ.1 2 6) ≠ 0 → (x = μ.1 2 6 ∧ μ' = μ)) ∧ ((μ.1 2 6) = 0 → (∀ μ1 : Mem, μ1 = sI μ 2 6 (μ.1 2 8) → (∀ μ2 : Mem, μ2 = sI μ1 2 7 (μ1.1 2 9) → (x = μ2.1 2 6 ∧ μ' = μ2)))))) ∧ (¬ 48 ≤ x3 → vp_in x3 48 ∧ (((μ.1 (μ.2.2 2 1 + 1) x3.toNatClampNeg) < (μ.1 (μ.2.2 2 1) 2) → X4_readText_at50 d x2 (x3 + 1) μ x μ') ∧ (¬ (μ.1 (μ.2.2 2 1 + 1) x3.toNatClampNeg) < (μ.1 (μ.2.2 2 1) 2) → (∃ (μ3 : Mem), X4_blameLater d 6 x2 μ μ3 ∧ X4_readText_at50 d x2 (x3 + 1) μ3 x μ')))))) : X4_readText_at50 d x2 x3 μ x μ' := by
  refine Ev_iload_n dX4_readText_50 rfl ?_
  refine Ev_bipush 48 dX4_readText_51 (by decide) ?_
  refine Ev_icmp_ge 88 dX4_readText_53 (by decide) (fun q => ?_) (fun q => ?_)
  · have h := h.1 q
    refine Ev_aload_n dX4_readText_88 rfl ?_
    refine Ev_getI flX4_39 rfl dX4_readText_89 ?_
    refine Ev_if_ne 111 dX4_readText_92 (by decide) (fun q => ?_) (fun q => ?_)
    · have h := h.1 q
      refine Ev_aload_n dX4_readText_111 rfl ?_
      refine Ev_getI flX4_39 rfl dX4_readText_112 ?_
      obtain ⟨rfl, rfl⟩ := h
      exact R_i rfl dX4_readText_115 rfl
    · have h := h.2 q
      refine Ev_aload_n dX4_readText_95 rfl ?_
      refine Ev_aload_n dX4_readText_96 rfl ?_
      refine Ev_getI flX4_45 rfl dX4_readText_97 ?_
      refine Ev_putI .int flX4_39 fpX4_6 rfl rfl rfl dX4_readText_100 ?_
      have h := h _ rfl
      refine Ev_aload_n dX4_readText_103 rfl ?_
      refine Ev_aload_n dX4_readText_104 rfl ?_
      refine Ev_getI flX4_48 rfl dX4_readText_105 ?_
      refine Ev_putI .int flX4_42 fpX4_7 rfl rfl rfl dX4_readText_108 ?_
      have h := h _ rfl
      refine Ev_aload_n dX4_readText_111 rfl ?_
      refine Ev_getI flX4_39 rfl dX4_readText_112 ?_
      obtain ⟨rfl, rfl⟩ := h
      exact R_i rfl dX4_readText_115 rfl
  · have h := h.2 q
    refine Ev_aload_n dX4_readText_56 rfl ?_
    refine Ev_getP flX4_21 rfl dX4_readText_57 ?_
    refine Ev_getF 11 48 1 flX4_61 rfl dX4_readText_60 ?_
    refine Ev_iload_n dX4_readText_63 rfl ?_
    obtain ⟨g, h⟩ := h
    refine Ev_iald g dX4_readText_64 ?_
    refine Ev_aload_n dX4_readText_65 rfl ?_
    refine Ev_getP flX4_21 rfl dX4_readText_66 ?_
    refine Ev_getI flX4_65 rfl dX4_readText_69 ?_
    refine Ev_icmp_lt 82 dX4_readText_72 (by decide) (fun q => ?_) (fun q => ?_)
    · have h := h.1 q
      refine Ev_iinc (x3 + 1) dX4_readText_82 rfl rfl (okp_of rfl) ?_
      refine Ev_goto 50 dX4_readText_85 (by decide) ?_
      exact h
    · have h := h.2 q
      refine Ev_aload_n dX4_readText_75 rfl ?_
      refine Ev_bipush 6 dX4_readText_76 (by decide) ?_
      refine Ev_iload_n dX4_readText_78 rfl ?_
      obtain ⟨μ3, hM4, h⟩ := h
      refine Ev_callV [_, _] mlX4_68 rfl rfl (Nat.le_of_ble_eq_true rfl) dX4_readText_79 hM4 ?_
      refine Ev_iinc (x3 + 1) dX4_readText_82 rfl rfl (okp_of rfl) ?_
      refine Ev_goto 50 dX4_readText_85 (by decide) ?_
      exact h
set_option maxHeartbeats 4000000 in
set_option maxRecDepth 100000 in
theorem X4_readUnit_ok {d : Nat} {a1 : Nat} {x2 : Int32} {μ μ' : Mem} (h : (((μ.1 2 3) ≠ 30 → (((μ.1 2 3) < 12 → (∃ (y3 : Int64) (μ1 : Mem), X4_value d μ y3 μ1 ∧ (∃ (μ4 : Mem), X1_put d a1 y3.toInt32 μ1 μ4 ∧ (∃ (y8 : Int32) (μ6 : Mem), X4_accept d 22 μ4 y8 μ6 ∧ μ' = μ6)))) ∧ (¬ (μ.1 2 3) < 12 → ((20 < (μ.1 2 3) → (∃ (y11 : Int64) (μ9 : Mem), X4_value d μ y11 μ9 ∧ (∃ (μ12 : Mem), X1_put d a1 y11.toInt32 μ9 μ12 ∧ (∃ (y16 : Int32) (μ14 : Mem), X4_accept d 22 μ12 y16 μ14 ∧ μ' = μ14)))) ∧ (¬ 20 < (μ.1 2 3) → (∃ (μ17 : Mem), X1_put d a1 ((-1) - ((μ.1 2 3) - 12)) μ μ17 ∧ (∃ (y21 : Int32) (μ19 : Mem), X4_accept d (μ17.1 2 3) μ17 y21 μ19 ∧ μ' = μ19))))))) ∧ ((μ.1 2 3) = 30 → ((x2 < 6 → (∃ (y24 : Int32) (μ22 : Mem), X4_accept d 30 μ y24 μ22 ∧ ((y24 = 0 → μ' = μ22) ∧ (¬ y24 = 0 → (∃ (μ25 : Mem), X4_readSum d a1 (x2 + 1) μ22 μ25 ∧ (∃ (y29 : Int32) (μ27 : Mem), X4_accept d 31 μ25 y29 μ27 ∧ μ' = μ27)))))) ∧ (¬ x2 < 6 → (∃ (μ30 : Mem), X4_blame d 2 μ μ30 ∧ μ' = μ30)))))) : X4_readUnit (d + 1) a1 x2 μ μ' := by
  refine Me_of [some (vr 4 0 2), some (vr 1 0 a1), some (vi x2)] rfl (Nat.le_of_ble_eq_true rfl) (by decide) ?_
  refine Ev_aload_n dX4_readUnit_0 rfl ?_
  refine Ev_getI flX4_29 rfl dX4_readUnit_1 ?_
  refine Ev_bipush 30 dX4_readUnit_4 (by decide) ?_
  refine Ev_icmp_ne 50 dX4_readUnit_6 (by decide) (fun q => ?_) (fun q => ?_)
  · have h := h.1 q
    refine Ev_aload_n dX4_readUnit_50 rfl ?_
    refine Ev_getI flX4_29 rfl dX4_readUnit_51 ?_
    refine Ev_bipush 12 dX4_readUnit_54 (by decide) ?_
    refine Ev_icmp_lt 93 dX4_readUnit_56 (by decide) (fun q => ?_) (fun q => ?_)
    · have h := h.1 q
      refine Ev_aload_n dX4_readUnit_93 rfl ?_
      refine Ev_aload_n dX4_readUnit_94 rfl ?_
      obtain ⟨y3, μ1, hM2, h⟩ := h
      refine Ev_callV [] mlX4_128 rfl rfl (Nat.le_of_ble_eq_true rfl) dX4_readUnit_95 hM2 ?_
      refine Ev_l2i dX4_readUnit_98 ?_
      obtain ⟨μ4, hM5, h⟩ := h
      refine Ev_callV [_] mlX4_185 rfl rfl (Nat.le_of_ble_eq_true rfl) dX4_readUnit_99 hM5 ?_
      refine Ev_aload_n dX4_readUnit_102 rfl ?_
      refine Ev_bipush 22 dX4_readUnit_103 (by decide) ?_
      obtain ⟨y8, μ6, hM7, h⟩ := h
      refine Ev_callV [_] mlX4_111 rfl rfl (Nat.le_of_ble_eq_true rfl) dX4_readUnit_105 hM7 ?_
      refine Ev_pop dX4_readUnit_108 (fun _ z => by cases z) ?_
      subst h
      exact R_v rfl dX4_readUnit_109
    · have h := h.2 q
      refine Ev_aload_n dX4_readUnit_59 rfl ?_
      refine Ev_getI flX4_29 rfl dX4_readUnit_60 ?_
      refine Ev_bipush 20 dX4_readUnit_63 (by decide) ?_
      refine Ev_icmp_gt 93 dX4_readUnit_65 (by decide) (fun q => ?_) (fun q => ?_)
      · have h := h.1 q
        refine Ev_aload_n dX4_readUnit_93 rfl ?_
        refine Ev_aload_n dX4_readUnit_94 rfl ?_
        obtain ⟨y11, μ9, hM10, h⟩ := h
        refine Ev_callV [] mlX4_128 rfl rfl (Nat.le_of_ble_eq_true rfl) dX4_readUnit_95 hM10 ?_
        refine Ev_l2i dX4_readUnit_98 ?_
        obtain ⟨μ12, hM13, h⟩ := h
        refine Ev_callV [_] mlX4_185 rfl rfl (Nat.le_of_ble_eq_true rfl) dX4_readUnit_99 hM13 ?_
        refine Ev_aload_n dX4_readUnit_102 rfl ?_
        refine Ev_bipush 22 dX4_readUnit_103 (by decide) ?_
        obtain ⟨y16, μ14, hM15, h⟩ := h
        refine Ev_callV [_] mlX4_111 rfl rfl (Nat.le_of_ble_eq_true rfl) dX4_readUnit_105 hM15 ?_
        refine Ev_pop dX4_readUnit_108 (fun _ z => by cases z) ?_
        subst h
        exact R_v rfl dX4_readUnit_109
      · have h := h.2 q
        refine Ev_aload_n dX4_readUnit_68 rfl ?_
        refine Ev_iconst (-1) dX4_readUnit_69 (by decide) ?_
        refine Ev_aload_n dX4_readUnit_70 rfl ?_
        refine Ev_getI flX4_29 rfl dX4_readUnit_71 ?_
        refine Ev_bipush 12 dX4_readUnit_74 (by decide) ?_
        refine Ev_isub dX4_readUnit_76 ?_
        refine Ev_isub dX4_readUnit_77 ?_
        obtain ⟨μ17, hM18, h⟩ := h
        refine Ev_callV [_] mlX4_185 rfl rfl (Nat.le_of_ble_eq_true rfl) dX4_readUnit_78 hM18 ?_
        refine Ev_aload_n dX4_readUnit_81 rfl ?_
        refine Ev_aload_n dX4_readUnit_82 rfl ?_
        refine Ev_getI flX4_29 rfl dX4_readUnit_83 ?_
        obtain ⟨y21, μ19, hM20, h⟩ := h
        refine Ev_callV [_] mlX4_111 rfl rfl (Nat.le_of_ble_eq_true rfl) dX4_readUnit_86 hM20 ?_
        refine Ev_pop dX4_readUnit_89 (fun _ z => by cases z) ?_
        refine Ev_goto 109 dX4_readUnit_90 (by decide) ?_
        subst h
        exact R_v rfl dX4_readUnit_109
  · have h := h.2 q
    refine Ev_iload_n dX4_readUnit_9 rfl ?_
    refine Ev_bipush 6 dX4_readUnit_10 (by decide) ?_
    refine Ev_icmp_lt 23 dX4_readUnit_12 (by decide) (fun q => ?_) (fun q => ?_)
    · have h := h.1 q
      refine Ev_aload_n dX4_readUnit_23 rfl ?_
      refine Ev_bipush 30 dX4_readUnit_24 (by decide) ?_
      obtain ⟨y24, μ22, hM23, h⟩ := h
      refine Ev_callV [_] mlX4_111 rfl rfl (Nat.le_of_ble_eq_true rfl) dX4_readUnit_26 hM23 ?_
      refine Ev_if_eq 109 dX4_readUnit_29 (by decide) (fun q => ?_) (fun q => ?_)
      · have h := h.1 q
        subst h
        exact R_v rfl dX4_readUnit_109
      · have h := h.2 q
        refine Ev_aload_n dX4_readUnit_32 rfl ?_
        refine Ev_aload_n dX4_readUnit_33 rfl ?_
        refine Ev_iload_n dX4_readUnit_34 rfl ?_
        refine Ev_iconst 1 dX4_readUnit_35 (by decide) ?_
        refine Ev_iadd dX4_readUnit_36 ?_
        obtain ⟨μ25, hM26, h⟩ := h
        refine Ev_callV [_, _] mlX4_178 rfl rfl (Nat.le_of_ble_eq_true rfl) dX4_readUnit_37 hM26 ?_
        refine Ev_aload_n dX4_readUnit_40 rfl ?_
        refine Ev_bipush 31 dX4_readUnit_41 (by decide) ?_
        obtain ⟨y29, μ27, hM28, h⟩ := h
        refine Ev_callV [_] mlX4_111 rfl rfl (Nat.le_of_ble_eq_true rfl) dX4_readUnit_43 hM28 ?_
        refine Ev_pop dX4_readUnit_46 (fun _ z => by cases z) ?_
        refine Ev_goto 109 dX4_readUnit_47 (by decide) ?_
        subst h
        exact R_v rfl dX4_readUnit_109
    · have h := h.2 q
      refine Ev_aload_n dX4_readUnit_15 rfl ?_
      refine Ev_iconst 2 dX4_readUnit_16 (by decide) ?_
      obtain ⟨μ30, hM31, h⟩ := h
      refine Ev_callV [_] mlX4_84 rfl rfl (Nat.le_of_ble_eq_true rfl) dX4_readUnit_17 hM31 ?_
      refine Ev_goto 109 dX4_readUnit_20 (by decide) ?_
      subst h
      exact R_v rfl dX4_readUnit_109
set_option maxHeartbeats 4000000 in
set_option maxRecDepth 100000 in
theorem X4_start_ok {d : Nat}  {μ μ' : Mem} {x : Int32} (h : vp_in (μ.1 2 2) 401 ∧ (x = μ.1 6 ((μ.1 2 2).toNatClampNeg) ∧ μ' = μ)) : X4_start d μ x μ' := by
  refine Me_of [some (vr 4 0 2)] rfl (Nat.le_of_ble_eq_true rfl) (by decide) ?_
  refine Ev_aload_n dX4_start_0 rfl ?_
  refine Ev_getF 6 0 1 flX4_12 rfl dX4_start_1 ?_
  refine Ev_getF 11 401 3 flX4_78 rfl dX4_start_4 ?_
  refine Ev_aload_n dX4_start_7 rfl ?_
  refine Ev_getI flX4_25 rfl dX4_start_8 ?_
  obtain ⟨g, h⟩ := h
  refine Ev_iald g dX4_start_11 ?_
  obtain ⟨rfl, rfl⟩ := h
  exact R_i rfl dX4_start_12 rfl
set_option maxHeartbeats 4000000 in
set_option maxRecDepth 100000 in
theorem X4_sumCode_ok {d : Nat}  {μ μ' : Mem} {x : Int32} (h : (((μ.1 2 3) ≠ 25 → (((μ.1 2 3) ≠ 26 → (x = 0 ∧ μ' = μ)) ∧ ((μ.1 2 3) = 26 → (x = (-11) ∧ μ' = μ)))) ∧ ((μ.1 2 3) = 25 → (x = (-10) ∧ μ' = μ)))) : X4_sumCode d μ x μ' := by
  refine Me_of [some (vr 4 0 2)] rfl (Nat.le_of_ble_eq_true rfl) (by decide) ?_
  refine Ev_aload_n dX4_sumCode_0 rfl ?_
  refine Ev_getI flX4_29 rfl dX4_sumCode_1 ?_
  refine Ev_bipush 25 dX4_sumCode_4 (by decide) ?_
  refine Ev_icmp_ne 14 dX4_sumCode_6 (by decide) (fun q => ?_) (fun q => ?_)
  · have h := h.1 q
    refine Ev_aload_n dX4_sumCode_14 rfl ?_
    refine Ev_getI flX4_29 rfl dX4_sumCode_15 ?_
    refine Ev_bipush 26 dX4_sumCode_18 (by decide) ?_
    refine Ev_icmp_ne 28 dX4_sumCode_20 (by decide) (fun q => ?_) (fun q => ?_)
    · have h := h.1 q
      refine Ev_iconst 0 dX4_sumCode_28 (by decide) ?_
      obtain ⟨rfl, rfl⟩ := h
      exact R_i rfl dX4_sumCode_29 rfl
    · have h := h.2 q
      refine Ev_bipush (-11) dX4_sumCode_23 (by decide) ?_
      refine Ev_goto 29 dX4_sumCode_25 (by decide) ?_
      obtain ⟨rfl, rfl⟩ := h
      exact R_i rfl dX4_sumCode_29 rfl
  · have h := h.2 q
    refine Ev_bipush (-10) dX4_sumCode_9 (by decide) ?_
    refine Ev_goto 29 dX4_sumCode_11 (by decide) ?_
    obtain ⟨rfl, rfl⟩ := h
    exact R_i rfl dX4_sumCode_29 rfl
set_option maxHeartbeats 4000000 in
set_option maxRecDepth 100000 in
theorem X4_value_ok {d : Nat}  {μ μ' : Mem} {x : Int64} (h : vp_in (μ.1 2 2) 401 ∧ (x = μ.2.1 7 ((μ.1 2 2).toNatClampNeg) ∧ μ' = μ)) : X4_value d μ x μ' := by
  refine Me_of [some (vr 4 0 2)] rfl (Nat.le_of_ble_eq_true rfl) (by decide) ?_
  refine Ev_aload_n dX4_value_0 rfl ?_
  refine Ev_getF 6 0 1 flX4_12 rfl dX4_value_1 ?_
  refine Ev_getF 13 401 4 flX4_81 rfl dX4_value_4 ?_
  refine Ev_aload_n dX4_value_7 rfl ?_
  refine Ev_getI flX4_25 rfl dX4_value_8 ?_
  obtain ⟨g, h⟩ := h
  refine Ev_lald g dX4_value_11 ?_
  obtain ⟨rfl, rfl⟩ := h
  exact R_l rfl dX4_value_12
set_option maxHeartbeats 4000000 in
set_option maxRecDepth 100000 in
theorem X5_addPart_ok {d : Nat} {a : Nat} {x1 : Int32} {x2 : Int32} {x3 : Int32} {μ μ' : Mem} (h : (∃ (y3 : Int32) (μ1 : Mem), X5_isPart d x1 x2 μ y3 μ1 ∧ ((y3 = 0 → μ' = μ1) ∧ (¬ y3 = 0 → vp_in ((x1 * 8) + x2) 32 ∧ vp_in ((x1 * 8) + x2) 32 ∧ (∀ μ4 : Mem, μ4 = sI μ1 (a + 2) (((x1 * 8) + x2).toNatClampNeg) ((μ1.1 (a + 2) (((x1 * 8) + x2).toNatClampNeg)) + x3) → μ' = μ4))))) : X5_addPart (d + 1) a x1 x2 x3 μ μ' := by
  refine Me_of [some (vr 5 0 a), some (vi x1), some (vi x2), some (vi x3)] rfl (Nat.le_of_ble_eq_true rfl) (by decide) ?_
  refine Ev_iload_n dX5_addPart_0 rfl ?_
  refine Ev_iload_n dX5_addPart_1 rfl ?_
  obtain ⟨y3, μ1, hM2, h⟩ := h
  refine Ev_callS [_, _] mlX5_62 rfl rfl (Nat.le_of_ble_eq_true rfl) dX5_addPart_2 hM2 ?_
  refine Ev_if_eq 23 dX5_addPart_5 (by decide) (fun q => ?_) (fun q => ?_)
  · have h := h.1 q
    subst h
    exact R_v rfl dX5_addPart_23
  · have h := h.2 q
    refine Ev_aload_n dX5_addPart_8 rfl ?_
    refine Ev_getF 11 32 2 flX5_22 rfl dX5_addPart_9 ?_
    refine Ev_iload_n dX5_addPart_12 rfl ?_
    refine Ev_bipush 8 dX5_addPart_13 (by decide) ?_
    refine Ev_imul dX5_addPart_15 ?_
    refine Ev_iload_n dX5_addPart_16 rfl ?_
    refine Ev_iadd dX5_addPart_17 ?_
    refine Ev_dup2 dX5_addPart_18 ?_
    obtain ⟨g, h⟩ := h
    refine Ev_iald g dX5_addPart_19 ?_
    refine Ev_iload_n dX5_addPart_20 rfl ?_
    refine Ev_iadd dX5_addPart_21 ?_
    obtain ⟨g, h⟩ := h
    refine Ev_iast g dX5_addPart_22 ?_
    have h := h _ rfl
    subst h
    exact R_v rfl dX5_addPart_23
set_option maxHeartbeats 4000000 in
set_option maxRecDepth 100000 in
theorem X5_begin_ok {d : Nat} {a : Nat} {a1 : Nat} {μ μ' : Mem} (h : (∀ μ1 : Mem, μ1 = sI μ a 0 0 → (∀ μ2 : Mem, μ2 = sI μ1 a 1 (μ1.1 a1 4) → (∃ (μ3 : Mem), J7_fill_53178 d 48 (a + 1) 0 μ2 μ3 ∧ (∃ (μ5 : Mem), J7_fill_53178 d 32 (a + 2) 0 μ3 μ5 ∧ (∃ (μ7 : Mem), J7_fill_53178 d 6 (a + 3) 0 μ5 μ7 ∧ (∃ (μ9 : Mem), J7_fill_53178 d 6 (a + 4) 0 μ7 μ9 ∧ X5_begin_at47 d a a1 0 μ9 μ'))))))) : X5_begin (d + 1) a a1 μ μ' := by
  refine Me_of [some (vr 5 0 a), some (vr 3 0 a1), none] rfl (Nat.le_of_ble_eq_true rfl) (by decide) ?_
  refine Ev_aload_n dX5_begin_0 rfl ?_
  refine Ev_iconst 0 dX5_begin_1 (by decide) ?_
  refine Ev_putI .int flX5_9 fpX5_0 rfl rfl rfl dX5_begin_2 ?_
  have h := h _ rfl
  refine Ev_aload_n dX5_begin_5 rfl ?_
  refine Ev_aload_n dX5_begin_6 rfl ?_
  refine Ev_getI flX5_31 rfl dX5_begin_7 ?_
  refine Ev_putI .int flX5_15 fpX5_1 rfl rfl rfl dX5_begin_10 ?_
  have h := h _ rfl
  refine Ev_aload_n dX5_begin_13 rfl ?_
  refine Ev_getF 11 48 1 flX5_18 rfl dX5_begin_14 ?_
  refine Ev_iconst 0 dX5_begin_17 (by decide) ?_
  obtain ⟨μ3, hM4, h⟩ := h
  refine Ev_callS [_, _] mlX5_34 rfl rfl (Nat.le_of_ble_eq_true rfl) dX5_begin_18 hM4 ?_
  refine Ev_aload_n dX5_begin_21 rfl ?_
  refine Ev_getF 11 32 2 flX5_22 rfl dX5_begin_22 ?_
  refine Ev_iconst 0 dX5_begin_25 (by decide) ?_
  obtain ⟨μ5, hM6, h⟩ := h
  refine Ev_callS [_, _] mlX5_34 rfl rfl (Nat.le_of_ble_eq_true rfl) dX5_begin_26 hM6 ?_
  refine Ev_aload_n dX5_begin_29 rfl ?_
  refine Ev_getF 11 6 3 flX5_25 rfl dX5_begin_30 ?_
  refine Ev_iconst 0 dX5_begin_33 (by decide) ?_
  obtain ⟨μ7, hM8, h⟩ := h
  refine Ev_callS [_, _] mlX5_34 rfl rfl (Nat.le_of_ble_eq_true rfl) dX5_begin_34 hM8 ?_
  refine Ev_aload_n dX5_begin_37 rfl ?_
  refine Ev_getF 11 6 4 flX5_28 rfl dX5_begin_38 ?_
  refine Ev_iconst 0 dX5_begin_41 (by decide) ?_
  obtain ⟨μ9, hM10, h⟩ := h
  refine Ev_callS [_, _] mlX5_34 rfl rfl (Nat.le_of_ble_eq_true rfl) dX5_begin_42 hM10 ?_
  refine Ev_iconst 0 dX5_begin_45 (by decide) ?_
  refine Ev_istore_n dX5_begin_46 (Nat.le_of_ble_eq_true rfl) (okp_of rfl) ?_
  exact h
set_option maxHeartbeats 4000000 in
set_option maxRecDepth 100000 in
theorem X5_begin_at47_ok {d : Nat} {a : Nat} {a1 : Nat} {x2 : Int32} {μ μ' : Mem} (h : (((μ.1 a1 3) ≤ x2 → μ' = μ) ∧ (¬ (μ.1 a1 3) ≤ x2 → vp_in x2 4 ∧ (∃ (μ1 : Mem), X5_addPart d a x2 0 (μ.1 (a1 + 5) x2.toNatClampNeg) μ μ1 ∧ vp_in x2 4 ∧ (∃ (μ3 : Mem), X5_addPart d a x2 1 (μ1.1 (a1 + 6) x2.toNatClampNeg) μ1 μ3 ∧ (∃ (μ5 : Mem), X5_setOrder d a x2 (-2) (-2) (-2) (-2) μ3 μ5 ∧ X5_begin_at47 d a a1 (x2 + 1) μ5 μ')))))) : X5_begin_at47 d a a1 x2 μ μ' := by
  refine Ev_iload_n dX5_begin_47 rfl ?_
  refine Ev_aload_n dX5_begin_48 rfl ?_
  refine Ev_getI flX5_40 rfl dX5_begin_49 ?_
  refine Ev_icmp_ge 98 dX5_begin_52 (by decide) (fun q => ?_) (fun q => ?_)
  · have h := h.1 q
    subst h
    exact R_v rfl dX5_begin_98
  · have h := h.2 q
    refine Ev_aload_n dX5_begin_55 rfl ?_
    refine Ev_iload_n dX5_begin_56 rfl ?_
    refine Ev_iconst 0 dX5_begin_57 (by decide) ?_
    refine Ev_aload_n dX5_begin_58 rfl ?_
    refine Ev_getF 11 4 5 flX5_42 rfl dX5_begin_59 ?_
    refine Ev_iload_n dX5_begin_62 rfl ?_
    obtain ⟨g, h⟩ := h
    refine Ev_iald g dX5_begin_63 ?_
    obtain ⟨μ1, hM2, h⟩ := h
    refine Ev_callV [_, _, _] mlX5_45 rfl rfl (Nat.le_of_ble_eq_true rfl) dX5_begin_64 hM2 ?_
    refine Ev_aload_n dX5_begin_67 rfl ?_
    refine Ev_iload_n dX5_begin_68 rfl ?_
    refine Ev_iconst 1 dX5_begin_69 (by decide) ?_
    refine Ev_aload_n dX5_begin_70 rfl ?_
    refine Ev_getF 11 4 6 flX5_49 rfl dX5_begin_71 ?_
    refine Ev_iload_n dX5_begin_74 rfl ?_
    obtain ⟨g, h⟩ := h
    refine Ev_iald g dX5_begin_75 ?_
    obtain ⟨μ3, hM4, h⟩ := h
    refine Ev_callV [_, _, _] mlX5_45 rfl rfl (Nat.le_of_ble_eq_true rfl) dX5_begin_76 hM4 ?_
    refine Ev_aload_n dX5_begin_79 rfl ?_
    refine Ev_iload_n dX5_begin_80 rfl ?_
    refine Ev_bipush (-2) dX5_begin_81 (by decide) ?_
    refine Ev_bipush (-2) dX5_begin_83 (by decide) ?_
    refine Ev_bipush (-2) dX5_begin_85 (by decide) ?_
    refine Ev_bipush (-2) dX5_begin_87 (by decide) ?_
    obtain ⟨μ5, hM6, h⟩ := h
    refine Ev_callV [_, _, _, _, _] mlX5_52 rfl rfl (Nat.le_of_ble_eq_true rfl) dX5_begin_89 hM6 ?_
    refine Ev_iinc (x2 + 1) dX5_begin_92 rfl rfl (okp_of rfl) ?_
    refine Ev_goto 47 dX5_begin_95 (by decide) ?_
    exact h
set_option maxHeartbeats 4000000 in
set_option maxRecDepth 100000 in
theorem X5_copy_ok {d : Nat} {a : Nat} {a1 : Nat} {μ μ' : Mem} {x : Nat} (h : (∀ μ1 : Mem, μ1 = sI μ a 0 (μ.1 a1 0) → (∀ μ2 : Mem, μ2 = sI μ1 a 1 (μ1.1 a1 1) → (∀ μ3 : Mem, μ3 = sA μ2 (a + 1) (va_cpy (μ2.1 (a1 + 1)) (μ2.1 (a + 1)) 0 0 48) → (∀ μ4 : Mem, μ4 = sA μ3 (a + 2) (va_cpy (μ3.1 (a1 + 2)) (μ3.1 (a + 2)) 0 0 32) → (∀ μ5 : Mem, μ5 = sA μ4 (a + 3) (va_cpy (μ4.1 (a1 + 3)) (μ4.1 (a + 3)) 0 0 6) → (∀ μ6 : Mem, μ6 = sA μ5 (a + 4) (va_cpy (μ5.1 (a1 + 4)) (μ5.1 (a + 4)) 0 0 6) → (x = a ∧ μ' = μ6)))))))) : X5_copy d a a1 μ x μ' := by
  refine Me_of [some (vr 5 0 a), some (vr 5 0 a1)] rfl (Nat.le_of_ble_eq_true rfl) (by decide) ?_
  refine Ev_aload_n dX5_copy_0 rfl ?_
  refine Ev_aload_n dX5_copy_1 rfl ?_
  refine Ev_getI flX5_9 rfl dX5_copy_2 ?_
  refine Ev_putI .int flX5_9 fpX5_0 rfl rfl rfl dX5_copy_5 ?_
  have h := h _ rfl
  refine Ev_aload_n dX5_copy_8 rfl ?_
  refine Ev_aload_n dX5_copy_9 rfl ?_
  refine Ev_getI flX5_15 rfl dX5_copy_10 ?_
  refine Ev_putI .int flX5_15 fpX5_1 rfl rfl rfl dX5_copy_13 ?_
  have h := h _ rfl
  refine Ev_aload_n dX5_copy_16 rfl ?_
  refine Ev_getF 11 48 1 flX5_18 rfl dX5_copy_17 ?_
  refine Ev_iconst 0 dX5_copy_20 (by decide) ?_
  refine Ev_aload_n dX5_copy_21 rfl ?_
  refine Ev_getF 11 48 1 flX5_18 rfl dX5_copy_22 ?_
  refine Ev_iconst 0 dX5_copy_25 (by decide) ?_
  refine Ev_bipush 48 dX5_copy_26 (by decide) ?_
  refine Ev_copy (t := 0) (n0 := 48) (n1 := 48) (ts4 119 rfl rfl) (ts4 121 rfl rfl) (ts4 120 rfl rfl) (ts1 19 rfl rfl) (by decide) (by decide) (by decide) (by decide) (by decide) (Nat.le_of_ble_eq_true rfl) dX5_copy_28 ?_
  have h := h _ rfl
  refine Ev_aload_n dX5_copy_31 rfl ?_
  refine Ev_getF 11 32 2 flX5_22 rfl dX5_copy_32 ?_
  refine Ev_iconst 0 dX5_copy_35 (by decide) ?_
  refine Ev_aload_n dX5_copy_36 rfl ?_
  refine Ev_getF 11 32 2 flX5_22 rfl dX5_copy_37 ?_
  refine Ev_iconst 0 dX5_copy_40 (by decide) ?_
  refine Ev_bipush 32 dX5_copy_41 (by decide) ?_
  refine Ev_copy (t := 0) (n0 := 32) (n1 := 32) (ts4 119 rfl rfl) (ts4 121 rfl rfl) (ts4 120 rfl rfl) (ts1 19 rfl rfl) (by decide) (by decide) (by decide) (by decide) (by decide) (Nat.le_of_ble_eq_true rfl) dX5_copy_43 ?_
  have h := h _ rfl
  refine Ev_aload_n dX5_copy_46 rfl ?_
  refine Ev_getF 11 6 3 flX5_25 rfl dX5_copy_47 ?_
  refine Ev_iconst 0 dX5_copy_50 (by decide) ?_
  refine Ev_aload_n dX5_copy_51 rfl ?_
  refine Ev_getF 11 6 3 flX5_25 rfl dX5_copy_52 ?_
  refine Ev_iconst 0 dX5_copy_55 (by decide) ?_
  refine Ev_bipush 6 dX5_copy_56 (by decide) ?_
  refine Ev_copy (t := 0) (n0 := 6) (n1 := 6) (ts4 119 rfl rfl) (ts4 121 rfl rfl) (ts4 120 rfl rfl) (ts1 19 rfl rfl) (by decide) (by decide) (by decide) (by decide) (by decide) (Nat.le_of_ble_eq_true rfl) dX5_copy_58 ?_
  have h := h _ rfl
  refine Ev_aload_n dX5_copy_61 rfl ?_
  refine Ev_getF 11 6 4 flX5_28 rfl dX5_copy_62 ?_
  refine Ev_iconst 0 dX5_copy_65 (by decide) ?_
  refine Ev_aload_n dX5_copy_66 rfl ?_
  refine Ev_getF 11 6 4 flX5_28 rfl dX5_copy_67 ?_
  refine Ev_iconst 0 dX5_copy_70 (by decide) ?_
  refine Ev_bipush 6 dX5_copy_71 (by decide) ?_
  refine Ev_copy (t := 0) (n0 := 6) (n1 := 6) (ts4 119 rfl rfl) (ts4 121 rfl rfl) (ts4 120 rfl rfl) (ts1 19 rfl rfl) (by decide) (by decide) (by decide) (by decide) (by decide) (Nat.le_of_ble_eq_true rfl) dX5_copy_73 ?_
  have h := h _ rfl
  refine Ev_aload_n dX5_copy_76 rfl ?_
  obtain ⟨rfl, rfl⟩ := h
  exact R_a rfl dX5_copy_77
set_option maxHeartbeats 4000000 in
set_option maxRecDepth 100000 in
theorem X5_hasOrder_ok {d : Nat} {a : Nat} {x1 : Int32} {μ μ' : Mem} {x : Int32} (h : (∃ (y3 : Int32) (μ1 : Mem), X5_part d a x1 2 μ y3 μ1 ∧ ((y3 ≤ 0 → (x = 0 ∧ μ' = μ1)) ∧ (¬ y3 ≤ 0 → (x = 1 ∧ μ' = μ1))))) : X5_hasOrder (d + 1) a x1 μ x μ' := by
  refine Me_of [some (vr 5 0 a), some (vi x1)] rfl (Nat.le_of_ble_eq_true rfl) (by decide) ?_
  refine Ev_aload_n dX5_hasOrder_0 rfl ?_
  refine Ev_iload_n dX5_hasOrder_1 rfl ?_
  refine Ev_iconst 2 dX5_hasOrder_2 (by decide) ?_
  obtain ⟨y3, μ1, hM2, h⟩ := h
  refine Ev_callV [_, _] mlX5_69 rfl rfl (Nat.le_of_ble_eq_true rfl) dX5_hasOrder_3 hM2 ?_
  refine Ev_if_le 13 dX5_hasOrder_6 (by decide) (fun q => ?_) (fun q => ?_)
  · have h := h.1 q
    refine Ev_iconst 0 dX5_hasOrder_13 (by decide) ?_
    obtain ⟨rfl, rfl⟩ := h
    exact R_i rfl dX5_hasOrder_14 rfl
  · have h := h.2 q
    refine Ev_iconst 1 dX5_hasOrder_9 (by decide) ?_
    refine Ev_goto 14 dX5_hasOrder_10 (by decide) ?_
    obtain ⟨rfl, rfl⟩ := h
    exact R_i rfl dX5_hasOrder_14 rfl
set_option maxHeartbeats 4000000 in
set_option maxRecDepth 100000 in
theorem X5_isOrdered_ok {d : Nat} {a : Nat} {x1 : Int32} {x2 : Int32} {x3 : Int32} {x4 : Int32} {x5 : Int32} {μ μ' : Mem} {x : Int32} (h : (∃ (y3 : Int32) (μ1 : Mem), X5_part d a x1 2 μ y3 μ1 ∧ ((y3 ≠ x2 → (x = 0 ∧ μ' = μ1)) ∧ (y3 = x2 → (∃ (y6 : Int32) (μ4 : Mem), X5_part d a x1 3 μ1 y6 μ4 ∧ ((y6 ≠ x3 → (x = 0 ∧ μ' = μ4)) ∧ (y6 = x3 → (∃ (y9 : Int32) (μ7 : Mem), X5_part d a x1 4 μ4 y9 μ7 ∧ ((y9 ≠ x4 → (x = 0 ∧ μ' = μ7)) ∧ (y9 = x4 → (∃ (y12 : Int32) (μ10 : Mem), X5_part d a x1 5 μ7 y12 μ10 ∧ ((y12 ≠ x5 → (x = 0 ∧ μ' = μ10)) ∧ (y12 = x5 → (x = 1 ∧ μ' = μ10)))))))))))))) : X5_isOrdered (d + 1) a x1 x2 x3 x4 x5 μ x μ' := by
  refine Me_of [some (vr 5 0 a), some (vi x1), some (vi x2), some (vi x3), some (vi x4), some (vi x5)] rfl (Nat.le_of_ble_eq_true rfl) (by decide) ?_
  refine Ev_aload_n dX5_isOrdered_0 rfl ?_
  refine Ev_iload_n dX5_isOrdered_1 rfl ?_
  refine Ev_iconst 2 dX5_isOrdered_2 (by decide) ?_
  obtain ⟨y3, μ1, hM2, h⟩ := h
  refine Ev_callV [_, _] mlX5_69 rfl rfl (Nat.le_of_ble_eq_true rfl) dX5_isOrdered_3 hM2 ?_
  refine Ev_iload_n dX5_isOrdered_6 rfl ?_
  refine Ev_icmp_ne 46 dX5_isOrdered_7 (by decide) (fun q => ?_) (fun q => ?_)
  · have h := h.1 q
    refine Ev_iconst 0 dX5_isOrdered_46 (by decide) ?_
    obtain ⟨rfl, rfl⟩ := h
    exact R_i rfl dX5_isOrdered_47 rfl
  · have h := h.2 q
    refine Ev_aload_n dX5_isOrdered_10 rfl ?_
    refine Ev_iload_n dX5_isOrdered_11 rfl ?_
    refine Ev_iconst 3 dX5_isOrdered_12 (by decide) ?_
    obtain ⟨y6, μ4, hM5, h⟩ := h
    refine Ev_callV [_, _] mlX5_69 rfl rfl (Nat.le_of_ble_eq_true rfl) dX5_isOrdered_13 hM5 ?_
    refine Ev_iload_n dX5_isOrdered_16 rfl ?_
    refine Ev_icmp_ne 46 dX5_isOrdered_17 (by decide) (fun q => ?_) (fun q => ?_)
    · have h := h.1 q
      refine Ev_iconst 0 dX5_isOrdered_46 (by decide) ?_
      obtain ⟨rfl, rfl⟩ := h
      exact R_i rfl dX5_isOrdered_47 rfl
    · have h := h.2 q
      refine Ev_aload_n dX5_isOrdered_20 rfl ?_
      refine Ev_iload_n dX5_isOrdered_21 rfl ?_
      refine Ev_iconst 4 dX5_isOrdered_22 (by decide) ?_
      obtain ⟨y9, μ7, hM8, h⟩ := h
      refine Ev_callV [_, _] mlX5_69 rfl rfl (Nat.le_of_ble_eq_true rfl) dX5_isOrdered_23 hM8 ?_
      refine Ev_iload dX5_isOrdered_26 rfl ?_
      refine Ev_icmp_ne 46 dX5_isOrdered_28 (by decide) (fun q => ?_) (fun q => ?_)
      · have h := h.1 q
        refine Ev_iconst 0 dX5_isOrdered_46 (by decide) ?_
        obtain ⟨rfl, rfl⟩ := h
        exact R_i rfl dX5_isOrdered_47 rfl
      · have h := h.2 q
        refine Ev_aload_n dX5_isOrdered_31 rfl ?_
        refine Ev_iload_n dX5_isOrdered_32 rfl ?_
        refine Ev_iconst 5 dX5_isOrdered_33 (by decide) ?_
        obtain ⟨y12, μ10, hM11, h⟩ := h
        refine Ev_callV [_, _] mlX5_69 rfl rfl (Nat.le_of_ble_eq_true rfl) dX5_isOrdered_34 hM11 ?_
        refine Ev_iload dX5_isOrdered_37 rfl ?_
        refine Ev_icmp_ne 46 dX5_isOrdered_39 (by decide) (fun q => ?_) (fun q => ?_)
        · have h := h.1 q
          refine Ev_iconst 0 dX5_isOrdered_46 (by decide) ?_
          obtain ⟨rfl, rfl⟩ := h
          exact R_i rfl dX5_isOrdered_47 rfl
        · have h := h.2 q
          refine Ev_iconst 1 dX5_isOrdered_42 (by decide) ?_
          refine Ev_goto 47 dX5_isOrdered_43 (by decide) ?_
          obtain ⟨rfl, rfl⟩ := h
          exact R_i rfl dX5_isOrdered_47 rfl
set_option maxHeartbeats 4000000 in
set_option maxRecDepth 100000 in
theorem X5_isPart_ok {d : Nat} {x0 : Int32} {x1 : Int32} {μ μ' : Mem} {x : Int32} (h : ((x0 < 0 → (x = 0 ∧ μ' = μ)) ∧ (¬ x0 < 0 → ((4 ≤ x0 → (x = 0 ∧ μ' = μ)) ∧ (¬ 4 ≤ x0 → ((x1 < 0 → (x = 0 ∧ μ' = μ)) ∧ (¬ x1 < 0 → ((8 ≤ x1 → (x = 0 ∧ μ' = μ)) ∧ (¬ 8 ≤ x1 → (x = 1 ∧ μ' = μ)))))))))) : X5_isPart d x0 x1 μ x μ' := by
  refine Me_of [some (vi x0), some (vi x1)] rfl (Nat.le_of_ble_eq_true rfl) (by decide) ?_
  refine Ev_iload_n dX5_isPart_0 rfl ?_
  refine Ev_if_lt 23 dX5_isPart_1 (by decide) (fun q => ?_) (fun q => ?_)
  · have h := h.1 q
    refine Ev_iconst 0 dX5_isPart_23 (by decide) ?_
    obtain ⟨rfl, rfl⟩ := h
    exact R_i rfl dX5_isPart_24 rfl
  · have h := h.2 q
    refine Ev_iload_n dX5_isPart_4 rfl ?_
    refine Ev_iconst 4 dX5_isPart_5 (by decide) ?_
    refine Ev_icmp_ge 23 dX5_isPart_6 (by decide) (fun q => ?_) (fun q => ?_)
    · have h := h.1 q
      refine Ev_iconst 0 dX5_isPart_23 (by decide) ?_
      obtain ⟨rfl, rfl⟩ := h
      exact R_i rfl dX5_isPart_24 rfl
    · have h := h.2 q
      refine Ev_iload_n dX5_isPart_9 rfl ?_
      refine Ev_if_lt 23 dX5_isPart_10 (by decide) (fun q => ?_) (fun q => ?_)
      · have h := h.1 q
        refine Ev_iconst 0 dX5_isPart_23 (by decide) ?_
        obtain ⟨rfl, rfl⟩ := h
        exact R_i rfl dX5_isPart_24 rfl
      · have h := h.2 q
        refine Ev_iload_n dX5_isPart_13 rfl ?_
        refine Ev_bipush 8 dX5_isPart_14 (by decide) ?_
        refine Ev_icmp_ge 23 dX5_isPart_16 (by decide) (fun q => ?_) (fun q => ?_)
        · have h := h.1 q
          refine Ev_iconst 0 dX5_isPart_23 (by decide) ?_
          obtain ⟨rfl, rfl⟩ := h
          exact R_i rfl dX5_isPart_24 rfl
        · have h := h.2 q
          refine Ev_iconst 1 dX5_isPart_19 (by decide) ?_
          refine Ev_goto 24 dX5_isPart_20 (by decide) ?_
          obtain ⟨rfl, rfl⟩ := h
          exact R_i rfl dX5_isPart_24 rfl
set_option maxHeartbeats 4000000 in
set_option maxRecDepth 100000 in
theorem X5_part_ok {d : Nat} {a : Nat} {x1 : Int32} {x2 : Int32} {μ μ' : Mem} {x : Int32} (h : (∃ (y3 : Int32) (μ1 : Mem), X5_isPart d x1 x2 μ y3 μ1 ∧ ((y3 = 0 → (x = 0 ∧ μ' = μ1)) ∧ (¬ y3 = 0 → vp_in ((x1 * 8) + x2) 32 ∧ (x = μ1.1 (a + 2) (((x1 * 8) + x2).toNatClampNeg) ∧ μ' = μ1))))) : X5_part (d + 1) a x1 x2 μ x μ' := by
  refine Me_of [some (vr 5 0 a), some (vi x1), some (vi x2)] rfl (Nat.le_of_ble_eq_true rfl) (by decide) ?_
  refine Ev_iload_n dX5_part_0 rfl ?_
  refine Ev_iload_n dX5_part_1 rfl ?_
  obtain ⟨y3, μ1, hM2, h⟩ := h
  refine Ev_callS [_, _] mlX5_62 rfl rfl (Nat.le_of_ble_eq_true rfl) dX5_part_2 hM2 ?_
  refine Ev_if_eq 22 dX5_part_5 (by decide) (fun q => ?_) (fun q => ?_)
  · have h := h.1 q
    refine Ev_iconst 0 dX5_part_22 (by decide) ?_
    obtain ⟨rfl, rfl⟩ := h
    exact R_i rfl dX5_part_23 rfl
  · have h := h.2 q
    refine Ev_aload_n dX5_part_8 rfl ?_
    refine Ev_getF 11 32 2 flX5_22 rfl dX5_part_9 ?_
    refine Ev_iload_n dX5_part_12 rfl ?_
    refine Ev_bipush 8 dX5_part_13 (by decide) ?_
    refine Ev_imul dX5_part_15 ?_
    refine Ev_iload_n dX5_part_16 rfl ?_
    refine Ev_iadd dX5_part_17 ?_
    obtain ⟨g, h⟩ := h
    refine Ev_iald g dX5_part_18 ?_
    refine Ev_goto 23 dX5_part_19 (by decide) ?_
    obtain ⟨rfl, rfl⟩ := h
    exact R_i rfl dX5_part_23 rfl
set_option maxHeartbeats 4000000 in
set_option maxRecDepth 100000 in
theorem X5_setOrder_ok {d : Nat} {a : Nat} {x1 : Int32} {x2 : Int32} {x3 : Int32} {x4 : Int32} {x5 : Int32} {μ μ' : Mem} (h : (∃ (μ1 : Mem), X5_setPart d a x1 2 x2 μ μ1 ∧ (∃ (μ3 : Mem), X5_setPart d a x1 3 x3 μ1 μ3 ∧ (∃ (μ5 : Mem), X5_setPart d a x1 4 x4 μ3 μ5 ∧ (∃ (μ7 : Mem), X5_setPart d a x1 5 x5 μ5 μ7 ∧ μ' = μ7))))) : X5_setOrder (d + 1) a x1 x2 x3 x4 x5 μ μ' := by
  refine Me_of [some (vr 5 0 a), some (vi x1), some (vi x2), some (vi x3), some (vi x4), some (vi x5)] rfl (Nat.le_of_ble_eq_true rfl) (by decide) ?_
  refine Ev_aload_n dX5_setOrder_0 rfl ?_
  refine Ev_iload_n dX5_setOrder_1 rfl ?_
  refine Ev_iconst 2 dX5_setOrder_2 (by decide) ?_
  refine Ev_iload_n dX5_setOrder_3 rfl ?_
  obtain ⟨μ1, hM2, h⟩ := h
  refine Ev_callV [_, _, _] mlX5_66 rfl rfl (Nat.le_of_ble_eq_true rfl) dX5_setOrder_4 hM2 ?_
  refine Ev_aload_n dX5_setOrder_7 rfl ?_
  refine Ev_iload_n dX5_setOrder_8 rfl ?_
  refine Ev_iconst 3 dX5_setOrder_9 (by decide) ?_
  refine Ev_iload_n dX5_setOrder_10 rfl ?_
  obtain ⟨μ3, hM4, h⟩ := h
  refine Ev_callV [_, _, _] mlX5_66 rfl rfl (Nat.le_of_ble_eq_true rfl) dX5_setOrder_11 hM4 ?_
  refine Ev_aload_n dX5_setOrder_14 rfl ?_
  refine Ev_iload_n dX5_setOrder_15 rfl ?_
  refine Ev_iconst 4 dX5_setOrder_16 (by decide) ?_
  refine Ev_iload dX5_setOrder_17 rfl ?_
  obtain ⟨μ5, hM6, h⟩ := h
  refine Ev_callV [_, _, _] mlX5_66 rfl rfl (Nat.le_of_ble_eq_true rfl) dX5_setOrder_19 hM6 ?_
  refine Ev_aload_n dX5_setOrder_22 rfl ?_
  refine Ev_iload_n dX5_setOrder_23 rfl ?_
  refine Ev_iconst 5 dX5_setOrder_24 (by decide) ?_
  refine Ev_iload dX5_setOrder_25 rfl ?_
  obtain ⟨μ7, hM8, h⟩ := h
  refine Ev_callV [_, _, _] mlX5_66 rfl rfl (Nat.le_of_ble_eq_true rfl) dX5_setOrder_27 hM8 ?_
  subst h
  exact R_v rfl dX5_setOrder_30
set_option maxHeartbeats 4000000 in
set_option maxRecDepth 100000 in
theorem X5_setPart_ok {d : Nat} {a : Nat} {x1 : Int32} {x2 : Int32} {x3 : Int32} {μ μ' : Mem} (h : (∃ (y3 : Int32) (μ1 : Mem), X5_isPart d x1 x2 μ y3 μ1 ∧ ((y3 = 0 → μ' = μ1) ∧ (¬ y3 = 0 → vp_in ((x1 * 8) + x2) 32 ∧ (∀ μ4 : Mem, μ4 = sI μ1 (a + 2) (((x1 * 8) + x2).toNatClampNeg) x3 → μ' = μ4))))) : X5_setPart (d + 1) a x1 x2 x3 μ μ' := by
  refine Me_of [some (vr 5 0 a), some (vi x1), some (vi x2), some (vi x3)] rfl (Nat.le_of_ble_eq_true rfl) (by decide) ?_
  refine Ev_iload_n dX5_setPart_0 rfl ?_
  refine Ev_iload_n dX5_setPart_1 rfl ?_
  obtain ⟨y3, μ1, hM2, h⟩ := h
  refine Ev_callS [_, _] mlX5_62 rfl rfl (Nat.le_of_ble_eq_true rfl) dX5_setPart_2 hM2 ?_
  refine Ev_if_eq 20 dX5_setPart_5 (by decide) (fun q => ?_) (fun q => ?_)
  · have h := h.1 q
    subst h
    exact R_v rfl dX5_setPart_20
  · have h := h.2 q
    refine Ev_aload_n dX5_setPart_8 rfl ?_
    refine Ev_getF 11 32 2 flX5_22 rfl dX5_setPart_9 ?_
    refine Ev_iload_n dX5_setPart_12 rfl ?_
    refine Ev_bipush 8 dX5_setPart_13 (by decide) ?_
    refine Ev_imul dX5_setPart_15 ?_
    refine Ev_iload_n dX5_setPart_16 rfl ?_
    refine Ev_iadd dX5_setPart_17 ?_
    refine Ev_iload_n dX5_setPart_18 rfl ?_
    obtain ⟨g, h⟩ := h
    refine Ev_iast g dX5_setPart_19 ?_
    have h := h _ rfl
    subst h
    exact R_v rfl dX5_setPart_20
set_option maxHeartbeats 4000000 in
set_option maxRecDepth 100000 in
theorem X5_sum_ok {d : Nat} {n0 : Nat} {a0 : Nat} {μ μ' : Mem} {x : Int32} (h : X5_sum_at4 d n0 a0 0 0 μ x μ') : X5_sum d n0 a0 μ x μ' := by
  refine Me_of [some (vr 11 n0 a0), none, none] rfl (Nat.le_of_ble_eq_true rfl) (by decide) ?_
  refine Ev_iconst 0 dX5_sum_0 (by decide) ?_
  refine Ev_istore_n dX5_sum_1 (Nat.le_of_ble_eq_true rfl) (okp_of rfl) ?_
  refine Ev_iconst 0 dX5_sum_2 (by decide) ?_
  refine Ev_istore_n dX5_sum_3 (Nat.le_of_ble_eq_true rfl) (okp_of rfl) ?_
  exact h
set_option maxHeartbeats 4000000 in
set_option maxRecDepth 100000 in
theorem X5_sum_at4_ok {d : Nat} {n0 : Nat} {a0 : Nat} {x1 : Int32} {x2 : Int32} {μ μ' : Mem} {x : Int32} (h : (((nI n0) ≤ x2 → (x = x1 ∧ μ' = μ)) ∧ (¬ (nI n0) ≤ x2 → vp_in x2 n0 ∧ X5_sum_at4 d n0 a0 (x1 + (μ.1 a0 x2.toNatClampNeg)) (x2 + 1) μ x μ'))) : X5_sum_at4 d n0 a0 x1 x2 μ x μ' := by
  refine Ev_iload_n dX5_sum_4 rfl ?_
  refine Ev_aload_n dX5_sum_5 rfl ?_
  refine Ev_alen (nI n0) (by decide) (by decide) rfl dX5_sum_6 ?_
  refine Ev_icmp_ge 22 dX5_sum_7 (by decide) (fun q => ?_) (fun q => ?_)
  · have h := h.1 q
    refine Ev_iload_n dX5_sum_22 rfl ?_
    obtain ⟨rfl, rfl⟩ := h
    exact R_i rfl dX5_sum_23 rfl
  · have h := h.2 q
    refine Ev_iload_n dX5_sum_10 rfl ?_
    refine Ev_aload_n dX5_sum_11 rfl ?_
    refine Ev_iload_n dX5_sum_12 rfl ?_
    obtain ⟨g, h⟩ := h
    refine Ev_iald g dX5_sum_13 ?_
    refine Ev_iadd dX5_sum_14 ?_
    refine Ev_istore_n dX5_sum_15 (Nat.le_of_ble_eq_true rfl) (okp_of rfl) ?_
    refine Ev_iinc (x2 + 1) dX5_sum_16 rfl rfl (okp_of rfl) ?_
    refine Ev_goto 4 dX5_sum_19 (by decide) ?_
    exact h
set_option maxHeartbeats 4000000 in
set_option maxRecDepth 100000 in
theorem X5_waterAt_ok {d : Nat} {a : Nat} {x1 : Int32} {x2 : Int32} {μ μ' : Mem} {x : Int32} (h : ((x1 < 0 → (((0 : Int32) = 0 → (x = 0 ∧ μ' = μ)) ∧ (¬ (0 : Int32) = 0 → vp_in ((x2 * 8) + x1) 48 ∧ (x = μ.1 (a + 1) (((x2 * 8) + x1).toNatClampNeg) ∧ μ' = μ)))) ∧ (¬ x1 < 0 → ((8 ≤ x1 → (((0 : Int32) = 0 → (x = 0 ∧ μ' = μ)) ∧ (¬ (0 : Int32) = 0 → vp_in ((x2 * 8) + x1) 48 ∧ (x = μ.1 (a + 1) (((x2 * 8) + x1).toNatClampNeg) ∧ μ' = μ)))) ∧ (¬ 8 ≤ x1 → ((x2 < 0 → (((0 : Int32) = 0 → (x = 0 ∧ μ' = μ)) ∧ (¬ (0 : Int32) = 0 → vp_in ((x2 * 8) + x1) 48 ∧ (x = μ.1 (a + 1) (((x2 * 8) + x1).toNatClampNeg) ∧ μ' = μ)))) ∧ (¬ x2 < 0 → ((6 ≤ x2 → (((0 : Int32) = 0 → (x = 0 ∧ μ' = μ)) ∧ (¬ (0 : Int32) = 0 → vp_in ((x2 * 8) + x1) 48 ∧ (x = μ.1 (a + 1) (((x2 * 8) + x1).toNatClampNeg) ∧ μ' = μ)))) ∧ (¬ 6 ≤ x2 → (((1 : Int32) = 0 → (x = 0 ∧ μ' = μ)) ∧ (¬ (1 : Int32) = 0 → vp_in ((x2 * 8) + x1) 48 ∧ (x = μ.1 (a + 1) (((x2 * 8) + x1).toNatClampNeg) ∧ μ' = μ)))))))))))) : X5_waterAt d a x1 x2 μ x μ' := by
  refine Me_of [some (vr 5 0 a), some (vi x1), some (vi x2), none] rfl (Nat.le_of_ble_eq_true rfl) (by decide) ?_
  refine Ev_iload_n dX5_waterAt_0 rfl ?_
  refine Ev_if_lt 24 dX5_waterAt_1 (by decide) (fun q => ?_) (fun q => ?_)
  · have h := h.1 q
    refine Ev_iconst 0 dX5_waterAt_24 (by decide) ?_
    refine Ev_istore_n dX5_waterAt_25 (Nat.le_of_ble_eq_true rfl) (okp_of rfl) ?_
    refine Ev_iload_n dX5_waterAt_26 rfl ?_
    refine Ev_if_eq 44 dX5_waterAt_27 (by decide) (fun q => ?_) (fun q => ?_)
    · have h := h.1 q
      refine Ev_iconst 0 dX5_waterAt_44 (by decide) ?_
      obtain ⟨rfl, rfl⟩ := h
      exact R_i rfl dX5_waterAt_45 rfl
    · have h := h.2 q
      refine Ev_aload_n dX5_waterAt_30 rfl ?_
      refine Ev_getF 11 48 1 flX5_18 rfl dX5_waterAt_31 ?_
      refine Ev_iload_n dX5_waterAt_34 rfl ?_
      refine Ev_bipush 8 dX5_waterAt_35 (by decide) ?_
      refine Ev_imul dX5_waterAt_37 ?_
      refine Ev_iload_n dX5_waterAt_38 rfl ?_
      refine Ev_iadd dX5_waterAt_39 ?_
      obtain ⟨g, h⟩ := h
      refine Ev_iald g dX5_waterAt_40 ?_
      refine Ev_goto 45 dX5_waterAt_41 (by decide) ?_
      obtain ⟨rfl, rfl⟩ := h
      exact R_i rfl dX5_waterAt_45 rfl
  · have h := h.2 q
    refine Ev_iload_n dX5_waterAt_4 rfl ?_
    refine Ev_bipush 8 dX5_waterAt_5 (by decide) ?_
    refine Ev_icmp_ge 24 dX5_waterAt_7 (by decide) (fun q => ?_) (fun q => ?_)
    · have h := h.1 q
      refine Ev_iconst 0 dX5_waterAt_24 (by decide) ?_
      refine Ev_istore_n dX5_waterAt_25 (Nat.le_of_ble_eq_true rfl) (okp_of rfl) ?_
      refine Ev_iload_n dX5_waterAt_26 rfl ?_
      refine Ev_if_eq 44 dX5_waterAt_27 (by decide) (fun q => ?_) (fun q => ?_)
      · have h := h.1 q
        refine Ev_iconst 0 dX5_waterAt_44 (by decide) ?_
        obtain ⟨rfl, rfl⟩ := h
        exact R_i rfl dX5_waterAt_45 rfl
      · have h := h.2 q
        refine Ev_aload_n dX5_waterAt_30 rfl ?_
        refine Ev_getF 11 48 1 flX5_18 rfl dX5_waterAt_31 ?_
        refine Ev_iload_n dX5_waterAt_34 rfl ?_
        refine Ev_bipush 8 dX5_waterAt_35 (by decide) ?_
        refine Ev_imul dX5_waterAt_37 ?_
        refine Ev_iload_n dX5_waterAt_38 rfl ?_
        refine Ev_iadd dX5_waterAt_39 ?_
        obtain ⟨g, h⟩ := h
        refine Ev_iald g dX5_waterAt_40 ?_
        refine Ev_goto 45 dX5_waterAt_41 (by decide) ?_
        obtain ⟨rfl, rfl⟩ := h
        exact R_i rfl dX5_waterAt_45 rfl
    · have h := h.2 q
      refine Ev_iload_n dX5_waterAt_10 rfl ?_
      refine Ev_if_lt 24 dX5_waterAt_11 (by decide) (fun q => ?_) (fun q => ?_)
      · have h := h.1 q
        refine Ev_iconst 0 dX5_waterAt_24 (by decide) ?_
        refine Ev_istore_n dX5_waterAt_25 (Nat.le_of_ble_eq_true rfl) (okp_of rfl) ?_
        refine Ev_iload_n dX5_waterAt_26 rfl ?_
        refine Ev_if_eq 44 dX5_waterAt_27 (by decide) (fun q => ?_) (fun q => ?_)
        · have h := h.1 q
          refine Ev_iconst 0 dX5_waterAt_44 (by decide) ?_
          obtain ⟨rfl, rfl⟩ := h
          exact R_i rfl dX5_waterAt_45 rfl
        · have h := h.2 q
          refine Ev_aload_n dX5_waterAt_30 rfl ?_
          refine Ev_getF 11 48 1 flX5_18 rfl dX5_waterAt_31 ?_
          refine Ev_iload_n dX5_waterAt_34 rfl ?_
          refine Ev_bipush 8 dX5_waterAt_35 (by decide) ?_
          refine Ev_imul dX5_waterAt_37 ?_
          refine Ev_iload_n dX5_waterAt_38 rfl ?_
          refine Ev_iadd dX5_waterAt_39 ?_
          obtain ⟨g, h⟩ := h
          refine Ev_iald g dX5_waterAt_40 ?_
          refine Ev_goto 45 dX5_waterAt_41 (by decide) ?_
          obtain ⟨rfl, rfl⟩ := h
          exact R_i rfl dX5_waterAt_45 rfl
      · have h := h.2 q
        refine Ev_iload_n dX5_waterAt_14 rfl ?_
        refine Ev_bipush 6 dX5_waterAt_15 (by decide) ?_
        refine Ev_icmp_ge 24 dX5_waterAt_17 (by decide) (fun q => ?_) (fun q => ?_)
        · have h := h.1 q
          refine Ev_iconst 0 dX5_waterAt_24 (by decide) ?_
          refine Ev_istore_n dX5_waterAt_25 (Nat.le_of_ble_eq_true rfl) (okp_of rfl) ?_
          refine Ev_iload_n dX5_waterAt_26 rfl ?_
          refine Ev_if_eq 44 dX5_waterAt_27 (by decide) (fun q => ?_) (fun q => ?_)
          · have h := h.1 q
            refine Ev_iconst 0 dX5_waterAt_44 (by decide) ?_
            obtain ⟨rfl, rfl⟩ := h
            exact R_i rfl dX5_waterAt_45 rfl
          · have h := h.2 q
            refine Ev_aload_n dX5_waterAt_30 rfl ?_
            refine Ev_getF 11 48 1 flX5_18 rfl dX5_waterAt_31 ?_
            refine Ev_iload_n dX5_waterAt_34 rfl ?_
            refine Ev_bipush 8 dX5_waterAt_35 (by decide) ?_
            refine Ev_imul dX5_waterAt_37 ?_
            refine Ev_iload_n dX5_waterAt_38 rfl ?_
            refine Ev_iadd dX5_waterAt_39 ?_
            obtain ⟨g, h⟩ := h
            refine Ev_iald g dX5_waterAt_40 ?_
            refine Ev_goto 45 dX5_waterAt_41 (by decide) ?_
            obtain ⟨rfl, rfl⟩ := h
            exact R_i rfl dX5_waterAt_45 rfl
        · have h := h.2 q
          refine Ev_iconst 1 dX5_waterAt_20 (by decide) ?_
          refine Ev_goto 25 dX5_waterAt_21 (by decide) ?_
          refine Ev_istore_n dX5_waterAt_25 (Nat.le_of_ble_eq_true rfl) (okp_of rfl) ?_
          refine Ev_iload_n dX5_waterAt_26 rfl ?_
          refine Ev_if_eq 44 dX5_waterAt_27 (by decide) (fun q => ?_) (fun q => ?_)
          · have h := h.1 q
            refine Ev_iconst 0 dX5_waterAt_44 (by decide) ?_
            obtain ⟨rfl, rfl⟩ := h
            exact R_i rfl dX5_waterAt_45 rfl
          · have h := h.2 q
            refine Ev_aload_n dX5_waterAt_30 rfl ?_
            refine Ev_getF 11 48 1 flX5_18 rfl dX5_waterAt_31 ?_
            refine Ev_iload_n dX5_waterAt_34 rfl ?_
            refine Ev_bipush 8 dX5_waterAt_35 (by decide) ?_
            refine Ev_imul dX5_waterAt_37 ?_
            refine Ev_iload_n dX5_waterAt_38 rfl ?_
            refine Ev_iadd dX5_waterAt_39 ?_
            obtain ⟨g, h⟩ := h
            refine Ev_iald g dX5_waterAt_40 ?_
            refine Ev_goto 45 dX5_waterAt_41 (by decide) ?_
            obtain ⟨rfl, rfl⟩ := h
            exact R_i rfl dX5_waterAt_45 rfl
set_option maxHeartbeats 4000000 in
set_option maxRecDepth 100000 in
theorem X5_waterOf_ok {d : Nat} {a : Nat} {a1 : Nat} {x2 : Int32} {μ μ' : Mem} {x : Int32} (h : X5_waterOf_at5 d a a1 x2 0 0 μ x μ') : X5_waterOf d a a1 x2 μ x μ' := by
  refine Me_of [some (vr 5 0 a), some (vr 3 0 a1), some (vi x2), none, none] rfl (Nat.le_of_ble_eq_true rfl) (by decide) ?_
  refine Ev_iconst 0 dX5_waterOf_0 (by decide) ?_
  refine Ev_istore_n dX5_waterOf_1 (Nat.le_of_ble_eq_true rfl) (okp_of rfl) ?_
  refine Ev_iconst 0 dX5_waterOf_2 (by decide) ?_
  refine Ev_istore dX5_waterOf_3 (Nat.le_of_ble_eq_true rfl) (okp_of rfl) ?_
  exact h
set_option maxHeartbeats 4000000 in
set_option maxRecDepth 100000 in
theorem X5_waterOf_at5_ok {d : Nat} {a : Nat} {a1 : Nat} {x2 : Int32} {x3 : Int32} {x4 : Int32} {μ μ' : Mem} {x : Int32} (h : ((48 ≤ x4 → (x = x3 ∧ μ' = μ)) ∧ (¬ 48 ≤ x4 → vp_in x4 48 ∧ (((μ.1 (a1 + 1) x4.toNatClampNeg) ≠ x2 → X5_waterOf_at5 d a a1 x2 x3 (x4 + 1) μ x μ') ∧ ((μ.1 (a1 + 1) x4.toNatClampNeg) = x2 → vp_in x4 48 ∧ X5_waterOf_at5 d a a1 x2 (x3 + (μ.1 (a + 1) x4.toNatClampNeg)) (x4 + 1) μ x μ'))))) : X5_waterOf_at5 d a a1 x2 x3 x4 μ x μ' := by
  refine Ev_iload dX5_waterOf_5 rfl ?_
  refine Ev_bipush 48 dX5_waterOf_7 (by decide) ?_
  refine Ev_icmp_ge 39 dX5_waterOf_9 (by decide) (fun q => ?_) (fun q => ?_)
  · have h := h.1 q
    refine Ev_iload_n dX5_waterOf_39 rfl ?_
    obtain ⟨rfl, rfl⟩ := h
    exact R_i rfl dX5_waterOf_40 rfl
  · have h := h.2 q
    refine Ev_aload_n dX5_waterOf_12 rfl ?_
    refine Ev_getF 11 48 1 flX5_73 rfl dX5_waterOf_13 ?_
    refine Ev_iload dX5_waterOf_16 rfl ?_
    obtain ⟨g, h⟩ := h
    refine Ev_iald g dX5_waterOf_18 ?_
    refine Ev_iload_n dX5_waterOf_19 rfl ?_
    refine Ev_icmp_ne 33 dX5_waterOf_20 (by decide) (fun q => ?_) (fun q => ?_)
    · have h := h.1 q
      refine Ev_iinc (x4 + 1) dX5_waterOf_33 rfl rfl (okp_of rfl) ?_
      refine Ev_goto 5 dX5_waterOf_36 (by decide) ?_
      exact h
    · have h := h.2 q
      refine Ev_iload_n dX5_waterOf_23 rfl ?_
      refine Ev_aload_n dX5_waterOf_24 rfl ?_
      refine Ev_getF 11 48 1 flX5_18 rfl dX5_waterOf_25 ?_
      refine Ev_iload dX5_waterOf_28 rfl ?_
      obtain ⟨g, h⟩ := h
      refine Ev_iald g dX5_waterOf_30 ?_
      refine Ev_iadd dX5_waterOf_31 ?_
      refine Ev_istore_n dX5_waterOf_32 (Nat.le_of_ble_eq_true rfl) (okp_of rfl) ?_
      refine Ev_iinc (x4 + 1) dX5_waterOf_33 rfl rfl (okp_of rfl) ?_
      refine Ev_goto 5 dX5_waterOf_36 (by decide) ?_
      exact h
set_option maxHeartbeats 4000000 in
set_option maxRecDepth 100000 in
theorem X5_woven_ok {d : Nat} {a : Nat} {μ μ' : Mem} {x : Int32} (h : X5_woven_at4 d a 0 0 μ x μ') : X5_woven (d + 1) a μ x μ' := by
  refine Me_of [some (vr 5 0 a), none, none] rfl (Nat.le_of_ble_eq_true rfl) (by decide) ?_
  refine Ev_iconst 0 dX5_woven_0 (by decide) ?_
  refine Ev_istore_n dX5_woven_1 (Nat.le_of_ble_eq_true rfl) (okp_of rfl) ?_
  refine Ev_iconst 0 dX5_woven_2 (by decide) ?_
  refine Ev_istore_n dX5_woven_3 (Nat.le_of_ble_eq_true rfl) (okp_of rfl) ?_
  exact h
set_option maxHeartbeats 4000000 in
set_option maxRecDepth 100000 in
theorem X5_woven_at4_ok {d : Nat} {a : Nat} {x1 : Int32} {x2 : Int32} {μ μ' : Mem} {x : Int32} (h : ((4 ≤ x2 → (x = x1 ∧ μ' = μ)) ∧ (¬ 4 ≤ x2 → (∃ (y3 : Int32) (μ1 : Mem), X5_part d a x2 6 μ y3 μ1 ∧ X5_woven_at4 d a (x1 + y3) (x2 + 1) μ1 x μ')))) : X5_woven_at4 d a x1 x2 μ x μ' := by
  refine Ev_iload_n dX5_woven_4 rfl ?_
  refine Ev_iconst 4 dX5_woven_5 (by decide) ?_
  refine Ev_icmp_ge 25 dX5_woven_6 (by decide) (fun q => ?_) (fun q => ?_)
  · have h := h.1 q
    refine Ev_iload_n dX5_woven_25 rfl ?_
    obtain ⟨rfl, rfl⟩ := h
    exact R_i rfl dX5_woven_26 rfl
  · have h := h.2 q
    refine Ev_iload_n dX5_woven_9 rfl ?_
    refine Ev_aload_n dX5_woven_10 rfl ?_
    refine Ev_iload_n dX5_woven_11 rfl ?_
    refine Ev_bipush 6 dX5_woven_12 (by decide) ?_
    obtain ⟨y3, μ1, hM2, h⟩ := h
    refine Ev_callV [_, _] mlX5_69 rfl rfl (Nat.le_of_ble_eq_true rfl) dX5_woven_14 hM2 ?_
    refine Ev_iadd dX5_woven_17 ?_
    refine Ev_istore_n dX5_woven_18 (Nat.le_of_ble_eq_true rfl) (okp_of rfl) ?_
    refine Ev_iinc (x2 + 1) dX5_woven_19 rfl rfl (okp_of rfl) ?_
    refine Ev_goto 4 dX5_woven_22 (by decide) ?_
    exact h
set_option maxHeartbeats 4000000 in
set_option maxRecDepth 100000 in
theorem X6_isBlank_ok {d : Nat} {x0 : Int32} {μ μ' : Mem} {x : Int32} (h : ((x0 = 9 → (x = 1 ∧ μ' = μ)) ∧ (¬ x0 = 9 → ((x0 = 10 → (x = 1 ∧ μ' = μ)) ∧ (¬ x0 = 10 → ((x0 = 13 → (x = 1 ∧ μ' = μ)) ∧ (¬ x0 = 13 → ((x0 ≠ 32 → (x = 0 ∧ μ' = μ)) ∧ (x0 = 32 → (x = 1 ∧ μ' = μ)))))))))) : X6_isBlank d x0 μ x μ' := by
  refine Me_of [some (vi x0)] rfl (Nat.le_of_ble_eq_true rfl) (by decide) ?_
  refine Ev_iload_n dX6_isBlank_0 rfl ?_
  refine Ev_bipush 9 dX6_isBlank_1 (by decide) ?_
  refine Ev_icmp_eq 24 dX6_isBlank_3 (by decide) (fun q => ?_) (fun q => ?_)
  · have h := h.1 q
    refine Ev_iconst 1 dX6_isBlank_24 (by decide) ?_
    refine Ev_goto 29 dX6_isBlank_25 (by decide) ?_
    obtain ⟨rfl, rfl⟩ := h
    exact R_i rfl dX6_isBlank_29 rfl
  · have h := h.2 q
    refine Ev_iload_n dX6_isBlank_6 rfl ?_
    refine Ev_bipush 10 dX6_isBlank_7 (by decide) ?_
    refine Ev_icmp_eq 24 dX6_isBlank_9 (by decide) (fun q => ?_) (fun q => ?_)
    · have h := h.1 q
      refine Ev_iconst 1 dX6_isBlank_24 (by decide) ?_
      refine Ev_goto 29 dX6_isBlank_25 (by decide) ?_
      obtain ⟨rfl, rfl⟩ := h
      exact R_i rfl dX6_isBlank_29 rfl
    · have h := h.2 q
      refine Ev_iload_n dX6_isBlank_12 rfl ?_
      refine Ev_bipush 13 dX6_isBlank_13 (by decide) ?_
      refine Ev_icmp_eq 24 dX6_isBlank_15 (by decide) (fun q => ?_) (fun q => ?_)
      · have h := h.1 q
        refine Ev_iconst 1 dX6_isBlank_24 (by decide) ?_
        refine Ev_goto 29 dX6_isBlank_25 (by decide) ?_
        obtain ⟨rfl, rfl⟩ := h
        exact R_i rfl dX6_isBlank_29 rfl
      · have h := h.2 q
        refine Ev_iload_n dX6_isBlank_18 rfl ?_
        refine Ev_bipush 32 dX6_isBlank_19 (by decide) ?_
        refine Ev_icmp_ne 28 dX6_isBlank_21 (by decide) (fun q => ?_) (fun q => ?_)
        · have h := h.1 q
          refine Ev_iconst 0 dX6_isBlank_28 (by decide) ?_
          obtain ⟨rfl, rfl⟩ := h
          exact R_i rfl dX6_isBlank_29 rfl
        · have h := h.2 q
          refine Ev_iconst 1 dX6_isBlank_24 (by decide) ?_
          refine Ev_goto 29 dX6_isBlank_25 (by decide) ?_
          obtain ⟨rfl, rfl⟩ := h
          exact R_i rfl dX6_isBlank_29 rfl
set_option maxHeartbeats 4000000 in
set_option maxRecDepth 100000 in
theorem X6_isDigit_ok {d : Nat} {x0 : Int32} {μ μ' : Mem} {x : Int32} (h : ((x0 < 48 → (x = 0 ∧ μ' = μ)) ∧ (¬ x0 < 48 → ((57 < x0 → (x = 0 ∧ μ' = μ)) ∧ (¬ 57 < x0 → (x = 1 ∧ μ' = μ)))))) : X6_isDigit d x0 μ x μ' := by
  refine Me_of [some (vi x0)] rfl (Nat.le_of_ble_eq_true rfl) (by decide) ?_
  refine Ev_iload_n dX6_isDigit_0 rfl ?_
  refine Ev_bipush 48 dX6_isDigit_1 (by decide) ?_
  refine Ev_icmp_lt 16 dX6_isDigit_3 (by decide) (fun q => ?_) (fun q => ?_)
  · have h := h.1 q
    refine Ev_iconst 0 dX6_isDigit_16 (by decide) ?_
    obtain ⟨rfl, rfl⟩ := h
    exact R_i rfl dX6_isDigit_17 rfl
  · have h := h.2 q
    refine Ev_iload_n dX6_isDigit_6 rfl ?_
    refine Ev_bipush 57 dX6_isDigit_7 (by decide) ?_
    refine Ev_icmp_gt 16 dX6_isDigit_9 (by decide) (fun q => ?_) (fun q => ?_)
    · have h := h.1 q
      refine Ev_iconst 0 dX6_isDigit_16 (by decide) ?_
      obtain ⟨rfl, rfl⟩ := h
      exact R_i rfl dX6_isDigit_17 rfl
    · have h := h.2 q
      refine Ev_iconst 1 dX6_isDigit_12 (by decide) ?_
      refine Ev_goto 17 dX6_isDigit_13 (by decide) ?_
      obtain ⟨rfl, rfl⟩ := h
      exact R_i rfl dX6_isDigit_17 rfl
set_option maxHeartbeats 4000000 in
set_option maxRecDepth 100000 in
theorem X6_isLetter_ok {d : Nat} {x0 : Int32} {μ μ' : Mem} {x : Int32} (h : ((x0 < 97 → (x = 0 ∧ μ' = μ)) ∧ (¬ x0 < 97 → ((122 < x0 → (x = 0 ∧ μ' = μ)) ∧ (¬ 122 < x0 → (x = 1 ∧ μ' = μ)))))) : X6_isLetter d x0 μ x μ' := by
  refine Me_of [some (vi x0)] rfl (Nat.le_of_ble_eq_true rfl) (by decide) ?_
  refine Ev_iload_n dX6_isLetter_0 rfl ?_
  refine Ev_bipush 97 dX6_isLetter_1 (by decide) ?_
  refine Ev_icmp_lt 16 dX6_isLetter_3 (by decide) (fun q => ?_) (fun q => ?_)
  · have h := h.1 q
    refine Ev_iconst 0 dX6_isLetter_16 (by decide) ?_
    obtain ⟨rfl, rfl⟩ := h
    exact R_i rfl dX6_isLetter_17 rfl
  · have h := h.2 q
    refine Ev_iload_n dX6_isLetter_6 rfl ?_
    refine Ev_bipush 122 dX6_isLetter_7 (by decide) ?_
    refine Ev_icmp_gt 16 dX6_isLetter_9 (by decide) (fun q => ?_) (fun q => ?_)
    · have h := h.1 q
      refine Ev_iconst 0 dX6_isLetter_16 (by decide) ?_
      obtain ⟨rfl, rfl⟩ := h
      exact R_i rfl dX6_isLetter_17 rfl
    · have h := h.2 q
      refine Ev_iconst 1 dX6_isLetter_12 (by decide) ?_
      refine Ev_goto 17 dX6_isLetter_13 (by decide) ?_
      obtain ⟨rfl, rfl⟩ := h
      exact R_i rfl dX6_isLetter_17 rfl
set_option maxHeartbeats 4000000 in
set_option maxRecDepth 100000 in
theorem X6_lengthOf_ok {d : Nat} {x0 : Int64} {μ μ' : Mem} {x : Int32} (h : X6_lengthOf_at2 d x0 0 μ x μ') : X6_lengthOf d x0 μ x μ' := by
  refine Me_of [some (vl x0), none, none] rfl (Nat.le_of_ble_eq_true rfl) (by decide) ?_
  refine Ev_iconst 0 dX6_lengthOf_0 (by decide) ?_
  refine Ev_istore_n dX6_lengthOf_1 (Nat.le_of_ble_eq_true rfl) (okp_of rfl) ?_
  exact h
set_option maxHeartbeats 4000000 in
set_option maxRecDepth 100000 in
theorem X6_lengthOf_at2_ok {d : Nat} {x0 : Int64} {x2 : Int32} {μ μ' : Mem} {x : Int32} (h : ((8 ≤ x2 → (x = x2 ∧ μ' = μ)) ∧ (¬ 8 ≤ x2 → (((lg_cmp ((x0.toUInt64 >>> ((5 * x2 : Int32).toInt64.toUInt64 &&& Int64.toUInt64 63)).toInt64) 0) = 0 → (x = x2 ∧ μ' = μ)) ∧ (¬ (lg_cmp ((x0.toUInt64 >>> ((5 * x2 : Int32).toInt64.toUInt64 &&& Int64.toUInt64 63)).toInt64) 0) = 0 → X6_lengthOf_at2 d x0 (x2 + 1) μ x μ'))))) : X6_lengthOf_at2 d x0 x2 μ x μ' := by
  refine Ev_iload_n dX6_lengthOf_2 rfl ?_
  refine Ev_bipush 8 dX6_lengthOf_3 (by decide) ?_
  refine Ev_icmp_ge 24 dX6_lengthOf_5 (by decide) (fun q => ?_) (fun q => ?_)
  · have h := h.1 q
    refine Ev_iload_n dX6_lengthOf_24 rfl ?_
    obtain ⟨rfl, rfl⟩ := h
    exact R_i rfl dX6_lengthOf_25 rfl
  · have h := h.2 q
    refine Ev_lload_n dX6_lengthOf_8 rfl ?_
    refine Ev_iconst 5 dX6_lengthOf_9 (by decide) ?_
    refine Ev_iload_n dX6_lengthOf_10 rfl ?_
    refine Ev_imul dX6_lengthOf_11 ?_
    refine Ev_lushr dX6_lengthOf_12 ?_
    refine Ev_lconst 0 dX6_lengthOf_13 (by decide) ?_
    refine Ev_lcmp dX6_lengthOf_14 ?_
    refine Ev_if_eq 24 dX6_lengthOf_15 (by decide) (fun q => ?_) (fun q => ?_)
    · have h := h.1 q
      refine Ev_iload_n dX6_lengthOf_24 rfl ?_
      obtain ⟨rfl, rfl⟩ := h
      exact R_i rfl dX6_lengthOf_25 rfl
    · have h := h.2 q
      refine Ev_iinc (x2 + 1) dX6_lengthOf_18 rfl rfl (okp_of rfl) ?_
      refine Ev_goto 2 dX6_lengthOf_21 (by decide) ?_
      exact h
set_option maxHeartbeats 4000000 in
set_option maxRecDepth 100000 in
theorem X6_letterAt_ok {d : Nat} {x0 : Int64} {x2 : Int32} {μ μ' : Mem} {x : Int32} (h : (x = (((((x0.toUInt64 >>> ((5 * x2 : Int32).toInt64.toUInt64 &&& Int64.toUInt64 63)).toInt64) &&& 31).toInt32) + 97) - 1 ∧ μ' = μ)) : X6_letterAt d x0 x2 μ x μ' := by
  refine Me_of [some (vl x0), none, some (vi x2)] rfl (Nat.le_of_ble_eq_true rfl) (by decide) ?_
  refine Ev_lload_n dX6_letterAt_0 rfl ?_
  refine Ev_iconst 5 dX6_letterAt_1 (by decide) ?_
  refine Ev_iload_n dX6_letterAt_2 rfl ?_
  refine Ev_imul dX6_letterAt_3 ?_
  refine Ev_lushr dX6_letterAt_4 ?_
  refine Ev_ldc2 31 dX6_letterAt_5 (ts3 175 rfl rfl) ?_
  refine Ev_land dX6_letterAt_8 ?_
  refine Ev_l2i dX6_letterAt_9 ?_
  refine Ev_bipush 97 dX6_letterAt_10 (by decide) ?_
  refine Ev_iadd dX6_letterAt_12 ?_
  refine Ev_iconst 1 dX6_letterAt_13 (by decide) ?_
  refine Ev_isub dX6_letterAt_14 ?_
  obtain ⟨rfl, rfl⟩ := h
  exact R_i rfl dX6_letterAt_15 rfl
set_option maxHeartbeats 4000000 in
set_option maxRecDepth 100000 in
theorem X6_nameWith_ok {d : Nat} {x0 : Int64} {x2 : Int32} {μ μ' : Mem} {x : Int64} (h : (x = (x0 * 32) + (((x2 - 97) + 1).toInt64) ∧ μ' = μ)) : X6_nameWith d x0 x2 μ x μ' := by
  refine Me_of [some (vl x0), none, some (vi x2)] rfl (Nat.le_of_ble_eq_true rfl) (by decide) ?_
  refine Ev_lload_n dX6_nameWith_0 rfl ?_
  refine Ev_ldc2 32 dX6_nameWith_1 (ts1 92 rfl rfl) ?_
  refine Ev_lmul dX6_nameWith_4 ?_
  refine Ev_iload_n dX6_nameWith_5 rfl ?_
  refine Ev_bipush 97 dX6_nameWith_6 (by decide) ?_
  refine Ev_isub dX6_nameWith_8 ?_
  refine Ev_iconst 1 dX6_nameWith_9 (by decide) ?_
  refine Ev_iadd dX6_nameWith_10 ?_
  refine Ev_i2l dX6_nameWith_11 ?_
  refine Ev_ladd dX6_nameWith_12 ?_
  obtain ⟨rfl, rfl⟩ := h
  exact R_l rfl dX6_nameWith_13
set_option maxHeartbeats 4000000 in
set_option maxRecDepth 100000 in
theorem X6_put_ok {d : Nat} {x1 : Int32} {x2 : Int32} {x3 : Int64} {μ μ' : Mem} (h : ((400 < (μ.1 3 4) → μ' = μ) ∧ (¬ 400 < (μ.1 3 4) → vp_in (μ.1 3 4) 401 ∧ (∀ μ1 : Mem, μ1 = sI μ 5 ((μ.1 3 4).toNatClampNeg) x1 → vp_in (μ1.1 3 4) 401 ∧ (∀ μ2 : Mem, μ2 = sI μ1 6 ((μ1.1 3 4).toNatClampNeg) x2 → vp_in (μ2.1 3 4) 401 ∧ (∀ μ3 : Mem, μ3 = sJ μ2 7 ((μ2.1 3 4).toNatClampNeg) x3 → (∀ μ4 : Mem, μ4 = sI μ3 3 4 ((μ3.1 3 4) + 1) → μ' = μ4))))))) : X6_put d x1 x2 x3 μ μ' := by
  refine Me_of [some (vr 6 0 3), some (vi x1), some (vi x2), some (vl x3), none] rfl (Nat.le_of_ble_eq_true rfl) (by decide) ?_
  refine Ev_aload_n dX6_put_0 rfl ?_
  refine Ev_getI flX6_23 rfl dX6_put_1 ?_
  refine Ev_sipush 400 dX6_put_4 (by decide) ?_
  refine Ev_icmp_gt 50 dX6_put_7 (by decide) (fun q => ?_) (fun q => ?_)
  · have h := h.1 q
    subst h
    exact R_v rfl dX6_put_50
  · have h := h.2 q
    refine Ev_aload_n dX6_put_10 rfl ?_
    refine Ev_getF 11 401 2 flX6_13 rfl dX6_put_11 ?_
    refine Ev_aload_n dX6_put_14 rfl ?_
    refine Ev_getI flX6_23 rfl dX6_put_15 ?_
    refine Ev_iload_n dX6_put_18 rfl ?_
    obtain ⟨g, h⟩ := h
    refine Ev_iast g dX6_put_19 ?_
    have h := h _ rfl
    refine Ev_aload_n dX6_put_20 rfl ?_
    refine Ev_getF 11 401 3 flX6_17 rfl dX6_put_21 ?_
    refine Ev_aload_n dX6_put_24 rfl ?_
    refine Ev_getI flX6_23 rfl dX6_put_25 ?_
    refine Ev_iload_n dX6_put_28 rfl ?_
    obtain ⟨g, h⟩ := h
    refine Ev_iast g dX6_put_29 ?_
    have h := h _ rfl
    refine Ev_aload_n dX6_put_30 rfl ?_
    refine Ev_getF 13 401 4 flX6_20 rfl dX6_put_31 ?_
    refine Ev_aload_n dX6_put_34 rfl ?_
    refine Ev_getI flX6_23 rfl dX6_put_35 ?_
    refine Ev_lload_n dX6_put_38 rfl ?_
    obtain ⟨g, h⟩ := h
    refine Ev_last g dX6_put_39 ?_
    have h := h _ rfl
    refine Ev_aload_n dX6_put_40 rfl ?_
    refine Ev_dup dX6_put_41 (fun _ z => by cases z) ?_
    refine Ev_getI flX6_23 rfl dX6_put_42 ?_
    refine Ev_iconst 1 dX6_put_45 (by decide) ?_
    refine Ev_iadd dX6_put_46 ?_
    refine Ev_putI .int flX6_23 fpX6_4 rfl rfl rfl dX6_put_47 ?_
    have h := h _ rfl
    subst h
    exact R_v rfl dX6_put_50
set_option maxHeartbeats 4000000 in
set_option maxRecDepth 100000 in
theorem X6_scan_ok {d : Nat} {x2 : Int32} {μ μ' : Mem} (h : (∀ μ1 : Mem, μ1 = sI μ 3 4 0 → X6_scan_at18 d (mn x2 2000) 0 0 μ1 μ')) : X6_scan (d + 1) x2 μ μ' := by
  refine Me_of [some (vr 6 0 3), some (vr 12 2000 1), some (vi x2), none, none, none, none] rfl (Nat.le_of_ble_eq_true rfl) (by decide) ?_
  refine Ev_iload_n dX6_scan_0 rfl ?_
  refine Ev_aload_n dX6_scan_1 rfl ?_
  refine Ev_alen (2000) (by decide) (by decide) (by decide) dX6_scan_2 ?_
  refine Ev_mmin (ts3 46 rfl rfl) (ts3 47 rfl rfl) (ts1 17 rfl rfl) (ts3 48 rfl rfl) (Nat.le_of_ble_eq_true rfl) dX6_scan_3 ?_
  refine Ev_istore_n dX6_scan_6 (Nat.le_of_ble_eq_true rfl) (okp_of rfl) ?_
  refine Ev_iconst 0 dX6_scan_7 (by decide) ?_
  refine Ev_istore dX6_scan_8 (Nat.le_of_ble_eq_true rfl) (okp_of rfl) ?_
  refine Ev_aload_n dX6_scan_10 rfl ?_
  refine Ev_iconst 0 dX6_scan_11 (by decide) ?_
  refine Ev_putI .int flX6_23 fpX6_4 rfl rfl rfl dX6_scan_12 ?_
  have h := h _ rfl
  refine Ev_iconst 0 dX6_scan_15 (by decide) ?_
  refine Ev_istore dX6_scan_16 (Nat.le_of_ble_eq_true rfl) (okp_of rfl) ?_
  refine Ev_weak ?_ h
  exact And.intro rfl (And.intro rfl (And.intro trivial (And.intro rfl (And.intro rfl (And.intro rfl (And.intro trivial (trivial)))))))
set_option maxHeartbeats 4000000 in
set_option maxRecDepth 100000 in
theorem X6_scan_at18_ok {d : Nat} {x3 : Int32} {x4 : Int32} {x5 : Int32} {μ μ' : Mem} (h : ((x3 ≤ x5 → (∃ (μ1 : Mem), X6_put d 32 x3 0 μ μ1 ∧ μ' = μ1)) ∧ (¬ x3 ≤ x5 → ((x3 ≤ x4 → (∃ (μ3 : Mem), X6_put d 32 x3 0 μ μ3 ∧ μ' = μ3)) ∧ (¬ x3 ≤ x4 → ((400 < (μ.1 3 4) → (∃ (μ5 : Mem), X6_put d 32 x3 0 μ μ5 ∧ μ' = μ5)) ∧ (¬ 400 < (μ.1 3 4) → vp_in x4 2000 ∧ (∃ (y9 : Int32) (μ7 : Mem), X6_isBlank d (μ.1 1 x4.toNatClampNeg) μ y9 μ7 ∧ ((y9 = 0 → (∃ (y12 : Int32) (μ10 : Mem), X6_isLetter d (μ.1 1 x4.toNatClampNeg) μ7 y12 μ10 ∧ ((y12 = 0 → (∃ (y15 : Int32) (μ13 : Mem), X6_isDigit d (μ.1 1 x4.toNatClampNeg) μ10 y15 μ13 ∧ ((y15 = 0 → (∃ (y18 : Int32) (μ16 : Mem), X6_takeSign d (μ.1 1 x4.toNatClampNeg) x4 μ13 y18 μ16 ∧ X6_scan_at18 d x3 y18 (x5 + 1) μ16 μ')) ∧ (¬ y15 = 0 → (∃ (y21 : Int32) (μ19 : Mem), X6_takeDigits d x4 x3 μ13 y21 μ19 ∧ X6_scan_at18 d x3 y21 (x5 + 1) μ19 μ'))))) ∧ (¬ y12 = 0 → (∃ (y24 : Int32) (μ22 : Mem), X6_takeLetters d x4 x3 μ10 y24 μ22 ∧ X6_scan_at18 d x3 y24 (x5 + 1) μ22 μ'))))) ∧ (¬ y9 = 0 → X6_scan_at18 d x3 (x4 + 1) (x5 + 1) μ7 μ')))))))))) : X6_scan_at18 d x3 x4 x5 μ μ' := by
  refine Ev_iload dX6_scan_18 rfl ?_
  refine Ev_iload_n dX6_scan_20 rfl ?_
  refine Ev_icmp_ge 118 dX6_scan_21 (by decide) (fun q => ?_) (fun q => ?_)
  · have h := h.1 q
    refine Ev_aload_n dX6_scan_118 rfl ?_
    refine Ev_bipush 32 dX6_scan_119 (by decide) ?_
    refine Ev_iload_n dX6_scan_121 rfl ?_
    refine Ev_lconst 0 dX6_scan_122 (by decide) ?_
    obtain ⟨μ1, hM2, h⟩ := h
    refine Ev_callV [_, _, _] mlX6_73 rfl rfl (Nat.le_of_ble_eq_true rfl) dX6_scan_123 hM2 ?_
    subst h
    exact R_v rfl dX6_scan_126
  · have h := h.2 q
    refine Ev_iload dX6_scan_24 rfl ?_
    refine Ev_iload_n dX6_scan_26 rfl ?_
    refine Ev_icmp_ge 118 dX6_scan_27 (by decide) (fun q => ?_) (fun q => ?_)
    · have h := h.1 q
      refine Ev_aload_n dX6_scan_118 rfl ?_
      refine Ev_bipush 32 dX6_scan_119 (by decide) ?_
      refine Ev_iload_n dX6_scan_121 rfl ?_
      refine Ev_lconst 0 dX6_scan_122 (by decide) ?_
      obtain ⟨μ3, hM4, h⟩ := h
      refine Ev_callV [_, _, _] mlX6_73 rfl rfl (Nat.le_of_ble_eq_true rfl) dX6_scan_123 hM4 ?_
      subst h
      exact R_v rfl dX6_scan_126
    · have h := h.2 q
      refine Ev_aload_n dX6_scan_30 rfl ?_
      refine Ev_getI flX6_23 rfl dX6_scan_31 ?_
      refine Ev_sipush 400 dX6_scan_34 (by decide) ?_
      refine Ev_icmp_gt 118 dX6_scan_37 (by decide) (fun q => ?_) (fun q => ?_)
      · have h := h.1 q
        refine Ev_aload_n dX6_scan_118 rfl ?_
        refine Ev_bipush 32 dX6_scan_119 (by decide) ?_
        refine Ev_iload_n dX6_scan_121 rfl ?_
        refine Ev_lconst 0 dX6_scan_122 (by decide) ?_
        obtain ⟨μ5, hM6, h⟩ := h
        refine Ev_callV [_, _, _] mlX6_73 rfl rfl (Nat.le_of_ble_eq_true rfl) dX6_scan_123 hM6 ?_
        subst h
        exact R_v rfl dX6_scan_126
      · have h := h.2 q
        refine Ev_aload_n dX6_scan_40 rfl ?_
        refine Ev_iload dX6_scan_41 rfl ?_
        obtain ⟨g, h⟩ := h
        refine Ev_bald g dX6_scan_43 ?_
        refine Ev_istore dX6_scan_44 (Nat.le_of_ble_eq_true rfl) (okp_of rfl) ?_
        refine Ev_iload dX6_scan_46 rfl ?_
        obtain ⟨y9, μ7, hM8, h⟩ := h
        refine Ev_callS [_] mlX6_53 rfl rfl (Nat.le_of_ble_eq_true rfl) dX6_scan_48 hM8 ?_
        refine Ev_if_eq 60 dX6_scan_51 (by decide) (fun q => ?_) (fun q => ?_)
        · have h := h.1 q
          refine Ev_iload dX6_scan_60 rfl ?_
          obtain ⟨y12, μ10, hM11, h⟩ := h
          refine Ev_callS [_] mlX6_57 rfl rfl (Nat.le_of_ble_eq_true rfl) dX6_scan_62 hM11 ?_
          refine Ev_if_eq 81 dX6_scan_65 (by decide) (fun q => ?_) (fun q => ?_)
          · have h := h.1 q
            refine Ev_iload dX6_scan_81 rfl ?_
            obtain ⟨y15, μ13, hM14, h⟩ := h
            refine Ev_callS [_] mlX6_64 rfl rfl (Nat.le_of_ble_eq_true rfl) dX6_scan_83 hM14 ?_
            refine Ev_if_eq 102 dX6_scan_86 (by decide) (fun q => ?_) (fun q => ?_)
            · have h := h.1 q
              refine Ev_aload_n dX6_scan_102 rfl ?_
              refine Ev_iload dX6_scan_103 rfl ?_
              refine Ev_iload dX6_scan_105 rfl ?_
              obtain ⟨y18, μ16, hM17, h⟩ := h
              refine Ev_callV [_, _] mlX6_70 rfl rfl (Nat.le_of_ble_eq_true rfl) dX6_scan_107 hM17 ?_
              refine Ev_istore dX6_scan_110 (Nat.le_of_ble_eq_true rfl) (okp_of rfl) ?_
              refine Ev_iinc (x5 + 1) dX6_scan_112 rfl rfl (okp_of rfl) ?_
              refine Ev_goto 18 dX6_scan_115 (by decide) ?_
              refine Ev_weak ?_ h
              exact And.intro rfl (And.intro rfl (And.intro trivial (And.intro rfl (And.intro rfl (And.intro rfl (And.intro trivial (trivial)))))))
            · have h := h.2 q
              refine Ev_aload_n dX6_scan_89 rfl ?_
              refine Ev_aload_n dX6_scan_90 rfl ?_
              refine Ev_iload dX6_scan_91 rfl ?_
              refine Ev_iload_n dX6_scan_93 rfl ?_
              obtain ⟨y21, μ19, hM20, h⟩ := h
              refine Ev_callV [_, _, _] mlX6_67 rfl rfl (Nat.le_of_ble_eq_true rfl) dX6_scan_94 hM20 ?_
              refine Ev_istore dX6_scan_97 (Nat.le_of_ble_eq_true rfl) (okp_of rfl) ?_
              refine Ev_goto 112 dX6_scan_99 (by decide) ?_
              refine Ev_iinc (x5 + 1) dX6_scan_112 rfl rfl (okp_of rfl) ?_
              refine Ev_goto 18 dX6_scan_115 (by decide) ?_
              refine Ev_weak ?_ h
              exact And.intro rfl (And.intro rfl (And.intro trivial (And.intro rfl (And.intro rfl (And.intro rfl (And.intro trivial (trivial)))))))
          · have h := h.2 q
            refine Ev_aload_n dX6_scan_68 rfl ?_
            refine Ev_aload_n dX6_scan_69 rfl ?_
            refine Ev_iload dX6_scan_70 rfl ?_
            refine Ev_iload_n dX6_scan_72 rfl ?_
            obtain ⟨y24, μ22, hM23, h⟩ := h
            refine Ev_callV [_, _, _] mlX6_60 rfl rfl (Nat.le_of_ble_eq_true rfl) dX6_scan_73 hM23 ?_
            refine Ev_istore dX6_scan_76 (Nat.le_of_ble_eq_true rfl) (okp_of rfl) ?_
            refine Ev_goto 112 dX6_scan_78 (by decide) ?_
            refine Ev_iinc (x5 + 1) dX6_scan_112 rfl rfl (okp_of rfl) ?_
            refine Ev_goto 18 dX6_scan_115 (by decide) ?_
            refine Ev_weak ?_ h
            exact And.intro rfl (And.intro rfl (And.intro trivial (And.intro rfl (And.intro rfl (And.intro rfl (And.intro trivial (trivial)))))))
        · have h := h.2 q
          refine Ev_iinc (x4 + 1) dX6_scan_54 rfl rfl (okp_of rfl) ?_
          refine Ev_goto 112 dX6_scan_57 (by decide) ?_
          refine Ev_iinc (x5 + 1) dX6_scan_112 rfl rfl (okp_of rfl) ?_
          refine Ev_goto 18 dX6_scan_115 (by decide) ?_
          refine Ev_weak ?_ h
          exact And.intro rfl (And.intro rfl (And.intro trivial (And.intro rfl (And.intro rfl (And.intro rfl (And.intro trivial (trivial)))))))
set_option maxHeartbeats 4000000 in
set_option maxRecDepth 100000 in
theorem X6_takeDigits_ok {d : Nat} {x2 : Int32} {x3 : Int32} {μ μ' : Mem} {x : Int32} (h : X6_takeDigits_at6 d x2 x3 0 x2 μ x μ') : X6_takeDigits (d + 1) x2 x3 μ x μ' := by
  refine Me_of [some (vr 6 0 3), some (vr 12 2000 1), some (vi x2), some (vi x3), none, none] rfl (Nat.le_of_ble_eq_true rfl) (by decide) ?_
  refine Ev_iconst 0 dX6_takeDigits_0 (by decide) ?_
  refine Ev_istore dX6_takeDigits_1 (Nat.le_of_ble_eq_true rfl) (okp_of rfl) ?_
  refine Ev_iload_n dX6_takeDigits_3 rfl ?_
  refine Ev_istore dX6_takeDigits_4 (Nat.le_of_ble_eq_true rfl) (okp_of rfl) ?_
  exact h
set_option maxHeartbeats 4000000 in
set_option maxRecDepth 100000 in
theorem X6_takeDigits_at6_ok {d : Nat} {x2 : Int32} {x3 : Int32} {x4 : Int32} {x5 : Int32} {μ μ' : Mem} {x : Int32} (h : ((x3 ≤ x5 → (((x5 - x2) ≤ 4 → (∃ (μ1 : Mem), X6_put d 22 x2 x4.toInt64 μ μ1 ∧ (x = x5 ∧ μ' = μ1))) ∧ (¬ (x5 - x2) ≤ 4 → (∃ (μ3 : Mem), X6_put d 33 x2 x4.toInt64 μ μ3 ∧ (x = x5 ∧ μ' = μ3))))) ∧ (¬ x3 ≤ x5 → vp_in x5 2000 ∧ (∃ (y7 : Int32) (μ5 : Mem), X6_isDigit d (μ.1 1 x5.toNatClampNeg) μ y7 μ5 ∧ ((y7 = 0 → (((x5 - x2) ≤ 4 → (∃ (μ8 : Mem), X6_put d 22 x2 x4.toInt64 μ5 μ8 ∧ (x = x5 ∧ μ' = μ8))) ∧ (¬ (x5 - x2) ≤ 4 → (∃ (μ10 : Mem), X6_put d 33 x2 x4.toInt64 μ5 μ10 ∧ (x = x5 ∧ μ' = μ10))))) ∧ (¬ y7 = 0 → vp_in x5 2000 ∧ X6_takeDigits_at6 d x2 x3 ((x4 * 10) + ((μ5.1 1 x5.toNatClampNeg) - 48)) (x5 + 1) μ5 x μ')))))) : X6_takeDigits_at6 d x2 x3 x4 x5 μ x μ' := by
  refine Ev_iload dX6_takeDigits_6 rfl ?_
  refine Ev_iload_n dX6_takeDigits_8 rfl ?_
  refine Ev_icmp_ge 43 dX6_takeDigits_9 (by decide) (fun q => ?_) (fun q => ?_)
  · have h := h.1 q
    refine Ev_aload_n dX6_takeDigits_43 rfl ?_
    refine Ev_iload dX6_takeDigits_44 rfl ?_
    refine Ev_iload_n dX6_takeDigits_46 rfl ?_
    refine Ev_isub dX6_takeDigits_47 ?_
    refine Ev_iconst 4 dX6_takeDigits_48 (by decide) ?_
    refine Ev_icmp_le 57 dX6_takeDigits_49 (by decide) (fun q => ?_) (fun q => ?_)
    · have h := h.1 q
      refine Ev_bipush 22 dX6_takeDigits_57 (by decide) ?_
      refine Ev_iload_n dX6_takeDigits_59 rfl ?_
      refine Ev_iload dX6_takeDigits_60 rfl ?_
      refine Ev_i2l dX6_takeDigits_62 ?_
      obtain ⟨μ1, hM2, h⟩ := h
      refine Ev_callV [_, _, _] mlX6_73 rfl rfl (Nat.le_of_ble_eq_true rfl) dX6_takeDigits_63 hM2 ?_
      refine Ev_iload dX6_takeDigits_66 rfl ?_
      obtain ⟨rfl, rfl⟩ := h
      exact R_i rfl dX6_takeDigits_68 rfl
    · have h := h.2 q
      refine Ev_bipush 33 dX6_takeDigits_52 (by decide) ?_
      refine Ev_goto 59 dX6_takeDigits_54 (by decide) ?_
      refine Ev_iload_n dX6_takeDigits_59 rfl ?_
      refine Ev_iload dX6_takeDigits_60 rfl ?_
      refine Ev_i2l dX6_takeDigits_62 ?_
      obtain ⟨μ3, hM4, h⟩ := h
      refine Ev_callV [_, _, _] mlX6_73 rfl rfl (Nat.le_of_ble_eq_true rfl) dX6_takeDigits_63 hM4 ?_
      refine Ev_iload dX6_takeDigits_66 rfl ?_
      obtain ⟨rfl, rfl⟩ := h
      exact R_i rfl dX6_takeDigits_68 rfl
  · have h := h.2 q
    refine Ev_aload_n dX6_takeDigits_12 rfl ?_
    refine Ev_iload dX6_takeDigits_13 rfl ?_
    obtain ⟨g, h⟩ := h
    refine Ev_bald g dX6_takeDigits_15 ?_
    obtain ⟨y7, μ5, hM6, h⟩ := h
    refine Ev_callS [_] mlX6_64 rfl rfl (Nat.le_of_ble_eq_true rfl) dX6_takeDigits_16 hM6 ?_
    refine Ev_if_eq 43 dX6_takeDigits_19 (by decide) (fun q => ?_) (fun q => ?_)
    · have h := h.1 q
      refine Ev_aload_n dX6_takeDigits_43 rfl ?_
      refine Ev_iload dX6_takeDigits_44 rfl ?_
      refine Ev_iload_n dX6_takeDigits_46 rfl ?_
      refine Ev_isub dX6_takeDigits_47 ?_
      refine Ev_iconst 4 dX6_takeDigits_48 (by decide) ?_
      refine Ev_icmp_le 57 dX6_takeDigits_49 (by decide) (fun q => ?_) (fun q => ?_)
      · have h := h.1 q
        refine Ev_bipush 22 dX6_takeDigits_57 (by decide) ?_
        refine Ev_iload_n dX6_takeDigits_59 rfl ?_
        refine Ev_iload dX6_takeDigits_60 rfl ?_
        refine Ev_i2l dX6_takeDigits_62 ?_
        obtain ⟨μ8, hM9, h⟩ := h
        refine Ev_callV [_, _, _] mlX6_73 rfl rfl (Nat.le_of_ble_eq_true rfl) dX6_takeDigits_63 hM9 ?_
        refine Ev_iload dX6_takeDigits_66 rfl ?_
        obtain ⟨rfl, rfl⟩ := h
        exact R_i rfl dX6_takeDigits_68 rfl
      · have h := h.2 q
        refine Ev_bipush 33 dX6_takeDigits_52 (by decide) ?_
        refine Ev_goto 59 dX6_takeDigits_54 (by decide) ?_
        refine Ev_iload_n dX6_takeDigits_59 rfl ?_
        refine Ev_iload dX6_takeDigits_60 rfl ?_
        refine Ev_i2l dX6_takeDigits_62 ?_
        obtain ⟨μ10, hM11, h⟩ := h
        refine Ev_callV [_, _, _] mlX6_73 rfl rfl (Nat.le_of_ble_eq_true rfl) dX6_takeDigits_63 hM11 ?_
        refine Ev_iload dX6_takeDigits_66 rfl ?_
        obtain ⟨rfl, rfl⟩ := h
        exact R_i rfl dX6_takeDigits_68 rfl
    · have h := h.2 q
      refine Ev_iload dX6_takeDigits_22 rfl ?_
      refine Ev_bipush 10 dX6_takeDigits_24 (by decide) ?_
      refine Ev_imul dX6_takeDigits_26 ?_
      refine Ev_aload_n dX6_takeDigits_27 rfl ?_
      refine Ev_iload dX6_takeDigits_28 rfl ?_
      obtain ⟨g, h⟩ := h
      refine Ev_bald g dX6_takeDigits_30 ?_
      refine Ev_bipush 48 dX6_takeDigits_31 (by decide) ?_
      refine Ev_isub dX6_takeDigits_33 ?_
      refine Ev_iadd dX6_takeDigits_34 ?_
      refine Ev_istore dX6_takeDigits_35 (Nat.le_of_ble_eq_true rfl) (okp_of rfl) ?_
      refine Ev_iinc (x5 + 1) dX6_takeDigits_37 rfl rfl (okp_of rfl) ?_
      refine Ev_goto 6 dX6_takeDigits_40 (by decide) ?_
      exact h
set_option maxHeartbeats 4000000 in
set_option maxRecDepth 100000 in
theorem X6_takeLetters_ok {d : Nat} {x2 : Int32} {x3 : Int32} {μ μ' : Mem} {x : Int32} (h : X6_takeLetters_at6 d x2 x3 0 x2 μ x μ') : X6_takeLetters (d + 1) x2 x3 μ x μ' := by
  refine Me_of [some (vr 6 0 3), some (vr 12 2000 1), some (vi x2), some (vi x3), none, none, none, none, none] rfl (Nat.le_of_ble_eq_true rfl) (by decide) ?_
  refine Ev_lconst 0 dX6_takeLetters_0 (by decide) ?_
  refine Ev_lstore dX6_takeLetters_1 (Nat.le_of_ble_eq_true rfl) (okp_of rfl) ?_
  refine Ev_iload_n dX6_takeLetters_3 rfl ?_
  refine Ev_istore dX6_takeLetters_4 (Nat.le_of_ble_eq_true rfl) (okp_of rfl) ?_
  exact h
set_option maxHeartbeats 4000000 in
set_option maxRecDepth 100000 in
theorem X6_takeLetters_at6_ok {d : Nat} {x2 : Int32} {x3 : Int32} {x4 : Int64} {x6 : Int32} {μ μ' : Mem} {x : Int32} (h : ((x3 ≤ x6 → (((x6 - x2) ≤ 8 → X6_takeLetters_at60 d x2 x4 x6 21 0 μ x μ') ∧ (¬ (x6 - x2) ≤ 8 → X6_takeLetters_at60 d x2 x4 x6 33 0 μ x μ'))) ∧ (¬ x3 ≤ x6 → vp_in x6 2000 ∧ (∃ (y3 : Int32) (μ1 : Mem), X6_isLetter d (μ.1 1 x6.toNatClampNeg) μ y3 μ1 ∧ ((y3 = 0 → (((x6 - x2) ≤ 8 → X6_takeLetters_at60 d x2 x4 x6 21 0 μ1 x μ') ∧ (¬ (x6 - x2) ≤ 8 → X6_takeLetters_at60 d x2 x4 x6 33 0 μ1 x μ'))) ∧ (¬ y3 = 0 → vp_in x6 2000 ∧ (∃ (y6 : Int64) (μ4 : Mem), X6_nameWith d x4 (μ1.1 1 x6.toNatClampNeg) μ1 y6 μ4 ∧ X6_takeLetters_at6 d x2 x3 y6 (x6 + 1) μ4 x μ'))))))) : X6_takeLetters_at6 d x2 x3 x4 x6 μ x μ' := by
  refine Ev_iload dX6_takeLetters_6 rfl ?_
  refine Ev_iload_n dX6_takeLetters_8 rfl ?_
  refine Ev_icmp_ge 39 dX6_takeLetters_9 (by decide) (fun q => ?_) (fun q => ?_)
  · have h := h.1 q
    refine Ev_iload dX6_takeLetters_39 rfl ?_
    refine Ev_iload_n dX6_takeLetters_41 rfl ?_
    refine Ev_isub dX6_takeLetters_42 ?_
    refine Ev_bipush 8 dX6_takeLetters_43 (by decide) ?_
    refine Ev_icmp_le 53 dX6_takeLetters_45 (by decide) (fun q => ?_) (fun q => ?_)
    · have h := h.1 q
      refine Ev_bipush 21 dX6_takeLetters_53 (by decide) ?_
      refine Ev_istore dX6_takeLetters_55 (Nat.le_of_ble_eq_true rfl) (okp_of rfl) ?_
      refine Ev_iconst 0 dX6_takeLetters_57 (by decide) ?_
      refine Ev_istore dX6_takeLetters_58 (Nat.le_of_ble_eq_true rfl) (okp_of rfl) ?_
      refine Ev_weak ?_ h
      exact And.intro rfl (And.intro trivial (And.intro rfl (And.intro trivial (And.intro rfl (And.intro trivial (And.intro rfl (And.intro rfl (And.intro rfl (trivial)))))))))
    · have h := h.2 q
      refine Ev_bipush 33 dX6_takeLetters_48 (by decide) ?_
      refine Ev_goto 55 dX6_takeLetters_50 (by decide) ?_
      refine Ev_istore dX6_takeLetters_55 (Nat.le_of_ble_eq_true rfl) (okp_of rfl) ?_
      refine Ev_iconst 0 dX6_takeLetters_57 (by decide) ?_
      refine Ev_istore dX6_takeLetters_58 (Nat.le_of_ble_eq_true rfl) (okp_of rfl) ?_
      refine Ev_weak ?_ h
      exact And.intro rfl (And.intro trivial (And.intro rfl (And.intro trivial (And.intro rfl (And.intro trivial (And.intro rfl (And.intro rfl (And.intro rfl (trivial)))))))))
  · have h := h.2 q
    refine Ev_aload_n dX6_takeLetters_12 rfl ?_
    refine Ev_iload dX6_takeLetters_13 rfl ?_
    obtain ⟨g, h⟩ := h
    refine Ev_bald g dX6_takeLetters_15 ?_
    obtain ⟨y3, μ1, hM2, h⟩ := h
    refine Ev_callS [_] mlX6_57 rfl rfl (Nat.le_of_ble_eq_true rfl) dX6_takeLetters_16 hM2 ?_
    refine Ev_if_eq 39 dX6_takeLetters_19 (by decide) (fun q => ?_) (fun q => ?_)
    · have h := h.1 q
      refine Ev_iload dX6_takeLetters_39 rfl ?_
      refine Ev_iload_n dX6_takeLetters_41 rfl ?_
      refine Ev_isub dX6_takeLetters_42 ?_
      refine Ev_bipush 8 dX6_takeLetters_43 (by decide) ?_
      refine Ev_icmp_le 53 dX6_takeLetters_45 (by decide) (fun q => ?_) (fun q => ?_)
      · have h := h.1 q
        refine Ev_bipush 21 dX6_takeLetters_53 (by decide) ?_
        refine Ev_istore dX6_takeLetters_55 (Nat.le_of_ble_eq_true rfl) (okp_of rfl) ?_
        refine Ev_iconst 0 dX6_takeLetters_57 (by decide) ?_
        refine Ev_istore dX6_takeLetters_58 (Nat.le_of_ble_eq_true rfl) (okp_of rfl) ?_
        refine Ev_weak ?_ h
        exact And.intro rfl (And.intro trivial (And.intro rfl (And.intro trivial (And.intro rfl (And.intro trivial (And.intro rfl (And.intro rfl (And.intro rfl (trivial)))))))))
      · have h := h.2 q
        refine Ev_bipush 33 dX6_takeLetters_48 (by decide) ?_
        refine Ev_goto 55 dX6_takeLetters_50 (by decide) ?_
        refine Ev_istore dX6_takeLetters_55 (Nat.le_of_ble_eq_true rfl) (okp_of rfl) ?_
        refine Ev_iconst 0 dX6_takeLetters_57 (by decide) ?_
        refine Ev_istore dX6_takeLetters_58 (Nat.le_of_ble_eq_true rfl) (okp_of rfl) ?_
        refine Ev_weak ?_ h
        exact And.intro rfl (And.intro trivial (And.intro rfl (And.intro trivial (And.intro rfl (And.intro trivial (And.intro rfl (And.intro rfl (And.intro rfl (trivial)))))))))
    · have h := h.2 q
      refine Ev_lload dX6_takeLetters_22 rfl ?_
      refine Ev_aload_n dX6_takeLetters_24 rfl ?_
      refine Ev_iload dX6_takeLetters_25 rfl ?_
      obtain ⟨g, h⟩ := h
      refine Ev_bald g dX6_takeLetters_27 ?_
      obtain ⟨y6, μ4, hM5, h⟩ := h
      refine Ev_callS [_, _] mlX6_39 rfl rfl (Nat.le_of_ble_eq_true rfl) dX6_takeLetters_28 hM5 ?_
      refine Ev_lstore dX6_takeLetters_31 (Nat.le_of_ble_eq_true rfl) (okp_of rfl) ?_
      refine Ev_iinc (x6 + 1) dX6_takeLetters_33 rfl rfl (okp_of rfl) ?_
      refine Ev_goto 6 dX6_takeLetters_36 (by decide) ?_
      exact h
set_option maxHeartbeats 4000000 in
set_option maxRecDepth 100000 in
theorem X6_takeLetters_at60_ok {d : Nat} {x2 : Int32} {x4 : Int64} {x6 : Int32} {x7 : Int32} {x8 : Int32} {μ μ' : Mem} {x : Int32} (h : ((21 ≤ x8 → (∃ (μ1 : Mem), X6_put d x7 x2 x4 μ μ1 ∧ (x = x6 ∧ μ' = μ1))) ∧ (¬ 21 ≤ x8 → ((x7 ≠ 21 → (∃ (μ3 : Mem), X6_put d x7 x2 x4 μ μ3 ∧ (x = x6 ∧ μ' = μ3))) ∧ (x7 = 21 → vp_in x8 21 ∧ (((lg_cmp (μ.2.1 4 x8.toNatClampNeg) x4) ≠ 0 → X6_takeLetters_at60 d x2 x4 x6 x7 (x8 + 1) μ x μ') ∧ ((lg_cmp (μ.2.1 4 x8.toNatClampNeg) x4) = 0 → X6_takeLetters_at60 d x2 x4 x6 x8 (x8 + 1) μ x μ'))))))) : X6_takeLetters_at60 d x2 x4 x6 x7 x8 μ x μ' := by
  refine Ev_iload dX6_takeLetters_60 rfl ?_
  refine Ev_aload_n dX6_takeLetters_62 rfl ?_
  refine Ev_getF 13 21 1 flX6_9 rfl dX6_takeLetters_63 ?_
  refine Ev_alen (21) (by decide) (by decide) (by decide) dX6_takeLetters_66 ?_
  refine Ev_icmp_ge 100 dX6_takeLetters_67 (by decide) (fun q => ?_) (fun q => ?_)
  · have h := h.1 q
    refine Ev_aload_n dX6_takeLetters_100 rfl ?_
    refine Ev_iload dX6_takeLetters_101 rfl ?_
    refine Ev_iload_n dX6_takeLetters_103 rfl ?_
    refine Ev_lload dX6_takeLetters_104 rfl ?_
    obtain ⟨μ1, hM2, h⟩ := h
    refine Ev_callV [_, _, _] mlX6_73 rfl rfl (Nat.le_of_ble_eq_true rfl) dX6_takeLetters_106 hM2 ?_
    refine Ev_iload dX6_takeLetters_109 rfl ?_
    obtain ⟨rfl, rfl⟩ := h
    exact R_i rfl dX6_takeLetters_111 rfl
  · have h := h.2 q
    refine Ev_iload dX6_takeLetters_70 rfl ?_
    refine Ev_bipush 21 dX6_takeLetters_72 (by decide) ?_
    refine Ev_icmp_ne 100 dX6_takeLetters_74 (by decide) (fun q => ?_) (fun q => ?_)
    · have h := h.1 q
      refine Ev_aload_n dX6_takeLetters_100 rfl ?_
      refine Ev_iload dX6_takeLetters_101 rfl ?_
      refine Ev_iload_n dX6_takeLetters_103 rfl ?_
      refine Ev_lload dX6_takeLetters_104 rfl ?_
      obtain ⟨μ3, hM4, h⟩ := h
      refine Ev_callV [_, _, _] mlX6_73 rfl rfl (Nat.le_of_ble_eq_true rfl) dX6_takeLetters_106 hM4 ?_
      refine Ev_iload dX6_takeLetters_109 rfl ?_
      obtain ⟨rfl, rfl⟩ := h
      exact R_i rfl dX6_takeLetters_111 rfl
    · have h := h.2 q
      refine Ev_aload_n dX6_takeLetters_77 rfl ?_
      refine Ev_getF 13 21 1 flX6_9 rfl dX6_takeLetters_78 ?_
      refine Ev_iload dX6_takeLetters_81 rfl ?_
      obtain ⟨g, h⟩ := h
      refine Ev_lald g dX6_takeLetters_83 ?_
      refine Ev_lload dX6_takeLetters_84 rfl ?_
      refine Ev_lcmp dX6_takeLetters_86 ?_
      refine Ev_if_ne 94 dX6_takeLetters_87 (by decide) (fun q => ?_) (fun q => ?_)
      · have h := h.1 q
        refine Ev_iinc (x8 + 1) dX6_takeLetters_94 rfl rfl (okp_of rfl) ?_
        refine Ev_goto 60 dX6_takeLetters_97 (by decide) ?_
        exact h
      · have h := h.2 q
        refine Ev_iload dX6_takeLetters_90 rfl ?_
        refine Ev_istore dX6_takeLetters_92 (Nat.le_of_ble_eq_true rfl) (okp_of rfl) ?_
        refine Ev_iinc (x8 + 1) dX6_takeLetters_94 rfl rfl (okp_of rfl) ?_
        refine Ev_goto 60 dX6_takeLetters_97 (by decide) ?_
        exact h
set_option maxHeartbeats 4000000 in
set_option maxRecDepth 100000 in
theorem X6_takeSign_ok {d : Nat} {x1 : Int32} {x2 : Int32} {μ μ' : Mem} {x : Int32} (h : ((0 ≤ x1 → (∃ (y3 : Int32) (μ1 : Mem), J0_indexOf_0f7a4 d 1 1000002 ((x1.toUInt32 % 65536).toInt32) μ y3 μ1 ∧ ((0 ≤ y3 → (∃ (μ4 : Mem), X6_put d (23 + y3) x2 0 μ1 μ4 ∧ (x = x2 + 1 ∧ μ' = μ4))) ∧ (¬ 0 ≤ y3 → (∃ (μ6 : Mem), X6_put d 33 x2 0 μ1 μ6 ∧ (x = x2 + 1 ∧ μ' = μ6)))))) ∧ (¬ 0 ≤ x1 → ((0 ≤ ((-1) : Int32) → (∃ (μ8 : Mem), X6_put d (23 + (-1)) x2 0 μ μ8 ∧ (x = x2 + 1 ∧ μ' = μ8))) ∧ (¬ 0 ≤ ((-1) : Int32) → (∃ (μ10 : Mem), X6_put d 33 x2 0 μ μ10 ∧ (x = x2 + 1 ∧ μ' = μ10))))))) : X6_takeSign (d + 1) x1 x2 μ x μ' := by
  refine Me_of [some (vr 6 0 3), some (vi x1), some (vi x2), none] rfl (Nat.le_of_ble_eq_true rfl) (by decide) ?_
  refine Ev_iload_n dX6_takeSign_0 rfl ?_
  refine Ev_if_ge 8 dX6_takeSign_1 (by decide) (fun q => ?_) (fun q => ?_)
  · have h := h.1 q
    refine Ev_ldcS rfl dX6_takeSign_8 ?_
    refine Ev_iload_n dX6_takeSign_10 rfl ?_
    refine Ev_i2c dX6_takeSign_11 ?_
    obtain ⟨y3, μ1, hM2, h⟩ := h
    refine Ev_callT [_] mlX6_79 rfl rfl (Nat.le_of_ble_eq_true rfl) dX6_takeSign_12 hM2 ?_
    refine Ev_istore_n dX6_takeSign_15 (Nat.le_of_ble_eq_true rfl) (okp_of rfl) ?_
    refine Ev_aload_n dX6_takeSign_16 rfl ?_
    refine Ev_iload_n dX6_takeSign_17 rfl ?_
    refine Ev_if_ge 26 dX6_takeSign_18 (by decide) (fun q => ?_) (fun q => ?_)
    · have h := h.1 q
      refine Ev_bipush 23 dX6_takeSign_26 (by decide) ?_
      refine Ev_iload_n dX6_takeSign_28 rfl ?_
      refine Ev_iadd dX6_takeSign_29 ?_
      refine Ev_iload_n dX6_takeSign_30 rfl ?_
      refine Ev_lconst 0 dX6_takeSign_31 (by decide) ?_
      obtain ⟨μ4, hM5, h⟩ := h
      refine Ev_callV [_, _, _] mlX6_73 rfl rfl (Nat.le_of_ble_eq_true rfl) dX6_takeSign_32 hM5 ?_
      refine Ev_iload_n dX6_takeSign_35 rfl ?_
      refine Ev_iconst 1 dX6_takeSign_36 (by decide) ?_
      refine Ev_iadd dX6_takeSign_37 ?_
      obtain ⟨rfl, rfl⟩ := h
      exact R_i rfl dX6_takeSign_38 rfl
    · have h := h.2 q
      refine Ev_bipush 33 dX6_takeSign_21 (by decide) ?_
      refine Ev_goto 30 dX6_takeSign_23 (by decide) ?_
      refine Ev_iload_n dX6_takeSign_30 rfl ?_
      refine Ev_lconst 0 dX6_takeSign_31 (by decide) ?_
      obtain ⟨μ6, hM7, h⟩ := h
      refine Ev_callV [_, _, _] mlX6_73 rfl rfl (Nat.le_of_ble_eq_true rfl) dX6_takeSign_32 hM7 ?_
      refine Ev_iload_n dX6_takeSign_35 rfl ?_
      refine Ev_iconst 1 dX6_takeSign_36 (by decide) ?_
      refine Ev_iadd dX6_takeSign_37 ?_
      obtain ⟨rfl, rfl⟩ := h
      exact R_i rfl dX6_takeSign_38 rfl
  · have h := h.2 q
    refine Ev_iconst (-1) dX6_takeSign_4 (by decide) ?_
    refine Ev_goto 15 dX6_takeSign_5 (by decide) ?_
    refine Ev_istore_n dX6_takeSign_15 (Nat.le_of_ble_eq_true rfl) (okp_of rfl) ?_
    refine Ev_aload_n dX6_takeSign_16 rfl ?_
    refine Ev_iload_n dX6_takeSign_17 rfl ?_
    refine Ev_if_ge 26 dX6_takeSign_18 (by decide) (fun q => ?_) (fun q => ?_)
    · have h := h.1 q
      refine Ev_bipush 23 dX6_takeSign_26 (by decide) ?_
      refine Ev_iload_n dX6_takeSign_28 rfl ?_
      refine Ev_iadd dX6_takeSign_29 ?_
      refine Ev_iload_n dX6_takeSign_30 rfl ?_
      refine Ev_lconst 0 dX6_takeSign_31 (by decide) ?_
      obtain ⟨μ8, hM9, h⟩ := h
      refine Ev_callV [_, _, _] mlX6_73 rfl rfl (Nat.le_of_ble_eq_true rfl) dX6_takeSign_32 hM9 ?_
      refine Ev_iload_n dX6_takeSign_35 rfl ?_
      refine Ev_iconst 1 dX6_takeSign_36 (by decide) ?_
      refine Ev_iadd dX6_takeSign_37 ?_
      obtain ⟨rfl, rfl⟩ := h
      exact R_i rfl dX6_takeSign_38 rfl
    · have h := h.2 q
      refine Ev_bipush 33 dX6_takeSign_21 (by decide) ?_
      refine Ev_goto 30 dX6_takeSign_23 (by decide) ?_
      refine Ev_iload_n dX6_takeSign_30 rfl ?_
      refine Ev_lconst 0 dX6_takeSign_31 (by decide) ?_
      obtain ⟨μ10, hM11, h⟩ := h
      refine Ev_callV [_, _, _] mlX6_73 rfl rfl (Nat.le_of_ble_eq_true rfl) dX6_takeSign_32 hM11 ?_
      refine Ev_iload_n dX6_takeSign_35 rfl ?_
      refine Ev_iconst 1 dX6_takeSign_36 (by decide) ?_
      refine Ev_iadd dX6_takeSign_37 ?_
      obtain ⟨rfl, rfl⟩ := h
      exact R_i rfl dX6_takeSign_38 rfl
set_option maxHeartbeats 4000000 in
set_option maxRecDepth 100000 in
theorem X7_begin_ok {d : Nat} {a1 : Nat} {μ μ' : Mem} (h : (∀ μ1 : Mem, μ1 = sP μ 9 0 a1 → (∃ (μ2 : Mem), J7_fill_53178 d 2048 10 0 μ1 μ2 ∧ μ' = μ2))) : X7_begin (d + 1) a1 μ μ' := by
  refine Me_of [some (vr 7 0 9), some (vr 3 0 a1)] rfl (Nat.le_of_ble_eq_true rfl) (by decide) ?_
  refine Ev_aload_n dX7_begin_0 rfl ?_
  refine Ev_aload_n dX7_begin_1 rfl ?_
  refine Ev_putP flX7_29 fpX7_0 rfl dX7_begin_2 ?_
  have h := h _ rfl
  refine Ev_aload_n dX7_begin_5 rfl ?_
  refine Ev_getF 11 2048 1 flX7_11 rfl dX7_begin_6 ?_
  refine Ev_iconst 0 dX7_begin_9 (by decide) ?_
  obtain ⟨μ2, hM3, h⟩ := h
  refine Ev_callS [_, _] mlX7_33 rfl rfl (Nat.le_of_ble_eq_true rfl) dX7_begin_10 hM3 ?_
  subst h
  exact R_v rfl dX7_begin_13
set_option maxHeartbeats 4000000 in
set_option maxRecDepth 100000 in
theorem X7_bitsOf_ok {d : Nat} {x0 : Int32} {x1 : Int32} {μ μ' : Mem} {x : Int32} (h : X7_bitsOf_at4 d x0 x1 0 0 μ x μ') : X7_bitsOf (d + 1) x0 x1 μ x μ' := by
  refine Me_of [some (vi x0), some (vi x1), none, none] rfl (Nat.le_of_ble_eq_true rfl) (by decide) ?_
  refine Ev_iconst 0 dX7_bitsOf_0 (by decide) ?_
  refine Ev_istore_n dX7_bitsOf_1 (Nat.le_of_ble_eq_true rfl) (okp_of rfl) ?_
  refine Ev_iconst 0 dX7_bitsOf_2 (by decide) ?_
  refine Ev_istore_n dX7_bitsOf_3 (Nat.le_of_ble_eq_true rfl) (okp_of rfl) ?_
  exact h
set_option maxHeartbeats 4000000 in
set_option maxRecDepth 100000 in
theorem X7_bitsOf_at4_ok {d : Nat} {x0 : Int32} {x1 : Int32} {x2 : Int32} {x3 : Int32} {μ μ' : Mem} {x : Int32} (h : ((x1 ≤ x3 → (x = x2 ∧ μ' = μ)) ∧ (¬ x1 ≤ x3 → (∃ (y3 : Int32) (μ1 : Mem), X7_threadOf d x0 x3 μ y3 μ1 ∧ ((y3 ≤ 0 → X7_bitsOf_at4 d x0 x1 x2 (x3 + 1) μ1 x μ') ∧ (¬ y3 ≤ 0 → X7_bitsOf_at4 d x0 x1 (x2 ||| (1 <<< (x3 &&& 31))) (x3 + 1) μ1 x μ')))))) : X7_bitsOf_at4 d x0 x1 x2 x3 μ x μ' := by
  refine Ev_iload_n dX7_bitsOf_4 rfl ?_
  refine Ev_iload_n dX7_bitsOf_5 rfl ?_
  refine Ev_icmp_ge 29 dX7_bitsOf_6 (by decide) (fun q => ?_) (fun q => ?_)
  · have h := h.1 q
    refine Ev_iload_n dX7_bitsOf_29 rfl ?_
    obtain ⟨rfl, rfl⟩ := h
    exact R_i rfl dX7_bitsOf_30 rfl
  · have h := h.2 q
    refine Ev_iload_n dX7_bitsOf_9 rfl ?_
    refine Ev_iload_n dX7_bitsOf_10 rfl ?_
    obtain ⟨y3, μ1, hM2, h⟩ := h
    refine Ev_callS [_, _] mlX7_65 rfl rfl (Nat.le_of_ble_eq_true rfl) dX7_bitsOf_11 hM2 ?_
    refine Ev_if_le 23 dX7_bitsOf_14 (by decide) (fun q => ?_) (fun q => ?_)
    · have h := h.1 q
      refine Ev_iinc (x3 + 1) dX7_bitsOf_23 rfl rfl (okp_of rfl) ?_
      refine Ev_goto 4 dX7_bitsOf_26 (by decide) ?_
      exact h
    · have h := h.2 q
      refine Ev_iload_n dX7_bitsOf_17 rfl ?_
      refine Ev_iconst 1 dX7_bitsOf_18 (by decide) ?_
      refine Ev_iload_n dX7_bitsOf_19 rfl ?_
      refine Ev_ishl dX7_bitsOf_20 ?_
      refine Ev_ior dX7_bitsOf_21 ?_
      refine Ev_istore_n dX7_bitsOf_22 (Nat.le_of_ble_eq_true rfl) (okp_of rfl) ?_
      refine Ev_iinc (x3 + 1) dX7_bitsOf_23 rfl rfl (okp_of rfl) ?_
      refine Ev_goto 4 dX7_bitsOf_26 (by decide) ?_
      exact h
set_option maxHeartbeats 4000000 in
set_option maxRecDepth 100000 in
theorem X7_dryCells_ok {d : Nat} {a1 : Nat} {μ μ' : Mem} (h : (∀ μ1 : Mem, μ1 = sI μ (μ.2.2 9 0 + 11 + 3) 6 (μ.1 a1 0) → X7_dryCells_at21 d a1 (μ.2.2 9 0 + 11 + 3) 0 μ1 μ')) : X7_dryCells (d + 1) a1 μ μ' := by
  refine Me_of [some (vr 7 0 9), some (vr 5 0 a1), none, none, none] rfl (Nat.le_of_ble_eq_true rfl) (by decide) ?_
  refine Ev_aload_n dX7_dryCells_0 rfl ?_
  refine Ev_getP flX7_29 rfl dX7_dryCells_1 ?_
  refine Ev_getF 1 0 11 flX7_167 rfl dX7_dryCells_4 ?_
  refine Ev_getF 11 9 3 flX7_49 rfl dX7_dryCells_7 ?_
  refine Ev_astore_n dX7_dryCells_10 (Nat.le_of_ble_eq_true rfl) (okp_of rfl) ?_
  refine Ev_aload_n dX7_dryCells_11 rfl ?_
  refine Ev_bipush 6 dX7_dryCells_12 (by decide) ?_
  refine Ev_aload_n dX7_dryCells_14 rfl ?_
  refine Ev_getI flX7_140 rfl dX7_dryCells_15 ?_
  refine Ev_iast (n := 9) (vp_lit (by decide)) dX7_dryCells_18 ?_
  have h := h _ rfl
  refine Ev_iconst 0 dX7_dryCells_19 (by decide) ?_
  refine Ev_istore_n dX7_dryCells_20 (Nat.le_of_ble_eq_true rfl) (okp_of rfl) ?_
  exact h
set_option maxHeartbeats 4000000 in
set_option maxRecDepth 100000 in
theorem X7_dryCells_at21_ok {d : Nat} {a1 : Nat} {a2 : Nat} {x3 : Int32} {μ μ' : Mem} (h : ((48 ≤ x3 → μ' = μ) ∧ (¬ 48 ≤ x3 → vp_in x3 48 ∧ (((μ.1 (a1 + 1) x3.toNatClampNeg) ≤ 0 → X7_dryCells_at21 d a1 a2 (x3 + 1) μ μ') ∧ (¬ (μ.1 (a1 + 1) x3.toNatClampNeg) ≤ 0 → vp_in x3 48 ∧ vp_in x3 48 ∧ (∀ μ1 : Mem, μ1 = sI μ a2 3 (μ.1 (a1 + 1) x3.toNatClampNeg) → (∃ (y4 : Int32) (μ2 : Mem), X3_hasField d (μ1.2.2 9 0) (μ.1 (μ.2.2 9 0 + 1) x3.toNatClampNeg) μ1 y4 μ2 ∧ ((y4 = 0 → (∀ μ5 : Mem, μ5 = sI μ2 a2 4 0 → (∃ (y8 : Int32) (μ6 : Mem), X3_hasField d (μ5.2.2 9 0) (μ.1 (μ.2.2 9 0 + 1) x3.toNatClampNeg) μ5 y8 μ6 ∧ ((y8 = 0 → (∀ μ9 : Mem, μ9 = sI μ6 a2 5 0 → vp_in x3 48 ∧ (∃ (y12 : Int32) (μ10 : Mem), X1_answer d (μ9.2.2 9 0 + 11) μ9 y12 μ10 ∧ (∃ (y15 : Int32) (μ13 : Mem), X7_within d y12 99 μ10 y15 μ13 ∧ vp_in x3 48 ∧ (∀ μ16 : Mem, μ16 = sI μ13 (a1 + 1) x3.toNatClampNeg (mx 0 ((μ9.1 (a1 + 1) x3.toNatClampNeg) - y15)) → X7_dryCells_at21 d a1 a2 (x3 + 1) μ16 μ'))))) ∧ (¬ y8 = 0 → vp_in (μ.1 (μ.2.2 9 0 + 1) x3.toNatClampNeg) 6 ∧ (∀ μ17 : Mem, μ17 = sI μ6 a2 5 (μ6.1 (μ6.2.2 9 0 + 4) ((μ.1 (μ.2.2 9 0 + 1) x3.toNatClampNeg).toNatClampNeg)) → vp_in x3 48 ∧ (∃ (y20 : Int32) (μ18 : Mem), X1_answer d (μ17.2.2 9 0 + 11) μ17 y20 μ18 ∧ (∃ (y23 : Int32) (μ21 : Mem), X7_within d y20 99 μ18 y23 μ21 ∧ vp_in x3 48 ∧ (∀ μ24 : Mem, μ24 = sI μ21 (a1 + 1) x3.toNatClampNeg (mx 0 ((μ17.1 (a1 + 1) x3.toNatClampNeg) - y23)) → X7_dryCells_at21 d a1 a2 (x3 + 1) μ24 μ'))))))))) ∧ (¬ y4 = 0 → vp_in (μ.1 (μ.2.2 9 0 + 1) x3.toNatClampNeg) 6 ∧ (∀ μ25 : Mem, μ25 = sI μ2 a2 4 (μ2.1 (μ2.2.2 9 0 + 3) ((μ.1 (μ.2.2 9 0 + 1) x3.toNatClampNeg).toNatClampNeg)) → (∃ (y28 : Int32) (μ26 : Mem), X3_hasField d (μ25.2.2 9 0) (μ.1 (μ.2.2 9 0 + 1) x3.toNatClampNeg) μ25 y28 μ26 ∧ ((y28 = 0 → (∀ μ29 : Mem, μ29 = sI μ26 a2 5 0 → vp_in x3 48 ∧ (∃ (y32 : Int32) (μ30 : Mem), X1_answer d (μ29.2.2 9 0 + 11) μ29 y32 μ30 ∧ (∃ (y35 : Int32) (μ33 : Mem), X7_within d y32 99 μ30 y35 μ33 ∧ vp_in x3 48 ∧ (∀ μ36 : Mem, μ36 = sI μ33 (a1 + 1) x3.toNatClampNeg (mx 0 ((μ29.1 (a1 + 1) x3.toNatClampNeg) - y35)) → X7_dryCells_at21 d a1 a2 (x3 + 1) μ36 μ'))))) ∧ (¬ y28 = 0 → vp_in (μ.1 (μ.2.2 9 0 + 1) x3.toNatClampNeg) 6 ∧ (∀ μ37 : Mem, μ37 = sI μ26 a2 5 (μ26.1 (μ26.2.2 9 0 + 4) ((μ.1 (μ.2.2 9 0 + 1) x3.toNatClampNeg).toNatClampNeg)) → vp_in x3 48 ∧ (∃ (y40 : Int32) (μ38 : Mem), X1_answer d (μ37.2.2 9 0 + 11) μ37 y40 μ38 ∧ (∃ (y43 : Int32) (μ41 : Mem), X7_within d y40 99 μ38 y43 μ41 ∧ vp_in x3 48 ∧ (∀ μ44 : Mem, μ44 = sI μ41 (a1 + 1) x3.toNatClampNeg (mx 0 ((μ37.1 (a1 + 1) x3.toNatClampNeg) - y43)) → X7_dryCells_at21 d a1 a2 (x3 + 1) μ44 μ'))))))))))))))))) : X7_dryCells_at21 d a1 a2 x3 μ μ' := by
  refine Ev_iload_n dX7_dryCells_21 rfl ?_
  refine Ev_bipush 48 dX7_dryCells_22 (by decide) ?_
  refine Ev_icmp_ge 152 dX7_dryCells_24 (by decide) (fun q => ?_) (fun q => ?_)
  · have h := h.1 q
    subst h
    exact R_v rfl dX7_dryCells_152
  · have h := h.2 q
    refine Ev_aload_n dX7_dryCells_27 rfl ?_
    refine Ev_getF 11 48 1 flX7_89 rfl dX7_dryCells_28 ?_
    refine Ev_iload_n dX7_dryCells_31 rfl ?_
    obtain ⟨g, h⟩ := h
    refine Ev_iald g dX7_dryCells_32 ?_
    refine Ev_if_le 146 dX7_dryCells_33 (by decide) (fun q => ?_) (fun q => ?_)
    · have h := h.1 q
      refine Ev_iinc (x3 + 1) dX7_dryCells_146 rfl rfl (okp_of rfl) ?_
      refine Ev_goto 21 dX7_dryCells_149 (by decide) ?_
      exact h
    · have h := h.2 q
      refine Ev_aload_n dX7_dryCells_36 rfl ?_
      refine Ev_getP flX7_29 rfl dX7_dryCells_37 ?_
      refine Ev_getF 11 48 1 flX7_158 rfl dX7_dryCells_40 ?_
      refine Ev_iload_n dX7_dryCells_43 rfl ?_
      obtain ⟨g, h⟩ := h
      refine Ev_iald g dX7_dryCells_44 ?_
      refine Ev_istore dX7_dryCells_45 (Nat.le_of_ble_eq_true rfl) (okp_of rfl) ?_
      refine Ev_aload_n dX7_dryCells_47 rfl ?_
      refine Ev_iconst 3 dX7_dryCells_48 (by decide) ?_
      refine Ev_aload_n dX7_dryCells_49 rfl ?_
      refine Ev_getF 11 48 1 flX7_89 rfl dX7_dryCells_50 ?_
      refine Ev_iload_n dX7_dryCells_53 rfl ?_
      obtain ⟨g, h⟩ := h
      refine Ev_iald g dX7_dryCells_54 ?_
      refine Ev_iast (n := 9) (vp_lit (by decide)) dX7_dryCells_55 ?_
      have h := h _ rfl
      refine Ev_aload_n dX7_dryCells_56 rfl ?_
      refine Ev_iconst 4 dX7_dryCells_57 (by decide) ?_
      refine Ev_aload_n dX7_dryCells_58 rfl ?_
      refine Ev_getP flX7_29 rfl dX7_dryCells_59 ?_
      refine Ev_iload dX7_dryCells_62 rfl ?_
      obtain ⟨y4, μ2, hM3, h⟩ := h
      refine Ev_callV [_] mlX7_170 rfl rfl (Nat.le_of_ble_eq_true rfl) dX7_dryCells_64 hM3 ?_
      refine Ev_if_eq 83 dX7_dryCells_67 (by decide) (fun q => ?_) (fun q => ?_)
      · have h := h.1 q
        refine Ev_iconst 0 dX7_dryCells_83 (by decide) ?_
        refine Ev_iast (n := 9) (vp_lit (by decide)) dX7_dryCells_84 ?_
        have h := h _ rfl
        refine Ev_aload_n dX7_dryCells_85 rfl ?_
        refine Ev_iconst 5 dX7_dryCells_86 (by decide) ?_
        refine Ev_aload_n dX7_dryCells_87 rfl ?_
        refine Ev_getP flX7_29 rfl dX7_dryCells_88 ?_
        refine Ev_iload dX7_dryCells_91 rfl ?_
        obtain ⟨y8, μ6, hM7, h⟩ := h
        refine Ev_callV [_] mlX7_170 rfl rfl (Nat.le_of_ble_eq_true rfl) dX7_dryCells_93 hM7 ?_
        refine Ev_if_eq 112 dX7_dryCells_96 (by decide) (fun q => ?_) (fun q => ?_)
        · have h := h.1 q
          refine Ev_iconst 0 dX7_dryCells_112 (by decide) ?_
          refine Ev_iast (n := 9) (vp_lit (by decide)) dX7_dryCells_113 ?_
          have h := h _ rfl
          refine Ev_aload_n dX7_dryCells_114 rfl ?_
          refine Ev_getF 11 48 1 flX7_89 rfl dX7_dryCells_115 ?_
          refine Ev_iload_n dX7_dryCells_118 rfl ?_
          refine Ev_iconst 0 dX7_dryCells_119 (by decide) ?_
          refine Ev_aload_n dX7_dryCells_120 rfl ?_
          refine Ev_getF 11 48 1 flX7_89 rfl dX7_dryCells_121 ?_
          refine Ev_iload_n dX7_dryCells_124 rfl ?_
          obtain ⟨g, h⟩ := h
          refine Ev_iald g dX7_dryCells_125 ?_
          refine Ev_aload_n dX7_dryCells_126 rfl ?_
          refine Ev_getP flX7_29 rfl dX7_dryCells_127 ?_
          refine Ev_getF 1 0 11 flX7_167 rfl dX7_dryCells_130 ?_
          obtain ⟨y12, μ10, hM11, h⟩ := h
          refine Ev_callV [] mlX7_57 rfl rfl (Nat.le_of_ble_eq_true rfl) dX7_dryCells_133 hM11 ?_
          refine Ev_bipush 99 dX7_dryCells_136 (by decide) ?_
          obtain ⟨y15, μ13, hM14, h⟩ := h
          refine Ev_callS [_, _] mlX7_61 rfl rfl (Nat.le_of_ble_eq_true rfl) dX7_dryCells_138 hM14 ?_
          refine Ev_isub dX7_dryCells_141 ?_
          refine Ev_mmax (ts4 189 rfl rfl) (ts3 91 rfl rfl) (ts1 17 rfl rfl) (ts3 92 rfl rfl) (Nat.le_of_ble_eq_true rfl) dX7_dryCells_142 ?_
          obtain ⟨g, h⟩ := h
          refine Ev_iast g dX7_dryCells_145 ?_
          have h := h _ rfl
          refine Ev_iinc (x3 + 1) dX7_dryCells_146 rfl rfl (okp_of rfl) ?_
          refine Ev_goto 21 dX7_dryCells_149 (by decide) ?_
          refine Ev_weak ?_ h
          exact And.intro rfl (And.intro rfl (And.intro rfl (And.intro rfl (And.intro trivial (trivial)))))
        · have h := h.2 q
          refine Ev_aload_n dX7_dryCells_99 rfl ?_
          refine Ev_getP flX7_29 rfl dX7_dryCells_100 ?_
          refine Ev_getF 11 6 4 flX7_176 rfl dX7_dryCells_103 ?_
          refine Ev_iload dX7_dryCells_106 rfl ?_
          obtain ⟨g, h⟩ := h
          refine Ev_iald g dX7_dryCells_108 ?_
          refine Ev_goto 113 dX7_dryCells_109 (by decide) ?_
          refine Ev_iast (n := 9) (vp_lit (by decide)) dX7_dryCells_113 ?_
          have h := h _ rfl
          refine Ev_aload_n dX7_dryCells_114 rfl ?_
          refine Ev_getF 11 48 1 flX7_89 rfl dX7_dryCells_115 ?_
          refine Ev_iload_n dX7_dryCells_118 rfl ?_
          refine Ev_iconst 0 dX7_dryCells_119 (by decide) ?_
          refine Ev_aload_n dX7_dryCells_120 rfl ?_
          refine Ev_getF 11 48 1 flX7_89 rfl dX7_dryCells_121 ?_
          refine Ev_iload_n dX7_dryCells_124 rfl ?_
          obtain ⟨g, h⟩ := h
          refine Ev_iald g dX7_dryCells_125 ?_
          refine Ev_aload_n dX7_dryCells_126 rfl ?_
          refine Ev_getP flX7_29 rfl dX7_dryCells_127 ?_
          refine Ev_getF 1 0 11 flX7_167 rfl dX7_dryCells_130 ?_
          obtain ⟨y20, μ18, hM19, h⟩ := h
          refine Ev_callV [] mlX7_57 rfl rfl (Nat.le_of_ble_eq_true rfl) dX7_dryCells_133 hM19 ?_
          refine Ev_bipush 99 dX7_dryCells_136 (by decide) ?_
          obtain ⟨y23, μ21, hM22, h⟩ := h
          refine Ev_callS [_, _] mlX7_61 rfl rfl (Nat.le_of_ble_eq_true rfl) dX7_dryCells_138 hM22 ?_
          refine Ev_isub dX7_dryCells_141 ?_
          refine Ev_mmax (ts4 189 rfl rfl) (ts3 91 rfl rfl) (ts1 17 rfl rfl) (ts3 92 rfl rfl) (Nat.le_of_ble_eq_true rfl) dX7_dryCells_142 ?_
          obtain ⟨g, h⟩ := h
          refine Ev_iast g dX7_dryCells_145 ?_
          have h := h _ rfl
          refine Ev_iinc (x3 + 1) dX7_dryCells_146 rfl rfl (okp_of rfl) ?_
          refine Ev_goto 21 dX7_dryCells_149 (by decide) ?_
          refine Ev_weak ?_ h
          exact And.intro rfl (And.intro rfl (And.intro rfl (And.intro rfl (And.intro trivial (trivial)))))
      · have h := h.2 q
        refine Ev_aload_n dX7_dryCells_70 rfl ?_
        refine Ev_getP flX7_29 rfl dX7_dryCells_71 ?_
        refine Ev_getF 11 6 3 flX7_173 rfl dX7_dryCells_74 ?_
        refine Ev_iload dX7_dryCells_77 rfl ?_
        obtain ⟨g, h⟩ := h
        refine Ev_iald g dX7_dryCells_79 ?_
        refine Ev_goto 84 dX7_dryCells_80 (by decide) ?_
        refine Ev_iast (n := 9) (vp_lit (by decide)) dX7_dryCells_84 ?_
        have h := h _ rfl
        refine Ev_aload_n dX7_dryCells_85 rfl ?_
        refine Ev_iconst 5 dX7_dryCells_86 (by decide) ?_
        refine Ev_aload_n dX7_dryCells_87 rfl ?_
        refine Ev_getP flX7_29 rfl dX7_dryCells_88 ?_
        refine Ev_iload dX7_dryCells_91 rfl ?_
        obtain ⟨y28, μ26, hM27, h⟩ := h
        refine Ev_callV [_] mlX7_170 rfl rfl (Nat.le_of_ble_eq_true rfl) dX7_dryCells_93 hM27 ?_
        refine Ev_if_eq 112 dX7_dryCells_96 (by decide) (fun q => ?_) (fun q => ?_)
        · have h := h.1 q
          refine Ev_iconst 0 dX7_dryCells_112 (by decide) ?_
          refine Ev_iast (n := 9) (vp_lit (by decide)) dX7_dryCells_113 ?_
          have h := h _ rfl
          refine Ev_aload_n dX7_dryCells_114 rfl ?_
          refine Ev_getF 11 48 1 flX7_89 rfl dX7_dryCells_115 ?_
          refine Ev_iload_n dX7_dryCells_118 rfl ?_
          refine Ev_iconst 0 dX7_dryCells_119 (by decide) ?_
          refine Ev_aload_n dX7_dryCells_120 rfl ?_
          refine Ev_getF 11 48 1 flX7_89 rfl dX7_dryCells_121 ?_
          refine Ev_iload_n dX7_dryCells_124 rfl ?_
          obtain ⟨g, h⟩ := h
          refine Ev_iald g dX7_dryCells_125 ?_
          refine Ev_aload_n dX7_dryCells_126 rfl ?_
          refine Ev_getP flX7_29 rfl dX7_dryCells_127 ?_
          refine Ev_getF 1 0 11 flX7_167 rfl dX7_dryCells_130 ?_
          obtain ⟨y32, μ30, hM31, h⟩ := h
          refine Ev_callV [] mlX7_57 rfl rfl (Nat.le_of_ble_eq_true rfl) dX7_dryCells_133 hM31 ?_
          refine Ev_bipush 99 dX7_dryCells_136 (by decide) ?_
          obtain ⟨y35, μ33, hM34, h⟩ := h
          refine Ev_callS [_, _] mlX7_61 rfl rfl (Nat.le_of_ble_eq_true rfl) dX7_dryCells_138 hM34 ?_
          refine Ev_isub dX7_dryCells_141 ?_
          refine Ev_mmax (ts4 189 rfl rfl) (ts3 91 rfl rfl) (ts1 17 rfl rfl) (ts3 92 rfl rfl) (Nat.le_of_ble_eq_true rfl) dX7_dryCells_142 ?_
          obtain ⟨g, h⟩ := h
          refine Ev_iast g dX7_dryCells_145 ?_
          have h := h _ rfl
          refine Ev_iinc (x3 + 1) dX7_dryCells_146 rfl rfl (okp_of rfl) ?_
          refine Ev_goto 21 dX7_dryCells_149 (by decide) ?_
          refine Ev_weak ?_ h
          exact And.intro rfl (And.intro rfl (And.intro rfl (And.intro rfl (And.intro trivial (trivial)))))
        · have h := h.2 q
          refine Ev_aload_n dX7_dryCells_99 rfl ?_
          refine Ev_getP flX7_29 rfl dX7_dryCells_100 ?_
          refine Ev_getF 11 6 4 flX7_176 rfl dX7_dryCells_103 ?_
          refine Ev_iload dX7_dryCells_106 rfl ?_
          obtain ⟨g, h⟩ := h
          refine Ev_iald g dX7_dryCells_108 ?_
          refine Ev_goto 113 dX7_dryCells_109 (by decide) ?_
          refine Ev_iast (n := 9) (vp_lit (by decide)) dX7_dryCells_113 ?_
          have h := h _ rfl
          refine Ev_aload_n dX7_dryCells_114 rfl ?_
          refine Ev_getF 11 48 1 flX7_89 rfl dX7_dryCells_115 ?_
          refine Ev_iload_n dX7_dryCells_118 rfl ?_
          refine Ev_iconst 0 dX7_dryCells_119 (by decide) ?_
          refine Ev_aload_n dX7_dryCells_120 rfl ?_
          refine Ev_getF 11 48 1 flX7_89 rfl dX7_dryCells_121 ?_
          refine Ev_iload_n dX7_dryCells_124 rfl ?_
          obtain ⟨g, h⟩ := h
          refine Ev_iald g dX7_dryCells_125 ?_
          refine Ev_aload_n dX7_dryCells_126 rfl ?_
          refine Ev_getP flX7_29 rfl dX7_dryCells_127 ?_
          refine Ev_getF 1 0 11 flX7_167 rfl dX7_dryCells_130 ?_
          obtain ⟨y40, μ38, hM39, h⟩ := h
          refine Ev_callV [] mlX7_57 rfl rfl (Nat.le_of_ble_eq_true rfl) dX7_dryCells_133 hM39 ?_
          refine Ev_bipush 99 dX7_dryCells_136 (by decide) ?_
          obtain ⟨y43, μ41, hM42, h⟩ := h
          refine Ev_callS [_, _] mlX7_61 rfl rfl (Nat.le_of_ble_eq_true rfl) dX7_dryCells_138 hM42 ?_
          refine Ev_isub dX7_dryCells_141 ?_
          refine Ev_mmax (ts4 189 rfl rfl) (ts3 91 rfl rfl) (ts1 17 rfl rfl) (ts3 92 rfl rfl) (Nat.le_of_ble_eq_true rfl) dX7_dryCells_142 ?_
          obtain ⟨g, h⟩ := h
          refine Ev_iast g dX7_dryCells_145 ?_
          have h := h _ rfl
          refine Ev_iinc (x3 + 1) dX7_dryCells_146 rfl rfl (okp_of rfl) ?_
          refine Ev_goto 21 dX7_dryCells_149 (by decide) ?_
          refine Ev_weak ?_ h
          exact And.intro rfl (And.intro rfl (And.intro rfl (And.intro rfl (And.intro trivial (trivial)))))
set_option maxHeartbeats 4000000 in
set_option maxRecDepth 100000 in
theorem X7_emptyThreads_ok {d : Nat} {x1 : Int32} {x2 : Int32} {μ μ' : Mem} {x : Int32} (h : X7_emptyThreads_at5 d x1 x2 0 0 μ x μ') : X7_emptyThreads d x1 x2 μ x μ' := by
  refine Me_of [some (vr 7 0 9), some (vi x1), some (vi x2), none, none] rfl (Nat.le_of_ble_eq_true rfl) (by decide) ?_
  refine Ev_iconst 0 dX7_emptyThreads_0 (by decide) ?_
  refine Ev_istore_n dX7_emptyThreads_1 (Nat.le_of_ble_eq_true rfl) (okp_of rfl) ?_
  refine Ev_iconst 0 dX7_emptyThreads_2 (by decide) ?_
  refine Ev_istore dX7_emptyThreads_3 (Nat.le_of_ble_eq_true rfl) (okp_of rfl) ?_
  exact h
set_option maxHeartbeats 4000000 in
set_option maxRecDepth 100000 in
theorem X7_emptyThreads_at5_ok {d : Nat} {x1 : Int32} {x2 : Int32} {x3 : Int32} {x4 : Int32} {μ μ' : Mem} {x : Int32} (h : (((x1 * x2) ≤ x4 → (x = x3 ∧ μ' = μ)) ∧ (¬ (x1 * x2) ≤ x4 → ((48 ≤ x4 → (x = x3 ∧ μ' = μ)) ∧ (¬ 48 ≤ x4 → vp_in x4 48 ∧ (((μ.1 12 x4.toNatClampNeg) ≠ 0 → X7_emptyThreads_at5 d x1 x2 x3 (x4 + 1) μ x μ') ∧ ((μ.1 12 x4.toNatClampNeg) = 0 → X7_emptyThreads_at5 d x1 x2 (x3 + 1) (x4 + 1) μ x μ'))))))) : X7_emptyThreads_at5 d x1 x2 x3 x4 μ x μ' := by
  refine Ev_iload dX7_emptyThreads_5 rfl ?_
  refine Ev_iload_n dX7_emptyThreads_7 rfl ?_
  refine Ev_iload_n dX7_emptyThreads_8 rfl ?_
  refine Ev_imul dX7_emptyThreads_9 ?_
  refine Ev_icmp_ge 42 dX7_emptyThreads_10 (by decide) (fun q => ?_) (fun q => ?_)
  · have h := h.1 q
    refine Ev_iload_n dX7_emptyThreads_42 rfl ?_
    obtain ⟨rfl, rfl⟩ := h
    exact R_i rfl dX7_emptyThreads_43 rfl
  · have h := h.2 q
    refine Ev_iload dX7_emptyThreads_13 rfl ?_
    refine Ev_aload_n dX7_emptyThreads_15 rfl ?_
    refine Ev_getF 11 48 3 flX7_18 rfl dX7_emptyThreads_16 ?_
    refine Ev_alen (48) (by decide) (by decide) (by decide) dX7_emptyThreads_19 ?_
    refine Ev_icmp_ge 42 dX7_emptyThreads_20 (by decide) (fun q => ?_) (fun q => ?_)
    · have h := h.1 q
      refine Ev_iload_n dX7_emptyThreads_42 rfl ?_
      obtain ⟨rfl, rfl⟩ := h
      exact R_i rfl dX7_emptyThreads_43 rfl
    · have h := h.2 q
      refine Ev_aload_n dX7_emptyThreads_23 rfl ?_
      refine Ev_getF 11 48 3 flX7_18 rfl dX7_emptyThreads_24 ?_
      refine Ev_iload dX7_emptyThreads_27 rfl ?_
      obtain ⟨g, h⟩ := h
      refine Ev_iald g dX7_emptyThreads_29 ?_
      refine Ev_if_ne 36 dX7_emptyThreads_30 (by decide) (fun q => ?_) (fun q => ?_)
      · have h := h.1 q
        refine Ev_iinc (x4 + 1) dX7_emptyThreads_36 rfl rfl (okp_of rfl) ?_
        refine Ev_goto 5 dX7_emptyThreads_39 (by decide) ?_
        exact h
      · have h := h.2 q
        refine Ev_iinc (x3 + 1) dX7_emptyThreads_33 rfl rfl (okp_of rfl) ?_
        refine Ev_iinc (x4 + 1) dX7_emptyThreads_36 rfl rfl (okp_of rfl) ?_
        refine Ev_goto 5 dX7_emptyThreads_39 (by decide) ?_
        exact h
set_option maxHeartbeats 4000000 in
set_option maxRecDepth 100000 in
theorem X7_endDay_ok {d : Nat} {a1 : Nat} {μ μ' : Mem} (h : (∀ μ1 : Mem, μ1 = sI μ (μ.2.2 9 0 + 15 + 3) 6 (μ.1 a1 0) → (∃ (y4 : Int32) (μ2 : Mem), X1_answer d (μ1.2.2 9 0 + 15) μ1 y4 μ2 ∧ (∃ (y7 : Int32) (μ5 : Mem), X7_within d y4 999 μ2 y7 μ5 ∧ (∀ μ8 : Mem, μ8 = sI μ5 a1 1 (mn 9999 ((μ1.1 a1 1) + y7)) → (∀ μ9 : Mem, μ9 = sI μ8 a1 0 ((μ8.1 a1 0) + 1) → μ' = μ9)))))) : X7_endDay (d + 1) a1 μ μ' := by
  refine Me_of [some (vr 7 0 9), some (vr 5 0 a1)] rfl (Nat.le_of_ble_eq_true rfl) (by decide) ?_
  refine Ev_aload_n dX7_endDay_0 rfl ?_
  refine Ev_getP flX7_29 rfl dX7_endDay_1 ?_
  refine Ev_getF 1 0 15 flX7_182 rfl dX7_endDay_4 ?_
  refine Ev_getF 11 9 3 flX7_49 rfl dX7_endDay_7 ?_
  refine Ev_bipush 6 dX7_endDay_10 (by decide) ?_
  refine Ev_aload_n dX7_endDay_12 rfl ?_
  refine Ev_getI flX7_140 rfl dX7_endDay_13 ?_
  refine Ev_iast (n := 9) (vp_lit (by decide)) dX7_endDay_16 ?_
  have h := h _ rfl
  refine Ev_aload_n dX7_endDay_17 rfl ?_
  refine Ev_sipush 9999 dX7_endDay_18 (by decide) ?_
  refine Ev_aload_n dX7_endDay_21 rfl ?_
  refine Ev_getI flX7_76 rfl dX7_endDay_22 ?_
  refine Ev_aload_n dX7_endDay_25 rfl ?_
  refine Ev_getP flX7_29 rfl dX7_endDay_26 ?_
  refine Ev_getF 1 0 15 flX7_182 rfl dX7_endDay_29 ?_
  obtain ⟨y4, μ2, hM3, h⟩ := h
  refine Ev_callV [] mlX7_57 rfl rfl (Nat.le_of_ble_eq_true rfl) dX7_endDay_32 hM3 ?_
  refine Ev_sipush 999 dX7_endDay_35 (by decide) ?_
  obtain ⟨y7, μ5, hM6, h⟩ := h
  refine Ev_callS [_, _] mlX7_61 rfl rfl (Nat.le_of_ble_eq_true rfl) dX7_endDay_38 hM6 ?_
  refine Ev_iadd dX7_endDay_41 ?_
  refine Ev_mmin (ts4 150 rfl rfl) (ts3 47 rfl rfl) (ts1 17 rfl rfl) (ts3 48 rfl rfl) (Nat.le_of_ble_eq_true rfl) dX7_endDay_42 ?_
  refine Ev_putI .int flX7_76 fpX5_1 rfl rfl rfl dX7_endDay_45 ?_
  have h := h _ rfl
  refine Ev_aload_n dX7_endDay_48 rfl ?_
  refine Ev_dup dX7_endDay_49 (fun _ z => by cases z) ?_
  refine Ev_getI flX7_140 rfl dX7_endDay_50 ?_
  refine Ev_iconst 1 dX7_endDay_53 (by decide) ?_
  refine Ev_iadd dX7_endDay_54 ?_
  refine Ev_putI .int flX7_140 fpX5_0 rfl rfl rfl dX7_endDay_55 ?_
  have h := h _ rfl
  subst h
  exact R_v rfl dX7_endDay_58
set_option maxHeartbeats 4000000 in
set_option maxRecDepth 100000 in
theorem X7_gain_ok {d : Nat} {a1 : Nat} {x2 : Int32} {x3 : Int32} {x4 : Int32} {x5 : Int32} {μ μ' : Mem} {x : Int32} (h : X7_gain_at6 d a1 x2 x3 x4 x5 0 0 μ x μ') : X7_gain (d + 1) a1 x2 x3 x4 x5 μ x μ' := by
  refine Me_of [some (vr 7 0 9), some (vr 5 0 a1), some (vi x2), some (vi x3), some (vi x4), some (vi x5), none, none, none, none, none, none] rfl (Nat.le_of_ble_eq_true rfl) (by decide) ?_
  refine Ev_iconst 0 dX7_gain_0 (by decide) ?_
  refine Ev_istore dX7_gain_1 (Nat.le_of_ble_eq_true rfl) (okp_of rfl) ?_
  refine Ev_iconst 0 dX7_gain_3 (by decide) ?_
  refine Ev_istore dX7_gain_4 (Nat.le_of_ble_eq_true rfl) (okp_of rfl) ?_
  exact h
set_option maxHeartbeats 4000000 in
set_option maxRecDepth 100000 in
theorem X7_gain_at6_ok {d : Nat} {a1 : Nat} {x2 : Int32} {x3 : Int32} {x4 : Int32} {x5 : Int32} {x6 : Int32} {x7 : Int32} {μ μ' : Mem} {x : Int32} (h : ((x3 ≤ x7 → (x = x6 ∧ μ' = μ)) ∧ (¬ x3 ≤ x7 → X7_gain_at15 d a1 x2 x3 x4 x5 x6 x7 0 μ x μ'))) : X7_gain_at6 d a1 x2 x3 x4 x5 x6 x7 μ x μ' := by
  refine Ev_iload dX7_gain_6 rfl ?_
  refine Ev_iload_n dX7_gain_8 rfl ?_
  refine Ev_icmp_ge 149 dX7_gain_9 (by decide) (fun q => ?_) (fun q => ?_)
  · have h := h.1 q
    refine Ev_iload dX7_gain_149 rfl ?_
    obtain ⟨rfl, rfl⟩ := h
    exact R_i rfl dX7_gain_151 rfl
  · have h := h.2 q
    refine Ev_iconst 0 dX7_gain_12 (by decide) ?_
    refine Ev_istore dX7_gain_13 (Nat.le_of_ble_eq_true rfl) (okp_of rfl) ?_
    exact h
set_option maxHeartbeats 4000000 in
set_option maxRecDepth 100000 in
theorem X7_gain_at15_ok {d : Nat} {a1 : Nat} {x2 : Int32} {x3 : Int32} {x4 : Int32} {x5 : Int32} {x6 : Int32} {x7 : Int32} {x8 : Int32} {μ μ' : Mem} {x : Int32} (h : ((x2 ≤ x8 → X7_gain_at6 d a1 x2 x3 x4 x5 x6 (x7 + 1) μ x μ') ∧ (¬ x2 ≤ x8 → (∃ (y3 : Int32) (μ1 : Mem), X3_fieldAt d (μ.2.2 9 0) (x4 + x8) (x5 + x7) μ y3 μ1 ∧ (∃ (y6 : Int32) (μ4 : Mem), X5_waterAt d a1 (x4 + x8) (x5 + x7) μ1 y6 μ4 ∧ vp_in ((x7 * x2) + x8) 48 ∧ (∃ (y9 : Int32) (μ7 : Mem), X7_wetter d y6 (μ4.1 12 (((x7 * x2) + x8).toNatClampNeg)) μ4 y9 μ7 ∧ (∃ (y12 : Int32) (μ10 : Mem), X3_lacks d (μ7.2.2 9 0) y3 y6 μ7 y12 μ10 ∧ ((y12 = 0 → (∃ (y15 : Int32) (μ13 : Mem), X3_drowned d (μ10.2.2 9 0) y3 y6 μ10 y15 μ13 ∧ ((y15 ≠ 0 → X7_gain_at15 d a1 x2 x3 x4 x5 x6 x7 (x8 + 1) μ13 x μ') ∧ (y15 = 0 → (∃ (y18 : Int32) (μ16 : Mem), X3_drowned d (μ13.2.2 9 0) y3 y9 μ13 y18 μ16 ∧ ((y18 = 0 → X7_gain_at15 d a1 x2 x3 x4 x5 x6 x7 (x8 + 1) μ16 x μ') ∧ (¬ y18 = 0 → X7_gain_at15 d a1 x2 x3 x4 x5 (x6 + (-1)) x7 (x8 + 1) μ16 x μ'))))))) ∧ (¬ y12 = 0 → (∃ (y21 : Int32) (μ19 : Mem), X3_lacks d (μ10.2.2 9 0) y3 y9 μ10 y21 μ19 ∧ ((y21 ≠ 0 → (∃ (y24 : Int32) (μ22 : Mem), X3_drowned d (μ19.2.2 9 0) y3 y6 μ19 y24 μ22 ∧ ((y24 ≠ 0 → X7_gain_at15 d a1 x2 x3 x4 x5 x6 x7 (x8 + 1) μ22 x μ') ∧ (y24 = 0 → (∃ (y27 : Int32) (μ25 : Mem), X3_drowned d (μ22.2.2 9 0) y3 y9 μ22 y27 μ25 ∧ ((y27 = 0 → X7_gain_at15 d a1 x2 x3 x4 x5 x6 x7 (x8 + 1) μ25 x μ') ∧ (¬ y27 = 0 → X7_gain_at15 d a1 x2 x3 x4 x5 (x6 + (-1)) x7 (x8 + 1) μ25 x μ'))))))) ∧ (y21 = 0 → (∃ (y30 : Int32) (μ28 : Mem), X3_drowned d (μ19.2.2 9 0) y3 y6 μ19 y30 μ28 ∧ ((y30 ≠ 0 → X7_gain_at15 d a1 x2 x3 x4 x5 (x6 + 1) x7 (x8 + 1) μ28 x μ') ∧ (y30 = 0 → (∃ (y33 : Int32) (μ31 : Mem), X3_drowned d (μ28.2.2 9 0) y3 y9 μ28 y33 μ31 ∧ ((y33 = 0 → X7_gain_at15 d a1 x2 x3 x4 x5 (x6 + 1) x7 (x8 + 1) μ31 x μ') ∧ (¬ y33 = 0 → X7_gain_at15 d a1 x2 x3 x4 x5 ((x6 + 1) + (-1)) x7 (x8 + 1) μ31 x μ')))))))))))))))))) : X7_gain_at15 d a1 x2 x3 x4 x5 x6 x7 x8 μ x μ' := by
  refine Ev_iload dX7_gain_15 rfl ?_
  refine Ev_iload_n dX7_gain_17 rfl ?_
  refine Ev_icmp_ge 143 dX7_gain_18 (by decide) (fun q => ?_) (fun q => ?_)
  · have h := h.1 q
    refine Ev_iinc (x7 + 1) dX7_gain_143 rfl rfl (okp_of rfl) ?_
    refine Ev_goto 6 dX7_gain_146 (by decide) ?_
    refine Ev_weak ?_ h
    exact And.intro rfl (And.intro rfl (And.intro rfl (And.intro rfl (And.intro rfl (And.intro rfl (And.intro rfl (And.intro rfl (And.intro trivial (And.intro trivial (And.intro trivial (And.intro trivial (trivial))))))))))))
  · have h := h.2 q
    refine Ev_aload_n dX7_gain_21 rfl ?_
    refine Ev_getP flX7_29 rfl dX7_gain_22 ?_
    refine Ev_iload dX7_gain_25 rfl ?_
    refine Ev_iload dX7_gain_27 rfl ?_
    refine Ev_iadd dX7_gain_29 ?_
    refine Ev_iload dX7_gain_30 rfl ?_
    refine Ev_iload dX7_gain_32 rfl ?_
    refine Ev_iadd dX7_gain_34 ?_
    obtain ⟨y3, μ1, hM2, h⟩ := h
    refine Ev_callV [_, _] mlX7_104 rfl rfl (Nat.le_of_ble_eq_true rfl) dX7_gain_35 hM2 ?_
    refine Ev_istore dX7_gain_38 (Nat.le_of_ble_eq_true rfl) (okp_of rfl) ?_
    refine Ev_aload_n dX7_gain_40 rfl ?_
    refine Ev_iload dX7_gain_41 rfl ?_
    refine Ev_iload dX7_gain_43 rfl ?_
    refine Ev_iadd dX7_gain_45 ?_
    refine Ev_iload dX7_gain_46 rfl ?_
    refine Ev_iload dX7_gain_48 rfl ?_
    refine Ev_iadd dX7_gain_50 ?_
    obtain ⟨y6, μ4, hM5, h⟩ := h
    refine Ev_callV [_, _] mlX7_107 rfl rfl (Nat.le_of_ble_eq_true rfl) dX7_gain_51 hM5 ?_
    refine Ev_istore dX7_gain_54 (Nat.le_of_ble_eq_true rfl) (okp_of rfl) ?_
    refine Ev_iload dX7_gain_56 rfl ?_
    refine Ev_aload_n dX7_gain_58 rfl ?_
    refine Ev_getF 11 48 3 flX7_18 rfl dX7_gain_59 ?_
    refine Ev_iload dX7_gain_62 rfl ?_
    refine Ev_iload_n dX7_gain_64 rfl ?_
    refine Ev_imul dX7_gain_65 ?_
    refine Ev_iload dX7_gain_66 rfl ?_
    refine Ev_iadd dX7_gain_68 ?_
    obtain ⟨g, h⟩ := h
    refine Ev_iald g dX7_gain_69 ?_
    obtain ⟨y9, μ7, hM8, h⟩ := h
    refine Ev_callS [_, _] mlX7_92 rfl rfl (Nat.le_of_ble_eq_true rfl) dX7_gain_70 hM8 ?_
    refine Ev_istore dX7_gain_73 (Nat.le_of_ble_eq_true rfl) (okp_of rfl) ?_
    refine Ev_aload_n dX7_gain_75 rfl ?_
    refine Ev_getP flX7_29 rfl dX7_gain_76 ?_
    refine Ev_iload dX7_gain_79 rfl ?_
    refine Ev_iload dX7_gain_81 rfl ?_
    obtain ⟨y12, μ10, hM11, h⟩ := h
    refine Ev_callV [_, _] mlX7_110 rfl rfl (Nat.le_of_ble_eq_true rfl) dX7_gain_83 hM11 ?_
    refine Ev_if_eq 106 dX7_gain_86 (by decide) (fun q => ?_) (fun q => ?_)
    · have h := h.1 q
      refine Ev_aload_n dX7_gain_106 rfl ?_
      refine Ev_getP flX7_29 rfl dX7_gain_107 ?_
      refine Ev_iload dX7_gain_110 rfl ?_
      refine Ev_iload dX7_gain_112 rfl ?_
      obtain ⟨y15, μ13, hM14, h⟩ := h
      refine Ev_callV [_, _] mlX7_114 rfl rfl (Nat.le_of_ble_eq_true rfl) dX7_gain_114 hM14 ?_
      refine Ev_if_ne 137 dX7_gain_117 (by decide) (fun q => ?_) (fun q => ?_)
      · have h := h.1 q
        refine Ev_iinc (x8 + 1) dX7_gain_137 rfl rfl (okp_of rfl) ?_
        refine Ev_goto 15 dX7_gain_140 (by decide) ?_
        refine Ev_weak ?_ h
        exact And.intro rfl (And.intro rfl (And.intro rfl (And.intro rfl (And.intro rfl (And.intro rfl (And.intro rfl (And.intro rfl (And.intro rfl (And.intro trivial (And.intro trivial (And.intro trivial (trivial))))))))))))
      · have h := h.2 q
        refine Ev_aload_n dX7_gain_120 rfl ?_
        refine Ev_getP flX7_29 rfl dX7_gain_121 ?_
        refine Ev_iload dX7_gain_124 rfl ?_
        refine Ev_iload dX7_gain_126 rfl ?_
        obtain ⟨y18, μ16, hM17, h⟩ := h
        refine Ev_callV [_, _] mlX7_114 rfl rfl (Nat.le_of_ble_eq_true rfl) dX7_gain_128 hM17 ?_
        refine Ev_if_eq 137 dX7_gain_131 (by decide) (fun q => ?_) (fun q => ?_)
        · have h := h.1 q
          refine Ev_iinc (x8 + 1) dX7_gain_137 rfl rfl (okp_of rfl) ?_
          refine Ev_goto 15 dX7_gain_140 (by decide) ?_
          refine Ev_weak ?_ h
          exact And.intro rfl (And.intro rfl (And.intro rfl (And.intro rfl (And.intro rfl (And.intro rfl (And.intro rfl (And.intro rfl (And.intro rfl (And.intro trivial (And.intro trivial (And.intro trivial (trivial))))))))))))
        · have h := h.2 q
          refine Ev_iinc (x6 + (-1)) dX7_gain_134 rfl rfl (okp_of rfl) ?_
          refine Ev_iinc (x8 + 1) dX7_gain_137 rfl rfl (okp_of rfl) ?_
          refine Ev_goto 15 dX7_gain_140 (by decide) ?_
          refine Ev_weak ?_ h
          exact And.intro rfl (And.intro rfl (And.intro rfl (And.intro rfl (And.intro rfl (And.intro rfl (And.intro rfl (And.intro rfl (And.intro rfl (And.intro trivial (And.intro trivial (And.intro trivial (trivial))))))))))))
    · have h := h.2 q
      refine Ev_aload_n dX7_gain_89 rfl ?_
      refine Ev_getP flX7_29 rfl dX7_gain_90 ?_
      refine Ev_iload dX7_gain_93 rfl ?_
      refine Ev_iload dX7_gain_95 rfl ?_
      obtain ⟨y21, μ19, hM20, h⟩ := h
      refine Ev_callV [_, _] mlX7_110 rfl rfl (Nat.le_of_ble_eq_true rfl) dX7_gain_97 hM20 ?_
      refine Ev_if_ne 106 dX7_gain_100 (by decide) (fun q => ?_) (fun q => ?_)
      · have h := h.1 q
        refine Ev_aload_n dX7_gain_106 rfl ?_
        refine Ev_getP flX7_29 rfl dX7_gain_107 ?_
        refine Ev_iload dX7_gain_110 rfl ?_
        refine Ev_iload dX7_gain_112 rfl ?_
        obtain ⟨y24, μ22, hM23, h⟩ := h
        refine Ev_callV [_, _] mlX7_114 rfl rfl (Nat.le_of_ble_eq_true rfl) dX7_gain_114 hM23 ?_
        refine Ev_if_ne 137 dX7_gain_117 (by decide) (fun q => ?_) (fun q => ?_)
        · have h := h.1 q
          refine Ev_iinc (x8 + 1) dX7_gain_137 rfl rfl (okp_of rfl) ?_
          refine Ev_goto 15 dX7_gain_140 (by decide) ?_
          refine Ev_weak ?_ h
          exact And.intro rfl (And.intro rfl (And.intro rfl (And.intro rfl (And.intro rfl (And.intro rfl (And.intro rfl (And.intro rfl (And.intro rfl (And.intro trivial (And.intro trivial (And.intro trivial (trivial))))))))))))
        · have h := h.2 q
          refine Ev_aload_n dX7_gain_120 rfl ?_
          refine Ev_getP flX7_29 rfl dX7_gain_121 ?_
          refine Ev_iload dX7_gain_124 rfl ?_
          refine Ev_iload dX7_gain_126 rfl ?_
          obtain ⟨y27, μ25, hM26, h⟩ := h
          refine Ev_callV [_, _] mlX7_114 rfl rfl (Nat.le_of_ble_eq_true rfl) dX7_gain_128 hM26 ?_
          refine Ev_if_eq 137 dX7_gain_131 (by decide) (fun q => ?_) (fun q => ?_)
          · have h := h.1 q
            refine Ev_iinc (x8 + 1) dX7_gain_137 rfl rfl (okp_of rfl) ?_
            refine Ev_goto 15 dX7_gain_140 (by decide) ?_
            refine Ev_weak ?_ h
            exact And.intro rfl (And.intro rfl (And.intro rfl (And.intro rfl (And.intro rfl (And.intro rfl (And.intro rfl (And.intro rfl (And.intro rfl (And.intro trivial (And.intro trivial (And.intro trivial (trivial))))))))))))
          · have h := h.2 q
            refine Ev_iinc (x6 + (-1)) dX7_gain_134 rfl rfl (okp_of rfl) ?_
            refine Ev_iinc (x8 + 1) dX7_gain_137 rfl rfl (okp_of rfl) ?_
            refine Ev_goto 15 dX7_gain_140 (by decide) ?_
            refine Ev_weak ?_ h
            exact And.intro rfl (And.intro rfl (And.intro rfl (And.intro rfl (And.intro rfl (And.intro rfl (And.intro rfl (And.intro rfl (And.intro rfl (And.intro trivial (And.intro trivial (And.intro trivial (trivial))))))))))))
      · have h := h.2 q
        refine Ev_iinc (x6 + 1) dX7_gain_103 rfl rfl (okp_of rfl) ?_
        refine Ev_aload_n dX7_gain_106 rfl ?_
        refine Ev_getP flX7_29 rfl dX7_gain_107 ?_
        refine Ev_iload dX7_gain_110 rfl ?_
        refine Ev_iload dX7_gain_112 rfl ?_
        obtain ⟨y30, μ28, hM29, h⟩ := h
        refine Ev_callV [_, _] mlX7_114 rfl rfl (Nat.le_of_ble_eq_true rfl) dX7_gain_114 hM29 ?_
        refine Ev_if_ne 137 dX7_gain_117 (by decide) (fun q => ?_) (fun q => ?_)
        · have h := h.1 q
          refine Ev_iinc (x8 + 1) dX7_gain_137 rfl rfl (okp_of rfl) ?_
          refine Ev_goto 15 dX7_gain_140 (by decide) ?_
          refine Ev_weak ?_ h
          exact And.intro rfl (And.intro rfl (And.intro rfl (And.intro rfl (And.intro rfl (And.intro rfl (And.intro rfl (And.intro rfl (And.intro rfl (And.intro trivial (And.intro trivial (And.intro trivial (trivial))))))))))))
        · have h := h.2 q
          refine Ev_aload_n dX7_gain_120 rfl ?_
          refine Ev_getP flX7_29 rfl dX7_gain_121 ?_
          refine Ev_iload dX7_gain_124 rfl ?_
          refine Ev_iload dX7_gain_126 rfl ?_
          obtain ⟨y33, μ31, hM32, h⟩ := h
          refine Ev_callV [_, _] mlX7_114 rfl rfl (Nat.le_of_ble_eq_true rfl) dX7_gain_128 hM32 ?_
          refine Ev_if_eq 137 dX7_gain_131 (by decide) (fun q => ?_) (fun q => ?_)
          · have h := h.1 q
            refine Ev_iinc (x8 + 1) dX7_gain_137 rfl rfl (okp_of rfl) ?_
            refine Ev_goto 15 dX7_gain_140 (by decide) ?_
            refine Ev_weak ?_ h
            exact And.intro rfl (And.intro rfl (And.intro rfl (And.intro rfl (And.intro rfl (And.intro rfl (And.intro rfl (And.intro rfl (And.intro rfl (And.intro trivial (And.intro trivial (And.intro trivial (trivial))))))))))))
          · have h := h.2 q
            refine Ev_iinc ((x6 + 1) + (-1)) dX7_gain_134 rfl rfl (okp_of rfl) ?_
            refine Ev_iinc (x8 + 1) dX7_gain_137 rfl rfl (okp_of rfl) ?_
            refine Ev_goto 15 dX7_gain_140 (by decide) ?_
            refine Ev_weak ?_ h
            exact And.intro rfl (And.intro rfl (And.intro rfl (And.intro rfl (And.intro rfl (And.intro rfl (And.intro rfl (And.intro rfl (And.intro rfl (And.intro trivial (And.intro trivial (And.intro trivial (trivial))))))))))))
set_option maxHeartbeats 4000000 in
set_option maxRecDepth 100000 in
theorem X7_letFall_ok {d : Nat} {a1 : Nat} {x2 : Int32} {x3 : Int32} {x4 : Int32} {x5 : Int32} {x6 : Int32} {μ μ' : Mem} {x : Int32} (h : (∃ (y3 : Int32) (μ1 : Mem), X5_part d a1 x2 1 μ y3 μ1 ∧ (∃ (μ4 : Mem), X7_weave d x2 y3 x3 x4 (μ1.1 a1 1) μ1 μ4 ∧ X7_letFall_at21 d a1 x2 x3 x4 x5 x6 0 μ4 x μ'))) : X7_letFall (d + 1) a1 x2 x3 x4 x5 x6 μ x μ' := by
  refine Me_of [some (vr 7 0 9), some (vr 5 0 a1), some (vi x2), some (vi x3), some (vi x4), some (vi x5), some (vi x6), none, none, none] rfl (Nat.le_of_ble_eq_true rfl) (by decide) ?_
  refine Ev_aload_n dX7_letFall_0 rfl ?_
  refine Ev_iload_n dX7_letFall_1 rfl ?_
  refine Ev_aload_n dX7_letFall_2 rfl ?_
  refine Ev_iload_n dX7_letFall_3 rfl ?_
  refine Ev_iconst 1 dX7_letFall_4 (by decide) ?_
  obtain ⟨y3, μ1, hM2, h⟩ := h
  refine Ev_callV [_, _] mlX7_73 rfl rfl (Nat.le_of_ble_eq_true rfl) dX7_letFall_5 hM2 ?_
  refine Ev_iload_n dX7_letFall_8 rfl ?_
  refine Ev_iload dX7_letFall_9 rfl ?_
  refine Ev_aload_n dX7_letFall_11 rfl ?_
  refine Ev_getI flX7_76 rfl dX7_letFall_12 ?_
  obtain ⟨μ4, hM5, h⟩ := h
  refine Ev_callV [_, _, _, _, _] mlX7_79 rfl rfl (Nat.le_of_ble_eq_true rfl) dX7_letFall_15 hM5 ?_
  refine Ev_iconst 0 dX7_letFall_18 (by decide) ?_
  refine Ev_istore dX7_letFall_19 (Nat.le_of_ble_eq_true rfl) (okp_of rfl) ?_
  exact h
set_option maxHeartbeats 4000000 in
set_option maxRecDepth 100000 in
theorem X7_letFall_at21_ok {d : Nat} {a1 : Nat} {x2 : Int32} {x3 : Int32} {x4 : Int32} {x5 : Int32} {x6 : Int32} {x7 : Int32} {μ μ' : Mem} {x : Int32} (h : ((x4 ≤ x7 → (∀ μ1 : Mem, μ1 = sI μ a1 1 ((μ.1 a1 1) - (μ.1 9 4)) → (∃ (μ2 : Mem), X5_addPart d a1 x2 6 (μ1.1 9 4) μ1 μ2 ∧ (∃ (μ4 : Mem), X5_addPart d a1 x2 1 x4 μ2 μ4 ∧ (((μ4.1 9 5) = 0 → (x = μ4.1 9 4 ∧ μ' = μ4)) ∧ (¬ (μ4.1 9 5) = 0 → (∃ (μ6 : Mem), X5_addPart d a1 x2 7 1 μ4 μ6 ∧ (x = μ6.1 9 4 ∧ μ' = μ6)))))))) ∧ (¬ x4 ≤ x7 → (((μ.1 (μ.2.2 9 0) 1) ≤ (x6 + x7) → (∀ μ8 : Mem, μ8 = sI μ a1 1 ((μ.1 a1 1) - (μ.1 9 4)) → (∃ (μ9 : Mem), X5_addPart d a1 x2 6 (μ8.1 9 4) μ8 μ9 ∧ (∃ (μ11 : Mem), X5_addPart d a1 x2 1 x4 μ9 μ11 ∧ (((μ11.1 9 5) = 0 → (x = μ11.1 9 4 ∧ μ' = μ11)) ∧ (¬ (μ11.1 9 5) = 0 → (∃ (μ13 : Mem), X5_addPart d a1 x2 7 1 μ11 μ13 ∧ (x = μ13.1 9 4 ∧ μ' = μ13)))))))) ∧ (¬ (μ.1 (μ.2.2 9 0) 1) ≤ (x6 + x7) → X7_letFall_at46 d a1 x2 x3 x4 x5 x6 x7 0 μ x μ'))))) : X7_letFall_at21 d a1 x2 x3 x4 x5 x6 x7 μ x μ' := by
  refine Ev_iload dX7_letFall_21 rfl ?_
  refine Ev_iload dX7_letFall_23 rfl ?_
  refine Ev_icmp_ge 124 dX7_letFall_25 (by decide) (fun q => ?_) (fun q => ?_)
  · have h := h.1 q
    refine Ev_aload_n dX7_letFall_124 rfl ?_
    refine Ev_dup dX7_letFall_125 (fun _ z => by cases z) ?_
    refine Ev_getI flX7_76 rfl dX7_letFall_126 ?_
    refine Ev_aload_n dX7_letFall_129 rfl ?_
    refine Ev_getI flX7_21 rfl dX7_letFall_130 ?_
    refine Ev_isub dX7_letFall_133 ?_
    refine Ev_putI .int flX7_76 fpX5_1 rfl rfl rfl dX7_letFall_134 ?_
    have h := h _ rfl
    refine Ev_aload_n dX7_letFall_137 rfl ?_
    refine Ev_iload_n dX7_letFall_138 rfl ?_
    refine Ev_bipush 6 dX7_letFall_139 (by decide) ?_
    refine Ev_aload_n dX7_letFall_141 rfl ?_
    refine Ev_getI flX7_21 rfl dX7_letFall_142 ?_
    obtain ⟨μ2, hM3, h⟩ := h
    refine Ev_callV [_, _, _] mlX7_95 rfl rfl (Nat.le_of_ble_eq_true rfl) dX7_letFall_145 hM3 ?_
    refine Ev_aload_n dX7_letFall_148 rfl ?_
    refine Ev_iload_n dX7_letFall_149 rfl ?_
    refine Ev_iconst 1 dX7_letFall_150 (by decide) ?_
    refine Ev_iload dX7_letFall_151 rfl ?_
    obtain ⟨μ4, hM5, h⟩ := h
    refine Ev_callV [_, _, _] mlX7_95 rfl rfl (Nat.le_of_ble_eq_true rfl) dX7_letFall_153 hM5 ?_
    refine Ev_aload_n dX7_letFall_156 rfl ?_
    refine Ev_getI flX7_25 rfl dX7_letFall_157 ?_
    refine Ev_if_eq 171 dX7_letFall_160 (by decide) (fun q => ?_) (fun q => ?_)
    · have h := h.1 q
      refine Ev_aload_n dX7_letFall_171 rfl ?_
      refine Ev_getI flX7_21 rfl dX7_letFall_172 ?_
      obtain ⟨rfl, rfl⟩ := h
      exact R_i rfl dX7_letFall_175 rfl
    · have h := h.2 q
      refine Ev_aload_n dX7_letFall_163 rfl ?_
      refine Ev_iload_n dX7_letFall_164 rfl ?_
      refine Ev_bipush 7 dX7_letFall_165 (by decide) ?_
      refine Ev_iconst 1 dX7_letFall_167 (by decide) ?_
      obtain ⟨μ6, hM7, h⟩ := h
      refine Ev_callV [_, _, _] mlX7_95 rfl rfl (Nat.le_of_ble_eq_true rfl) dX7_letFall_168 hM7 ?_
      refine Ev_aload_n dX7_letFall_171 rfl ?_
      refine Ev_getI flX7_21 rfl dX7_letFall_172 ?_
      obtain ⟨rfl, rfl⟩ := h
      exact R_i rfl dX7_letFall_175 rfl
  · have h := h.2 q
    refine Ev_iload dX7_letFall_28 rfl ?_
    refine Ev_iload dX7_letFall_30 rfl ?_
    refine Ev_iadd dX7_letFall_32 ?_
    refine Ev_aload_n dX7_letFall_33 rfl ?_
    refine Ev_getP flX7_29 rfl dX7_letFall_34 ?_
    refine Ev_getI flX7_83 rfl dX7_letFall_37 ?_
    refine Ev_icmp_ge 124 dX7_letFall_40 (by decide) (fun q => ?_) (fun q => ?_)
    · have h := h.1 q
      refine Ev_aload_n dX7_letFall_124 rfl ?_
      refine Ev_dup dX7_letFall_125 (fun _ z => by cases z) ?_
      refine Ev_getI flX7_76 rfl dX7_letFall_126 ?_
      refine Ev_aload_n dX7_letFall_129 rfl ?_
      refine Ev_getI flX7_21 rfl dX7_letFall_130 ?_
      refine Ev_isub dX7_letFall_133 ?_
      refine Ev_putI .int flX7_76 fpX5_1 rfl rfl rfl dX7_letFall_134 ?_
      have h := h _ rfl
      refine Ev_aload_n dX7_letFall_137 rfl ?_
      refine Ev_iload_n dX7_letFall_138 rfl ?_
      refine Ev_bipush 6 dX7_letFall_139 (by decide) ?_
      refine Ev_aload_n dX7_letFall_141 rfl ?_
      refine Ev_getI flX7_21 rfl dX7_letFall_142 ?_
      obtain ⟨μ9, hM10, h⟩ := h
      refine Ev_callV [_, _, _] mlX7_95 rfl rfl (Nat.le_of_ble_eq_true rfl) dX7_letFall_145 hM10 ?_
      refine Ev_aload_n dX7_letFall_148 rfl ?_
      refine Ev_iload_n dX7_letFall_149 rfl ?_
      refine Ev_iconst 1 dX7_letFall_150 (by decide) ?_
      refine Ev_iload dX7_letFall_151 rfl ?_
      obtain ⟨μ11, hM12, h⟩ := h
      refine Ev_callV [_, _, _] mlX7_95 rfl rfl (Nat.le_of_ble_eq_true rfl) dX7_letFall_153 hM12 ?_
      refine Ev_aload_n dX7_letFall_156 rfl ?_
      refine Ev_getI flX7_25 rfl dX7_letFall_157 ?_
      refine Ev_if_eq 171 dX7_letFall_160 (by decide) (fun q => ?_) (fun q => ?_)
      · have h := h.1 q
        refine Ev_aload_n dX7_letFall_171 rfl ?_
        refine Ev_getI flX7_21 rfl dX7_letFall_172 ?_
        obtain ⟨rfl, rfl⟩ := h
        exact R_i rfl dX7_letFall_175 rfl
      · have h := h.2 q
        refine Ev_aload_n dX7_letFall_163 rfl ?_
        refine Ev_iload_n dX7_letFall_164 rfl ?_
        refine Ev_bipush 7 dX7_letFall_165 (by decide) ?_
        refine Ev_iconst 1 dX7_letFall_167 (by decide) ?_
        obtain ⟨μ13, hM14, h⟩ := h
        refine Ev_callV [_, _, _] mlX7_95 rfl rfl (Nat.le_of_ble_eq_true rfl) dX7_letFall_168 hM14 ?_
        refine Ev_aload_n dX7_letFall_171 rfl ?_
        refine Ev_getI flX7_21 rfl dX7_letFall_172 ?_
        obtain ⟨rfl, rfl⟩ := h
        exact R_i rfl dX7_letFall_175 rfl
    · have h := h.2 q
      refine Ev_iconst 0 dX7_letFall_43 (by decide) ?_
      refine Ev_istore dX7_letFall_44 (Nat.le_of_ble_eq_true rfl) (okp_of rfl) ?_
      exact h
set_option maxHeartbeats 4000000 in
set_option maxRecDepth 100000 in
theorem X7_letFall_at46_ok {d : Nat} {a1 : Nat} {x2 : Int32} {x3 : Int32} {x4 : Int32} {x5 : Int32} {x6 : Int32} {x7 : Int32} {x8 : Int32} {μ μ' : Mem} {x : Int32} (h : ((x3 ≤ x8 → X7_letFall_at21 d a1 x2 x3 x4 x5 x6 (x7 + 1) μ x μ') ∧ (¬ x3 ≤ x8 → (((μ.1 (μ.2.2 9 0) 0) ≤ (x5 + x8) → X7_letFall_at21 d a1 x2 x3 x4 x5 x6 (x7 + 1) μ x μ') ∧ (¬ (μ.1 (μ.2.2 9 0) 0) ≤ (x5 + x8) → vp_in ((((x6 + x7) * 8) + x5) + x8) 48 ∧ vp_in ((x7 * x3) + x8) 48 ∧ (∃ (y3 : Int32) (μ1 : Mem), X7_wetter d (μ.1 (a1 + 1) (((((x6 + x7) * 8) + x5) + x8).toNatClampNeg)) (μ.1 12 (((x7 * x3) + x8).toNatClampNeg)) μ y3 μ1 ∧ vp_in ((((x6 + x7) * 8) + x5) + x8) 48 ∧ (∀ μ4 : Mem, μ4 = sI μ1 (a1 + 1) (((((x6 + x7) * 8) + x5) + x8).toNatClampNeg) y3 → X7_letFall_at46 d a1 x2 x3 x4 x5 x6 x7 (x8 + 1) μ4 x μ'))))))) : X7_letFall_at46 d a1 x2 x3 x4 x5 x6 x7 x8 μ x μ' := by
  refine Ev_iload dX7_letFall_46 rfl ?_
  refine Ev_iload_n dX7_letFall_48 rfl ?_
  refine Ev_icmp_ge 118 dX7_letFall_49 (by decide) (fun q => ?_) (fun q => ?_)
  · have h := h.1 q
    refine Ev_iinc (x7 + 1) dX7_letFall_118 rfl rfl (okp_of rfl) ?_
    refine Ev_goto 21 dX7_letFall_121 (by decide) ?_
    refine Ev_weak ?_ h
    exact And.intro rfl (And.intro rfl (And.intro rfl (And.intro rfl (And.intro rfl (And.intro rfl (And.intro rfl (And.intro rfl (And.intro trivial (And.intro trivial (trivial))))))))))
  · have h := h.2 q
    refine Ev_iload dX7_letFall_52 rfl ?_
    refine Ev_iload dX7_letFall_54 rfl ?_
    refine Ev_iadd dX7_letFall_56 ?_
    refine Ev_aload_n dX7_letFall_57 rfl ?_
    refine Ev_getP flX7_29 rfl dX7_letFall_58 ?_
    refine Ev_getI flX7_86 rfl dX7_letFall_61 ?_
    refine Ev_icmp_ge 118 dX7_letFall_64 (by decide) (fun q => ?_) (fun q => ?_)
    · have h := h.1 q
      refine Ev_iinc (x7 + 1) dX7_letFall_118 rfl rfl (okp_of rfl) ?_
      refine Ev_goto 21 dX7_letFall_121 (by decide) ?_
      refine Ev_weak ?_ h
      exact And.intro rfl (And.intro rfl (And.intro rfl (And.intro rfl (And.intro rfl (And.intro rfl (And.intro rfl (And.intro rfl (And.intro trivial (And.intro trivial (trivial))))))))))
    · have h := h.2 q
      refine Ev_iload dX7_letFall_67 rfl ?_
      refine Ev_iload dX7_letFall_69 rfl ?_
      refine Ev_iadd dX7_letFall_71 ?_
      refine Ev_bipush 8 dX7_letFall_72 (by decide) ?_
      refine Ev_imul dX7_letFall_74 ?_
      refine Ev_iload dX7_letFall_75 rfl ?_
      refine Ev_iadd dX7_letFall_77 ?_
      refine Ev_iload dX7_letFall_78 rfl ?_
      refine Ev_iadd dX7_letFall_80 ?_
      refine Ev_istore dX7_letFall_81 (Nat.le_of_ble_eq_true rfl) (okp_of rfl) ?_
      refine Ev_aload_n dX7_letFall_83 rfl ?_
      refine Ev_getF 11 48 1 flX7_89 rfl dX7_letFall_84 ?_
      refine Ev_iload dX7_letFall_87 rfl ?_
      refine Ev_aload_n dX7_letFall_89 rfl ?_
      refine Ev_getF 11 48 1 flX7_89 rfl dX7_letFall_90 ?_
      refine Ev_iload dX7_letFall_93 rfl ?_
      obtain ⟨g, h⟩ := h
      refine Ev_iald g dX7_letFall_95 ?_
      refine Ev_aload_n dX7_letFall_96 rfl ?_
      refine Ev_getF 11 48 3 flX7_18 rfl dX7_letFall_97 ?_
      refine Ev_iload dX7_letFall_100 rfl ?_
      refine Ev_iload_n dX7_letFall_102 rfl ?_
      refine Ev_imul dX7_letFall_103 ?_
      refine Ev_iload dX7_letFall_104 rfl ?_
      refine Ev_iadd dX7_letFall_106 ?_
      obtain ⟨g, h⟩ := h
      refine Ev_iald g dX7_letFall_107 ?_
      obtain ⟨y3, μ1, hM2, h⟩ := h
      refine Ev_callS [_, _] mlX7_92 rfl rfl (Nat.le_of_ble_eq_true rfl) dX7_letFall_108 hM2 ?_
      obtain ⟨g, h⟩ := h
      refine Ev_iast g dX7_letFall_111 ?_
      have h := h _ rfl
      refine Ev_iinc (x8 + 1) dX7_letFall_112 rfl rfl (okp_of rfl) ?_
      refine Ev_goto 46 dX7_letFall_115 (by decide) ?_
      refine Ev_weak ?_ h
      exact And.intro rfl (And.intro rfl (And.intro rfl (And.intro rfl (And.intro rfl (And.intro rfl (And.intro rfl (And.intro rfl (And.intro rfl (And.intro trivial (trivial))))))))))
set_option maxHeartbeats 4000000 in
set_option maxRecDepth 100000 in
theorem X7_letOrdersFall_ok {d : Nat} {a1 : Nat} {x2 : Int32} {μ μ' : Mem} (h : X7_letOrdersFall_at2 d a1 x2 0 μ μ') : X7_letOrdersFall (d + 1) a1 x2 μ μ' := by
  refine Me_of [some (vr 7 0 9), some (vr 5 0 a1), some (vi x2), none, none] rfl (Nat.le_of_ble_eq_true rfl) (by decide) ?_
  refine Ev_iconst 0 dX7_letOrdersFall_0 (by decide) ?_
  refine Ev_istore_n dX7_letOrdersFall_1 (Nat.le_of_ble_eq_true rfl) (okp_of rfl) ?_
  exact h
set_option maxHeartbeats 4000000 in
set_option maxRecDepth 100000 in
theorem X7_letOrdersFall_at2_ok {d : Nat} {a1 : Nat} {x2 : Int32} {x3 : Int32} {μ μ' : Mem} (h : (((μ.1 (μ.2.2 9 0) 3) ≤ x3 → μ' = μ) ∧ (¬ (μ.1 (μ.2.2 9 0) 3) ≤ x3 → (∃ (y3 : Int32) (μ1 : Mem), X5_hasOrder d a1 x3 μ y3 μ1 ∧ ((y3 = 0 → X7_letOrdersFall_at2 d a1 x2 (x3 + 1) μ1 μ') ∧ (¬ y3 = 0 → (∃ (y6 : Int32) (μ4 : Mem), X5_part d a1 x3 4 μ1 y6 μ4 ∧ (∃ (y9 : Int32) (μ7 : Mem), X7_lot d 100 x2 ((8 * (μ4.1 a1 0)) + x3) μ4 y9 μ7 ∧ (((μ7.1 (μ7.2.2 9 0) 5) ≤ y9 → (∃ (y12 : Int32) (μ10 : Mem), X5_part d a1 x3 2 μ7 y12 μ10 ∧ (∃ (y15 : Int32) (μ13 : Mem), X5_part d a1 x3 3 μ10 y15 μ13 ∧ (∃ (y18 : Int32) (μ16 : Mem), X5_part d a1 x3 5 μ13 y18 μ16 ∧ (∃ (y21 : Int32) (μ19 : Mem), X7_letFall d a1 x3 y12 y15 y6 y18 μ16 y21 μ19 ∧ X7_letOrdersFall_at2 d a1 x2 (x3 + 1) μ19 μ'))))) ∧ (¬ (μ7.1 (μ7.2.2 9 0) 5) ≤ y9 → (∃ (y24 : Int32) (μ22 : Mem), X5_part d a1 x3 2 μ7 y24 μ22 ∧ (∃ (y27 : Int32) (μ25 : Mem), X5_part d a1 x3 3 μ22 y27 μ25 ∧ (∃ (y30 : Int32) (μ28 : Mem), X5_part d a1 x3 5 μ25 y30 μ28 ∧ (∃ (y33 : Int32) (μ31 : Mem), X7_letFall d a1 x3 y24 y27 (y6 + 1) y30 μ28 y33 μ31 ∧ X7_letOrdersFall_at2 d a1 x2 (x3 + 1) μ31 μ')))))))))))))) : X7_letOrdersFall_at2 d a1 x2 x3 μ μ' := by
  refine Ev_iload_n dX7_letOrdersFall_2 rfl ?_
  refine Ev_aload_n dX7_letOrdersFall_3 rfl ?_
  refine Ev_getP flX7_29 rfl dX7_letOrdersFall_4 ?_
  refine Ev_getI flX7_134 rfl dX7_letOrdersFall_7 ?_
  refine Ev_icmp_ge 90 dX7_letOrdersFall_10 (by decide) (fun q => ?_) (fun q => ?_)
  · have h := h.1 q
    subst h
    exact R_v rfl dX7_letOrdersFall_90
  · have h := h.2 q
    refine Ev_aload_n dX7_letOrdersFall_13 rfl ?_
    refine Ev_iload_n dX7_letOrdersFall_14 rfl ?_
    obtain ⟨y3, μ1, hM2, h⟩ := h
    refine Ev_callV [_] mlX7_137 rfl rfl (Nat.le_of_ble_eq_true rfl) dX7_letOrdersFall_15 hM2 ?_
    refine Ev_if_eq 84 dX7_letOrdersFall_18 (by decide) (fun q => ?_) (fun q => ?_)
    · have h := h.1 q
      refine Ev_iinc (x3 + 1) dX7_letOrdersFall_84 rfl rfl (okp_of rfl) ?_
      refine Ev_goto 2 dX7_letOrdersFall_87 (by decide) ?_
      exact h
    · have h := h.2 q
      refine Ev_aload_n dX7_letOrdersFall_21 rfl ?_
      refine Ev_iload_n dX7_letOrdersFall_22 rfl ?_
      refine Ev_iconst 4 dX7_letOrdersFall_23 (by decide) ?_
      obtain ⟨y6, μ4, hM5, h⟩ := h
      refine Ev_callV [_, _] mlX7_73 rfl rfl (Nat.le_of_ble_eq_true rfl) dX7_letOrdersFall_24 hM5 ?_
      refine Ev_istore dX7_letOrdersFall_27 (Nat.le_of_ble_eq_true rfl) (okp_of rfl) ?_
      refine Ev_bipush 100 dX7_letOrdersFall_29 (by decide) ?_
      refine Ev_iload_n dX7_letOrdersFall_31 rfl ?_
      refine Ev_bipush 8 dX7_letOrdersFall_32 (by decide) ?_
      refine Ev_aload_n dX7_letOrdersFall_34 rfl ?_
      refine Ev_getI flX7_140 rfl dX7_letOrdersFall_35 ?_
      refine Ev_imul dX7_letOrdersFall_38 ?_
      refine Ev_iload_n dX7_letOrdersFall_39 rfl ?_
      refine Ev_iadd dX7_letOrdersFall_40 ?_
      obtain ⟨y9, μ7, hM8, h⟩ := h
      refine Ev_callS [_, _, _] mlX7_143 rfl rfl (Nat.le_of_ble_eq_true rfl) dX7_letOrdersFall_41 hM8 ?_
      refine Ev_aload_n dX7_letOrdersFall_44 rfl ?_
      refine Ev_getP flX7_29 rfl dX7_letOrdersFall_45 ?_
      refine Ev_getI flX7_147 rfl dX7_letOrdersFall_48 ?_
      refine Ev_icmp_ge 57 dX7_letOrdersFall_51 (by decide) (fun q => ?_) (fun q => ?_)
      · have h := h.1 q
        refine Ev_aload_n dX7_letOrdersFall_57 rfl ?_
        refine Ev_aload_n dX7_letOrdersFall_58 rfl ?_
        refine Ev_iload_n dX7_letOrdersFall_59 rfl ?_
        refine Ev_aload_n dX7_letOrdersFall_60 rfl ?_
        refine Ev_iload_n dX7_letOrdersFall_61 rfl ?_
        refine Ev_iconst 2 dX7_letOrdersFall_62 (by decide) ?_
        obtain ⟨y12, μ10, hM11, h⟩ := h
        refine Ev_callV [_, _] mlX7_73 rfl rfl (Nat.le_of_ble_eq_true rfl) dX7_letOrdersFall_63 hM11 ?_
        refine Ev_aload_n dX7_letOrdersFall_66 rfl ?_
        refine Ev_iload_n dX7_letOrdersFall_67 rfl ?_
        refine Ev_iconst 3 dX7_letOrdersFall_68 (by decide) ?_
        obtain ⟨y15, μ13, hM14, h⟩ := h
        refine Ev_callV [_, _] mlX7_73 rfl rfl (Nat.le_of_ble_eq_true rfl) dX7_letOrdersFall_69 hM14 ?_
        refine Ev_iload dX7_letOrdersFall_72 rfl ?_
        refine Ev_aload_n dX7_letOrdersFall_74 rfl ?_
        refine Ev_iload_n dX7_letOrdersFall_75 rfl ?_
        refine Ev_iconst 5 dX7_letOrdersFall_76 (by decide) ?_
        obtain ⟨y18, μ16, hM17, h⟩ := h
        refine Ev_callV [_, _] mlX7_73 rfl rfl (Nat.le_of_ble_eq_true rfl) dX7_letOrdersFall_77 hM17 ?_
        obtain ⟨y21, μ19, hM20, h⟩ := h
        refine Ev_callV [_, _, _, _, _, _] mlX7_150 rfl rfl (Nat.le_of_ble_eq_true rfl) dX7_letOrdersFall_80 hM20 ?_
        refine Ev_pop dX7_letOrdersFall_83 (fun _ z => by cases z) ?_
        refine Ev_iinc (x3 + 1) dX7_letOrdersFall_84 rfl rfl (okp_of rfl) ?_
        refine Ev_goto 2 dX7_letOrdersFall_87 (by decide) ?_
        refine Ev_weak ?_ h
        exact And.intro rfl (And.intro rfl (And.intro rfl (And.intro rfl (And.intro trivial (trivial)))))
      · have h := h.2 q
        refine Ev_iinc (y6 + 1) dX7_letOrdersFall_54 rfl rfl (okp_of rfl) ?_
        refine Ev_aload_n dX7_letOrdersFall_57 rfl ?_
        refine Ev_aload_n dX7_letOrdersFall_58 rfl ?_
        refine Ev_iload_n dX7_letOrdersFall_59 rfl ?_
        refine Ev_aload_n dX7_letOrdersFall_60 rfl ?_
        refine Ev_iload_n dX7_letOrdersFall_61 rfl ?_
        refine Ev_iconst 2 dX7_letOrdersFall_62 (by decide) ?_
        obtain ⟨y24, μ22, hM23, h⟩ := h
        refine Ev_callV [_, _] mlX7_73 rfl rfl (Nat.le_of_ble_eq_true rfl) dX7_letOrdersFall_63 hM23 ?_
        refine Ev_aload_n dX7_letOrdersFall_66 rfl ?_
        refine Ev_iload_n dX7_letOrdersFall_67 rfl ?_
        refine Ev_iconst 3 dX7_letOrdersFall_68 (by decide) ?_
        obtain ⟨y27, μ25, hM26, h⟩ := h
        refine Ev_callV [_, _] mlX7_73 rfl rfl (Nat.le_of_ble_eq_true rfl) dX7_letOrdersFall_69 hM26 ?_
        refine Ev_iload dX7_letOrdersFall_72 rfl ?_
        refine Ev_aload_n dX7_letOrdersFall_74 rfl ?_
        refine Ev_iload_n dX7_letOrdersFall_75 rfl ?_
        refine Ev_iconst 5 dX7_letOrdersFall_76 (by decide) ?_
        obtain ⟨y30, μ28, hM29, h⟩ := h
        refine Ev_callV [_, _] mlX7_73 rfl rfl (Nat.le_of_ble_eq_true rfl) dX7_letOrdersFall_77 hM29 ?_
        obtain ⟨y33, μ31, hM32, h⟩ := h
        refine Ev_callV [_, _, _, _, _, _] mlX7_150 rfl rfl (Nat.le_of_ble_eq_true rfl) dX7_letOrdersFall_80 hM32 ?_
        refine Ev_pop dX7_letOrdersFall_83 (fun _ z => by cases z) ?_
        refine Ev_iinc (x3 + 1) dX7_letOrdersFall_84 rfl rfl (okp_of rfl) ?_
        refine Ev_goto 2 dX7_letOrdersFall_87 (by decide) ?_
        refine Ev_weak ?_ h
        exact And.intro rfl (And.intro rfl (And.intro rfl (And.intro rfl (And.intro trivial (trivial)))))
set_option maxHeartbeats 4000000 in
set_option maxRecDepth 100000 in
theorem X7_lot_ok {d : Nat} {x0 : Int32} {x1 : Int32} {x2 : Int32} {μ μ' : Mem} {x : Int32} (h : (∃ (y3 : Int32) (μ1 : Mem), X7_mix d x1 75 μ y3 μ1 ∧ (∃ (y6 : Int32) (μ4 : Mem), X7_mix d y3 x2 μ1 y6 μ4 ∧ ((x0 ≤ 0 → (x = 0 ∧ μ' = μ4)) ∧ (¬ x0 ≤ 0 → ¬ x0 = 0 ∧ (x = ((y6.toUInt32 >>> ((1 : Int32).toUInt32 &&& Int32.toUInt32 31)).toInt32) - ((y6.toUInt32 >>> ((1 : Int32).toUInt32 &&& Int32.toUInt32 31)).toInt32) / x0 * x0 ∧ μ' = μ4)))))) : X7_lot (d + 1) x0 x1 x2 μ x μ' := by
  refine Me_of [some (vi x0), some (vi x1), some (vi x2), none] rfl (Nat.le_of_ble_eq_true rfl) (by decide) ?_
  refine Ev_iload_n dX7_lot_0 rfl ?_
  refine Ev_bipush 75 dX7_lot_1 (by decide) ?_
  obtain ⟨y3, μ1, hM2, h⟩ := h
  refine Ev_callS [_, _] mlX7_154 rfl rfl (Nat.le_of_ble_eq_true rfl) dX7_lot_3 hM2 ?_
  refine Ev_iload_n dX7_lot_6 rfl ?_
  obtain ⟨y6, μ4, hM5, h⟩ := h
  refine Ev_callS [_, _] mlX7_154 rfl rfl (Nat.le_of_ble_eq_true rfl) dX7_lot_7 hM5 ?_
  refine Ev_istore_n dX7_lot_10 (Nat.le_of_ble_eq_true rfl) (okp_of rfl) ?_
  refine Ev_iload_n dX7_lot_11 rfl ?_
  refine Ev_if_le 23 dX7_lot_12 (by decide) (fun q => ?_) (fun q => ?_)
  · have h := h.1 q
    refine Ev_iconst 0 dX7_lot_23 (by decide) ?_
    obtain ⟨rfl, rfl⟩ := h
    exact R_i rfl dX7_lot_24 rfl
  · have h := h.2 q
    refine Ev_iload_n dX7_lot_15 rfl ?_
    refine Ev_iconst 1 dX7_lot_16 (by decide) ?_
    refine Ev_iushr dX7_lot_17 ?_
    refine Ev_iload_n dX7_lot_18 rfl ?_
    obtain ⟨g, h⟩ := h
    refine Ev_irem dX7_lot_19 g ?_
    refine Ev_goto 24 dX7_lot_20 (by decide) ?_
    obtain ⟨rfl, rfl⟩ := h
    exact R_i rfl dX7_lot_24 rfl
set_option maxHeartbeats 4000000 in
set_option maxRecDepth 100000 in
theorem X7_mix_ok {d : Nat} {x0 : Int32} {x1 : Int32} {μ μ' : Mem} {x : Int32} (h : (x = (((x0 ^^^ x1) * 1103515245) + 12345) ^^^ (((((x0 ^^^ x1) * 1103515245) + 12345).toUInt32 >>> ((15 : Int32).toUInt32 &&& Int32.toUInt32 31)).toInt32) ∧ μ' = μ)) : X7_mix d x0 x1 μ x μ' := by
  refine Me_of [some (vi x0), some (vi x1), none] rfl (Nat.le_of_ble_eq_true rfl) (by decide) ?_
  refine Ev_iload_n dX7_mix_0 rfl ?_
  refine Ev_iload_n dX7_mix_1 rfl ?_
  refine Ev_ixor dX7_mix_2 ?_
  refine Ev_ldc 1103515245 dX7_mix_3 (ts4 176 rfl rfl) ?_
  refine Ev_imul dX7_mix_5 ?_
  refine Ev_sipush 12345 dX7_mix_6 (by decide) ?_
  refine Ev_iadd dX7_mix_9 ?_
  refine Ev_istore_n dX7_mix_10 (Nat.le_of_ble_eq_true rfl) (okp_of rfl) ?_
  refine Ev_iload_n dX7_mix_11 rfl ?_
  refine Ev_iload_n dX7_mix_12 rfl ?_
  refine Ev_bipush 15 dX7_mix_13 (by decide) ?_
  refine Ev_iushr dX7_mix_15 ?_
  refine Ev_ixor dX7_mix_16 ?_
  obtain ⟨rfl, rfl⟩ := h
  exact R_i rfl dX7_mix_17 rfl
set_option maxHeartbeats 4000000 in
set_option maxRecDepth 100000 in
theorem X7_narrowed_ok {d : Nat} {x0 : Int32} {x1 : Int32} {μ μ' : Mem} {x : Int32} (h : ((x1 < 8 → (x = x0 &&& ((1 <<< ((4 * x1) &&& 31)) - 1) ∧ μ' = μ)) ∧ (¬ x1 < 8 → (x = x0 ∧ μ' = μ)))) : X7_narrowed d x0 x1 μ x μ' := by
  refine Me_of [some (vi x0), some (vi x1)] rfl (Nat.le_of_ble_eq_true rfl) (by decide) ?_
  refine Ev_iload_n dX7_narrowed_0 rfl ?_
  refine Ev_bipush 8 dX7_narrowed_1 (by decide) ?_
  refine Ev_icmp_lt 10 dX7_narrowed_3 (by decide) (fun q => ?_) (fun q => ?_)
  · have h := h.1 q
    refine Ev_iload_n dX7_narrowed_10 rfl ?_
    refine Ev_iconst 1 dX7_narrowed_11 (by decide) ?_
    refine Ev_iconst 4 dX7_narrowed_12 (by decide) ?_
    refine Ev_iload_n dX7_narrowed_13 rfl ?_
    refine Ev_imul dX7_narrowed_14 ?_
    refine Ev_ishl dX7_narrowed_15 ?_
    refine Ev_iconst 1 dX7_narrowed_16 (by decide) ?_
    refine Ev_isub dX7_narrowed_17 ?_
    refine Ev_iand dX7_narrowed_18 ?_
    obtain ⟨rfl, rfl⟩ := h
    exact R_i rfl dX7_narrowed_19 rfl
  · have h := h.2 q
    refine Ev_iload_n dX7_narrowed_6 rfl ?_
    refine Ev_goto 19 dX7_narrowed_7 (by decide) ?_
    obtain ⟨rfl, rfl⟩ := h
    exact R_i rfl dX7_narrowed_19 rfl
set_option maxHeartbeats 4000000 in
set_option maxRecDepth 100000 in
theorem X7_passDays_ok {d : Nat} {a1 : Nat} {x2 : Int32} {x3 : Int32} {μ μ' : Mem} (h : X7_passDays_at3 d a1 x2 x3 0 μ μ') : X7_passDays (d + 1) a1 x2 x3 μ μ' := by
  refine Me_of [some (vr 7 0 9), some (vr 5 0 a1), some (vi x2), some (vi x3), none] rfl (Nat.le_of_ble_eq_true rfl) (by decide) ?_
  refine Ev_iconst 0 dX7_passDays_0 (by decide) ?_
  refine Ev_istore dX7_passDays_1 (Nat.le_of_ble_eq_true rfl) (okp_of rfl) ?_
  exact h
set_option maxHeartbeats 4000000 in
set_option maxRecDepth 100000 in
theorem X7_passDays_at3_ok {d : Nat} {a1 : Nat} {x2 : Int32} {x3 : Int32} {x4 : Int32} {μ μ' : Mem} (h : ((x2 ≤ x4 → μ' = μ) ∧ (¬ x2 ≤ x4 → (∃ (μ1 : Mem), X7_letOrdersFall d a1 x3 μ μ1 ∧ (∃ (μ3 : Mem), X7_tally d a1 μ1 μ3 ∧ (∃ (μ5 : Mem), X7_dryCells d a1 μ3 μ5 ∧ (∃ (μ7 : Mem), X7_endDay d a1 μ5 μ7 ∧ X7_passDays_at3 d a1 x2 x3 (x4 + 1) μ7 μ'))))))) : X7_passDays_at3 d a1 x2 x3 x4 μ μ' := by
  refine Ev_iload dX7_passDays_3 rfl ?_
  refine Ev_iload_n dX7_passDays_5 rfl ?_
  refine Ev_icmp_ge 36 dX7_passDays_6 (by decide) (fun q => ?_) (fun q => ?_)
  · have h := h.1 q
    subst h
    exact R_v rfl dX7_passDays_36
  · have h := h.2 q
    refine Ev_aload_n dX7_passDays_9 rfl ?_
    refine Ev_aload_n dX7_passDays_10 rfl ?_
    refine Ev_iload_n dX7_passDays_11 rfl ?_
    obtain ⟨μ1, hM2, h⟩ := h
    refine Ev_callV [_, _] mlX7_117 rfl rfl (Nat.le_of_ble_eq_true rfl) dX7_passDays_12 hM2 ?_
    refine Ev_aload_n dX7_passDays_15 rfl ?_
    refine Ev_aload_n dX7_passDays_16 rfl ?_
    obtain ⟨μ3, hM4, h⟩ := h
    refine Ev_callV [_] mlX7_121 rfl rfl (Nat.le_of_ble_eq_true rfl) dX7_passDays_17 hM4 ?_
    refine Ev_aload_n dX7_passDays_20 rfl ?_
    refine Ev_aload_n dX7_passDays_21 rfl ?_
    obtain ⟨μ5, hM6, h⟩ := h
    refine Ev_callV [_] mlX7_125 rfl rfl (Nat.le_of_ble_eq_true rfl) dX7_passDays_22 hM6 ?_
    refine Ev_aload_n dX7_passDays_25 rfl ?_
    refine Ev_aload_n dX7_passDays_26 rfl ?_
    obtain ⟨μ7, hM8, h⟩ := h
    refine Ev_callV [_] mlX7_128 rfl rfl (Nat.le_of_ble_eq_true rfl) dX7_passDays_27 hM8 ?_
    refine Ev_iinc (x4 + 1) dX7_passDays_30 rfl rfl (okp_of rfl) ?_
    refine Ev_goto 3 dX7_passDays_33 (by decide) ?_
    exact h
set_option maxHeartbeats 4000000 in
set_option maxRecDepth 100000 in
theorem X7_passStoreDay_ok {d : Nat} {a1 : Nat} {μ μ' : Mem} (h : (∃ (μ1 : Mem), X7_letOrdersFall d a1 (μ.1 (μ.2.2 9 0) 6) μ μ1 ∧ (∃ (μ3 : Mem), X7_endDay d a1 μ1 μ3 ∧ μ' = μ3))) : X7_passStoreDay (d + 1) a1 μ μ' := by
  refine Me_of [some (vr 7 0 9), some (vr 5 0 a1)] rfl (Nat.le_of_ble_eq_true rfl) (by decide) ?_
  refine Ev_aload_n dX7_passStoreDay_0 rfl ?_
  refine Ev_aload_n dX7_passStoreDay_1 rfl ?_
  refine Ev_aload_n dX7_passStoreDay_2 rfl ?_
  refine Ev_getP flX7_29 rfl dX7_passStoreDay_3 ?_
  refine Ev_getI flX7_131 rfl dX7_passStoreDay_6 ?_
  obtain ⟨μ1, hM2, h⟩ := h
  refine Ev_callV [_, _] mlX7_117 rfl rfl (Nat.le_of_ble_eq_true rfl) dX7_passStoreDay_9 hM2 ?_
  refine Ev_aload_n dX7_passStoreDay_12 rfl ?_
  refine Ev_aload_n dX7_passStoreDay_13 rfl ?_
  obtain ⟨μ3, hM4, h⟩ := h
  refine Ev_callV [_] mlX7_128 rfl rfl (Nat.le_of_ble_eq_true rfl) dX7_passStoreDay_14 hM4 ?_
  subst h
  exact R_v rfl dX7_passStoreDay_17
set_option maxHeartbeats 4000000 in
set_option maxRecDepth 100000 in
theorem X7_rowAt_ok {d : Nat} {x1 : Int32} {x2 : Int32} {μ μ' : Mem} {x : Int32} (h : (∃ (y3 : Int32) (μ1 : Mem), X3_hasLoom d (μ.2.2 9 0) x1 μ y3 μ1 ∧ ((y3 = 0 → (x = 0 ∧ μ' = μ1)) ∧ (¬ y3 = 0 → ((0 ≤ x2 → vp_in ((x1 * 512) + (x2 - x2 / 512 * 512)) 2048 ∧ (((μ1.1 10 (((x1 * 512) + (x2 - x2 / 512 * 512)).toNatClampNeg)) ≠ (x2 + 1) → (∀ μ4 : Mem, μ4 = sI μ1 (μ1.2.2 9 0 + 7 + 3) 7 x1 → (∀ μ5 : Mem, μ5 = sI μ4 (μ1.2.2 9 0 + 7 + 3) 2 x2 → (∀ μ6 : Mem, μ6 = sI μ5 (μ1.2.2 9 0 + 7 + 3) 0 (x2 - x2 / 4 * 4) → vp_in x1 4 ∧ (∀ μ7 : Mem, μ7 = sI μ6 (μ1.2.2 9 0 + 7 + 3) 8 (μ6.1 (μ6.2.2 9 0 + 5) x1.toNatClampNeg) → X7_rowAt_at98 d x1 x2 ((x1 * 512) + (x2 - x2 / 512 * 512)) (μ1.2.2 9 0 + 7 + 3) 0 0 μ7 x μ'))))) ∧ ((μ1.1 10 (((x1 * 512) + (x2 - x2 / 512 * 512)).toNatClampNeg)) = (x2 + 1) → vp_in ((x1 * 512) + (x2 - x2 / 512 * 512)) 2048 ∧ (x = μ1.1 11 (((x1 * 512) + (x2 - x2 / 512 * 512)).toNatClampNeg) ∧ μ' = μ1)))) ∧ (¬ 0 ≤ x2 → (x = 0 ∧ μ' = μ1))))))) : X7_rowAt (d + 1) x1 x2 μ x μ' := by
  refine Me_of [some (vr 7 0 9), some (vi x1), some (vi x2), none, none, none, none] rfl (Nat.le_of_ble_eq_true rfl) (by decide) ?_
  refine Ev_aload_n dX7_rowAt_0 rfl ?_
  refine Ev_getP flX7_29 rfl dX7_rowAt_1 ?_
  refine Ev_iload_n dX7_rowAt_4 rfl ?_
  obtain ⟨y3, μ1, hM2, h⟩ := h
  refine Ev_callV [_] mlX7_39 rfl rfl (Nat.le_of_ble_eq_true rfl) dX7_rowAt_5 hM2 ?_
  refine Ev_if_eq 15 dX7_rowAt_8 (by decide) (fun q => ?_) (fun q => ?_)
  · have h := h.1 q
    refine Ev_iconst 0 dX7_rowAt_15 (by decide) ?_
    obtain ⟨rfl, rfl⟩ := h
    exact R_i rfl dX7_rowAt_16 rfl
  · have h := h.2 q
    refine Ev_iload_n dX7_rowAt_11 rfl ?_
    refine Ev_if_ge 17 dX7_rowAt_12 (by decide) (fun q => ?_) (fun q => ?_)
    · have h := h.1 q
      refine Ev_iload_n dX7_rowAt_17 rfl ?_
      refine Ev_sipush 512 dX7_rowAt_18 (by decide) ?_
      refine Ev_imul dX7_rowAt_21 ?_
      refine Ev_iload_n dX7_rowAt_22 rfl ?_
      refine Ev_sipush 512 dX7_rowAt_23 (by decide) ?_
      refine Ev_irem dX7_rowAt_26 (by decide) ?_
      refine Ev_iadd dX7_rowAt_27 ?_
      refine Ev_istore_n dX7_rowAt_28 (Nat.le_of_ble_eq_true rfl) (okp_of rfl) ?_
      refine Ev_aload_n dX7_rowAt_29 rfl ?_
      refine Ev_getF 11 2048 1 flX7_11 rfl dX7_rowAt_30 ?_
      refine Ev_iload_n dX7_rowAt_33 rfl ?_
      obtain ⟨g, h⟩ := h
      refine Ev_iald g dX7_rowAt_34 ?_
      refine Ev_iload_n dX7_rowAt_35 rfl ?_
      refine Ev_iconst 1 dX7_rowAt_36 (by decide) ?_
      refine Ev_iadd dX7_rowAt_37 ?_
      refine Ev_icmp_ne 48 dX7_rowAt_38 (by decide) (fun q => ?_) (fun q => ?_)
      · have h := h.1 q
        refine Ev_aload_n dX7_rowAt_48 rfl ?_
        refine Ev_getP flX7_29 rfl dX7_rowAt_49 ?_
        refine Ev_getF 1 0 7 flX7_45 rfl dX7_rowAt_52 ?_
        refine Ev_getF 11 9 3 flX7_49 rfl dX7_rowAt_55 ?_
        refine Ev_astore dX7_rowAt_58 (Nat.le_of_ble_eq_true rfl) (okp_of rfl) ?_
        refine Ev_aload dX7_rowAt_60 rfl ?_
        refine Ev_bipush 7 dX7_rowAt_62 (by decide) ?_
        refine Ev_iload_n dX7_rowAt_64 rfl ?_
        refine Ev_iast (n := 9) (vp_lit (by decide)) dX7_rowAt_65 ?_
        have h := h _ rfl
        refine Ev_aload dX7_rowAt_66 rfl ?_
        refine Ev_iconst 2 dX7_rowAt_68 (by decide) ?_
        refine Ev_iload_n dX7_rowAt_69 rfl ?_
        refine Ev_iast (n := 9) (vp_lit (by decide)) dX7_rowAt_70 ?_
        have h := h _ rfl
        refine Ev_aload dX7_rowAt_71 rfl ?_
        refine Ev_iconst 0 dX7_rowAt_73 (by decide) ?_
        refine Ev_iload_n dX7_rowAt_74 rfl ?_
        refine Ev_iconst 4 dX7_rowAt_75 (by decide) ?_
        refine Ev_irem dX7_rowAt_76 (by decide) ?_
        refine Ev_iast (n := 9) (vp_lit (by decide)) dX7_rowAt_77 ?_
        have h := h _ rfl
        refine Ev_aload dX7_rowAt_78 rfl ?_
        refine Ev_bipush 8 dX7_rowAt_80 (by decide) ?_
        refine Ev_aload_n dX7_rowAt_82 rfl ?_
        refine Ev_getP flX7_29 rfl dX7_rowAt_83 ?_
        refine Ev_getF 11 4 5 flX7_54 rfl dX7_rowAt_86 ?_
        refine Ev_iload_n dX7_rowAt_89 rfl ?_
        obtain ⟨g, h⟩ := h
        refine Ev_iald g dX7_rowAt_90 ?_
        refine Ev_iast (n := 9) (vp_lit (by decide)) dX7_rowAt_91 ?_
        have h := h _ rfl
        refine Ev_iconst 0 dX7_rowAt_92 (by decide) ?_
        refine Ev_istore dX7_rowAt_93 (Nat.le_of_ble_eq_true rfl) (okp_of rfl) ?_
        refine Ev_iconst 0 dX7_rowAt_95 (by decide) ?_
        refine Ev_istore dX7_rowAt_96 (Nat.le_of_ble_eq_true rfl) (okp_of rfl) ?_
        exact h
      · have h := h.2 q
        refine Ev_aload_n dX7_rowAt_41 rfl ?_
        refine Ev_getF 11 2048 2 flX7_15 rfl dX7_rowAt_42 ?_
        refine Ev_iload_n dX7_rowAt_45 rfl ?_
        obtain ⟨g, h⟩ := h
        refine Ev_iald g dX7_rowAt_46 ?_
        obtain ⟨rfl, rfl⟩ := h
        exact R_i rfl dX7_rowAt_47 rfl
    · have h := h.2 q
      refine Ev_iconst 0 dX7_rowAt_15 (by decide) ?_
      obtain ⟨rfl, rfl⟩ := h
      exact R_i rfl dX7_rowAt_16 rfl
set_option maxHeartbeats 4000000 in
set_option maxRecDepth 100000 in
theorem X7_rowAt_at98_ok {d : Nat} {x1 : Int32} {x2 : Int32} {x3 : Int32} {a4 : Nat} {x5 : Int32} {x6 : Int32} {μ μ' : Mem} {x : Int32} (h : vp_in x1 4 ∧ (((μ.1 (μ.2.2 9 0 + 5) x1.toNatClampNeg) ≤ x6 → vp_in x3 2048 ∧ (∀ μ1 : Mem, μ1 = sI μ 10 x3.toNatClampNeg (x2 + 1) → vp_in x3 2048 ∧ (∀ μ2 : Mem, μ2 = sI μ1 11 x3.toNatClampNeg x5 → (x = x5 ∧ μ' = μ2)))) ∧ (¬ (μ.1 (μ.2.2 9 0 + 5) x1.toNatClampNeg) ≤ x6 → (∀ μ3 : Mem, μ3 = sI μ a4 1 x6 → (∃ (y6 : Int32) (μ4 : Mem), X1_answer d (μ3.2.2 9 0 + 7) μ3 y6 μ4 ∧ (∃ (y9 : Int32) (μ7 : Mem), X7_within d y6 9 μ4 y9 μ7 ∧ X7_rowAt_at98 d x1 x2 x3 a4 (x5 ||| (y9 <<< ((4 * x6) &&& 31))) (x6 + 1) μ7 x μ')))))) : X7_rowAt_at98 d x1 x2 x3 a4 x5 x6 μ x μ' := by
  refine Ev_iload dX7_rowAt_98 rfl ?_
  refine Ev_aload_n dX7_rowAt_100 rfl ?_
  refine Ev_getP flX7_29 rfl dX7_rowAt_101 ?_
  refine Ev_getF 11 4 5 flX7_54 rfl dX7_rowAt_104 ?_
  refine Ev_iload_n dX7_rowAt_107 rfl ?_
  obtain ⟨g, h⟩ := h
  refine Ev_iald g dX7_rowAt_108 ?_
  refine Ev_icmp_ge 149 dX7_rowAt_109 (by decide) (fun q => ?_) (fun q => ?_)
  · have h := h.1 q
    refine Ev_aload_n dX7_rowAt_149 rfl ?_
    refine Ev_getF 11 2048 1 flX7_11 rfl dX7_rowAt_150 ?_
    refine Ev_iload_n dX7_rowAt_153 rfl ?_
    refine Ev_iload_n dX7_rowAt_154 rfl ?_
    refine Ev_iconst 1 dX7_rowAt_155 (by decide) ?_
    refine Ev_iadd dX7_rowAt_156 ?_
    obtain ⟨g, h⟩ := h
    refine Ev_iast g dX7_rowAt_157 ?_
    have h := h _ rfl
    refine Ev_aload_n dX7_rowAt_158 rfl ?_
    refine Ev_getF 11 2048 2 flX7_15 rfl dX7_rowAt_159 ?_
    refine Ev_iload_n dX7_rowAt_162 rfl ?_
    refine Ev_iload dX7_rowAt_163 rfl ?_
    obtain ⟨g, h⟩ := h
    refine Ev_iast g dX7_rowAt_165 ?_
    have h := h _ rfl
    refine Ev_iload dX7_rowAt_166 rfl ?_
    obtain ⟨rfl, rfl⟩ := h
    exact R_i rfl dX7_rowAt_168 rfl
  · have h := h.2 q
    refine Ev_aload dX7_rowAt_112 rfl ?_
    refine Ev_iconst 1 dX7_rowAt_114 (by decide) ?_
    refine Ev_iload dX7_rowAt_115 rfl ?_
    refine Ev_iast (n := 9) (vp_lit (by decide)) dX7_rowAt_117 ?_
    have h := h _ rfl
    refine Ev_iload dX7_rowAt_118 rfl ?_
    refine Ev_aload_n dX7_rowAt_120 rfl ?_
    refine Ev_getP flX7_29 rfl dX7_rowAt_121 ?_
    refine Ev_getF 1 0 7 flX7_45 rfl dX7_rowAt_124 ?_
    obtain ⟨y6, μ4, hM5, h⟩ := h
    refine Ev_callV [] mlX7_57 rfl rfl (Nat.le_of_ble_eq_true rfl) dX7_rowAt_127 hM5 ?_
    refine Ev_bipush 9 dX7_rowAt_130 (by decide) ?_
    obtain ⟨y9, μ7, hM8, h⟩ := h
    refine Ev_callS [_, _] mlX7_61 rfl rfl (Nat.le_of_ble_eq_true rfl) dX7_rowAt_132 hM8 ?_
    refine Ev_iconst 4 dX7_rowAt_135 (by decide) ?_
    refine Ev_iload dX7_rowAt_136 rfl ?_
    refine Ev_imul dX7_rowAt_138 ?_
    refine Ev_ishl dX7_rowAt_139 ?_
    refine Ev_ior dX7_rowAt_140 ?_
    refine Ev_istore dX7_rowAt_141 (Nat.le_of_ble_eq_true rfl) (okp_of rfl) ?_
    refine Ev_iinc (x6 + 1) dX7_rowAt_143 rfl rfl (okp_of rfl) ?_
    refine Ev_goto 98 dX7_rowAt_146 (by decide) ?_
    exact h
set_option maxHeartbeats 4000000 in
set_option maxRecDepth 100000 in
theorem X7_tally_ok {d : Nat} {a1 : Nat} {μ μ' : Mem} (h : X7_tally_at2 d a1 0 μ μ') : X7_tally (d + 1) a1 μ μ' := by
  refine Me_of [some (vr 7 0 9), some (vr 5 0 a1), none, none] rfl (Nat.le_of_ble_eq_true rfl) (by decide) ?_
  refine Ev_iconst 0 dX7_tally_0 (by decide) ?_
  refine Ev_istore_n dX7_tally_1 (Nat.le_of_ble_eq_true rfl) (okp_of rfl) ?_
  exact h
set_option maxHeartbeats 4000000 in
set_option maxRecDepth 100000 in
theorem X7_tally_at2_ok {d : Nat} {a1 : Nat} {x2 : Int32} {μ μ' : Mem} (h : ((48 ≤ x2 → μ' = μ) ∧ (¬ 48 ≤ x2 → vp_in x2 48 ∧ vp_in x2 48 ∧ (∃ (y3 : Int32) (μ1 : Mem), X3_lacks d (μ.2.2 9 0) (μ.1 (μ.2.2 9 0 + 1) x2.toNatClampNeg) (μ.1 (a1 + 1) x2.toNatClampNeg) μ y3 μ1 ∧ ((y3 = 0 → vp_in x2 48 ∧ (∃ (y6 : Int32) (μ4 : Mem), X3_drowned d (μ1.2.2 9 0) (μ.1 (μ.2.2 9 0 + 1) x2.toNatClampNeg) (μ1.1 (a1 + 1) x2.toNatClampNeg) μ1 y6 μ4 ∧ ((y6 = 0 → X7_tally_at2 d a1 (x2 + 1) μ4 μ') ∧ (¬ y6 = 0 → vp_in (μ.1 (μ.2.2 9 0 + 1) x2.toNatClampNeg) 6 ∧ vp_in (μ.1 (μ.2.2 9 0 + 1) x2.toNatClampNeg) 6 ∧ (∀ μ7 : Mem, μ7 = sI μ4 (a1 + 4) ((μ.1 (μ.2.2 9 0 + 1) x2.toNatClampNeg).toNatClampNeg) ((μ4.1 (a1 + 4) ((μ.1 (μ.2.2 9 0 + 1) x2.toNatClampNeg).toNatClampNeg)) + 1) → X7_tally_at2 d a1 (x2 + 1) μ7 μ'))))) ∧ (¬ y3 = 0 → vp_in (μ.1 (μ.2.2 9 0 + 1) x2.toNatClampNeg) 6 ∧ vp_in (μ.1 (μ.2.2 9 0 + 1) x2.toNatClampNeg) 6 ∧ (∀ μ8 : Mem, μ8 = sI μ1 (a1 + 3) ((μ.1 (μ.2.2 9 0 + 1) x2.toNatClampNeg).toNatClampNeg) ((μ1.1 (a1 + 3) ((μ.1 (μ.2.2 9 0 + 1) x2.toNatClampNeg).toNatClampNeg)) + 1) → vp_in x2 48 ∧ (∃ (y11 : Int32) (μ9 : Mem), X3_drowned d (μ8.2.2 9 0) (μ.1 (μ.2.2 9 0 + 1) x2.toNatClampNeg) (μ8.1 (a1 + 1) x2.toNatClampNeg) μ8 y11 μ9 ∧ ((y11 = 0 → X7_tally_at2 d a1 (x2 + 1) μ9 μ') ∧ (¬ y11 = 0 → vp_in (μ.1 (μ.2.2 9 0 + 1) x2.toNatClampNeg) 6 ∧ vp_in (μ.1 (μ.2.2 9 0 + 1) x2.toNatClampNeg) 6 ∧ (∀ μ12 : Mem, μ12 = sI μ9 (a1 + 4) ((μ.1 (μ.2.2 9 0 + 1) x2.toNatClampNeg).toNatClampNeg) ((μ9.1 (a1 + 4) ((μ.1 (μ.2.2 9 0 + 1) x2.toNatClampNeg).toNatClampNeg)) + 1) → X7_tally_at2 d a1 (x2 + 1) μ12 μ'))))))))))) : X7_tally_at2 d a1 x2 μ μ' := by
  refine Ev_iload_n dX7_tally_2 rfl ?_
  refine Ev_bipush 48 dX7_tally_3 (by decide) ?_
  refine Ev_icmp_ge 78 dX7_tally_5 (by decide) (fun q => ?_) (fun q => ?_)
  · have h := h.1 q
    subst h
    exact R_v rfl dX7_tally_78
  · have h := h.2 q
    refine Ev_aload_n dX7_tally_8 rfl ?_
    refine Ev_getP flX7_29 rfl dX7_tally_9 ?_
    refine Ev_getF 11 48 1 flX7_158 rfl dX7_tally_12 ?_
    refine Ev_iload_n dX7_tally_15 rfl ?_
    obtain ⟨g, h⟩ := h
    refine Ev_iald g dX7_tally_16 ?_
    refine Ev_istore_n dX7_tally_17 (Nat.le_of_ble_eq_true rfl) (okp_of rfl) ?_
    refine Ev_aload_n dX7_tally_18 rfl ?_
    refine Ev_getP flX7_29 rfl dX7_tally_19 ?_
    refine Ev_iload_n dX7_tally_22 rfl ?_
    refine Ev_aload_n dX7_tally_23 rfl ?_
    refine Ev_getF 11 48 1 flX7_89 rfl dX7_tally_24 ?_
    refine Ev_iload_n dX7_tally_27 rfl ?_
    obtain ⟨g, h⟩ := h
    refine Ev_iald g dX7_tally_28 ?_
    obtain ⟨y3, μ1, hM2, h⟩ := h
    refine Ev_callV [_, _] mlX7_110 rfl rfl (Nat.le_of_ble_eq_true rfl) dX7_tally_29 hM2 ?_
    refine Ev_if_eq 45 dX7_tally_32 (by decide) (fun q => ?_) (fun q => ?_)
    · have h := h.1 q
      refine Ev_aload_n dX7_tally_45 rfl ?_
      refine Ev_getP flX7_29 rfl dX7_tally_46 ?_
      refine Ev_iload_n dX7_tally_49 rfl ?_
      refine Ev_aload_n dX7_tally_50 rfl ?_
      refine Ev_getF 11 48 1 flX7_89 rfl dX7_tally_51 ?_
      refine Ev_iload_n dX7_tally_54 rfl ?_
      obtain ⟨g, h⟩ := h
      refine Ev_iald g dX7_tally_55 ?_
      obtain ⟨y6, μ4, hM5, h⟩ := h
      refine Ev_callV [_, _] mlX7_114 rfl rfl (Nat.le_of_ble_eq_true rfl) dX7_tally_56 hM5 ?_
      refine Ev_if_eq 72 dX7_tally_59 (by decide) (fun q => ?_) (fun q => ?_)
      · have h := h.1 q
        refine Ev_iinc (x2 + 1) dX7_tally_72 rfl rfl (okp_of rfl) ?_
        refine Ev_goto 2 dX7_tally_75 (by decide) ?_
        refine Ev_weak ?_ h
        exact And.intro rfl (And.intro rfl (And.intro rfl (And.intro trivial (trivial))))
      · have h := h.2 q
        refine Ev_aload_n dX7_tally_62 rfl ?_
        refine Ev_getF 11 6 4 flX7_164 rfl dX7_tally_63 ?_
        refine Ev_iload_n dX7_tally_66 rfl ?_
        refine Ev_dup2 dX7_tally_67 ?_
        obtain ⟨g, h⟩ := h
        refine Ev_iald g dX7_tally_68 ?_
        refine Ev_iconst 1 dX7_tally_69 (by decide) ?_
        refine Ev_iadd dX7_tally_70 ?_
        obtain ⟨g, h⟩ := h
        refine Ev_iast g dX7_tally_71 ?_
        have h := h _ rfl
        refine Ev_iinc (x2 + 1) dX7_tally_72 rfl rfl (okp_of rfl) ?_
        refine Ev_goto 2 dX7_tally_75 (by decide) ?_
        refine Ev_weak ?_ h
        exact And.intro rfl (And.intro rfl (And.intro rfl (And.intro trivial (trivial))))
    · have h := h.2 q
      refine Ev_aload_n dX7_tally_35 rfl ?_
      refine Ev_getF 11 6 3 flX7_161 rfl dX7_tally_36 ?_
      refine Ev_iload_n dX7_tally_39 rfl ?_
      refine Ev_dup2 dX7_tally_40 ?_
      obtain ⟨g, h⟩ := h
      refine Ev_iald g dX7_tally_41 ?_
      refine Ev_iconst 1 dX7_tally_42 (by decide) ?_
      refine Ev_iadd dX7_tally_43 ?_
      obtain ⟨g, h⟩ := h
      refine Ev_iast g dX7_tally_44 ?_
      have h := h _ rfl
      refine Ev_aload_n dX7_tally_45 rfl ?_
      refine Ev_getP flX7_29 rfl dX7_tally_46 ?_
      refine Ev_iload_n dX7_tally_49 rfl ?_
      refine Ev_aload_n dX7_tally_50 rfl ?_
      refine Ev_getF 11 48 1 flX7_89 rfl dX7_tally_51 ?_
      refine Ev_iload_n dX7_tally_54 rfl ?_
      obtain ⟨g, h⟩ := h
      refine Ev_iald g dX7_tally_55 ?_
      obtain ⟨y11, μ9, hM10, h⟩ := h
      refine Ev_callV [_, _] mlX7_114 rfl rfl (Nat.le_of_ble_eq_true rfl) dX7_tally_56 hM10 ?_
      refine Ev_if_eq 72 dX7_tally_59 (by decide) (fun q => ?_) (fun q => ?_)
      · have h := h.1 q
        refine Ev_iinc (x2 + 1) dX7_tally_72 rfl rfl (okp_of rfl) ?_
        refine Ev_goto 2 dX7_tally_75 (by decide) ?_
        refine Ev_weak ?_ h
        exact And.intro rfl (And.intro rfl (And.intro rfl (And.intro trivial (trivial))))
      · have h := h.2 q
        refine Ev_aload_n dX7_tally_62 rfl ?_
        refine Ev_getF 11 6 4 flX7_164 rfl dX7_tally_63 ?_
        refine Ev_iload_n dX7_tally_66 rfl ?_
        refine Ev_dup2 dX7_tally_67 ?_
        obtain ⟨g, h⟩ := h
        refine Ev_iald g dX7_tally_68 ?_
        refine Ev_iconst 1 dX7_tally_69 (by decide) ?_
        refine Ev_iadd dX7_tally_70 ?_
        obtain ⟨g, h⟩ := h
        refine Ev_iast g dX7_tally_71 ?_
        have h := h _ rfl
        refine Ev_iinc (x2 + 1) dX7_tally_72 rfl rfl (okp_of rfl) ?_
        refine Ev_goto 2 dX7_tally_75 (by decide) ?_
        refine Ev_weak ?_ h
        exact And.intro rfl (And.intro rfl (And.intro rfl (And.intro trivial (trivial))))
set_option maxHeartbeats 4000000 in
set_option maxRecDepth 100000 in
theorem X7_threadOf_ok {d : Nat} {x0 : Int32} {x1 : Int32} {μ μ' : Mem} {x : Int32} (h : (x = ((x0.toUInt32 >>> ((4 * x1 : Int32).toUInt32 &&& Int32.toUInt32 31)).toInt32) &&& 15 ∧ μ' = μ)) : X7_threadOf d x0 x1 μ x μ' := by
  refine Me_of [some (vi x0), some (vi x1)] rfl (Nat.le_of_ble_eq_true rfl) (by decide) ?_
  refine Ev_iload_n dX7_threadOf_0 rfl ?_
  refine Ev_iconst 4 dX7_threadOf_1 (by decide) ?_
  refine Ev_iload_n dX7_threadOf_2 rfl ?_
  refine Ev_imul dX7_threadOf_3 ?_
  refine Ev_iushr dX7_threadOf_4 ?_
  refine Ev_bipush 15 dX7_threadOf_5 (by decide) ?_
  refine Ev_iand dX7_threadOf_7 ?_
  obtain ⟨rfl, rfl⟩ := h
  exact R_i rfl dX7_threadOf_8 rfl
set_option maxHeartbeats 4000000 in
set_option maxRecDepth 100000 in
theorem X7_weave_ok {d : Nat} {x1 : Int32} {x2 : Int32} {x3 : Int32} {x4 : Int32} {x5 : Int32} {μ μ' : Mem} (h : (∀ μ1 : Mem, μ1 = sI μ 9 4 0 → (∀ μ2 : Mem, μ2 = sI μ1 9 5 0 → X7_weave_at16 d x1 x2 x3 x4 x5 0 0 μ2 μ'))) : X7_weave (d + 1) x1 x2 x3 x4 x5 μ μ' := by
  refine Me_of [some (vr 7 0 9), some (vi x1), some (vi x2), some (vi x3), some (vi x4), some (vi x5), none, none, none, none, none] rfl (Nat.le_of_ble_eq_true rfl) (by decide) ?_
  refine Ev_aload_n dX7_weave_0 rfl ?_
  refine Ev_iconst 0 dX7_weave_1 (by decide) ?_
  refine Ev_putI .int flX7_21 fpX7_4 rfl rfl rfl dX7_weave_2 ?_
  have h := h _ rfl
  refine Ev_aload_n dX7_weave_5 rfl ?_
  refine Ev_iconst 0 dX7_weave_6 (by decide) ?_
  refine Ev_putI .boolean flX7_25 fpX7_5 rfl rfl rfl dX7_weave_7 ?_
  have h := h _ rfl
  refine Ev_iconst 0 dX7_weave_10 (by decide) ?_
  refine Ev_istore dX7_weave_11 (Nat.le_of_ble_eq_true rfl) (okp_of rfl) ?_
  refine Ev_iconst 0 dX7_weave_13 (by decide) ?_
  refine Ev_istore dX7_weave_14 (Nat.le_of_ble_eq_true rfl) (okp_of rfl) ?_
  exact h
set_option maxHeartbeats 4000000 in
set_option maxRecDepth 100000 in
theorem X7_weave_at16_ok {d : Nat} {x1 : Int32} {x2 : Int32} {x3 : Int32} {x4 : Int32} {x5 : Int32} {x6 : Int32} {x7 : Int32} {μ μ' : Mem} (h : ((x4 ≤ x7 → μ' = μ) ∧ (¬ x4 ≤ x7 → (∃ (y3 : Int32) (μ1 : Mem), X7_rowAt d x1 (x2 + x7) μ y3 μ1 ∧ X7_weave_at37 d x1 x2 x3 x4 x5 x6 x7 y3 0 μ1 μ')))) : X7_weave_at16 d x1 x2 x3 x4 x5 x6 x7 μ μ' := by
  refine Ev_iload dX7_weave_16 rfl ?_
  refine Ev_iload dX7_weave_18 rfl ?_
  refine Ev_icmp_ge 141 dX7_weave_20 (by decide) (fun q => ?_) (fun q => ?_)
  · have h := h.1 q
    subst h
    exact R_v rfl dX7_weave_141
  · have h := h.2 q
    refine Ev_aload_n dX7_weave_23 rfl ?_
    refine Ev_iload_n dX7_weave_24 rfl ?_
    refine Ev_iload_n dX7_weave_25 rfl ?_
    refine Ev_iload dX7_weave_26 rfl ?_
    refine Ev_iadd dX7_weave_28 ?_
    obtain ⟨y3, μ1, hM2, h⟩ := h
    refine Ev_callV [_, _] mlX7_68 rfl rfl (Nat.le_of_ble_eq_true rfl) dX7_weave_29 hM2 ?_
    refine Ev_istore dX7_weave_32 (Nat.le_of_ble_eq_true rfl) (okp_of rfl) ?_
    refine Ev_iconst 0 dX7_weave_34 (by decide) ?_
    refine Ev_istore dX7_weave_35 (Nat.le_of_ble_eq_true rfl) (okp_of rfl) ?_
    exact h
set_option maxHeartbeats 4000000 in
set_option maxRecDepth 100000 in
theorem X7_weave_at37_ok {d : Nat} {x1 : Int32} {x2 : Int32} {x3 : Int32} {x4 : Int32} {x5 : Int32} {x6 : Int32} {x7 : Int32} {x8 : Int32} {x9 : Int32} {μ μ' : Mem} (h : ((x3 ≤ x9 → X7_weave_at16 d x1 x2 x3 x4 x5 x6 (x7 + 1) μ μ') ∧ (¬ x3 ≤ x9 → ((48 ≤ x6 → X7_weave_at16 d x1 x2 x3 x4 x5 x6 (x7 + 1) μ μ') ∧ (¬ 48 ≤ x6 → (∃ (y3 : Int32) (μ1 : Mem), X7_threadOf d x8 x9 μ y3 μ1 ∧ (((μ1.1 9 5) ≠ 0 → (∀ μ4 : Mem, μ4 = sI μ1 9 5 1 → (((μ4.1 9 5) = 0 → vp_in x6 48 ∧ (∀ μ5 : Mem, μ5 = sI μ4 12 x6.toNatClampNeg y3 → vp_in x6 48 ∧ (∀ μ6 : Mem, μ6 = sI μ5 9 4 ((μ5.1 9 4) + (μ5.1 12 x6.toNatClampNeg)) → X7_weave_at37 d x1 x2 x3 x4 x5 (x6 + 1) x7 x8 (x9 + 1) μ6 μ'))) ∧ (¬ (μ4.1 9 5) = 0 → vp_in x6 48 ∧ (∀ μ7 : Mem, μ7 = sI μ4 12 x6.toNatClampNeg 0 → vp_in x6 48 ∧ (∀ μ8 : Mem, μ8 = sI μ7 9 4 ((μ7.1 9 4) + (μ7.1 12 x6.toNatClampNeg)) → X7_weave_at37 d x1 x2 x3 x4 x5 (x6 + 1) x7 x8 (x9 + 1) μ8 μ')))))) ∧ ((μ1.1 9 5) = 0 → ((y3 ≤ (x5 - (μ1.1 9 4)) → (∀ μ9 : Mem, μ9 = sI μ1 9 5 0 → (((μ9.1 9 5) = 0 → vp_in x6 48 ∧ (∀ μ10 : Mem, μ10 = sI μ9 12 x6.toNatClampNeg y3 → vp_in x6 48 ∧ (∀ μ11 : Mem, μ11 = sI μ10 9 4 ((μ10.1 9 4) + (μ10.1 12 x6.toNatClampNeg)) → X7_weave_at37 d x1 x2 x3 x4 x5 (x6 + 1) x7 x8 (x9 + 1) μ11 μ'))) ∧ (¬ (μ9.1 9 5) = 0 → vp_in x6 48 ∧ (∀ μ12 : Mem, μ12 = sI μ9 12 x6.toNatClampNeg 0 → vp_in x6 48 ∧ (∀ μ13 : Mem, μ13 = sI μ12 9 4 ((μ12.1 9 4) + (μ12.1 12 x6.toNatClampNeg)) → X7_weave_at37 d x1 x2 x3 x4 x5 (x6 + 1) x7 x8 (x9 + 1) μ13 μ')))))) ∧ (¬ y3 ≤ (x5 - (μ1.1 9 4)) → (∀ μ14 : Mem, μ14 = sI μ1 9 5 1 → (((μ14.1 9 5) = 0 → vp_in x6 48 ∧ (∀ μ15 : Mem, μ15 = sI μ14 12 x6.toNatClampNeg y3 → vp_in x6 48 ∧ (∀ μ16 : Mem, μ16 = sI μ15 9 4 ((μ15.1 9 4) + (μ15.1 12 x6.toNatClampNeg)) → X7_weave_at37 d x1 x2 x3 x4 x5 (x6 + 1) x7 x8 (x9 + 1) μ16 μ'))) ∧ (¬ (μ14.1 9 5) = 0 → vp_in x6 48 ∧ (∀ μ17 : Mem, μ17 = sI μ14 12 x6.toNatClampNeg 0 → vp_in x6 48 ∧ (∀ μ18 : Mem, μ18 = sI μ17 9 4 ((μ17.1 9 4) + (μ17.1 12 x6.toNatClampNeg)) → X7_weave_at37 d x1 x2 x3 x4 x5 (x6 + 1) x7 x8 (x9 + 1) μ18 μ'))))))))))))))) : X7_weave_at37 d x1 x2 x3 x4 x5 x6 x7 x8 x9 μ μ' := by
  refine Ev_iload dX7_weave_37 rfl ?_
  refine Ev_iload_n dX7_weave_39 rfl ?_
  refine Ev_icmp_ge 135 dX7_weave_40 (by decide) (fun q => ?_) (fun q => ?_)
  · have h := h.1 q
    refine Ev_iinc (x7 + 1) dX7_weave_135 rfl rfl (okp_of rfl) ?_
    refine Ev_goto 16 dX7_weave_138 (by decide) ?_
    refine Ev_weak ?_ h
    exact And.intro rfl (And.intro rfl (And.intro rfl (And.intro rfl (And.intro rfl (And.intro rfl (And.intro rfl (And.intro rfl (And.intro trivial (And.intro trivial (And.intro trivial (trivial)))))))))))
  · have h := h.2 q
    refine Ev_iload dX7_weave_43 rfl ?_
    refine Ev_aload_n dX7_weave_45 rfl ?_
    refine Ev_getF 11 48 3 flX7_18 rfl dX7_weave_46 ?_
    refine Ev_alen (48) (by decide) (by decide) (by decide) dX7_weave_49 ?_
    refine Ev_icmp_ge 135 dX7_weave_50 (by decide) (fun q => ?_) (fun q => ?_)
    · have h := h.1 q
      refine Ev_iinc (x7 + 1) dX7_weave_135 rfl rfl (okp_of rfl) ?_
      refine Ev_goto 16 dX7_weave_138 (by decide) ?_
      refine Ev_weak ?_ h
      exact And.intro rfl (And.intro rfl (And.intro rfl (And.intro rfl (And.intro rfl (And.intro rfl (And.intro rfl (And.intro rfl (And.intro trivial (And.intro trivial (And.intro trivial (trivial)))))))))))
    · have h := h.2 q
      refine Ev_iload dX7_weave_53 rfl ?_
      refine Ev_iload dX7_weave_55 rfl ?_
      obtain ⟨y3, μ1, hM2, h⟩ := h
      refine Ev_callS [_, _] mlX7_65 rfl rfl (Nat.le_of_ble_eq_true rfl) dX7_weave_57 hM2 ?_
      refine Ev_istore dX7_weave_60 (Nat.le_of_ble_eq_true rfl) (okp_of rfl) ?_
      refine Ev_aload_n dX7_weave_62 rfl ?_
      refine Ev_aload_n dX7_weave_63 rfl ?_
      refine Ev_getI flX7_25 rfl dX7_weave_64 ?_
      refine Ev_if_ne 82 dX7_weave_67 (by decide) (fun q => ?_) (fun q => ?_)
      · have h := h.1 q
        refine Ev_iconst 1 dX7_weave_82 (by decide) ?_
        refine Ev_goto 87 dX7_weave_83 (by decide) ?_
        refine Ev_putI .boolean flX7_25 fpX7_5 rfl rfl rfl dX7_weave_87 ?_
        have h := h _ rfl
        refine Ev_aload_n dX7_weave_90 rfl ?_
        refine Ev_getF 11 48 3 flX7_18 rfl dX7_weave_91 ?_
        refine Ev_iload dX7_weave_94 rfl ?_
        refine Ev_aload_n dX7_weave_96 rfl ?_
        refine Ev_getI flX7_25 rfl dX7_weave_97 ?_
        refine Ev_if_eq 107 dX7_weave_100 (by decide) (fun q => ?_) (fun q => ?_)
        · have h := h.1 q
          refine Ev_iload dX7_weave_107 rfl ?_
          obtain ⟨g, h⟩ := h
          refine Ev_iast g dX7_weave_109 ?_
          have h := h _ rfl
          refine Ev_aload_n dX7_weave_110 rfl ?_
          refine Ev_dup dX7_weave_111 (fun _ z => by cases z) ?_
          refine Ev_getI flX7_21 rfl dX7_weave_112 ?_
          refine Ev_aload_n dX7_weave_115 rfl ?_
          refine Ev_getF 11 48 3 flX7_18 rfl dX7_weave_116 ?_
          refine Ev_iload dX7_weave_119 rfl ?_
          obtain ⟨g, h⟩ := h
          refine Ev_iald g dX7_weave_121 ?_
          refine Ev_iadd dX7_weave_122 ?_
          refine Ev_putI .int flX7_21 fpX7_4 rfl rfl rfl dX7_weave_123 ?_
          have h := h _ rfl
          refine Ev_iinc (x6 + 1) dX7_weave_126 rfl rfl (okp_of rfl) ?_
          refine Ev_iinc (x9 + 1) dX7_weave_129 rfl rfl (okp_of rfl) ?_
          refine Ev_goto 37 dX7_weave_132 (by decide) ?_
          refine Ev_weak ?_ h
          exact And.intro rfl (And.intro rfl (And.intro rfl (And.intro rfl (And.intro rfl (And.intro rfl (And.intro rfl (And.intro rfl (And.intro rfl (And.intro rfl (And.intro trivial (trivial)))))))))))
        · have h := h.2 q
          refine Ev_iconst 0 dX7_weave_103 (by decide) ?_
          refine Ev_goto 109 dX7_weave_104 (by decide) ?_
          obtain ⟨g, h⟩ := h
          refine Ev_iast g dX7_weave_109 ?_
          have h := h _ rfl
          refine Ev_aload_n dX7_weave_110 rfl ?_
          refine Ev_dup dX7_weave_111 (fun _ z => by cases z) ?_
          refine Ev_getI flX7_21 rfl dX7_weave_112 ?_
          refine Ev_aload_n dX7_weave_115 rfl ?_
          refine Ev_getF 11 48 3 flX7_18 rfl dX7_weave_116 ?_
          refine Ev_iload dX7_weave_119 rfl ?_
          obtain ⟨g, h⟩ := h
          refine Ev_iald g dX7_weave_121 ?_
          refine Ev_iadd dX7_weave_122 ?_
          refine Ev_putI .int flX7_21 fpX7_4 rfl rfl rfl dX7_weave_123 ?_
          have h := h _ rfl
          refine Ev_iinc (x6 + 1) dX7_weave_126 rfl rfl (okp_of rfl) ?_
          refine Ev_iinc (x9 + 1) dX7_weave_129 rfl rfl (okp_of rfl) ?_
          refine Ev_goto 37 dX7_weave_132 (by decide) ?_
          refine Ev_weak ?_ h
          exact And.intro rfl (And.intro rfl (And.intro rfl (And.intro rfl (And.intro rfl (And.intro rfl (And.intro rfl (And.intro rfl (And.intro rfl (And.intro rfl (And.intro trivial (trivial)))))))))))
      · have h := h.2 q
        refine Ev_iload dX7_weave_70 rfl ?_
        refine Ev_iload dX7_weave_72 rfl ?_
        refine Ev_aload_n dX7_weave_74 rfl ?_
        refine Ev_getI flX7_21 rfl dX7_weave_75 ?_
        refine Ev_isub dX7_weave_78 ?_
        refine Ev_icmp_le 86 dX7_weave_79 (by decide) (fun q => ?_) (fun q => ?_)
        · have h := h.1 q
          refine Ev_iconst 0 dX7_weave_86 (by decide) ?_
          refine Ev_putI .boolean flX7_25 fpX7_5 rfl rfl rfl dX7_weave_87 ?_
          have h := h _ rfl
          refine Ev_aload_n dX7_weave_90 rfl ?_
          refine Ev_getF 11 48 3 flX7_18 rfl dX7_weave_91 ?_
          refine Ev_iload dX7_weave_94 rfl ?_
          refine Ev_aload_n dX7_weave_96 rfl ?_
          refine Ev_getI flX7_25 rfl dX7_weave_97 ?_
          refine Ev_if_eq 107 dX7_weave_100 (by decide) (fun q => ?_) (fun q => ?_)
          · have h := h.1 q
            refine Ev_iload dX7_weave_107 rfl ?_
            obtain ⟨g, h⟩ := h
            refine Ev_iast g dX7_weave_109 ?_
            have h := h _ rfl
            refine Ev_aload_n dX7_weave_110 rfl ?_
            refine Ev_dup dX7_weave_111 (fun _ z => by cases z) ?_
            refine Ev_getI flX7_21 rfl dX7_weave_112 ?_
            refine Ev_aload_n dX7_weave_115 rfl ?_
            refine Ev_getF 11 48 3 flX7_18 rfl dX7_weave_116 ?_
            refine Ev_iload dX7_weave_119 rfl ?_
            obtain ⟨g, h⟩ := h
            refine Ev_iald g dX7_weave_121 ?_
            refine Ev_iadd dX7_weave_122 ?_
            refine Ev_putI .int flX7_21 fpX7_4 rfl rfl rfl dX7_weave_123 ?_
            have h := h _ rfl
            refine Ev_iinc (x6 + 1) dX7_weave_126 rfl rfl (okp_of rfl) ?_
            refine Ev_iinc (x9 + 1) dX7_weave_129 rfl rfl (okp_of rfl) ?_
            refine Ev_goto 37 dX7_weave_132 (by decide) ?_
            refine Ev_weak ?_ h
            exact And.intro rfl (And.intro rfl (And.intro rfl (And.intro rfl (And.intro rfl (And.intro rfl (And.intro rfl (And.intro rfl (And.intro rfl (And.intro rfl (And.intro trivial (trivial)))))))))))
          · have h := h.2 q
            refine Ev_iconst 0 dX7_weave_103 (by decide) ?_
            refine Ev_goto 109 dX7_weave_104 (by decide) ?_
            obtain ⟨g, h⟩ := h
            refine Ev_iast g dX7_weave_109 ?_
            have h := h _ rfl
            refine Ev_aload_n dX7_weave_110 rfl ?_
            refine Ev_dup dX7_weave_111 (fun _ z => by cases z) ?_
            refine Ev_getI flX7_21 rfl dX7_weave_112 ?_
            refine Ev_aload_n dX7_weave_115 rfl ?_
            refine Ev_getF 11 48 3 flX7_18 rfl dX7_weave_116 ?_
            refine Ev_iload dX7_weave_119 rfl ?_
            obtain ⟨g, h⟩ := h
            refine Ev_iald g dX7_weave_121 ?_
            refine Ev_iadd dX7_weave_122 ?_
            refine Ev_putI .int flX7_21 fpX7_4 rfl rfl rfl dX7_weave_123 ?_
            have h := h _ rfl
            refine Ev_iinc (x6 + 1) dX7_weave_126 rfl rfl (okp_of rfl) ?_
            refine Ev_iinc (x9 + 1) dX7_weave_129 rfl rfl (okp_of rfl) ?_
            refine Ev_goto 37 dX7_weave_132 (by decide) ?_
            refine Ev_weak ?_ h
            exact And.intro rfl (And.intro rfl (And.intro rfl (And.intro rfl (And.intro rfl (And.intro rfl (And.intro rfl (And.intro rfl (And.intro rfl (And.intro rfl (And.intro trivial (trivial)))))))))))
        · have h := h.2 q
          refine Ev_iconst 1 dX7_weave_82 (by decide) ?_
          refine Ev_goto 87 dX7_weave_83 (by decide) ?_
          refine Ev_putI .boolean flX7_25 fpX7_5 rfl rfl rfl dX7_weave_87 ?_
          have h := h _ rfl
          refine Ev_aload_n dX7_weave_90 rfl ?_
          refine Ev_getF 11 48 3 flX7_18 rfl dX7_weave_91 ?_
          refine Ev_iload dX7_weave_94 rfl ?_
          refine Ev_aload_n dX7_weave_96 rfl ?_
          refine Ev_getI flX7_25 rfl dX7_weave_97 ?_
          refine Ev_if_eq 107 dX7_weave_100 (by decide) (fun q => ?_) (fun q => ?_)
          · have h := h.1 q
            refine Ev_iload dX7_weave_107 rfl ?_
            obtain ⟨g, h⟩ := h
            refine Ev_iast g dX7_weave_109 ?_
            have h := h _ rfl
            refine Ev_aload_n dX7_weave_110 rfl ?_
            refine Ev_dup dX7_weave_111 (fun _ z => by cases z) ?_
            refine Ev_getI flX7_21 rfl dX7_weave_112 ?_
            refine Ev_aload_n dX7_weave_115 rfl ?_
            refine Ev_getF 11 48 3 flX7_18 rfl dX7_weave_116 ?_
            refine Ev_iload dX7_weave_119 rfl ?_
            obtain ⟨g, h⟩ := h
            refine Ev_iald g dX7_weave_121 ?_
            refine Ev_iadd dX7_weave_122 ?_
            refine Ev_putI .int flX7_21 fpX7_4 rfl rfl rfl dX7_weave_123 ?_
            have h := h _ rfl
            refine Ev_iinc (x6 + 1) dX7_weave_126 rfl rfl (okp_of rfl) ?_
            refine Ev_iinc (x9 + 1) dX7_weave_129 rfl rfl (okp_of rfl) ?_
            refine Ev_goto 37 dX7_weave_132 (by decide) ?_
            refine Ev_weak ?_ h
            exact And.intro rfl (And.intro rfl (And.intro rfl (And.intro rfl (And.intro rfl (And.intro rfl (And.intro rfl (And.intro rfl (And.intro rfl (And.intro rfl (And.intro trivial (trivial)))))))))))
          · have h := h.2 q
            refine Ev_iconst 0 dX7_weave_103 (by decide) ?_
            refine Ev_goto 109 dX7_weave_104 (by decide) ?_
            obtain ⟨g, h⟩ := h
            refine Ev_iast g dX7_weave_109 ?_
            have h := h _ rfl
            refine Ev_aload_n dX7_weave_110 rfl ?_
            refine Ev_dup dX7_weave_111 (fun _ z => by cases z) ?_
            refine Ev_getI flX7_21 rfl dX7_weave_112 ?_
            refine Ev_aload_n dX7_weave_115 rfl ?_
            refine Ev_getF 11 48 3 flX7_18 rfl dX7_weave_116 ?_
            refine Ev_iload dX7_weave_119 rfl ?_
            obtain ⟨g, h⟩ := h
            refine Ev_iald g dX7_weave_121 ?_
            refine Ev_iadd dX7_weave_122 ?_
            refine Ev_putI .int flX7_21 fpX7_4 rfl rfl rfl dX7_weave_123 ?_
            have h := h _ rfl
            refine Ev_iinc (x6 + 1) dX7_weave_126 rfl rfl (okp_of rfl) ?_
            refine Ev_iinc (x9 + 1) dX7_weave_129 rfl rfl (okp_of rfl) ?_
            refine Ev_goto 37 dX7_weave_132 (by decide) ?_
            refine Ev_weak ?_ h
            exact And.intro rfl (And.intro rfl (And.intro rfl (And.intro rfl (And.intro rfl (And.intro rfl (And.intro rfl (And.intro rfl (And.intro rfl (And.intro rfl (And.intro trivial (trivial)))))))))))
set_option maxHeartbeats 4000000 in
set_option maxRecDepth 100000 in
theorem X7_wetter_ok {d : Nat} {x0 : Int32} {x1 : Int32} {μ μ' : Mem} {x : Int32} (h : (x = mn 999 (x0 + x1) ∧ μ' = μ)) : X7_wetter d x0 x1 μ x μ' := by
  refine Me_of [some (vi x0), some (vi x1)] rfl (Nat.le_of_ble_eq_true rfl) (by decide) ?_
  refine Ev_sipush 999 dX7_wetter_0 (by decide) ?_
  refine Ev_iload_n dX7_wetter_3 rfl ?_
  refine Ev_iload_n dX7_wetter_4 rfl ?_
  refine Ev_iadd dX7_wetter_5 ?_
  refine Ev_mmin (ts4 150 rfl rfl) (ts3 47 rfl rfl) (ts1 17 rfl rfl) (ts3 48 rfl rfl) (Nat.le_of_ble_eq_true rfl) dX7_wetter_6 ?_
  obtain ⟨rfl, rfl⟩ := h
  exact R_i rfl dX7_wetter_9 rfl
set_option maxHeartbeats 4000000 in
set_option maxRecDepth 100000 in
theorem X7_within_ok {d : Nat} {x0 : Int32} {x1 : Int32} {μ μ' : Mem} {x : Int32} (h : ((0 ≤ x0 → ((x0 ≤ x1 → (x = x0 ∧ μ' = μ)) ∧ (¬ x0 ≤ x1 → (x = x1 ∧ μ' = μ)))) ∧ (¬ 0 ≤ x0 → (x = 0 ∧ μ' = μ)))) : X7_within d x0 x1 μ x μ' := by
  refine Me_of [some (vi x0), some (vi x1)] rfl (Nat.le_of_ble_eq_true rfl) (by decide) ?_
  refine Ev_iload_n dX7_within_0 rfl ?_
  refine Ev_if_ge 8 dX7_within_1 (by decide) (fun q => ?_) (fun q => ?_)
  · have h := h.1 q
    refine Ev_iload_n dX7_within_8 rfl ?_
    refine Ev_iload_n dX7_within_9 rfl ?_
    refine Ev_icmp_le 17 dX7_within_10 (by decide) (fun q => ?_) (fun q => ?_)
    · have h := h.1 q
      refine Ev_iload_n dX7_within_17 rfl ?_
      obtain ⟨rfl, rfl⟩ := h
      exact R_i rfl dX7_within_18 rfl
    · have h := h.2 q
      refine Ev_iload_n dX7_within_13 rfl ?_
      refine Ev_goto 18 dX7_within_14 (by decide) ?_
      obtain ⟨rfl, rfl⟩ := h
      exact R_i rfl dX7_within_18 rfl
  · have h := h.2 q
    refine Ev_iconst 0 dX7_within_4 (by decide) ?_
    refine Ev_goto 18 dX7_within_5 (by decide) ?_
    obtain ⟨rfl, rfl⟩ := h
    exact R_i rfl dX7_within_18 rfl
set_option maxHeartbeats 4000000 in
set_option maxRecDepth 100000 in
theorem X8_add_ok {d : Nat} {x1 : Int32} {x2 : Int32} {x3 : Int32} {μ μ' : Mem} {x : Int32} (h : (((μ.1 192 3) < 20 → vp_in (μ.1 192 3) 20 ∧ (∀ μ1 : Mem, μ1 = sI μ 193 ((μ.1 192 3).toNatClampNeg) x1 → vp_in (μ1.1 192 3) 20 ∧ (∀ μ2 : Mem, μ2 = sI μ1 194 ((μ1.1 192 3).toNatClampNeg) x2 → vp_in (μ2.1 192 3) 20 ∧ (∀ μ3 : Mem, μ3 = sI μ2 195 ((μ2.1 192 3).toNatClampNeg) x3 → (∀ μ4 : Mem, μ4 = sI μ3 192 3 ((μ3.1 192 3) + 1) → (x = (μ4.1 192 3) - 1 ∧ μ' = μ4)))))) ∧ (¬ (μ.1 192 3) < 20 → (x = (-1) ∧ μ' = μ)))) : X8_add d x1 x2 x3 μ x μ' := by
  refine Me_of [some (vr 8 0 192), some (vi x1), some (vi x2), some (vi x3)] rfl (Nat.le_of_ble_eq_true rfl) (by decide) ?_
  refine Ev_aload_n dX8_add_0 rfl ?_
  refine Ev_getI flX8_21 rfl dX8_add_1 ?_
  refine Ev_bipush 20 dX8_add_4 (by decide) ?_
  refine Ev_icmp_lt 11 dX8_add_6 (by decide) (fun q => ?_) (fun q => ?_)
  · have h := h.1 q
    refine Ev_aload_n dX8_add_11 rfl ?_
    refine Ev_getF 11 20 1 flX8_11 rfl dX8_add_12 ?_
    refine Ev_aload_n dX8_add_15 rfl ?_
    refine Ev_getI flX8_21 rfl dX8_add_16 ?_
    refine Ev_iload_n dX8_add_19 rfl ?_
    obtain ⟨g, h⟩ := h
    refine Ev_iast g dX8_add_20 ?_
    have h := h _ rfl
    refine Ev_aload_n dX8_add_21 rfl ?_
    refine Ev_getF 11 20 2 flX8_15 rfl dX8_add_22 ?_
    refine Ev_aload_n dX8_add_25 rfl ?_
    refine Ev_getI flX8_21 rfl dX8_add_26 ?_
    refine Ev_iload_n dX8_add_29 rfl ?_
    obtain ⟨g, h⟩ := h
    refine Ev_iast g dX8_add_30 ?_
    have h := h _ rfl
    refine Ev_aload_n dX8_add_31 rfl ?_
    refine Ev_getF 11 20 3 flX8_18 rfl dX8_add_32 ?_
    refine Ev_aload_n dX8_add_35 rfl ?_
    refine Ev_getI flX8_21 rfl dX8_add_36 ?_
    refine Ev_iload_n dX8_add_39 rfl ?_
    obtain ⟨g, h⟩ := h
    refine Ev_iast g dX8_add_40 ?_
    have h := h _ rfl
    refine Ev_aload_n dX8_add_41 rfl ?_
    refine Ev_dup dX8_add_42 (fun _ z => by cases z) ?_
    refine Ev_getI flX8_21 rfl dX8_add_43 ?_
    refine Ev_iconst 1 dX8_add_46 (by decide) ?_
    refine Ev_iadd dX8_add_47 ?_
    refine Ev_putI .int flX8_21 fpX8_3 rfl rfl rfl dX8_add_48 ?_
    have h := h _ rfl
    refine Ev_aload_n dX8_add_51 rfl ?_
    refine Ev_getI flX8_21 rfl dX8_add_52 ?_
    refine Ev_iconst 1 dX8_add_55 (by decide) ?_
    refine Ev_isub dX8_add_56 ?_
    obtain ⟨rfl, rfl⟩ := h
    exact R_i rfl dX8_add_57 rfl
  · have h := h.2 q
    refine Ev_iconst (-1) dX8_add_9 (by decide) ?_
    obtain ⟨rfl, rfl⟩ := h
    exact R_i rfl dX8_add_10 rfl
set_option maxHeartbeats 4000000 in
set_option maxRecDepth 100000 in
theorem X8_addWays_ok {d : Nat} {x1 : Int32} {x2 : Int32} {x3 : Int32} {x4 : Int32} {μ μ' : Mem} (h : X8_addWays_at3 d x1 x2 x3 x4 0 μ μ') : X8_addWays (d + 1) x1 x2 x3 x4 μ μ' := by
  refine Me_of [some (vr 8 0 192), some (vi x1), some (vi x2), some (vi x3), some (vi x4), none, none, none] rfl (Nat.le_of_ble_eq_true rfl) (by decide) ?_
  refine Ev_iconst 0 dX8_addWays_0 (by decide) ?_
  refine Ev_istore dX8_addWays_1 (Nat.le_of_ble_eq_true rfl) (okp_of rfl) ?_
  exact h
set_option maxHeartbeats 4000000 in
set_option maxRecDepth 100000 in
theorem X8_addWays_at3_ok {d : Nat} {x1 : Int32} {x2 : Int32} {x3 : Int32} {x4 : Int32} {x5 : Int32} {μ μ' : Mem} (h : ((x4 < (x5 + (μ.1 192 5)) → μ' = μ) ∧ (¬ x4 < (x5 + (μ.1 192 5)) → X8_addWays_at18 d x1 x2 x3 x4 x5 0 μ μ'))) : X8_addWays_at3 d x1 x2 x3 x4 x5 μ μ' := by
  refine Ev_iload dX8_addWays_3 rfl ?_
  refine Ev_aload_n dX8_addWays_5 rfl ?_
  refine Ev_getI flX8_28 rfl dX8_addWays_6 ?_
  refine Ev_iadd dX8_addWays_9 ?_
  refine Ev_iload dX8_addWays_10 rfl ?_
  refine Ev_icmp_gt 99 dX8_addWays_12 (by decide) (fun q => ?_) (fun q => ?_)
  · have h := h.1 q
    subst h
    exact R_v rfl dX8_addWays_99
  · have h := h.2 q
    refine Ev_iconst 0 dX8_addWays_15 (by decide) ?_
    refine Ev_istore dX8_addWays_16 (Nat.le_of_ble_eq_true rfl) (okp_of rfl) ?_
    exact h
set_option maxHeartbeats 4000000 in
set_option maxRecDepth 100000 in
theorem X8_addWays_at18_ok {d : Nat} {x1 : Int32} {x2 : Int32} {x3 : Int32} {x4 : Int32} {x5 : Int32} {x6 : Int32} {μ μ' : Mem} (h : ((x3 < (x6 + (μ.1 192 4)) → X8_addWays_at3 d x1 x2 x3 x4 (x5 + 1) μ μ') ∧ (¬ x3 < (x6 + (μ.1 192 4)) → (∃ (y3 : Int32) (μ1 : Mem), X8_agreesWithKnown d (((100 * x1) + (10 * x5)) + x6) x2 μ y3 μ1 ∧ ((y3 = 0 → X8_addWays_at18 d x1 x2 x3 x4 x5 (x6 + 1) μ1 μ') ∧ (¬ y3 = 0 → ((192 ≤ (μ1.1 192 8) → X8_addWays_at18 d x1 x2 x3 x4 x5 (x6 + 1) μ1 μ') ∧ (¬ 192 ≤ (μ1.1 192 8) → vp_in (μ1.1 192 8) 192 ∧ (∀ μ4 : Mem, μ4 = sI μ1 201 ((μ1.1 192 8).toNatClampNeg) (((100 * x1) + (10 * x5)) + x6) → (∀ μ5 : Mem, μ5 = sI μ4 192 8 ((μ4.1 192 8) + 1) → X8_addWays_at18 d x1 x2 x3 x4 x5 (x6 + 1) μ5 μ')))))))))) : X8_addWays_at18 d x1 x2 x3 x4 x5 x6 μ μ' := by
  refine Ev_iload dX8_addWays_18 rfl ?_
  refine Ev_aload_n dX8_addWays_20 rfl ?_
  refine Ev_getI flX8_25 rfl dX8_addWays_21 ?_
  refine Ev_iadd dX8_addWays_24 ?_
  refine Ev_iload_n dX8_addWays_25 rfl ?_
  refine Ev_icmp_gt 93 dX8_addWays_26 (by decide) (fun q => ?_) (fun q => ?_)
  · have h := h.1 q
    refine Ev_iinc (x5 + 1) dX8_addWays_93 rfl rfl (okp_of rfl) ?_
    refine Ev_goto 3 dX8_addWays_96 (by decide) ?_
    refine Ev_weak ?_ h
    exact And.intro rfl (And.intro rfl (And.intro rfl (And.intro rfl (And.intro rfl (And.intro rfl (And.intro trivial (And.intro trivial (trivial))))))))
  · have h := h.2 q
    refine Ev_bipush 100 dX8_addWays_29 (by decide) ?_
    refine Ev_iload_n dX8_addWays_31 rfl ?_
    refine Ev_imul dX8_addWays_32 ?_
    refine Ev_bipush 10 dX8_addWays_33 (by decide) ?_
    refine Ev_iload dX8_addWays_35 rfl ?_
    refine Ev_imul dX8_addWays_37 ?_
    refine Ev_iadd dX8_addWays_38 ?_
    refine Ev_iload dX8_addWays_39 rfl ?_
    refine Ev_iadd dX8_addWays_41 ?_
    refine Ev_istore dX8_addWays_42 (Nat.le_of_ble_eq_true rfl) (okp_of rfl) ?_
    refine Ev_aload_n dX8_addWays_44 rfl ?_
    refine Ev_iload dX8_addWays_45 rfl ?_
    refine Ev_iload_n dX8_addWays_47 rfl ?_
    obtain ⟨y3, μ1, hM2, h⟩ := h
    refine Ev_callV [_, _] mlX8_51 rfl rfl (Nat.le_of_ble_eq_true rfl) dX8_addWays_48 hM2 ?_
    refine Ev_if_eq 87 dX8_addWays_51 (by decide) (fun q => ?_) (fun q => ?_)
    · have h := h.1 q
      refine Ev_iinc (x6 + 1) dX8_addWays_87 rfl rfl (okp_of rfl) ?_
      refine Ev_goto 18 dX8_addWays_90 (by decide) ?_
      refine Ev_weak ?_ h
      exact And.intro rfl (And.intro rfl (And.intro rfl (And.intro rfl (And.intro rfl (And.intro rfl (And.intro rfl (And.intro trivial (trivial))))))))
    · have h := h.2 q
      refine Ev_aload_n dX8_addWays_54 rfl ?_
      refine Ev_getI flX8_39 rfl dX8_addWays_55 ?_
      refine Ev_aload_n dX8_addWays_58 rfl ?_
      refine Ev_getF 11 192 9 flX8_36 rfl dX8_addWays_59 ?_
      refine Ev_alen (192) (by decide) (by decide) (by decide) dX8_addWays_62 ?_
      refine Ev_icmp_ge 87 dX8_addWays_63 (by decide) (fun q => ?_) (fun q => ?_)
      · have h := h.1 q
        refine Ev_iinc (x6 + 1) dX8_addWays_87 rfl rfl (okp_of rfl) ?_
        refine Ev_goto 18 dX8_addWays_90 (by decide) ?_
        refine Ev_weak ?_ h
        exact And.intro rfl (And.intro rfl (And.intro rfl (And.intro rfl (And.intro rfl (And.intro rfl (And.intro rfl (And.intro trivial (trivial))))))))
      · have h := h.2 q
        refine Ev_aload_n dX8_addWays_66 rfl ?_
        refine Ev_getF 11 192 9 flX8_36 rfl dX8_addWays_67 ?_
        refine Ev_aload_n dX8_addWays_70 rfl ?_
        refine Ev_getI flX8_39 rfl dX8_addWays_71 ?_
        refine Ev_iload dX8_addWays_74 rfl ?_
        obtain ⟨g, h⟩ := h
        refine Ev_iast g dX8_addWays_76 ?_
        have h := h _ rfl
        refine Ev_aload_n dX8_addWays_77 rfl ?_
        refine Ev_dup dX8_addWays_78 (fun _ z => by cases z) ?_
        refine Ev_getI flX8_39 rfl dX8_addWays_79 ?_
        refine Ev_iconst 1 dX8_addWays_82 (by decide) ?_
        refine Ev_iadd dX8_addWays_83 ?_
        refine Ev_putI .int flX8_39 fpX8_8 rfl rfl rfl dX8_addWays_84 ?_
        have h := h _ rfl
        refine Ev_iinc (x6 + 1) dX8_addWays_87 rfl rfl (okp_of rfl) ?_
        refine Ev_goto 18 dX8_addWays_90 (by decide) ?_
        refine Ev_weak ?_ h
        exact And.intro rfl (And.intro rfl (And.intro rfl (And.intro rfl (And.intro rfl (And.intro rfl (And.intro rfl (And.intro trivial (trivial))))))))
set_option maxHeartbeats 4000000 in
set_option maxRecDepth 100000 in
theorem X8_agreesWithKnown_ok {d : Nat} {x1 : Int32} {x2 : Int32} {μ μ' : Mem} {x : Int32} (h : X8_agreesWithKnown_at2 d x1 x2 0 μ x μ') : X8_agreesWithKnown (d + 1) x1 x2 μ x μ' := by
  refine Me_of [some (vr 8 0 192), some (vi x1), some (vi x2), none] rfl (Nat.le_of_ble_eq_true rfl) (by decide) ?_
  refine Ev_iconst 0 dX8_agreesWithKnown_0 (by decide) ?_
  refine Ev_istore_n dX8_agreesWithKnown_1 (Nat.le_of_ble_eq_true rfl) (okp_of rfl) ?_
  exact h
set_option maxHeartbeats 4000000 in
set_option maxRecDepth 100000 in
theorem X8_agreesWithKnown_at2_ok {d : Nat} {x1 : Int32} {x2 : Int32} {x3 : Int32} {μ μ' : Mem} {x : Int32} (h : ((x2 ≤ x3 → (x = 1 ∧ μ' = μ)) ∧ (¬ x2 ≤ x3 → vp_in x3 20 ∧ vp_in x3 20 ∧ (∃ (y3 : Int32) (μ1 : Mem), X8_waterBy d x1 (μ.1 193 x3.toNatClampNeg) (μ.1 194 x3.toNatClampNeg) μ y3 μ1 ∧ vp_in x3 20 ∧ ((y3 = (μ1.1 195 x3.toNatClampNeg) → X8_agreesWithKnown_at2 d x1 x2 (x3 + 1) μ1 x μ') ∧ (¬ y3 = (μ1.1 195 x3.toNatClampNeg) → (x = 0 ∧ μ' = μ1))))))) : X8_agreesWithKnown_at2 d x1 x2 x3 μ x μ' := by
  refine Ev_iload_n dX8_agreesWithKnown_2 rfl ?_
  refine Ev_iload_n dX8_agreesWithKnown_3 rfl ?_
  refine Ev_icmp_ge 41 dX8_agreesWithKnown_4 (by decide) (fun q => ?_) (fun q => ?_)
  · have h := h.1 q
    refine Ev_iconst 1 dX8_agreesWithKnown_41 (by decide) ?_
    obtain ⟨rfl, rfl⟩ := h
    exact R_i rfl dX8_agreesWithKnown_42 rfl
  · have h := h.2 q
    refine Ev_aload_n dX8_agreesWithKnown_7 rfl ?_
    refine Ev_iload_n dX8_agreesWithKnown_8 rfl ?_
    refine Ev_aload_n dX8_agreesWithKnown_9 rfl ?_
    refine Ev_getF 11 20 1 flX8_11 rfl dX8_agreesWithKnown_10 ?_
    refine Ev_iload_n dX8_agreesWithKnown_13 rfl ?_
    obtain ⟨g, h⟩ := h
    refine Ev_iald g dX8_agreesWithKnown_14 ?_
    refine Ev_aload_n dX8_agreesWithKnown_15 rfl ?_
    refine Ev_getF 11 20 2 flX8_15 rfl dX8_agreesWithKnown_16 ?_
    refine Ev_iload_n dX8_agreesWithKnown_19 rfl ?_
    obtain ⟨g, h⟩ := h
    refine Ev_iald g dX8_agreesWithKnown_20 ?_
    obtain ⟨y3, μ1, hM2, h⟩ := h
    refine Ev_callV [_, _, _] mlX8_55 rfl rfl (Nat.le_of_ble_eq_true rfl) dX8_agreesWithKnown_21 hM2 ?_
    refine Ev_aload_n dX8_agreesWithKnown_24 rfl ?_
    refine Ev_getF 11 20 3 flX8_18 rfl dX8_agreesWithKnown_25 ?_
    refine Ev_iload_n dX8_agreesWithKnown_28 rfl ?_
    obtain ⟨g, h⟩ := h
    refine Ev_iald g dX8_agreesWithKnown_29 ?_
    refine Ev_icmp_eq 35 dX8_agreesWithKnown_30 (by decide) (fun q => ?_) (fun q => ?_)
    · have h := h.1 q
      refine Ev_iinc (x3 + 1) dX8_agreesWithKnown_35 rfl rfl (okp_of rfl) ?_
      refine Ev_goto 2 dX8_agreesWithKnown_38 (by decide) ?_
      exact h
    · have h := h.2 q
      refine Ev_iconst 0 dX8_agreesWithKnown_33 (by decide) ?_
      obtain ⟨rfl, rfl⟩ := h
      exact R_i rfl dX8_agreesWithKnown_34 rfl
set_option maxHeartbeats 4000000 in
set_option maxRecDepth 100000 in
theorem X8_beginWays_ok {d : Nat} {x1 : Int32} {x2 : Int32} {μ μ' : Mem} (h : (∀ μ1 : Mem, μ1 = sI μ 192 4 x1 → (∀ μ2 : Mem, μ2 = sI μ1 192 5 x2 → (∀ μ3 : Mem, μ3 = sI μ2 192 8 0 → μ' = μ3)))) : X8_beginWays d x1 x2 μ μ' := by
  refine Me_of [some (vr 8 0 192), some (vi x1), some (vi x2)] rfl (Nat.le_of_ble_eq_true rfl) (by decide) ?_
  refine Ev_aload_n dX8_beginWays_0 rfl ?_
  refine Ev_iload_n dX8_beginWays_1 rfl ?_
  refine Ev_putI .int flX8_25 fpX8_4 rfl rfl rfl dX8_beginWays_2 ?_
  have h := h _ rfl
  refine Ev_aload_n dX8_beginWays_5 rfl ?_
  refine Ev_iload_n dX8_beginWays_6 rfl ?_
  refine Ev_putI .int flX8_28 fpX8_5 rfl rfl rfl dX8_beginWays_7 ?_
  have h := h _ rfl
  refine Ev_aload_n dX8_beginWays_10 rfl ?_
  refine Ev_iconst 0 dX8_beginWays_11 (by decide) ?_
  refine Ev_putI .int flX8_39 fpX8_8 rfl rfl rfl dX8_beginWays_12 ?_
  have h := h _ rfl
  subst h
  exact R_v rfl dX8_beginWays_15
set_option maxHeartbeats 4000000 in
set_option maxRecDepth 100000 in
theorem X8_clear_ok {d : Nat}  {μ μ' : Mem} (h : (∀ μ1 : Mem, μ1 = sI μ 192 3 0 → μ' = μ1)) : X8_clear d μ μ' := by
  refine Me_of [some (vr 8 0 192)] rfl (Nat.le_of_ble_eq_true rfl) (by decide) ?_
  refine Ev_aload_n dX8_clear_0 rfl ?_
  refine Ev_iconst 0 dX8_clear_1 (by decide) ?_
  refine Ev_putI .int flX8_21 fpX8_3 rfl rfl rfl dX8_clear_2 ?_
  have h := h _ rfl
  subst h
  exact R_v rfl dX8_clear_5
set_option maxHeartbeats 4000000 in
set_option maxRecDepth 100000 in
theorem X8_keepPiece_ok {d : Nat} {x1 : Int32} {μ μ' : Mem} (h : ((x1 < 0 → μ' = μ) ∧ (¬ x1 < 0 → ((4 ≤ x1 → μ' = μ) ∧ (¬ 4 ≤ x1 → (((48 : Int32) < 48 → μ' = μ) ∧ (¬ (48 : Int32) < 48 → vp_in x1 4 ∧ (∀ μ1 : Mem, μ1 = sA μ (197 + 1 * x1.toNatClampNeg) (va_cpy (μ.1 12) (μ.1 (197 + 1 * x1.toNatClampNeg)) 0 0 48) → μ' = μ1)))))))) : X8_keepPiece d x1 μ μ' := by
  refine Me_of [some (vr 8 0 192), some (vi x1), some (vr 11 48 12)] rfl (Nat.le_of_ble_eq_true rfl) (by decide) ?_
  refine Ev_iload_n dX8_keepPiece_0 rfl ?_
  refine Ev_if_lt 30 dX8_keepPiece_1 (by decide) (fun q => ?_) (fun q => ?_)
  · have h := h.1 q
    subst h
    exact R_v rfl dX8_keepPiece_30
  · have h := h.2 q
    refine Ev_iload_n dX8_keepPiece_4 rfl ?_
    refine Ev_iconst 4 dX8_keepPiece_5 (by decide) ?_
    refine Ev_icmp_ge 30 dX8_keepPiece_6 (by decide) (fun q => ?_) (fun q => ?_)
    · have h := h.1 q
      subst h
      exact R_v rfl dX8_keepPiece_30
    · have h := h.2 q
      refine Ev_aload_n dX8_keepPiece_9 rfl ?_
      refine Ev_alen (48) (by decide) (by decide) (by decide) dX8_keepPiece_10 ?_
      refine Ev_bipush 48 dX8_keepPiece_11 (by decide) ?_
      refine Ev_icmp_lt 30 dX8_keepPiece_13 (by decide) (fun q => ?_) (fun q => ?_)
      · have h := h.1 q
        subst h
        exact R_v rfl dX8_keepPiece_30
      · have h := h.2 q
        refine Ev_aload_n dX8_keepPiece_16 rfl ?_
        refine Ev_iconst 0 dX8_keepPiece_17 (by decide) ?_
        refine Ev_aload_n dX8_keepPiece_18 rfl ?_
        refine Ev_getF 16 4 4 flX8_33 rfl dX8_keepPiece_19 ?_
        refine Ev_iload_n dX8_keepPiece_22 rfl ?_
        obtain ⟨g, h⟩ := h
        refine Ev_aald 11 48 1 (by decide) (by decide) rfl g dX8_keepPiece_23 ?_
        refine Ev_iconst 0 dX8_keepPiece_24 (by decide) ?_
        refine Ev_bipush 48 dX8_keepPiece_25 (by decide) ?_
        refine Ev_copy (t := 0) (n0 := 48) (n1 := 48) (ts5 149 rfl rfl) (ts4 121 rfl rfl) (ts4 120 rfl rfl) (ts1 19 rfl rfl) (by decide) (by decide) (by decide) (by decide) (by decide) (Nat.le_of_ble_eq_true rfl) dX8_keepPiece_27 ?_
        have h := h _ rfl
        subst h
        exact R_v rfl dX8_keepPiece_30
set_option maxHeartbeats 4000000 in
set_option maxRecDepth 100000 in
theorem X8_knows_ok {d : Nat} {x1 : Int32} {μ μ' : Mem} {x : Int32} (h : ((x1 < 0 → (x = 0 ∧ μ' = μ)) ∧ (¬ x1 < 0 → (((μ.1 192 3) < x1 → (x = 0 ∧ μ' = μ)) ∧ (¬ (μ.1 192 3) < x1 → (x = 1 ∧ μ' = μ)))))) : X8_knows d x1 μ x μ' := by
  refine Me_of [some (vr 8 0 192), some (vi x1)] rfl (Nat.le_of_ble_eq_true rfl) (by decide) ?_
  refine Ev_iload_n dX8_knows_0 rfl ?_
  refine Ev_if_lt 16 dX8_knows_1 (by decide) (fun q => ?_) (fun q => ?_)
  · have h := h.1 q
    refine Ev_iconst 0 dX8_knows_16 (by decide) ?_
    obtain ⟨rfl, rfl⟩ := h
    exact R_i rfl dX8_knows_17 rfl
  · have h := h.2 q
    refine Ev_iload_n dX8_knows_4 rfl ?_
    refine Ev_aload_n dX8_knows_5 rfl ?_
    refine Ev_getI flX8_21 rfl dX8_knows_6 ?_
    refine Ev_icmp_gt 16 dX8_knows_9 (by decide) (fun q => ?_) (fun q => ?_)
    · have h := h.1 q
      refine Ev_iconst 0 dX8_knows_16 (by decide) ?_
      obtain ⟨rfl, rfl⟩ := h
      exact R_i rfl dX8_knows_17 rfl
    · have h := h.2 q
      refine Ev_iconst 1 dX8_knows_12 (by decide) ?_
      refine Ev_goto 17 dX8_knows_13 (by decide) ?_
      obtain ⟨rfl, rfl⟩ := h
      exact R_i rfl dX8_knows_17 rfl
set_option maxHeartbeats 4000000 in
set_option maxRecDepth 100000 in
theorem X8_leftAtWorst_ok {d : Nat} {x1 : Int32} {x2 : Int32} {μ μ' : Mem} {x : Int32} (h : (∃ (μ1 : Mem), J7_fill_53178 d 10 202 0 μ μ1 ∧ X8_leftAtWorst_at13 d x1 x2 0 0 μ1 x μ')) : X8_leftAtWorst (d + 1) x1 x2 μ x μ' := by
  refine Me_of [some (vr 8 0 192), some (vi x1), some (vi x2), none, none, none] rfl (Nat.le_of_ble_eq_true rfl) (by decide) ?_
  refine Ev_aload_n dX8_leftAtWorst_0 rfl ?_
  refine Ev_getF 11 10 10 flX8_42 rfl dX8_leftAtWorst_1 ?_
  refine Ev_iconst 0 dX8_leftAtWorst_4 (by decide) ?_
  obtain ⟨μ1, hM2, h⟩ := h
  refine Ev_callS [_, _] mlX8_59 rfl rfl (Nat.le_of_ble_eq_true rfl) dX8_leftAtWorst_5 hM2 ?_
  refine Ev_iconst 0 dX8_leftAtWorst_8 (by decide) ?_
  refine Ev_istore_n dX8_leftAtWorst_9 (Nat.le_of_ble_eq_true rfl) (okp_of rfl) ?_
  refine Ev_iconst 0 dX8_leftAtWorst_10 (by decide) ?_
  refine Ev_istore dX8_leftAtWorst_11 (Nat.le_of_ble_eq_true rfl) (okp_of rfl) ?_
  exact h
set_option maxHeartbeats 4000000 in
set_option maxRecDepth 100000 in
theorem X8_leftAtWorst_at13_ok {d : Nat} {x1 : Int32} {x2 : Int32} {x3 : Int32} {x4 : Int32} {μ μ' : Mem} {x : Int32} (h : (((μ.1 192 8) ≤ x4 → (x = x3 ∧ μ' = μ)) ∧ (¬ (μ.1 192 8) ≤ x4 → vp_in x4 192 ∧ (∃ (y3 : Int32) (μ1 : Mem), X8_waterBy d (μ.1 201 x4.toNatClampNeg) x1 x2 μ y3 μ1 ∧ ((y3 < 0 → X8_leftAtWorst_at13 d x1 x2 x3 (x4 + 1) μ1 x μ') ∧ (¬ y3 < 0 → ((10 ≤ y3 → X8_leftAtWorst_at13 d x1 x2 x3 (x4 + 1) μ1 x μ') ∧ (¬ 10 ≤ y3 → vp_in y3 10 ∧ vp_in y3 10 ∧ (∀ μ4 : Mem, μ4 = sI μ1 202 y3.toNatClampNeg ((μ1.1 202 y3.toNatClampNeg) + 1) → vp_in y3 10 ∧ X8_leftAtWorst_at13 d x1 x2 (mx x3 (μ4.1 202 y3.toNatClampNeg)) (x4 + 1) μ4 x μ'))))))))) : X8_leftAtWorst_at13 d x1 x2 x3 x4 μ x μ' := by
  refine Ev_iload dX8_leftAtWorst_13 rfl ?_
  refine Ev_aload_n dX8_leftAtWorst_15 rfl ?_
  refine Ev_getI flX8_39 rfl dX8_leftAtWorst_16 ?_
  refine Ev_icmp_ge 78 dX8_leftAtWorst_19 (by decide) (fun q => ?_) (fun q => ?_)
  · have h := h.1 q
    refine Ev_iload_n dX8_leftAtWorst_78 rfl ?_
    obtain ⟨rfl, rfl⟩ := h
    exact R_i rfl dX8_leftAtWorst_79 rfl
  · have h := h.2 q
    refine Ev_aload_n dX8_leftAtWorst_22 rfl ?_
    refine Ev_aload_n dX8_leftAtWorst_23 rfl ?_
    refine Ev_getF 11 192 9 flX8_36 rfl dX8_leftAtWorst_24 ?_
    refine Ev_iload dX8_leftAtWorst_27 rfl ?_
    obtain ⟨g, h⟩ := h
    refine Ev_iald g dX8_leftAtWorst_29 ?_
    refine Ev_iload_n dX8_leftAtWorst_30 rfl ?_
    refine Ev_iload_n dX8_leftAtWorst_31 rfl ?_
    obtain ⟨y3, μ1, hM2, h⟩ := h
    refine Ev_callV [_, _, _] mlX8_55 rfl rfl (Nat.le_of_ble_eq_true rfl) dX8_leftAtWorst_32 hM2 ?_
    refine Ev_istore dX8_leftAtWorst_35 (Nat.le_of_ble_eq_true rfl) (okp_of rfl) ?_
    refine Ev_iload dX8_leftAtWorst_37 rfl ?_
    refine Ev_if_lt 72 dX8_leftAtWorst_39 (by decide) (fun q => ?_) (fun q => ?_)
    · have h := h.1 q
      refine Ev_iinc (x4 + 1) dX8_leftAtWorst_72 rfl rfl (okp_of rfl) ?_
      refine Ev_goto 13 dX8_leftAtWorst_75 (by decide) ?_
      refine Ev_weak ?_ h
      exact And.intro rfl (And.intro rfl (And.intro rfl (And.intro rfl (And.intro rfl (And.intro trivial (trivial))))))
    · have h := h.2 q
      refine Ev_iload dX8_leftAtWorst_42 rfl ?_
      refine Ev_bipush 10 dX8_leftAtWorst_44 (by decide) ?_
      refine Ev_icmp_ge 72 dX8_leftAtWorst_46 (by decide) (fun q => ?_) (fun q => ?_)
      · have h := h.1 q
        refine Ev_iinc (x4 + 1) dX8_leftAtWorst_72 rfl rfl (okp_of rfl) ?_
        refine Ev_goto 13 dX8_leftAtWorst_75 (by decide) ?_
        refine Ev_weak ?_ h
        exact And.intro rfl (And.intro rfl (And.intro rfl (And.intro rfl (And.intro rfl (And.intro trivial (trivial))))))
      · have h := h.2 q
        refine Ev_aload_n dX8_leftAtWorst_49 rfl ?_
        refine Ev_getF 11 10 10 flX8_42 rfl dX8_leftAtWorst_50 ?_
        refine Ev_iload dX8_leftAtWorst_53 rfl ?_
        refine Ev_dup2 dX8_leftAtWorst_55 ?_
        obtain ⟨g, h⟩ := h
        refine Ev_iald g dX8_leftAtWorst_56 ?_
        refine Ev_iconst 1 dX8_leftAtWorst_57 (by decide) ?_
        refine Ev_iadd dX8_leftAtWorst_58 ?_
        obtain ⟨g, h⟩ := h
        refine Ev_iast g dX8_leftAtWorst_59 ?_
        have h := h _ rfl
        refine Ev_iload_n dX8_leftAtWorst_60 rfl ?_
        refine Ev_aload_n dX8_leftAtWorst_61 rfl ?_
        refine Ev_getF 11 10 10 flX8_42 rfl dX8_leftAtWorst_62 ?_
        refine Ev_iload dX8_leftAtWorst_65 rfl ?_
        obtain ⟨g, h⟩ := h
        refine Ev_iald g dX8_leftAtWorst_67 ?_
        refine Ev_mmax (ts5 175 rfl rfl) (ts3 91 rfl rfl) (ts1 17 rfl rfl) (ts3 92 rfl rfl) (Nat.le_of_ble_eq_true rfl) dX8_leftAtWorst_68 ?_
        refine Ev_istore_n dX8_leftAtWorst_71 (Nat.le_of_ble_eq_true rfl) (okp_of rfl) ?_
        refine Ev_iinc (x4 + 1) dX8_leftAtWorst_72 rfl rfl (okp_of rfl) ?_
        refine Ev_goto 13 dX8_leftAtWorst_75 (by decide) ?_
        refine Ev_weak ?_ h
        exact And.intro rfl (And.intro rfl (And.intro rfl (And.intro rfl (And.intro rfl (And.intro trivial (trivial))))))
set_option maxHeartbeats 4000000 in
set_option maxRecDepth 100000 in
theorem X8_waterBy_ok {d : Nat} {x1 : Int32} {x2 : Int32} {x3 : Int32} {μ μ' : Mem} {x : Int32} (h : (((x2 - (x1 - x1 / 10 * 10)) < 0 → (x = 0 ∧ μ' = μ)) ∧ (¬ (x2 - (x1 - x1 / 10 * 10)) < 0 → (((μ.1 192 4) ≤ (x2 - (x1 - x1 / 10 * 10)) → (x = 0 ∧ μ' = μ)) ∧ (¬ (μ.1 192 4) ≤ (x2 - (x1 - x1 / 10 * 10)) → (((x3 - ((x1 / 10) - (x1 / 10) / 10 * 10)) < 0 → (x = 0 ∧ μ' = μ)) ∧ (¬ (x3 - ((x1 / 10) - (x1 / 10) / 10 * 10)) < 0 → (((x3 - ((x1 / 10) - (x1 / 10) / 10 * 10)) < (μ.1 192 5) → vp_in (x1 / 100) 4 ∧ vp_in (((x3 - ((x1 / 10) - (x1 / 10) / 10 * 10)) * (μ.1 192 4)) + (x2 - (x1 - x1 / 10 * 10))) 48 ∧ (x = μ.1 (197 + 1 * (x1 / 100).toNatClampNeg) ((((x3 - ((x1 / 10) - (x1 / 10) / 10 * 10)) * (μ.1 192 4)) + (x2 - (x1 - x1 / 10 * 10))).toNatClampNeg) ∧ μ' = μ)) ∧ (¬ (x3 - ((x1 / 10) - (x1 / 10) / 10 * 10)) < (μ.1 192 5) → (x = 0 ∧ μ' = μ)))))))))) : X8_waterBy d x1 x2 x3 μ x μ' := by
  refine Me_of [some (vr 8 0 192), some (vi x1), some (vi x2), some (vi x3), none, none] rfl (Nat.le_of_ble_eq_true rfl) (by decide) ?_
  refine Ev_iload_n dX8_waterBy_0 rfl ?_
  refine Ev_iload_n dX8_waterBy_1 rfl ?_
  refine Ev_bipush 10 dX8_waterBy_2 (by decide) ?_
  refine Ev_irem dX8_waterBy_4 (by decide) ?_
  refine Ev_isub dX8_waterBy_5 ?_
  refine Ev_istore dX8_waterBy_6 (Nat.le_of_ble_eq_true rfl) (okp_of rfl) ?_
  refine Ev_iload_n dX8_waterBy_8 rfl ?_
  refine Ev_iload_n dX8_waterBy_9 rfl ?_
  refine Ev_bipush 10 dX8_waterBy_10 (by decide) ?_
  refine Ev_idiv dX8_waterBy_12 (by decide) ?_
  refine Ev_bipush 10 dX8_waterBy_13 (by decide) ?_
  refine Ev_irem dX8_waterBy_15 (by decide) ?_
  refine Ev_isub dX8_waterBy_16 ?_
  refine Ev_istore dX8_waterBy_17 (Nat.le_of_ble_eq_true rfl) (okp_of rfl) ?_
  refine Ev_iload dX8_waterBy_19 rfl ?_
  refine Ev_if_lt 47 dX8_waterBy_21 (by decide) (fun q => ?_) (fun q => ?_)
  · have h := h.1 q
    refine Ev_iconst 0 dX8_waterBy_47 (by decide) ?_
    obtain ⟨rfl, rfl⟩ := h
    exact R_i rfl dX8_waterBy_48 rfl
  · have h := h.2 q
    refine Ev_iload dX8_waterBy_24 rfl ?_
    refine Ev_aload_n dX8_waterBy_26 rfl ?_
    refine Ev_getI flX8_25 rfl dX8_waterBy_27 ?_
    refine Ev_icmp_ge 47 dX8_waterBy_30 (by decide) (fun q => ?_) (fun q => ?_)
    · have h := h.1 q
      refine Ev_iconst 0 dX8_waterBy_47 (by decide) ?_
      obtain ⟨rfl, rfl⟩ := h
      exact R_i rfl dX8_waterBy_48 rfl
    · have h := h.2 q
      refine Ev_iload dX8_waterBy_33 rfl ?_
      refine Ev_if_lt 47 dX8_waterBy_35 (by decide) (fun q => ?_) (fun q => ?_)
      · have h := h.1 q
        refine Ev_iconst 0 dX8_waterBy_47 (by decide) ?_
        obtain ⟨rfl, rfl⟩ := h
        exact R_i rfl dX8_waterBy_48 rfl
      · have h := h.2 q
        refine Ev_iload dX8_waterBy_38 rfl ?_
        refine Ev_aload_n dX8_waterBy_40 rfl ?_
        refine Ev_getI flX8_28 rfl dX8_waterBy_41 ?_
        refine Ev_icmp_lt 49 dX8_waterBy_44 (by decide) (fun q => ?_) (fun q => ?_)
        · have h := h.1 q
          refine Ev_aload_n dX8_waterBy_49 rfl ?_
          refine Ev_getF 16 4 4 flX8_33 rfl dX8_waterBy_50 ?_
          refine Ev_iload_n dX8_waterBy_53 rfl ?_
          refine Ev_bipush 100 dX8_waterBy_54 (by decide) ?_
          refine Ev_idiv dX8_waterBy_56 (by decide) ?_
          obtain ⟨g, h⟩ := h
          refine Ev_aald 11 48 1 (by decide) (by decide) rfl g dX8_waterBy_57 ?_
          refine Ev_iload dX8_waterBy_58 rfl ?_
          refine Ev_aload_n dX8_waterBy_60 rfl ?_
          refine Ev_getI flX8_25 rfl dX8_waterBy_61 ?_
          refine Ev_imul dX8_waterBy_64 ?_
          refine Ev_iload dX8_waterBy_65 rfl ?_
          refine Ev_iadd dX8_waterBy_67 ?_
          obtain ⟨g, h⟩ := h
          refine Ev_iald g dX8_waterBy_68 ?_
          obtain ⟨rfl, rfl⟩ := h
          exact R_i rfl dX8_waterBy_69 rfl
        · have h := h.2 q
          refine Ev_iconst 0 dX8_waterBy_47 (by decide) ?_
          obtain ⟨rfl, rfl⟩ := h
          exact R_i rfl dX8_waterBy_48 rfl
