set_option maxRecDepth 200000 in
theorem mwX9_agree : Cond.instanceMethod yX9_agree ∈ tb ∧ Cond.selects yX9_agree.cls yX9_agree yX9_agree ∈ tb ∧ Cond.initialized yX9_agree.cls ∈ tb ∧ Cond.code yX9_agree cX9_agree 8 ((some .int)) ∈ tb := ⟨ts4 231 rfl rfl, ts4 232 rfl rfl, ts1 1 rfl rfl, ts4 233 rfl rfl⟩
theorem mdX9_agree : yX9_agree.cls ≠ "java/lang/invoke/MethodHandle" ∧ yX9_agree.cls ≠ "java/lang/invoke/VarHandle" ∧ (parseMethodDescriptor yX9_agree.desc).map (fun d => d.parameters.length) = some 2 := by decide +kernel
set_option maxRecDepth 200000 in
theorem mwX9_all : Cond.instanceMethod yX9_all ∈ tb ∧ Cond.selects yX9_all.cls yX9_all yX9_all ∈ tb ∧ Cond.initialized yX9_all.cls ∈ tb ∧ Cond.code yX9_all cX9_all 3 ((some .int)) ∈ tb := ⟨ts5 94 rfl rfl, ts5 95 rfl rfl, ts1 1 rfl rfl, ts5 96 rfl rfl⟩
theorem mdX9_all : yX9_all.cls ≠ "java/lang/invoke/MethodHandle" ∧ yX9_all.cls ≠ "java/lang/invoke/VarHandle" ∧ (parseMethodDescriptor yX9_all.desc).map (fun d => d.parameters.length) = some 2 := by decide +kernel
set_option maxRecDepth 200000 in
theorem mwX9_back : Cond.instanceMethod yX9_back ∈ tb ∧ Cond.selects yX9_back.cls yX9_back yX9_back ∈ tb ∧ Cond.initialized yX9_back.cls ∈ tb ∧ Cond.code yX9_back cX9_back 2 ((some .int)) ∈ tb := ⟨ts3 31 rfl rfl, ts3 32 rfl rfl, ts1 1 rfl rfl, ts3 33 rfl rfl⟩
theorem mdX9_back : yX9_back.cls ≠ "java/lang/invoke/MethodHandle" ∧ yX9_back.cls ≠ "java/lang/invoke/VarHandle" ∧ (parseMethodDescriptor yX9_back.desc).map (fun d => d.parameters.length) = some 1 := by decide +kernel
set_option maxRecDepth 200000 in
theorem mwX9_beginAnew : Cond.instanceMethod yX9_beginAnew ∈ tb ∧ Cond.selects yX9_beginAnew.cls yX9_beginAnew yX9_beginAnew ∈ tb ∧ Cond.initialized yX9_beginAnew.cls ∈ tb ∧ Cond.code yX9_beginAnew cX9_beginAnew 2 (none) ∈ tb := ⟨ts3 224 rfl rfl, ts0 24 rfl rfl, ts1 1 rfl rfl, ts3 225 rfl rfl⟩
theorem mdX9_beginAnew : yX9_beginAnew.cls ≠ "java/lang/invoke/MethodHandle" ∧ yX9_beginAnew.cls ≠ "java/lang/invoke/VarHandle" ∧ (parseMethodDescriptor yX9_beginAnew.desc).map (fun d => d.parameters.length) = some 0 := by decide +kernel
set_option maxRecDepth 200000 in
theorem mwX9_bestLook : Cond.instanceMethod yX9_bestLook ∈ tb ∧ Cond.selects yX9_bestLook.cls yX9_bestLook yX9_bestLook ∈ tb ∧ Cond.initialized yX9_bestLook.cls ∈ tb ∧ Cond.code yX9_bestLook cX9_bestLook 6 ((some .int)) ∈ tb := ⟨ts5 168 rfl rfl, ts0 45 rfl rfl, ts1 1 rfl rfl, ts5 169 rfl rfl⟩
theorem mdX9_bestLook : yX9_bestLook.cls ≠ "java/lang/invoke/MethodHandle" ∧ yX9_bestLook.cls ≠ "java/lang/invoke/VarHandle" ∧ (parseMethodDescriptor yX9_bestLook.desc).map (fun d => d.parameters.length) = some 0 := by decide +kernel
set_option maxRecDepth 200000 in
theorem mwX9_bestService : Cond.instanceMethod yX9_bestService ∈ tb ∧ Cond.selects yX9_bestService.cls yX9_bestService yX9_bestService ∈ tb ∧ Cond.initialized yX9_bestService.cls ∈ tb ∧ Cond.code yX9_bestService cX9_bestService 7 ((some .int)) ∈ tb := ⟨ts5 67 rfl rfl, ts0 39 rfl rfl, ts1 1 rfl rfl, ts5 68 rfl rfl⟩
theorem mdX9_bestService : yX9_bestService.cls ≠ "java/lang/invoke/MethodHandle" ∧ yX9_bestService.cls ≠ "java/lang/invoke/VarHandle" ∧ (parseMethodDescriptor yX9_bestService.desc).map (fun d => d.parameters.length) = some 1 := by decide +kernel
set_option maxRecDepth 200000 in
theorem mwX9_cell : Cond.instanceMethod yX9_cell ∈ tb ∧ Cond.selects yX9_cell.cls yX9_cell yX9_cell ∈ tb ∧ Cond.initialized yX9_cell.cls ∈ tb ∧ Cond.code yX9_cell cX9_cell 6 ((some .int)) ∈ tb := ⟨ts4 4 rfl rfl, ts4 5 rfl rfl, ts1 1 rfl rfl, ts4 6 rfl rfl⟩
theorem mdX9_cell : yX9_cell.cls ≠ "java/lang/invoke/MethodHandle" ∧ yX9_cell.cls ≠ "java/lang/invoke/VarHandle" ∧ (parseMethodDescriptor yX9_cell.desc).map (fun d => d.parameters.length) = some 3 := by decide +kernel
set_option maxRecDepth 200000 in
theorem mwX9_comes : Cond.instanceMethod yX9_comes ∈ tb ∧ Cond.selects yX9_comes.cls yX9_comes yX9_comes ∈ tb ∧ Cond.initialized yX9_comes.cls ∈ tb ∧ Cond.code yX9_comes cX9_comes 6 ((some .int)) ∈ tb := ⟨ts4 216 rfl rfl, ts4 217 rfl rfl, ts1 1 rfl rfl, ts4 218 rfl rfl⟩
theorem mdX9_comes : yX9_comes.cls ≠ "java/lang/invoke/MethodHandle" ∧ yX9_comes.cls ≠ "java/lang/invoke/VarHandle" ∧ (parseMethodDescriptor yX9_comes.desc).map (fun d => d.parameters.length) = some 3 := by decide +kernel
set_option maxRecDepth 200000 in
theorem mwX9_comesRound : Cond.instanceMethod yX9_comesRound ∈ tb ∧ Cond.selects yX9_comesRound.cls yX9_comesRound yX9_comesRound ∈ tb ∧ Cond.initialized yX9_comesRound.cls ∈ tb ∧ Cond.code yX9_comesRound cX9_comesRound 5 ((some .boolean)) ∈ tb := ⟨ts4 228 rfl rfl, ts0 32 rfl rfl, ts1 1 rfl rfl, ts4 229 rfl rfl⟩
theorem mdX9_comesRound : yX9_comesRound.cls ≠ "java/lang/invoke/MethodHandle" ∧ yX9_comesRound.cls ≠ "java/lang/invoke/VarHandle" ∧ (parseMethodDescriptor yX9_comesRound.desc).map (fun d => d.parameters.length) = some 3 := by decide +kernel
set_option maxRecDepth 200000 in
theorem mwX9_count : Cond.instanceMethod yX9_count ∈ tb ∧ Cond.selects yX9_count.cls yX9_count yX9_count ∈ tb ∧ Cond.initialized yX9_count.cls ∈ tb ∧ Cond.code yX9_count cX9_count 2 ((some .int)) ∈ tb := ⟨ts4 84 rfl rfl, ts4 85 rfl rfl, ts1 1 rfl rfl, ts4 86 rfl rfl⟩
theorem mdX9_count : yX9_count.cls ≠ "java/lang/invoke/MethodHandle" ∧ yX9_count.cls ≠ "java/lang/invoke/VarHandle" ∧ (parseMethodDescriptor yX9_count.desc).map (fun d => d.parameters.length) = some 1 := by decide +kernel
set_option maxRecDepth 200000 in
theorem mwX9_cut : Cond.instanceMethod yX9_cut ∈ tb ∧ Cond.selects yX9_cut.cls yX9_cut yX9_cut ∈ tb ∧ Cond.initialized yX9_cut.cls ∈ tb ∧ Cond.code yX9_cut cX9_cut 6 ((some .int)) ∈ tb := ⟨ts5 9 rfl rfl, ts5 10 rfl rfl, ts1 1 rfl rfl, ts5 11 rfl rfl⟩
theorem mdX9_cut : yX9_cut.cls ≠ "java/lang/invoke/MethodHandle" ∧ yX9_cut.cls ≠ "java/lang/invoke/VarHandle" ∧ (parseMethodDescriptor yX9_cut.desc).map (fun d => d.parameters.length) = some 4 := by decide +kernel
set_option maxRecDepth 200000 in
theorem mwX9_days : Cond.instanceMethod yX9_days ∈ tb ∧ Cond.selects yX9_days.cls yX9_days yX9_days ∈ tb ∧ Cond.initialized yX9_days.cls ∈ tb ∧ Cond.code yX9_days cX9_days 2 ((some .int)) ∈ tb := ⟨ts4 158 rfl rfl, ts4 159 rfl rfl, ts1 1 rfl rfl, ts4 160 rfl rfl⟩
theorem mdX9_days : yX9_days.cls ≠ "java/lang/invoke/MethodHandle" ∧ yX9_days.cls ≠ "java/lang/invoke/VarHandle" ∧ (parseMethodDescriptor yX9_days.desc).map (fun d => d.parameters.length) = some 1 := by decide +kernel
set_option maxRecDepth 200000 in
theorem mwX9_dry : Cond.instanceMethod yX9_dry ∈ tb ∧ Cond.selects yX9_dry.cls yX9_dry yX9_dry ∈ tb ∧ Cond.initialized yX9_dry.cls ∈ tb ∧ Cond.code yX9_dry cX9_dry 5 ((some .int)) ∈ tb := ⟨ts5 102 rfl rfl, ts5 103 rfl rfl, ts1 1 rfl rfl, ts5 104 rfl rfl⟩
theorem mdX9_dry : yX9_dry.cls ≠ "java/lang/invoke/MethodHandle" ∧ yX9_dry.cls ≠ "java/lang/invoke/VarHandle" ∧ (parseMethodDescriptor yX9_dry.desc).map (fun d => d.parameters.length) = some 1 := by decide +kernel
set_option maxRecDepth 200000 in
theorem mwX9_emptyBy : Cond.instanceMethod yX9_emptyBy ∈ tb ∧ Cond.selects yX9_emptyBy.cls yX9_emptyBy yX9_emptyBy ∈ tb ∧ Cond.initialized yX9_emptyBy.cls ∈ tb ∧ Cond.code yX9_emptyBy cX9_emptyBy 2 ((some .int)) ∈ tb := ⟨ts5 106 rfl rfl, ts5 107 rfl rfl, ts1 1 rfl rfl, ts5 108 rfl rfl⟩
theorem mdX9_emptyBy : yX9_emptyBy.cls ≠ "java/lang/invoke/MethodHandle" ∧ yX9_emptyBy.cls ≠ "java/lang/invoke/VarHandle" ∧ (parseMethodDescriptor yX9_emptyBy.desc).map (fun d => d.parameters.length) = some 0 := by decide +kernel
set_option maxRecDepth 200000 in
theorem mwX9_fall : Cond.instanceMethod yX9_fall ∈ tb ∧ Cond.selects yX9_fall.cls yX9_fall yX9_fall ∈ tb ∧ Cond.initialized yX9_fall.cls ∈ tb ∧ Cond.code yX9_fall cX9_fall 6 ((some .int)) ∈ tb := ⟨ts4 133 rfl rfl, ts4 134 rfl rfl, ts1 1 rfl rfl, ts4 135 rfl rfl⟩
theorem mdX9_fall : yX9_fall.cls ≠ "java/lang/invoke/MethodHandle" ∧ yX9_fall.cls ≠ "java/lang/invoke/VarHandle" ∧ (parseMethodDescriptor yX9_fall.desc).map (fun d => d.parameters.length) = some 5 := by decide +kernel
set_option maxRecDepth 200000 in
theorem mwX9_feed : Cond.instanceMethod yX9_feed ∈ tb ∧ Cond.selects yX9_feed.cls yX9_feed yX9_feed ∈ tb ∧ Cond.initialized yX9_feed.cls ∈ tb ∧ Cond.code yX9_feed cX9_feed 6 ((some .int)) ∈ tb := ⟨ts3 23 rfl rfl, ts3 24 rfl rfl, ts1 1 rfl rfl, ts3 25 rfl rfl⟩
theorem mdX9_feed : yX9_feed.cls ≠ "java/lang/invoke/MethodHandle" ∧ yX9_feed.cls ≠ "java/lang/invoke/VarHandle" ∧ (parseMethodDescriptor yX9_feed.desc).map (fun d => d.parameters.length) = some 5 := by decide +kernel
set_option maxRecDepth 200000 in
theorem mwX9_fell : Cond.instanceMethod yX9_fell ∈ tb ∧ Cond.selects yX9_fell.cls yX9_fell yX9_fell ∈ tb ∧ Cond.initialized yX9_fell.cls ∈ tb ∧ Cond.code yX9_fell cX9_fell 5 ((some .int)) ∈ tb := ⟨ts5 130 rfl rfl, ts5 131 rfl rfl, ts1 1 rfl rfl, ts5 132 rfl rfl⟩
theorem mdX9_fell : yX9_fell.cls ≠ "java/lang/invoke/MethodHandle" ∧ yX9_fell.cls ≠ "java/lang/invoke/VarHandle" ∧ (parseMethodDescriptor yX9_fell.desc).map (fun d => d.parameters.length) = some 4 := by decide +kernel
set_option maxRecDepth 200000 in
theorem mwX9_field : Cond.instanceMethod yX9_field ∈ tb ∧ Cond.selects yX9_field.cls yX9_field yX9_field ∈ tb ∧ Cond.initialized yX9_field.cls ∈ tb ∧ Cond.code yX9_field cX9_field 3 ((some .int)) ∈ tb := ⟨ts4 33 rfl rfl, ts4 34 rfl rfl, ts1 1 rfl rfl, ts4 35 rfl rfl⟩
theorem mdX9_field : yX9_field.cls ≠ "java/lang/invoke/MethodHandle" ∧ yX9_field.cls ≠ "java/lang/invoke/VarHandle" ∧ (parseMethodDescriptor yX9_field.desc).map (fun d => d.parameters.length) = some 2 := by decide +kernel
set_option maxRecDepth 200000 in
theorem mwX9_forget : Cond.instanceMethod yX9_forget ∈ tb ∧ Cond.selects yX9_forget.cls yX9_forget yX9_forget ∈ tb ∧ Cond.initialized yX9_forget.cls ∈ tb ∧ Cond.code yX9_forget cX9_forget 2 ((some .int)) ∈ tb := ⟨ts5 126 rfl rfl, ts5 127 rfl rfl, ts1 1 rfl rfl, ts5 128 rfl rfl⟩
theorem mdX9_forget : yX9_forget.cls ≠ "java/lang/invoke/MethodHandle" ∧ yX9_forget.cls ≠ "java/lang/invoke/VarHandle" ∧ (parseMethodDescriptor yX9_forget.desc).map (fun d => d.parameters.length) = some 0 := by decide +kernel
set_option maxRecDepth 200000 in
theorem mwX9_gatherWays : Cond.instanceMethod yX9_gatherWays ∈ tb ∧ Cond.selects yX9_gatherWays.cls yX9_gatherWays yX9_gatherWays ∈ tb ∧ Cond.initialized yX9_gatherWays.cls ∈ tb ∧ Cond.code yX9_gatherWays cX9_gatherWays 5 (none) ∈ tb := ⟨ts5 139 rfl rfl, ts0 42 rfl rfl, ts1 1 rfl rfl, ts5 140 rfl rfl⟩
theorem mdX9_gatherWays : yX9_gatherWays.cls ≠ "java/lang/invoke/MethodHandle" ∧ yX9_gatherWays.cls ≠ "java/lang/invoke/VarHandle" ∧ (parseMethodDescriptor yX9_gatherWays.desc).map (fun d => d.parameters.length) = some 3 := by decide +kernel
set_option maxRecDepth 200000 in
theorem mwX9_heldBy : Cond.instanceMethod yX9_heldBy ∈ tb ∧ Cond.selects yX9_heldBy.cls yX9_heldBy yX9_heldBy ∈ tb ∧ Cond.initialized yX9_heldBy.cls ∈ tb ∧ Cond.code yX9_heldBy cX9_heldBy 4 ((some .int)) ∈ tb := ⟨ts5 63 rfl rfl, ts0 38 rfl rfl, ts1 1 rfl rfl, ts5 64 rfl rfl⟩
theorem mdX9_heldBy : yX9_heldBy.cls ≠ "java/lang/invoke/MethodHandle" ∧ yX9_heldBy.cls ≠ "java/lang/invoke/VarHandle" ∧ (parseMethodDescriptor yX9_heldBy.desc).map (fun d => d.parameters.length) = some 3 := by decide +kernel
set_option maxRecDepth 200000 in
theorem mwX9_heldSlots : Cond.instanceMethod yX9_heldSlots ∈ tb ∧ Cond.selects yX9_heldSlots.cls yX9_heldSlots yX9_heldSlots ∈ tb ∧ Cond.initialized yX9_heldSlots.cls ∈ tb ∧ Cond.code yX9_heldSlots cX9_heldSlots 3 ((some .int)) ∈ tb := ⟨ts4 97 rfl rfl, ts0 25 rfl rfl, ts1 1 rfl rfl, ts4 98 rfl rfl⟩
theorem mdX9_heldSlots : yX9_heldSlots.cls ≠ "java/lang/invoke/MethodHandle" ∧ yX9_heldSlots.cls ≠ "java/lang/invoke/VarHandle" ∧ (parseMethodDescriptor yX9_heldSlots.desc).map (fun d => d.parameters.length) = some 0 := by decide +kernel
set_option maxRecDepth 200000 in
theorem mwX9_hold : Cond.instanceMethod yX9_hold ∈ tb ∧ Cond.selects yX9_hold.cls yX9_hold yX9_hold ∈ tb ∧ Cond.initialized yX9_hold.cls ∈ tb ∧ Cond.code yX9_hold cX9_hold 2 ((some .boolean)) ∈ tb := ⟨ts5 177 rfl rfl, ts5 178 rfl rfl, ts1 1 rfl rfl, ts5 179 rfl rfl⟩
theorem mdX9_hold : yX9_hold.cls ≠ "java/lang/invoke/MethodHandle" ∧ yX9_hold.cls ≠ "java/lang/invoke/VarHandle" ∧ (parseMethodDescriptor yX9_hold.desc).map (fun d => d.parameters.length) = some 1 := by decide +kernel
set_option maxRecDepth 200000 in
theorem mwX9_holds : Cond.instanceMethod yX9_holds ∈ tb ∧ Cond.selects yX9_holds.cls yX9_holds yX9_holds ∈ tb ∧ Cond.initialized yX9_holds.cls ∈ tb ∧ Cond.code yX9_holds cX9_holds 5 ((some .int)) ∈ tb := ⟨ts4 203 rfl rfl, ts4 204 rfl rfl, ts1 1 rfl rfl, ts4 205 rfl rfl⟩
theorem mdX9_holds : yX9_holds.cls ≠ "java/lang/invoke/MethodHandle" ∧ yX9_holds.cls ≠ "java/lang/invoke/VarHandle" ∧ (parseMethodDescriptor yX9_holds.desc).map (fun d => d.parameters.length) = some 4 := by decide +kernel
set_option maxRecDepth 200000 in
theorem mwX9_isAhead : Cond.static yX9_isAhead ∈ tb ∧ Cond.initialized yX9_isAhead.cls ∈ tb ∧ Cond.code yX9_isAhead cX9_isAhead 1 ((some .boolean)) ∈ tb := ⟨ts5 90 rfl rfl, ts1 1 rfl rfl, ts5 91 rfl rfl⟩
theorem mdX9_isAhead : yX9_isAhead.cls ≠ "java/lang/invoke/MethodHandle" ∧ yX9_isAhead.cls ≠ "java/lang/invoke/VarHandle" ∧ (parseMethodDescriptor yX9_isAhead.desc).map (fun d => d.parameters.length) = some 1 := by decide +kernel
set_option maxRecDepth 200000 in
theorem mwX9_isPiece : Cond.instanceMethod yX9_isPiece ∈ tb ∧ Cond.selects yX9_isPiece.cls yX9_isPiece yX9_isPiece ∈ tb ∧ Cond.initialized yX9_isPiece.cls ∈ tb ∧ Cond.code yX9_isPiece cX9_isPiece 4 ((some .boolean)) ∈ tb := ⟨ts4 105 rfl rfl, ts0 26 rfl rfl, ts1 1 rfl rfl, ts4 106 rfl rfl⟩
theorem mdX9_isPiece : yX9_isPiece.cls ≠ "java/lang/invoke/MethodHandle" ∧ yX9_isPiece.cls ≠ "java/lang/invoke/VarHandle" ∧ (parseMethodDescriptor yX9_isPiece.desc).map (fun d => d.parameters.length) = some 3 := by decide +kernel
set_option maxRecDepth 200000 in
theorem mwX9_isSize : Cond.static yX9_isSize ∈ tb ∧ Cond.initialized yX9_isSize.cls ∈ tb ∧ Cond.code yX9_isSize cX9_isSize 2 ((some .boolean)) ∈ tb := ⟨ts5 21 rfl rfl, ts1 1 rfl rfl, ts5 22 rfl rfl⟩
theorem mdX9_isSize : yX9_isSize.cls ≠ "java/lang/invoke/MethodHandle" ∧ yX9_isSize.cls ≠ "java/lang/invoke/VarHandle" ∧ (parseMethodDescriptor yX9_isSize.desc).map (fun d => d.parameters.length) = some 2 := by decide +kernel
set_option maxRecDepth 200000 in
theorem mwX9_look : Cond.instanceMethod yX9_look ∈ tb ∧ Cond.selects yX9_look.cls yX9_look yX9_look ∈ tb ∧ Cond.initialized yX9_look.cls ∈ tb ∧ Cond.code yX9_look cX9_look 4 ((some .int)) ∈ tb := ⟨ts5 163 rfl rfl, ts5 164 rfl rfl, ts1 1 rfl rfl, ts5 165 rfl rfl⟩
theorem mdX9_look : yX9_look.cls ≠ "java/lang/invoke/MethodHandle" ∧ yX9_look.cls ≠ "java/lang/invoke/VarHandle" ∧ (parseMethodDescriptor yX9_look.desc).map (fun d => d.parameters.length) = some 3 := by decide +kernel
set_option maxRecDepth 200000 in
theorem mwX9_loom : Cond.instanceMethod yX9_loom ∈ tb ∧ Cond.selects yX9_loom.cls yX9_loom yX9_loom ∈ tb ∧ Cond.initialized yX9_loom.cls ∈ tb ∧ Cond.code yX9_loom cX9_loom 3 ((some .int)) ∈ tb := ⟨ts4 46 rfl rfl, ts4 47 rfl rfl, ts1 1 rfl rfl, ts4 48 rfl rfl⟩
theorem mdX9_loom : yX9_loom.cls ≠ "java/lang/invoke/MethodHandle" ∧ yX9_loom.cls ≠ "java/lang/invoke/VarHandle" ∧ (parseMethodDescriptor yX9_loom.desc).map (fun d => d.parameters.length) = some 2 := by decide +kernel
set_option maxRecDepth 200000 in
theorem mwX9_now : Cond.instanceMethod yX9_now ∈ tb ∧ Cond.selects yX9_now.cls yX9_now yX9_now ∈ tb ∧ Cond.initialized yX9_now.cls ∈ tb ∧ Cond.code yX9_now cX9_now 6 ((some .int)) ∈ tb := ⟨ts4 80 rfl rfl, ts4 81 rfl rfl, ts1 1 rfl rfl, ts4 82 rfl rfl⟩
theorem mdX9_now : yX9_now.cls ≠ "java/lang/invoke/MethodHandle" ∧ yX9_now.cls ≠ "java/lang/invoke/VarHandle" ∧ (parseMethodDescriptor yX9_now.desc).map (fun d => d.parameters.length) = some 2 := by decide +kernel
set_option maxRecDepth 200000 in
theorem mwX9_order : Cond.instanceMethod yX9_order ∈ tb ∧ Cond.selects yX9_order.cls yX9_order yX9_order ∈ tb ∧ Cond.initialized yX9_order.cls ∈ tb ∧ Cond.code yX9_order cX9_order 6 ((some .boolean)) ∈ tb := ⟨ts4 100 rfl rfl, ts4 101 rfl rfl, ts1 1 rfl rfl, ts4 102 rfl rfl⟩
theorem mdX9_order : yX9_order.cls ≠ "java/lang/invoke/MethodHandle" ∧ yX9_order.cls ≠ "java/lang/invoke/VarHandle" ∧ (parseMethodDescriptor yX9_order.desc).map (fun d => d.parameters.length) = some 5 := by decide +kernel
set_option maxRecDepth 200000 in
theorem mwX9_place : Cond.instanceMethod yX9_place ∈ tb ∧ Cond.selects yX9_place.cls yX9_place yX9_place ∈ tb ∧ Cond.initialized yX9_place.cls ∈ tb ∧ Cond.code yX9_place cX9_place 1 ((some .int)) ∈ tb := ⟨ts4 0 rfl rfl, ts4 1 rfl rfl, ts1 1 rfl rfl, ts4 2 rfl rfl⟩
theorem mdX9_place : yX9_place.cls ≠ "java/lang/invoke/MethodHandle" ∧ yX9_place.cls ≠ "java/lang/invoke/VarHandle" ∧ (parseMethodDescriptor yX9_place.desc).map (fun d => d.parameters.length) = some 0 := by decide +kernel
set_option maxRecDepth 200000 in
theorem mwX9_putFour : Cond.instanceMethod yX9_putFour ∈ tb ∧ Cond.selects yX9_putFour.cls yX9_putFour yX9_putFour ∈ tb ∧ Cond.initialized yX9_putFour.cls ∈ tb ∧ Cond.code yX9_putFour cX9_putFour 3 (none) ∈ tb := ⟨ts3 28 rfl rfl, ts0 1 rfl rfl, ts1 1 rfl rfl, ts3 29 rfl rfl⟩
theorem mdX9_putFour : yX9_putFour.cls ≠ "java/lang/invoke/MethodHandle" ∧ yX9_putFour.cls ≠ "java/lang/invoke/VarHandle" ∧ (parseMethodDescriptor yX9_putFour.desc).map (fun d => d.parameters.length) = some 1 := by decide +kernel
set_option maxRecDepth 200000 in
theorem mwX9_read : Cond.instanceMethod yX9_read ∈ tb ∧ Cond.selects yX9_read.cls yX9_read yX9_read ∈ tb ∧ Cond.initialized yX9_read.cls ∈ tb ∧ Cond.code yX9_read cX9_read 3 ((some .int)) ∈ tb := ⟨ts3 35 rfl rfl, ts3 36 rfl rfl, ts1 1 rfl rfl, ts3 37 rfl rfl⟩
theorem mdX9_read : yX9_read.cls ≠ "java/lang/invoke/MethodHandle" ∧ yX9_read.cls ≠ "java/lang/invoke/VarHandle" ∧ (parseMethodDescriptor yX9_read.desc).map (fun d => d.parameters.length) = some 0 := by decide +kernel
set_option maxRecDepth 200000 in
theorem mwX9_restore : Cond.instanceMethod yX9_restore ∈ tb ∧ Cond.selects yX9_restore.cls yX9_restore yX9_restore ∈ tb ∧ Cond.initialized yX9_restore.cls ∈ tb ∧ Cond.code yX9_restore cX9_restore 2 ((some .boolean)) ∈ tb := ⟨ts5 181 rfl rfl, ts5 182 rfl rfl, ts1 1 rfl rfl, ts5 183 rfl rfl⟩
theorem mdX9_restore : yX9_restore.cls ≠ "java/lang/invoke/MethodHandle" ∧ yX9_restore.cls ≠ "java/lang/invoke/VarHandle" ∧ (parseMethodDescriptor yX9_restore.desc).map (fun d => d.parameters.length) = some 1 := by decide +kernel
set_option maxRecDepth 200000 in
theorem mwX9_round : Cond.instanceMethod yX9_round ∈ tb ∧ Cond.selects yX9_round.cls yX9_round yX9_round ∈ tb ∧ Cond.initialized yX9_round.cls ∈ tb ∧ Cond.code yX9_round cX9_round 4 ((some .int)) ∈ tb := ⟨ts4 223 rfl rfl, ts4 224 rfl rfl, ts1 1 rfl rfl, ts4 225 rfl rfl⟩
theorem mdX9_round : yX9_round.cls ≠ "java/lang/invoke/MethodHandle" ∧ yX9_round.cls ≠ "java/lang/invoke/VarHandle" ∧ (parseMethodDescriptor yX9_round.desc).map (fun d => d.parameters.length) = some 1 := by decide +kernel
set_option maxRecDepth 200000 in
theorem mwX9_serve : Cond.instanceMethod yX9_serve ∈ tb ∧ Cond.selects yX9_serve.cls yX9_serve yX9_serve ∈ tb ∧ Cond.initialized yX9_serve.cls ∈ tb ∧ Cond.code yX9_serve cX9_serve 5 ((some .int)) ∈ tb := ⟨ts5 52 rfl rfl, ts5 53 rfl rfl, ts1 1 rfl rfl, ts5 54 rfl rfl⟩
theorem mdX9_serve : yX9_serve.cls ≠ "java/lang/invoke/MethodHandle" ∧ yX9_serve.cls ≠ "java/lang/invoke/VarHandle" ∧ (parseMethodDescriptor yX9_serve.desc).map (fun d => d.parameters.length) = some 3 := by decide +kernel
set_option maxRecDepth 200000 in
theorem mwX9_servedBy : Cond.instanceMethod yX9_servedBy ∈ tb ∧ Cond.selects yX9_servedBy.cls yX9_servedBy yX9_servedBy ∈ tb ∧ Cond.initialized yX9_servedBy.cls ∈ tb ∧ Cond.code yX9_servedBy cX9_servedBy 5 ((some .int)) ∈ tb := ⟨ts5 79 rfl rfl, ts0 41 rfl rfl, ts1 1 rfl rfl, ts5 80 rfl rfl⟩
theorem mdX9_servedBy : yX9_servedBy.cls ≠ "java/lang/invoke/MethodHandle" ∧ yX9_servedBy.cls ≠ "java/lang/invoke/VarHandle" ∧ (parseMethodDescriptor yX9_servedBy.desc).map (fun d => d.parameters.length) = some 2 := by decide +kernel
set_option maxRecDepth 200000 in
theorem mwX9_serviceSum : Cond.instanceMethod yX9_serviceSum ∈ tb ∧ Cond.selects yX9_serviceSum.cls yX9_serviceSum yX9_serviceSum ∈ tb ∧ Cond.initialized yX9_serviceSum.cls ∈ tb ∧ Cond.code yX9_serviceSum cX9_serviceSum 7 ((some .int)) ∈ tb := ⟨ts5 72 rfl rfl, ts0 40 rfl rfl, ts1 1 rfl rfl, ts5 73 rfl rfl⟩
theorem mdX9_serviceSum : yX9_serviceSum.cls ≠ "java/lang/invoke/MethodHandle" ∧ yX9_serviceSum.cls ≠ "java/lang/invoke/VarHandle" ∧ (parseMethodDescriptor yX9_serviceSum.desc).map (fun d => d.parameters.length) = some 1 := by decide +kernel
set_option maxRecDepth 200000 in
theorem mwX9_stop : Cond.instanceMethod yX9_stop ∈ tb ∧ Cond.selects yX9_stop.cls yX9_stop yX9_stop ∈ tb ∧ Cond.initialized yX9_stop.cls ∈ tb ∧ Cond.code yX9_stop cX9_stop 2 ((some .boolean)) ∈ tb := ⟨ts4 125 rfl rfl, ts4 126 rfl rfl, ts1 1 rfl rfl, ts4 127 rfl rfl⟩
theorem mdX9_stop : yX9_stop.cls ≠ "java/lang/invoke/MethodHandle" ∧ yX9_stop.cls ≠ "java/lang/invoke/VarHandle" ∧ (parseMethodDescriptor yX9_stop.desc).map (fun d => d.parameters.length) = some 1 := by decide +kernel
set_option maxRecDepth 200000 in
theorem mwX9_suits : Cond.instanceMethod yX9_suits ∈ tb ∧ Cond.selects yX9_suits.cls yX9_suits yX9_suits ∈ tb ∧ Cond.initialized yX9_suits.cls ∈ tb ∧ Cond.code yX9_suits cX9_suits 9 ((some .int)) ∈ tb := ⟨ts5 82 rfl rfl, ts5 83 rfl rfl, ts1 1 rfl rfl, ts5 84 rfl rfl⟩
theorem mdX9_suits : yX9_suits.cls ≠ "java/lang/invoke/MethodHandle" ∧ yX9_suits.cls ≠ "java/lang/invoke/VarHandle" ∧ (parseMethodDescriptor yX9_suits.desc).map (fun d => d.parameters.length) = some 3 := by decide +kernel
set_option maxRecDepth 200000 in
theorem mwX9_tell : Cond.instanceMethod yX9_tell ∈ tb ∧ Cond.selects yX9_tell.cls yX9_tell yX9_tell ∈ tb ∧ Cond.initialized yX9_tell.cls ∈ tb ∧ Cond.code yX9_tell cX9_tell 4 ((some .int)) ∈ tb := ⟨ts5 118 rfl rfl, ts5 119 rfl rfl, ts1 1 rfl rfl, ts5 120 rfl rfl⟩
theorem mdX9_tell : yX9_tell.cls ≠ "java/lang/invoke/MethodHandle" ∧ yX9_tell.cls ≠ "java/lang/invoke/VarHandle" ∧ (parseMethodDescriptor yX9_tell.desc).map (fun d => d.parameters.length) = some 3 := by decide +kernel
set_option maxRecDepth 200000 in
theorem mwX9_then : Cond.instanceMethod yX9_then ∈ tb ∧ Cond.selects yX9_then.cls yX9_then yX9_then ∈ tb ∧ Cond.initialized yX9_then.cls ∈ tb ∧ Cond.code yX9_then cX9_then 4 ((some .int)) ∈ tb := ⟨ts5 86 rfl rfl, ts5 87 rfl rfl, ts1 1 rfl rfl, ts5 88 rfl rfl⟩
theorem mdX9_then : yX9_then.cls ≠ "java/lang/invoke/MethodHandle" ∧ yX9_then.cls ≠ "java/lang/invoke/VarHandle" ∧ (parseMethodDescriptor yX9_then.desc).map (fun d => d.parameters.length) = some 3 := by decide +kernel
set_option maxRecDepth 200000 in
theorem mwX9_thread : Cond.instanceMethod yX9_thread ∈ tb ∧ Cond.selects yX9_thread.cls yX9_thread yX9_thread ∈ tb ∧ Cond.initialized yX9_thread.cls ∈ tb ∧ Cond.code yX9_thread cX9_thread 4 ((some .int)) ∈ tb := ⟨ts4 58 rfl rfl, ts4 59 rfl rfl, ts1 1 rfl rfl, ts4 60 rfl rfl⟩
theorem mdX9_thread : yX9_thread.cls ≠ "java/lang/invoke/MethodHandle" ∧ yX9_thread.cls ≠ "java/lang/invoke/VarHandle" ∧ (parseMethodDescriptor yX9_thread.desc).map (fun d => d.parameters.length) = some 3 := by decide +kernel
set_option maxRecDepth 200000 in
theorem mwX9_turn : Cond.instanceMethod yX9_turn ∈ tb ∧ Cond.selects yX9_turn.cls yX9_turn yX9_turn ∈ tb ∧ Cond.initialized yX9_turn.cls ∈ tb ∧ Cond.code yX9_turn cX9_turn 3 ((some .int)) ∈ tb := ⟨ts4 153 rfl rfl, ts4 154 rfl rfl, ts1 1 rfl rfl, ts4 155 rfl rfl⟩
theorem mdX9_turn : yX9_turn.cls ≠ "java/lang/invoke/MethodHandle" ∧ yX9_turn.cls ≠ "java/lang/invoke/VarHandle" ∧ (parseMethodDescriptor yX9_turn.desc).map (fun d => d.parameters.length) = some 2 := by decide +kernel
set_option maxRecDepth 200000 in
theorem mwX9_undo : Cond.instanceMethod yX9_undo ∈ tb ∧ Cond.selects yX9_undo.cls yX9_undo yX9_undo ∈ tb ∧ Cond.initialized yX9_undo.cls ∈ tb ∧ Cond.code yX9_undo cX9_undo 1 ((some .boolean)) ∈ tb := ⟨ts4 195 rfl rfl, ts4 196 rfl rfl, ts1 1 rfl rfl, ts4 197 rfl rfl⟩
theorem mdX9_undo : yX9_undo.cls ≠ "java/lang/invoke/MethodHandle" ∧ yX9_undo.cls ≠ "java/lang/invoke/VarHandle" ∧ (parseMethodDescriptor yX9_undo.desc).map (fun d => d.parameters.length) = some 0 := by decide +kernel
set_option maxRecDepth 200000 in
theorem mwX9_weaveWhole : Cond.instanceMethod yX9_weaveWhole ∈ tb ∧ Cond.selects yX9_weaveWhole.cls yX9_weaveWhole yX9_weaveWhole ∈ tb ∧ Cond.initialized yX9_weaveWhole.cls ∈ tb ∧ Cond.code yX9_weaveWhole cX9_weaveWhole 4 (none) ∈ tb := ⟨ts4 208 rfl rfl, ts0 31 rfl rfl, ts1 1 rfl rfl, ts4 209 rfl rfl⟩
theorem mdX9_weaveWhole : yX9_weaveWhole.cls ≠ "java/lang/invoke/MethodHandle" ∧ yX9_weaveWhole.cls ≠ "java/lang/invoke/VarHandle" ∧ (parseMethodDescriptor yX9_weaveWhole.desc).map (fun d => d.parameters.length) = some 3 := by decide +kernel
set_option maxRecDepth 200000 in
theorem mwX9_wettest : Cond.instanceMethod yX9_wettest ∈ tb ∧ Cond.selects yX9_wettest.cls yX9_wettest yX9_wettest ∈ tb ∧ Cond.initialized yX9_wettest.cls ∈ tb ∧ Cond.code yX9_wettest cX9_wettest 5 ((some .int)) ∈ tb := ⟨ts5 98 rfl rfl, ts5 99 rfl rfl, ts1 1 rfl rfl, ts5 100 rfl rfl⟩
theorem mdX9_wettest : yX9_wettest.cls ≠ "java/lang/invoke/MethodHandle" ∧ yX9_wettest.cls ≠ "java/lang/invoke/VarHandle" ∧ (parseMethodDescriptor yX9_wettest.desc).map (fun d => d.parameters.length) = some 2 := by decide +kernel
set_option maxRecDepth 200000 in
theorem mwX9_where : Cond.instanceMethod yX9_where ∈ tb ∧ Cond.selects yX9_where.cls yX9_where yX9_where ∈ tb ∧ Cond.initialized yX9_where.cls ∈ tb ∧ Cond.code yX9_where cX9_where 11 ((some .int)) ∈ tb := ⟨ts4 239 rfl rfl, ts5 0 rfl rfl, ts1 1 rfl rfl, ts5 1 rfl rfl⟩
theorem mdX9_where : yX9_where.cls ≠ "java/lang/invoke/MethodHandle" ∧ yX9_where.cls ≠ "java/lang/invoke/VarHandle" ∧ (parseMethodDescriptor yX9_where.desc).map (fun d => d.parameters.length) = some 4 := by decide +kernel
set_option maxRecDepth 200000 in
theorem mwX9_year : Cond.instanceMethod yX9_year ∈ tb ∧ Cond.selects yX9_year.cls yX9_year yX9_year ∈ tb ∧ Cond.initialized yX9_year.cls ∈ tb ∧ Cond.code yX9_year cX9_year 6 ((some .int)) ∈ tb := ⟨ts5 114 rfl rfl, ts5 115 rfl rfl, ts1 1 rfl rfl, ts5 116 rfl rfl⟩
theorem mdX9_year : yX9_year.cls ≠ "java/lang/invoke/MethodHandle" ∧ yX9_year.cls ≠ "java/lang/invoke/VarHandle" ∧ (parseMethodDescriptor yX9_year.desc).map (fun d => d.parameters.length) = some 2 := by decide +kernel
set_option maxRecDepth 200000 in
theorem mwX0_add : Cond.instanceMethod yX0_add ∈ tb ∧ Cond.selects yX0_add.cls yX0_add yX0_add ∈ tb ∧ Cond.initialized yX0_add.cls ∈ tb ∧ Cond.code yX0_add cX0_add 4 ((some .boolean)) ∈ tb := ⟨ts5 17 rfl rfl, ts5 18 rfl rfl, ts1 15 rfl rfl, ts5 19 rfl rfl⟩
theorem mdX0_add : yX0_add.cls ≠ "java/lang/invoke/MethodHandle" ∧ yX0_add.cls ≠ "java/lang/invoke/VarHandle" ∧ (parseMethodDescriptor yX0_add.desc).map (fun d => d.parameters.length) = some 1 := by decide +kernel
set_option maxRecDepth 200000 in
theorem mwX0_clear : Cond.instanceMethod yX0_clear ∈ tb ∧ Cond.selects yX0_clear.cls yX0_clear yX0_clear ∈ tb ∧ Cond.initialized yX0_clear.cls ∈ tb ∧ Cond.code yX0_clear cX0_clear 1 (none) ∈ tb := ⟨ts5 13 rfl rfl, ts5 14 rfl rfl, ts1 15 rfl rfl, ts5 15 rfl rfl⟩
theorem mdX0_clear : yX0_clear.cls ≠ "java/lang/invoke/MethodHandle" ∧ yX0_clear.cls ≠ "java/lang/invoke/VarHandle" ∧ (parseMethodDescriptor yX0_clear.desc).map (fun d => d.parameters.length) = some 0 := by decide +kernel
set_option maxRecDepth 200000 in
theorem mwX0_hasTwin : Cond.instanceMethod yX0_hasTwin ∈ tb ∧ Cond.selects yX0_hasTwin.cls yX0_hasTwin yX0_hasTwin ∈ tb ∧ Cond.initialized yX0_hasTwin.cls ∈ tb ∧ Cond.code yX0_hasTwin cX0_hasTwin 4 ((some .boolean)) ∈ tb := ⟨ts5 40 rfl rfl, ts0 35 rfl rfl, ts1 15 rfl rfl, ts5 41 rfl rfl⟩
theorem mdX0_hasTwin : yX0_hasTwin.cls ≠ "java/lang/invoke/MethodHandle" ∧ yX0_hasTwin.cls ≠ "java/lang/invoke/VarHandle" ∧ (parseMethodDescriptor yX0_hasTwin.desc).map (fun d => d.parameters.length) = some 2 := by decide +kernel
set_option maxRecDepth 200000 in
theorem mwX0_lay : Cond.instanceMethod yX0_lay ∈ tb ∧ Cond.selects yX0_lay.cls yX0_lay yX0_lay ∈ tb ∧ Cond.initialized yX0_lay.cls ∈ tb ∧ Cond.code yX0_lay cX0_lay 8 ((some .int)) ∈ tb := ⟨ts5 48 rfl rfl, ts0 37 rfl rfl, ts1 15 rfl rfl, ts5 49 rfl rfl⟩
theorem mdX0_lay : yX0_lay.cls ≠ "java/lang/invoke/MethodHandle" ∧ yX0_lay.cls ≠ "java/lang/invoke/VarHandle" ∧ (parseMethodDescriptor yX0_lay.desc).map (fun d => d.parameters.length) = some 3 := by decide +kernel
set_option maxRecDepth 200000 in
theorem mwX0_layEverywhere : Cond.instanceMethod yX0_layEverywhere ∈ tb ∧ Cond.selects yX0_layEverywhere.cls yX0_layEverywhere yX0_layEverywhere ∈ tb ∧ Cond.initialized yX0_layEverywhere.cls ∈ tb ∧ Cond.code yX0_layEverywhere cX0_layEverywhere 8 (none) ∈ tb := ⟨ts5 44 rfl rfl, ts0 36 rfl rfl, ts1 15 rfl rfl, ts5 45 rfl rfl⟩
theorem mdX0_layEverywhere : yX0_layEverywhere.cls ≠ "java/lang/invoke/MethodHandle" ∧ yX0_layEverywhere.cls ≠ "java/lang/invoke/VarHandle" ∧ (parseMethodDescriptor yX0_layEverywhere.desc).map (fun d => d.parameters.length) = some 4 := by decide +kernel
set_option maxRecDepth 200000 in
theorem mwX0_layNext : Cond.instanceMethod yX0_layNext ∈ tb ∧ Cond.selects yX0_layNext.cls yX0_layNext yX0_layNext ∈ tb ∧ Cond.initialized yX0_layNext.cls ∈ tb ∧ Cond.code yX0_layNext cX0_layNext 5 (none) ∈ tb := ⟨ts5 35 rfl rfl, ts0 34 rfl rfl, ts1 15 rfl rfl, ts5 36 rfl rfl⟩
theorem mdX0_layNext : yX0_layNext.cls ≠ "java/lang/invoke/MethodHandle" ∧ yX0_layNext.cls ≠ "java/lang/invoke/VarHandle" ∧ (parseMethodDescriptor yX0_layNext.desc).map (fun d => d.parameters.length) = some 3 := by decide +kernel
set_option maxRecDepth 200000 in
theorem mwX0_leastLength : Cond.instanceMethod yX0_leastLength ∈ tb ∧ Cond.selects yX0_leastLength.cls yX0_leastLength yX0_leastLength ∈ tb ∧ Cond.initialized yX0_leastLength.cls ∈ tb ∧ Cond.code yX0_leastLength cX0_leastLength 3 ((some .int)) ∈ tb := ⟨ts5 24 rfl rfl, ts5 25 rfl rfl, ts1 15 rfl rfl, ts5 26 rfl rfl⟩
theorem mdX0_leastLength : yX0_leastLength.cls ≠ "java/lang/invoke/MethodHandle" ∧ yX0_leastLength.cls ≠ "java/lang/invoke/VarHandle" ∧ (parseMethodDescriptor yX0_leastLength.desc).map (fun d => d.parameters.length) = some 0 := by decide +kernel
set_option maxRecDepth 200000 in
theorem mwX0_placesFor : Cond.instanceMethod yX0_placesFor ∈ tb ∧ Cond.selects yX0_placesFor.cls yX0_placesFor yX0_placesFor ∈ tb ∧ Cond.initialized yX0_placesFor.cls ∈ tb ∧ Cond.code yX0_placesFor cX0_placesFor 4 ((some .int)) ∈ tb := ⟨ts5 30 rfl rfl, ts0 33 rfl rfl, ts1 15 rfl rfl, ts5 31 rfl rfl⟩
theorem mdX0_placesFor : yX0_placesFor.cls ≠ "java/lang/invoke/MethodHandle" ∧ yX0_placesFor.cls ≠ "java/lang/invoke/VarHandle" ∧ (parseMethodDescriptor yX0_placesFor.desc).map (fun d => d.parameters.length) = some 1 := by decide +kernel
set_option maxRecDepth 200000 in
theorem mwX1_aimHere : Cond.instanceMethod yX1_aimHere ∈ tb ∧ Cond.selects yX1_aimHere.cls yX1_aimHere yX1_aimHere ∈ tb ∧ Cond.initialized yX1_aimHere.cls ∈ tb ∧ Cond.code yX1_aimHere cX1_aimHere 2 (none) ∈ tb := ⟨ts3 219 rfl rfl, ts3 220 rfl rfl, ts1 9 rfl rfl, ts3 221 rfl rfl⟩
theorem mdX1_aimHere : yX1_aimHere.cls ≠ "java/lang/invoke/MethodHandle" ∧ yX1_aimHere.cls ≠ "java/lang/invoke/VarHandle" ∧ (parseMethodDescriptor yX1_aimHere.desc).map (fun d => d.parameters.length) = some 1 := by decide +kernel
set_option maxRecDepth 200000 in
theorem mwX1_answer : Cond.instanceMethod yX1_answer ∈ tb ∧ Cond.selects yX1_answer.cls yX1_answer yX1_answer ∈ tb ∧ Cond.initialized yX1_answer.cls ∈ tb ∧ Cond.code yX1_answer cX1_answer 6 ((some .int)) ∈ tb := ⟨ts4 67 rfl rfl, ts4 68 rfl rfl, ts1 9 rfl rfl, ts4 69 rfl rfl⟩
theorem mdX1_answer : yX1_answer.cls ≠ "java/lang/invoke/MethodHandle" ∧ yX1_answer.cls ≠ "java/lang/invoke/VarHandle" ∧ (parseMethodDescriptor yX1_answer.desc).map (fun d => d.parameters.length) = some 0 := by decide +kernel
set_option maxRecDepth 200000 in
theorem mwX1_clear : Cond.instanceMethod yX1_clear ∈ tb ∧ Cond.selects yX1_clear.cls yX1_clear yX1_clear ∈ tb ∧ Cond.initialized yX1_clear.cls ∈ tb ∧ Cond.code yX1_clear cX1_clear 1 (none) ∈ tb := ⟨ts1 153 rfl rfl, ts1 154 rfl rfl, ts1 9 rfl rfl, ts1 155 rfl rfl⟩
theorem mdX1_clear : yX1_clear.cls ≠ "java/lang/invoke/MethodHandle" ∧ yX1_clear.cls ≠ "java/lang/invoke/VarHandle" ∧ (parseMethodDescriptor yX1_clear.desc).map (fun d => d.parameters.length) = some 0 := by decide +kernel
set_option maxRecDepth 200000 in
theorem mwX1_put : Cond.instanceMethod yX1_put ∈ tb ∧ Cond.selects yX1_put.cls yX1_put yX1_put ∈ tb ∧ Cond.initialized yX1_put.cls ∈ tb ∧ Cond.code yX1_put cX1_put 2 (none) ∈ tb := ⟨ts1 157 rfl rfl, ts1 158 rfl rfl, ts1 9 rfl rfl, ts1 159 rfl rfl⟩
theorem mdX1_put : yX1_put.cls ≠ "java/lang/invoke/MethodHandle" ∧ yX1_put.cls ≠ "java/lang/invoke/VarHandle" ∧ (parseMethodDescriptor yX1_put.desc).map (fun d => d.parameters.length) = some 1 := by decide +kernel
set_option maxRecDepth 200000 in
theorem mwX1_putConstant : Cond.instanceMethod yX1_putConstant ∈ tb ∧ Cond.selects yX1_putConstant.cls yX1_putConstant yX1_putConstant ∈ tb ∧ Cond.initialized yX1_putConstant.cls ∈ tb ∧ Cond.code yX1_putConstant cX1_putConstant 2 (none) ∈ tb := ⟨ts1 149 rfl rfl, ts1 150 rfl rfl, ts1 9 rfl rfl, ts1 151 rfl rfl⟩
theorem mdX1_putConstant : yX1_putConstant.cls ≠ "java/lang/invoke/MethodHandle" ∧ yX1_putConstant.cls ≠ "java/lang/invoke/VarHandle" ∧ (parseMethodDescriptor yX1_putConstant.desc).map (fun d => d.parameters.length) = some 1 := by decide +kernel
set_option maxRecDepth 200000 in
theorem mwX1_putUnlessLess : Cond.instanceMethod yX1_putUnlessLess ∈ tb ∧ Cond.selects yX1_putUnlessLess.cls yX1_putUnlessLess yX1_putUnlessLess ∈ tb ∧ Cond.initialized yX1_putUnlessLess.cls ∈ tb ∧ Cond.code yX1_putUnlessLess cX1_putUnlessLess 1 ((some .int)) ∈ tb := ⟨ts3 215 rfl rfl, ts3 216 rfl rfl, ts1 9 rfl rfl, ts3 217 rfl rfl⟩
theorem mdX1_putUnlessLess : yX1_putUnlessLess.cls ≠ "java/lang/invoke/MethodHandle" ∧ yX1_putUnlessLess.cls ≠ "java/lang/invoke/VarHandle" ∧ (parseMethodDescriptor yX1_putUnlessLess.desc).map (fun d => d.parameters.length) = some 0 := by decide +kernel
set_option maxRecDepth 200000 in
theorem mwX1_worked : Cond.static yX1_worked ∈ tb ∧ Cond.initialized yX1_worked.cls ∈ tb ∧ Cond.code yX1_worked cX1_worked 3 ((some .int)) ∈ tb := ⟨ts4 71 rfl rfl, ts1 9 rfl rfl, ts4 72 rfl rfl⟩
theorem mdX1_worked : yX1_worked.cls ≠ "java/lang/invoke/MethodHandle" ∧ yX1_worked.cls ≠ "java/lang/invoke/VarHandle" ∧ (parseMethodDescriptor yX1_worked.desc).map (fun d => d.parameters.length) = some 3 := by decide +kernel
set_option maxRecDepth 200000 in
theorem mwX2_clear : Cond.instanceMethod yX2_clear ∈ tb ∧ Cond.selects yX2_clear.cls yX2_clear yX2_clear ∈ tb ∧ Cond.initialized yX2_clear.cls ∈ tb ∧ Cond.code yX2_clear cX2_clear 1 (none) ∈ tb := ⟨ts3 232 rfl rfl, ts3 233 rfl rfl, ts1 13 rfl rfl, ts3 234 rfl rfl⟩
theorem mdX2_clear : yX2_clear.cls ≠ "java/lang/invoke/MethodHandle" ∧ yX2_clear.cls ≠ "java/lang/invoke/VarHandle" ∧ (parseMethodDescriptor yX2_clear.desc).map (fun d => d.parameters.length) = some 0 := by decide +kernel
set_option maxRecDepth 200000 in
theorem mwX2_remember : Cond.instanceMethod yX2_remember ∈ tb ∧ Cond.selects yX2_remember.cls yX2_remember yX2_remember ∈ tb ∧ Cond.initialized yX2_remember.cls ∈ tb ∧ Cond.code yX2_remember cX2_remember 2 (none) ∈ tb := ⟨ts4 112 rfl rfl, ts4 113 rfl rfl, ts1 13 rfl rfl, ts4 114 rfl rfl⟩
theorem mdX2_remember : yX2_remember.cls ≠ "java/lang/invoke/MethodHandle" ∧ yX2_remember.cls ≠ "java/lang/invoke/VarHandle" ∧ (parseMethodDescriptor yX2_remember.desc).map (fun d => d.parameters.length) = some 1 := by decide +kernel
set_option maxRecDepth 200000 in
theorem mwX2_takeBack : Cond.instanceMethod yX2_takeBack ∈ tb ∧ Cond.selects yX2_takeBack.cls yX2_takeBack yX2_takeBack ∈ tb ∧ Cond.initialized yX2_takeBack.cls ∈ tb ∧ Cond.code yX2_takeBack cX2_takeBack 2 ((some .boolean)) ∈ tb := ⟨ts4 199 rfl rfl, ts4 200 rfl rfl, ts1 13 rfl rfl, ts4 201 rfl rfl⟩
theorem mdX2_takeBack : yX2_takeBack.cls ≠ "java/lang/invoke/MethodHandle" ∧ yX2_takeBack.cls ≠ "java/lang/invoke/VarHandle" ∧ (parseMethodDescriptor yX2_takeBack.desc).map (fun d => d.parameters.length) = some 1 := by decide +kernel
set_option maxRecDepth 200000 in
theorem mwX3_clear : Cond.instanceMethod yX3_clear ∈ tb ∧ Cond.selects yX3_clear.cls yX3_clear yX3_clear ∈ tb ∧ Cond.initialized yX3_clear.cls ∈ tb ∧ Cond.code yX3_clear cX3_clear 1 (none) ∈ tb := ⟨ts1 142 rfl rfl, ts1 143 rfl rfl, ts1 8 rfl rfl, ts1 144 rfl rfl⟩
theorem mdX3_clear : yX3_clear.cls ≠ "java/lang/invoke/MethodHandle" ∧ yX3_clear.cls ≠ "java/lang/invoke/VarHandle" ∧ (parseMethodDescriptor yX3_clear.desc).map (fun d => d.parameters.length) = some 0 := by decide +kernel
set_option maxRecDepth 200000 in
theorem mwX3_drowned : Cond.instanceMethod yX3_drowned ∈ tb ∧ Cond.selects yX3_drowned.cls yX3_drowned yX3_drowned ∈ tb ∧ Cond.initialized yX3_drowned.cls ∈ tb ∧ Cond.code yX3_drowned cX3_drowned 3 ((some .boolean)) ∈ tb := ⟨ts4 29 rfl rfl, ts4 30 rfl rfl, ts1 8 rfl rfl, ts4 31 rfl rfl⟩
theorem mdX3_drowned : yX3_drowned.cls ≠ "java/lang/invoke/MethodHandle" ∧ yX3_drowned.cls ≠ "java/lang/invoke/VarHandle" ∧ (parseMethodDescriptor yX3_drowned.desc).map (fun d => d.parameters.length) = some 2 := by decide +kernel
set_option maxRecDepth 200000 in
theorem mwX3_fieldAt : Cond.instanceMethod yX3_fieldAt ∈ tb ∧ Cond.selects yX3_fieldAt.cls yX3_fieldAt yX3_fieldAt ∈ tb ∧ Cond.initialized yX3_fieldAt.cls ∈ tb ∧ Cond.code yX3_fieldAt cX3_fieldAt 3 ((some .int)) ∈ tb := ⟨ts4 12 rfl rfl, ts4 13 rfl rfl, ts1 8 rfl rfl, ts4 14 rfl rfl⟩
theorem mdX3_fieldAt : yX3_fieldAt.cls ≠ "java/lang/invoke/MethodHandle" ∧ yX3_fieldAt.cls ≠ "java/lang/invoke/VarHandle" ∧ (parseMethodDescriptor yX3_fieldAt.desc).map (fun d => d.parameters.length) = some 2 := by decide +kernel
set_option maxRecDepth 200000 in
theorem mwX3_hasCell : Cond.instanceMethod yX3_hasCell ∈ tb ∧ Cond.selects yX3_hasCell.cls yX3_hasCell yX3_hasCell ∈ tb ∧ Cond.initialized yX3_hasCell.cls ∈ tb ∧ Cond.code yX3_hasCell cX3_hasCell 3 ((some .boolean)) ∈ tb := ⟨ts4 8 rfl rfl, ts4 9 rfl rfl, ts1 8 rfl rfl, ts4 10 rfl rfl⟩
theorem mdX3_hasCell : yX3_hasCell.cls ≠ "java/lang/invoke/MethodHandle" ∧ yX3_hasCell.cls ≠ "java/lang/invoke/VarHandle" ∧ (parseMethodDescriptor yX3_hasCell.desc).map (fun d => d.parameters.length) = some 2 := by decide +kernel
set_option maxRecDepth 200000 in
theorem mwX3_hasField : Cond.instanceMethod yX3_hasField ∈ tb ∧ Cond.selects yX3_hasField.cls yX3_hasField yX3_hasField ∈ tb ∧ Cond.initialized yX3_hasField.cls ∈ tb ∧ Cond.code yX3_hasField cX3_hasField 2 ((some .boolean)) ∈ tb := ⟨ts4 25 rfl rfl, ts4 26 rfl rfl, ts1 8 rfl rfl, ts4 27 rfl rfl⟩
theorem mdX3_hasField : yX3_hasField.cls ≠ "java/lang/invoke/MethodHandle" ∧ yX3_hasField.cls ≠ "java/lang/invoke/VarHandle" ∧ (parseMethodDescriptor yX3_hasField.desc).map (fun d => d.parameters.length) = some 1 := by decide +kernel
set_option maxRecDepth 200000 in
theorem mwX3_hasLoom : Cond.instanceMethod yX3_hasLoom ∈ tb ∧ Cond.selects yX3_hasLoom.cls yX3_hasLoom yX3_hasLoom ∈ tb ∧ Cond.initialized yX3_hasLoom.cls ∈ tb ∧ Cond.code yX3_hasLoom cX3_hasLoom 2 ((some .boolean)) ∈ tb := ⟨ts4 50 rfl rfl, ts4 51 rfl rfl, ts1 8 rfl rfl, ts4 52 rfl rfl⟩
theorem mdX3_hasLoom : yX3_hasLoom.cls ≠ "java/lang/invoke/MethodHandle" ∧ yX3_hasLoom.cls ≠ "java/lang/invoke/VarHandle" ∧ (parseMethodDescriptor yX3_hasLoom.desc).map (fun d => d.parameters.length) = some 1 := by decide +kernel
set_option maxRecDepth 200000 in
theorem mwX3_lacks : Cond.instanceMethod yX3_lacks ∈ tb ∧ Cond.selects yX3_lacks.cls yX3_lacks yX3_lacks ∈ tb ∧ Cond.initialized yX3_lacks.cls ∈ tb ∧ Cond.code yX3_lacks cX3_lacks 3 ((some .boolean)) ∈ tb := ⟨ts4 21 rfl rfl, ts4 22 rfl rfl, ts1 8 rfl rfl, ts4 23 rfl rfl⟩
theorem mdX3_lacks : yX3_lacks.cls ≠ "java/lang/invoke/MethodHandle" ∧ yX3_lacks.cls ≠ "java/lang/invoke/VarHandle" ∧ (parseMethodDescriptor yX3_lacks.desc).map (fun d => d.parameters.length) = some 2 := by decide +kernel
set_option maxRecDepth 200000 in
theorem mwX3_narrowest : Cond.instanceMethod yX3_narrowest ∈ tb ∧ Cond.selects yX3_narrowest.cls yX3_narrowest yX3_narrowest ∈ tb ∧ Cond.initialized yX3_narrowest.cls ∈ tb ∧ Cond.code yX3_narrowest cX3_narrowest 3 ((some .int)) ∈ tb := ⟨ts5 57 rfl rfl, ts5 58 rfl rfl, ts1 8 rfl rfl, ts5 59 rfl rfl⟩
theorem mdX3_narrowest : yX3_narrowest.cls ≠ "java/lang/invoke/MethodHandle" ∧ yX3_narrowest.cls ≠ "java/lang/invoke/VarHandle" ∧ (parseMethodDescriptor yX3_narrowest.desc).map (fun d => d.parameters.length) = some 0 := by decide +kernel
set_option maxRecDepth 200000 in
theorem mwX3_needOf : Cond.instanceMethod yX3_needOf ∈ tb ∧ Cond.selects yX3_needOf.cls yX3_needOf yX3_needOf ∈ tb ∧ Cond.initialized yX3_needOf.cls ∈ tb ∧ Cond.code yX3_needOf cX3_needOf 2 ((some .int)) ∈ tb := ⟨ts4 42 rfl rfl, ts4 43 rfl rfl, ts1 8 rfl rfl, ts4 44 rfl rfl⟩
theorem mdX3_needOf : yX3_needOf.cls ≠ "java/lang/invoke/MethodHandle" ∧ yX3_needOf.cls ≠ "java/lang/invoke/VarHandle" ∧ (parseMethodDescriptor yX3_needOf.desc).map (fun d => d.parameters.length) = some 1 := by decide +kernel
set_option maxRecDepth 200000 in
theorem mwX4_accept : Cond.instanceMethod yX4_accept ∈ tb ∧ Cond.selects yX4_accept.cls yX4_accept yX4_accept ∈ tb ∧ Cond.initialized yX4_accept.cls ∈ tb ∧ Cond.code yX4_accept cX4_accept 2 ((some .boolean)) ∈ tb := ⟨ts3 151 rfl rfl, ts0 10 rfl rfl, ts1 2 rfl rfl, ts3 152 rfl rfl⟩
theorem mdX4_accept : yX4_accept.cls ≠ "java/lang/invoke/MethodHandle" ∧ yX4_accept.cls ≠ "java/lang/invoke/VarHandle" ∧ (parseMethodDescriptor yX4_accept.desc).map (fun d => d.parameters.length) = some 1 := by decide +kernel
set_option maxRecDepth 200000 in
theorem mwX4_begin : Cond.instanceMethod yX4_begin ∈ tb ∧ Cond.selects yX4_begin.cls yX4_begin yX4_begin ∈ tb ∧ Cond.initialized yX4_begin.cls ∈ tb ∧ Cond.code yX4_begin cX4_begin 1 (none) ∈ tb := ⟨ts3 134 rfl rfl, ts0 6 rfl rfl, ts1 2 rfl rfl, ts3 135 rfl rfl⟩
theorem mdX4_begin : yX4_begin.cls ≠ "java/lang/invoke/MethodHandle" ∧ yX4_begin.cls ≠ "java/lang/invoke/VarHandle" ∧ (parseMethodDescriptor yX4_begin.desc).map (fun d => d.parameters.length) = some 0 := by decide +kernel
set_option maxRecDepth 200000 in
theorem mwX4_blame : Cond.instanceMethod yX4_blame ∈ tb ∧ Cond.selects yX4_blame.cls yX4_blame yX4_blame ∈ tb ∧ Cond.initialized yX4_blame.cls ∈ tb ∧ Cond.code yX4_blame cX4_blame 2 (none) ∈ tb := ⟨ts3 147 rfl rfl, ts0 9 rfl rfl, ts1 2 rfl rfl, ts3 148 rfl rfl⟩
theorem mdX4_blame : yX4_blame.cls ≠ "java/lang/invoke/MethodHandle" ∧ yX4_blame.cls ≠ "java/lang/invoke/VarHandle" ∧ (parseMethodDescriptor yX4_blame.desc).map (fun d => d.parameters.length) = some 1 := by decide +kernel
set_option maxRecDepth 200000 in
theorem mwX4_blameLater : Cond.instanceMethod yX4_blameLater ∈ tb ∧ Cond.selects yX4_blameLater.cls yX4_blameLater yX4_blameLater ∈ tb ∧ Cond.initialized yX4_blameLater.cls ∈ tb ∧ Cond.code yX4_blameLater cX4_blameLater 3 (none) ∈ tb := ⟨ts3 170 rfl rfl, ts0 14 rfl rfl, ts1 2 rfl rfl, ts3 171 rfl rfl⟩
theorem mdX4_blameLater : yX4_blameLater.cls ≠ "java/lang/invoke/MethodHandle" ∧ yX4_blameLater.cls ≠ "java/lang/invoke/VarHandle" ∧ (parseMethodDescriptor yX4_blameLater.desc).map (fun d => d.parameters.length) = some 2 := by decide +kernel
set_option maxRecDepth 200000 in
theorem mwX4_layRow : Cond.instanceMethod yX4_layRow ∈ tb ∧ Cond.selects yX4_layRow.cls yX4_layRow yX4_layRow ∈ tb ∧ Cond.initialized yX4_layRow.cls ∈ tb ∧ Cond.code yX4_layRow cX4_layRow 8 (none) ∈ tb := ⟨ts3 163 rfl rfl, ts0 13 rfl rfl, ts1 2 rfl rfl, ts3 164 rfl rfl⟩
theorem mdX4_layRow : yX4_layRow.cls ≠ "java/lang/invoke/MethodHandle" ∧ yX4_layRow.cls ≠ "java/lang/invoke/VarHandle" ∧ (parseMethodDescriptor yX4_layRow.desc).map (fun d => d.parameters.length) = some 2 := by decide +kernel
set_option maxRecDepth 200000 in
theorem mwX4_productCode : Cond.instanceMethod yX4_productCode ∈ tb ∧ Cond.selects yX4_productCode.cls yX4_productCode yX4_productCode ∈ tb ∧ Cond.initialized yX4_productCode.cls ∈ tb ∧ Cond.code yX4_productCode cX4_productCode 1 ((some .int)) ∈ tb := ⟨ts3 208 rfl rfl, ts0 22 rfl rfl, ts1 2 rfl rfl, ts3 209 rfl rfl⟩
theorem mdX4_productCode : yX4_productCode.cls ≠ "java/lang/invoke/MethodHandle" ∧ yX4_productCode.cls ≠ "java/lang/invoke/VarHandle" ∧ (parseMethodDescriptor yX4_productCode.desc).map (fun d => d.parameters.length) = some 0 := by decide +kernel
set_option maxRecDepth 200000 in
theorem mwX4_readField : Cond.instanceMethod yX4_readField ∈ tb ∧ Cond.selects yX4_readField.cls yX4_readField yX4_readField ∈ tb ∧ Cond.initialized yX4_readField.cls ∈ tb ∧ Cond.code yX4_readField cX4_readField 1 (none) ∈ tb := ⟨ts3 178 rfl rfl, ts0 15 rfl rfl, ts1 2 rfl rfl, ts3 179 rfl rfl⟩
theorem mdX4_readField : yX4_readField.cls ≠ "java/lang/invoke/MethodHandle" ∧ yX4_readField.cls ≠ "java/lang/invoke/VarHandle" ∧ (parseMethodDescriptor yX4_readField.desc).map (fun d => d.parameters.length) = some 0 := by decide +kernel
set_option maxRecDepth 200000 in
theorem mwX4_readInt : Cond.instanceMethod yX4_readInt ∈ tb ∧ Cond.selects yX4_readInt.cls yX4_readInt yX4_readInt ∈ tb ∧ Cond.initialized yX4_readInt.cls ∈ tb ∧ Cond.code yX4_readInt cX4_readInt 5 ((some .int)) ∈ tb := ⟨ts3 186 rfl rfl, ts0 17 rfl rfl, ts1 2 rfl rfl, ts3 187 rfl rfl⟩
theorem mdX4_readInt : yX4_readInt.cls ≠ "java/lang/invoke/MethodHandle" ∧ yX4_readInt.cls ≠ "java/lang/invoke/VarHandle" ∧ (parseMethodDescriptor yX4_readInt.desc).map (fun d => d.parameters.length) = some 2 := by decide +kernel
set_option maxRecDepth 200000 in
theorem mwX4_readLaw : Cond.instanceMethod yX4_readLaw ∈ tb ∧ Cond.selects yX4_readLaw.cls yX4_readLaw yX4_readLaw ∈ tb ∧ Cond.initialized yX4_readLaw.cls ∈ tb ∧ Cond.code yX4_readLaw cX4_readLaw 4 (none) ∈ tb := ⟨ts3 194 rfl rfl, ts0 19 rfl rfl, ts1 2 rfl rfl, ts3 195 rfl rfl⟩
theorem mdX4_readLaw : yX4_readLaw.cls ≠ "java/lang/invoke/MethodHandle" ∧ yX4_readLaw.cls ≠ "java/lang/invoke/VarHandle" ∧ (parseMethodDescriptor yX4_readLaw.desc).map (fun d => d.parameters.length) = some 1 := by decide +kernel
set_option maxRecDepth 200000 in
theorem mwX4_readLoom : Cond.instanceMethod yX4_readLoom ∈ tb ∧ Cond.selects yX4_readLoom.cls yX4_readLoom yX4_readLoom ∈ tb ∧ Cond.initialized yX4_readLoom.cls ∈ tb ∧ Cond.code yX4_readLoom cX4_readLoom 1 (none) ∈ tb := ⟨ts3 190 rfl rfl, ts0 18 rfl rfl, ts1 2 rfl rfl, ts3 191 rfl rfl⟩
theorem mdX4_readLoom : yX4_readLoom.cls ≠ "java/lang/invoke/MethodHandle" ∧ yX4_readLoom.cls ≠ "java/lang/invoke/VarHandle" ∧ (parseMethodDescriptor yX4_readLoom.desc).map (fun d => d.parameters.length) = some 0 := by decide +kernel
set_option maxRecDepth 200000 in
theorem mwX4_readName : Cond.instanceMethod yX4_readName ∈ tb ∧ Cond.selects yX4_readName.cls yX4_readName yX4_readName ∈ tb ∧ Cond.initialized yX4_readName.cls ∈ tb ∧ Cond.code yX4_readName cX4_readName 5 (none) ∈ tb := ⟨ts3 182 rfl rfl, ts0 16 rfl rfl, ts1 2 rfl rfl, ts3 183 rfl rfl⟩
theorem mdX4_readName : yX4_readName.cls ≠ "java/lang/invoke/MethodHandle" ∧ yX4_readName.cls ≠ "java/lang/invoke/VarHandle" ∧ (parseMethodDescriptor yX4_readName.desc).map (fun d => d.parameters.length) = some 0 := by decide +kernel
set_option maxRecDepth 200000 in
theorem mwX4_readRow : Cond.instanceMethod yX4_readRow ∈ tb ∧ Cond.selects yX4_readRow.cls yX4_readRow yX4_readRow ∈ tb ∧ Cond.initialized yX4_readRow.cls ∈ tb ∧ Cond.code yX4_readRow cX4_readRow 4 (none) ∈ tb := ⟨ts3 143 rfl rfl, ts0 8 rfl rfl, ts1 2 rfl rfl, ts3 144 rfl rfl⟩
theorem mdX4_readRow : yX4_readRow.cls ≠ "java/lang/invoke/MethodHandle" ∧ yX4_readRow.cls ≠ "java/lang/invoke/VarHandle" ∧ (parseMethodDescriptor yX4_readRow.desc).map (fun d => d.parameters.length) = some 0 := by decide +kernel
set_option maxRecDepth 200000 in
theorem mwX4_readSum : Cond.instanceMethod yX4_readSum ∈ tb ∧ Cond.selects yX4_readSum.cls yX4_readSum yX4_readSum ∈ tb ∧ Cond.initialized yX4_readSum.cls ∈ tb ∧ Cond.code yX4_readSum cX4_readSum 7 (none) ∈ tb := ⟨ts3 199 rfl rfl, ts0 20 rfl rfl, ts1 2 rfl rfl, ts3 200 rfl rfl⟩
theorem mdX4_readSum : yX4_readSum.cls ≠ "java/lang/invoke/MethodHandle" ∧ yX4_readSum.cls ≠ "java/lang/invoke/VarHandle" ∧ (parseMethodDescriptor yX4_readSum.desc).map (fun d => d.parameters.length) = some 2 := by decide +kernel
set_option maxRecDepth 200000 in
theorem mwX4_readTell : Cond.instanceMethod yX4_readTell ∈ tb ∧ Cond.selects yX4_readTell.cls yX4_readTell yX4_readTell ∈ tb ∧ Cond.initialized yX4_readTell.cls ∈ tb ∧ Cond.code yX4_readTell cX4_readTell 1 (none) ∈ tb := ⟨ts3 139 rfl rfl, ts0 7 rfl rfl, ts1 2 rfl rfl, ts3 140 rfl rfl⟩
theorem mdX4_readTell : yX4_readTell.cls ≠ "java/lang/invoke/MethodHandle" ∧ yX4_readTell.cls ≠ "java/lang/invoke/VarHandle" ∧ (parseMethodDescriptor yX4_readTell.desc).map (fun d => d.parameters.length) = some 0 := by decide +kernel
set_option maxRecDepth 200000 in
theorem mwX4_readText : Cond.instanceMethod yX4_readText ∈ tb ∧ Cond.selects yX4_readText.cls yX4_readText yX4_readText ∈ tb ∧ Cond.initialized yX4_readText.cls ∈ tb ∧ Cond.code yX4_readText cX4_readText 4 ((some .int)) ∈ tb := ⟨ts3 39 rfl rfl, ts3 40 rfl rfl, ts1 2 rfl rfl, ts3 41 rfl rfl⟩
theorem mdX4_readText : yX4_readText.cls ≠ "java/lang/invoke/MethodHandle" ∧ yX4_readText.cls ≠ "java/lang/invoke/VarHandle" ∧ (parseMethodDescriptor yX4_readText.desc).map (fun d => d.parameters.length) = some 2 := by decide +kernel
set_option maxRecDepth 200000 in
theorem mwX4_readUnit : Cond.instanceMethod yX4_readUnit ∈ tb ∧ Cond.selects yX4_readUnit.cls yX4_readUnit yX4_readUnit ∈ tb ∧ Cond.initialized yX4_readUnit.cls ∈ tb ∧ Cond.code yX4_readUnit cX4_readUnit 3 (none) ∈ tb := ⟨ts3 203 rfl rfl, ts0 21 rfl rfl, ts1 2 rfl rfl, ts3 204 rfl rfl⟩
theorem mdX4_readUnit : yX4_readUnit.cls ≠ "java/lang/invoke/MethodHandle" ∧ yX4_readUnit.cls ≠ "java/lang/invoke/VarHandle" ∧ (parseMethodDescriptor yX4_readUnit.desc).map (fun d => d.parameters.length) = some 2 := by decide +kernel
set_option maxRecDepth 200000 in
theorem mwX4_start : Cond.instanceMethod yX4_start ∈ tb ∧ Cond.selects yX4_start.cls yX4_start yX4_start ∈ tb ∧ Cond.initialized yX4_start.cls ∈ tb ∧ Cond.code yX4_start cX4_start 1 ((some .int)) ∈ tb := ⟨ts3 159 rfl rfl, ts0 12 rfl rfl, ts1 2 rfl rfl, ts3 160 rfl rfl⟩
theorem mdX4_start : yX4_start.cls ≠ "java/lang/invoke/MethodHandle" ∧ yX4_start.cls ≠ "java/lang/invoke/VarHandle" ∧ (parseMethodDescriptor yX4_start.desc).map (fun d => d.parameters.length) = some 0 := by decide +kernel
set_option maxRecDepth 200000 in
theorem mwX4_sumCode : Cond.instanceMethod yX4_sumCode ∈ tb ∧ Cond.selects yX4_sumCode.cls yX4_sumCode yX4_sumCode ∈ tb ∧ Cond.initialized yX4_sumCode.cls ∈ tb ∧ Cond.code yX4_sumCode cX4_sumCode 1 ((some .int)) ∈ tb := ⟨ts3 212 rfl rfl, ts0 23 rfl rfl, ts1 2 rfl rfl, ts3 213 rfl rfl⟩
theorem mdX4_sumCode : yX4_sumCode.cls ≠ "java/lang/invoke/MethodHandle" ∧ yX4_sumCode.cls ≠ "java/lang/invoke/VarHandle" ∧ (parseMethodDescriptor yX4_sumCode.desc).map (fun d => d.parameters.length) = some 0 := by decide +kernel
set_option maxRecDepth 200000 in
theorem mwX4_value : Cond.instanceMethod yX4_value ∈ tb ∧ Cond.selects yX4_value.cls yX4_value yX4_value ∈ tb ∧ Cond.initialized yX4_value.cls ∈ tb ∧ Cond.code yX4_value cX4_value 1 ((some .long)) ∈ tb := ⟨ts3 155 rfl rfl, ts0 11 rfl rfl, ts1 2 rfl rfl, ts3 156 rfl rfl⟩
theorem mdX4_value : yX4_value.cls ≠ "java/lang/invoke/MethodHandle" ∧ yX4_value.cls ≠ "java/lang/invoke/VarHandle" ∧ (parseMethodDescriptor yX4_value.desc).map (fun d => d.parameters.length) = some 0 := by decide +kernel
set_option maxRecDepth 200000 in
theorem mwX5_addPart : Cond.instanceMethod yX5_addPart ∈ tb ∧ Cond.selects yX5_addPart.cls yX5_addPart yX5_addPart ∈ tb ∧ Cond.initialized yX5_addPart.cls ∈ tb ∧ Cond.code yX5_addPart cX5_addPart 4 (none) ∈ tb := ⟨ts2 205 rfl rfl, ts2 206 rfl rfl, ts1 12 rfl rfl, ts2 207 rfl rfl⟩
theorem mdX5_addPart : yX5_addPart.cls ≠ "java/lang/invoke/MethodHandle" ∧ yX5_addPart.cls ≠ "java/lang/invoke/VarHandle" ∧ (parseMethodDescriptor yX5_addPart.desc).map (fun d => d.parameters.length) = some 3 := by decide +kernel
set_option maxRecDepth 200000 in
theorem mwX5_begin : Cond.instanceMethod yX5_begin ∈ tb ∧ Cond.selects yX5_begin.cls yX5_begin yX5_begin ∈ tb ∧ Cond.initialized yX5_begin.cls ∈ tb ∧ Cond.code yX5_begin cX5_begin 3 (none) ∈ tb := ⟨ts2 200 rfl rfl, ts2 201 rfl rfl, ts1 12 rfl rfl, ts2 202 rfl rfl⟩
theorem mdX5_begin : yX5_begin.cls ≠ "java/lang/invoke/MethodHandle" ∧ yX5_begin.cls ≠ "java/lang/invoke/VarHandle" ∧ (parseMethodDescriptor yX5_begin.desc).map (fun d => d.parameters.length) = some 1 := by decide +kernel
set_option maxRecDepth 200000 in
theorem mwX5_copy : Cond.instanceMethod yX5_copy ∈ tb ∧ Cond.selects yX5_copy.cls yX5_copy yX5_copy ∈ tb ∧ Cond.initialized yX5_copy.cls ∈ tb ∧ Cond.code yX5_copy cX5_copy 2 ((some (.object RX5))) ∈ tb := ⟨ts4 116 rfl rfl, ts4 117 rfl rfl, ts1 12 rfl rfl, ts4 118 rfl rfl⟩
theorem mdX5_copy : yX5_copy.cls ≠ "java/lang/invoke/MethodHandle" ∧ yX5_copy.cls ≠ "java/lang/invoke/VarHandle" ∧ (parseMethodDescriptor yX5_copy.desc).map (fun d => d.parameters.length) = some 1 := by decide +kernel
set_option maxRecDepth 200000 in
theorem mwX5_hasOrder : Cond.instanceMethod yX5_hasOrder ∈ tb ∧ Cond.selects yX5_hasOrder.cls yX5_hasOrder yX5_hasOrder ∈ tb ∧ Cond.initialized yX5_hasOrder.cls ∈ tb ∧ Cond.code yX5_hasOrder cX5_hasOrder 2 ((some .boolean)) ∈ tb := ⟨ts4 129 rfl rfl, ts4 130 rfl rfl, ts1 12 rfl rfl, ts4 131 rfl rfl⟩
theorem mdX5_hasOrder : yX5_hasOrder.cls ≠ "java/lang/invoke/MethodHandle" ∧ yX5_hasOrder.cls ≠ "java/lang/invoke/VarHandle" ∧ (parseMethodDescriptor yX5_hasOrder.desc).map (fun d => d.parameters.length) = some 1 := by decide +kernel
set_option maxRecDepth 200000 in
theorem mwX5_isOrdered : Cond.instanceMethod yX5_isOrdered ∈ tb ∧ Cond.selects yX5_isOrdered.cls yX5_isOrdered yX5_isOrdered ∈ tb ∧ Cond.initialized yX5_isOrdered.cls ∈ tb ∧ Cond.code yX5_isOrdered cX5_isOrdered 6 ((some .boolean)) ∈ tb := ⟨ts4 108 rfl rfl, ts4 109 rfl rfl, ts1 12 rfl rfl, ts4 110 rfl rfl⟩
theorem mdX5_isOrdered : yX5_isOrdered.cls ≠ "java/lang/invoke/MethodHandle" ∧ yX5_isOrdered.cls ≠ "java/lang/invoke/VarHandle" ∧ (parseMethodDescriptor yX5_isOrdered.desc).map (fun d => d.parameters.length) = some 5 := by decide +kernel
set_option maxRecDepth 200000 in
theorem mwX5_isPart : Cond.static yX5_isPart ∈ tb ∧ Cond.initialized yX5_isPart.cls ∈ tb ∧ Cond.code yX5_isPart cX5_isPart 2 ((some .boolean)) ∈ tb := ⟨ts2 209 rfl rfl, ts1 12 rfl rfl, ts2 210 rfl rfl⟩
theorem mdX5_isPart : yX5_isPart.cls ≠ "java/lang/invoke/MethodHandle" ∧ yX5_isPart.cls ≠ "java/lang/invoke/VarHandle" ∧ (parseMethodDescriptor yX5_isPart.desc).map (fun d => d.parameters.length) = some 2 := by decide +kernel
set_option maxRecDepth 200000 in
theorem mwX5_part : Cond.instanceMethod yX5_part ∈ tb ∧ Cond.selects yX5_part.cls yX5_part yX5_part ∈ tb ∧ Cond.initialized yX5_part.cls ∈ tb ∧ Cond.code yX5_part cX5_part 3 ((some .int)) ∈ tb := ⟨ts4 54 rfl rfl, ts4 55 rfl rfl, ts1 12 rfl rfl, ts4 56 rfl rfl⟩
theorem mdX5_part : yX5_part.cls ≠ "java/lang/invoke/MethodHandle" ∧ yX5_part.cls ≠ "java/lang/invoke/VarHandle" ∧ (parseMethodDescriptor yX5_part.desc).map (fun d => d.parameters.length) = some 2 := by decide +kernel
set_option maxRecDepth 200000 in
theorem mwX5_setOrder : Cond.instanceMethod yX5_setOrder ∈ tb ∧ Cond.selects yX5_setOrder.cls yX5_setOrder yX5_setOrder ∈ tb ∧ Cond.initialized yX5_setOrder.cls ∈ tb ∧ Cond.code yX5_setOrder cX5_setOrder 6 (none) ∈ tb := ⟨ts2 212 rfl rfl, ts2 213 rfl rfl, ts1 12 rfl rfl, ts2 214 rfl rfl⟩
theorem mdX5_setOrder : yX5_setOrder.cls ≠ "java/lang/invoke/MethodHandle" ∧ yX5_setOrder.cls ≠ "java/lang/invoke/VarHandle" ∧ (parseMethodDescriptor yX5_setOrder.desc).map (fun d => d.parameters.length) = some 5 := by decide +kernel
set_option maxRecDepth 200000 in
theorem mwX5_setPart : Cond.instanceMethod yX5_setPart ∈ tb ∧ Cond.selects yX5_setPart.cls yX5_setPart yX5_setPart ∈ tb ∧ Cond.initialized yX5_setPart.cls ∈ tb ∧ Cond.code yX5_setPart cX5_setPart 4 (none) ∈ tb := ⟨ts2 217 rfl rfl, ts0 0 rfl rfl, ts1 12 rfl rfl, ts2 218 rfl rfl⟩
theorem mdX5_setPart : yX5_setPart.cls ≠ "java/lang/invoke/MethodHandle" ∧ yX5_setPart.cls ≠ "java/lang/invoke/VarHandle" ∧ (parseMethodDescriptor yX5_setPart.desc).map (fun d => d.parameters.length) = some 3 := by decide +kernel
set_option maxRecDepth 200000 in
theorem mwX5_sum : Cond.static yX5_sum ∈ tb ∧ Cond.initialized yX5_sum.cls ∈ tb ∧ Cond.code yX5_sum cX5_sum 3 ((some .int)) ∈ tb := ⟨ts4 88 rfl rfl, ts1 12 rfl rfl, ts4 89 rfl rfl⟩
theorem mdX5_sum : yX5_sum.cls ≠ "java/lang/invoke/MethodHandle" ∧ yX5_sum.cls ≠ "java/lang/invoke/VarHandle" ∧ (parseMethodDescriptor yX5_sum.desc).map (fun d => d.parameters.length) = some 1 := by decide +kernel
set_option maxRecDepth 200000 in
theorem mwX5_waterAt : Cond.instanceMethod yX5_waterAt ∈ tb ∧ Cond.selects yX5_waterAt.cls yX5_waterAt yX5_waterAt ∈ tb ∧ Cond.initialized yX5_waterAt.cls ∈ tb ∧ Cond.code yX5_waterAt cX5_waterAt 4 ((some .int)) ∈ tb := ⟨ts4 17 rfl rfl, ts4 18 rfl rfl, ts1 12 rfl rfl, ts4 19 rfl rfl⟩
theorem mdX5_waterAt : yX5_waterAt.cls ≠ "java/lang/invoke/MethodHandle" ∧ yX5_waterAt.cls ≠ "java/lang/invoke/VarHandle" ∧ (parseMethodDescriptor yX5_waterAt.desc).map (fun d => d.parameters.length) = some 2 := by decide +kernel
set_option maxRecDepth 200000 in
theorem mwX5_waterOf : Cond.instanceMethod yX5_waterOf ∈ tb ∧ Cond.selects yX5_waterOf.cls yX5_waterOf yX5_waterOf ∈ tb ∧ Cond.initialized yX5_waterOf.cls ∈ tb ∧ Cond.code yX5_waterOf cX5_waterOf 5 ((some .int)) ∈ tb := ⟨ts4 38 rfl rfl, ts4 39 rfl rfl, ts1 12 rfl rfl, ts4 40 rfl rfl⟩
theorem mdX5_waterOf : yX5_waterOf.cls ≠ "java/lang/invoke/MethodHandle" ∧ yX5_waterOf.cls ≠ "java/lang/invoke/VarHandle" ∧ (parseMethodDescriptor yX5_waterOf.desc).map (fun d => d.parameters.length) = some 2 := by decide +kernel
set_option maxRecDepth 200000 in
theorem mwX5_woven : Cond.instanceMethod yX5_woven ∈ tb ∧ Cond.selects yX5_woven.cls yX5_woven yX5_woven ∈ tb ∧ Cond.initialized yX5_woven.cls ∈ tb ∧ Cond.code yX5_woven cX5_woven 3 ((some .int)) ∈ tb := ⟨ts4 91 rfl rfl, ts4 92 rfl rfl, ts1 12 rfl rfl, ts4 93 rfl rfl⟩
theorem mdX5_woven : yX5_woven.cls ≠ "java/lang/invoke/MethodHandle" ∧ yX5_woven.cls ≠ "java/lang/invoke/VarHandle" ∧ (parseMethodDescriptor yX5_woven.desc).map (fun d => d.parameters.length) = some 0 := by decide +kernel
set_option maxRecDepth 200000 in
theorem mwX6_isBlank : Cond.static yX6_isBlank ∈ tb ∧ Cond.initialized yX6_isBlank.cls ∈ tb ∧ Cond.code yX6_isBlank cX6_isBlank 1 ((some .boolean)) ∈ tb := ⟨ts3 50 rfl rfl, ts1 3 rfl rfl, ts3 51 rfl rfl⟩
theorem mdX6_isBlank : yX6_isBlank.cls ≠ "java/lang/invoke/MethodHandle" ∧ yX6_isBlank.cls ≠ "java/lang/invoke/VarHandle" ∧ (parseMethodDescriptor yX6_isBlank.desc).map (fun d => d.parameters.length) = some 1 := by decide +kernel
set_option maxRecDepth 200000 in
theorem mwX6_isDigit : Cond.static yX6_isDigit ∈ tb ∧ Cond.initialized yX6_isDigit.cls ∈ tb ∧ Cond.code yX6_isDigit cX6_isDigit 1 ((some .boolean)) ∈ tb := ⟨ts3 64 rfl rfl, ts1 3 rfl rfl, ts3 65 rfl rfl⟩
theorem mdX6_isDigit : yX6_isDigit.cls ≠ "java/lang/invoke/MethodHandle" ∧ yX6_isDigit.cls ≠ "java/lang/invoke/VarHandle" ∧ (parseMethodDescriptor yX6_isDigit.desc).map (fun d => d.parameters.length) = some 1 := by decide +kernel
set_option maxRecDepth 200000 in
theorem mwX6_isLetter : Cond.static yX6_isLetter ∈ tb ∧ Cond.initialized yX6_isLetter.cls ∈ tb ∧ Cond.code yX6_isLetter cX6_isLetter 1 ((some .boolean)) ∈ tb := ⟨ts3 53 rfl rfl, ts1 3 rfl rfl, ts3 54 rfl rfl⟩
theorem mdX6_isLetter : yX6_isLetter.cls ≠ "java/lang/invoke/MethodHandle" ∧ yX6_isLetter.cls ≠ "java/lang/invoke/VarHandle" ∧ (parseMethodDescriptor yX6_isLetter.desc).map (fun d => d.parameters.length) = some 1 := by decide +kernel
set_option maxRecDepth 200000 in
theorem mwX6_lengthOf : Cond.static yX6_lengthOf ∈ tb ∧ Cond.initialized yX6_lengthOf.cls ∈ tb ∧ Cond.code yX6_lengthOf cX6_lengthOf 3 ((some .int)) ∈ tb := ⟨ts3 166 rfl rfl, ts1 3 rfl rfl, ts3 167 rfl rfl⟩
theorem mdX6_lengthOf : yX6_lengthOf.cls ≠ "java/lang/invoke/MethodHandle" ∧ yX6_lengthOf.cls ≠ "java/lang/invoke/VarHandle" ∧ (parseMethodDescriptor yX6_lengthOf.desc).map (fun d => d.parameters.length) = some 1 := by decide +kernel
set_option maxRecDepth 200000 in
theorem mwX6_letterAt : Cond.static yX6_letterAt ∈ tb ∧ Cond.initialized yX6_letterAt.cls ∈ tb ∧ Cond.code yX6_letterAt cX6_letterAt 3 ((some .int)) ∈ tb := ⟨ts3 173 rfl rfl, ts1 3 rfl rfl, ts3 174 rfl rfl⟩
theorem mdX6_letterAt : yX6_letterAt.cls ≠ "java/lang/invoke/MethodHandle" ∧ yX6_letterAt.cls ≠ "java/lang/invoke/VarHandle" ∧ (parseMethodDescriptor yX6_letterAt.desc).map (fun d => d.parameters.length) = some 2 := by decide +kernel
set_option maxRecDepth 200000 in
theorem mwX6_nameWith : Cond.static yX6_nameWith ∈ tb ∧ Cond.initialized yX6_nameWith.cls ∈ tb ∧ Cond.code yX6_nameWith cX6_nameWith 3 ((some .long)) ∈ tb := ⟨ts1 90 rfl rfl, ts1 3 rfl rfl, ts1 91 rfl rfl⟩
theorem mdX6_nameWith : yX6_nameWith.cls ≠ "java/lang/invoke/MethodHandle" ∧ yX6_nameWith.cls ≠ "java/lang/invoke/VarHandle" ∧ (parseMethodDescriptor yX6_nameWith.desc).map (fun d => d.parameters.length) = some 2 := by decide +kernel
set_option maxRecDepth 200000 in
theorem mwX6_put : Cond.instanceMethod yX6_put ∈ tb ∧ Cond.selects yX6_put.cls yX6_put yX6_put ∈ tb ∧ Cond.initialized yX6_put.cls ∈ tb ∧ Cond.code yX6_put cX6_put 5 (none) ∈ tb := ⟨ts3 61 rfl rfl, ts0 3 rfl rfl, ts1 3 rfl rfl, ts3 62 rfl rfl⟩
theorem mdX6_put : yX6_put.cls ≠ "java/lang/invoke/MethodHandle" ∧ yX6_put.cls ≠ "java/lang/invoke/VarHandle" ∧ (parseMethodDescriptor yX6_put.desc).map (fun d => d.parameters.length) = some 3 := by decide +kernel
set_option maxRecDepth 200000 in
theorem mwX6_scan : Cond.instanceMethod yX6_scan ∈ tb ∧ Cond.selects yX6_scan.cls yX6_scan yX6_scan ∈ tb ∧ Cond.initialized yX6_scan.cls ∈ tb ∧ Cond.code yX6_scan cX6_scan 7 (none) ∈ tb := ⟨ts3 43 rfl rfl, ts3 44 rfl rfl, ts1 3 rfl rfl, ts3 45 rfl rfl⟩
theorem mdX6_scan : yX6_scan.cls ≠ "java/lang/invoke/MethodHandle" ∧ yX6_scan.cls ≠ "java/lang/invoke/VarHandle" ∧ (parseMethodDescriptor yX6_scan.desc).map (fun d => d.parameters.length) = some 2 := by decide +kernel
set_option maxRecDepth 200000 in
theorem mwX6_takeDigits : Cond.instanceMethod yX6_takeDigits ∈ tb ∧ Cond.selects yX6_takeDigits.cls yX6_takeDigits yX6_takeDigits ∈ tb ∧ Cond.initialized yX6_takeDigits.cls ∈ tb ∧ Cond.code yX6_takeDigits cX6_takeDigits 6 ((some .int)) ∈ tb := ⟨ts3 68 rfl rfl, ts0 4 rfl rfl, ts1 3 rfl rfl, ts3 69 rfl rfl⟩
theorem mdX6_takeDigits : yX6_takeDigits.cls ≠ "java/lang/invoke/MethodHandle" ∧ yX6_takeDigits.cls ≠ "java/lang/invoke/VarHandle" ∧ (parseMethodDescriptor yX6_takeDigits.desc).map (fun d => d.parameters.length) = some 3 := by decide +kernel
set_option maxRecDepth 200000 in
theorem mwX6_takeLetters : Cond.instanceMethod yX6_takeLetters ∈ tb ∧ Cond.selects yX6_takeLetters.cls yX6_takeLetters yX6_takeLetters ∈ tb ∧ Cond.initialized yX6_takeLetters.cls ∈ tb ∧ Cond.code yX6_takeLetters cX6_takeLetters 9 ((some .int)) ∈ tb := ⟨ts3 57 rfl rfl, ts0 2 rfl rfl, ts1 3 rfl rfl, ts3 58 rfl rfl⟩
theorem mdX6_takeLetters : yX6_takeLetters.cls ≠ "java/lang/invoke/MethodHandle" ∧ yX6_takeLetters.cls ≠ "java/lang/invoke/VarHandle" ∧ (parseMethodDescriptor yX6_takeLetters.desc).map (fun d => d.parameters.length) = some 3 := by decide +kernel
set_option maxRecDepth 200000 in
theorem mwX6_takeSign : Cond.instanceMethod yX6_takeSign ∈ tb ∧ Cond.selects yX6_takeSign.cls yX6_takeSign yX6_takeSign ∈ tb ∧ Cond.initialized yX6_takeSign.cls ∈ tb ∧ Cond.code yX6_takeSign cX6_takeSign 4 ((some .int)) ∈ tb := ⟨ts3 72 rfl rfl, ts0 5 rfl rfl, ts1 3 rfl rfl, ts3 73 rfl rfl⟩
theorem mdX6_takeSign : yX6_takeSign.cls ≠ "java/lang/invoke/MethodHandle" ∧ yX6_takeSign.cls ≠ "java/lang/invoke/VarHandle" ∧ (parseMethodDescriptor yX6_takeSign.desc).map (fun d => d.parameters.length) = some 2 := by decide +kernel
set_option maxRecDepth 200000 in
theorem mwX7_begin : Cond.instanceMethod yX7_begin ∈ tb ∧ Cond.selects yX7_begin.cls yX7_begin yX7_begin ∈ tb ∧ Cond.initialized yX7_begin.cls ∈ tb ∧ Cond.code yX7_begin cX7_begin 2 (none) ∈ tb := ⟨ts3 227 rfl rfl, ts3 228 rfl rfl, ts1 11 rfl rfl, ts3 229 rfl rfl⟩
theorem mdX7_begin : yX7_begin.cls ≠ "java/lang/invoke/MethodHandle" ∧ yX7_begin.cls ≠ "java/lang/invoke/VarHandle" ∧ (parseMethodDescriptor yX7_begin.desc).map (fun d => d.parameters.length) = some 1 := by decide +kernel
set_option maxRecDepth 200000 in
theorem mwX7_bitsOf : Cond.static yX7_bitsOf ∈ tb ∧ Cond.initialized yX7_bitsOf.cls ∈ tb ∧ Cond.code yX7_bitsOf cX7_bitsOf 4 ((some .int)) ∈ tb := ⟨ts4 220 rfl rfl, ts1 11 rfl rfl, ts4 221 rfl rfl⟩
theorem mdX7_bitsOf : yX7_bitsOf.cls ≠ "java/lang/invoke/MethodHandle" ∧ yX7_bitsOf.cls ≠ "java/lang/invoke/VarHandle" ∧ (parseMethodDescriptor yX7_bitsOf.desc).map (fun d => d.parameters.length) = some 2 := by decide +kernel
set_option maxRecDepth 200000 in
theorem mwX7_dryCells : Cond.instanceMethod yX7_dryCells ∈ tb ∧ Cond.selects yX7_dryCells.cls yX7_dryCells yX7_dryCells ∈ tb ∧ Cond.initialized yX7_dryCells.cls ∈ tb ∧ Cond.code yX7_dryCells cX7_dryCells 5 (none) ∈ tb := ⟨ts4 186 rfl rfl, ts0 29 rfl rfl, ts1 11 rfl rfl, ts4 187 rfl rfl⟩
theorem mdX7_dryCells : yX7_dryCells.cls ≠ "java/lang/invoke/MethodHandle" ∧ yX7_dryCells.cls ≠ "java/lang/invoke/VarHandle" ∧ (parseMethodDescriptor yX7_dryCells.desc).map (fun d => d.parameters.length) = some 1 := by decide +kernel
set_option maxRecDepth 200000 in
theorem mwX7_emptyThreads : Cond.instanceMethod yX7_emptyThreads ∈ tb ∧ Cond.selects yX7_emptyThreads.cls yX7_emptyThreads yX7_emptyThreads ∈ tb ∧ Cond.initialized yX7_emptyThreads.cls ∈ tb ∧ Cond.code yX7_emptyThreads cX7_emptyThreads 5 ((some .int)) ∈ tb := ⟨ts4 212 rfl rfl, ts4 213 rfl rfl, ts1 11 rfl rfl, ts4 214 rfl rfl⟩
theorem mdX7_emptyThreads : yX7_emptyThreads.cls ≠ "java/lang/invoke/MethodHandle" ∧ yX7_emptyThreads.cls ≠ "java/lang/invoke/VarHandle" ∧ (parseMethodDescriptor yX7_emptyThreads.desc).map (fun d => d.parameters.length) = some 2 := by decide +kernel
set_option maxRecDepth 200000 in
theorem mwX7_endDay : Cond.instanceMethod yX7_endDay ∈ tb ∧ Cond.selects yX7_endDay.cls yX7_endDay yX7_endDay ∈ tb ∧ Cond.initialized yX7_endDay.cls ∈ tb ∧ Cond.code yX7_endDay cX7_endDay 2 (none) ∈ tb := ⟨ts4 192 rfl rfl, ts0 30 rfl rfl, ts1 11 rfl rfl, ts4 193 rfl rfl⟩
theorem mdX7_endDay : yX7_endDay.cls ≠ "java/lang/invoke/MethodHandle" ∧ yX7_endDay.cls ≠ "java/lang/invoke/VarHandle" ∧ (parseMethodDescriptor yX7_endDay.desc).map (fun d => d.parameters.length) = some 1 := by decide +kernel
set_option maxRecDepth 200000 in
theorem mwX7_gain : Cond.instanceMethod yX7_gain ∈ tb ∧ Cond.selects yX7_gain.cls yX7_gain yX7_gain ∈ tb ∧ Cond.initialized yX7_gain.cls ∈ tb ∧ Cond.code yX7_gain cX7_gain 12 ((some .int)) ∈ tb := ⟨ts5 3 rfl rfl, ts5 4 rfl rfl, ts1 11 rfl rfl, ts5 5 rfl rfl⟩
theorem mdX7_gain : yX7_gain.cls ≠ "java/lang/invoke/MethodHandle" ∧ yX7_gain.cls ≠ "java/lang/invoke/VarHandle" ∧ (parseMethodDescriptor yX7_gain.desc).map (fun d => d.parameters.length) = some 5 := by decide +kernel
set_option maxRecDepth 200000 in
theorem mwX7_letFall : Cond.instanceMethod yX7_letFall ∈ tb ∧ Cond.selects yX7_letFall.cls yX7_letFall yX7_letFall ∈ tb ∧ Cond.initialized yX7_letFall.cls ∈ tb ∧ Cond.code yX7_letFall cX7_letFall 10 ((some .int)) ∈ tb := ⟨ts4 137 rfl rfl, ts4 138 rfl rfl, ts1 11 rfl rfl, ts4 139 rfl rfl⟩
theorem mdX7_letFall : yX7_letFall.cls ≠ "java/lang/invoke/MethodHandle" ∧ yX7_letFall.cls ≠ "java/lang/invoke/VarHandle" ∧ (parseMethodDescriptor yX7_letFall.desc).map (fun d => d.parameters.length) = some 6 := by decide +kernel
set_option maxRecDepth 200000 in
theorem mwX7_letOrdersFall : Cond.instanceMethod yX7_letOrdersFall ∈ tb ∧ Cond.selects yX7_letOrdersFall.cls yX7_letOrdersFall yX7_letOrdersFall ∈ tb ∧ Cond.initialized yX7_letOrdersFall.cls ∈ tb ∧ Cond.code yX7_letOrdersFall cX7_letOrdersFall 5 (none) ∈ tb := ⟨ts4 167 rfl rfl, ts0 27 rfl rfl, ts1 11 rfl rfl, ts4 168 rfl rfl⟩
theorem mdX7_letOrdersFall : yX7_letOrdersFall.cls ≠ "java/lang/invoke/MethodHandle" ∧ yX7_letOrdersFall.cls ≠ "java/lang/invoke/VarHandle" ∧ (parseMethodDescriptor yX7_letOrdersFall.desc).map (fun d => d.parameters.length) = some 2 := by decide +kernel
set_option maxRecDepth 200000 in
theorem mwX7_lot : Cond.static yX7_lot ∈ tb ∧ Cond.initialized yX7_lot.cls ∈ tb ∧ Cond.code yX7_lot cX7_lot 4 ((some .int)) ∈ tb := ⟨ts4 171 rfl rfl, ts1 11 rfl rfl, ts4 172 rfl rfl⟩
theorem mdX7_lot : yX7_lot.cls ≠ "java/lang/invoke/MethodHandle" ∧ yX7_lot.cls ≠ "java/lang/invoke/VarHandle" ∧ (parseMethodDescriptor yX7_lot.desc).map (fun d => d.parameters.length) = some 3 := by decide +kernel
set_option maxRecDepth 200000 in
theorem mwX7_mix : Cond.static yX7_mix ∈ tb ∧ Cond.initialized yX7_mix.cls ∈ tb ∧ Cond.code yX7_mix cX7_mix 3 ((some .int)) ∈ tb := ⟨ts4 174 rfl rfl, ts1 11 rfl rfl, ts4 175 rfl rfl⟩
theorem mdX7_mix : yX7_mix.cls ≠ "java/lang/invoke/MethodHandle" ∧ yX7_mix.cls ≠ "java/lang/invoke/VarHandle" ∧ (parseMethodDescriptor yX7_mix.desc).map (fun d => d.parameters.length) = some 2 := by decide +kernel
set_option maxRecDepth 200000 in
theorem mwX7_narrowed : Cond.static yX7_narrowed ∈ tb ∧ Cond.initialized yX7_narrowed.cls ∈ tb ∧ Cond.code yX7_narrowed cX7_narrowed 2 ((some .int)) ∈ tb := ⟨ts4 236 rfl rfl, ts1 11 rfl rfl, ts4 237 rfl rfl⟩
theorem mdX7_narrowed : yX7_narrowed.cls ≠ "java/lang/invoke/MethodHandle" ∧ yX7_narrowed.cls ≠ "java/lang/invoke/VarHandle" ∧ (parseMethodDescriptor yX7_narrowed.desc).map (fun d => d.parameters.length) = some 2 := by decide +kernel
set_option maxRecDepth 200000 in
theorem mwX7_passDays : Cond.instanceMethod yX7_passDays ∈ tb ∧ Cond.selects yX7_passDays.cls yX7_passDays yX7_passDays ∈ tb ∧ Cond.initialized yX7_passDays.cls ∈ tb ∧ Cond.code yX7_passDays cX7_passDays 5 (none) ∈ tb := ⟨ts4 162 rfl rfl, ts4 163 rfl rfl, ts1 11 rfl rfl, ts4 164 rfl rfl⟩
theorem mdX7_passDays : yX7_passDays.cls ≠ "java/lang/invoke/MethodHandle" ∧ yX7_passDays.cls ≠ "java/lang/invoke/VarHandle" ∧ (parseMethodDescriptor yX7_passDays.desc).map (fun d => d.parameters.length) = some 3 := by decide +kernel
set_option maxRecDepth 200000 in
theorem mwX7_passStoreDay : Cond.instanceMethod yX7_passStoreDay ∈ tb ∧ Cond.selects yX7_passStoreDay.cls yX7_passStoreDay yX7_passStoreDay ∈ tb ∧ Cond.initialized yX7_passStoreDay.cls ∈ tb ∧ Cond.code yX7_passStoreDay cX7_passStoreDay 2 (none) ∈ tb := ⟨ts5 110 rfl rfl, ts5 111 rfl rfl, ts1 11 rfl rfl, ts5 112 rfl rfl⟩
theorem mdX7_passStoreDay : yX7_passStoreDay.cls ≠ "java/lang/invoke/MethodHandle" ∧ yX7_passStoreDay.cls ≠ "java/lang/invoke/VarHandle" ∧ (parseMethodDescriptor yX7_passStoreDay.desc).map (fun d => d.parameters.length) = some 1 := by decide +kernel
set_option maxRecDepth 200000 in
theorem mwX7_rowAt : Cond.instanceMethod yX7_rowAt ∈ tb ∧ Cond.selects yX7_rowAt.cls yX7_rowAt yX7_rowAt ∈ tb ∧ Cond.initialized yX7_rowAt.cls ∈ tb ∧ Cond.code yX7_rowAt cX7_rowAt 7 ((some .int)) ∈ tb := ⟨ts4 62 rfl rfl, ts4 63 rfl rfl, ts1 11 rfl rfl, ts4 64 rfl rfl⟩
theorem mdX7_rowAt : yX7_rowAt.cls ≠ "java/lang/invoke/MethodHandle" ∧ yX7_rowAt.cls ≠ "java/lang/invoke/VarHandle" ∧ (parseMethodDescriptor yX7_rowAt.desc).map (fun d => d.parameters.length) = some 2 := by decide +kernel
set_option maxRecDepth 200000 in
theorem mwX7_tally : Cond.instanceMethod yX7_tally ∈ tb ∧ Cond.selects yX7_tally.cls yX7_tally yX7_tally ∈ tb ∧ Cond.initialized yX7_tally.cls ∈ tb ∧ Cond.code yX7_tally cX7_tally 4 (none) ∈ tb := ⟨ts4 180 rfl rfl, ts0 28 rfl rfl, ts1 11 rfl rfl, ts4 181 rfl rfl⟩
theorem mdX7_tally : yX7_tally.cls ≠ "java/lang/invoke/MethodHandle" ∧ yX7_tally.cls ≠ "java/lang/invoke/VarHandle" ∧ (parseMethodDescriptor yX7_tally.desc).map (fun d => d.parameters.length) = some 1 := by decide +kernel
set_option maxRecDepth 200000 in
theorem mwX7_threadOf : Cond.static yX7_threadOf ∈ tb ∧ Cond.initialized yX7_threadOf.cls ∈ tb ∧ Cond.code yX7_threadOf cX7_threadOf 2 ((some .int)) ∈ tb := ⟨ts4 77 rfl rfl, ts1 11 rfl rfl, ts4 78 rfl rfl⟩
theorem mdX7_threadOf : yX7_threadOf.cls ≠ "java/lang/invoke/MethodHandle" ∧ yX7_threadOf.cls ≠ "java/lang/invoke/VarHandle" ∧ (parseMethodDescriptor yX7_threadOf.desc).map (fun d => d.parameters.length) = some 2 := by decide +kernel
set_option maxRecDepth 200000 in
theorem mwX7_weave : Cond.instanceMethod yX7_weave ∈ tb ∧ Cond.selects yX7_weave.cls yX7_weave yX7_weave ∈ tb ∧ Cond.initialized yX7_weave.cls ∈ tb ∧ Cond.code yX7_weave cX7_weave 11 (none) ∈ tb := ⟨ts4 142 rfl rfl, ts4 143 rfl rfl, ts1 11 rfl rfl, ts4 144 rfl rfl⟩
theorem mdX7_weave : yX7_weave.cls ≠ "java/lang/invoke/MethodHandle" ∧ yX7_weave.cls ≠ "java/lang/invoke/VarHandle" ∧ (parseMethodDescriptor yX7_weave.desc).map (fun d => d.parameters.length) = some 5 := by decide +kernel
set_option maxRecDepth 200000 in
theorem mwX7_wetter : Cond.static yX7_wetter ∈ tb ∧ Cond.initialized yX7_wetter.cls ∈ tb ∧ Cond.code yX7_wetter cX7_wetter 2 ((some .int)) ∈ tb := ⟨ts4 148 rfl rfl, ts1 11 rfl rfl, ts4 149 rfl rfl⟩
theorem mdX7_wetter : yX7_wetter.cls ≠ "java/lang/invoke/MethodHandle" ∧ yX7_wetter.cls ≠ "java/lang/invoke/VarHandle" ∧ (parseMethodDescriptor yX7_wetter.desc).map (fun d => d.parameters.length) = some 2 := by decide +kernel
set_option maxRecDepth 200000 in
theorem mwX7_within : Cond.static yX7_within ∈ tb ∧ Cond.initialized yX7_within.cls ∈ tb ∧ Cond.code yX7_within cX7_within 2 ((some .int)) ∈ tb := ⟨ts4 74 rfl rfl, ts1 11 rfl rfl, ts4 75 rfl rfl⟩
theorem mdX7_within : yX7_within.cls ≠ "java/lang/invoke/MethodHandle" ∧ yX7_within.cls ≠ "java/lang/invoke/VarHandle" ∧ (parseMethodDescriptor yX7_within.desc).map (fun d => d.parameters.length) = some 2 := by decide +kernel
set_option maxRecDepth 200000 in
theorem mwX8_add : Cond.instanceMethod yX8_add ∈ tb ∧ Cond.selects yX8_add.cls yX8_add yX8_add ∈ tb ∧ Cond.initialized yX8_add.cls ∈ tb ∧ Cond.code yX8_add cX8_add 4 ((some .int)) ∈ tb := ⟨ts5 122 rfl rfl, ts5 123 rfl rfl, ts1 14 rfl rfl, ts5 124 rfl rfl⟩
theorem mdX8_add : yX8_add.cls ≠ "java/lang/invoke/MethodHandle" ∧ yX8_add.cls ≠ "java/lang/invoke/VarHandle" ∧ (parseMethodDescriptor yX8_add.desc).map (fun d => d.parameters.length) = some 3 := by decide +kernel
set_option maxRecDepth 200000 in
theorem mwX8_addWays : Cond.instanceMethod yX8_addWays ∈ tb ∧ Cond.selects yX8_addWays.cls yX8_addWays yX8_addWays ∈ tb ∧ Cond.initialized yX8_addWays.cls ∈ tb ∧ Cond.code yX8_addWays cX8_addWays 8 (none) ∈ tb := ⟨ts5 151 rfl rfl, ts5 152 rfl rfl, ts1 14 rfl rfl, ts5 153 rfl rfl⟩
theorem mdX8_addWays : yX8_addWays.cls ≠ "java/lang/invoke/MethodHandle" ∧ yX8_addWays.cls ≠ "java/lang/invoke/VarHandle" ∧ (parseMethodDescriptor yX8_addWays.desc).map (fun d => d.parameters.length) = some 4 := by decide +kernel
set_option maxRecDepth 200000 in
theorem mwX8_agreesWithKnown : Cond.instanceMethod yX8_agreesWithKnown ∈ tb ∧ Cond.selects yX8_agreesWithKnown.cls yX8_agreesWithKnown yX8_agreesWithKnown ∈ tb ∧ Cond.initialized yX8_agreesWithKnown.cls ∈ tb ∧ Cond.code yX8_agreesWithKnown cX8_agreesWithKnown 4 ((some .boolean)) ∈ tb := ⟨ts5 156 rfl rfl, ts0 43 rfl rfl, ts1 14 rfl rfl, ts5 157 rfl rfl⟩
theorem mdX8_agreesWithKnown : yX8_agreesWithKnown.cls ≠ "java/lang/invoke/MethodHandle" ∧ yX8_agreesWithKnown.cls ≠ "java/lang/invoke/VarHandle" ∧ (parseMethodDescriptor yX8_agreesWithKnown.desc).map (fun d => d.parameters.length) = some 2 := by decide +kernel
set_option maxRecDepth 200000 in
theorem mwX8_beginWays : Cond.instanceMethod yX8_beginWays ∈ tb ∧ Cond.selects yX8_beginWays.cls yX8_beginWays yX8_beginWays ∈ tb ∧ Cond.initialized yX8_beginWays.cls ∈ tb ∧ Cond.code yX8_beginWays cX8_beginWays 3 (none) ∈ tb := ⟨ts5 142 rfl rfl, ts5 143 rfl rfl, ts1 14 rfl rfl, ts5 144 rfl rfl⟩
theorem mdX8_beginWays : yX8_beginWays.cls ≠ "java/lang/invoke/MethodHandle" ∧ yX8_beginWays.cls ≠ "java/lang/invoke/VarHandle" ∧ (parseMethodDescriptor yX8_beginWays.desc).map (fun d => d.parameters.length) = some 2 := by decide +kernel
set_option maxRecDepth 200000 in
theorem mwX8_clear : Cond.instanceMethod yX8_clear ∈ tb ∧ Cond.selects yX8_clear.cls yX8_clear yX8_clear ∈ tb ∧ Cond.initialized yX8_clear.cls ∈ tb ∧ Cond.code yX8_clear cX8_clear 1 (none) ∈ tb := ⟨ts3 236 rfl rfl, ts3 237 rfl rfl, ts1 14 rfl rfl, ts3 238 rfl rfl⟩
theorem mdX8_clear : yX8_clear.cls ≠ "java/lang/invoke/MethodHandle" ∧ yX8_clear.cls ≠ "java/lang/invoke/VarHandle" ∧ (parseMethodDescriptor yX8_clear.desc).map (fun d => d.parameters.length) = some 0 := by decide +kernel
set_option maxRecDepth 200000 in
theorem mwX8_keepPiece : Cond.instanceMethod yX8_keepPiece ∈ tb ∧ Cond.selects yX8_keepPiece.cls yX8_keepPiece yX8_keepPiece ∈ tb ∧ Cond.initialized yX8_keepPiece.cls ∈ tb ∧ Cond.code yX8_keepPiece cX8_keepPiece 3 (none) ∈ tb := ⟨ts5 146 rfl rfl, ts5 147 rfl rfl, ts1 14 rfl rfl, ts5 148 rfl rfl⟩
theorem mdX8_keepPiece : yX8_keepPiece.cls ≠ "java/lang/invoke/MethodHandle" ∧ yX8_keepPiece.cls ≠ "java/lang/invoke/VarHandle" ∧ (parseMethodDescriptor yX8_keepPiece.desc).map (fun d => d.parameters.length) = some 2 := by decide +kernel
set_option maxRecDepth 200000 in
theorem mwX8_knows : Cond.instanceMethod yX8_knows ∈ tb ∧ Cond.selects yX8_knows.cls yX8_knows yX8_knows ∈ tb ∧ Cond.initialized yX8_knows.cls ∈ tb ∧ Cond.code yX8_knows cX8_knows 2 ((some .boolean)) ∈ tb := ⟨ts5 134 rfl rfl, ts5 135 rfl rfl, ts1 14 rfl rfl, ts5 136 rfl rfl⟩
theorem mdX8_knows : yX8_knows.cls ≠ "java/lang/invoke/MethodHandle" ∧ yX8_knows.cls ≠ "java/lang/invoke/VarHandle" ∧ (parseMethodDescriptor yX8_knows.desc).map (fun d => d.parameters.length) = some 1 := by decide +kernel
set_option maxRecDepth 200000 in
theorem mwX8_leftAtWorst : Cond.instanceMethod yX8_leftAtWorst ∈ tb ∧ Cond.selects yX8_leftAtWorst.cls yX8_leftAtWorst yX8_leftAtWorst ∈ tb ∧ Cond.initialized yX8_leftAtWorst.cls ∈ tb ∧ Cond.code yX8_leftAtWorst cX8_leftAtWorst 6 ((some .int)) ∈ tb := ⟨ts5 171 rfl rfl, ts5 172 rfl rfl, ts1 14 rfl rfl, ts5 173 rfl rfl⟩
theorem mdX8_leftAtWorst : yX8_leftAtWorst.cls ≠ "java/lang/invoke/MethodHandle" ∧ yX8_leftAtWorst.cls ≠ "java/lang/invoke/VarHandle" ∧ (parseMethodDescriptor yX8_leftAtWorst.desc).map (fun d => d.parameters.length) = some 2 := by decide +kernel
set_option maxRecDepth 200000 in
theorem mwX8_waterBy : Cond.instanceMethod yX8_waterBy ∈ tb ∧ Cond.selects yX8_waterBy.cls yX8_waterBy yX8_waterBy ∈ tb ∧ Cond.initialized yX8_waterBy.cls ∈ tb ∧ Cond.code yX8_waterBy cX8_waterBy 6 ((some .int)) ∈ tb := ⟨ts5 160 rfl rfl, ts0 44 rfl rfl, ts1 14 rfl rfl, ts5 161 rfl rfl⟩
theorem mdX8_waterBy : yX8_waterBy.cls ≠ "java/lang/invoke/MethodHandle" ∧ yX8_waterBy.cls ≠ "java/lang/invoke/VarHandle" ∧ (parseMethodDescriptor yX8_waterBy.desc).map (fun d => d.parameters.length) = some 3 := by decide +kernel
set_option maxRecDepth 200000 in
theorem mwX10_adds : Cond.instanceMethod yX10_adds ∈ tb ∧ Cond.selects yX10_adds.cls yX10_adds yX10_adds ∈ tb ∧ Cond.initialized yX10_adds.cls ∈ tb ∧ Cond.code yX10_adds cX10_adds 4 ((some .boolean)) ∈ tb := ⟨ts8 8 rfl rfl, ts0 101 rfl rfl, ts1 16 rfl rfl, ts8 9 rfl rfl⟩
theorem mdX10_adds : yX10_adds.cls ≠ "java/lang/invoke/MethodHandle" ∧ yX10_adds.cls ≠ "java/lang/invoke/VarHandle" ∧ (parseMethodDescriptor yX10_adds.desc).map (fun d => d.parameters.length) = some 1 := by decide +kernel
set_option maxRecDepth 200000 in
theorem mwX10_agree : Cond.instanceMethod yX10_agree ∈ tb ∧ Cond.selects yX10_agree.cls yX10_agree yX10_agree ∈ tb ∧ Cond.initialized yX10_agree.cls ∈ tb ∧ Cond.code yX10_agree cX10_agree 6 ((some .int)) ∈ tb := ⟨ts7 227 rfl rfl, ts7 228 rfl rfl, ts1 16 rfl rfl, ts7 229 rfl rfl⟩
theorem mdX10_agree : yX10_agree.cls ≠ "java/lang/invoke/MethodHandle" ∧ yX10_agree.cls ≠ "java/lang/invoke/VarHandle" ∧ (parseMethodDescriptor yX10_agree.desc).map (fun d => d.parameters.length) = some 2 := by decide +kernel
set_option maxRecDepth 200000 in
theorem mwX10_all : Cond.instanceMethod yX10_all ∈ tb ∧ Cond.selects yX10_all.cls yX10_all yX10_all ∈ tb ∧ Cond.initialized yX10_all.cls ∈ tb ∧ Cond.code yX10_all cX10_all 3 ((some .int)) ∈ tb := ⟨ts8 34 rfl rfl, ts8 35 rfl rfl, ts1 16 rfl rfl, ts8 36 rfl rfl⟩
theorem mdX10_all : yX10_all.cls ≠ "java/lang/invoke/MethodHandle" ∧ yX10_all.cls ≠ "java/lang/invoke/VarHandle" ∧ (parseMethodDescriptor yX10_all.desc).map (fun d => d.parameters.length) = some 2 := by decide +kernel
set_option maxRecDepth 200000 in
theorem mwX10_appends : Cond.static yX10_appends ∈ tb ∧ Cond.initialized yX10_appends.cls ∈ tb ∧ Cond.code yX10_appends cX10_appends 3 ((some .long)) ∈ tb := ⟨ts5 198 rfl rfl, ts1 16 rfl rfl, ts5 199 rfl rfl⟩
theorem mdX10_appends : yX10_appends.cls ≠ "java/lang/invoke/MethodHandle" ∧ yX10_appends.cls ≠ "java/lang/invoke/VarHandle" ∧ (parseMethodDescriptor yX10_appends.desc).map (fun d => d.parameters.length) = some 2 := by decide +kernel
set_option maxRecDepth 200000 in
theorem mwX10_areFields : Cond.instanceMethod yX10_areFields ∈ tb ∧ Cond.selects yX10_areFields.cls yX10_areFields yX10_areFields ∈ tb ∧ Cond.initialized yX10_areFields.cls ∈ tb ∧ Cond.code yX10_areFields cX10_areFields 3 ((some .boolean)) ∈ tb := ⟨ts7 61 rfl rfl, ts0 73 rfl rfl, ts1 16 rfl rfl, ts7 62 rfl rfl⟩
theorem mdX10_areFields : yX10_areFields.cls ≠ "java/lang/invoke/MethodHandle" ∧ yX10_areFields.cls ≠ "java/lang/invoke/VarHandle" ∧ (parseMethodDescriptor yX10_areFields.desc).map (fun d => d.parameters.length) = some 0 := by decide +kernel
set_option maxRecDepth 200000 in
theorem mwX10_asks : Cond.instanceMethod yX10_asks ∈ tb ∧ Cond.selects yX10_asks.cls yX10_asks yX10_asks ∈ tb ∧ Cond.initialized yX10_asks.cls ∈ tb ∧ Cond.code yX10_asks cX10_asks 8 ((some .int)) ∈ tb := ⟨ts7 144 rfl rfl, ts0 88 rfl rfl, ts1 16 rfl rfl, ts7 145 rfl rfl⟩
theorem mdX10_asks : yX10_asks.cls ≠ "java/lang/invoke/MethodHandle" ∧ yX10_asks.cls ≠ "java/lang/invoke/VarHandle" ∧ (parseMethodDescriptor yX10_asks.desc).map (fun d => d.parameters.length) = some 3 := by decide +kernel
set_option maxRecDepth 200000 in
theorem mwX10_back : Cond.instanceMethod yX10_back ∈ tb ∧ Cond.selects yX10_back.cls yX10_back yX10_back ∈ tb ∧ Cond.initialized yX10_back.cls ∈ tb ∧ Cond.code yX10_back cX10_back 2 ((some .int)) ∈ tb := ⟨ts6 194 rfl rfl, ts6 195 rfl rfl, ts1 16 rfl rfl, ts6 196 rfl rfl⟩
theorem mdX10_back : yX10_back.cls ≠ "java/lang/invoke/MethodHandle" ∧ yX10_back.cls ≠ "java/lang/invoke/VarHandle" ∧ (parseMethodDescriptor yX10_back.desc).map (fun d => d.parameters.length) = some 1 := by decide +kernel
set_option maxRecDepth 200000 in
theorem mwX10_begins : Cond.instanceMethod yX10_begins ∈ tb ∧ Cond.selects yX10_begins.cls yX10_begins yX10_begins ∈ tb ∧ Cond.initialized yX10_begins.cls ∈ tb ∧ Cond.code yX10_begins cX10_begins 2 (none) ∈ tb := ⟨ts5 203 rfl rfl, ts0 47 rfl rfl, ts1 16 rfl rfl, ts5 204 rfl rfl⟩
theorem mdX10_begins : yX10_begins.cls ≠ "java/lang/invoke/MethodHandle" ∧ yX10_begins.cls ≠ "java/lang/invoke/VarHandle" ∧ (parseMethodDescriptor yX10_begins.desc).map (fun d => d.parameters.length) = some 0 := by decide +kernel
set_option maxRecDepth 200000 in
theorem mwX10_bounded : Cond.instanceMethod yX10_bounded ∈ tb ∧ Cond.selects yX10_bounded.cls yX10_bounded yX10_bounded ∈ tb ∧ Cond.initialized yX10_bounded.cls ∈ tb ∧ Cond.code yX10_bounded cX10_bounded 4 ((some .int)) ∈ tb := ⟨ts7 25 rfl rfl, ts0 64 rfl rfl, ts1 16 rfl rfl, ts7 26 rfl rfl⟩
theorem mdX10_bounded : yX10_bounded.cls ≠ "java/lang/invoke/MethodHandle" ∧ yX10_bounded.cls ≠ "java/lang/invoke/VarHandle" ∧ (parseMethodDescriptor yX10_bounded.desc).map (fun d => d.parameters.length) = some 2 := by decide +kernel
set_option maxRecDepth 200000 in
theorem mwX10_byteAt : Cond.instanceMethod yX10_byteAt ∈ tb ∧ Cond.selects yX10_byteAt.cls yX10_byteAt yX10_byteAt ∈ tb ∧ Cond.initialized yX10_byteAt.cls ∈ tb ∧ Cond.code yX10_byteAt cX10_byteAt 2 ((some .int)) ∈ tb := ⟨ts6 207 rfl rfl, ts0 51 rfl rfl, ts1 16 rfl rfl, ts6 208 rfl rfl⟩
theorem mdX10_byteAt : yX10_byteAt.cls ≠ "java/lang/invoke/MethodHandle" ∧ yX10_byteAt.cls ≠ "java/lang/invoke/VarHandle" ∧ (parseMethodDescriptor yX10_byteAt.desc).map (fun d => d.parameters.length) = some 1 := by decide +kernel
set_option maxRecDepth 200000 in
theorem mwX10_cell : Cond.instanceMethod yX10_cell ∈ tb ∧ Cond.selects yX10_cell.cls yX10_cell yX10_cell ∈ tb ∧ Cond.initialized yX10_cell.cls ∈ tb ∧ Cond.code yX10_cell cX10_cell 5 ((some .int)) ∈ tb := ⟨ts7 68 rfl rfl, ts7 69 rfl rfl, ts1 16 rfl rfl, ts7 70 rfl rfl⟩
theorem mdX10_cell : yX10_cell.cls ≠ "java/lang/invoke/MethodHandle" ∧ yX10_cell.cls ≠ "java/lang/invoke/VarHandle" ∧ (parseMethodDescriptor yX10_cell.desc).map (fun d => d.parameters.length) = some 3 := by decide +kernel
set_option maxRecDepth 200000 in
theorem mwX10_cellsOf : Cond.instanceMethod yX10_cellsOf ∈ tb ∧ Cond.selects yX10_cellsOf.cls yX10_cellsOf yX10_cellsOf ∈ tb ∧ Cond.initialized yX10_cellsOf.cls ∈ tb ∧ Cond.code yX10_cellsOf cX10_cellsOf 4 ((some .int)) ∈ tb := ⟨ts7 112 rfl rfl, ts0 82 rfl rfl, ts1 16 rfl rfl, ts7 113 rfl rfl⟩
theorem mdX10_cellsOf : yX10_cellsOf.cls ≠ "java/lang/invoke/MethodHandle" ∧ yX10_cellsOf.cls ≠ "java/lang/invoke/VarHandle" ∧ (parseMethodDescriptor yX10_cellsOf.desc).map (fun d => d.parameters.length) = some 1 := by decide +kernel
set_option maxRecDepth 200000 in
theorem mwX10_comes : Cond.instanceMethod yX10_comes ∈ tb ∧ Cond.selects yX10_comes.cls yX10_comes yX10_comes ∈ tb ∧ Cond.initialized yX10_comes.cls ∈ tb ∧ Cond.code yX10_comes cX10_comes 7 ((some .int)) ∈ tb := ⟨ts7 215 rfl rfl, ts7 216 rfl rfl, ts1 16 rfl rfl, ts7 217 rfl rfl⟩
theorem mdX10_comes : yX10_comes.cls ≠ "java/lang/invoke/MethodHandle" ∧ yX10_comes.cls ≠ "java/lang/invoke/VarHandle" ∧ (parseMethodDescriptor yX10_comes.desc).map (fun d => d.parameters.length) = some 3 := by decide +kernel
set_option maxRecDepth 200000 in
theorem mwX10_comesOut : Cond.instanceMethod yX10_comesOut ∈ tb ∧ Cond.selects yX10_comesOut.cls yX10_comesOut yX10_comesOut ∈ tb ∧ Cond.initialized yX10_comesOut.cls ∈ tb ∧ Cond.code yX10_comesOut cX10_comesOut 3 (none) ∈ tb := ⟨ts7 53 rfl rfl, ts0 71 rfl rfl, ts1 16 rfl rfl, ts7 54 rfl rfl⟩
theorem mdX10_comesOut : yX10_comesOut.cls ≠ "java/lang/invoke/MethodHandle" ∧ yX10_comesOut.cls ≠ "java/lang/invoke/VarHandle" ∧ (parseMethodDescriptor yX10_comesOut.desc).map (fun d => d.parameters.length) = some 1 := by decide +kernel
set_option maxRecDepth 200000 in
theorem mwX10_copies : Cond.instanceMethod yX10_copies ∈ tb ∧ Cond.selects yX10_copies.cls yX10_copies yX10_copies ∈ tb ∧ Cond.initialized yX10_copies.cls ∈ tb ∧ Cond.code yX10_copies cX10_copies 2 (none) ∈ tb := ⟨ts7 80 rfl rfl, ts0 75 rfl rfl, ts1 16 rfl rfl, ts7 81 rfl rfl⟩
theorem mdX10_copies : yX10_copies.cls ≠ "java/lang/invoke/MethodHandle" ∧ yX10_copies.cls ≠ "java/lang/invoke/VarHandle" ∧ (parseMethodDescriptor yX10_copies.desc).map (fun d => d.parameters.length) = some 0 := by decide +kernel
set_option maxRecDepth 200000 in
theorem mwX10_count : Cond.instanceMethod yX10_count ∈ tb ∧ Cond.selects yX10_count.cls yX10_count yX10_count ∈ tb ∧ Cond.initialized yX10_count.cls ∈ tb ∧ Cond.code yX10_count cX10_count 2 ((some .int)) ∈ tb := ⟨ts8 125 rfl rfl, ts8 126 rfl rfl, ts1 16 rfl rfl, ts8 127 rfl rfl⟩
theorem mdX10_count : yX10_count.cls ≠ "java/lang/invoke/MethodHandle" ∧ yX10_count.cls ≠ "java/lang/invoke/VarHandle" ∧ (parseMethodDescriptor yX10_count.desc).map (fun d => d.parameters.length) = some 1 := by decide +kernel
set_option maxRecDepth 200000 in
theorem mwX10_cut : Cond.instanceMethod yX10_cut ∈ tb ∧ Cond.selects yX10_cut.cls yX10_cut yX10_cut ∈ tb ∧ Cond.initialized yX10_cut.cls ∈ tb ∧ Cond.code yX10_cut cX10_cut 9 ((some .int)) ∈ tb := ⟨ts8 3 rfl rfl, ts8 4 rfl rfl, ts1 16 rfl rfl, ts8 5 rfl rfl⟩
theorem mdX10_cut : yX10_cut.cls ≠ "java/lang/invoke/MethodHandle" ∧ yX10_cut.cls ≠ "java/lang/invoke/VarHandle" ∧ (parseMethodDescriptor yX10_cut.desc).map (fun d => d.parameters.length) = some 4 := by decide +kernel
set_option maxRecDepth 200000 in
theorem mwX10_cutsUp : Cond.instanceMethod yX10_cutsUp ∈ tb ∧ Cond.selects yX10_cutsUp.cls yX10_cutsUp yX10_cutsUp ∈ tb ∧ Cond.initialized yX10_cutsUp.cls ∈ tb ∧ Cond.code yX10_cutsUp cX10_cutsUp 8 (none) ∈ tb := ⟨ts6 203 rfl rfl, ts0 50 rfl rfl, ts1 16 rfl rfl, ts6 204 rfl rfl⟩
theorem mdX10_cutsUp : yX10_cutsUp.cls ≠ "java/lang/invoke/MethodHandle" ∧ yX10_cutsUp.cls ≠ "java/lang/invoke/VarHandle" ∧ (parseMethodDescriptor yX10_cutsUp.desc).map (fun d => d.parameters.length) = some 0 := by decide +kernel
set_option maxRecDepth 200000 in
theorem mwX10_dayGoes : Cond.instanceMethod yX10_dayGoes ∈ tb ∧ Cond.selects yX10_dayGoes.cls yX10_dayGoes yX10_dayGoes ∈ tb ∧ Cond.initialized yX10_dayGoes.cls ∈ tb ∧ Cond.code yX10_dayGoes cX10_dayGoes 3 (none) ∈ tb := ⟨ts7 188 rfl rfl, ts0 94 rfl rfl, ts1 16 rfl rfl, ts7 189 rfl rfl⟩
theorem mdX10_dayGoes : yX10_dayGoes.cls ≠ "java/lang/invoke/MethodHandle" ∧ yX10_dayGoes.cls ≠ "java/lang/invoke/VarHandle" ∧ (parseMethodDescriptor yX10_dayGoes.desc).map (fun d => d.parameters.length) = some 0 := by decide +kernel
set_option maxRecDepth 200000 in
theorem mwX10_days : Cond.instanceMethod yX10_days ∈ tb ∧ Cond.selects yX10_days.cls yX10_days yX10_days ∈ tb ∧ Cond.initialized yX10_days.cls ∈ tb ∧ Cond.code yX10_days cX10_days 2 ((some .int)) ∈ tb := ⟨ts7 179 rfl rfl, ts7 180 rfl rfl, ts1 16 rfl rfl, ts7 181 rfl rfl⟩
theorem mdX10_days : yX10_days.cls ≠ "java/lang/invoke/MethodHandle" ∧ yX10_days.cls ≠ "java/lang/invoke/VarHandle" ∧ (parseMethodDescriptor yX10_days.desc).map (fun d => d.parameters.length) = some 1 := by decide +kernel
set_option maxRecDepth 200000 in
theorem mwX10_driesIn : Cond.instanceMethod yX10_driesIn ∈ tb ∧ Cond.selects yX10_driesIn.cls yX10_driesIn yX10_driesIn ∈ tb ∧ Cond.initialized yX10_driesIn.cls ∈ tb ∧ Cond.code yX10_driesIn cX10_driesIn 2 ((some .int)) ∈ tb := ⟨ts7 200 rfl rfl, ts0 96 rfl rfl, ts1 16 rfl rfl, ts7 201 rfl rfl⟩
theorem mdX10_driesIn : yX10_driesIn.cls ≠ "java/lang/invoke/MethodHandle" ∧ yX10_driesIn.cls ≠ "java/lang/invoke/VarHandle" ∧ (parseMethodDescriptor yX10_driesIn.desc).map (fun d => d.parameters.length) = some 1 := by decide +kernel
set_option maxRecDepth 200000 in
theorem mwX10_drownOf : Cond.instanceMethod yX10_drownOf ∈ tb ∧ Cond.selects yX10_drownOf.cls yX10_drownOf yX10_drownOf ∈ tb ∧ Cond.initialized yX10_drownOf.cls ∈ tb ∧ Cond.code yX10_drownOf cX10_drownOf 2 ((some .int)) ∈ tb := ⟨ts7 100 rfl rfl, ts0 80 rfl rfl, ts1 16 rfl rfl, ts7 101 rfl rfl⟩
theorem mdX10_drownOf : yX10_drownOf.cls ≠ "java/lang/invoke/MethodHandle" ∧ yX10_drownOf.cls ≠ "java/lang/invoke/VarHandle" ∧ (parseMethodDescriptor yX10_drownOf.desc).map (fun d => d.parameters.length) = some 1 := by decide +kernel
set_option maxRecDepth 200000 in
theorem mwX10_dry : Cond.instanceMethod yX10_dry ∈ tb ∧ Cond.selects yX10_dry.cls yX10_dry yX10_dry ∈ tb ∧ Cond.initialized yX10_dry.cls ∈ tb ∧ Cond.code yX10_dry cX10_dry 4 ((some .int)) ∈ tb := ⟨ts8 46 rfl rfl, ts8 47 rfl rfl, ts1 16 rfl rfl, ts8 48 rfl rfl⟩
theorem mdX10_dry : yX10_dry.cls ≠ "java/lang/invoke/MethodHandle" ∧ yX10_dry.cls ≠ "java/lang/invoke/VarHandle" ∧ (parseMethodDescriptor yX10_dry.desc).map (fun d => d.parameters.length) = some 1 := by decide +kernel
set_option maxRecDepth 200000 in
theorem mwX10_emit : Cond.instanceMethod yX10_emit ∈ tb ∧ Cond.selects yX10_emit.cls yX10_emit yX10_emit ∈ tb ∧ Cond.initialized yX10_emit.cls ∈ tb ∧ Cond.code yX10_emit cX10_emit 3 (none) ∈ tb := ⟨ts7 49 rfl rfl, ts0 70 rfl rfl, ts1 16 rfl rfl, ts7 50 rfl rfl⟩
theorem mdX10_emit : yX10_emit.cls ≠ "java/lang/invoke/MethodHandle" ∧ yX10_emit.cls ≠ "java/lang/invoke/VarHandle" ∧ (parseMethodDescriptor yX10_emit.desc).map (fun d => d.parameters.length) = some 2 := by decide +kernel
set_option maxRecDepth 200000 in
theorem mwX10_emptyBy : Cond.instanceMethod yX10_emptyBy ∈ tb ∧ Cond.selects yX10_emptyBy.cls yX10_emptyBy yX10_emptyBy ∈ tb ∧ Cond.initialized yX10_emptyBy.cls ∈ tb ∧ Cond.code yX10_emptyBy cX10_emptyBy 2 ((some .int)) ∈ tb := ⟨ts8 50 rfl rfl, ts8 51 rfl rfl, ts1 16 rfl rfl, ts8 52 rfl rfl⟩
theorem mdX10_emptyBy : yX10_emptyBy.cls ≠ "java/lang/invoke/MethodHandle" ∧ yX10_emptyBy.cls ≠ "java/lang/invoke/VarHandle" ∧ (parseMethodDescriptor yX10_emptyBy.desc).map (fun d => d.parameters.length) = some 0 := by decide +kernel
set_option maxRecDepth 200000 in
theorem mwX10_ends : Cond.instanceMethod yX10_ends ∈ tb ∧ Cond.selects yX10_ends.cls yX10_ends yX10_ends ∈ tb ∧ Cond.initialized yX10_ends.cls ∈ tb ∧ Cond.code yX10_ends cX10_ends 2 (none) ∈ tb := ⟨ts7 29 rfl rfl, ts0 65 rfl rfl, ts1 16 rfl rfl, ts7 30 rfl rfl⟩
theorem mdX10_ends : yX10_ends.cls ≠ "java/lang/invoke/MethodHandle" ∧ yX10_ends.cls ≠ "java/lang/invoke/VarHandle" ∧ (parseMethodDescriptor yX10_ends.desc).map (fun d => d.parameters.length) = some 1 := by decide +kernel
set_option maxRecDepth 200000 in
theorem mwX10_expression : Cond.instanceMethod yX10_expression ∈ tb ∧ Cond.selects yX10_expression.cls yX10_expression yX10_expression ∈ tb ∧ Cond.initialized yX10_expression.cls ∈ tb ∧ Cond.code yX10_expression cX10_expression 3 (none) ∈ tb := ⟨ts7 41 rfl rfl, ts0 68 rfl rfl, ts1 16 rfl rfl, ts7 42 rfl rfl⟩
theorem mdX10_expression : yX10_expression.cls ≠ "java/lang/invoke/MethodHandle" ∧ yX10_expression.cls ≠ "java/lang/invoke/VarHandle" ∧ (parseMethodDescriptor yX10_expression.desc).map (fun d => d.parameters.length) = some 0 := by decide +kernel
set_option maxRecDepth 200000 in
theorem mwX10_fail : Cond.instanceMethod yX10_fail ∈ tb ∧ Cond.selects yX10_fail.cls yX10_fail yX10_fail ∈ tb ∧ Cond.initialized yX10_fail.cls ∈ tb ∧ Cond.code yX10_fail cX10_fail 2 (none) ∈ tb := ⟨ts6 237 rfl rfl, ts0 57 rfl rfl, ts1 16 rfl rfl, ts6 238 rfl rfl⟩
theorem mdX10_fail : yX10_fail.cls ≠ "java/lang/invoke/MethodHandle" ∧ yX10_fail.cls ≠ "java/lang/invoke/VarHandle" ∧ (parseMethodDescriptor yX10_fail.desc).map (fun d => d.parameters.length) = some 1 := by decide +kernel
set_option maxRecDepth 200000 in
theorem mwX10_fall : Cond.instanceMethod yX10_fall ∈ tb ∧ Cond.selects yX10_fall.cls yX10_fall yX10_fall ∈ tb ∧ Cond.initialized yX10_fall.cls ∈ tb ∧ Cond.code yX10_fall cX10_fall 7 ((some .int)) ∈ tb := ⟨ts7 167 rfl rfl, ts7 168 rfl rfl, ts1 16 rfl rfl, ts7 169 rfl rfl⟩
theorem mdX10_fall : yX10_fall.cls ≠ "java/lang/invoke/MethodHandle" ∧ yX10_fall.cls ≠ "java/lang/invoke/VarHandle" ∧ (parseMethodDescriptor yX10_fall.desc).map (fun d => d.parameters.length) = some 5 := by decide +kernel
set_option maxRecDepth 200000 in
theorem mwX10_falls : Cond.instanceMethod yX10_falls ∈ tb ∧ Cond.selects yX10_falls.cls yX10_falls yX10_falls ∈ tb ∧ Cond.initialized yX10_falls.cls ∈ tb ∧ Cond.code yX10_falls cX10_falls 14 ((some .int)) ∈ tb := ⟨ts7 172 rfl rfl, ts0 92 rfl rfl, ts1 16 rfl rfl, ts7 173 rfl rfl⟩
theorem mdX10_falls : yX10_falls.cls ≠ "java/lang/invoke/MethodHandle" ∧ yX10_falls.cls ≠ "java/lang/invoke/VarHandle" ∧ (parseMethodDescriptor yX10_falls.desc).map (fun d => d.parameters.length) = some 5 := by decide +kernel
set_option maxRecDepth 200000 in
theorem mwX10_feed : Cond.instanceMethod yX10_feed ∈ tb ∧ Cond.selects yX10_feed.cls yX10_feed yX10_feed ∈ tb ∧ Cond.initialized yX10_feed.cls ∈ tb ∧ Cond.code yX10_feed cX10_feed 6 ((some .int)) ∈ tb := ⟨ts6 186 rfl rfl, ts6 187 rfl rfl, ts1 16 rfl rfl, ts6 188 rfl rfl⟩
theorem mdX10_feed : yX10_feed.cls ≠ "java/lang/invoke/MethodHandle" ∧ yX10_feed.cls ≠ "java/lang/invoke/VarHandle" ∧ (parseMethodDescriptor yX10_feed.desc).map (fun d => d.parameters.length) = some 5 := by decide +kernel
set_option maxRecDepth 200000 in
theorem mwX10_fell : Cond.instanceMethod yX10_fell ∈ tb ∧ Cond.selects yX10_fell.cls yX10_fell yX10_fell ∈ tb ∧ Cond.initialized yX10_fell.cls ∈ tb ∧ Cond.code yX10_fell cX10_fell 7 ((some .int)) ∈ tb := ⟨ts8 93 rfl rfl, ts8 94 rfl rfl, ts1 16 rfl rfl, ts8 95 rfl rfl⟩
theorem mdX10_fell : yX10_fell.cls ≠ "java/lang/invoke/MethodHandle" ∧ yX10_fell.cls ≠ "java/lang/invoke/VarHandle" ∧ (parseMethodDescriptor yX10_fell.desc).map (fun d => d.parameters.length) = some 4 := by decide +kernel
set_option maxRecDepth 200000 in
theorem mwX10_field : Cond.instanceMethod yX10_field ∈ tb ∧ Cond.selects yX10_field.cls yX10_field yX10_field ∈ tb ∧ Cond.initialized yX10_field.cls ∈ tb ∧ Cond.code yX10_field cX10_field 5 ((some .int)) ∈ tb := ⟨ts7 103 rfl rfl, ts7 104 rfl rfl, ts1 16 rfl rfl, ts7 105 rfl rfl⟩
theorem mdX10_field : yX10_field.cls ≠ "java/lang/invoke/MethodHandle" ∧ yX10_field.cls ≠ "java/lang/invoke/VarHandle" ∧ (parseMethodDescriptor yX10_field.desc).map (fun d => d.parameters.length) = some 2 := by decide +kernel
set_option maxRecDepth 200000 in
theorem mwX10_fieldAt : Cond.instanceMethod yX10_fieldAt ∈ tb ∧ Cond.selects yX10_fieldAt.cls yX10_fieldAt yX10_fieldAt ∈ tb ∧ Cond.initialized yX10_fieldAt.cls ∈ tb ∧ Cond.code yX10_fieldAt cX10_fieldAt 2 ((some .int)) ∈ tb := ⟨ts7 84 rfl rfl, ts0 76 rfl rfl, ts1 16 rfl rfl, ts7 85 rfl rfl⟩
theorem mdX10_fieldAt : yX10_fieldAt.cls ≠ "java/lang/invoke/MethodHandle" ∧ yX10_fieldAt.cls ≠ "java/lang/invoke/VarHandle" ∧ (parseMethodDescriptor yX10_fieldAt.desc).map (fun d => d.parameters.length) = some 1 := by decide +kernel
set_option maxRecDepth 200000 in
theorem mwX10_fillsServe : Cond.instanceMethod yX10_fillsServe ∈ tb ∧ Cond.selects yX10_fillsServe.cls yX10_fillsServe yX10_fillsServe ∈ tb ∧ Cond.initialized yX10_fillsServe.cls ∈ tb ∧ Cond.code yX10_fillsServe cX10_fillsServe 5 (none) ∈ tb := ⟨ts8 59 rfl rfl, ts0 107 rfl rfl, ts1 16 rfl rfl, ts8 60 rfl rfl⟩
theorem mdX10_fillsServe : yX10_fillsServe.cls ≠ "java/lang/invoke/MethodHandle" ∧ yX10_fillsServe.cls ≠ "java/lang/invoke/VarHandle" ∧ (parseMethodDescriptor yX10_fillsServe.desc).map (fun d => d.parameters.length) = some 2 := by decide +kernel
set_option maxRecDepth 200000 in
theorem mwX10_fillsWhere : Cond.instanceMethod yX10_fillsWhere ∈ tb ∧ Cond.selects yX10_fillsWhere.cls yX10_fillsWhere yX10_fillsWhere ∈ tb ∧ Cond.initialized yX10_fillsWhere.cls ∈ tb ∧ Cond.code yX10_fillsWhere cX10_fillsWhere 7 (none) ∈ tb := ⟨ts7 236 rfl rfl, ts0 99 rfl rfl, ts1 16 rfl rfl, ts7 237 rfl rfl⟩
theorem mdX10_fillsWhere : yX10_fillsWhere.cls ≠ "java/lang/invoke/MethodHandle" ∧ yX10_fillsWhere.cls ≠ "java/lang/invoke/VarHandle" ∧ (parseMethodDescriptor yX10_fillsWhere.desc).map (fun d => d.parameters.length) = some 3 := by decide +kernel
set_option maxRecDepth 200000 in
theorem mwX10_flips : Cond.instanceMethod yX10_flips ∈ tb ∧ Cond.selects yX10_flips.cls yX10_flips yX10_flips ∈ tb ∧ Cond.initialized yX10_flips.cls ∈ tb ∧ Cond.code yX10_flips cX10_flips 5 (none) ∈ tb := ⟨ts8 24 rfl rfl, ts0 105 rfl rfl, ts1 16 rfl rfl, ts8 25 rfl rfl⟩
theorem mdX10_flips : yX10_flips.cls ≠ "java/lang/invoke/MethodHandle" ∧ yX10_flips.cls ≠ "java/lang/invoke/VarHandle" ∧ (parseMethodDescriptor yX10_flips.desc).map (fun d => d.parameters.length) = some 2 := by decide +kernel
set_option maxRecDepth 200000 in
theorem mwX10_forget : Cond.instanceMethod yX10_forget ∈ tb ∧ Cond.selects yX10_forget.cls yX10_forget yX10_forget ∈ tb ∧ Cond.initialized yX10_forget.cls ∈ tb ∧ Cond.code yX10_forget cX10_forget 2 ((some .int)) ∈ tb := ⟨ts8 89 rfl rfl, ts8 90 rfl rfl, ts1 16 rfl rfl, ts8 91 rfl rfl⟩
theorem mdX10_forget : yX10_forget.cls ≠ "java/lang/invoke/MethodHandle" ∧ yX10_forget.cls ≠ "java/lang/invoke/VarHandle" ∧ (parseMethodDescriptor yX10_forget.desc).map (fun d => d.parameters.length) = some 0 := by decide +kernel
set_option maxRecDepth 200000 in
theorem mwX10_goes : Cond.instanceMethod yX10_goes ∈ tb ∧ Cond.selects yX10_goes.cls yX10_goes yX10_goes ∈ tb ∧ Cond.initialized yX10_goes.cls ∈ tb ∧ Cond.code yX10_goes cX10_goes 3 (none) ∈ tb := ⟨ts7 184 rfl rfl, ts0 93 rfl rfl, ts1 16 rfl rfl, ts7 185 rfl rfl⟩
theorem mdX10_goes : yX10_goes.cls ≠ "java/lang/invoke/MethodHandle" ∧ yX10_goes.cls ≠ "java/lang/invoke/VarHandle" ∧ (parseMethodDescriptor yX10_goes.desc).map (fun d => d.parameters.length) = some 1 := by decide +kernel
set_option maxRecDepth 200000 in
theorem mwX10_goesIn : Cond.instanceMethod yX10_goesIn ∈ tb ∧ Cond.selects yX10_goesIn.cls yX10_goesIn yX10_goesIn ∈ tb ∧ Cond.initialized yX10_goesIn.cls ∈ tb ∧ Cond.code yX10_goesIn cX10_goesIn 5 ((some .boolean)) ∈ tb := ⟨ts8 12 rfl rfl, ts0 102 rfl rfl, ts1 16 rfl rfl, ts8 13 rfl rfl⟩
theorem mdX10_goesIn : yX10_goesIn.cls ≠ "java/lang/invoke/MethodHandle" ∧ yX10_goesIn.cls ≠ "java/lang/invoke/VarHandle" ∧ (parseMethodDescriptor yX10_goesIn.desc).map (fun d => d.parameters.length) = some 1 := by decide +kernel
set_option maxRecDepth 200000 in
theorem mwX10_goesOn : Cond.instanceMethod yX10_goesOn ∈ tb ∧ Cond.selects yX10_goesOn.cls yX10_goesOn yX10_goesOn ∈ tb ∧ Cond.initialized yX10_goesOn.cls ∈ tb ∧ Cond.code yX10_goesOn cX10_goesOn 1 (none) ∈ tb := ⟨ts7 1 rfl rfl, ts0 58 rfl rfl, ts1 16 rfl rfl, ts7 2 rfl rfl⟩
theorem mdX10_goesOn : yX10_goesOn.cls ≠ "java/lang/invoke/MethodHandle" ∧ yX10_goesOn.cls ≠ "java/lang/invoke/VarHandle" ∧ (parseMethodDescriptor yX10_goesOn.desc).map (fun d => d.parameters.length) = some 0 := by decide +kernel
set_option maxRecDepth 200000 in
theorem mwX10_heldBy : Cond.instanceMethod yX10_heldBy ∈ tb ∧ Cond.selects yX10_heldBy.cls yX10_heldBy yX10_heldBy ∈ tb ∧ Cond.initialized yX10_heldBy.cls ∈ tb ∧ Cond.code yX10_heldBy cX10_heldBy 6 ((some .int)) ∈ tb := ⟨ts7 212 rfl rfl, ts0 97 rfl rfl, ts1 16 rfl rfl, ts7 213 rfl rfl⟩
theorem mdX10_heldBy : yX10_heldBy.cls ≠ "java/lang/invoke/MethodHandle" ∧ yX10_heldBy.cls ≠ "java/lang/invoke/VarHandle" ∧ (parseMethodDescriptor yX10_heldBy.desc).map (fun d => d.parameters.length) = some 3 := by decide +kernel
set_option maxRecDepth 200000 in
theorem mwX10_hold : Cond.instanceMethod yX10_hold ∈ tb ∧ Cond.selects yX10_hold.cls yX10_hold yX10_hold ∈ tb ∧ Cond.initialized yX10_hold.cls ∈ tb ∧ Cond.code yX10_hold cX10_hold 3 ((some .boolean)) ∈ tb := ⟨ts8 117 rfl rfl, ts8 118 rfl rfl, ts1 16 rfl rfl, ts8 119 rfl rfl⟩
theorem mdX10_hold : yX10_hold.cls ≠ "java/lang/invoke/MethodHandle" ∧ yX10_hold.cls ≠ "java/lang/invoke/VarHandle" ∧ (parseMethodDescriptor yX10_hold.desc).map (fun d => d.parameters.length) = some 1 := by decide +kernel
set_option maxRecDepth 200000 in
theorem mwX10_holds : Cond.instanceMethod yX10_holds ∈ tb ∧ Cond.selects yX10_holds.cls yX10_holds yX10_holds ∈ tb ∧ Cond.initialized yX10_holds.cls ∈ tb ∧ Cond.code yX10_holds cX10_holds 7 ((some .int)) ∈ tb := ⟨ts7 207 rfl rfl, ts7 208 rfl rfl, ts1 16 rfl rfl, ts7 209 rfl rfl⟩
theorem mdX10_holds : yX10_holds.cls ≠ "java/lang/invoke/MethodHandle" ∧ yX10_holds.cls ≠ "java/lang/invoke/VarHandle" ∧ (parseMethodDescriptor yX10_holds.desc).map (fun d => d.parameters.length) = some 4 := by decide +kernel
set_option maxRecDepth 200000 in
theorem mwX10_in : Cond.static yX10_in ∈ tb ∧ Cond.initialized yX10_in.cls ∈ tb ∧ Cond.code yX10_in cX10_in 3 ((some .boolean)) ∈ tb := ⟨ts7 76 rfl rfl, ts1 16 rfl rfl, ts7 77 rfl rfl⟩
theorem mdX10_in : yX10_in.cls ≠ "java/lang/invoke/MethodHandle" ∧ yX10_in.cls ≠ "java/lang/invoke/VarHandle" ∧ (parseMethodDescriptor yX10_in.desc).map (fun d => d.parameters.length) = some 3 := by decide +kernel
set_option maxRecDepth 200000 in
theorem mwX10_is : Cond.instanceMethod yX10_is ∈ tb ∧ Cond.selects yX10_is.cls yX10_is yX10_is ∈ tb ∧ Cond.initialized yX10_is.cls ∈ tb ∧ Cond.code yX10_is cX10_is 2 ((some .boolean)) ∈ tb := ⟨ts6 225 rfl rfl, ts0 54 rfl rfl, ts1 16 rfl rfl, ts6 226 rfl rfl⟩
theorem mdX10_is : yX10_is.cls ≠ "java/lang/invoke/MethodHandle" ∧ yX10_is.cls ≠ "java/lang/invoke/VarHandle" ∧ (parseMethodDescriptor yX10_is.desc).map (fun d => d.parameters.length) = some 1 := by decide +kernel
set_option maxRecDepth 200000 in
theorem mwX10_isAsked : Cond.instanceMethod yX10_isAsked ∈ tb ∧ Cond.selects yX10_isAsked.cls yX10_isAsked yX10_isAsked ∈ tb ∧ Cond.initialized yX10_isAsked.cls ∈ tb ∧ Cond.code yX10_isAsked cX10_isAsked 4 ((some .boolean)) ∈ tb := ⟨ts8 98 rfl rfl, ts0 110 rfl rfl, ts1 16 rfl rfl, ts8 99 rfl rfl⟩
theorem mdX10_isAsked : yX10_isAsked.cls ≠ "java/lang/invoke/MethodHandle" ∧ yX10_isAsked.cls ≠ "java/lang/invoke/VarHandle" ∧ (parseMethodDescriptor yX10_isAsked.desc).map (fun d => d.parameters.length) = some 3 := by decide +kernel
set_option maxRecDepth 200000 in
theorem mwX10_isCell : Cond.instanceMethod yX10_isCell ∈ tb ∧ Cond.selects yX10_isCell.cls yX10_isCell yX10_isCell ∈ tb ∧ Cond.initialized yX10_isCell.cls ∈ tb ∧ Cond.code yX10_isCell cX10_isCell 3 ((some .boolean)) ∈ tb := ⟨ts7 73 rfl rfl, ts0 74 rfl rfl, ts1 16 rfl rfl, ts7 74 rfl rfl⟩
theorem mdX10_isCell : yX10_isCell.cls ≠ "java/lang/invoke/MethodHandle" ∧ yX10_isCell.cls ≠ "java/lang/invoke/VarHandle" ∧ (parseMethodDescriptor yX10_isCell.desc).map (fun d => d.parameters.length) = some 2 := by decide +kernel
set_option maxRecDepth 200000 in
theorem mwX10_isDigit : Cond.static yX10_isDigit ∈ tb ∧ Cond.initialized yX10_isDigit.cls ∈ tb ∧ Cond.code yX10_isDigit cX10_isDigit 1 ((some .boolean)) ∈ tb := ⟨ts6 217 rfl rfl, ts1 16 rfl rfl, ts6 218 rfl rfl⟩
theorem mdX10_isDigit : yX10_isDigit.cls ≠ "java/lang/invoke/MethodHandle" ∧ yX10_isDigit.cls ≠ "java/lang/invoke/VarHandle" ∧ (parseMethodDescriptor yX10_isDigit.desc).map (fun d => d.parameters.length) = some 1 := by decide +kernel
set_option maxRecDepth 200000 in
theorem mwX10_isField : Cond.instanceMethod yX10_isField ∈ tb ∧ Cond.selects yX10_isField.cls yX10_isField yX10_isField ∈ tb ∧ Cond.initialized yX10_isField.cls ∈ tb ∧ Cond.code yX10_isField cX10_isField 2 ((some .boolean)) ∈ tb := ⟨ts7 108 rfl rfl, ts0 81 rfl rfl, ts1 16 rfl rfl, ts7 109 rfl rfl⟩
theorem mdX10_isField : yX10_isField.cls ≠ "java/lang/invoke/MethodHandle" ∧ yX10_isField.cls ≠ "java/lang/invoke/VarHandle" ∧ (parseMethodDescriptor yX10_isField.desc).map (fun d => d.parameters.length) = some 1 := by decide +kernel
set_option maxRecDepth 200000 in
theorem mwX10_isFlooded : Cond.instanceMethod yX10_isFlooded ∈ tb ∧ Cond.selects yX10_isFlooded.cls yX10_isFlooded yX10_isFlooded ∈ tb ∧ Cond.initialized yX10_isFlooded.cls ∈ tb ∧ Cond.code yX10_isFlooded cX10_isFlooded 2 ((some .boolean)) ∈ tb := ⟨ts7 96 rfl rfl, ts0 79 rfl rfl, ts1 16 rfl rfl, ts7 97 rfl rfl⟩
theorem mdX10_isFlooded : yX10_isFlooded.cls ≠ "java/lang/invoke/MethodHandle" ∧ yX10_isFlooded.cls ≠ "java/lang/invoke/VarHandle" ∧ (parseMethodDescriptor yX10_isFlooded.desc).map (fun d => d.parameters.length) = some 1 := by decide +kernel
set_option maxRecDepth 200000 in
theorem mwX10_isFree : Cond.instanceMethod yX10_isFree ∈ tb ∧ Cond.selects yX10_isFree.cls yX10_isFree yX10_isFree ∈ tb ∧ Cond.initialized yX10_isFree.cls ∈ tb ∧ Cond.code yX10_isFree cX10_isFree 5 ((some .boolean)) ∈ tb := ⟨ts8 20 rfl rfl, ts0 104 rfl rfl, ts1 16 rfl rfl, ts8 21 rfl rfl⟩
theorem mdX10_isFree : yX10_isFree.cls ≠ "java/lang/invoke/MethodHandle" ∧ yX10_isFree.cls ≠ "java/lang/invoke/VarHandle" ∧ (parseMethodDescriptor yX10_isFree.desc).map (fun d => d.parameters.length) = some 2 := by decide +kernel
set_option maxRecDepth 200000 in
theorem mwX10_isLacking : Cond.instanceMethod yX10_isLacking ∈ tb ∧ Cond.selects yX10_isLacking.cls yX10_isLacking yX10_isLacking ∈ tb ∧ Cond.initialized yX10_isLacking.cls ∈ tb ∧ Cond.code yX10_isLacking cX10_isLacking 2 ((some .boolean)) ∈ tb := ⟨ts7 88 rfl rfl, ts0 77 rfl rfl, ts1 16 rfl rfl, ts7 89 rfl rfl⟩
theorem mdX10_isLacking : yX10_isLacking.cls ≠ "java/lang/invoke/MethodHandle" ∧ yX10_isLacking.cls ≠ "java/lang/invoke/VarHandle" ∧ (parseMethodDescriptor yX10_isLacking.desc).map (fun d => d.parameters.length) = some 1 := by decide +kernel
set_option maxRecDepth 200000 in
theorem mwX10_isLand : Cond.instanceMethod yX10_isLand ∈ tb ∧ Cond.selects yX10_isLand.cls yX10_isLand yX10_isLand ∈ tb ∧ Cond.initialized yX10_isLand.cls ∈ tb ∧ Cond.code yX10_isLand cX10_isLand 2 ((some .boolean)) ∈ tb := ⟨ts7 116 rfl rfl, ts0 83 rfl rfl, ts1 16 rfl rfl, ts7 117 rfl rfl⟩
theorem mdX10_isLand : yX10_isLand.cls ≠ "java/lang/invoke/MethodHandle" ∧ yX10_isLand.cls ≠ "java/lang/invoke/VarHandle" ∧ (parseMethodDescriptor yX10_isLand.desc).map (fun d => d.parameters.length) = some 1 := by decide +kernel
set_option maxRecDepth 200000 in
theorem mwX10_isLetter : Cond.static yX10_isLetter ∈ tb ∧ Cond.initialized yX10_isLetter.cls ∈ tb ∧ Cond.code yX10_isLetter cX10_isLetter 1 ((some .boolean)) ∈ tb := ⟨ts6 214 rfl rfl, ts1 16 rfl rfl, ts6 215 rfl rfl⟩
theorem mdX10_isLetter : yX10_isLetter.cls ≠ "java/lang/invoke/MethodHandle" ∧ yX10_isLetter.cls ≠ "java/lang/invoke/VarHandle" ∧ (parseMethodDescriptor yX10_isLetter.desc).map (fun d => d.parameters.length) = some 1 := by decide +kernel
set_option maxRecDepth 200000 in
theorem mwX10_isLong : Cond.static yX10_isLong ∈ tb ∧ Cond.initialized yX10_isLong.cls ∈ tb ∧ Cond.code yX10_isLong cX10_isLong 1 ((some .boolean)) ∈ tb := ⟨ts8 31 rfl rfl, ts1 16 rfl rfl, ts8 32 rfl rfl⟩
theorem mdX10_isLong : yX10_isLong.cls ≠ "java/lang/invoke/MethodHandle" ∧ yX10_isLong.cls ≠ "java/lang/invoke/VarHandle" ∧ (parseMethodDescriptor yX10_isLong.desc).map (fun d => d.parameters.length) = some 1 := by decide +kernel
set_option maxRecDepth 200000 in
theorem mwX10_isLoom : Cond.instanceMethod yX10_isLoom ∈ tb ∧ Cond.selects yX10_isLoom.cls yX10_isLoom yX10_isLoom ∈ tb ∧ Cond.initialized yX10_isLoom.cls ∈ tb ∧ Cond.code yX10_isLoom cX10_isLoom 2 ((some .boolean)) ∈ tb := ⟨ts7 128 rfl rfl, ts0 85 rfl rfl, ts1 16 rfl rfl, ts7 129 rfl rfl⟩
theorem mdX10_isLoom : yX10_isLoom.cls ≠ "java/lang/invoke/MethodHandle" ∧ yX10_isLoom.cls ≠ "java/lang/invoke/VarHandle" ∧ (parseMethodDescriptor yX10_isLoom.desc).map (fun d => d.parameters.length) = some 1 := by decide +kernel
set_option maxRecDepth 200000 in
theorem mwX10_isPiece : Cond.instanceMethod yX10_isPiece ∈ tb ∧ Cond.selects yX10_isPiece.cls yX10_isPiece yX10_isPiece ∈ tb ∧ Cond.initialized yX10_isPiece.cls ∈ tb ∧ Cond.code yX10_isPiece cX10_isPiece 4 ((some .boolean)) ∈ tb := ⟨ts7 156 rfl rfl, ts0 90 rfl rfl, ts1 16 rfl rfl, ts7 157 rfl rfl⟩
theorem mdX10_isPiece : yX10_isPiece.cls ≠ "java/lang/invoke/MethodHandle" ∧ yX10_isPiece.cls ≠ "java/lang/invoke/VarHandle" ∧ (parseMethodDescriptor yX10_isPiece.desc).map (fun d => d.parameters.length) = some 3 := by decide +kernel
set_option maxRecDepth 200000 in
theorem mwX10_isRound : Cond.instanceMethod yX10_isRound ∈ tb ∧ Cond.selects yX10_isRound.cls yX10_isRound yX10_isRound ∈ tb ∧ Cond.initialized yX10_isRound.cls ∈ tb ∧ Cond.code yX10_isRound cX10_isRound 5 ((some .boolean)) ∈ tb := ⟨ts7 224 rfl rfl, ts0 98 rfl rfl, ts1 16 rfl rfl, ts7 225 rfl rfl⟩
theorem mdX10_isRound : yX10_isRound.cls ≠ "java/lang/invoke/MethodHandle" ∧ yX10_isRound.cls ≠ "java/lang/invoke/VarHandle" ∧ (parseMethodDescriptor yX10_isRound.desc).map (fun d => d.parameters.length) = some 2 := by decide +kernel
set_option maxRecDepth 200000 in
theorem mwX10_isWay : Cond.instanceMethod yX10_isWay ∈ tb ∧ Cond.selects yX10_isWay.cls yX10_isWay yX10_isWay ∈ tb ∧ Cond.initialized yX10_isWay.cls ∈ tb ∧ Cond.code yX10_isWay cX10_isWay 6 ((some .boolean)) ∈ tb := ⟨ts8 102 rfl rfl, ts0 111 rfl rfl, ts1 16 rfl rfl, ts8 103 rfl rfl⟩
theorem mdX10_isWay : yX10_isWay.cls ≠ "java/lang/invoke/MethodHandle" ∧ yX10_isWay.cls ≠ "java/lang/invoke/VarHandle" ∧ (parseMethodDescriptor yX10_isWay.desc).map (fun d => d.parameters.length) = some 4 := by decide +kernel
set_option maxRecDepth 200000 in
theorem mwX10_keeps : Cond.instanceMethod yX10_keeps ∈ tb ∧ Cond.selects yX10_keeps.cls yX10_keeps yX10_keeps ∈ tb ∧ Cond.initialized yX10_keeps.cls ∈ tb ∧ Cond.code yX10_keeps cX10_keeps 2 (none) ∈ tb := ⟨ts7 160 rfl rfl, ts0 91 rfl rfl, ts1 16 rfl rfl, ts7 161 rfl rfl⟩
theorem mdX10_keeps : yX10_keeps.cls ≠ "java/lang/invoke/MethodHandle" ∧ yX10_keeps.cls ≠ "java/lang/invoke/VarHandle" ∧ (parseMethodDescriptor yX10_keeps.desc).map (fun d => d.parameters.length) = some 0 := by decide +kernel
set_option maxRecDepth 200000 in
theorem mwX10_keepsRow : Cond.instanceMethod yX10_keepsRow ∈ tb ∧ Cond.selects yX10_keepsRow.cls yX10_keepsRow yX10_keepsRow ∈ tb ∧ Cond.initialized yX10_keepsRow.cls ∈ tb ∧ Cond.code yX10_keepsRow cX10_keepsRow 2 (none) ∈ tb := ⟨ts5 207 rfl rfl, ts0 48 rfl rfl, ts1 16 rfl rfl, ts5 208 rfl rfl⟩
theorem mdX10_keepsRow : yX10_keepsRow.cls ≠ "java/lang/invoke/MethodHandle" ∧ yX10_keepsRow.cls ≠ "java/lang/invoke/VarHandle" ∧ (parseMethodDescriptor yX10_keepsRow.desc).map (fun d => d.parameters.length) = some 0 := by decide +kernel
set_option maxRecDepth 200000 in
theorem mwX10_look : Cond.instanceMethod yX10_look ∈ tb ∧ Cond.selects yX10_look.cls yX10_look yX10_look ∈ tb ∧ Cond.initialized yX10_look.cls ∈ tb ∧ Cond.code yX10_look cX10_look 8 ((some .int)) ∈ tb := ⟨ts8 109 rfl rfl, ts8 110 rfl rfl, ts1 16 rfl rfl, ts8 111 rfl rfl⟩
theorem mdX10_look : yX10_look.cls ≠ "java/lang/invoke/MethodHandle" ∧ yX10_look.cls ≠ "java/lang/invoke/VarHandle" ∧ (parseMethodDescriptor yX10_look.desc).map (fun d => d.parameters.length) = some 3 := by decide +kernel
set_option maxRecDepth 200000 in
theorem mwX10_looks : Cond.instanceMethod yX10_looks ∈ tb ∧ Cond.selects yX10_looks.cls yX10_looks yX10_looks ∈ tb ∧ Cond.initialized yX10_looks.cls ∈ tb ∧ Cond.code yX10_looks cX10_looks 2 (none) ∈ tb := ⟨ts7 140 rfl rfl, ts0 87 rfl rfl, ts1 16 rfl rfl, ts7 141 rfl rfl⟩
theorem mdX10_looks : yX10_looks.cls ≠ "java/lang/invoke/MethodHandle" ∧ yX10_looks.cls ≠ "java/lang/invoke/VarHandle" ∧ (parseMethodDescriptor yX10_looks.desc).map (fun d => d.parameters.length) = some 0 := by decide +kernel
set_option maxRecDepth 200000 in
theorem mwX10_loom : Cond.instanceMethod yX10_loom ∈ tb ∧ Cond.selects yX10_loom.cls yX10_loom yX10_loom ∈ tb ∧ Cond.initialized yX10_loom.cls ∈ tb ∧ Cond.code yX10_loom cX10_loom 3 ((some .int)) ∈ tb := ⟨ts7 123 rfl rfl, ts7 124 rfl rfl, ts1 16 rfl rfl, ts7 125 rfl rfl⟩
theorem mdX10_loom : yX10_loom.cls ≠ "java/lang/invoke/MethodHandle" ∧ yX10_loom.cls ≠ "java/lang/invoke/VarHandle" ∧ (parseMethodDescriptor yX10_loom.desc).map (fun d => d.parameters.length) = some 2 := by decide +kernel
set_option maxRecDepth 200000 in
theorem mwX10_lotOf : Cond.instanceMethod yX10_lotOf ∈ tb ∧ Cond.selects yX10_lotOf.cls yX10_lotOf yX10_lotOf ∈ tb ∧ Cond.initialized yX10_lotOf.cls ∈ tb ∧ Cond.code yX10_lotOf cX10_lotOf 2 ((some .int)) ∈ tb := ⟨ts7 192 rfl rfl, ts0 95 rfl rfl, ts1 16 rfl rfl, ts7 193 rfl rfl⟩
theorem mdX10_lotOf : yX10_lotOf.cls ≠ "java/lang/invoke/MethodHandle" ∧ yX10_lotOf.cls ≠ "java/lang/invoke/VarHandle" ∧ (parseMethodDescriptor yX10_lotOf.desc).map (fun d => d.parameters.length) = some 1 := by decide +kernel
set_option maxRecDepth 200000 in
theorem mwX10_mixed : Cond.static yX10_mixed ∈ tb ∧ Cond.initialized yX10_mixed.cls ∈ tb ∧ Cond.code yX10_mixed cX10_mixed 3 ((some .int)) ∈ tb := ⟨ts7 195 rfl rfl, ts1 16 rfl rfl, ts7 196 rfl rfl⟩
theorem mdX10_mixed : yX10_mixed.cls ≠ "java/lang/invoke/MethodHandle" ∧ yX10_mixed.cls ≠ "java/lang/invoke/VarHandle" ∧ (parseMethodDescriptor yX10_mixed.desc).map (fun d => d.parameters.length) = some 2 := by decide +kernel
set_option maxRecDepth 200000 in
theorem mwX10_moreBy : Cond.instanceMethod yX10_moreBy ∈ tb ∧ Cond.selects yX10_moreBy.cls yX10_moreBy yX10_moreBy ∈ tb ∧ Cond.initialized yX10_moreBy.cls ∈ tb ∧ Cond.code yX10_moreBy cX10_moreBy 8 ((some .int)) ∈ tb := ⟨ts8 0 rfl rfl, ts0 100 rfl rfl, ts1 16 rfl rfl, ts8 1 rfl rfl⟩
theorem mdX10_moreBy : yX10_moreBy.cls ≠ "java/lang/invoke/MethodHandle" ∧ yX10_moreBy.cls ≠ "java/lang/invoke/VarHandle" ∧ (parseMethodDescriptor yX10_moreBy.desc).map (fun d => d.parameters.length) = some 5 := by decide +kernel
set_option maxRecDepth 200000 in
theorem mwX10_moreIn : Cond.instanceMethod yX10_moreIn ∈ tb ∧ Cond.selects yX10_moreIn.cls yX10_moreIn yX10_moreIn ∈ tb ∧ Cond.initialized yX10_moreIn.cls ∈ tb ∧ Cond.code yX10_moreIn cX10_moreIn 4 ((some .int)) ∈ tb := ⟨ts8 39 rfl rfl, ts0 106 rfl rfl, ts1 16 rfl rfl, ts8 40 rfl rfl⟩
theorem mdX10_moreIn : yX10_moreIn.cls ≠ "java/lang/invoke/MethodHandle" ∧ yX10_moreIn.cls ≠ "java/lang/invoke/VarHandle" ∧ (parseMethodDescriptor yX10_moreIn.desc).map (fun d => d.parameters.length) = some 1 := by decide +kernel
set_option maxRecDepth 200000 in
theorem mwX10_must : Cond.instanceMethod yX10_must ∈ tb ∧ Cond.selects yX10_must.cls yX10_must yX10_must ∈ tb ∧ Cond.initialized yX10_must.cls ∈ tb ∧ Cond.code yX10_must cX10_must 2 (none) ∈ tb := ⟨ts7 9 rfl rfl, ts0 60 rfl rfl, ts1 16 rfl rfl, ts7 10 rfl rfl⟩
theorem mdX10_must : yX10_must.cls ≠ "java/lang/invoke/MethodHandle" ∧ yX10_must.cls ≠ "java/lang/invoke/VarHandle" ∧ (parseMethodDescriptor yX10_must.desc).map (fun d => d.parameters.length) = some 1 := by decide +kernel
set_option maxRecDepth 200000 in
theorem mwX10_named : Cond.instanceMethod yX10_named ∈ tb ∧ Cond.selects yX10_named.cls yX10_named yX10_named ∈ tb ∧ Cond.initialized yX10_named.cls ∈ tb ∧ Cond.code yX10_named cX10_named 3 ((some .int)) ∈ tb := ⟨ts7 21 rfl rfl, ts0 63 rfl rfl, ts1 16 rfl rfl, ts7 22 rfl rfl⟩
theorem mdX10_named : yX10_named.cls ≠ "java/lang/invoke/MethodHandle" ∧ yX10_named.cls ≠ "java/lang/invoke/VarHandle" ∧ (parseMethodDescriptor yX10_named.desc).map (fun d => d.parameters.length) = some 0 := by decide +kernel
set_option maxRecDepth 200000 in
theorem mwX10_needAll : Cond.instanceMethod yX10_needAll ∈ tb ∧ Cond.selects yX10_needAll.cls yX10_needAll yX10_needAll ∈ tb ∧ Cond.initialized yX10_needAll.cls ∈ tb ∧ Cond.code yX10_needAll cX10_needAll 2 ((some .int)) ∈ tb := ⟨ts7 120 rfl rfl, ts0 84 rfl rfl, ts1 16 rfl rfl, ts7 121 rfl rfl⟩
theorem mdX10_needAll : yX10_needAll.cls ≠ "java/lang/invoke/MethodHandle" ∧ yX10_needAll.cls ≠ "java/lang/invoke/VarHandle" ∧ (parseMethodDescriptor yX10_needAll.desc).map (fun d => d.parameters.length) = some 1 := by decide +kernel
set_option maxRecDepth 200000 in
theorem mwX10_needOf : Cond.instanceMethod yX10_needOf ∈ tb ∧ Cond.selects yX10_needOf.cls yX10_needOf yX10_needOf ∈ tb ∧ Cond.initialized yX10_needOf.cls ∈ tb ∧ Cond.code yX10_needOf cX10_needOf 2 ((some .int)) ∈ tb := ⟨ts7 92 rfl rfl, ts0 78 rfl rfl, ts1 16 rfl rfl, ts7 93 rfl rfl⟩
theorem mdX10_needOf : yX10_needOf.cls ≠ "java/lang/invoke/MethodHandle" ∧ yX10_needOf.cls ≠ "java/lang/invoke/VarHandle" ∧ (parseMethodDescriptor yX10_needOf.desc).map (fun d => d.parameters.length) = some 1 := by decide +kernel
set_option maxRecDepth 200000 in
theorem mwX10_nextPlace : Cond.instanceMethod yX10_nextPlace ∈ tb ∧ Cond.selects yX10_nextPlace.cls yX10_nextPlace yX10_nextPlace ∈ tb ∧ Cond.initialized yX10_nextPlace.cls ∈ tb ∧ Cond.code yX10_nextPlace cX10_nextPlace 5 ((some .int)) ∈ tb := ⟨ts8 16 rfl rfl, ts0 103 rfl rfl, ts1 16 rfl rfl, ts8 17 rfl rfl⟩
theorem mdX10_nextPlace : yX10_nextPlace.cls ≠ "java/lang/invoke/MethodHandle" ∧ yX10_nextPlace.cls ≠ "java/lang/invoke/VarHandle" ∧ (parseMethodDescriptor yX10_nextPlace.desc).map (fun d => d.parameters.length) = some 3 := by decide +kernel
set_option maxRecDepth 200000 in
theorem mwX10_now : Cond.instanceMethod yX10_now ∈ tb ∧ Cond.selects yX10_now.cls yX10_now yX10_now ∈ tb ∧ Cond.initialized yX10_now.cls ∈ tb ∧ Cond.code yX10_now cX10_now 5 ((some .int)) ∈ tb := ⟨ts8 77 rfl rfl, ts8 78 rfl rfl, ts1 16 rfl rfl, ts8 79 rfl rfl⟩
theorem mdX10_now : yX10_now.cls ≠ "java/lang/invoke/MethodHandle" ∧ yX10_now.cls ≠ "java/lang/invoke/VarHandle" ∧ (parseMethodDescriptor yX10_now.desc).map (fun d => d.parameters.length) = some 2 := by decide +kernel
set_option maxRecDepth 200000 in
theorem mwX10_offAll : Cond.instanceMethod yX10_offAll ∈ tb ∧ Cond.selects yX10_offAll.cls yX10_offAll yX10_offAll ∈ tb ∧ Cond.initialized yX10_offAll.cls ∈ tb ∧ Cond.code yX10_offAll cX10_offAll 7 ((some .int)) ∈ tb := ⟨ts8 70 rfl rfl, ts0 109 rfl rfl, ts1 16 rfl rfl, ts8 71 rfl rfl⟩
theorem mdX10_offAll : yX10_offAll.cls ≠ "java/lang/invoke/MethodHandle" ∧ yX10_offAll.cls ≠ "java/lang/invoke/VarHandle" ∧ (parseMethodDescriptor yX10_offAll.desc).map (fun d => d.parameters.length) = some 1 := by decide +kernel
set_option maxRecDepth 200000 in
theorem mwX10_offBy : Cond.instanceMethod yX10_offBy ∈ tb ∧ Cond.selects yX10_offBy.cls yX10_offBy yX10_offBy ∈ tb ∧ Cond.initialized yX10_offBy.cls ∈ tb ∧ Cond.code yX10_offBy cX10_offBy 6 ((some .int)) ∈ tb := ⟨ts8 63 rfl rfl, ts0 108 rfl rfl, ts1 16 rfl rfl, ts8 64 rfl rfl⟩
theorem mdX10_offBy : yX10_offBy.cls ≠ "java/lang/invoke/MethodHandle" ∧ yX10_offBy.cls ≠ "java/lang/invoke/VarHandle" ∧ (parseMethodDescriptor yX10_offBy.desc).map (fun d => d.parameters.length) = some 4 := by decide +kernel
set_option maxRecDepth 200000 in
theorem mwX10_order : Cond.instanceMethod yX10_order ∈ tb ∧ Cond.selects yX10_order.cls yX10_order yX10_order ∈ tb ∧ Cond.initialized yX10_order.cls ∈ tb ∧ Cond.code yX10_order cX10_order 6 ((some .boolean)) ∈ tb := ⟨ts7 151 rfl rfl, ts7 152 rfl rfl, ts1 16 rfl rfl, ts7 153 rfl rfl⟩
theorem mdX10_order : yX10_order.cls ≠ "java/lang/invoke/MethodHandle" ∧ yX10_order.cls ≠ "java/lang/invoke/VarHandle" ∧ (parseMethodDescriptor yX10_order.desc).map (fun d => d.parameters.length) = some 5 := by decide +kernel
set_option maxRecDepth 200000 in
theorem mwX10_place : Cond.instanceMethod yX10_place ∈ tb ∧ Cond.selects yX10_place.cls yX10_place yX10_place ∈ tb ∧ Cond.initialized yX10_place.cls ∈ tb ∧ Cond.code yX10_place cX10_place 1 ((some .int)) ∈ tb := ⟨ts7 64 rfl rfl, ts7 65 rfl rfl, ts1 16 rfl rfl, ts7 66 rfl rfl⟩
theorem mdX10_place : yX10_place.cls ≠ "java/lang/invoke/MethodHandle" ∧ yX10_place.cls ≠ "java/lang/invoke/VarHandle" ∧ (parseMethodDescriptor yX10_place.desc).map (fun d => d.parameters.length) = some 0 := by decide +kernel
set_option maxRecDepth 200000 in
theorem mwX10_plain : Cond.instanceMethod yX10_plain ∈ tb ∧ Cond.selects yX10_plain.cls yX10_plain yX10_plain ∈ tb ∧ Cond.initialized yX10_plain.cls ∈ tb ∧ Cond.code yX10_plain cX10_plain 3 (none) ∈ tb := ⟨ts5 192 rfl rfl, ts0 46 rfl rfl, ts1 16 rfl rfl, ts5 193 rfl rfl⟩
theorem mdX10_plain : yX10_plain.cls ≠ "java/lang/invoke/MethodHandle" ∧ yX10_plain.cls ≠ "java/lang/invoke/VarHandle" ∧ (parseMethodDescriptor yX10_plain.desc).map (fun d => d.parameters.length) = some 1 := by decide +kernel
set_option maxRecDepth 200000 in
theorem mwX10_put : Cond.instanceMethod yX10_put ∈ tb ∧ Cond.selects yX10_put.cls yX10_put yX10_put ∈ tb ∧ Cond.initialized yX10_put.cls ∈ tb ∧ Cond.code yX10_put cX10_put 3 (none) ∈ tb := ⟨ts6 191 rfl rfl, ts0 49 rfl rfl, ts1 16 rfl rfl, ts6 192 rfl rfl⟩
theorem mdX10_put : yX10_put.cls ≠ "java/lang/invoke/MethodHandle" ∧ yX10_put.cls ≠ "java/lang/invoke/VarHandle" ∧ (parseMethodDescriptor yX10_put.desc).map (fun d => d.parameters.length) = some 1 := by decide +kernel
set_option maxRecDepth 200000 in
theorem mwX10_read : Cond.instanceMethod yX10_read ∈ tb ∧ Cond.selects yX10_read.cls yX10_read yX10_read ∈ tb ∧ Cond.initialized yX10_read.cls ∈ tb ∧ Cond.code yX10_read cX10_read 2 ((some .int)) ∈ tb := ⟨ts6 198 rfl rfl, ts6 199 rfl rfl, ts1 16 rfl rfl, ts6 200 rfl rfl⟩
theorem mdX10_read : yX10_read.cls ≠ "java/lang/invoke/MethodHandle" ∧ yX10_read.cls ≠ "java/lang/invoke/VarHandle" ∧ (parseMethodDescriptor yX10_read.desc).map (fun d => d.parameters.length) = some 0 := by decide +kernel
set_option maxRecDepth 200000 in
theorem mwX10_restore : Cond.instanceMethod yX10_restore ∈ tb ∧ Cond.selects yX10_restore.cls yX10_restore yX10_restore ∈ tb ∧ Cond.initialized yX10_restore.cls ∈ tb ∧ Cond.code yX10_restore cX10_restore 3 ((some .boolean)) ∈ tb := ⟨ts8 121 rfl rfl, ts8 122 rfl rfl, ts1 16 rfl rfl, ts8 123 rfl rfl⟩
theorem mdX10_restore : yX10_restore.cls ≠ "java/lang/invoke/MethodHandle" ∧ yX10_restore.cls ≠ "java/lang/invoke/VarHandle" ∧ (parseMethodDescriptor yX10_restore.desc).map (fun d => d.parameters.length) = some 1 := by decide +kernel
set_option maxRecDepth 200000 in
theorem mwX10_roomFor : Cond.instanceMethod yX10_roomFor ∈ tb ∧ Cond.selects yX10_roomFor.cls yX10_roomFor yX10_roomFor ∈ tb ∧ Cond.initialized yX10_roomFor.cls ∈ tb ∧ Cond.code yX10_roomFor cX10_roomFor 3 (none) ∈ tb := ⟨ts6 233 rfl rfl, ts0 56 rfl rfl, ts1 16 rfl rfl, ts6 234 rfl rfl⟩
theorem mdX10_roomFor : yX10_roomFor.cls ≠ "java/lang/invoke/MethodHandle" ∧ yX10_roomFor.cls ≠ "java/lang/invoke/VarHandle" ∧ (parseMethodDescriptor yX10_roomFor.desc).map (fun d => d.parameters.length) = some 2 := by decide +kernel
set_option maxRecDepth 200000 in
theorem mwX10_round : Cond.instanceMethod yX10_round ∈ tb ∧ Cond.selects yX10_round.cls yX10_round yX10_round ∈ tb ∧ Cond.initialized yX10_round.cls ∈ tb ∧ Cond.code yX10_round cX10_round 3 ((some .int)) ∈ tb := ⟨ts7 219 rfl rfl, ts7 220 rfl rfl, ts1 16 rfl rfl, ts7 221 rfl rfl⟩
theorem mdX10_round : yX10_round.cls ≠ "java/lang/invoke/MethodHandle" ∧ yX10_round.cls ≠ "java/lang/invoke/VarHandle" ∧ (parseMethodDescriptor yX10_round.desc).map (fun d => d.parameters.length) = some 1 := by decide +kernel
set_option maxRecDepth 200000 in
theorem mwX10_serve : Cond.instanceMethod yX10_serve ∈ tb ∧ Cond.selects yX10_serve.cls yX10_serve yX10_serve ∈ tb ∧ Cond.initialized yX10_serve.cls ∈ tb ∧ Cond.code yX10_serve cX10_serve 5 ((some .int)) ∈ tb := ⟨ts8 54 rfl rfl, ts8 55 rfl rfl, ts1 16 rfl rfl, ts8 56 rfl rfl⟩
theorem mdX10_serve : yX10_serve.cls ≠ "java/lang/invoke/MethodHandle" ∧ yX10_serve.cls ≠ "java/lang/invoke/VarHandle" ∧ (parseMethodDescriptor yX10_serve.desc).map (fun d => d.parameters.length) = some 3 := by decide +kernel
set_option maxRecDepth 200000 in
theorem mwX10_sign : Cond.instanceMethod yX10_sign ∈ tb ∧ Cond.selects yX10_sign.cls yX10_sign yX10_sign ∈ tb ∧ Cond.initialized yX10_sign.cls ∈ tb ∧ Cond.code yX10_sign cX10_sign 5 ((some .int)) ∈ tb := ⟨ts6 221 rfl rfl, ts0 53 rfl rfl, ts1 16 rfl rfl, ts6 222 rfl rfl⟩
theorem mdX10_sign : yX10_sign.cls ≠ "java/lang/invoke/MethodHandle" ∧ yX10_sign.cls ≠ "java/lang/invoke/VarHandle" ∧ (parseMethodDescriptor yX10_sign.desc).map (fun d => d.parameters.length) = some 3 := by decide +kernel
set_option maxRecDepth 200000 in
theorem mwX10_sixes : Cond.static yX10_sixes ∈ tb ∧ Cond.initialized yX10_sixes.cls ∈ tb ∧ Cond.code yX10_sixes cX10_sixes 3 ((some .int)) ∈ tb := ⟨ts8 66 rfl rfl, ts1 16 rfl rfl, ts8 67 rfl rfl⟩
theorem mdX10_sixes : yX10_sixes.cls ≠ "java/lang/invoke/MethodHandle" ∧ yX10_sixes.cls ≠ "java/lang/invoke/VarHandle" ∧ (parseMethodDescriptor yX10_sixes.desc).map (fun d => d.parameters.length) = some 1 := by decide +kernel
set_option maxRecDepth 200000 in
theorem mwX10_stop : Cond.instanceMethod yX10_stop ∈ tb ∧ Cond.selects yX10_stop.cls yX10_stop yX10_stop ∈ tb ∧ Cond.initialized yX10_stop.cls ∈ tb ∧ Cond.code yX10_stop cX10_stop 3 ((some .boolean)) ∈ tb := ⟨ts7 163 rfl rfl, ts7 164 rfl rfl, ts1 16 rfl rfl, ts7 165 rfl rfl⟩
theorem mdX10_stop : yX10_stop.cls ≠ "java/lang/invoke/MethodHandle" ∧ yX10_stop.cls ≠ "java/lang/invoke/VarHandle" ∧ (parseMethodDescriptor yX10_stop.desc).map (fun d => d.parameters.length) = some 1 := by decide +kernel
set_option maxRecDepth 200000 in
theorem mwX10_suits : Cond.instanceMethod yX10_suits ∈ tb ∧ Cond.selects yX10_suits.cls yX10_suits yX10_suits ∈ tb ∧ Cond.initialized yX10_suits.cls ∈ tb ∧ Cond.code yX10_suits cX10_suits 6 ((some .int)) ∈ tb := ⟨ts8 73 rfl rfl, ts8 74 rfl rfl, ts1 16 rfl rfl, ts8 75 rfl rfl⟩
theorem mdX10_suits : yX10_suits.cls ≠ "java/lang/invoke/MethodHandle" ∧ yX10_suits.cls ≠ "java/lang/invoke/VarHandle" ∧ (parseMethodDescriptor yX10_suits.desc).map (fun d => d.parameters.length) = some 3 := by decide +kernel
set_option maxRecDepth 200000 in
theorem mwX10_sumNow : Cond.instanceMethod yX10_sumNow ∈ tb ∧ Cond.selects yX10_sumNow.cls yX10_sumNow yX10_sumNow ∈ tb ∧ Cond.initialized yX10_sumNow.cls ∈ tb ∧ Cond.code yX10_sumNow cX10_sumNow 5 ((some .int)) ∈ tb := ⟨ts8 130 rfl rfl, ts0 114 rfl rfl, ts1 16 rfl rfl, ts8 131 rfl rfl⟩
theorem mdX10_sumNow : yX10_sumNow.cls ≠ "java/lang/invoke/MethodHandle" ∧ yX10_sumNow.cls ≠ "java/lang/invoke/VarHandle" ∧ (parseMethodDescriptor yX10_sumNow.desc).map (fun d => d.parameters.length) = some 2 := by decide +kernel
set_option maxRecDepth 200000 in
theorem mwX10_tell : Cond.instanceMethod yX10_tell ∈ tb ∧ Cond.selects yX10_tell.cls yX10_tell yX10_tell ∈ tb ∧ Cond.initialized yX10_tell.cls ∈ tb ∧ Cond.code yX10_tell cX10_tell 4 ((some .int)) ∈ tb := ⟨ts8 85 rfl rfl, ts8 86 rfl rfl, ts1 16 rfl rfl, ts8 87 rfl rfl⟩
theorem mdX10_tell : yX10_tell.cls ≠ "java/lang/invoke/MethodHandle" ∧ yX10_tell.cls ≠ "java/lang/invoke/VarHandle" ∧ (parseMethodDescriptor yX10_tell.desc).map (fun d => d.parameters.length) = some 3 := by decide +kernel
set_option maxRecDepth 200000 in
theorem mwX10_tellField : Cond.instanceMethod yX10_tellField ∈ tb ∧ Cond.selects yX10_tellField.cls yX10_tellField yX10_tellField ∈ tb ∧ Cond.initialized yX10_tellField.cls ∈ tb ∧ Cond.code yX10_tellField cX10_tellField 3 (none) ∈ tb := ⟨ts7 17 rfl rfl, ts0 62 rfl rfl, ts1 16 rfl rfl, ts7 18 rfl rfl⟩
theorem mdX10_tellField : yX10_tellField.cls ≠ "java/lang/invoke/MethodHandle" ∧ yX10_tellField.cls ≠ "java/lang/invoke/VarHandle" ∧ (parseMethodDescriptor yX10_tellField.desc).map (fun d => d.parameters.length) = some 0 := by decide +kernel
set_option maxRecDepth 200000 in
theorem mwX10_tellLaw : Cond.instanceMethod yX10_tellLaw ∈ tb ∧ Cond.selects yX10_tellLaw.cls yX10_tellLaw yX10_tellLaw ∈ tb ∧ Cond.initialized yX10_tellLaw.cls ∈ tb ∧ Cond.code yX10_tellLaw cX10_tellLaw 4 (none) ∈ tb := ⟨ts7 37 rfl rfl, ts0 67 rfl rfl, ts1 16 rfl rfl, ts7 38 rfl rfl⟩
theorem mdX10_tellLaw : yX10_tellLaw.cls ≠ "java/lang/invoke/MethodHandle" ∧ yX10_tellLaw.cls ≠ "java/lang/invoke/VarHandle" ∧ (parseMethodDescriptor yX10_tellLaw.desc).map (fun d => d.parameters.length) = some 1 := by decide +kernel
set_option maxRecDepth 200000 in
theorem mwX10_tellLoom : Cond.instanceMethod yX10_tellLoom ∈ tb ∧ Cond.selects yX10_tellLoom.cls yX10_tellLoom yX10_tellLoom ∈ tb ∧ Cond.initialized yX10_tellLoom.cls ∈ tb ∧ Cond.code yX10_tellLoom cX10_tellLoom 3 (none) ∈ tb := ⟨ts7 33 rfl rfl, ts0 66 rfl rfl, ts1 16 rfl rfl, ts7 34 rfl rfl⟩
theorem mdX10_tellLoom : yX10_tellLoom.cls ≠ "java/lang/invoke/MethodHandle" ∧ yX10_tellLoom.cls ≠ "java/lang/invoke/VarHandle" ∧ (parseMethodDescriptor yX10_tellLoom.desc).map (fun d => d.parameters.length) = some 0 := by decide +kernel
set_option maxRecDepth 200000 in
theorem mwX10_tellOne : Cond.instanceMethod yX10_tellOne ∈ tb ∧ Cond.selects yX10_tellOne.cls yX10_tellOne yX10_tellOne ∈ tb ∧ Cond.initialized yX10_tellOne.cls ∈ tb ∧ Cond.code yX10_tellOne cX10_tellOne 2 (none) ∈ tb := ⟨ts6 229 rfl rfl, ts0 55 rfl rfl, ts1 16 rfl rfl, ts6 230 rfl rfl⟩
theorem mdX10_tellOne : yX10_tellOne.cls ≠ "java/lang/invoke/MethodHandle" ∧ yX10_tellOne.cls ≠ "java/lang/invoke/VarHandle" ∧ (parseMethodDescriptor yX10_tellOne.desc).map (fun d => d.parameters.length) = some 0 := by decide +kernel
set_option maxRecDepth 200000 in
theorem mwX10_tellRow : Cond.instanceMethod yX10_tellRow ∈ tb ∧ Cond.selects yX10_tellRow.cls yX10_tellRow yX10_tellRow ∈ tb ∧ Cond.initialized yX10_tellRow.cls ∈ tb ∧ Cond.code yX10_tellRow cX10_tellRow 7 (none) ∈ tb := ⟨ts7 5 rfl rfl, ts0 59 rfl rfl, ts1 16 rfl rfl, ts7 6 rfl rfl⟩
theorem mdX10_tellRow : yX10_tellRow.cls ≠ "java/lang/invoke/MethodHandle" ∧ yX10_tellRow.cls ≠ "java/lang/invoke/VarHandle" ∧ (parseMethodDescriptor yX10_tellRow.desc).map (fun d => d.parameters.length) = some 0 := by decide +kernel
set_option maxRecDepth 200000 in
theorem mwX10_term : Cond.instanceMethod yX10_term ∈ tb ∧ Cond.selects yX10_term.cls yX10_term yX10_term ∈ tb ∧ Cond.initialized yX10_term.cls ∈ tb ∧ Cond.code yX10_term cX10_term 1 (none) ∈ tb := ⟨ts7 57 rfl rfl, ts0 72 rfl rfl, ts1 16 rfl rfl, ts7 58 rfl rfl⟩
theorem mdX10_term : yX10_term.cls ≠ "java/lang/invoke/MethodHandle" ∧ yX10_term.cls ≠ "java/lang/invoke/VarHandle" ∧ (parseMethodDescriptor yX10_term.desc).map (fun d => d.parameters.length) = some 0 := by decide +kernel
set_option maxRecDepth 200000 in
theorem mwX10_termOf : Cond.instanceMethod yX10_termOf ∈ tb ∧ Cond.selects yX10_termOf.cls yX10_termOf yX10_termOf ∈ tb ∧ Cond.initialized yX10_termOf.cls ∈ tb ∧ Cond.code yX10_termOf cX10_termOf 8 ((some .int)) ∈ tb := ⟨ts7 148 rfl rfl, ts0 89 rfl rfl, ts1 16 rfl rfl, ts7 149 rfl rfl⟩
theorem mdX10_termOf : yX10_termOf.cls ≠ "java/lang/invoke/MethodHandle" ∧ yX10_termOf.cls ≠ "java/lang/invoke/VarHandle" ∧ (parseMethodDescriptor yX10_termOf.desc).map (fun d => d.parameters.length) = some 2 := by decide +kernel
set_option maxRecDepth 200000 in
theorem mwX10_then : Cond.instanceMethod yX10_then ∈ tb ∧ Cond.selects yX10_then.cls yX10_then yX10_then ∈ tb ∧ Cond.initialized yX10_then.cls ∈ tb ∧ Cond.code yX10_then cX10_then 4 ((some .int)) ∈ tb := ⟨ts8 27 rfl rfl, ts8 28 rfl rfl, ts1 16 rfl rfl, ts8 29 rfl rfl⟩
theorem mdX10_then : yX10_then.cls ≠ "java/lang/invoke/MethodHandle" ∧ yX10_then.cls ≠ "java/lang/invoke/VarHandle" ∧ (parseMethodDescriptor yX10_then.desc).map (fun d => d.parameters.length) = some 3 := by decide +kernel
set_option maxRecDepth 200000 in
theorem mwX10_thread : Cond.instanceMethod yX10_thread ∈ tb ∧ Cond.selects yX10_thread.cls yX10_thread yX10_thread ∈ tb ∧ Cond.initialized yX10_thread.cls ∈ tb ∧ Cond.code yX10_thread cX10_thread 4 ((some .int)) ∈ tb := ⟨ts7 131 rfl rfl, ts7 132 rfl rfl, ts1 16 rfl rfl, ts7 133 rfl rfl⟩
theorem mdX10_thread : yX10_thread.cls ≠ "java/lang/invoke/MethodHandle" ∧ yX10_thread.cls ≠ "java/lang/invoke/VarHandle" ∧ (parseMethodDescriptor yX10_thread.desc).map (fun d => d.parameters.length) = some 3 := by decide +kernel
set_option maxRecDepth 200000 in
theorem mwX10_threadOf : Cond.instanceMethod yX10_threadOf ∈ tb ∧ Cond.selects yX10_threadOf.cls yX10_threadOf yX10_threadOf ∈ tb ∧ Cond.initialized yX10_threadOf.cls ∈ tb ∧ Cond.code yX10_threadOf cX10_threadOf 4 ((some .int)) ∈ tb := ⟨ts7 136 rfl rfl, ts0 86 rfl rfl, ts1 16 rfl rfl, ts7 137 rfl rfl⟩
theorem mdX10_threadOf : yX10_threadOf.cls ≠ "java/lang/invoke/MethodHandle" ∧ yX10_threadOf.cls ≠ "java/lang/invoke/VarHandle" ∧ (parseMethodDescriptor yX10_threadOf.desc).map (fun d => d.parameters.length) = some 3 := by decide +kernel
set_option maxRecDepth 200000 in
theorem mwX10_token : Cond.instanceMethod yX10_token ∈ tb ∧ Cond.selects yX10_token.cls yX10_token yX10_token ∈ tb ∧ Cond.initialized yX10_token.cls ∈ tb ∧ Cond.code yX10_token cX10_token 6 (none) ∈ tb := ⟨ts6 211 rfl rfl, ts0 52 rfl rfl, ts1 16 rfl rfl, ts6 212 rfl rfl⟩
theorem mdX10_token : yX10_token.cls ≠ "java/lang/invoke/MethodHandle" ∧ yX10_token.cls ≠ "java/lang/invoke/VarHandle" ∧ (parseMethodDescriptor yX10_token.desc).map (fun d => d.parameters.length) = some 4 := by decide +kernel
set_option maxRecDepth 200000 in
theorem mwX10_turn : Cond.instanceMethod yX10_turn ∈ tb ∧ Cond.selects yX10_turn.cls yX10_turn yX10_turn ∈ tb ∧ Cond.initialized yX10_turn.cls ∈ tb ∧ Cond.code yX10_turn cX10_turn 3 ((some .int)) ∈ tb := ⟨ts7 175 rfl rfl, ts7 176 rfl rfl, ts1 16 rfl rfl, ts7 177 rfl rfl⟩
theorem mdX10_turn : yX10_turn.cls ≠ "java/lang/invoke/MethodHandle" ∧ yX10_turn.cls ≠ "java/lang/invoke/VarHandle" ∧ (parseMethodDescriptor yX10_turn.desc).map (fun d => d.parameters.length) = some 2 := by decide +kernel
set_option maxRecDepth 200000 in
theorem mwX10_undo : Cond.instanceMethod yX10_undo ∈ tb ∧ Cond.selects yX10_undo.cls yX10_undo yX10_undo ∈ tb ∧ Cond.initialized yX10_undo.cls ∈ tb ∧ Cond.code yX10_undo cX10_undo 2 ((some .boolean)) ∈ tb := ⟨ts7 203 rfl rfl, ts7 204 rfl rfl, ts1 16 rfl rfl, ts7 205 rfl rfl⟩
theorem mdX10_undo : yX10_undo.cls ≠ "java/lang/invoke/MethodHandle" ∧ yX10_undo.cls ≠ "java/lang/invoke/VarHandle" ∧ (parseMethodDescriptor yX10_undo.desc).map (fun d => d.parameters.length) = some 0 := by decide +kernel
set_option maxRecDepth 200000 in
theorem mwX10_unit : Cond.instanceMethod yX10_unit ∈ tb ∧ Cond.selects yX10_unit.cls yX10_unit yX10_unit ∈ tb ∧ Cond.initialized yX10_unit.cls ∈ tb ∧ Cond.code yX10_unit cX10_unit 1 (none) ∈ tb := ⟨ts7 45 rfl rfl, ts0 69 rfl rfl, ts1 16 rfl rfl, ts7 46 rfl rfl⟩
theorem mdX10_unit : yX10_unit.cls ≠ "java/lang/invoke/MethodHandle" ∧ yX10_unit.cls ≠ "java/lang/invoke/VarHandle" ∧ (parseMethodDescriptor yX10_unit.desc).map (fun d => d.parameters.length) = some 0 := by decide +kernel
set_option maxRecDepth 200000 in
theorem mwX10_wetBy : Cond.instanceMethod yX10_wetBy ∈ tb ∧ Cond.selects yX10_wetBy.cls yX10_wetBy yX10_wetBy ∈ tb ∧ Cond.initialized yX10_wetBy.cls ∈ tb ∧ Cond.code yX10_wetBy cX10_wetBy 7 ((some .int)) ∈ tb := ⟨ts8 106 rfl rfl, ts0 112 rfl rfl, ts1 16 rfl rfl, ts8 107 rfl rfl⟩
theorem mdX10_wetBy : yX10_wetBy.cls ≠ "java/lang/invoke/MethodHandle" ∧ yX10_wetBy.cls ≠ "java/lang/invoke/VarHandle" ∧ (parseMethodDescriptor yX10_wetBy.desc).map (fun d => d.parameters.length) = some 4 := by decide +kernel
set_option maxRecDepth 200000 in
theorem mwX10_wettest : Cond.instanceMethod yX10_wettest ∈ tb ∧ Cond.selects yX10_wettest.cls yX10_wettest yX10_wettest ∈ tb ∧ Cond.initialized yX10_wettest.cls ∈ tb ∧ Cond.code yX10_wettest cX10_wettest 5 ((some .int)) ∈ tb := ⟨ts8 42 rfl rfl, ts8 43 rfl rfl, ts1 16 rfl rfl, ts8 44 rfl rfl⟩
theorem mdX10_wettest : yX10_wettest.cls ≠ "java/lang/invoke/MethodHandle" ∧ yX10_wettest.cls ≠ "java/lang/invoke/VarHandle" ∧ (parseMethodDescriptor yX10_wettest.desc).map (fun d => d.parameters.length) = some 2 := by decide +kernel
set_option maxRecDepth 200000 in
theorem mwX10_where : Cond.instanceMethod yX10_where ∈ tb ∧ Cond.selects yX10_where.cls yX10_where yX10_where ∈ tb ∧ Cond.initialized yX10_where.cls ∈ tb ∧ Cond.code yX10_where cX10_where 5 ((some .int)) ∈ tb := ⟨ts7 231 rfl rfl, ts7 232 rfl rfl, ts1 16 rfl rfl, ts7 233 rfl rfl⟩
theorem mdX10_where : yX10_where.cls ≠ "java/lang/invoke/MethodHandle" ∧ yX10_where.cls ≠ "java/lang/invoke/VarHandle" ∧ (parseMethodDescriptor yX10_where.desc).map (fun d => d.parameters.length) = some 4 := by decide +kernel
set_option maxRecDepth 200000 in
theorem mwX10_word : Cond.static yX10_word ∈ tb ∧ Cond.initialized yX10_word.cls ∈ tb ∧ Cond.code yX10_word cX10_word 7 ((some .long)) ∈ tb := ⟨ts5 195 rfl rfl, ts1 16 rfl rfl, ts5 196 rfl rfl⟩
theorem mdX10_word : yX10_word.cls ≠ "java/lang/invoke/MethodHandle" ∧ yX10_word.cls ≠ "java/lang/invoke/VarHandle" ∧ (parseMethodDescriptor yX10_word.desc).map (fun d => d.parameters.length) = some 7 := by decide +kernel
set_option maxRecDepth 200000 in
theorem mwX10_worstAt : Cond.instanceMethod yX10_worstAt ∈ tb ∧ Cond.selects yX10_worstAt.cls yX10_worstAt yX10_worstAt ∈ tb ∧ Cond.initialized yX10_worstAt.cls ∈ tb ∧ Cond.code yX10_worstAt cX10_worstAt 6 ((some .int)) ∈ tb := ⟨ts8 114 rfl rfl, ts0 113 rfl rfl, ts1 16 rfl rfl, ts8 115 rfl rfl⟩
theorem mdX10_worstAt : yX10_worstAt.cls ≠ "java/lang/invoke/MethodHandle" ∧ yX10_worstAt.cls ≠ "java/lang/invoke/VarHandle" ∧ (parseMethodDescriptor yX10_worstAt.desc).map (fun d => d.parameters.length) = some 3 := by decide +kernel
set_option maxRecDepth 200000 in
theorem mwX10_wrong : Cond.instanceMethod yX10_wrong ∈ tb ∧ Cond.selects yX10_wrong.cls yX10_wrong yX10_wrong ∈ tb ∧ Cond.initialized yX10_wrong.cls ∈ tb ∧ Cond.code yX10_wrong cX10_wrong 4 (none) ∈ tb := ⟨ts7 13 rfl rfl, ts0 61 rfl rfl, ts1 16 rfl rfl, ts7 14 rfl rfl⟩
theorem mdX10_wrong : yX10_wrong.cls ≠ "java/lang/invoke/MethodHandle" ∧ yX10_wrong.cls ≠ "java/lang/invoke/VarHandle" ∧ (parseMethodDescriptor yX10_wrong.desc).map (fun d => d.parameters.length) = some 2 := by decide +kernel
set_option maxRecDepth 200000 in
theorem mwX10_year : Cond.instanceMethod yX10_year ∈ tb ∧ Cond.selects yX10_year.cls yX10_year yX10_year ∈ tb ∧ Cond.initialized yX10_year.cls ∈ tb ∧ Cond.code yX10_year cX10_year 5 ((some .int)) ∈ tb := ⟨ts8 81 rfl rfl, ts8 82 rfl rfl, ts1 16 rfl rfl, ts8 83 rfl rfl⟩
theorem mdX10_year : yX10_year.cls ≠ "java/lang/invoke/MethodHandle" ∧ yX10_year.cls ≠ "java/lang/invoke/VarHandle" ∧ (parseMethodDescriptor yX10_year.desc).map (fun d => d.parameters.length) = some 2 := by decide +kernel
set_option maxRecDepth 200000 in
theorem mwJ0_charAt_5068e : Cond.instanceMethod yJ0_charAt_5068e ∈ tb ∧ Cond.selects yJ0_charAt_5068e.cls yJ0_charAt_5068e yJ0_charAt_5068e ∈ tb ∧ Cond.initialized yJ0_charAt_5068e.cls ∈ tb ∧ Cond.code yJ0_charAt_5068e cJ0_charAt_5068e 2 ((some .char)) ∈ tb := ⟨ts1 52 rfl rfl, ts1 53 rfl rfl, ts1 4 rfl rfl, ts1 54 rfl rfl⟩
theorem mdJ0_charAt_5068e : yJ0_charAt_5068e.cls ≠ "java/lang/invoke/MethodHandle" ∧ yJ0_charAt_5068e.cls ≠ "java/lang/invoke/VarHandle" ∧ (parseMethodDescriptor yJ0_charAt_5068e.desc).map (fun d => d.parameters.length) = some 1 := by decide +kernel
set_option maxRecDepth 200000 in
theorem mwJ0_checkIndex_df160 : Cond.static yJ0_checkIndex_df160 ∈ tb ∧ Cond.initialized yJ0_checkIndex_df160.cls ∈ tb ∧ Cond.code yJ0_checkIndex_df160 cJ0_checkIndex_df160 2 (none) ∈ tb := ⟨ts1 63 rfl rfl, ts1 4 rfl rfl, ts1 64 rfl rfl⟩
theorem mdJ0_checkIndex_df160 : yJ0_checkIndex_df160.cls ≠ "java/lang/invoke/MethodHandle" ∧ yJ0_checkIndex_df160.cls ≠ "java/lang/invoke/VarHandle" ∧ (parseMethodDescriptor yJ0_checkIndex_df160.desc).map (fun d => d.parameters.length) = some 2 := by decide +kernel
set_option maxRecDepth 200000 in
theorem mwJ0_coder_7d493 : Cond.instanceMethod yJ0_coder_7d493 ∈ tb ∧ Cond.selects yJ0_coder_7d493.cls yJ0_coder_7d493 yJ0_coder_7d493 ∈ tb ∧ Cond.initialized yJ0_coder_7d493.cls ∈ tb ∧ Cond.code yJ0_coder_7d493 cJ0_coder_7d493 1 ((some .byte)) ∈ tb := ⟨ts1 46 rfl rfl, ts1 47 rfl rfl, ts1 4 rfl rfl, ts1 48 rfl rfl⟩
theorem mdJ0_coder_7d493 : yJ0_coder_7d493.cls ≠ "java/lang/invoke/MethodHandle" ∧ yJ0_coder_7d493.cls ≠ "java/lang/invoke/VarHandle" ∧ (parseMethodDescriptor yJ0_coder_7d493.desc).map (fun d => d.parameters.length) = some 0 := by decide +kernel
set_option maxRecDepth 200000 in
theorem mwJ0_indexOf_0f7a4 : Cond.instanceMethod yJ0_indexOf_0f7a4 ∈ tb ∧ Cond.selects yJ0_indexOf_0f7a4.cls yJ0_indexOf_0f7a4 yJ0_indexOf_0f7a4 ∈ tb ∧ Cond.initialized yJ0_indexOf_0f7a4.cls ∈ tb ∧ Cond.code yJ0_indexOf_0f7a4 cJ0_indexOf_0f7a4 2 ((some .int)) ∈ tb := ⟨ts3 76 rfl rfl, ts3 77 rfl rfl, ts1 4 rfl rfl, ts3 78 rfl rfl⟩
theorem mdJ0_indexOf_0f7a4 : yJ0_indexOf_0f7a4.cls ≠ "java/lang/invoke/MethodHandle" ∧ yJ0_indexOf_0f7a4.cls ≠ "java/lang/invoke/VarHandle" ∧ (parseMethodDescriptor yJ0_indexOf_0f7a4.desc).map (fun d => d.parameters.length) = some 1 := by decide +kernel
set_option maxRecDepth 200000 in
theorem mwJ0_indexOf_7cf53 : Cond.instanceMethod yJ0_indexOf_7cf53 ∈ tb ∧ Cond.selects yJ0_indexOf_7cf53.cls yJ0_indexOf_7cf53 yJ0_indexOf_7cf53 ∈ tb ∧ Cond.initialized yJ0_indexOf_7cf53.cls ∈ tb ∧ Cond.code yJ0_indexOf_7cf53 cJ0_indexOf_7cf53 3 ((some .int)) ∈ tb := ⟨ts3 80 rfl rfl, ts3 81 rfl rfl, ts1 4 rfl rfl, ts3 82 rfl rfl⟩
theorem mdJ0_indexOf_7cf53 : yJ0_indexOf_7cf53.cls ≠ "java/lang/invoke/MethodHandle" ∧ yJ0_indexOf_7cf53.cls ≠ "java/lang/invoke/VarHandle" ∧ (parseMethodDescriptor yJ0_indexOf_7cf53.desc).map (fun d => d.parameters.length) = some 2 := by decide +kernel
set_option maxRecDepth 200000 in
theorem mwJ0_isLatin1_aae02 : Cond.instanceMethod yJ0_isLatin1_aae02 ∈ tb ∧ Cond.selects yJ0_isLatin1_aae02.cls yJ0_isLatin1_aae02 yJ0_isLatin1_aae02 ∈ tb ∧ Cond.initialized yJ0_isLatin1_aae02.cls ∈ tb ∧ Cond.code yJ0_isLatin1_aae02 cJ0_isLatin1_aae02 1 ((some .boolean)) ∈ tb := ⟨ts1 56 rfl rfl, ts1 57 rfl rfl, ts1 4 rfl rfl, ts1 58 rfl rfl⟩
theorem mdJ0_isLatin1_aae02 : yJ0_isLatin1_aae02.cls ≠ "java/lang/invoke/MethodHandle" ∧ yJ0_isLatin1_aae02.cls ≠ "java/lang/invoke/VarHandle" ∧ (parseMethodDescriptor yJ0_isLatin1_aae02.desc).map (fun d => d.parameters.length) = some 0 := by decide +kernel
set_option maxRecDepth 200000 in
theorem mwJ0_length_8abf5 : Cond.instanceMethod yJ0_length_8abf5 ∈ tb ∧ Cond.selects yJ0_length_8abf5.cls yJ0_length_8abf5 yJ0_length_8abf5 ∈ tb ∧ Cond.initialized yJ0_length_8abf5.cls ∈ tb ∧ Cond.code yJ0_length_8abf5 cJ0_length_8abf5 1 ((some .int)) ∈ tb := ⟨ts1 42 rfl rfl, ts1 43 rfl rfl, ts1 4 rfl rfl, ts1 44 rfl rfl⟩
theorem mdJ0_length_8abf5 : yJ0_length_8abf5.cls ≠ "java/lang/invoke/MethodHandle" ∧ yJ0_length_8abf5.cls ≠ "java/lang/invoke/VarHandle" ∧ (parseMethodDescriptor yJ0_length_8abf5.desc).map (fun d => d.parameters.length) = some 0 := by decide +kernel
set_option maxRecDepth 200000 in
theorem mwJ1_canEncode_9a6ad : Cond.static yJ1_canEncode_9a6ad ∈ tb ∧ Cond.initialized yJ1_canEncode_9a6ad.cls ∈ tb ∧ Cond.code yJ1_canEncode_9a6ad cJ1_canEncode_9a6ad 1 ((some .boolean)) ∈ tb := ⟨ts3 88 rfl rfl, ts1 5 rfl rfl, ts3 89 rfl rfl⟩
theorem mdJ1_canEncode_9a6ad : yJ1_canEncode_9a6ad.cls ≠ "java/lang/invoke/MethodHandle" ∧ yJ1_canEncode_9a6ad.cls ≠ "java/lang/invoke/VarHandle" ∧ (parseMethodDescriptor yJ1_canEncode_9a6ad.desc).map (fun d => d.parameters.length) = some 1 := by decide +kernel
set_option maxRecDepth 200000 in
theorem mwJ1_charAt_3b067 : Cond.static yJ1_charAt_3b067 ∈ tb ∧ Cond.initialized yJ1_charAt_3b067.cls ∈ tb ∧ Cond.code yJ1_charAt_3b067 cJ1_charAt_3b067 2 ((some .char)) ∈ tb := ⟨ts1 60 rfl rfl, ts1 5 rfl rfl, ts1 61 rfl rfl⟩
theorem mdJ1_charAt_3b067 : yJ1_charAt_3b067.cls ≠ "java/lang/invoke/MethodHandle" ∧ yJ1_charAt_3b067.cls ≠ "java/lang/invoke/VarHandle" ∧ (parseMethodDescriptor yJ1_charAt_3b067.desc).map (fun d => d.parameters.length) = some 2 := by decide +kernel
set_option maxRecDepth 200000 in
theorem mwJ1_indexOf_4cfef : Cond.static yJ1_indexOf_4cfef ∈ tb ∧ Cond.initialized yJ1_indexOf_4cfef.cls ∈ tb ∧ Cond.code yJ1_indexOf_4cfef cJ1_indexOf_4cfef 4 ((some .int)) ∈ tb := ⟨ts3 85 rfl rfl, ts1 5 rfl rfl, ts3 86 rfl rfl⟩
theorem mdJ1_indexOf_4cfef : yJ1_indexOf_4cfef.cls ≠ "java/lang/invoke/MethodHandle" ∧ yJ1_indexOf_4cfef.cls ≠ "java/lang/invoke/VarHandle" ∧ (parseMethodDescriptor yJ1_indexOf_4cfef.desc).map (fun d => d.parameters.length) = some 4 := by decide +kernel
set_option maxRecDepth 200000 in
theorem mwJ1_indexOfChar_4cfef : Cond.static yJ1_indexOfChar_4cfef ∈ tb ∧ Cond.initialized yJ1_indexOfChar_4cfef.cls ∈ tb ∧ Cond.code yJ1_indexOfChar_4cfef cJ1_indexOfChar_4cfef 6 ((some .int)) ∈ tb := ⟨ts3 95 rfl rfl, ts1 5 rfl rfl, ts3 96 rfl rfl⟩
theorem mdJ1_indexOfChar_4cfef : yJ1_indexOfChar_4cfef.cls ≠ "java/lang/invoke/MethodHandle" ∧ yJ1_indexOfChar_4cfef.cls ≠ "java/lang/invoke/VarHandle" ∧ (parseMethodDescriptor yJ1_indexOfChar_4cfef.desc).map (fun d => d.parameters.length) = some 4 := by decide +kernel
set_option maxRecDepth 200000 in
theorem mwJ7_fill_53178 : Cond.static yJ7_fill_53178 ∈ tb ∧ Cond.initialized yJ7_fill_53178.cls ∈ tb ∧ Cond.code yJ7_fill_53178 cJ7_fill_53178 4 (none) ∈ tb := ⟨ts1 146 rfl rfl, ts1 10 rfl rfl, ts1 147 rfl rfl⟩
theorem mdJ7_fill_53178 : yJ7_fill_53178.cls ≠ "java/lang/invoke/MethodHandle" ∧ yJ7_fill_53178.cls ≠ "java/lang/invoke/VarHandle" ∧ (parseMethodDescriptor yJ7_fill_53178.desc).map (fun d => d.parameters.length) = some 2 := by decide +kernel
set_option maxRecDepth 200000 in
theorem mwJ3_checkIndex_8e157 : Cond.static yJ3_checkIndex_8e157 ∈ tb ∧ Cond.initialized yJ3_checkIndex_8e157.cls ∈ tb ∧ Cond.code yJ3_checkIndex_8e157 cJ3_checkIndex_8e157 3 ((some .int)) ∈ tb := ⟨ts1 68 rfl rfl, ts1 6 rfl rfl, ts1 69 rfl rfl⟩
theorem mdJ3_checkIndex_8e157 : yJ3_checkIndex_8e157.cls ≠ "java/lang/invoke/MethodHandle" ∧ yJ3_checkIndex_8e157.cls ≠ "java/lang/invoke/VarHandle" ∧ (parseMethodDescriptor yJ3_checkIndex_8e157.desc).map (fun d => d.parameters.length) = some 3 := by decide +kernel
set_option maxRecDepth 200000 in
theorem mlX9_86 : VL RX9 86 5 yX5_begin cX5_begin 3 (none) 1 := ⟨⟨TX5, 6, rfl⟩, by decide, ts2 199 rfl rfl, mwX5_begin.1, mwX5_begin.2.1, mwX5_begin.2.2.1, mwX5_begin.2.2.2, mdX5_begin, by decide⟩
set_option maxRecDepth 200000 in
theorem mlX9_89 : VL RX9 89 9 yX9_putFour cX9_putFour 3 (none) 1 := ⟨⟨TX9, 14, rfl⟩, by decide, ts3 26 rfl rfl, mwX9_putFour.1, mwX9_putFour.2.1, mwX9_putFour.2.2.1, mwX9_putFour.2.2.2, mdX9_putFour, by decide⟩
set_option maxRecDepth 200000 in
theorem mlX9_93 : VL RX9 93 4 yX4_readText cX4_readText 4 ((some .int)) 2 := ⟨⟨TX4, 10, rfl⟩, by decide, ts3 38 rfl rfl, mwX4_readText.1, mwX4_readText.2.1, mwX4_readText.2.2.1, mwX4_readText.2.2.2, mdX4_readText, by decide⟩
set_option maxRecDepth 200000 in
theorem mlX9_99 : VL RX9 99 9 yX9_beginAnew cX9_beginAnew 2 (none) 0 := ⟨⟨TX9, 14, rfl⟩, by decide, ts3 222 rfl rfl, mwX9_beginAnew.1, mwX9_beginAnew.2.1, mwX9_beginAnew.2.2.1, mwX9_beginAnew.2.2.2, mdX9_beginAnew, by decide⟩
set_option maxRecDepth 200000 in
theorem mlX9_102 : VL RX9 102 7 yX7_begin cX7_begin 2 (none) 1 := ⟨⟨TX7, 6, rfl⟩, by decide, ts3 226 rfl rfl, mwX7_begin.1, mwX7_begin.2.1, mwX7_begin.2.2.1, mwX7_begin.2.2.2, mdX7_begin, by decide⟩
set_option maxRecDepth 200000 in
theorem mlX9_103 : VL RX9 103 2 yX2_clear cX2_clear 1 (none) 0 := ⟨⟨TX2, 3, rfl⟩, by decide, ts3 231 rfl rfl, mwX2_clear.1, mwX2_clear.2.1, mwX2_clear.2.2.1, mwX2_clear.2.2.2, mdX2_clear, by decide⟩
set_option maxRecDepth 200000 in
theorem mlX9_106 : VL RX9 106 8 yX8_clear cX8_clear 1 (none) 0 := ⟨⟨TX8, 10, rfl⟩, by decide, ts3 235 rfl rfl, mwX8_clear.1, mwX8_clear.2.1, mwX8_clear.2.2.1, mwX8_clear.2.2.2, mdX8_clear, by decide⟩
set_option maxRecDepth 200000 in
theorem mlX9_107 : VL RX9 107 3 yX3_hasCell cX3_hasCell 3 ((some .boolean)) 2 := ⟨⟨TX3, 16, rfl⟩, by decide, ts4 7 rfl rfl, mwX3_hasCell.1, mwX3_hasCell.2.1, mwX3_hasCell.2.2.1, mwX3_hasCell.2.2.2, mdX3_hasCell, by decide⟩
set_option maxRecDepth 200000 in
theorem mlX9_111 : VL RX9 111 3 yX3_fieldAt cX3_fieldAt 3 ((some .int)) 2 := ⟨⟨TX3, 16, rfl⟩, by decide, ts4 11 rfl rfl, mwX3_fieldAt.1, mwX3_fieldAt.2.1, mwX3_fieldAt.2.2.1, mwX3_fieldAt.2.2.2, mdX3_fieldAt, by decide⟩
set_option maxRecDepth 200000 in
theorem mlX9_115 : VL RX9 115 5 yX5_waterAt cX5_waterAt 4 ((some .int)) 2 := ⟨⟨TX5, 6, rfl⟩, by decide, ts4 16 rfl rfl, mwX5_waterAt.1, mwX5_waterAt.2.1, mwX5_waterAt.2.2.1, mwX5_waterAt.2.2.2, mdX5_waterAt, by decide⟩
set_option maxRecDepth 200000 in
theorem mlX9_118 : VL RX9 118 3 yX3_lacks cX3_lacks 3 ((some .boolean)) 2 := ⟨⟨TX3, 16, rfl⟩, by decide, ts4 20 rfl rfl, mwX3_lacks.1, mwX3_lacks.2.1, mwX3_lacks.2.2.1, mwX3_lacks.2.2.2, mdX3_lacks, by decide⟩
set_option maxRecDepth 200000 in
theorem mlX9_121 : VL RX9 121 3 yX3_drowned cX3_drowned 3 ((some .boolean)) 2 := ⟨⟨TX3, 16, rfl⟩, by decide, ts4 28 rfl rfl, mwX3_drowned.1, mwX3_drowned.2.1, mwX3_drowned.2.2.1, mwX3_drowned.2.2.2, mdX3_drowned, by decide⟩
set_option maxRecDepth 200000 in
theorem mlX9_124 : VL RX9 124 3 yX3_hasField cX3_hasField 2 ((some .boolean)) 1 := ⟨⟨TX3, 16, rfl⟩, by decide, ts4 36 rfl rfl, mwX3_hasField.1, mwX3_hasField.2.1, mwX3_hasField.2.2.1, mwX3_hasField.2.2.2, mdX3_hasField, by decide⟩
set_option maxRecDepth 200000 in
theorem mlX9_131 : VL RX9 131 5 yX5_waterOf cX5_waterOf 5 ((some .int)) 2 := ⟨⟨TX5, 6, rfl⟩, by decide, ts4 37 rfl rfl, mwX5_waterOf.1, mwX5_waterOf.2.1, mwX5_waterOf.2.2.1, mwX5_waterOf.2.2.2, mdX5_waterOf, by decide⟩
set_option maxRecDepth 200000 in
theorem mlX9_141 : VL RX9 141 3 yX3_needOf cX3_needOf 2 ((some .int)) 1 := ⟨⟨TX3, 16, rfl⟩, by decide, ts4 41 rfl rfl, mwX3_needOf.1, mwX3_needOf.2.1, mwX3_needOf.2.2.1, mwX3_needOf.2.2.2, mdX3_needOf, by decide⟩
set_option maxRecDepth 200000 in
theorem mlX9_145 : VL RX9 145 3 yX3_hasLoom cX3_hasLoom 2 ((some .boolean)) 1 := ⟨⟨TX3, 16, rfl⟩, by decide, ts4 49 rfl rfl, mwX3_hasLoom.1, mwX3_hasLoom.2.1, mwX3_hasLoom.2.2.1, mwX3_hasLoom.2.2.2, mdX3_hasLoom, by decide⟩
set_option maxRecDepth 200000 in
theorem mlX9_148 : VL RX9 148 5 yX5_part cX5_part 3 ((some .int)) 2 := ⟨⟨TX5, 6, rfl⟩, by decide, ts4 53 rfl rfl, mwX5_part.1, mwX5_part.2.1, mwX5_part.2.2.1, mwX5_part.2.2.2, mdX5_part, by decide⟩
set_option maxRecDepth 200000 in
theorem mlX9_154 : VL RX9 154 7 yX7_rowAt cX7_rowAt 7 ((some .int)) 2 := ⟨⟨TX7, 6, rfl⟩, by decide, ts4 61 rfl rfl, mwX7_rowAt.1, mwX7_rowAt.2.1, mwX7_rowAt.2.2.1, mwX7_rowAt.2.2.2, mdX7_rowAt, by decide⟩
set_option maxRecDepth 200000 in
theorem mlX9_157 : SL RX9 157 yX7_threadOf cX7_threadOf 2 ((some .int)) 2 := ⟨ts4 76 rfl rfl, mwX7_threadOf.1, mwX7_threadOf.2.1, mwX7_threadOf.2.2, mdX7_threadOf, by decide⟩
set_option maxRecDepth 200000 in
theorem mlX9_184 : SL RX9 184 yX5_sum cX5_sum 3 ((some .int)) 1 := ⟨ts4 87 rfl rfl, mwX5_sum.1, mwX5_sum.2.1, mwX5_sum.2.2, mdX5_sum, by decide⟩
set_option maxRecDepth 200000 in
theorem mlX9_188 : VL RX9 188 5 yX5_woven cX5_woven 3 ((some .int)) 0 := ⟨⟨TX5, 6, rfl⟩, by decide, ts4 90 rfl rfl, mwX5_woven.1, mwX5_woven.2.1, mwX5_woven.2.2.1, mwX5_woven.2.2.2, mdX5_woven, by decide⟩
set_option maxRecDepth 200000 in
theorem mlX9_198 : VL RX9 198 9 yX9_heldSlots cX9_heldSlots 3 ((some .int)) 0 := ⟨⟨TX9, 14, rfl⟩, by decide, ts4 95 rfl rfl, mwX9_heldSlots.1, mwX9_heldSlots.2.1, mwX9_heldSlots.2.2.1, mwX9_heldSlots.2.2.2, mdX9_heldSlots, by decide⟩
set_option maxRecDepth 200000 in
theorem mlX9_201 : VL RX9 201 9 yX9_isPiece cX9_isPiece 4 ((some .boolean)) 3 := ⟨⟨TX9, 14, rfl⟩, by decide, ts4 103 rfl rfl, mwX9_isPiece.1, mwX9_isPiece.2.1, mwX9_isPiece.2.2.1, mwX9_isPiece.2.2.2, mdX9_isPiece, by decide⟩
set_option maxRecDepth 200000 in
theorem mlX9_205 : VL RX9 205 5 yX5_isOrdered cX5_isOrdered 6 ((some .boolean)) 5 := ⟨⟨TX5, 6, rfl⟩, by decide, ts4 107 rfl rfl, mwX5_isOrdered.1, mwX5_isOrdered.2.1, mwX5_isOrdered.2.2.1, mwX5_isOrdered.2.2.2, mdX5_isOrdered, by decide⟩
set_option maxRecDepth 200000 in
theorem mlX9_209 : VL RX9 209 2 yX2_remember cX2_remember 2 (none) 1 := ⟨⟨TX2, 3, rfl⟩, by decide, ts4 111 rfl rfl, mwX2_remember.1, mwX2_remember.2.1, mwX2_remember.2.2.1, mwX2_remember.2.2.2, mdX2_remember, by decide⟩
set_option maxRecDepth 200000 in
theorem mlX9_213 : VL RX9 213 5 yX5_setOrder cX5_setOrder 6 (none) 5 := ⟨⟨TX5, 6, rfl⟩, by decide, ts4 123 rfl rfl, mwX5_setOrder.1, mwX5_setOrder.2.1, mwX5_setOrder.2.2.1, mwX5_setOrder.2.2.2, mdX5_setOrder, by decide⟩
set_option maxRecDepth 200000 in
theorem mlX9_217 : VL RX9 217 5 yX5_hasOrder cX5_hasOrder 2 ((some .boolean)) 1 := ⟨⟨TX5, 6, rfl⟩, by decide, ts4 128 rfl rfl, mwX5_hasOrder.1, mwX5_hasOrder.2.1, mwX5_hasOrder.2.2.1, mwX5_hasOrder.2.2.2, mdX5_hasOrder, by decide⟩
set_option maxRecDepth 200000 in
theorem mlX9_220 : VL RX9 220 7 yX7_letFall cX7_letFall 10 ((some .int)) 6 := ⟨⟨TX7, 6, rfl⟩, by decide, ts4 136 rfl rfl, mwX7_letFall.1, mwX7_letFall.2.1, mwX7_letFall.2.2.1, mwX7_letFall.2.2.2, mdX7_letFall, by decide⟩
set_option maxRecDepth 200000 in
theorem mlX9_224 : VL RX9 224 5 yX5_addPart cX5_addPart 4 (none) 3 := ⟨⟨TX5, 6, rfl⟩, by decide, ts4 156 rfl rfl, mwX5_addPart.1, mwX5_addPart.2.1, mwX5_addPart.2.2.1, mwX5_addPart.2.2.2, mdX5_addPart, by decide⟩
set_option maxRecDepth 200000 in
theorem mlX9_231 : VL RX9 231 7 yX7_passDays cX7_passDays 5 (none) 3 := ⟨⟨TX7, 6, rfl⟩, by decide, ts4 161 rfl rfl, mwX7_passDays.1, mwX7_passDays.2.1, mwX7_passDays.2.2.1, mwX7_passDays.2.2.2, mdX7_passDays, by decide⟩
set_option maxRecDepth 200000 in
theorem mlX9_235 : VL RX9 235 2 yX2_takeBack cX2_takeBack 2 ((some .boolean)) 1 := ⟨⟨TX2, 3, rfl⟩, by decide, ts4 198 rfl rfl, mwX2_takeBack.1, mwX2_takeBack.2.1, mwX2_takeBack.2.2.1, mwX2_takeBack.2.2.2, mdX2_takeBack, by decide⟩
set_option maxRecDepth 200000 in
theorem mlX9_239 : VL RX9 239 9 yX9_weaveWhole cX9_weaveWhole 4 (none) 3 := ⟨⟨TX9, 14, rfl⟩, by decide, ts4 206 rfl rfl, mwX9_weaveWhole.1, mwX9_weaveWhole.2.1, mwX9_weaveWhole.2.2.1, mwX9_weaveWhole.2.2.2, mdX9_weaveWhole, by decide⟩
set_option maxRecDepth 200000 in
theorem mlX9_242 : VL RX9 242 7 yX7_emptyThreads cX7_emptyThreads 5 ((some .int)) 2 := ⟨⟨TX7, 6, rfl⟩, by decide, ts4 211 rfl rfl, mwX7_emptyThreads.1, mwX7_emptyThreads.2.1, mwX7_emptyThreads.2.2.1, mwX7_emptyThreads.2.2.2, mdX7_emptyThreads, by decide⟩
set_option maxRecDepth 200000 in
theorem mlX9_247 : VL RX9 247 7 yX7_weave cX7_weave 11 (none) 5 := ⟨⟨TX7, 6, rfl⟩, by decide, ts4 210 rfl rfl, mwX7_weave.1, mwX7_weave.2.1, mwX7_weave.2.2.1, mwX7_weave.2.2.2, mdX7_weave, by decide⟩
set_option maxRecDepth 200000 in
theorem mlX9_250 : SL RX9 250 yX7_bitsOf cX7_bitsOf 4 ((some .int)) 2 := ⟨ts4 219 rfl rfl, mwX7_bitsOf.1, mwX7_bitsOf.2.1, mwX7_bitsOf.2.2, mdX7_bitsOf, by decide⟩
set_option maxRecDepth 200000 in
theorem mlX9_253 : VL RX9 253 9 yX9_comesRound cX9_comesRound 5 ((some .boolean)) 3 := ⟨⟨TX9, 14, rfl⟩, by decide, ts4 226 rfl rfl, mwX9_comesRound.1, mwX9_comesRound.2.1, mwX9_comesRound.2.2.1, mwX9_comesRound.2.2.2, mdX9_comesRound, by decide⟩
set_option maxRecDepth 200000 in
theorem mlX9_261 : SL RX9 261 yX7_narrowed cX7_narrowed 2 ((some .int)) 2 := ⟨ts4 235 rfl rfl, mwX7_narrowed.1, mwX7_narrowed.2.1, mwX7_narrowed.2.2, mdX7_narrowed, by decide⟩
set_option maxRecDepth 200000 in
theorem mlX9_264 : VL RX9 264 7 yX7_gain cX7_gain 12 ((some .int)) 5 := ⟨⟨TX7, 6, rfl⟩, by decide, ts5 2 rfl rfl, mwX7_gain.1, mwX7_gain.2.1, mwX7_gain.2.2.1, mwX7_gain.2.2.2, mdX7_gain, by decide⟩
set_option maxRecDepth 200000 in
theorem mlX9_268 : VL RX9 268 0 yX0_clear cX0_clear 1 (none) 0 := ⟨⟨TX0, 7, rfl⟩, by decide, ts5 12 rfl rfl, mwX0_clear.1, mwX0_clear.2.1, mwX0_clear.2.2.1, mwX0_clear.2.2.2, mdX0_clear, by decide⟩
set_option maxRecDepth 200000 in
theorem mlX9_269 : VL RX9 269 0 yX0_add cX0_add 4 ((some .boolean)) 1 := ⟨⟨TX0, 7, rfl⟩, by decide, ts5 16 rfl rfl, mwX0_add.1, mwX0_add.2.1, mwX0_add.2.2.1, mwX0_add.2.2.2, mdX0_add, by decide⟩
set_option maxRecDepth 200000 in
theorem mlX9_272 : VL RX9 272 0 yX0_leastLength cX0_leastLength 3 ((some .int)) 0 := ⟨⟨TX0, 7, rfl⟩, by decide, ts5 23 rfl rfl, mwX0_leastLength.1, mwX0_leastLength.2.1, mwX0_leastLength.2.2.1, mwX0_leastLength.2.2.2, mdX0_leastLength, by decide⟩
set_option maxRecDepth 200000 in
theorem mlX9_275 : SL RX9 275 yX9_isSize cX9_isSize 2 ((some .boolean)) 2 := ⟨ts5 55 rfl rfl, mwX9_isSize.1, mwX9_isSize.2.1, mwX9_isSize.2.2, mdX9_isSize, by decide⟩
set_option maxRecDepth 200000 in
theorem mlX9_278 : VL RX9 278 3 yX3_narrowest cX3_narrowest 3 ((some .int)) 0 := ⟨⟨TX3, 16, rfl⟩, by decide, ts5 56 rfl rfl, mwX3_narrowest.1, mwX3_narrowest.2.1, mwX3_narrowest.2.2.1, mwX3_narrowest.2.2.2, mdX3_narrowest, by decide⟩
set_option maxRecDepth 200000 in
theorem mlX9_281 : VL RX9 281 9 yX9_heldBy cX9_heldBy 4 ((some .int)) 3 := ⟨⟨TX9, 14, rfl⟩, by decide, ts5 61 rfl rfl, mwX9_heldBy.1, mwX9_heldBy.2.1, mwX9_heldBy.2.2.1, mwX9_heldBy.2.2.2, mdX9_heldBy, by decide⟩
set_option maxRecDepth 200000 in
theorem mlX9_285 : VL RX9 285 9 yX9_bestService cX9_bestService 7 ((some .int)) 1 := ⟨⟨TX9, 14, rfl⟩, by decide, ts5 65 rfl rfl, mwX9_bestService.1, mwX9_bestService.2.1, mwX9_bestService.2.2.1, mwX9_bestService.2.2.2, mdX9_bestService, by decide⟩
set_option maxRecDepth 200000 in
theorem mlX9_289 : VL RX9 289 9 yX9_serviceSum cX9_serviceSum 7 ((some .int)) 1 := ⟨⟨TX9, 14, rfl⟩, by decide, ts5 70 rfl rfl, mwX9_serviceSum.1, mwX9_serviceSum.2.1, mwX9_serviceSum.2.2.1, mwX9_serviceSum.2.2.2, mdX9_serviceSum, by decide⟩
set_option maxRecDepth 200000 in
theorem mlX9_292 : VL RX9 292 9 yX9_servedBy cX9_servedBy 5 ((some .int)) 2 := ⟨⟨TX9, 14, rfl⟩, by decide, ts5 77 rfl rfl, mwX9_servedBy.1, mwX9_servedBy.2.1, mwX9_servedBy.2.2.1, mwX9_servedBy.2.2.2, mdX9_servedBy, by decide⟩
set_option maxRecDepth 200000 in
theorem mlX9_298 : SL RX9 298 yX9_isAhead cX9_isAhead 1 ((some .boolean)) 1 := ⟨ts5 89 rfl rfl, mwX9_isAhead.1, mwX9_isAhead.2.1, mwX9_isAhead.2.2, mdX9_isAhead, by decide⟩
set_option maxRecDepth 200000 in
theorem mlX9_301 : VL RX9 301 5 yX5_copy cX5_copy 2 ((some (.object RX5))) 1 := ⟨⟨TX5, 6, rfl⟩, by decide, ts5 92 rfl rfl, mwX5_copy.1, mwX5_copy.2.1, mwX5_copy.2.2.1, mwX5_copy.2.2.2, mdX5_copy, by decide⟩
set_option maxRecDepth 200000 in
theorem mlX9_305 : VL RX9 305 7 yX7_passStoreDay cX7_passStoreDay 2 (none) 1 := ⟨⟨TX7, 6, rfl⟩, by decide, ts5 109 rfl rfl, mwX7_passStoreDay.1, mwX7_passStoreDay.2.1, mwX7_passStoreDay.2.2.1, mwX7_passStoreDay.2.2.2, mdX7_passStoreDay, by decide⟩
set_option maxRecDepth 200000 in
theorem mlX9_308 : VL RX9 308 8 yX8_add cX8_add 4 ((some .int)) 3 := ⟨⟨TX8, 10, rfl⟩, by decide, ts5 121 rfl rfl, mwX8_add.1, mwX8_add.2.1, mwX8_add.2.2.1, mwX8_add.2.2.2, mdX8_add, by decide⟩
set_option maxRecDepth 200000 in
theorem mlX9_310 : VL RX9 310 8 yX8_knows cX8_knows 2 ((some .boolean)) 1 := ⟨⟨TX8, 10, rfl⟩, by decide, ts5 133 rfl rfl, mwX8_knows.1, mwX8_knows.2.1, mwX8_knows.2.2.1, mwX8_knows.2.2.2, mdX8_knows, by decide⟩
set_option maxRecDepth 200000 in
theorem mlX9_313 : VL RX9 313 9 yX9_gatherWays cX9_gatherWays 5 (none) 3 := ⟨⟨TX9, 14, rfl⟩, by decide, ts5 137 rfl rfl, mwX9_gatherWays.1, mwX9_gatherWays.2.1, mwX9_gatherWays.2.2.1, mwX9_gatherWays.2.2.2, mdX9_gatherWays, by decide⟩
set_option maxRecDepth 200000 in
theorem mlX9_322 : VL RX9 322 9 yX9_bestLook cX9_bestLook 6 ((some .int)) 0 := ⟨⟨TX9, 14, rfl⟩, by decide, ts5 166 rfl rfl, mwX9_bestLook.1, mwX9_bestLook.2.1, mwX9_bestLook.2.2.1, mwX9_bestLook.2.2.2, mdX9_bestLook, by decide⟩
set_option maxRecDepth 200000 in
theorem mlX9_325 : VL RX9 325 8 yX8_beginWays cX8_beginWays 3 (none) 2 := ⟨⟨TX8, 10, rfl⟩, by decide, ts5 141 rfl rfl, mwX8_beginWays.1, mwX8_beginWays.2.1, mwX8_beginWays.2.2.1, mwX8_beginWays.2.2.2, mdX8_beginWays, by decide⟩
set_option maxRecDepth 200000 in
theorem mlX9_332 : VL RX9 332 8 yX8_keepPiece cX8_keepPiece 3 (none) 2 := ⟨⟨TX8, 10, rfl⟩, by decide, ts5 145 rfl rfl, mwX8_keepPiece.1, mwX8_keepPiece.2.1, mwX8_keepPiece.2.2.1, mwX8_keepPiece.2.2.2, mdX8_keepPiece, by decide⟩
set_option maxRecDepth 200000 in
theorem mlX9_336 : VL RX9 336 8 yX8_addWays cX8_addWays 8 (none) 4 := ⟨⟨TX8, 10, rfl⟩, by decide, ts5 150 rfl rfl, mwX8_addWays.1, mwX8_addWays.2.1, mwX8_addWays.2.2.1, mwX8_addWays.2.2.2, mdX8_addWays, by decide⟩
set_option maxRecDepth 200000 in
theorem mlX9_340 : VL RX9 340 8 yX8_leftAtWorst cX8_leftAtWorst 6 ((some .int)) 2 := ⟨⟨TX8, 10, rfl⟩, by decide, ts5 170 rfl rfl, mwX8_leftAtWorst.1, mwX8_leftAtWorst.2.1, mwX8_leftAtWorst.2.2.1, mwX8_leftAtWorst.2.2.2, mdX8_leftAtWorst, by decide⟩
set_option maxRecDepth 200000 in
theorem mlX0_46 : VL RX0 46 0 yX0_placesFor cX0_placesFor 4 ((some .int)) 1 := ⟨⟨TX0, 7, rfl⟩, by decide, ts5 28 rfl rfl, mwX0_placesFor.1, mwX0_placesFor.2.1, mwX0_placesFor.2.2.1, mwX0_placesFor.2.2.2, mdX0_placesFor, by decide⟩
set_option maxRecDepth 200000 in
theorem mlX0_50 : SL RX0 50 yJ7_fill_53178 cJ7_fill_53178 4 (none) 2 := ⟨ts5 32 rfl rfl, mwJ7_fill_53178.1, mwJ7_fill_53178.2.1, mwJ7_fill_53178.2.2, mdJ7_fill_53178, by decide⟩
set_option maxRecDepth 200000 in
theorem mlX0_56 : VL RX0 56 0 yX0_layNext cX0_layNext 5 (none) 3 := ⟨⟨TX0, 7, rfl⟩, by decide, ts5 33 rfl rfl, mwX0_layNext.1, mwX0_layNext.2.1, mwX0_layNext.2.2.1, mwX0_layNext.2.2.2, mdX0_layNext, by decide⟩
set_option maxRecDepth 200000 in
theorem mlX0_63 : VL RX0 63 0 yX0_hasTwin cX0_hasTwin 4 ((some .boolean)) 2 := ⟨⟨TX0, 7, rfl⟩, by decide, ts5 38 rfl rfl, mwX0_hasTwin.1, mwX0_hasTwin.2.1, mwX0_hasTwin.2.2.1, mwX0_hasTwin.2.2.2, mdX0_hasTwin, by decide⟩
set_option maxRecDepth 200000 in
theorem mlX0_66 : VL RX0 66 0 yX0_layEverywhere cX0_layEverywhere 8 (none) 4 := ⟨⟨TX0, 7, rfl⟩, by decide, ts5 42 rfl rfl, mwX0_layEverywhere.1, mwX0_layEverywhere.2.1, mwX0_layEverywhere.2.2.1, mwX0_layEverywhere.2.2.2, mdX0_layEverywhere, by decide⟩
set_option maxRecDepth 200000 in
theorem mlX0_70 : VL RX0 70 0 yX0_lay cX0_lay 8 ((some .int)) 3 := ⟨⟨TX0, 7, rfl⟩, by decide, ts5 46 rfl rfl, mwX0_lay.1, mwX0_lay.2.1, mwX0_lay.2.2.1, mwX0_lay.2.2.2, mdX0_lay, by decide⟩
set_option maxRecDepth 200000 in
theorem mlX1_23 : VL RX1 23 1 yX1_clear cX1_clear 1 (none) 0 := ⟨⟨TX1, 4, rfl⟩, by decide, ts1 152 rfl rfl, mwX1_clear.1, mwX1_clear.2.1, mwX1_clear.2.2.1, mwX1_clear.2.2.2, mdX1_clear, by decide⟩
set_option maxRecDepth 200000 in
theorem mlX1_26 : VL RX1 26 1 yX1_put cX1_put 2 (none) 1 := ⟨⟨TX1, 4, rfl⟩, by decide, ts1 156 rfl rfl, mwX1_put.1, mwX1_put.2.1, mwX1_put.2.2.1, mwX1_put.2.2.2, mdX1_put, by decide⟩
set_option maxRecDepth 200000 in
theorem mlX1_30 : SL RX1 30 yX1_worked cX1_worked 3 ((some .int)) 3 := ⟨ts4 70 rfl rfl, mwX1_worked.1, mwX1_worked.2.1, mwX1_worked.2.2, mdX1_worked, by decide⟩
set_option maxRecDepth 200000 in
theorem mlX2_23 : VL RX2 23 5 yX5_copy cX5_copy 2 ((some (.object RX5))) 1 := ⟨⟨TX5, 6, rfl⟩, by decide, ts4 115 rfl rfl, mwX5_copy.1, mwX5_copy.2.1, mwX5_copy.2.2.1, mwX5_copy.2.2.2, mdX5_copy, by decide⟩
set_option maxRecDepth 200000 in
theorem mlX3_65 : VL RX3 65 3 yX3_clear cX3_clear 1 (none) 0 := ⟨⟨TX3, 16, rfl⟩, by decide, ts1 141 rfl rfl, mwX3_clear.1, mwX3_clear.2.1, mwX3_clear.2.2.1, mwX3_clear.2.2.2, mdX3_clear, by decide⟩
set_option maxRecDepth 200000 in
theorem mlX3_68 : SL RX3 68 yJ7_fill_53178 cJ7_fill_53178 4 (none) 2 := ⟨ts1 145 rfl rfl, mwJ7_fill_53178.1, mwJ7_fill_53178.2.1, mwJ7_fill_53178.2.2, mdJ7_fill_53178, by decide⟩
set_option maxRecDepth 200000 in
theorem mlX3_74 : VL RX3 74 1 yX1_putConstant cX1_putConstant 2 (none) 1 := ⟨⟨TX1, 4, rfl⟩, by decide, ts1 148 rfl rfl, mwX1_putConstant.1, mwX1_putConstant.2.1, mwX1_putConstant.2.2.1, mwX1_putConstant.2.2.2, mdX1_putConstant, by decide⟩
set_option maxRecDepth 200000 in
theorem mlX3_78 : VL RX3 78 3 yX3_hasCell cX3_hasCell 3 ((some .boolean)) 2 := ⟨⟨TX3, 16, rfl⟩, by decide, ts4 15 rfl rfl, mwX3_hasCell.1, mwX3_hasCell.2.1, mwX3_hasCell.2.2.1, mwX3_hasCell.2.2.2, mdX3_hasCell, by decide⟩
set_option maxRecDepth 200000 in
theorem mlX3_82 : VL RX3 82 3 yX3_hasField cX3_hasField 2 ((some .boolean)) 1 := ⟨⟨TX3, 16, rfl⟩, by decide, ts4 24 rfl rfl, mwX3_hasField.1, mwX3_hasField.2.1, mwX3_hasField.2.2.1, mwX3_hasField.2.2.2, mdX3_hasField, by decide⟩
set_option maxRecDepth 200000 in
theorem mlX4_51 : VL RX4 51 6 yX6_scan cX6_scan 7 (none) 2 := ⟨⟨TX6, 5, rfl⟩, by decide, ts3 42 rfl rfl, mwX6_scan.1, mwX6_scan.2.1, mwX6_scan.2.2.1, mwX6_scan.2.2.2, mdX6_scan, by decide⟩
set_option maxRecDepth 200000 in
theorem mlX4_55 : VL RX4 55 4 yX4_begin cX4_begin 1 (none) 0 := ⟨⟨TX4, 10, rfl⟩, by decide, ts3 132 rfl rfl, mwX4_begin.1, mwX4_begin.2.1, mwX4_begin.2.2.1, mwX4_begin.2.2.2, mdX4_begin, by decide⟩
set_option maxRecDepth 200000 in
theorem mlX4_58 : VL RX4 58 4 yX4_readTell cX4_readTell 1 (none) 0 := ⟨⟨TX4, 10, rfl⟩, by decide, ts3 137 rfl rfl, mwX4_readTell.1, mwX4_readTell.2.1, mwX4_readTell.2.2.1, mwX4_readTell.2.2.2, mdX4_readTell, by decide⟩
set_option maxRecDepth 200000 in
theorem mlX4_68 : VL RX4 68 4 yX4_blameLater cX4_blameLater 3 (none) 2 := ⟨⟨TX4, 10, rfl⟩, by decide, ts3 168 rfl rfl, mwX4_blameLater.1, mwX4_blameLater.2.1, mwX4_blameLater.2.2.1, mwX4_blameLater.2.2.2, mdX4_blameLater, by decide⟩
set_option maxRecDepth 200000 in
theorem mlX4_72 : VL RX4 72 3 yX3_clear cX3_clear 1 (none) 0 := ⟨⟨TX3, 16, rfl⟩, by decide, ts3 136 rfl rfl, mwX3_clear.1, mwX3_clear.2.1, mwX3_clear.2.2.1, mwX3_clear.2.2.2, mdX3_clear, by decide⟩
set_option maxRecDepth 200000 in
theorem mlX4_84 : VL RX4 84 4 yX4_blame cX4_blame 2 (none) 1 := ⟨⟨TX4, 10, rfl⟩, by decide, ts3 145 rfl rfl, mwX4_blame.1, mwX4_blame.2.1, mwX4_blame.2.2.1, mwX4_blame.2.2.2, mdX4_blame, by decide⟩
set_option maxRecDepth 200000 in
theorem mlX4_88 : VL RX4 88 4 yX4_readRow cX4_readRow 4 (none) 0 := ⟨⟨TX4, 10, rfl⟩, by decide, ts3 141 rfl rfl, mwX4_readRow.1, mwX4_readRow.2.1, mwX4_readRow.2.2.1, mwX4_readRow.2.2.2, mdX4_readRow, by decide⟩
set_option maxRecDepth 200000 in
theorem mlX4_91 : VL RX4 91 4 yX4_readField cX4_readField 1 (none) 0 := ⟨⟨TX4, 10, rfl⟩, by decide, ts3 176 rfl rfl, mwX4_readField.1, mwX4_readField.2.1, mwX4_readField.2.2.1, mwX4_readField.2.2.2, mdX4_readField, by decide⟩
set_option maxRecDepth 200000 in
theorem mlX4_94 : VL RX4 94 4 yX4_readLoom cX4_readLoom 1 (none) 0 := ⟨⟨TX4, 10, rfl⟩, by decide, ts3 188 rfl rfl, mwX4_readLoom.1, mwX4_readLoom.2.1, mwX4_readLoom.2.2.1, mwX4_readLoom.2.2.2, mdX4_readLoom, by decide⟩
set_option maxRecDepth 200000 in
theorem mlX4_101 : VL RX4 101 4 yX4_readLaw cX4_readLaw 4 (none) 1 := ⟨⟨TX4, 10, rfl⟩, by decide, ts3 192 rfl rfl, mwX4_readLaw.1, mwX4_readLaw.2.1, mwX4_readLaw.2.2.1, mwX4_readLaw.2.2.2, mdX4_readLaw, by decide⟩
set_option maxRecDepth 200000 in
theorem mlX4_111 : VL RX4 111 4 yX4_accept cX4_accept 2 ((some .boolean)) 1 := ⟨⟨TX4, 10, rfl⟩, by decide, ts3 149 rfl rfl, mwX4_accept.1, mwX4_accept.2.1, mwX4_accept.2.2.1, mwX4_accept.2.2.2, mdX4_accept, by decide⟩
set_option maxRecDepth 200000 in
theorem mlX4_115 : VL RX4 115 4 yX4_readInt cX4_readInt 5 ((some .int)) 2 := ⟨⟨TX4, 10, rfl⟩, by decide, ts3 184 rfl rfl, mwX4_readInt.1, mwX4_readInt.2.1, mwX4_readInt.2.2.1, mwX4_readInt.2.2.2, mdX4_readInt, by decide⟩
set_option maxRecDepth 200000 in
theorem mlX4_128 : VL RX4 128 4 yX4_value cX4_value 1 ((some .long)) 0 := ⟨⟨TX4, 10, rfl⟩, by decide, ts3 153 rfl rfl, mwX4_value.1, mwX4_value.2.1, mwX4_value.2.2.1, mwX4_value.2.2.2, mdX4_value, by decide⟩
set_option maxRecDepth 200000 in
theorem mlX4_132 : VL RX4 132 4 yX4_start cX4_start 1 ((some .int)) 0 := ⟨⟨TX4, 10, rfl⟩, by decide, ts3 157 rfl rfl, mwX4_start.1, mwX4_start.2.1, mwX4_start.2.2.1, mwX4_start.2.2.2, mdX4_start, by decide⟩
set_option maxRecDepth 200000 in
theorem mlX4_139 : VL RX4 139 4 yX4_layRow cX4_layRow 8 (none) 2 := ⟨⟨TX4, 10, rfl⟩, by decide, ts3 161 rfl rfl, mwX4_layRow.1, mwX4_layRow.2.1, mwX4_layRow.2.2.1, mwX4_layRow.2.2.2, mdX4_layRow, by decide⟩
set_option maxRecDepth 200000 in
theorem mlX4_143 : SL RX4 143 yX6_lengthOf cX6_lengthOf 3 ((some .int)) 1 := ⟨ts3 165 rfl rfl, mwX6_lengthOf.1, mwX6_lengthOf.2.1, mwX6_lengthOf.2.2, mdX6_lengthOf, by decide⟩
set_option maxRecDepth 200000 in
theorem mlX4_150 : SL RX4 150 yX6_letterAt cX6_letterAt 3 ((some .int)) 2 := ⟨ts3 172 rfl rfl, mwX6_letterAt.1, mwX6_letterAt.2.1, mwX6_letterAt.2.2, mdX6_letterAt, by decide⟩
set_option maxRecDepth 200000 in
theorem mlX4_157 : VL RX4 157 4 yX4_readName cX4_readName 5 (none) 0 := ⟨⟨TX4, 10, rfl⟩, by decide, ts3 180 rfl rfl, mwX4_readName.1, mwX4_readName.2.1, mwX4_readName.2.2.1, mwX4_readName.2.2.2, mdX4_readName, by decide⟩
set_option maxRecDepth 200000 in
theorem mlX4_175 : VL RX4 175 1 yX1_clear cX1_clear 1 (none) 0 := ⟨⟨TX1, 4, rfl⟩, by decide, ts3 196 rfl rfl, mwX1_clear.1, mwX1_clear.2.1, mwX1_clear.2.2.1, mwX1_clear.2.2.2, mdX1_clear, by decide⟩
set_option maxRecDepth 200000 in
theorem mlX4_178 : VL RX4 178 4 yX4_readSum cX4_readSum 7 (none) 2 := ⟨⟨TX4, 10, rfl⟩, by decide, ts3 197 rfl rfl, mwX4_readSum.1, mwX4_readSum.2.1, mwX4_readSum.2.2.1, mwX4_readSum.2.2.2, mdX4_readSum, by decide⟩
set_option maxRecDepth 200000 in
theorem mlX4_182 : VL RX4 182 1 yX1_putUnlessLess cX1_putUnlessLess 1 ((some .int)) 0 := ⟨⟨TX1, 4, rfl⟩, by decide, ts3 214 rfl rfl, mwX1_putUnlessLess.1, mwX1_putUnlessLess.2.1, mwX1_putUnlessLess.2.2.1, mwX1_putUnlessLess.2.2.2, mdX1_putUnlessLess, by decide⟩
set_option maxRecDepth 200000 in
theorem mlX4_185 : VL RX4 185 1 yX1_put cX1_put 2 (none) 1 := ⟨⟨TX1, 4, rfl⟩, by decide, ts3 205 rfl rfl, mwX1_put.1, mwX1_put.2.1, mwX1_put.2.2.1, mwX1_put.2.2.2, mdX1_put, by decide⟩
set_option maxRecDepth 200000 in
theorem mlX4_188 : VL RX4 188 1 yX1_aimHere cX1_aimHere 2 (none) 1 := ⟨⟨TX1, 4, rfl⟩, by decide, ts3 218 rfl rfl, mwX1_aimHere.1, mwX1_aimHere.2.1, mwX1_aimHere.2.2.1, mwX1_aimHere.2.2.2, mdX1_aimHere, by decide⟩
set_option maxRecDepth 200000 in
theorem mlX4_191 : VL RX4 191 4 yX4_readUnit cX4_readUnit 3 (none) 2 := ⟨⟨TX4, 10, rfl⟩, by decide, ts3 201 rfl rfl, mwX4_readUnit.1, mwX4_readUnit.2.1, mwX4_readUnit.2.2.1, mwX4_readUnit.2.2.2, mdX4_readUnit, by decide⟩
set_option maxRecDepth 200000 in
theorem mlX4_194 : VL RX4 194 4 yX4_productCode cX4_productCode 1 ((some .int)) 0 := ⟨⟨TX4, 10, rfl⟩, by decide, ts3 206 rfl rfl, mwX4_productCode.1, mwX4_productCode.2.1, mwX4_productCode.2.2.1, mwX4_productCode.2.2.2, mdX4_productCode, by decide⟩
set_option maxRecDepth 200000 in
theorem mlX4_197 : VL RX4 197 4 yX4_sumCode cX4_sumCode 1 ((some .int)) 0 := ⟨⟨TX4, 10, rfl⟩, by decide, ts3 210 rfl rfl, mwX4_sumCode.1, mwX4_sumCode.2.1, mwX4_sumCode.2.2.1, mwX4_sumCode.2.2.2, mdX4_sumCode, by decide⟩
set_option maxRecDepth 200000 in
theorem mlX5_34 : SL RX5 34 yJ7_fill_53178 cJ7_fill_53178 4 (none) 2 := ⟨ts2 203 rfl rfl, mwJ7_fill_53178.1, mwJ7_fill_53178.2.1, mwJ7_fill_53178.2.2, mdJ7_fill_53178, by decide⟩
set_option maxRecDepth 200000 in
theorem mlX5_45 : VL RX5 45 5 yX5_addPart cX5_addPart 4 (none) 3 := ⟨⟨TX5, 6, rfl⟩, by decide, ts2 204 rfl rfl, mwX5_addPart.1, mwX5_addPart.2.1, mwX5_addPart.2.2.1, mwX5_addPart.2.2.2, mdX5_addPart, by decide⟩
set_option maxRecDepth 200000 in
theorem mlX5_52 : VL RX5 52 5 yX5_setOrder cX5_setOrder 6 (none) 5 := ⟨⟨TX5, 6, rfl⟩, by decide, ts2 211 rfl rfl, mwX5_setOrder.1, mwX5_setOrder.2.1, mwX5_setOrder.2.2.1, mwX5_setOrder.2.2.2, mdX5_setOrder, by decide⟩
set_option maxRecDepth 200000 in
theorem mlX5_62 : SL RX5 62 yX5_isPart cX5_isPart 2 ((some .boolean)) 2 := ⟨ts2 208 rfl rfl, mwX5_isPart.1, mwX5_isPart.2.1, mwX5_isPart.2.2, mdX5_isPart, by decide⟩
set_option maxRecDepth 200000 in
theorem mlX5_66 : VL RX5 66 5 yX5_setPart cX5_setPart 4 (none) 3 := ⟨⟨TX5, 6, rfl⟩, by decide, ts2 215 rfl rfl, mwX5_setPart.1, mwX5_setPart.2.1, mwX5_setPart.2.2.1, mwX5_setPart.2.2.2, mdX5_setPart, by decide⟩
set_option maxRecDepth 200000 in
theorem mlX5_69 : VL RX5 69 5 yX5_part cX5_part 3 ((some .int)) 2 := ⟨⟨TX5, 6, rfl⟩, by decide, ts4 94 rfl rfl, mwX5_part.1, mwX5_part.2.1, mwX5_part.2.2.1, mwX5_part.2.2.2, mdX5_part, by decide⟩
set_option maxRecDepth 200000 in
theorem mlX6_39 : SL RX6 39 yX6_nameWith cX6_nameWith 3 ((some .long)) 2 := ⟨ts1 89 rfl rfl, mwX6_nameWith.1, mwX6_nameWith.2.1, mwX6_nameWith.2.2, mdX6_nameWith, by decide⟩
set_option maxRecDepth 200000 in
theorem mlX6_53 : SL RX6 53 yX6_isBlank cX6_isBlank 1 ((some .boolean)) 1 := ⟨ts3 49 rfl rfl, mwX6_isBlank.1, mwX6_isBlank.2.1, mwX6_isBlank.2.2, mdX6_isBlank, by decide⟩
set_option maxRecDepth 200000 in
theorem mlX6_57 : SL RX6 57 yX6_isLetter cX6_isLetter 1 ((some .boolean)) 1 := ⟨ts3 52 rfl rfl, mwX6_isLetter.1, mwX6_isLetter.2.1, mwX6_isLetter.2.2, mdX6_isLetter, by decide⟩
set_option maxRecDepth 200000 in
theorem mlX6_60 : VL RX6 60 6 yX6_takeLetters cX6_takeLetters 9 ((some .int)) 3 := ⟨⟨TX6, 5, rfl⟩, by decide, ts3 55 rfl rfl, mwX6_takeLetters.1, mwX6_takeLetters.2.1, mwX6_takeLetters.2.2.1, mwX6_takeLetters.2.2.2, mdX6_takeLetters, by decide⟩
set_option maxRecDepth 200000 in
theorem mlX6_64 : SL RX6 64 yX6_isDigit cX6_isDigit 1 ((some .boolean)) 1 := ⟨ts3 63 rfl rfl, mwX6_isDigit.1, mwX6_isDigit.2.1, mwX6_isDigit.2.2, mdX6_isDigit, by decide⟩
set_option maxRecDepth 200000 in
theorem mlX6_67 : VL RX6 67 6 yX6_takeDigits cX6_takeDigits 6 ((some .int)) 3 := ⟨⟨TX6, 5, rfl⟩, by decide, ts3 66 rfl rfl, mwX6_takeDigits.1, mwX6_takeDigits.2.1, mwX6_takeDigits.2.2.1, mwX6_takeDigits.2.2.2, mdX6_takeDigits, by decide⟩
set_option maxRecDepth 200000 in
theorem mlX6_70 : VL RX6 70 6 yX6_takeSign cX6_takeSign 4 ((some .int)) 2 := ⟨⟨TX6, 5, rfl⟩, by decide, ts3 70 rfl rfl, mwX6_takeSign.1, mwX6_takeSign.2.1, mwX6_takeSign.2.2.1, mwX6_takeSign.2.2.2, mdX6_takeSign, by decide⟩
set_option maxRecDepth 200000 in
theorem mlX6_73 : VL RX6 73 6 yX6_put cX6_put 5 (none) 3 := ⟨⟨TX6, 5, rfl⟩, by decide, ts3 59 rfl rfl, mwX6_put.1, mwX6_put.2.1, mwX6_put.2.2.1, mwX6_put.2.2.2, mdX6_put, by decide⟩
set_option maxRecDepth 200000 in
theorem mlX7_33 : SL RX7 33 yJ7_fill_53178 cJ7_fill_53178 4 (none) 2 := ⟨ts3 230 rfl rfl, mwJ7_fill_53178.1, mwJ7_fill_53178.2.1, mwJ7_fill_53178.2.2, mdJ7_fill_53178, by decide⟩
set_option maxRecDepth 200000 in
theorem mlX7_39 : VL RX7 39 3 yX3_hasLoom cX3_hasLoom 2 ((some .boolean)) 1 := ⟨⟨TX3, 16, rfl⟩, by decide, ts4 65 rfl rfl, mwX3_hasLoom.1, mwX3_hasLoom.2.1, mwX3_hasLoom.2.2.1, mwX3_hasLoom.2.2.2, mdX3_hasLoom, by decide⟩
set_option maxRecDepth 200000 in
theorem mlX7_57 : VL RX7 57 1 yX1_answer cX1_answer 6 ((some .int)) 0 := ⟨⟨TX1, 4, rfl⟩, by decide, ts4 66 rfl rfl, mwX1_answer.1, mwX1_answer.2.1, mwX1_answer.2.2.1, mwX1_answer.2.2.2, mdX1_answer, by decide⟩
set_option maxRecDepth 200000 in
theorem mlX7_61 : SL RX7 61 yX7_within cX7_within 2 ((some .int)) 2 := ⟨ts4 73 rfl rfl, mwX7_within.1, mwX7_within.2.1, mwX7_within.2.2, mdX7_within, by decide⟩
set_option maxRecDepth 200000 in
theorem mlX7_65 : SL RX7 65 yX7_threadOf cX7_threadOf 2 ((some .int)) 2 := ⟨ts4 146 rfl rfl, mwX7_threadOf.1, mwX7_threadOf.2.1, mwX7_threadOf.2.2, mdX7_threadOf, by decide⟩
set_option maxRecDepth 200000 in
theorem mlX7_68 : VL RX7 68 7 yX7_rowAt cX7_rowAt 7 ((some .int)) 2 := ⟨⟨TX7, 6, rfl⟩, by decide, ts4 145 rfl rfl, mwX7_rowAt.1, mwX7_rowAt.2.1, mwX7_rowAt.2.2.1, mwX7_rowAt.2.2.2, mdX7_rowAt, by decide⟩
set_option maxRecDepth 200000 in
theorem mlX7_73 : VL RX7 73 5 yX5_part cX5_part 3 ((some .int)) 2 := ⟨⟨TX5, 6, rfl⟩, by decide, ts4 140 rfl rfl, mwX5_part.1, mwX5_part.2.1, mwX5_part.2.2.1, mwX5_part.2.2.2, mdX5_part, by decide⟩
set_option maxRecDepth 200000 in
theorem mlX7_79 : VL RX7 79 7 yX7_weave cX7_weave 11 (none) 5 := ⟨⟨TX7, 6, rfl⟩, by decide, ts4 141 rfl rfl, mwX7_weave.1, mwX7_weave.2.1, mwX7_weave.2.2.1, mwX7_weave.2.2.2, mdX7_weave, by decide⟩
set_option maxRecDepth 200000 in
theorem mlX7_92 : SL RX7 92 yX7_wetter cX7_wetter 2 ((some .int)) 2 := ⟨ts4 147 rfl rfl, mwX7_wetter.1, mwX7_wetter.2.1, mwX7_wetter.2.2, mdX7_wetter, by decide⟩
set_option maxRecDepth 200000 in
theorem mlX7_95 : VL RX7 95 5 yX5_addPart cX5_addPart 4 (none) 3 := ⟨⟨TX5, 6, rfl⟩, by decide, ts4 151 rfl rfl, mwX5_addPart.1, mwX5_addPart.2.1, mwX5_addPart.2.2.1, mwX5_addPart.2.2.2, mdX5_addPart, by decide⟩
set_option maxRecDepth 200000 in
theorem mlX7_104 : VL RX7 104 3 yX3_fieldAt cX3_fieldAt 3 ((some .int)) 2 := ⟨⟨TX3, 16, rfl⟩, by decide, ts5 6 rfl rfl, mwX3_fieldAt.1, mwX3_fieldAt.2.1, mwX3_fieldAt.2.2.1, mwX3_fieldAt.2.2.2, mdX3_fieldAt, by decide⟩
set_option maxRecDepth 200000 in
theorem mlX7_107 : VL RX7 107 5 yX5_waterAt cX5_waterAt 4 ((some .int)) 2 := ⟨⟨TX5, 6, rfl⟩, by decide, ts5 7 rfl rfl, mwX5_waterAt.1, mwX5_waterAt.2.1, mwX5_waterAt.2.2.1, mwX5_waterAt.2.2.2, mdX5_waterAt, by decide⟩
set_option maxRecDepth 200000 in
theorem mlX7_110 : VL RX7 110 3 yX3_lacks cX3_lacks 3 ((some .boolean)) 2 := ⟨⟨TX3, 16, rfl⟩, by decide, ts4 182 rfl rfl, mwX3_lacks.1, mwX3_lacks.2.1, mwX3_lacks.2.2.1, mwX3_lacks.2.2.2, mdX3_lacks, by decide⟩
set_option maxRecDepth 200000 in
theorem mlX7_114 : VL RX7 114 3 yX3_drowned cX3_drowned 3 ((some .boolean)) 2 := ⟨⟨TX3, 16, rfl⟩, by decide, ts4 183 rfl rfl, mwX3_drowned.1, mwX3_drowned.2.1, mwX3_drowned.2.2.1, mwX3_drowned.2.2.2, mdX3_drowned, by decide⟩
set_option maxRecDepth 200000 in
theorem mlX7_117 : VL RX7 117 7 yX7_letOrdersFall cX7_letOrdersFall 5 (none) 2 := ⟨⟨TX7, 6, rfl⟩, by decide, ts4 165 rfl rfl, mwX7_letOrdersFall.1, mwX7_letOrdersFall.2.1, mwX7_letOrdersFall.2.2.1, mwX7_letOrdersFall.2.2.2, mdX7_letOrdersFall, by decide⟩
set_option maxRecDepth 200000 in
theorem mlX7_121 : VL RX7 121 7 yX7_tally cX7_tally 4 (none) 1 := ⟨⟨TX7, 6, rfl⟩, by decide, ts4 178 rfl rfl, mwX7_tally.1, mwX7_tally.2.1, mwX7_tally.2.2.1, mwX7_tally.2.2.2, mdX7_tally, by decide⟩
set_option maxRecDepth 200000 in
theorem mlX7_125 : VL RX7 125 7 yX7_dryCells cX7_dryCells 5 (none) 1 := ⟨⟨TX7, 6, rfl⟩, by decide, ts4 184 rfl rfl, mwX7_dryCells.1, mwX7_dryCells.2.1, mwX7_dryCells.2.2.1, mwX7_dryCells.2.2.2, mdX7_dryCells, by decide⟩
set_option maxRecDepth 200000 in
theorem mlX7_128 : VL RX7 128 7 yX7_endDay cX7_endDay 2 (none) 1 := ⟨⟨TX7, 6, rfl⟩, by decide, ts4 190 rfl rfl, mwX7_endDay.1, mwX7_endDay.2.1, mwX7_endDay.2.2.1, mwX7_endDay.2.2.2, mdX7_endDay, by decide⟩
set_option maxRecDepth 200000 in
theorem mlX7_137 : VL RX7 137 5 yX5_hasOrder cX5_hasOrder 2 ((some .boolean)) 1 := ⟨⟨TX5, 6, rfl⟩, by decide, ts4 169 rfl rfl, mwX5_hasOrder.1, mwX5_hasOrder.2.1, mwX5_hasOrder.2.2.1, mwX5_hasOrder.2.2.2, mdX5_hasOrder, by decide⟩
set_option maxRecDepth 200000 in
theorem mlX7_143 : SL RX7 143 yX7_lot cX7_lot 4 ((some .int)) 3 := ⟨ts4 170 rfl rfl, mwX7_lot.1, mwX7_lot.2.1, mwX7_lot.2.2, mdX7_lot, by decide⟩
set_option maxRecDepth 200000 in
theorem mlX7_150 : VL RX7 150 7 yX7_letFall cX7_letFall 10 ((some .int)) 6 := ⟨⟨TX7, 6, rfl⟩, by decide, ts4 177 rfl rfl, mwX7_letFall.1, mwX7_letFall.2.1, mwX7_letFall.2.2.1, mwX7_letFall.2.2.2, mdX7_letFall, by decide⟩
set_option maxRecDepth 200000 in
theorem mlX7_154 : SL RX7 154 yX7_mix cX7_mix 3 ((some .int)) 2 := ⟨ts4 173 rfl rfl, mwX7_mix.1, mwX7_mix.2.1, mwX7_mix.2.2, mdX7_mix, by decide⟩
set_option maxRecDepth 200000 in
theorem mlX7_170 : VL RX7 170 3 yX3_hasField cX3_hasField 2 ((some .boolean)) 1 := ⟨⟨TX3, 16, rfl⟩, by decide, ts4 188 rfl rfl, mwX3_hasField.1, mwX3_hasField.2.1, mwX3_hasField.2.2.1, mwX3_hasField.2.2.2, mdX3_hasField, by decide⟩
set_option maxRecDepth 200000 in
theorem mlX8_51 : VL RX8 51 8 yX8_agreesWithKnown cX8_agreesWithKnown 4 ((some .boolean)) 2 := ⟨⟨TX8, 10, rfl⟩, by decide, ts5 154 rfl rfl, mwX8_agreesWithKnown.1, mwX8_agreesWithKnown.2.1, mwX8_agreesWithKnown.2.2.1, mwX8_agreesWithKnown.2.2.2, mdX8_agreesWithKnown, by decide⟩
set_option maxRecDepth 200000 in
theorem mlX8_55 : VL RX8 55 8 yX8_waterBy cX8_waterBy 6 ((some .int)) 3 := ⟨⟨TX8, 10, rfl⟩, by decide, ts5 158 rfl rfl, mwX8_waterBy.1, mwX8_waterBy.2.1, mwX8_waterBy.2.2.1, mwX8_waterBy.2.2.2, mdX8_waterBy, by decide⟩
set_option maxRecDepth 200000 in
theorem mlX8_59 : SL RX8 59 yJ7_fill_53178 cJ7_fill_53178 4 (none) 2 := ⟨ts5 174 rfl rfl, mwJ7_fill_53178.1, mwJ7_fill_53178.2.1, mwJ7_fill_53178.2.2, mdJ7_fill_53178, by decide⟩
set_option maxRecDepth 200000 in
theorem mlX10_158 : VL RX10 158 10 yX10_plain cX10_plain 3 (none) 1 := ⟨⟨TX10, 72, rfl⟩, by decide, ts5 190 rfl rfl, mwX10_plain.1, mwX10_plain.2.1, mwX10_plain.2.2.1, mwX10_plain.2.2.2, mdX10_plain, by decide⟩
set_option maxRecDepth 200000 in
theorem mlX10_162 : SL RX10 162 yX10_word cX10_word 7 ((some .long)) 7 := ⟨ts5 194 rfl rfl, mwX10_word.1, mwX10_word.2.1, mwX10_word.2.2, mdX10_word, by decide⟩
set_option maxRecDepth 200000 in
theorem mlX10_166 : VL RX10 166 10 yX10_begins cX10_begins 2 (none) 0 := ⟨⟨TX10, 72, rfl⟩, by decide, ts5 201 rfl rfl, mwX10_begins.1, mwX10_begins.2.1, mwX10_begins.2.2.1, mwX10_begins.2.2.2, mdX10_begins, by decide⟩
set_option maxRecDepth 200000 in
theorem mlX10_169 : VL RX10 169 10 yX10_keepsRow cX10_keepsRow 2 (none) 0 := ⟨⟨TX10, 72, rfl⟩, by decide, ts5 205 rfl rfl, mwX10_keepsRow.1, mwX10_keepsRow.2.1, mwX10_keepsRow.2.2.1, mwX10_keepsRow.2.2.2, mdX10_keepsRow, by decide⟩
set_option maxRecDepth 200000 in
theorem mlX10_175 : VL RX10 175 10 yX10_put cX10_put 3 (none) 1 := ⟨⟨TX10, 72, rfl⟩, by decide, ts6 189 rfl rfl, mwX10_put.1, mwX10_put.2.1, mwX10_put.2.2.1, mwX10_put.2.2.2, mdX10_put, by decide⟩
set_option maxRecDepth 200000 in
theorem mlX10_183 : SL RX10 183 yX10_appends cX10_appends 3 ((some .long)) 2 := ⟨ts5 197 rfl rfl, mwX10_appends.1, mwX10_appends.2.1, mwX10_appends.2.2, mdX10_appends, by decide⟩
set_option maxRecDepth 200000 in
theorem mlX10_190 : VL RX10 190 10 yX10_byteAt cX10_byteAt 2 ((some .int)) 1 := ⟨⟨TX10, 72, rfl⟩, by decide, ts6 205 rfl rfl, mwX10_byteAt.1, mwX10_byteAt.2.1, mwX10_byteAt.2.2.1, mwX10_byteAt.2.2.2, mdX10_byteAt, by decide⟩
set_option maxRecDepth 200000 in
theorem mlX10_194 : VL RX10 194 10 yX10_token cX10_token 6 (none) 4 := ⟨⟨TX10, 72, rfl⟩, by decide, ts6 209 rfl rfl, mwX10_token.1, mwX10_token.2.1, mwX10_token.2.2.1, mwX10_token.2.2.2, mdX10_token, by decide⟩
set_option maxRecDepth 200000 in
theorem mlX10_198 : SL RX10 198 yX10_isLetter cX10_isLetter 1 ((some .boolean)) 1 := ⟨ts6 213 rfl rfl, mwX10_isLetter.1, mwX10_isLetter.2.1, mwX10_isLetter.2.2, mdX10_isLetter, by decide⟩
set_option maxRecDepth 200000 in
theorem mlX10_202 : SL RX10 202 yX10_isDigit cX10_isDigit 1 ((some .boolean)) 1 := ⟨ts6 216 rfl rfl, mwX10_isDigit.1, mwX10_isDigit.2.1, mwX10_isDigit.2.2, mdX10_isDigit, by decide⟩
set_option maxRecDepth 200000 in
theorem mlX10_205 : VL RX10 205 10 yX10_sign cX10_sign 5 ((some .int)) 3 := ⟨⟨TX10, 72, rfl⟩, by decide, ts6 219 rfl rfl, mwX10_sign.1, mwX10_sign.2.1, mwX10_sign.2.2.1, mwX10_sign.2.2.2, mdX10_sign, by decide⟩
set_option maxRecDepth 200000 in
theorem mlX10_224 : VL RX10 224 10 yX10_fail cX10_fail 2 (none) 1 := ⟨⟨TX10, 72, rfl⟩, by decide, ts6 235 rfl rfl, mwX10_fail.1, mwX10_fail.2.1, mwX10_fail.2.2.1, mwX10_fail.2.2.2, mdX10_fail, by decide⟩
set_option maxRecDepth 200000 in
theorem mlX10_227 : VL RX10 227 10 yX10_is cX10_is 2 ((some .boolean)) 1 := ⟨⟨TX10, 72, rfl⟩, by decide, ts6 223 rfl rfl, mwX10_is.1, mwX10_is.2.1, mwX10_is.2.2.1, mwX10_is.2.2.2, mdX10_is, by decide⟩
set_option maxRecDepth 200000 in
theorem mlX10_230 : VL RX10 230 10 yX10_goesOn cX10_goesOn 1 (none) 0 := ⟨⟨TX10, 72, rfl⟩, by decide, ts6 239 rfl rfl, mwX10_goesOn.1, mwX10_goesOn.2.1, mwX10_goesOn.2.2.1, mwX10_goesOn.2.2.2, mdX10_goesOn, by decide⟩
set_option maxRecDepth 200000 in
theorem mlX10_233 : VL RX10 233 10 yX10_cutsUp cX10_cutsUp 8 (none) 0 := ⟨⟨TX10, 72, rfl⟩, by decide, ts6 201 rfl rfl, mwX10_cutsUp.1, mwX10_cutsUp.2.1, mwX10_cutsUp.2.2.1, mwX10_cutsUp.2.2.2, mdX10_cutsUp, by decide⟩
set_option maxRecDepth 200000 in
theorem mlX10_254 : VL RX10 254 10 yX10_tellOne cX10_tellOne 2 (none) 0 := ⟨⟨TX10, 72, rfl⟩, by decide, ts6 227 rfl rfl, mwX10_tellOne.1, mwX10_tellOne.2.1, mwX10_tellOne.2.2.1, mwX10_tellOne.2.2.2, mdX10_tellOne, by decide⟩
set_option maxRecDepth 200000 in
theorem mlX10_257 : VL RX10 257 10 yX10_areFields cX10_areFields 3 ((some .boolean)) 0 := ⟨⟨TX10, 72, rfl⟩, by decide, ts7 59 rfl rfl, mwX10_areFields.1, mwX10_areFields.2.1, mwX10_areFields.2.2.1, mwX10_areFields.2.2.2, mdX10_areFields, by decide⟩
set_option maxRecDepth 200000 in
theorem mlX10_261 : VL RX10 261 10 yX10_wrong cX10_wrong 4 (none) 2 := ⟨⟨TX10, 72, rfl⟩, by decide, ts7 11 rfl rfl, mwX10_wrong.1, mwX10_wrong.2.1, mwX10_wrong.2.2.1, mwX10_wrong.2.2.2, mdX10_wrong, by decide⟩
set_option maxRecDepth 200000 in
theorem mlX10_271 : VL RX10 271 10 yX10_roomFor cX10_roomFor 3 (none) 2 := ⟨⟨TX10, 72, rfl⟩, by decide, ts6 231 rfl rfl, mwX10_roomFor.1, mwX10_roomFor.2.1, mwX10_roomFor.2.2.1, mwX10_roomFor.2.2.2, mdX10_roomFor, by decide⟩
set_option maxRecDepth 200000 in
theorem mlX10_274 : VL RX10 274 10 yX10_tellRow cX10_tellRow 7 (none) 0 := ⟨⟨TX10, 72, rfl⟩, by decide, ts7 3 rfl rfl, mwX10_tellRow.1, mwX10_tellRow.2.1, mwX10_tellRow.2.2.1, mwX10_tellRow.2.2.2, mdX10_tellRow, by decide⟩
set_option maxRecDepth 200000 in
theorem mlX10_277 : VL RX10 277 10 yX10_tellField cX10_tellField 3 (none) 0 := ⟨⟨TX10, 72, rfl⟩, by decide, ts7 15 rfl rfl, mwX10_tellField.1, mwX10_tellField.2.1, mwX10_tellField.2.2.1, mwX10_tellField.2.2.2, mdX10_tellField, by decide⟩
set_option maxRecDepth 200000 in
theorem mlX10_280 : VL RX10 280 10 yX10_tellLoom cX10_tellLoom 3 (none) 0 := ⟨⟨TX10, 72, rfl⟩, by decide, ts7 31 rfl rfl, mwX10_tellLoom.1, mwX10_tellLoom.2.1, mwX10_tellLoom.2.2.1, mwX10_tellLoom.2.2.2, mdX10_tellLoom, by decide⟩
set_option maxRecDepth 200000 in
theorem mlX10_283 : VL RX10 283 10 yX10_bounded cX10_bounded 4 ((some .int)) 2 := ⟨⟨TX10, 72, rfl⟩, by decide, ts7 23 rfl rfl, mwX10_bounded.1, mwX10_bounded.2.1, mwX10_bounded.2.2.1, mwX10_bounded.2.2.2, mdX10_bounded, by decide⟩
set_option maxRecDepth 200000 in
theorem mlX10_287 : VL RX10 287 10 yX10_must cX10_must 2 (none) 1 := ⟨⟨TX10, 72, rfl⟩, by decide, ts7 7 rfl rfl, mwX10_must.1, mwX10_must.2.1, mwX10_must.2.2.1, mwX10_must.2.2.2, mdX10_must, by decide⟩
set_option maxRecDepth 200000 in
theorem mlX10_290 : VL RX10 290 10 yX10_tellLaw cX10_tellLaw 4 (none) 1 := ⟨⟨TX10, 72, rfl⟩, by decide, ts7 35 rfl rfl, mwX10_tellLaw.1, mwX10_tellLaw.2.1, mwX10_tellLaw.2.2.1, mwX10_tellLaw.2.2.2, mdX10_tellLaw, by decide⟩
set_option maxRecDepth 200000 in
theorem mlX10_293 : VL RX10 293 10 yX10_named cX10_named 3 ((some .int)) 0 := ⟨⟨TX10, 72, rfl⟩, by decide, ts7 19 rfl rfl, mwX10_named.1, mwX10_named.2.1, mwX10_named.2.2.1, mwX10_named.2.2.2, mdX10_named, by decide⟩
set_option maxRecDepth 200000 in
theorem mlX10_297 : VL RX10 297 10 yX10_ends cX10_ends 2 (none) 1 := ⟨⟨TX10, 72, rfl⟩, by decide, ts7 27 rfl rfl, mwX10_ends.1, mwX10_ends.2.1, mwX10_ends.2.2.1, mwX10_ends.2.2.2, mdX10_ends, by decide⟩
set_option maxRecDepth 200000 in
theorem mlX10_300 : VL RX10 300 10 yX10_expression cX10_expression 3 (none) 0 := ⟨⟨TX10, 72, rfl⟩, by decide, ts7 39 rfl rfl, mwX10_expression.1, mwX10_expression.2.1, mwX10_expression.2.2.1, mwX10_expression.2.2.2, mdX10_expression, by decide⟩
set_option maxRecDepth 200000 in
theorem mlX10_303 : VL RX10 303 10 yX10_term cX10_term 1 (none) 0 := ⟨⟨TX10, 72, rfl⟩, by decide, ts7 55 rfl rfl, mwX10_term.1, mwX10_term.2.1, mwX10_term.2.2.1, mwX10_term.2.2.2, mdX10_term, by decide⟩
set_option maxRecDepth 200000 in
theorem mlX10_309 : VL RX10 309 10 yX10_emit cX10_emit 3 (none) 2 := ⟨⟨TX10, 72, rfl⟩, by decide, ts7 47 rfl rfl, mwX10_emit.1, mwX10_emit.2.1, mwX10_emit.2.2.1, mwX10_emit.2.2.2, mdX10_emit, by decide⟩
set_option maxRecDepth 200000 in
theorem mlX10_312 : VL RX10 312 10 yX10_unit cX10_unit 1 (none) 0 := ⟨⟨TX10, 72, rfl⟩, by decide, ts7 43 rfl rfl, mwX10_unit.1, mwX10_unit.2.1, mwX10_unit.2.2.1, mwX10_unit.2.2.2, mdX10_unit, by decide⟩
set_option maxRecDepth 200000 in
theorem mlX10_315 : VL RX10 315 10 yX10_comesOut cX10_comesOut 3 (none) 1 := ⟨⟨TX10, 72, rfl⟩, by decide, ts7 51 rfl rfl, mwX10_comesOut.1, mwX10_comesOut.2.1, mwX10_comesOut.2.2.1, mwX10_comesOut.2.2.2, mdX10_comesOut, by decide⟩
set_option maxRecDepth 200000 in
theorem mlX10_323 : SL RX10 323 yX10_in cX10_in 3 ((some .boolean)) 3 := ⟨ts7 75 rfl rfl, mwX10_in.1, mwX10_in.2.1, mwX10_in.2.2, mdX10_in, by decide⟩
set_option maxRecDepth 200000 in
theorem mlX10_331 : SL RX10 331 yX10_mixed cX10_mixed 3 ((some .int)) 2 := ⟨ts7 194 rfl rfl, mwX10_mixed.1, mwX10_mixed.2.1, mwX10_mixed.2.2, mdX10_mixed, by decide⟩
set_option maxRecDepth 200000 in
theorem mlX10_334 : VL RX10 334 10 yX10_termOf cX10_termOf 8 ((some .int)) 2 := ⟨⟨TX10, 72, rfl⟩, by decide, ts7 146 rfl rfl, mwX10_termOf.1, mwX10_termOf.2.1, mwX10_termOf.2.2.1, mwX10_termOf.2.2.2, mdX10_termOf, by decide⟩
set_option maxRecDepth 200000 in
theorem mlX10_337 : VL RX10 337 10 yX10_looks cX10_looks 2 (none) 0 := ⟨⟨TX10, 72, rfl⟩, by decide, ts7 138 rfl rfl, mwX10_looks.1, mwX10_looks.2.1, mwX10_looks.2.2.1, mwX10_looks.2.2.2, mdX10_looks, by decide⟩
set_option maxRecDepth 200000 in
theorem mlX10_340 : VL RX10 340 10 yX10_asks cX10_asks 8 ((some .int)) 3 := ⟨⟨TX10, 72, rfl⟩, by decide, ts7 142 rfl rfl, mwX10_asks.1, mwX10_asks.2.1, mwX10_asks.2.2.1, mwX10_asks.2.2.2, mdX10_asks, by decide⟩
set_option maxRecDepth 200000 in
theorem mlX10_343 : VL RX10 343 10 yX10_isCell cX10_isCell 3 ((some .boolean)) 2 := ⟨⟨TX10, 72, rfl⟩, by decide, ts7 71 rfl rfl, mwX10_isCell.1, mwX10_isCell.2.1, mwX10_isCell.2.2.1, mwX10_isCell.2.2.2, mdX10_isCell, by decide⟩
set_option maxRecDepth 200000 in
theorem mlX10_347 : VL RX10 347 10 yX10_fieldAt cX10_fieldAt 2 ((some .int)) 1 := ⟨⟨TX10, 72, rfl⟩, by decide, ts7 82 rfl rfl, mwX10_fieldAt.1, mwX10_fieldAt.2.1, mwX10_fieldAt.2.2.1, mwX10_fieldAt.2.2.2, mdX10_fieldAt, by decide⟩
set_option maxRecDepth 200000 in
theorem mlX10_350 : VL RX10 350 10 yX10_needOf cX10_needOf 2 ((some .int)) 1 := ⟨⟨TX10, 72, rfl⟩, by decide, ts7 90 rfl rfl, mwX10_needOf.1, mwX10_needOf.2.1, mwX10_needOf.2.2.1, mwX10_needOf.2.2.2, mdX10_needOf, by decide⟩
set_option maxRecDepth 200000 in
theorem mlX10_353 : VL RX10 353 10 yX10_drownOf cX10_drownOf 2 ((some .int)) 1 := ⟨⟨TX10, 72, rfl⟩, by decide, ts7 98 rfl rfl, mwX10_drownOf.1, mwX10_drownOf.2.1, mwX10_drownOf.2.2.1, mwX10_drownOf.2.2.2, mdX10_drownOf, by decide⟩
set_option maxRecDepth 200000 in
theorem mlX10_356 : VL RX10 356 10 yX10_threadOf cX10_threadOf 4 ((some .int)) 3 := ⟨⟨TX10, 72, rfl⟩, by decide, ts7 134 rfl rfl, mwX10_threadOf.1, mwX10_threadOf.2.1, mwX10_threadOf.2.2.1, mwX10_threadOf.2.2.2, mdX10_threadOf, by decide⟩
set_option maxRecDepth 200000 in
theorem mlX10_359 : VL RX10 359 10 yX10_lotOf cX10_lotOf 2 ((some .int)) 1 := ⟨⟨TX10, 72, rfl⟩, by decide, ts7 190 rfl rfl, mwX10_lotOf.1, mwX10_lotOf.2.1, mwX10_lotOf.2.2.1, mwX10_lotOf.2.2.2, mdX10_lotOf, by decide⟩
set_option maxRecDepth 200000 in
theorem mlX10_362 : VL RX10 362 10 yX10_falls cX10_falls 14 ((some .int)) 5 := ⟨⟨TX10, 72, rfl⟩, by decide, ts7 170 rfl rfl, mwX10_falls.1, mwX10_falls.2.1, mwX10_falls.2.2.1, mwX10_falls.2.2.2, mdX10_falls, by decide⟩
set_option maxRecDepth 200000 in
theorem mlX10_366 : VL RX10 366 10 yX10_isLand cX10_isLand 2 ((some .boolean)) 1 := ⟨⟨TX10, 72, rfl⟩, by decide, ts7 114 rfl rfl, mwX10_isLand.1, mwX10_isLand.2.1, mwX10_isLand.2.2.1, mwX10_isLand.2.2.2, mdX10_isLand, by decide⟩
set_option maxRecDepth 200000 in
theorem mlX10_369 : VL RX10 369 10 yX10_isLacking cX10_isLacking 2 ((some .boolean)) 1 := ⟨⟨TX10, 72, rfl⟩, by decide, ts7 86 rfl rfl, mwX10_isLacking.1, mwX10_isLacking.2.1, mwX10_isLacking.2.2.1, mwX10_isLacking.2.2.2, mdX10_isLacking, by decide⟩
set_option maxRecDepth 200000 in
theorem mlX10_372 : VL RX10 372 10 yX10_isFlooded cX10_isFlooded 2 ((some .boolean)) 1 := ⟨⟨TX10, 72, rfl⟩, by decide, ts7 94 rfl rfl, mwX10_isFlooded.1, mwX10_isFlooded.2.1, mwX10_isFlooded.2.2.1, mwX10_isFlooded.2.2.2, mdX10_isFlooded, by decide⟩
set_option maxRecDepth 200000 in
theorem mlX10_375 : VL RX10 375 10 yX10_driesIn cX10_driesIn 2 ((some .int)) 1 := ⟨⟨TX10, 72, rfl⟩, by decide, ts7 198 rfl rfl, mwX10_driesIn.1, mwX10_driesIn.2.1, mwX10_driesIn.2.2.1, mwX10_driesIn.2.2.2, mdX10_driesIn, by decide⟩
set_option maxRecDepth 200000 in
theorem mlX10_378 : VL RX10 378 10 yX10_dayGoes cX10_dayGoes 3 (none) 0 := ⟨⟨TX10, 72, rfl⟩, by decide, ts7 186 rfl rfl, mwX10_dayGoes.1, mwX10_dayGoes.2.1, mwX10_dayGoes.2.2.1, mwX10_dayGoes.2.2.2, mdX10_dayGoes, by decide⟩
set_option maxRecDepth 200000 in
theorem mlX10_381 : VL RX10 381 10 yX10_copies cX10_copies 2 (none) 0 := ⟨⟨TX10, 72, rfl⟩, by decide, ts7 78 rfl rfl, mwX10_copies.1, mwX10_copies.2.1, mwX10_copies.2.2.1, mwX10_copies.2.2.2, mdX10_copies, by decide⟩
set_option maxRecDepth 200000 in
theorem mlX10_384 : VL RX10 384 10 yX10_cellsOf cX10_cellsOf 4 ((some .int)) 1 := ⟨⟨TX10, 72, rfl⟩, by decide, ts7 110 rfl rfl, mwX10_cellsOf.1, mwX10_cellsOf.2.1, mwX10_cellsOf.2.2.1, mwX10_cellsOf.2.2.2, mdX10_cellsOf, by decide⟩
set_option maxRecDepth 200000 in
theorem mlX10_387 : VL RX10 387 10 yX10_isField cX10_isField 2 ((some .boolean)) 1 := ⟨⟨TX10, 72, rfl⟩, by decide, ts7 106 rfl rfl, mwX10_isField.1, mwX10_isField.2.1, mwX10_isField.2.2.1, mwX10_isField.2.2.2, mdX10_isField, by decide⟩
set_option maxRecDepth 200000 in
theorem mlX10_390 : VL RX10 390 10 yX10_needAll cX10_needAll 2 ((some .int)) 1 := ⟨⟨TX10, 72, rfl⟩, by decide, ts7 118 rfl rfl, mwX10_needAll.1, mwX10_needAll.2.1, mwX10_needAll.2.2.1, mwX10_needAll.2.2.2, mdX10_needAll, by decide⟩
set_option maxRecDepth 200000 in
theorem mlX10_393 : VL RX10 393 10 yX10_isLoom cX10_isLoom 2 ((some .boolean)) 1 := ⟨⟨TX10, 72, rfl⟩, by decide, ts7 126 rfl rfl, mwX10_isLoom.1, mwX10_isLoom.2.1, mwX10_isLoom.2.2.1, mwX10_isLoom.2.2.2, mdX10_isLoom, by decide⟩
set_option maxRecDepth 200000 in
theorem mlX10_396 : VL RX10 396 10 yX10_isPiece cX10_isPiece 4 ((some .boolean)) 3 := ⟨⟨TX10, 72, rfl⟩, by decide, ts7 154 rfl rfl, mwX10_isPiece.1, mwX10_isPiece.2.1, mwX10_isPiece.2.2.1, mwX10_isPiece.2.2.2, mdX10_isPiece, by decide⟩
set_option maxRecDepth 200000 in
theorem mlX10_399 : VL RX10 399 10 yX10_keeps cX10_keeps 2 (none) 0 := ⟨⟨TX10, 72, rfl⟩, by decide, ts7 158 rfl rfl, mwX10_keeps.1, mwX10_keeps.2.1, mwX10_keeps.2.2.1, mwX10_keeps.2.2.2, mdX10_keeps, by decide⟩
set_option maxRecDepth 200000 in
theorem mlX10_402 : VL RX10 402 10 yX10_goes cX10_goes 3 (none) 1 := ⟨⟨TX10, 72, rfl⟩, by decide, ts7 182 rfl rfl, mwX10_goes.1, mwX10_goes.2.1, mwX10_goes.2.2.1, mwX10_goes.2.2.2, mdX10_goes, by decide⟩
set_option maxRecDepth 200000 in
theorem mlX10_405 : VL RX10 405 10 yX10_heldBy cX10_heldBy 6 ((some .int)) 3 := ⟨⟨TX10, 72, rfl⟩, by decide, ts7 210 rfl rfl, mwX10_heldBy.1, mwX10_heldBy.2.1, mwX10_heldBy.2.2.1, mwX10_heldBy.2.2.2, mdX10_heldBy, by decide⟩
set_option maxRecDepth 200000 in
theorem mlX10_408 : VL RX10 408 10 yX10_isRound cX10_isRound 5 ((some .boolean)) 2 := ⟨⟨TX10, 72, rfl⟩, by decide, ts7 222 rfl rfl, mwX10_isRound.1, mwX10_isRound.2.1, mwX10_isRound.2.2.1, mwX10_isRound.2.2.2, mdX10_isRound, by decide⟩
set_option maxRecDepth 200000 in
theorem mlX10_414 : VL RX10 414 10 yX10_moreBy cX10_moreBy 8 ((some .int)) 5 := ⟨⟨TX10, 72, rfl⟩, by decide, ts7 238 rfl rfl, mwX10_moreBy.1, mwX10_moreBy.2.1, mwX10_moreBy.2.2.1, mwX10_moreBy.2.2.2, mdX10_moreBy, by decide⟩
set_option maxRecDepth 200000 in
theorem mlX10_420 : VL RX10 420 10 yX10_fillsWhere cX10_fillsWhere 7 (none) 3 := ⟨⟨TX10, 72, rfl⟩, by decide, ts7 234 rfl rfl, mwX10_fillsWhere.1, mwX10_fillsWhere.2.1, mwX10_fillsWhere.2.2.1, mwX10_fillsWhere.2.2.2, mdX10_fillsWhere, by decide⟩
set_option maxRecDepth 200000 in
theorem mlX10_424 : VL RX10 424 10 yX10_isFree cX10_isFree 5 ((some .boolean)) 2 := ⟨⟨TX10, 72, rfl⟩, by decide, ts8 18 rfl rfl, mwX10_isFree.1, mwX10_isFree.2.1, mwX10_isFree.2.2.1, mwX10_isFree.2.2.2, mdX10_isFree, by decide⟩
set_option maxRecDepth 200000 in
theorem mlX10_430 : VL RX10 430 10 yX10_nextPlace cX10_nextPlace 5 ((some .int)) 3 := ⟨⟨TX10, 72, rfl⟩, by decide, ts8 14 rfl rfl, mwX10_nextPlace.1, mwX10_nextPlace.2.1, mwX10_nextPlace.2.2.1, mwX10_nextPlace.2.2.2, mdX10_nextPlace, by decide⟩
set_option maxRecDepth 200000 in
theorem mlX10_433 : VL RX10 433 10 yX10_flips cX10_flips 5 (none) 2 := ⟨⟨TX10, 72, rfl⟩, by decide, ts8 22 rfl rfl, mwX10_flips.1, mwX10_flips.2.1, mwX10_flips.2.2.1, mwX10_flips.2.2.2, mdX10_flips, by decide⟩
set_option maxRecDepth 200000 in
theorem mlX10_436 : VL RX10 436 10 yX10_adds cX10_adds 4 ((some .boolean)) 1 := ⟨⟨TX10, 72, rfl⟩, by decide, ts8 6 rfl rfl, mwX10_adds.1, mwX10_adds.2.1, mwX10_adds.2.2.1, mwX10_adds.2.2.2, mdX10_adds, by decide⟩
set_option maxRecDepth 200000 in
theorem mlX10_439 : VL RX10 439 10 yX10_goesIn cX10_goesIn 5 ((some .boolean)) 1 := ⟨⟨TX10, 72, rfl⟩, by decide, ts8 10 rfl rfl, mwX10_goesIn.1, mwX10_goesIn.2.1, mwX10_goesIn.2.2.1, mwX10_goesIn.2.2.2, mdX10_goesIn, by decide⟩
set_option maxRecDepth 200000 in
theorem mlX10_442 : SL RX10 442 yX10_isLong cX10_isLong 1 ((some .boolean)) 1 := ⟨ts8 30 rfl rfl, mwX10_isLong.1, mwX10_isLong.2.1, mwX10_isLong.2.2, mdX10_isLong, by decide⟩
set_option maxRecDepth 200000 in
theorem mlX10_445 : VL RX10 445 10 yX10_moreIn cX10_moreIn 4 ((some .int)) 1 := ⟨⟨TX10, 72, rfl⟩, by decide, ts8 37 rfl rfl, mwX10_moreIn.1, mwX10_moreIn.2.1, mwX10_moreIn.2.2.1, mwX10_moreIn.2.2.2, mdX10_moreIn, by decide⟩
set_option maxRecDepth 200000 in
theorem mlX10_448 : SL RX10 448 yX10_sixes cX10_sixes 3 ((some .int)) 1 := ⟨ts8 65 rfl rfl, mwX10_sixes.1, mwX10_sixes.2.1, mwX10_sixes.2.2, mdX10_sixes, by decide⟩
set_option maxRecDepth 200000 in
theorem mlX10_451 : VL RX10 451 10 yX10_offBy cX10_offBy 6 ((some .int)) 4 := ⟨⟨TX10, 72, rfl⟩, by decide, ts8 61 rfl rfl, mwX10_offBy.1, mwX10_offBy.2.1, mwX10_offBy.2.2.1, mwX10_offBy.2.2.2, mdX10_offBy, by decide⟩
set_option maxRecDepth 200000 in
theorem mlX10_458 : VL RX10 458 10 yX10_offAll cX10_offAll 7 ((some .int)) 1 := ⟨⟨TX10, 72, rfl⟩, by decide, ts8 68 rfl rfl, mwX10_offAll.1, mwX10_offAll.2.1, mwX10_offAll.2.2.1, mwX10_offAll.2.2.2, mdX10_offAll, by decide⟩
set_option maxRecDepth 200000 in
theorem mlX10_464 : VL RX10 464 10 yX10_fillsServe cX10_fillsServe 5 (none) 2 := ⟨⟨TX10, 72, rfl⟩, by decide, ts8 57 rfl rfl, mwX10_fillsServe.1, mwX10_fillsServe.2.1, mwX10_fillsServe.2.2.1, mwX10_fillsServe.2.2.2, mdX10_fillsServe, by decide⟩
set_option maxRecDepth 200000 in
theorem mlX10_467 : VL RX10 467 10 yX10_wetBy cX10_wetBy 7 ((some .int)) 4 := ⟨⟨TX10, 72, rfl⟩, by decide, ts8 104 rfl rfl, mwX10_wetBy.1, mwX10_wetBy.2.1, mwX10_wetBy.2.2.1, mwX10_wetBy.2.2.2, mdX10_wetBy, by decide⟩
set_option maxRecDepth 200000 in
theorem mlX10_470 : VL RX10 470 10 yX10_isAsked cX10_isAsked 4 ((some .boolean)) 3 := ⟨⟨TX10, 72, rfl⟩, by decide, ts8 96 rfl rfl, mwX10_isAsked.1, mwX10_isAsked.2.1, mwX10_isAsked.2.2.1, mwX10_isAsked.2.2.2, mdX10_isAsked, by decide⟩
set_option maxRecDepth 200000 in
theorem mlX10_473 : VL RX10 473 10 yX10_isWay cX10_isWay 6 ((some .boolean)) 4 := ⟨⟨TX10, 72, rfl⟩, by decide, ts8 100 rfl rfl, mwX10_isWay.1, mwX10_isWay.2.1, mwX10_isWay.2.2.1, mwX10_isWay.2.2.2, mdX10_isWay, by decide⟩
set_option maxRecDepth 200000 in
theorem mlX10_477 : VL RX10 477 10 yX10_worstAt cX10_worstAt 6 ((some .int)) 3 := ⟨⟨TX10, 72, rfl⟩, by decide, ts8 112 rfl rfl, mwX10_worstAt.1, mwX10_worstAt.2.1, mwX10_worstAt.2.2.1, mwX10_worstAt.2.2.2, mdX10_worstAt, by decide⟩
set_option maxRecDepth 200000 in
theorem mlX10_480 : VL RX10 480 10 yX10_sumNow cX10_sumNow 5 ((some .int)) 2 := ⟨⟨TX10, 72, rfl⟩, by decide, ts8 128 rfl rfl, mwX10_sumNow.1, mwX10_sumNow.2.1, mwX10_sumNow.2.2.1, mwX10_sumNow.2.2.2, mdX10_sumNow, by decide⟩
set_option maxRecDepth 200000 in
theorem mlJ0_495 : SL RJ0 495 yJ1_charAt_3b067 cJ1_charAt_3b067 2 ((some .char)) 2 := ⟨ts1 59 rfl rfl, mwJ1_charAt_3b067.1, mwJ1_charAt_3b067.2.1, mwJ1_charAt_3b067.2.2, mdJ1_charAt_3b067, by decide⟩
set_option maxRecDepth 200000 in
theorem mlJ0_637 : SL RJ0 637 yJ1_indexOf_4cfef cJ1_indexOf_4cfef 4 ((some .int)) 4 := ⟨ts3 84 rfl rfl, mwJ1_indexOf_4cfef.1, mwJ1_indexOf_4cfef.2.1, mwJ1_indexOf_4cfef.2.2, mdJ1_indexOf_4cfef, by decide⟩
set_option maxRecDepth 200000 in
theorem mlJ0_1059 : SL RJ0 1059 yJ3_checkIndex_8e157 cJ3_checkIndex_8e157 3 ((some .int)) 3 := ⟨ts1 67 rfl rfl, mwJ3_checkIndex_8e157.1, mwJ3_checkIndex_8e157.2.1, mwJ3_checkIndex_8e157.2.2, mdJ3_checkIndex_8e157, by decide⟩
set_option maxRecDepth 200000 in
theorem mlJ1_9 : SL RJ1 9 yJ0_checkIndex_df160 cJ0_checkIndex_df160 2 (none) 2 := ⟨ts1 62 rfl rfl, mwJ0_checkIndex_df160.1, mwJ0_checkIndex_df160.2.1, mwJ0_checkIndex_df160.2.2, mdJ0_checkIndex_df160, by decide⟩
set_option maxRecDepth 200000 in
theorem mlJ1_88 : SL RJ1 88 yJ1_canEncode_9a6ad cJ1_canEncode_9a6ad 1 ((some .boolean)) 1 := ⟨ts3 87 rfl rfl, mwJ1_canEncode_9a6ad.1, mwJ1_canEncode_9a6ad.2.1, mwJ1_canEncode_9a6ad.2.2, mdJ1_canEncode_9a6ad, by decide⟩
set_option maxRecDepth 200000 in
theorem mlJ1_95 : SL RJ1 95 yJ1_indexOfChar_4cfef cJ1_indexOfChar_4cfef 6 ((some .int)) 4 := ⟨ts3 94 rfl rfl, mwJ1_indexOfChar_4cfef.1, mwJ1_indexOfChar_4cfef.2.1, mwJ1_indexOfChar_4cfef.2.2, mdJ1_indexOfChar_4cfef, by decide⟩
