/-! words of the tables, by their places -/
theorem inG_X0 : ∀ w ∈ u_ws RX0 TX0 6, w ∈ lw_G := (List.forall_mem_cons.mpr ⟨mem_t1 134 rfl rfl, (List.forall_mem_cons.mpr ⟨mem_t1 136 rfl rfl, (List.forall_mem_cons.mpr ⟨mem_t1 138 rfl rfl, (List.forall_mem_cons.mpr ⟨mem_t1 140 rfl rfl, (List.forall_mem_cons.mpr ⟨mem_t1 142 rfl rfl, (List.forall_mem_cons.mpr ⟨mem_t1 144 rfl rfl, (fun _ h => absurd h List.not_mem_nil)⟩)⟩)⟩)⟩)⟩)⟩)
theorem inG_X1 : ∀ w ∈ u_ws RX1 TX1 2, w ∈ lw_G := (List.forall_mem_cons.mpr ⟨mem_t2 28 rfl rfl, (List.forall_mem_cons.mpr ⟨mem_t2 30 rfl rfl, (fun _ h => absurd h List.not_mem_nil)⟩)⟩)
theorem inG_X2 : ∀ w ∈ u_ws RX2 TX2 2, w ∈ lw_G := (List.forall_mem_cons.mpr ⟨mem_t1 36 rfl rfl, (List.forall_mem_cons.mpr ⟨mem_t1 38 rfl rfl, (fun _ h => absurd h List.not_mem_nil)⟩)⟩)
theorem inG_X3 : ∀ w ∈ u_ws RX3 TX3 0, w ∈ lw_G := (fun _ h => absurd h List.not_mem_nil)
theorem inG_X5 : ∀ w ∈ u_ws RX5 TX5 5, w ∈ lw_G := (List.forall_mem_cons.mpr ⟨mem_t1 117 rfl rfl, (List.forall_mem_cons.mpr ⟨mem_t1 119 rfl rfl, (List.forall_mem_cons.mpr ⟨mem_t1 121 rfl rfl, (List.forall_mem_cons.mpr ⟨mem_t1 123 rfl rfl, (List.forall_mem_cons.mpr ⟨mem_t1 125 rfl rfl, (fun _ h => absurd h List.not_mem_nil)⟩)⟩)⟩)⟩)⟩)
theorem inG_X6 : ∀ w ∈ u_ws RX6 TX6 17, w ∈ lw_G := (List.forall_mem_cons.mpr ⟨mem_t1 225 rfl rfl, (List.forall_mem_cons.mpr ⟨mem_t1 227 rfl rfl, (List.forall_mem_cons.mpr ⟨mem_t1 229 rfl rfl, (List.forall_mem_cons.mpr ⟨mem_t1 231 rfl rfl, (List.forall_mem_cons.mpr ⟨mem_t1 233 rfl rfl, (List.forall_mem_cons.mpr ⟨mem_t1 235 rfl rfl, (List.forall_mem_cons.mpr ⟨mem_t1 237 rfl rfl, (List.forall_mem_cons.mpr ⟨mem_t1 239 rfl rfl, (List.forall_mem_cons.mpr ⟨mem_t2 1 rfl rfl, (List.forall_mem_cons.mpr ⟨mem_t2 3 rfl rfl, (List.forall_mem_cons.mpr ⟨mem_t2 5 rfl rfl, (List.forall_mem_cons.mpr ⟨mem_t2 7 rfl rfl, (List.forall_mem_cons.mpr ⟨mem_t2 9 rfl rfl, (List.forall_mem_cons.mpr ⟨mem_t2 11 rfl rfl, (List.forall_mem_cons.mpr ⟨mem_t2 13 rfl rfl, (List.forall_mem_cons.mpr ⟨mem_t2 15 rfl rfl, (List.forall_mem_cons.mpr ⟨mem_t2 17 rfl rfl, (fun _ h => absurd h List.not_mem_nil)⟩)⟩)⟩)⟩)⟩)⟩)⟩)⟩)⟩)⟩)⟩)⟩)⟩)⟩)⟩)⟩)⟩)
theorem inG_X7 : ∀ w ∈ u_ws RX7 TX7 18, w ∈ lw_G := (List.forall_mem_cons.mpr ⟨mem_t1 165 rfl rfl, (List.forall_mem_cons.mpr ⟨mem_t1 167 rfl rfl, (List.forall_mem_cons.mpr ⟨mem_t1 169 rfl rfl, (List.forall_mem_cons.mpr ⟨mem_t1 171 rfl rfl, (List.forall_mem_cons.mpr ⟨mem_t1 173 rfl rfl, (List.forall_mem_cons.mpr ⟨mem_t1 175 rfl rfl, (List.forall_mem_cons.mpr ⟨mem_t1 177 rfl rfl, (List.forall_mem_cons.mpr ⟨mem_t1 179 rfl rfl, (List.forall_mem_cons.mpr ⟨mem_t1 181 rfl rfl, (List.forall_mem_cons.mpr ⟨mem_t1 183 rfl rfl, (List.forall_mem_cons.mpr ⟨mem_t1 185 rfl rfl, (List.forall_mem_cons.mpr ⟨mem_t1 187 rfl rfl, (List.forall_mem_cons.mpr ⟨mem_t1 189 rfl rfl, (List.forall_mem_cons.mpr ⟨mem_t1 191 rfl rfl, (List.forall_mem_cons.mpr ⟨mem_t1 193 rfl rfl, (List.forall_mem_cons.mpr ⟨mem_t1 195 rfl rfl, (List.forall_mem_cons.mpr ⟨mem_t1 197 rfl rfl, (List.forall_mem_cons.mpr ⟨mem_t1 199 rfl rfl, (fun _ h => absurd h List.not_mem_nil)⟩)⟩)⟩)⟩)⟩)⟩)⟩)⟩)⟩)⟩)⟩)⟩)⟩)⟩)⟩)⟩)⟩)⟩)
theorem inG_X8 : ∀ w ∈ u_ws RX8 TX8 0, w ∈ lw_G := (fun _ h => absurd h List.not_mem_nil)
theorem inG_X10 : ∀ w ∈ u_ws RX10 TX10 9, w ∈ lw_G := (List.forall_mem_cons.mpr ⟨mem_t1 57 rfl rfl, (List.forall_mem_cons.mpr ⟨mem_t1 59 rfl rfl, (List.forall_mem_cons.mpr ⟨mem_t1 61 rfl rfl, (List.forall_mem_cons.mpr ⟨mem_t1 63 rfl rfl, (List.forall_mem_cons.mpr ⟨mem_t1 65 rfl rfl, (List.forall_mem_cons.mpr ⟨mem_t1 67 rfl rfl, (List.forall_mem_cons.mpr ⟨mem_t1 69 rfl rfl, (List.forall_mem_cons.mpr ⟨mem_t1 71 rfl rfl, (List.forall_mem_cons.mpr ⟨mem_t1 73 rfl rfl, (fun _ h => absurd h List.not_mem_nil)⟩)⟩)⟩)⟩)⟩)⟩)⟩)⟩)⟩)
theorem inG_X11 : ∀ w ∈ u_ws RX11 TX11 10, w ∈ lw_G := (List.forall_mem_cons.mpr ⟨mem_t2 43 rfl rfl, (List.forall_mem_cons.mpr ⟨mem_t2 45 rfl rfl, (List.forall_mem_cons.mpr ⟨mem_t2 47 rfl rfl, (List.forall_mem_cons.mpr ⟨mem_t2 49 rfl rfl, (List.forall_mem_cons.mpr ⟨mem_t2 51 rfl rfl, (List.forall_mem_cons.mpr ⟨mem_t2 53 rfl rfl, (List.forall_mem_cons.mpr ⟨mem_t2 55 rfl rfl, (List.forall_mem_cons.mpr ⟨mem_t2 57 rfl rfl, (List.forall_mem_cons.mpr ⟨mem_t2 59 rfl rfl, (List.forall_mem_cons.mpr ⟨mem_t2 61 rfl rfl, (fun _ h => absurd h List.not_mem_nil)⟩)⟩)⟩)⟩)⟩)⟩)⟩)⟩)⟩)⟩)
theorem inG_X12 : ∀ w ∈ u_ws RX12 TX12 32, w ∈ lw_G := (List.forall_mem_cons.mpr ⟨mem_t5 43 rfl rfl, (List.forall_mem_cons.mpr ⟨mem_t5 45 rfl rfl, (List.forall_mem_cons.mpr ⟨mem_t5 47 rfl rfl, (List.forall_mem_cons.mpr ⟨mem_t5 49 rfl rfl, (List.forall_mem_cons.mpr ⟨mem_t5 51 rfl rfl, (List.forall_mem_cons.mpr ⟨mem_t5 53 rfl rfl, (List.forall_mem_cons.mpr ⟨mem_t5 55 rfl rfl, (List.forall_mem_cons.mpr ⟨mem_t5 57 rfl rfl, (List.forall_mem_cons.mpr ⟨mem_t5 59 rfl rfl, (List.forall_mem_cons.mpr ⟨mem_t5 61 rfl rfl, (List.forall_mem_cons.mpr ⟨mem_t5 63 rfl rfl, (List.forall_mem_cons.mpr ⟨mem_t5 65 rfl rfl, (List.forall_mem_cons.mpr ⟨mem_t5 67 rfl rfl, (List.forall_mem_cons.mpr ⟨mem_t5 69 rfl rfl, (List.forall_mem_cons.mpr ⟨mem_t5 71 rfl rfl, (List.forall_mem_cons.mpr ⟨mem_t5 73 rfl rfl, (List.forall_mem_cons.mpr ⟨mem_t5 75 rfl rfl, (List.forall_mem_cons.mpr ⟨mem_t5 77 rfl rfl, (List.forall_mem_cons.mpr ⟨mem_t5 79 rfl rfl, (List.forall_mem_cons.mpr ⟨mem_t5 81 rfl rfl, (List.forall_mem_cons.mpr ⟨mem_t5 83 rfl rfl, (List.forall_mem_cons.mpr ⟨mem_t5 85 rfl rfl, (List.forall_mem_cons.mpr ⟨mem_t5 87 rfl rfl, (List.forall_mem_cons.mpr ⟨mem_t5 89 rfl rfl, (List.forall_mem_cons.mpr ⟨mem_t5 91 rfl rfl, (List.forall_mem_cons.mpr ⟨mem_t5 93 rfl rfl, (List.forall_mem_cons.mpr ⟨mem_t5 95 rfl rfl, (List.forall_mem_cons.mpr ⟨mem_t5 97 rfl rfl, (List.forall_mem_cons.mpr ⟨mem_t5 99 rfl rfl, (List.forall_mem_cons.mpr ⟨mem_t5 101 rfl rfl, (List.forall_mem_cons.mpr ⟨mem_t5 103 rfl rfl, (List.forall_mem_cons.mpr ⟨mem_t5 105 rfl rfl, (fun _ h => absurd h List.not_mem_nil)⟩)⟩)⟩)⟩)⟩)⟩)⟩)⟩)⟩)⟩)⟩)⟩)⟩)⟩)⟩)⟩)⟩)⟩)⟩)⟩)⟩)⟩)⟩)⟩)⟩)⟩)⟩)⟩)⟩)⟩)⟩)⟩)
theorem nw_0 : (.methodLinkNest "FastBlocks" 27 ⟨"FastBlocks$Text", "<init>", "()V"⟩ "FastBlocks" : Cond) ∈ lw_N := List.mem_of_getElem? (i := 0) rfl
theorem nw_1 : (.methodLinkNest "FastBlocks$Packer" 11 ⟨"FastBlocks$Sequences", "<init>", "()V"⟩ "FastBlocks" : Cond) ∈ lw_N := List.mem_of_getElem? (i := 1) rfl
theorem nw_2 : (.methodLinkNest "FastBlocks$Sequences" 3 ⟨"FastBlocks$Form", "<init>", "()V"⟩ "FastBlocks" : Cond) ∈ lw_N := List.mem_of_getElem? (i := 2) rfl
theorem nw_3 : (.methodLinkNest "FastBlocks$Packer" 20 ⟨"FastBlocks$Elements", "<init>", "()V"⟩ "FastBlocks" : Cond) ∈ lw_N := List.mem_of_getElem? (i := 3) rfl
theorem nw_4 : (.methodLinkNest "FastBlocks$Elements" 3 ⟨"FastBlocks$Form", "<init>", "()V"⟩ "FastBlocks" : Cond) ∈ lw_N := List.mem_of_getElem? (i := 4) rfl
theorem nw_5 : (.methodLinkNest "FastBlocks$Packer" 26 ⟨"FastBlocks$BestRow", "<init>", "()V"⟩ "FastBlocks" : Cond) ∈ lw_N := List.mem_of_getElem? (i := 5) rfl
theorem nw_6 : (.methodLinkNest "FastBlocks" 58 ⟨"FastBlocks$Blocks", "<init>", "()V"⟩ "FastBlocks" : Cond) ∈ lw_N := List.mem_of_getElem? (i := 6) rfl
theorem nw_7 : (.declares ⟨"FastBlocks$Form", "limitAt", "(II)I"⟩ : Cond) ∈ lw_N := List.mem_of_getElem? (i := 7) rfl
theorem nw_8 : (.declares ⟨"FastBlocks$Form", "mostCopy", "()I"⟩ : Cond) ∈ lw_N := List.mem_of_getElem? (i := 8) rfl
theorem nw_9 : (.declares ⟨"FastBlocks$Form", "mostClose", "()I"⟩ : Cond) ∈ lw_N := List.mem_of_getElem? (i := 9) rfl
theorem nw_10 : (.declares ⟨"FastBlocks$Form", "closeSpan", "()I"⟩ : Cond) ∈ lw_N := List.mem_of_getElem? (i := 10) rfl
theorem nw_11 : (.declares ⟨"FastBlocks$Form", "leastCopy", "()I"⟩ : Cond) ∈ lw_N := List.mem_of_getElem? (i := 11) rfl
theorem nw_12 : (.declares ⟨"FastBlocks$Form", "sameCostTo", "(II)I"⟩ : Cond) ∈ lw_N := List.mem_of_getElem? (i := 12) rfl
theorem nw_13 : (.declares ⟨"FastBlocks$Form", "copyCost", "(II)I"⟩ : Cond) ∈ lw_N := List.mem_of_getElem? (i := 13) rfl
theorem nw_14 : (.declares ⟨"FastBlocks$Form", "sameHeadTo", "(I)I"⟩ : Cond) ∈ lw_N := List.mem_of_getElem? (i := 14) rfl
theorem nw_15 : (.declares ⟨"FastBlocks$Form", "headOf", "(I)I"⟩ : Cond) ∈ lw_N := List.mem_of_getElem? (i := 15) rfl
theorem nw_16 : (.declares ⟨"FastBlocks$Form", "pieceOf", "(I)I"⟩ : Cond) ∈ lw_N := List.mem_of_getElem? (i := 16) rfl
theorem nw_17 : (.declares ⟨"FastBlocks$Form", "writeHead", "(LFastBlocks$Bytes;I)V"⟩ : Cond) ∈ lw_N := List.mem_of_getElem? (i := 17) rfl
theorem nw_18 : (.declares ⟨"FastBlocks$Form", "write", "(LFastBlocks$Text;LFastBlocks$Bytes;IIII)I"⟩ : Cond) ∈ lw_N := List.mem_of_getElem? (i := 18) rfl
theorem nw_19 : (.fieldLinkNest "FastBlocks$Packer" 153 "FastBlocks" "FIRST_CHUNK" "[I" "FastBlocks" : Cond) ∈ lw_N := List.mem_of_getElem? (i := 19) rfl
theorem nw_20 : (.fieldLinkNest "FastBlocks$Opener" 210 "FastBlocks" "FIRST_CHUNK" "[I" "FastBlocks" : Cond) ∈ lw_N := List.mem_of_getElem? (i := 20) rfl
theorem kw_0 : Cond.selects RX10 yX10_clear yX10_clear ∈ lw_G := mem_p1 (q := (yX10_clear, 9)) 0 rfl
theorem kw_1 : Cond.selects RX10 yX10_append yX10_append ∈ lw_G := mem_p1 (q := (yX10_append, 9)) 1 rfl
theorem kw_2 : Cond.selects RX7 yX7_packBlock yX7_packBlock ∈ lw_G := mem_p1 (q := (yX7_packBlock, 18)) 2 rfl
theorem kw_3 : Cond.selects RX0 yX0_findCopy yX0_findCopy ∈ lw_G := mem_p1 (q := (yX0_findCopy, 6)) 3 rfl
theorem kw_4 : Cond.selects RX10 yX10_goesOn yX10_goesOn ∈ lw_G := mem_p1 (q := (yX10_goesOn, 9)) 4 rfl
theorem kw_5 : Cond.selects RX5 yX5_better yX5_better ∈ lw_G := mem_p1 (q := (yX5_better, 5)) 5 rfl
theorem kw_6 : Cond.selects RX0 yX0_findRest yX0_findRest ∈ lw_G := mem_p1 (q := (yX0_findRest, 6)) 6 rfl
theorem kw_7 : Cond.selects RX7 yX7_chooseBestRow yX7_chooseBestRow ∈ lw_G := mem_p1 (q := (yX7_chooseBestRow, 18)) 7 rfl
theorem kw_8 : Cond.selects RX7 yX7_chooseLongest yX7_chooseLongest ∈ lw_G := mem_p1 (q := (yX7_chooseLongest, 18)) 8 rfl
theorem kw_9 : Cond.selects RX7 yX7_matchAt yX7_matchAt ∈ lw_G := mem_p1 (q := (yX7_matchAt, 18)) 9 rfl
theorem kw_10 : Cond.selects RX7 yX7_choosePieces yX7_choosePieces ∈ lw_G := mem_p1 (q := (yX7_choosePieces, 18)) 10 rfl
theorem kw_11 : Cond.selects RX7 yX7_writeRow yX7_writeRow ∈ lw_G := mem_p1 (q := (yX7_writeRow, 18)) 11 rfl
theorem kw_12 : Cond.selects RX10 yX10_alike yX10_alike ∈ lw_G := mem_p1 (q := (yX10_alike, 9)) 12 rfl
theorem kw_13 : Cond.selects RX1 yX1_addRow yX1_addRow ∈ lw_G := mem_p1 (q := (yX1_addRow, 2)) 13 rfl
theorem kw_14 : Cond.selects RX7 yX7_writeFrameHead yX7_writeFrameHead ∈ lw_G := mem_p1 (q := (yX7_writeFrameHead, 18)) 14 rfl
theorem kw_15 : Cond.selects RX7 yX7_isSet yX7_isSet ∈ lw_G := mem_p1 (q := (yX7_isSet, 18)) 15 rfl
theorem kw_16 : Cond.selects RX7 yX7_blockBytes yX7_blockBytes ∈ lw_G := mem_p2 (q := (yX7_blockBytes, 18)) 0 rfl
theorem kw_17 : Cond.selects RX7 yX7_packFrameBlock yX7_packFrameBlock ∈ lw_G := mem_p2 (q := (yX7_packFrameBlock, 18)) 1 rfl
theorem kw_18 : Cond.selects RX7 yX7_endBlock yX7_endBlock ∈ lw_G := mem_p2 (q := (yX7_endBlock, 18)) 2 rfl
theorem kw_19 : Cond.selects RX7 yX7_packChunk yX7_packChunk ∈ lw_G := mem_p2 (q := (yX7_packChunk, 18)) 3 rfl
theorem kw_20 : Cond.selects RX11 yX11_exchangeOutputs yX11_exchangeOutputs ∈ lw_G := mem_p2 (q := (yX11_exchangeOutputs, 10)) 4 rfl
theorem kw_21 : Cond.selects RX11 yX11_exchangeBlocks yX11_exchangeBlocks ∈ lw_G := mem_p2 (q := (yX11_exchangeBlocks, 10)) 5 rfl
theorem kw_22 : Cond.selects RX6 yX6_openSequences yX6_openSequences ∈ lw_G := mem_p2 (q := (yX6_openSequences, 17)) 6 rfl
theorem kw_23 : Cond.selects RX6 yX6_beginBlock yX6_beginBlock ∈ lw_G := mem_p2 (q := (yX6_beginBlock, 17)) 7 rfl
theorem kw_24 : Cond.selects RX6 yX6_withAdded yX6_withAdded ∈ lw_G := mem_p2 (q := (yX6_withAdded, 17)) 8 rfl
theorem kw_25 : Cond.selects RX6 yX6_lacks yX6_lacks ∈ lw_G := mem_p2 (q := (yX6_lacks, 17)) 9 rfl
theorem kw_26 : Cond.selects RX6 yX6_breaks yX6_breaks ∈ lw_G := mem_p2 (q := (yX6_breaks, 17)) 10 rfl
theorem kw_27 : Cond.selects RX6 yX6_isOver yX6_isOver ∈ lw_G := mem_p2 (q := (yX6_isOver, 17)) 11 rfl
theorem kw_28 : Cond.selects RX6 yX6_endsWell yX6_endsWell ∈ lw_G := mem_p2 (q := (yX6_endsWell, 17)) 12 rfl
theorem kw_29 : Cond.selects RX6 yX6_openCopy yX6_openCopy ∈ lw_G := mem_p2 (q := (yX6_openCopy, 17)) 13 rfl
theorem kw_30 : Cond.selects RX6 yX6_copy yX6_copy ∈ lw_G := mem_p2 (q := (yX6_copy, 17)) 14 rfl
theorem kw_31 : Cond.selects RX6 yX6_addPackedBlock yX6_addPackedBlock ∈ lw_G := mem_p2 (q := (yX6_addPackedBlock, 17)) 15 rfl
theorem kw_32 : Cond.selects RX6 yX6_passPiece yX6_passPiece ∈ lw_G := mem_p3 (q := (yX6_passPiece, 17)) 0 rfl
theorem kw_33 : Cond.selects RX6 yX6_openFrame yX6_openFrame ∈ lw_G := mem_p3 (q := (yX6_openFrame, 17)) 1 rfl
theorem kw_34 : Cond.selects RX6 yX6_openFrameHead yX6_openFrameHead ∈ lw_G := mem_p3 (q := (yX6_openFrameHead, 17)) 2 rfl
theorem kw_35 : Cond.selects RX6 yX6_isFlag yX6_isFlag ∈ lw_G := mem_p3 (q := (yX6_isFlag, 17)) 3 rfl
theorem kw_36 : Cond.selects RX6 yX6_openFrameTold yX6_openFrameTold ∈ lw_G := mem_p3 (q := (yX6_openFrameTold, 17)) 4 rfl
theorem kw_37 : Cond.selects RX6 yX6_openFrameEnd yX6_openFrameEnd ∈ lw_G := mem_p3 (q := (yX6_openFrameEnd, 17)) 5 rfl
theorem kw_38 : Cond.selects RX6 yX6_openFrameBlock yX6_openFrameBlock ∈ lw_G := mem_p3 (q := (yX6_openFrameBlock, 17)) 6 rfl
theorem kw_39 : Cond.selects RX6 yX6_openRaw yX6_openRaw ∈ lw_G := mem_p3 (q := (yX6_openRaw, 17)) 7 rfl
theorem kw_40 : Cond.selects RX6 yX6_openElements yX6_openElements ∈ lw_G := mem_p3 (q := (yX6_openElements, 17)) 8 rfl
theorem kw_41 : Cond.selects RX6 yX6_openElement yX6_openElement ∈ lw_G := mem_p3 (q := (yX6_openElement, 17)) 9 rfl
theorem kw_42 : Cond.selects RX6 yX6_openLiterals yX6_openLiterals ∈ lw_G := mem_p3 (q := (yX6_openLiterals, 17)) 10 rfl
theorem kw_43 : Cond.selects RX6 yX6_openOffset yX6_openOffset ∈ lw_G := mem_p3 (q := (yX6_openOffset, 17)) 11 rfl
theorem kw_44 : Cond.selects RX6 yX6_openChunk yX6_openChunk ∈ lw_G := mem_p3 (q := (yX6_openChunk, 17)) 12 rfl
theorem kw_45 : Cond.selects RX6 yX6_isFirstChunk yX6_isFirstChunk ∈ lw_G := mem_p3 (q := (yX6_isFirstChunk, 17)) 13 rfl
theorem kw_46 : Cond.selects RX6 yX6_openChunkBytes yX6_openChunkBytes ∈ lw_G := mem_p3 (q := (yX6_openChunkBytes, 17)) 14 rfl
theorem kw_47 : Cond.selects RX12 yX12_word yX12_word ∈ lw_G := mem_p3 (q := (yX12_word, 32)) 15 rfl
theorem kw_48 : Cond.selects RX12 yX12_write yX12_write ∈ lw_G := mem_p4 (q := (yX12_write, 32)) 0 rfl
theorem kw_49 : Cond.selects RX12 yX12_frame yX12_frame ∈ lw_G := mem_p4 (q := (yX12_frame, 32)) 1 rfl
theorem kw_50 : Cond.selects RX12 yX12_lowest yX12_lowest ∈ lw_G := mem_p4 (q := (yX12_lowest, 32)) 2 rfl
theorem kw_51 : Cond.selects RX12 yX12_put yX12_put ∈ lw_G := mem_p4 (q := (yX12_put, 32)) 3 rfl
theorem kw_52 : Cond.selects RX12 yX12_lay yX12_lay ∈ lw_G := mem_p4 (q := (yX12_lay, 32)) 4 rfl
theorem kw_53 : Cond.selects RX12 yX12_sequences yX12_sequences ∈ lw_G := mem_p4 (q := (yX12_sequences, 32)) 5 rfl
theorem kw_54 : Cond.selects RX12 yX12_plan yX12_plan ∈ lw_G := mem_p4 (q := (yX12_plan, 32)) 6 rfl
theorem kw_55 : Cond.selects RX12 yX12_runs yX12_runs ∈ lw_G := mem_p4 (q := (yX12_runs, 32)) 7 rfl
theorem kw_56 : Cond.selects RX12 yX12_fewest yX12_fewest ∈ lw_G := mem_p4 (q := (yX12_fewest, 32)) 8 rfl
theorem kw_57 : Cond.selects RX12 yX12_match yX12_match ∈ lw_G := mem_p4 (q := (yX12_match, 32)) 9 rfl
theorem kw_58 : Cond.selects RX12 yX12_element yX12_element ∈ lw_G := mem_p4 (q := (yX12_element, 32)) 10 rfl
theorem kw_59 : Cond.selects RX12 yX12_copy yX12_copy ∈ lw_G := mem_p4 (q := (yX12_copy, 32)) 11 rfl
theorem kw_60 : Cond.selects RX12 yX12_nearest yX12_nearest ∈ lw_G := mem_p4 (q := (yX12_nearest, 32)) 12 rfl
theorem kw_61 : Cond.selects RX12 yX12_alike yX12_alike ∈ lw_G := mem_p4 (q := (yX12_alike, 32)) 13 rfl
theorem kw_62 : Cond.selects RX12 yX12_greedy yX12_greedy ∈ lw_G := mem_p4 (q := (yX12_greedy, 32)) 14 rfl
theorem kw_63 : Cond.selects RX12 yX12_extra yX12_extra ∈ lw_G := mem_p4 (q := (yX12_extra, 32)) 15 rfl
theorem kw_64 : Cond.selects RX12 yX12_note yX12_note ∈ lw_G := mem_p5 (q := (yX12_note, 32)) 0 rfl
theorem kw_65 : Cond.selects RX12 yX12_chunks yX12_chunks ∈ lw_G := mem_p5 (q := (yX12_chunks, 32)) 1 rfl
theorem kw_66 : Cond.selects RX12 yX12_elements yX12_elements ∈ lw_G := mem_p5 (q := (yX12_elements, 32)) 2 rfl
theorem kw_67 : Cond.selects RX12 yX12_literal yX12_literal ∈ lw_G := mem_p5 (q := (yX12_literal, 32)) 3 rfl
theorem kw_68 : Cond.selects RX12 yX12_keepBlocks yX12_keepBlocks ∈ lw_G := mem_p5 (q := (yX12_keepBlocks, 32)) 4 rfl
theorem kw_69 : Cond.selects RX12 yX12_give yX12_give ∈ lw_G := mem_p5 (q := (yX12_give, 32)) 5 rfl
theorem kw_70 : Cond.selects RX12 yX12_layOut yX12_layOut ∈ lw_G := mem_p5 (q := (yX12_layOut, 32)) 6 rfl
theorem kw_71 : Cond.selects RX12 yX12_readFrames yX12_readFrames ∈ lw_G := mem_p5 (q := (yX12_readFrames, 32)) 7 rfl
theorem kw_72 : Cond.selects RX12 yX12_no yX12_no ∈ lw_G := mem_p5 (q := (yX12_no, 32)) 8 rfl
theorem kw_73 : Cond.selects RX12 yX12_number yX12_number ∈ lw_G := mem_p5 (q := (yX12_number, 32)) 9 rfl
theorem kw_74 : Cond.selects RX12 yX12_readFrame yX12_readFrame ∈ lw_G := mem_p5 (q := (yX12_readFrame, 32)) 10 rfl
theorem kw_75 : Cond.selects RX12 yX12_readBlock yX12_readBlock ∈ lw_G := mem_p5 (q := (yX12_readBlock, 32)) 11 rfl
theorem kw_76 : Cond.selects RX12 yX12_readSequences yX12_readSequences ∈ lw_G := mem_p5 (q := (yX12_readSequences, 32)) 12 rfl
theorem kw_77 : Cond.selects RX12 yX12_readChunks yX12_readChunks ∈ lw_G := mem_p5 (q := (yX12_readChunks, 32)) 13 rfl
theorem kw_78 : Cond.selects RX12 yX12_readChunk yX12_readChunk ∈ lw_G := mem_p5 (q := (yX12_readChunk, 32)) 14 rfl
theorem kw_79 : Cond.selects RX12 yX12_readElements yX12_readElements ∈ lw_G := mem_p5 (q := (yX12_readElements, 32)) 15 rfl
theorem kw_80 : Cond.selects RX12 yX12_longestTo yX12_longestTo ∈ lw_G := mem_p6 (q := (yX12_longestTo, 32)) 0 rfl
theorem kw_82 : Cond.initialized RX11 ∈ lw_G := mem_t1 1 rfl rfl
theorem kw_83 : Cond.initialized RX2 ∈ lw_G := mem_t1 2 rfl rfl
theorem kw_84 : Cond.initialized RJ9 ∈ lw_G := mem_t1 3 rfl rfl
theorem kw_85 : Cond.initialized RX10 ∈ lw_G := mem_t1 4 rfl rfl
theorem kw_86 : Cond.initialized RX7 ∈ lw_G := mem_t1 5 rfl rfl
theorem kw_88 : Cond.initialized RX8 ∈ lw_G := mem_t1 7 rfl rfl
theorem kw_89 : Cond.initialized RX3 ∈ lw_G := mem_t1 8 rfl rfl
theorem kw_90 : Cond.initialized RX0 ∈ lw_G := mem_t1 9 rfl rfl
theorem kw_91 : Cond.initialized RX5 ∈ lw_G := mem_t1 10 rfl rfl
theorem kw_92 : Cond.initialized RX6 ∈ lw_G := mem_t1 11 rfl rfl
theorem kw_93 : Cond.initialized RX1 ∈ lw_G := mem_t1 12 rfl rfl
theorem kw_94 : Cond.initialized RX12 ∈ lw_G := mem_t1 13 rfl rfl
theorem kw_95 : Cond.initialized RJ10 ∈ lw_G := mem_t1 14 rfl rfl
theorem kw_96 : Cond.initialized RJ7 ∈ lw_G := mem_t1 15 rfl rfl
theorem kw_97 : Cond.initialized RX9 ∈ lw_G := mem_t1 16 rfl rfl
theorem kw_113 : Cond.static yJ9_max_7cf53 ∈ lw_G := mem_t1 32 rfl rfl
theorem kw_114 : Cond.code yJ9_max_7cf53 cJ9_max_7cf53 2 (some .int) ∈ lw_G := mem_t1 33 rfl rfl
theorem kw_115 : Cond.fieldLink RX2 13 "FastBlocks$Bytes" "held" "[B" ∈ lw_G := mem_t1 34 rfl rfl
theorem kw_116 : Cond.fieldLink RX2 19 "FastBlocks$Bytes" "count" "I" ∈ lw_G := mem_t1 35 rfl rfl
theorem kw_129 : Cond.fieldLink RX10 11 "FastBlocks$Text" "held" "[B" ∈ lw_G := mem_t1 48 rfl rfl
theorem kw_130 : Cond.fieldLink RX10 15 "FastBlocks$Text" "before" "[I" ∈ lw_G := mem_t1 49 rfl rfl
theorem kw_131 : Cond.fieldLink RX10 19 "FastBlocks$Text" "latest" "[I" ∈ lw_G := mem_t1 50 rfl rfl
theorem kw_132 : Cond.fieldLink RX10 35 "FastBlocks$Text" "count" "I" ∈ lw_G := mem_t1 51 rfl rfl
theorem kw_133 : Cond.fieldLink RX10 52 "FastBlocks$Text" "foundOffset" "I" ∈ lw_G := mem_t1 52 rfl rfl
theorem kw_134 : Cond.fieldLink RX10 39 "FastBlocks$Text" "downPlace" "I" ∈ lw_G := mem_t1 53 rfl rfl
theorem kw_135 : Cond.fieldLink RX10 55 "FastBlocks$Text" "downLimit" "I" ∈ lw_G := mem_t1 54 rfl rfl
theorem kw_136 : Cond.fieldLink RX10 58 "FastBlocks$Text" "downMost" "I" ∈ lw_G := mem_t1 55 rfl rfl
theorem kw_137 : Cond.fieldLink RX10 75 "FastBlocks$Text" "downOffset" "I" ∈ lw_G := mem_t1 56 rfl rfl
theorem kw_193 : Cond.fieldLink RX5 21 "FastBlocks$Lows" "lastOfEquals" "Z" ∈ lw_G := mem_t1 112 rfl rfl
theorem kw_194 : Cond.fieldLink RX5 9 "FastBlocks$Lows" "value" "[I" ∈ lw_G := mem_t1 113 rfl rfl
theorem kw_195 : Cond.fieldLink RX5 15 "FastBlocks$Lows" "leastOnward" "[I" ∈ lw_G := mem_t1 114 rfl rfl
theorem kw_196 : Cond.fieldLink RX5 18 "FastBlocks$Lows" "leastSoFar" "[I" ∈ lw_G := mem_t1 115 rfl rfl
theorem kw_197 : Cond.fieldLink RX5 31 "FastBlocks$Lows" "last" "I" ∈ lw_G := mem_t1 116 rfl rfl
theorem kw_209 : Cond.fieldLink RX0 14 "FastBlocks$BestRow" "copies" "LFastBlocks$Lows;" ∈ lw_G := mem_t1 128 rfl rfl
theorem kw_210 : Cond.fieldLink RX0 20 "FastBlocks$BestRow" "rests" "LFastBlocks$Lows;" ∈ lw_G := mem_t1 129 rfl rfl
theorem kw_211 : Cond.fieldLink RX0 23 "FastBlocks$BestRow" "placeOfCopy" "[I" ∈ lw_G := mem_t1 130 rfl rfl
theorem kw_212 : Cond.fieldLink RX0 27 "FastBlocks$BestRow" "lengthOfCopy" "[I" ∈ lw_G := mem_t1 131 rfl rfl
theorem kw_213 : Cond.fieldLink RX0 30 "FastBlocks$BestRow" "form" "LFastBlocks$Form;" ∈ lw_G := mem_t1 132 rfl rfl
theorem kw_214 : Cond.fieldLink RX0 43 "FastBlocks$BestRow" "count" "I" ∈ lw_G := mem_t1 133 rfl rfl
theorem kw_228 : Cond.fieldLink RX7 35 "FastBlocks$Packer" "input" "LFastBlocks$Bytes;" ∈ lw_G := mem_t1 147 rfl rfl
theorem kw_229 : Cond.fieldLink RX7 39 "FastBlocks$Packer" "words" "LFastBlocks$Bytes;" ∈ lw_G := mem_t1 148 rfl rfl
theorem kw_230 : Cond.fieldLink RX7 42 "FastBlocks$Packer" "settings" "[I" ∈ lw_G := mem_t1 149 rfl rfl
theorem kw_231 : Cond.fieldLink RX7 45 "FastBlocks$Packer" "text" "LFastBlocks$Text;" ∈ lw_G := mem_t1 150 rfl rfl
theorem kw_232 : Cond.fieldLink RX7 12 "FastBlocks$Packer" "sequences" "LFastBlocks$Form;" ∈ lw_G := mem_t1 151 rfl rfl
theorem kw_233 : Cond.fieldLink RX7 21 "FastBlocks$Packer" "elements" "LFastBlocks$Form;" ∈ lw_G := mem_t1 152 rfl rfl
theorem kw_234 : Cond.fieldLink RX7 27 "FastBlocks$Packer" "bestRow" "LFastBlocks$BestRow;" ∈ lw_G := mem_t1 153 rfl rfl
theorem kw_235 : Cond.fieldLink RX7 31 "FastBlocks$Packer" "copyAt" "[I" ∈ lw_G := mem_t1 154 rfl rfl
theorem kw_236 : Cond.fieldLink RX7 49 "FastBlocks$Packer" "to" "LFastBlocks$Bytes;" ∈ lw_G := mem_t1 155 rfl rfl
theorem kw_237 : Cond.fieldLink RX7 52 "FastBlocks$Packer" "blocks" "LFastBlocks$Blocks;" ∈ lw_G := mem_t1 156 rfl rfl
theorem kw_238 : Cond.fieldLink RX7 56 "FastBlocks$Packer" "level" "I" ∈ lw_G := mem_t1 157 rfl rfl
theorem kw_239 : Cond.fieldLink RX7 60 "FastBlocks$Packer" "shift" "I" ∈ lw_G := mem_t1 158 rfl rfl
theorem kw_240 : Cond.fieldLink RX7 168 "FastBlocks$Packer" "form" "LFastBlocks$Form;" ∈ lw_G := mem_t1 159 rfl rfl
theorem kw_241 : Cond.fieldLink RX7 171 "FastBlocks$Packer" "base" "I" ∈ lw_G := mem_t1 160 rfl rfl
theorem kw_242 : Cond.fieldLink RX7 174 "FastBlocks$Packer" "count" "I" ∈ lw_G := mem_t1 161 rfl rfl
theorem kw_243 : Cond.fieldLink RX7 88 "FastBlocks$Packer" "copies" "I" ∈ lw_G := mem_t1 162 rfl rfl
theorem kw_244 : Cond.fieldLink RX7 91 "FastBlocks$Packer" "literals" "I" ∈ lw_G := mem_t1 163 rfl rfl
theorem kw_245 : Cond.fieldLink RX7 94 "FastBlocks$Packer" "parts" "I" ∈ lw_G := mem_t1 164 rfl rfl
theorem kw_289 : Cond.fieldLink RX6 9 "FastBlocks$Opener" "input" "LFastBlocks$Bytes;" ∈ lw_G := mem_t1 208 rfl rfl
theorem kw_290 : Cond.fieldLink RX6 15 "FastBlocks$Opener" "words" "LFastBlocks$Bytes;" ∈ lw_G := mem_t1 209 rfl rfl
theorem kw_291 : Cond.fieldLink RX6 18 "FastBlocks$Opener" "settings" "[I" ∈ lw_G := mem_t1 210 rfl rfl
theorem kw_292 : Cond.fieldLink RX6 29 "FastBlocks$Opener" "to" "LFastBlocks$Bytes;" ∈ lw_G := mem_t1 211 rfl rfl
theorem kw_293 : Cond.fieldLink RX6 32 "FastBlocks$Opener" "blocks" "LFastBlocks$Blocks;" ∈ lw_G := mem_t1 212 rfl rfl
theorem kw_294 : Cond.fieldLink RX6 22 "FastBlocks$Opener" "broken" "I" ∈ lw_G := mem_t1 213 rfl rfl
theorem kw_295 : Cond.fieldLink RX6 26 "FastBlocks$Opener" "brokenAt" "I" ∈ lw_G := mem_t1 214 rfl rfl
theorem kw_296 : Cond.fieldLink RX6 47 "FastBlocks$Opener" "at" "I" ∈ lw_G := mem_t1 215 rfl rfl
theorem kw_297 : Cond.fieldLink RX6 54 "FastBlocks$Opener" "end" "I" ∈ lw_G := mem_t1 216 rfl rfl
theorem kw_298 : Cond.fieldLink RX6 68 "FastBlocks$Opener" "begin" "I" ∈ lw_G := mem_t1 217 rfl rfl
theorem kw_299 : Cond.fieldLink RX6 71 "FastBlocks$Opener" "copies" "I" ∈ lw_G := mem_t1 218 rfl rfl
theorem kw_300 : Cond.fieldLink RX6 74 "FastBlocks$Opener" "literals" "I" ∈ lw_G := mem_t1 219 rfl rfl
theorem kw_301 : Cond.fieldLink RX6 77 "FastBlocks$Opener" "parts" "I" ∈ lw_G := mem_t1 220 rfl rfl
theorem kw_302 : Cond.fieldLink RX6 150 "FastBlocks$Opener" "frameBegin" "I" ∈ lw_G := mem_t1 221 rfl rfl
theorem kw_303 : Cond.fieldLink RX6 162 "FastBlocks$Opener" "flags" "I" ∈ lw_G := mem_t1 222 rfl rfl
theorem kw_304 : Cond.fieldLink RX6 168 "FastBlocks$Opener" "width" "I" ∈ lw_G := mem_t1 223 rfl rfl
theorem kw_305 : Cond.fieldLink RX6 174 "FastBlocks$Opener" "size" "J" ∈ lw_G := mem_t1 224 rfl rfl
theorem kw_347 : Cond.fieldLink RX1 11 "FastBlocks$Blocks" "facts" "[I" ∈ lw_G := mem_t2 26 rfl rfl
theorem kw_348 : Cond.fieldLink RX1 15 "FastBlocks$Blocks" "count" "I" ∈ lw_G := mem_t2 27 rfl rfl
theorem kw_354 : Cond.fieldLink RX11 14 "FastBlocks" "input" "LFastBlocks$Bytes;" ∈ lw_G := mem_t2 33 rfl rfl
theorem kw_355 : Cond.fieldLink RX11 18 "FastBlocks" "words" "LFastBlocks$Bytes;" ∈ lw_G := mem_t2 34 rfl rfl
theorem kw_356 : Cond.fieldLink RX11 21 "FastBlocks" "settings" "[I" ∈ lw_G := mem_t2 35 rfl rfl
theorem kw_357 : Cond.fieldLink RX11 28 "FastBlocks" "text" "LFastBlocks$Text;" ∈ lw_G := mem_t2 36 rfl rfl
theorem kw_358 : Cond.fieldLink RX11 37 "FastBlocks" "packer" "LFastBlocks$Packer;" ∈ lw_G := mem_t2 37 rfl rfl
theorem kw_359 : Cond.fieldLink RX11 46 "FastBlocks" "opener" "LFastBlocks$Opener;" ∈ lw_G := mem_t2 38 rfl rfl
theorem kw_360 : Cond.fieldLink RX11 50 "FastBlocks" "output" "LFastBlocks$Bytes;" ∈ lw_G := mem_t2 39 rfl rfl
theorem kw_361 : Cond.fieldLink RX11 53 "FastBlocks" "spareOutput" "LFastBlocks$Bytes;" ∈ lw_G := mem_t2 40 rfl rfl
theorem kw_362 : Cond.fieldLink RX11 59 "FastBlocks" "blocks" "LFastBlocks$Blocks;" ∈ lw_G := mem_t2 41 rfl rfl
theorem kw_363 : Cond.fieldLink RX11 63 "FastBlocks" "spareBlocks" "LFastBlocks$Blocks;" ∈ lw_G := mem_t2 42 rfl rfl
theorem kw_389 : Cond.methodLink RX11 66 yX2_room ∈ lw_G := mem_t2 68 rfl rfl
theorem kw_390 : Cond.instanceMethod yX2_room ∈ lw_G := mem_t2 69 rfl rfl
theorem kw_391 : Cond.selects RX2 yX2_room yX2_room ∈ lw_G := mem_t2 70 rfl rfl
theorem kw_392 : Cond.code yX2_room cX2_room 1 (some .int) ∈ lw_G := mem_t2 71 rfl rfl
theorem kw_393 : Cond.methodLink RX11 70 yX2_addHighestFirst ∈ lw_G := mem_t2 72 rfl rfl
theorem kw_394 : Cond.instanceMethod yX2_addHighestFirst ∈ lw_G := mem_t2 73 rfl rfl
theorem kw_395 : Cond.selects RX2 yX2_addHighestFirst yX2_addHighestFirst ∈ lw_G := mem_t2 74 rfl rfl
theorem kw_396 : Cond.code yX2_addHighestFirst cX2_addHighestFirst 3 none ∈ lw_G := mem_t2 75 rfl rfl
theorem kw_397 : Cond.methodLink RX2 27 yX2_add ∈ lw_G := mem_t2 76 rfl rfl
theorem kw_398 : Cond.instanceMethod yX2_add ∈ lw_G := mem_t2 77 rfl rfl
theorem kw_399 : Cond.selects RX2 yX2_add yX2_add ∈ lw_G := mem_t2 78 rfl rfl
theorem kw_400 : Cond.code yX2_add cX2_add 2 none ∈ lw_G := mem_t2 79 rfl rfl
theorem kw_401 : Cond.methodLink RX11 73 yX2_size ∈ lw_G := mem_t2 80 rfl rfl
theorem kw_402 : Cond.instanceMethod yX2_size ∈ lw_G := mem_t2 81 rfl rfl
theorem kw_403 : Cond.selects RX2 yX2_size yX2_size ∈ lw_G := mem_t2 82 rfl rfl
theorem kw_404 : Cond.code yX2_size cX2_size 1 (some .int) ∈ lw_G := mem_t2 83 rfl rfl
theorem kw_409 : Cond.methodLink RX11 76 yX2_keep ∈ lw_G := mem_t2 88 rfl rfl
theorem kw_410 : Cond.instanceMethod yX2_keep ∈ lw_G := mem_t2 89 rfl rfl
theorem kw_411 : Cond.selects RX2 yX2_keep yX2_keep ∈ lw_G := mem_t2 90 rfl rfl
theorem kw_412 : Cond.code yX2_keep cX2_keep 2 none ∈ lw_G := mem_t2 91 rfl rfl
theorem kw_417 : Cond.methodLink RX11 79 yX2_at ∈ lw_G := mem_t2 96 rfl rfl
theorem kw_418 : Cond.instanceMethod yX2_at ∈ lw_G := mem_t2 97 rfl rfl
theorem kw_419 : Cond.selects RX2 yX2_at yX2_at ∈ lw_G := mem_t2 98 rfl rfl
theorem kw_420 : Cond.code yX2_at cX2_at 2 (some .int) ∈ lw_G := mem_t2 99 rfl rfl
theorem kw_425 : Cond.methodLink RX11 83 yX2_become ∈ lw_G := mem_t2 104 rfl rfl
theorem kw_426 : Cond.instanceMethod yX2_become ∈ lw_G := mem_t2 105 rfl rfl
theorem kw_427 : Cond.selects RX2 yX2_become yX2_become ∈ lw_G := mem_t2 106 rfl rfl
theorem kw_428 : Cond.code yX2_become cX2_become 2 none ∈ lw_G := mem_t2 107 rfl rfl
theorem kw_429 : Cond.methodLink RX2 37 yX2_keep ∈ lw_G := mem_t2 108 rfl rfl
theorem kw_430 : Cond.methodLink RX2 40 yX2_addRange ∈ lw_G := mem_t2 109 rfl rfl
theorem kw_431 : Cond.instanceMethod yX2_addRange ∈ lw_G := mem_t2 110 rfl rfl
theorem kw_432 : Cond.selects RX2 yX2_addRange yX2_addRange ∈ lw_G := mem_t2 111 rfl rfl
theorem kw_433 : Cond.code yX2_addRange cX2_addRange 4 none ∈ lw_G := mem_t2 112 rfl rfl
theorem kw_434 : Cond.methodLink RX2 31 ⟨"java/lang/System", "arraycopy", "(Ljava/lang/Object;ILjava/lang/Object;II)V"⟩ ∈ lw_G := mem_t2 113 rfl rfl
theorem kw_435 : Cond.static arraycopyName ∈ lw_G := mem_t2 114 rfl rfl
theorem kw_436 : Cond.native arraycopyName ∈ lw_G := mem_t2 115 rfl rfl
theorem kw_449 : Cond.methodLink RX11 87 yX11_isNoLevel ∈ lw_G := mem_t2 128 rfl rfl
theorem kw_450 : Cond.static yX11_isNoLevel ∈ lw_G := mem_t2 129 rfl rfl
theorem kw_451 : Cond.code yX11_isNoLevel cX11_isNoLevel 1 (some .boolean) ∈ lw_G := mem_t2 130 rfl rfl
theorem kw_452 : Cond.methodLink RX11 91 yX7_start ∈ lw_G := mem_t2 131 rfl rfl
theorem kw_453 : Cond.instanceMethod yX7_start ∈ lw_G := mem_t2 132 rfl rfl
theorem kw_454 : Cond.selects RX7 yX7_start yX7_start ∈ lw_G := mem_t2 133 rfl rfl
theorem kw_455 : Cond.code yX7_start cX7_start 5 none ∈ lw_G := mem_t2 134 rfl rfl
theorem kw_456 : Cond.methodLink RX7 63 yX2_keep ∈ lw_G := mem_t2 135 rfl rfl
theorem kw_457 : Cond.methodLink RX7 69 yX1_clear ∈ lw_G := mem_t2 136 rfl rfl
theorem kw_458 : Cond.instanceMethod yX1_clear ∈ lw_G := mem_t2 137 rfl rfl
theorem kw_459 : Cond.selects RX1 yX1_clear yX1_clear ∈ lw_G := mem_t2 138 rfl rfl
theorem kw_460 : Cond.code yX1_clear cX1_clear 1 none ∈ lw_G := mem_t2 139 rfl rfl
theorem kw_461 : Cond.methodLink RX11 95 yX7_packSequences ∈ lw_G := mem_t2 140 rfl rfl
theorem kw_462 : Cond.instanceMethod yX7_packSequences ∈ lw_G := mem_t2 141 rfl rfl
theorem kw_463 : Cond.selects RX7 yX7_packSequences yX7_packSequences ∈ lw_G := mem_t2 142 rfl rfl
theorem kw_464 : Cond.code yX7_packSequences cX7_packSequences 1 none ∈ lw_G := mem_t2 143 rfl rfl
theorem kw_465 : Cond.methodLink RX7 74 yX2_size ∈ lw_G := mem_t2 144 rfl rfl
theorem kw_466 : Cond.methodLink RX7 78 yX10_load ∈ lw_G := mem_t2 145 rfl rfl
theorem kw_467 : Cond.instanceMethod yX10_load ∈ lw_G := mem_t2 146 rfl rfl
theorem kw_468 : Cond.selects RX10 yX10_load yX10_load ∈ lw_G := mem_t2 147 rfl rfl
theorem kw_469 : Cond.code yX10_load cX10_load 5 none ∈ lw_G := mem_t2 148 rfl rfl
theorem kw_470 : Cond.methodLink RX10 22 yX10_clear ∈ lw_G := mem_t2 149 rfl rfl
theorem kw_472 : Cond.instanceMethod yX10_clear ∈ lw_G := mem_t2 151 rfl rfl
theorem kw_473 : Cond.code yX10_clear cX10_clear 1 none ∈ lw_G := mem_t2 152 rfl rfl
theorem kw_474 : Cond.methodLink RX10 42 yJ7_fill_53178 ∈ lw_G := mem_t2 153 rfl rfl
theorem kw_475 : Cond.static yJ7_fill_53178 ∈ lw_G := mem_t2 154 rfl rfl
theorem kw_476 : Cond.code yJ7_fill_53178 cJ7_fill_53178 4 none ∈ lw_G := mem_t2 155 rfl rfl
theorem kw_477 : Cond.methodLink RX10 25 yX2_size ∈ lw_G := mem_t2 156 rfl rfl
theorem kw_478 : Cond.methodLink RX10 31 yX10_append ∈ lw_G := mem_t2 157 rfl rfl
theorem kw_480 : Cond.instanceMethod yX10_append ∈ lw_G := mem_t2 159 rfl rfl
theorem kw_481 : Cond.code yX10_append cX10_append 6 none ∈ lw_G := mem_t2 160 rfl rfl
theorem kw_482 : Cond.methodLink RX10 48 yX2_at ∈ lw_G := mem_t2 161 rfl rfl
theorem kw_483 : Cond.methodLink RX7 84 yX7_packBlock ∈ lw_G := mem_t2 162 rfl rfl
theorem kw_485 : Cond.instanceMethod yX7_packBlock ∈ lw_G := mem_t2 164 rfl rfl
theorem kw_486 : Cond.code yX7_packBlock cX7_packBlock 4 none ∈ lw_G := mem_t2 165 rfl rfl
theorem kw_487 : Cond.methodLink RX7 121 yJ9_min_7cf53 ∈ lw_G := mem_t2 166 rfl rfl
theorem kw_488 : Cond.static yJ9_min_7cf53 ∈ lw_G := mem_t2 167 rfl rfl
theorem kw_489 : Cond.code yJ9_min_7cf53 cJ9_min_7cf53 2 (some .int) ∈ lw_G := mem_t2 168 rfl rfl
theorem kw_490 : Cond.methodLink RX7 105 yJ9_max_7cf53 ∈ lw_G := mem_t2 169 rfl rfl
theorem kw_491 : Cond.methodLink RX7 177 yJ7_fill_fda19 ∈ lw_G := mem_t2 170 rfl rfl
theorem kw_492 : Cond.static yJ7_fill_fda19 ∈ lw_G := mem_t2 171 rfl rfl
theorem kw_493 : Cond.code yJ7_fill_fda19 cJ7_fill_fda19 5 none ∈ lw_G := mem_t2 172 rfl rfl
theorem kw_494 : Cond.methodLink RJ7 13 yJ7_rangeCheck_23922 ∈ lw_G := mem_t2 173 rfl rfl
theorem kw_495 : Cond.static yJ7_rangeCheck_23922 ∈ lw_G := mem_t2 174 rfl rfl
theorem kw_496 : Cond.code yJ7_rangeCheck_23922 cJ7_rangeCheck_23922 3 none ∈ lw_G := mem_t2 175 rfl rfl
theorem kw_497 : Cond.methodLink RX7 183 yX0_find ∈ lw_G := mem_t2 176 rfl rfl
theorem kw_498 : Cond.instanceMethod yX0_find ∈ lw_G := mem_t2 177 rfl rfl
theorem kw_499 : Cond.selects RX0 yX0_find yX0_find ∈ lw_G := mem_t2 178 rfl rfl
theorem kw_500 : Cond.code yX0_find cX0_find 6 none ∈ lw_G := mem_t2 179 rfl rfl
theorem kw_501 : Cond.methodLink RX0 34 yJ9_min_7cf53 ∈ lw_G := mem_t2 180 rfl rfl
theorem kw_502 : Cond.methodLink RX0 40 yJ9_max_7cf53 ∈ lw_G := mem_t2 181 rfl rfl
theorem kw_503 : Cond.methodLink RX0 47 yX5_start ∈ lw_G := mem_t2 182 rfl rfl
theorem kw_504 : Cond.instanceMethod yX5_start ∈ lw_G := mem_t2 183 rfl rfl
theorem kw_505 : Cond.selects RX5 yX5_start yX5_start ∈ lw_G := mem_t2 184 rfl rfl
theorem kw_506 : Cond.code yX5_start cX5_start 2 none ∈ lw_G := mem_t2 185 rfl rfl
theorem kw_507 : Cond.methodLink RX5 25 yJ9_min_7cf53 ∈ lw_G := mem_t2 186 rfl rfl
theorem kw_508 : Cond.methodLink RX0 51 yX0_findCopy ∈ lw_G := mem_t2 187 rfl rfl
theorem kw_510 : Cond.instanceMethod yX0_findCopy ∈ lw_G := mem_t2 189 rfl rfl
theorem kw_511 : Cond.code yX0_findCopy cX0_findCopy 13 none ∈ lw_G := mem_t2 190 rfl rfl
theorem kw_512 : Cond.methodLink RX0 58 ⟨"FastBlocks$Form", "limitAt", "(II)I"⟩ ∈ lw_G := mem_t2 191 rfl rfl
theorem kw_514 : Cond.sameMethod "FastBlocks$Form" "FastBlocks$Form" "limitAt" "(II)I" ∈ lw_G := mem_t2 193 rfl rfl
theorem kw_515 : Cond.selects RX3 ⟨"FastBlocks$Form", "limitAt", "(II)I"⟩ yX3_limitAt ∈ lw_G := mem_t2 194 rfl rfl
theorem kw_516 : Cond.instanceMethod yX3_limitAt ∈ lw_G := mem_t2 195 rfl rfl
theorem kw_517 : Cond.code yX3_limitAt cX3_limitAt 3 (some .int) ∈ lw_G := mem_t2 196 rfl rfl
theorem kw_518 : Cond.selects RX8 ⟨"FastBlocks$Form", "limitAt", "(II)I"⟩ yX8_limitAt ∈ lw_G := mem_t2 197 rfl rfl
theorem kw_519 : Cond.instanceMethod yX8_limitAt ∈ lw_G := mem_t2 198 rfl rfl
theorem kw_520 : Cond.code yX8_limitAt cX8_limitAt 3 (some .int) ∈ lw_G := mem_t2 199 rfl rfl
theorem kw_521 : Cond.methodLink RX0 63 ⟨"FastBlocks$Form", "mostCopy", "()I"⟩ ∈ lw_G := mem_t2 200 rfl rfl
theorem kw_523 : Cond.sameMethod "FastBlocks$Form" "FastBlocks$Form" "mostCopy" "()I" ∈ lw_G := mem_t2 202 rfl rfl
theorem kw_524 : Cond.selects RX3 ⟨"FastBlocks$Form", "mostCopy", "()I"⟩ yX3_mostCopy ∈ lw_G := mem_t2 203 rfl rfl
theorem kw_525 : Cond.instanceMethod yX3_mostCopy ∈ lw_G := mem_t2 204 rfl rfl
theorem kw_526 : Cond.code yX3_mostCopy cX3_mostCopy 1 (some .int) ∈ lw_G := mem_t2 205 rfl rfl
theorem kw_527 : Cond.selects RX8 ⟨"FastBlocks$Form", "mostCopy", "()I"⟩ yX8_mostCopy ∈ lw_G := mem_t2 206 rfl rfl
theorem kw_528 : Cond.instanceMethod yX8_mostCopy ∈ lw_G := mem_t2 207 rfl rfl
theorem kw_529 : Cond.code yX8_mostCopy cX8_mostCopy 1 (some .int) ∈ lw_G := mem_t2 208 rfl rfl
theorem kw_530 : Cond.methodLink RX0 67 yX10_reachDownward ∈ lw_G := mem_t2 209 rfl rfl
theorem kw_531 : Cond.instanceMethod yX10_reachDownward ∈ lw_G := mem_t2 210 rfl rfl
theorem kw_532 : Cond.selects RX10 yX10_reachDownward yX10_reachDownward ∈ lw_G := mem_t2 211 rfl rfl
theorem kw_533 : Cond.code yX10_reachDownward cX10_reachDownward 6 (some .int) ∈ lw_G := mem_t2 212 rfl rfl
theorem kw_534 : Cond.methodLink RX10 61 yJ9_min_7cf53 ∈ lw_G := mem_t2 213 rfl rfl
theorem kw_535 : Cond.methodLink RX10 67 yX10_goesOn ∈ lw_G := mem_t2 214 rfl rfl
theorem kw_537 : Cond.instanceMethod yX10_goesOn ∈ lw_G := mem_t2 216 rfl rfl
theorem kw_538 : Cond.code yX10_goesOn cX10_goesOn 2 (some .boolean) ∈ lw_G := mem_t2 217 rfl rfl
theorem kw_539 : Cond.methodLink RX10 71 yX10_reach ∈ lw_G := mem_t2 218 rfl rfl
theorem kw_540 : Cond.instanceMethod yX10_reach ∈ lw_G := mem_t2 219 rfl rfl
theorem kw_541 : Cond.selects RX10 yX10_reach yX10_reach ∈ lw_G := mem_t2 220 rfl rfl
theorem kw_542 : Cond.code yX10_reach cX10_reach 8 (some .int) ∈ lw_G := mem_t2 221 rfl rfl
theorem kw_543 : Cond.methodLink RX0 72 ⟨"FastBlocks$Form", "mostClose", "()I"⟩ ∈ lw_G := mem_t2 222 rfl rfl
theorem kw_545 : Cond.sameMethod "FastBlocks$Form" "FastBlocks$Form" "mostClose" "()I" ∈ lw_G := mem_t2 224 rfl rfl
theorem kw_546 : Cond.selects RX3 ⟨"FastBlocks$Form", "mostClose", "()I"⟩ yX3_mostClose ∈ lw_G := mem_t2 225 rfl rfl
theorem kw_547 : Cond.instanceMethod yX3_mostClose ∈ lw_G := mem_t2 226 rfl rfl
theorem kw_548 : Cond.code yX3_mostClose cX3_mostClose 1 (some .int) ∈ lw_G := mem_t2 227 rfl rfl
theorem kw_549 : Cond.selects RX8 ⟨"FastBlocks$Form", "mostClose", "()I"⟩ yX8_mostClose ∈ lw_G := mem_t2 228 rfl rfl
theorem kw_550 : Cond.instanceMethod yX8_mostClose ∈ lw_G := mem_t2 229 rfl rfl
theorem kw_551 : Cond.code yX8_mostClose cX8_mostClose 1 (some .int) ∈ lw_G := mem_t2 230 rfl rfl
theorem kw_552 : Cond.methodLink RX0 75 ⟨"FastBlocks$Form", "closeSpan", "()I"⟩ ∈ lw_G := mem_t2 231 rfl rfl
theorem kw_554 : Cond.sameMethod "FastBlocks$Form" "FastBlocks$Form" "closeSpan" "()I" ∈ lw_G := mem_t2 233 rfl rfl
theorem kw_555 : Cond.selects RX3 ⟨"FastBlocks$Form", "closeSpan", "()I"⟩ yX3_closeSpan ∈ lw_G := mem_t2 234 rfl rfl
theorem kw_556 : Cond.instanceMethod yX3_closeSpan ∈ lw_G := mem_t2 235 rfl rfl
theorem kw_557 : Cond.code yX3_closeSpan cX3_closeSpan 1 (some .int) ∈ lw_G := mem_t2 236 rfl rfl
theorem kw_558 : Cond.selects RX8 ⟨"FastBlocks$Form", "closeSpan", "()I"⟩ yX8_closeSpan ∈ lw_G := mem_t2 237 rfl rfl
theorem kw_559 : Cond.instanceMethod yX8_closeSpan ∈ lw_G := mem_t2 238 rfl rfl
theorem kw_560 : Cond.code yX8_closeSpan cX8_closeSpan 1 (some .int) ∈ lw_G := mem_t2 239 rfl rfl
theorem kw_561 : Cond.methodLink RX0 78 yX10_reach ∈ lw_G := mem_t3 0 rfl rfl
theorem kw_562 : Cond.constant RX0 82 (268435456) ∈ lw_G := mem_t3 1 rfl rfl
theorem kw_563 : Cond.methodLink RX0 83 ⟨"FastBlocks$Form", "leastCopy", "()I"⟩ ∈ lw_G := mem_t3 2 rfl rfl
theorem kw_565 : Cond.sameMethod "FastBlocks$Form" "FastBlocks$Form" "leastCopy" "()I" ∈ lw_G := mem_t3 4 rfl rfl
theorem kw_566 : Cond.selects RX3 ⟨"FastBlocks$Form", "leastCopy", "()I"⟩ yX3_leastCopy ∈ lw_G := mem_t3 5 rfl rfl
theorem kw_567 : Cond.instanceMethod yX3_leastCopy ∈ lw_G := mem_t3 6 rfl rfl
theorem kw_568 : Cond.code yX3_leastCopy cX3_leastCopy 1 (some .int) ∈ lw_G := mem_t3 7 rfl rfl
theorem kw_569 : Cond.selects RX8 ⟨"FastBlocks$Form", "leastCopy", "()I"⟩ yX8_leastCopy ∈ lw_G := mem_t3 8 rfl rfl
theorem kw_570 : Cond.instanceMethod yX8_leastCopy ∈ lw_G := mem_t3 9 rfl rfl
theorem kw_571 : Cond.code yX8_leastCopy cX8_leastCopy 1 (some .int) ∈ lw_G := mem_t3 10 rfl rfl
theorem kw_572 : Cond.methodLink RX0 86 ⟨"FastBlocks$Form", "sameCostTo", "(II)I"⟩ ∈ lw_G := mem_t3 11 rfl rfl
theorem kw_574 : Cond.sameMethod "FastBlocks$Form" "FastBlocks$Form" "sameCostTo" "(II)I" ∈ lw_G := mem_t3 13 rfl rfl
theorem kw_575 : Cond.selects RX3 ⟨"FastBlocks$Form", "sameCostTo", "(II)I"⟩ yX3_sameCostTo ∈ lw_G := mem_t3 14 rfl rfl
theorem kw_576 : Cond.instanceMethod yX3_sameCostTo ∈ lw_G := mem_t3 15 rfl rfl
theorem kw_577 : Cond.code yX3_sameCostTo cX3_sameCostTo 3 (some .int) ∈ lw_G := mem_t3 16 rfl rfl
theorem kw_578 : Cond.selects RX8 ⟨"FastBlocks$Form", "sameCostTo", "(II)I"⟩ yX8_sameCostTo ∈ lw_G := mem_t3 17 rfl rfl
theorem kw_579 : Cond.instanceMethod yX8_sameCostTo ∈ lw_G := mem_t3 18 rfl rfl
theorem kw_580 : Cond.code yX8_sameCostTo cX8_sameCostTo 3 (some .int) ∈ lw_G := mem_t3 19 rfl rfl
theorem kw_581 : Cond.methodLink RX8 15 yX8_sameHeadTo ∈ lw_G := mem_t3 20 rfl rfl
theorem kw_582 : Cond.instanceMethod yX8_sameHeadTo ∈ lw_G := mem_t3 21 rfl rfl
theorem kw_583 : Cond.selects RX8 yX8_sameHeadTo yX8_sameHeadTo ∈ lw_G := mem_t3 22 rfl rfl
theorem kw_584 : Cond.code yX8_sameHeadTo cX8_sameHeadTo 2 (some .int) ∈ lw_G := mem_t3 23 rfl rfl
theorem kw_585 : Cond.methodLink RX0 89 yX5_placeOfLeast ∈ lw_G := mem_t3 24 rfl rfl
theorem kw_586 : Cond.instanceMethod yX5_placeOfLeast ∈ lw_G := mem_t3 25 rfl rfl
theorem kw_587 : Cond.selects RX5 yX5_placeOfLeast yX5_placeOfLeast ∈ lw_G := mem_t3 26 rfl rfl
theorem kw_588 : Cond.code yX5_placeOfLeast cX5_placeOfLeast 5 (some .int) ∈ lw_G := mem_t3 27 rfl rfl
theorem kw_589 : Cond.methodLink RX5 35 yX5_better ∈ lw_G := mem_t3 28 rfl rfl
theorem kw_591 : Cond.instanceMethod yX5_better ∈ lw_G := mem_t3 30 rfl rfl
theorem kw_592 : Cond.code yX5_better cX5_better 3 (some .int) ∈ lw_G := mem_t3 31 rfl rfl
theorem kw_593 : Cond.methodLink RX0 92 ⟨"FastBlocks$Form", "copyCost", "(II)I"⟩ ∈ lw_G := mem_t3 32 rfl rfl
theorem kw_595 : Cond.sameMethod "FastBlocks$Form" "FastBlocks$Form" "copyCost" "(II)I" ∈ lw_G := mem_t3 34 rfl rfl
theorem kw_596 : Cond.selects RX3 ⟨"FastBlocks$Form", "copyCost", "(II)I"⟩ yX3_copyCost ∈ lw_G := mem_t3 35 rfl rfl
theorem kw_597 : Cond.instanceMethod yX3_copyCost ∈ lw_G := mem_t3 36 rfl rfl
theorem kw_598 : Cond.code yX3_copyCost cX3_copyCost 3 (some .int) ∈ lw_G := mem_t3 37 rfl rfl
theorem kw_599 : Cond.selects RX8 ⟨"FastBlocks$Form", "copyCost", "(II)I"⟩ yX8_copyCost ∈ lw_G := mem_t3 38 rfl rfl
theorem kw_600 : Cond.instanceMethod yX8_copyCost ∈ lw_G := mem_t3 39 rfl rfl
theorem kw_601 : Cond.code yX8_copyCost cX8_copyCost 3 (some .int) ∈ lw_G := mem_t3 40 rfl rfl
theorem kw_602 : Cond.methodLink RX8 9 yX8_addedBytes ∈ lw_G := mem_t3 41 rfl rfl
theorem kw_603 : Cond.static yX8_addedBytes ∈ lw_G := mem_t3 42 rfl rfl
theorem kw_604 : Cond.code yX8_addedBytes cX8_addedBytes 1 (some .int) ∈ lw_G := mem_t3 43 rfl rfl
theorem kw_605 : Cond.methodLink RX0 95 yX5_valueAt ∈ lw_G := mem_t3 44 rfl rfl
theorem kw_606 : Cond.instanceMethod yX5_valueAt ∈ lw_G := mem_t3 45 rfl rfl
theorem kw_607 : Cond.selects RX5 yX5_valueAt yX5_valueAt ∈ lw_G := mem_t3 46 rfl rfl
theorem kw_608 : Cond.code yX5_valueAt cX5_valueAt 2 (some .int) ∈ lw_G := mem_t3 47 rfl rfl
theorem kw_609 : Cond.methodLink RX0 99 yX5_put ∈ lw_G := mem_t3 48 rfl rfl
theorem kw_610 : Cond.instanceMethod yX5_put ∈ lw_G := mem_t3 49 rfl rfl
theorem kw_611 : Cond.selects RX5 yX5_put yX5_put ∈ lw_G := mem_t3 50 rfl rfl
theorem kw_612 : Cond.code yX5_put cX5_put 5 none ∈ lw_G := mem_t3 51 rfl rfl
theorem kw_613 : Cond.methodLink RX0 55 yX0_findRest ∈ lw_G := mem_t3 52 rfl rfl
theorem kw_615 : Cond.instanceMethod yX0_findRest ∈ lw_G := mem_t3 54 rfl rfl
theorem kw_616 : Cond.code yX0_findRest cX0_findRest 9 none ∈ lw_G := mem_t3 55 rfl rfl
theorem kw_617 : Cond.methodLink RX0 103 ⟨"FastBlocks$Form", "sameHeadTo", "(I)I"⟩ ∈ lw_G := mem_t3 56 rfl rfl
theorem kw_619 : Cond.sameMethod "FastBlocks$Form" "FastBlocks$Form" "sameHeadTo" "(I)I" ∈ lw_G := mem_t3 58 rfl rfl
theorem kw_620 : Cond.selects RX3 ⟨"FastBlocks$Form", "sameHeadTo", "(I)I"⟩ yX3_sameHeadTo ∈ lw_G := mem_t3 59 rfl rfl
theorem kw_621 : Cond.instanceMethod yX3_sameHeadTo ∈ lw_G := mem_t3 60 rfl rfl
theorem kw_622 : Cond.code yX3_sameHeadTo cX3_sameHeadTo 2 (some .int) ∈ lw_G := mem_t3 61 rfl rfl
theorem kw_623 : Cond.constant RX3 11 (65536) ∈ lw_G := mem_t3 62 rfl rfl
theorem kw_624 : Cond.selects RX8 ⟨"FastBlocks$Form", "sameHeadTo", "(I)I"⟩ yX8_sameHeadTo ∈ lw_G := mem_t3 63 rfl rfl
theorem kw_625 : Cond.methodLink RX0 106 ⟨"FastBlocks$Form", "headOf", "(I)I"⟩ ∈ lw_G := mem_t3 64 rfl rfl
theorem kw_627 : Cond.sameMethod "FastBlocks$Form" "FastBlocks$Form" "headOf" "(I)I" ∈ lw_G := mem_t3 66 rfl rfl
theorem kw_628 : Cond.selects RX3 ⟨"FastBlocks$Form", "headOf", "(I)I"⟩ yX3_headOf ∈ lw_G := mem_t3 67 rfl rfl
theorem kw_629 : Cond.instanceMethod yX3_headOf ∈ lw_G := mem_t3 68 rfl rfl
theorem kw_630 : Cond.code yX3_headOf cX3_headOf 2 (some .int) ∈ lw_G := mem_t3 69 rfl rfl
theorem kw_631 : Cond.selects RX8 ⟨"FastBlocks$Form", "headOf", "(I)I"⟩ yX8_headOf ∈ lw_G := mem_t3 70 rfl rfl
theorem kw_632 : Cond.instanceMethod yX8_headOf ∈ lw_G := mem_t3 71 rfl rfl
theorem kw_633 : Cond.code yX8_headOf cX8_headOf 2 (some .int) ∈ lw_G := mem_t3 72 rfl rfl
theorem kw_634 : Cond.methodLink RX7 187 yX7_chooseBestRow ∈ lw_G := mem_t3 73 rfl rfl
theorem kw_636 : Cond.instanceMethod yX7_chooseBestRow ∈ lw_G := mem_t3 75 rfl rfl
theorem kw_637 : Cond.code yX7_chooseBestRow cX7_chooseBestRow 3 none ∈ lw_G := mem_t3 76 rfl rfl
theorem kw_638 : Cond.methodLink RX7 202 yX0_placeFrom ∈ lw_G := mem_t3 77 rfl rfl
theorem kw_639 : Cond.instanceMethod yX0_placeFrom ∈ lw_G := mem_t3 78 rfl rfl
theorem kw_640 : Cond.selects RX0 yX0_placeFrom yX0_placeFrom ∈ lw_G := mem_t3 79 rfl rfl
theorem kw_641 : Cond.code yX0_placeFrom cX0_placeFrom 2 (some .int) ∈ lw_G := mem_t3 80 rfl rfl
theorem kw_642 : Cond.methodLink RX7 206 yX0_lengthAt ∈ lw_G := mem_t3 81 rfl rfl
theorem kw_643 : Cond.instanceMethod yX0_lengthAt ∈ lw_G := mem_t3 82 rfl rfl
theorem kw_644 : Cond.selects RX0 yX0_lengthAt yX0_lengthAt ∈ lw_G := mem_t3 83 rfl rfl
theorem kw_645 : Cond.code yX0_lengthAt cX0_lengthAt 2 (some .int) ∈ lw_G := mem_t3 84 rfl rfl
theorem kw_646 : Cond.methodLink RX7 190 yX7_chooseLongest ∈ lw_G := mem_t3 85 rfl rfl
theorem kw_648 : Cond.instanceMethod yX7_chooseLongest ∈ lw_G := mem_t3 87 rfl rfl
theorem kw_649 : Cond.code yX7_chooseLongest cX7_chooseLongest 5 none ∈ lw_G := mem_t3 88 rfl rfl
theorem kw_650 : Cond.methodLink RX7 209 yX7_matchAt ∈ lw_G := mem_t3 89 rfl rfl
theorem kw_652 : Cond.instanceMethod yX7_matchAt ∈ lw_G := mem_t3 91 rfl rfl
theorem kw_653 : Cond.code yX7_matchAt cX7_matchAt 3 (some .int) ∈ lw_G := mem_t3 92 rfl rfl
theorem kw_654 : Cond.methodLink RX7 215 ⟨"FastBlocks$Form", "limitAt", "(II)I"⟩ ∈ lw_G := mem_t3 93 rfl rfl
theorem kw_655 : Cond.methodLink RX7 218 yX10_reach ∈ lw_G := mem_t3 94 rfl rfl
theorem kw_656 : Cond.methodLink RX7 212 yX7_choosePieces ∈ lw_G := mem_t3 95 rfl rfl
theorem kw_658 : Cond.instanceMethod yX7_choosePieces ∈ lw_G := mem_t3 97 rfl rfl
theorem kw_659 : Cond.code yX7_choosePieces cX7_choosePieces 6 none ∈ lw_G := mem_t3 98 rfl rfl
theorem kw_660 : Cond.methodLink RX7 222 ⟨"FastBlocks$Form", "pieceOf", "(I)I"⟩ ∈ lw_G := mem_t3 99 rfl rfl
theorem kw_662 : Cond.sameMethod "FastBlocks$Form" "FastBlocks$Form" "pieceOf" "(I)I" ∈ lw_G := mem_t3 101 rfl rfl
theorem kw_663 : Cond.selects RX3 ⟨"FastBlocks$Form", "pieceOf", "(I)I"⟩ yX3_pieceOf ∈ lw_G := mem_t3 102 rfl rfl
theorem kw_664 : Cond.instanceMethod yX3_pieceOf ∈ lw_G := mem_t3 103 rfl rfl
theorem kw_665 : Cond.code yX3_pieceOf cX3_pieceOf 2 (some .int) ∈ lw_G := mem_t3 104 rfl rfl
theorem kw_666 : Cond.selects RX8 ⟨"FastBlocks$Form", "pieceOf", "(I)I"⟩ yX8_pieceOf ∈ lw_G := mem_t3 105 rfl rfl
theorem kw_667 : Cond.instanceMethod yX8_pieceOf ∈ lw_G := mem_t3 106 rfl rfl
theorem kw_668 : Cond.code yX8_pieceOf cX8_pieceOf 2 (some .int) ∈ lw_G := mem_t3 107 rfl rfl
theorem kw_669 : Cond.methodLink RX7 193 ⟨"FastBlocks$Form", "writeHead", "(LFastBlocks$Bytes;I)V"⟩ ∈ lw_G := mem_t3 108 rfl rfl
theorem kw_671 : Cond.sameMethod "FastBlocks$Form" "FastBlocks$Form" "writeHead" "(LFastBlocks$Bytes;I)V" ∈ lw_G := mem_t3 110 rfl rfl
theorem kw_672 : Cond.selects RX3 ⟨"FastBlocks$Form", "writeHead", "(LFastBlocks$Bytes;I)V"⟩ yX3_writeHead ∈ lw_G := mem_t3 111 rfl rfl
theorem kw_673 : Cond.instanceMethod yX3_writeHead ∈ lw_G := mem_t3 112 rfl rfl
theorem kw_674 : Cond.code yX3_writeHead cX3_writeHead 4 none ∈ lw_G := mem_t3 113 rfl rfl
theorem kw_675 : Cond.methodLink RX3 12 yX2_add ∈ lw_G := mem_t3 114 rfl rfl
theorem kw_676 : Cond.selects RX8 ⟨"FastBlocks$Form", "writeHead", "(LFastBlocks$Bytes;I)V"⟩ yX8_writeHead ∈ lw_G := mem_t3 115 rfl rfl
theorem kw_677 : Cond.instanceMethod yX8_writeHead ∈ lw_G := mem_t3 116 rfl rfl
theorem kw_678 : Cond.code yX8_writeHead cX8_writeHead 3 none ∈ lw_G := mem_t3 117 rfl rfl
theorem kw_679 : Cond.methodLink RX7 199 yX7_writeRow ∈ lw_G := mem_t3 118 rfl rfl
theorem kw_681 : Cond.instanceMethod yX7_writeRow ∈ lw_G := mem_t3 120 rfl rfl
theorem kw_682 : Cond.code yX7_writeRow cX7_writeRow 5 none ∈ lw_G := mem_t3 121 rfl rfl
theorem kw_683 : Cond.methodLink RX7 225 yX10_offsetOf ∈ lw_G := mem_t3 122 rfl rfl
theorem kw_684 : Cond.instanceMethod yX10_offsetOf ∈ lw_G := mem_t3 123 rfl rfl
theorem kw_685 : Cond.selects RX10 yX10_offsetOf yX10_offsetOf ∈ lw_G := mem_t3 124 rfl rfl
theorem kw_686 : Cond.code yX10_offsetOf cX10_offsetOf 5 (some .int) ∈ lw_G := mem_t3 125 rfl rfl
theorem kw_687 : Cond.methodLink RX10 78 yX10_alike ∈ lw_G := mem_t3 126 rfl rfl
theorem kw_689 : Cond.instanceMethod yX10_alike ∈ lw_G := mem_t3 128 rfl rfl
theorem kw_690 : Cond.code yX10_alike cX10_alike 5 (some .int) ∈ lw_G := mem_t3 129 rfl rfl
theorem kw_691 : Cond.methodLink RX7 228 ⟨"FastBlocks$Form", "write", "(LFastBlocks$Text;LFastBlocks$Bytes;IIII)I"⟩ ∈ lw_G := mem_t3 130 rfl rfl
theorem kw_693 : Cond.sameMethod "FastBlocks$Form" "FastBlocks$Form" "write" "(LFastBlocks$Text;LFastBlocks$Bytes;IIII)I" ∈ lw_G := mem_t3 132 rfl rfl
theorem kw_694 : Cond.selects RX3 ⟨"FastBlocks$Form", "write", "(LFastBlocks$Text;LFastBlocks$Bytes;IIII)I"⟩ yX3_write ∈ lw_G := mem_t3 133 rfl rfl
theorem kw_695 : Cond.instanceMethod yX3_write ∈ lw_G := mem_t3 134 rfl rfl
theorem kw_696 : Cond.code yX3_write cX3_write 9 (some .int) ∈ lw_G := mem_t3 135 rfl rfl
theorem kw_697 : Cond.methodLink RX3 18 yX3_headOf ∈ lw_G := mem_t3 136 rfl rfl
theorem kw_698 : Cond.methodLink RX3 22 yX2_addNumber ∈ lw_G := mem_t3 137 rfl rfl
theorem kw_699 : Cond.instanceMethod yX2_addNumber ∈ lw_G := mem_t3 138 rfl rfl
theorem kw_700 : Cond.selects RX2 yX2_addNumber yX2_addNumber ∈ lw_G := mem_t3 139 rfl rfl
theorem kw_701 : Cond.code yX2_addNumber cX2_addNumber 5 none ∈ lw_G := mem_t3 140 rfl rfl
theorem kw_702 : Cond.methodLink RX3 26 yX10_copyTo ∈ lw_G := mem_t3 141 rfl rfl
theorem kw_703 : Cond.instanceMethod yX10_copyTo ∈ lw_G := mem_t3 142 rfl rfl
theorem kw_704 : Cond.selects RX10 yX10_copyTo yX10_copyTo ∈ lw_G := mem_t3 143 rfl rfl
theorem kw_705 : Cond.code yX10_copyTo cX10_copyTo 4 none ∈ lw_G := mem_t3 144 rfl rfl
theorem kw_706 : Cond.methodLink RX10 81 yX2_addArray ∈ lw_G := mem_t3 145 rfl rfl
theorem kw_707 : Cond.instanceMethod yX2_addArray ∈ lw_G := mem_t3 146 rfl rfl
theorem kw_708 : Cond.selects RX2 yX2_addArray yX2_addArray ∈ lw_G := mem_t3 147 rfl rfl
theorem kw_709 : Cond.code yX2_addArray cX2_addArray 4 none ∈ lw_G := mem_t3 148 rfl rfl
theorem kw_710 : Cond.methodLink RX3 32 yX3_writeCopy ∈ lw_G := mem_t3 149 rfl rfl
theorem kw_711 : Cond.static yX3_writeCopy ∈ lw_G := mem_t3 150 rfl rfl
theorem kw_712 : Cond.code yX3_writeCopy cX3_writeCopy 3 none ∈ lw_G := mem_t3 151 rfl rfl
theorem kw_713 : Cond.selects RX8 ⟨"FastBlocks$Form", "write", "(LFastBlocks$Text;LFastBlocks$Bytes;IIII)I"⟩ yX8_write ∈ lw_G := mem_t3 152 rfl rfl
theorem kw_714 : Cond.instanceMethod yX8_write ∈ lw_G := mem_t3 153 rfl rfl
theorem kw_715 : Cond.code yX8_write cX8_write 8 (some .int) ∈ lw_G := mem_t3 154 rfl rfl
theorem kw_716 : Cond.methodLink RX8 18 yJ9_max_7cf53 ∈ lw_G := mem_t3 155 rfl rfl
theorem kw_717 : Cond.methodLink RX8 24 yJ9_min_7cf53 ∈ lw_G := mem_t3 156 rfl rfl
theorem kw_718 : Cond.methodLink RX8 27 yX2_add ∈ lw_G := mem_t3 157 rfl rfl
theorem kw_719 : Cond.methodLink RX8 33 yX8_writeAdded ∈ lw_G := mem_t3 158 rfl rfl
theorem kw_720 : Cond.static yX8_writeAdded ∈ lw_G := mem_t3 159 rfl rfl
theorem kw_721 : Cond.code yX8_writeAdded cX8_writeAdded 3 none ∈ lw_G := mem_t3 160 rfl rfl
theorem kw_722 : Cond.methodLink RX8 37 yX10_copyTo ∈ lw_G := mem_t3 161 rfl rfl
theorem kw_723 : Cond.methodLink RX8 43 yX2_addNumber ∈ lw_G := mem_t3 162 rfl rfl
theorem kw_724 : Cond.methodLink RX7 97 yX1_addPacked ∈ lw_G := mem_t3 163 rfl rfl
theorem kw_725 : Cond.instanceMethod yX1_addPacked ∈ lw_G := mem_t3 164 rfl rfl
theorem kw_726 : Cond.selects RX1 yX1_addPacked yX1_addPacked ∈ lw_G := mem_t3 165 rfl rfl
theorem kw_727 : Cond.code yX1_addPacked cX1_addPacked 7 none ∈ lw_G := mem_t3 166 rfl rfl
theorem kw_728 : Cond.methodLink RX1 19 yX1_addRow ∈ lw_G := mem_t3 167 rfl rfl
theorem kw_730 : Cond.instanceMethod yX1_addRow ∈ lw_G := mem_t3 169 rfl rfl
theorem kw_731 : Cond.code yX1_addRow cX1_addRow 9 none ∈ lw_G := mem_t3 170 rfl rfl
theorem kw_732 : Cond.methodLink RX11 98 yX7_packFrame ∈ lw_G := mem_t3 171 rfl rfl
theorem kw_733 : Cond.instanceMethod yX7_packFrame ∈ lw_G := mem_t3 172 rfl rfl
theorem kw_734 : Cond.selects RX7 yX7_packFrame yX7_packFrame ∈ lw_G := mem_t3 173 rfl rfl
theorem kw_735 : Cond.code yX7_packFrame cX7_packFrame 3 none ∈ lw_G := mem_t3 174 rfl rfl
theorem kw_736 : Cond.methodLink RX7 111 yX7_writeFrameHead ∈ lw_G := mem_t3 175 rfl rfl
theorem kw_738 : Cond.instanceMethod yX7_writeFrameHead ∈ lw_G := mem_t3 177 rfl rfl
theorem kw_739 : Cond.code yX7_writeFrameHead cX7_writeFrameHead 2 none ∈ lw_G := mem_t3 178 rfl rfl
theorem kw_740 : Cond.constantLong RX7 138 (407708164) ∈ lw_G := mem_t3 179 rfl rfl
theorem kw_741 : Cond.methodLink RX7 128 yX2_addNumber ∈ lw_G := mem_t3 180 rfl rfl
theorem kw_742 : Cond.methodLink RX7 114 yX7_isSet ∈ lw_G := mem_t3 181 rfl rfl
theorem kw_744 : Cond.instanceMethod yX7_isSet ∈ lw_G := mem_t3 183 rfl rfl
theorem kw_745 : Cond.code yX7_isSet cX7_isSet 2 (some .boolean) ∈ lw_G := mem_t3 184 rfl rfl
theorem kw_746 : Cond.methodLink RX7 140 yX2_add ∈ lw_G := mem_t3 185 rfl rfl
theorem kw_747 : Cond.methodLink RX7 132 yX9_sumOf ∈ lw_G := mem_t3 186 rfl rfl
theorem kw_748 : Cond.static yX9_sumOf ∈ lw_G := mem_t3 187 rfl rfl
theorem kw_749 : Cond.code yX9_sumOf cX9_sumOf 7 (some .int) ∈ lw_G := mem_t3 188 rfl rfl
theorem kw_750 : Cond.methodLink RX9 7 yX9_sixteens ∈ lw_G := mem_t3 189 rfl rfl
theorem kw_751 : Cond.static yX9_sixteens ∈ lw_G := mem_t3 190 rfl rfl
theorem kw_752 : Cond.code yX9_sixteens cX9_sixteens 8 (some .int) ∈ lw_G := mem_t3 191 rfl rfl
theorem kw_753 : Cond.constant RX9 31 (606290984) ∈ lw_G := mem_t3 192 rfl rfl
theorem kw_754 : Cond.constant RX9 30 (-2048144777) ∈ lw_G := mem_t3 193 rfl rfl
theorem kw_755 : Cond.constant RX9 32 (1640531535) ∈ lw_G := mem_t3 194 rfl rfl
theorem kw_756 : Cond.methodLink RX9 14 yX2_number32 ∈ lw_G := mem_t3 195 rfl rfl
theorem kw_757 : Cond.instanceMethod yX2_number32 ∈ lw_G := mem_t3 196 rfl rfl
theorem kw_758 : Cond.selects RX2 yX2_number32 yX2_number32 ∈ lw_G := mem_t3 197 rfl rfl
theorem kw_759 : Cond.code yX2_number32 cX2_number32 2 (some .int) ∈ lw_G := mem_t3 198 rfl rfl
theorem kw_760 : Cond.methodLink RX9 33 yX9_mixed ∈ lw_G := mem_t3 199 rfl rfl
theorem kw_761 : Cond.static yX9_mixed ∈ lw_G := mem_t3 200 rfl rfl
theorem kw_762 : Cond.code yX9_mixed cX9_mixed 3 (some .int) ∈ lw_G := mem_t3 201 rfl rfl
theorem kw_763 : Cond.constant RX9 29 (-1640531535) ∈ lw_G := mem_t3 202 rfl rfl
theorem kw_764 : Cond.methodLink RX9 21 yX9_turned ∈ lw_G := mem_t3 203 rfl rfl
theorem kw_765 : Cond.static yX9_turned ∈ lw_G := mem_t3 204 rfl rfl
theorem kw_766 : Cond.code yX9_turned cX9_turned 2 (some .int) ∈ lw_G := mem_t3 205 rfl rfl
theorem kw_767 : Cond.constant RX9 13 (374761393) ∈ lw_G := mem_t3 206 rfl rfl
theorem kw_768 : Cond.constant RX9 20 (-1028477379) ∈ lw_G := mem_t3 207 rfl rfl
theorem kw_769 : Cond.constant RX9 25 (668265263) ∈ lw_G := mem_t3 208 rfl rfl
theorem kw_770 : Cond.methodLink RX9 26 yX2_at ∈ lw_G := mem_t3 209 rfl rfl
theorem kw_771 : Cond.methodLink RX7 118 yX7_blockBytes ∈ lw_G := mem_t3 210 rfl rfl
theorem kw_773 : Cond.instanceMethod yX7_blockBytes ∈ lw_G := mem_t3 212 rfl rfl
theorem kw_774 : Cond.code yX7_blockBytes cX7_blockBytes 1 (some .int) ∈ lw_G := mem_t3 213 rfl rfl
theorem kw_775 : Cond.methodLink RX7 124 yX7_packFrameBlock ∈ lw_G := mem_t3 214 rfl rfl
theorem kw_777 : Cond.instanceMethod yX7_packFrameBlock ∈ lw_G := mem_t3 216 rfl rfl
theorem kw_778 : Cond.code yX7_packFrameBlock cX7_packFrameBlock 7 none ∈ lw_G := mem_t3 217 rfl rfl
theorem kw_779 : Cond.methodLink RX7 143 yX7_endBlock ∈ lw_G := mem_t3 218 rfl rfl
theorem kw_781 : Cond.instanceMethod yX7_endBlock ∈ lw_G := mem_t3 220 rfl rfl
theorem kw_782 : Cond.code yX7_endBlock cX7_endBlock 5 (some .boolean) ∈ lw_G := mem_t3 221 rfl rfl
theorem kw_783 : Cond.methodLink RX7 162 yX2_addRange ∈ lw_G := mem_t3 222 rfl rfl
theorem kw_784 : Cond.methodLink RX7 165 yX1_addRaw ∈ lw_G := mem_t3 223 rfl rfl
theorem kw_785 : Cond.instanceMethod yX1_addRaw ∈ lw_G := mem_t3 224 rfl rfl
theorem kw_786 : Cond.selects RX1 yX1_addRaw yX1_addRaw ∈ lw_G := mem_t3 225 rfl rfl
theorem kw_787 : Cond.code yX1_addRaw cX1_addRaw 3 none ∈ lw_G := mem_t3 226 rfl rfl
theorem kw_788 : Cond.constantLong RX7 147 (2147483648) ∈ lw_G := mem_t3 227 rfl rfl
theorem kw_789 : Cond.methodLink RX7 149 yX2_changeNumber ∈ lw_G := mem_t3 228 rfl rfl
theorem kw_790 : Cond.instanceMethod yX2_changeNumber ∈ lw_G := mem_t3 229 rfl rfl
theorem kw_791 : Cond.selects RX2 yX2_changeNumber yX2_changeNumber ∈ lw_G := mem_t3 230 rfl rfl
theorem kw_792 : Cond.code yX2_changeNumber cX2_changeNumber 7 none ∈ lw_G := mem_t3 231 rfl rfl
theorem kw_793 : Cond.methodLink RX11 101 yX7_packElements ∈ lw_G := mem_t3 232 rfl rfl
theorem kw_794 : Cond.instanceMethod yX7_packElements ∈ lw_G := mem_t3 233 rfl rfl
theorem kw_795 : Cond.selects RX7 yX7_packElements yX7_packElements ∈ lw_G := mem_t3 234 rfl rfl
theorem kw_796 : Cond.code yX7_packElements cX7_packElements 1 none ∈ lw_G := mem_t3 235 rfl rfl
theorem kw_797 : Cond.methodLink RX7 101 yX10_loadAlone ∈ lw_G := mem_t3 236 rfl rfl
theorem kw_798 : Cond.instanceMethod yX10_loadAlone ∈ lw_G := mem_t3 237 rfl rfl
theorem kw_799 : Cond.selects RX10 yX10_loadAlone yX10_loadAlone ∈ lw_G := mem_t3 238 rfl rfl
theorem kw_800 : Cond.code yX10_loadAlone cX10_loadAlone 4 none ∈ lw_G := mem_t3 239 rfl rfl
theorem kw_801 : Cond.methodLink RX11 104 yX7_packChunks ∈ lw_G := mem_t4 0 rfl rfl
theorem kw_802 : Cond.instanceMethod yX7_packChunks ∈ lw_G := mem_t4 1 rfl rfl
theorem kw_803 : Cond.selects RX7 yX7_packChunks yX7_packChunks ∈ lw_G := mem_t4 2 rfl rfl
theorem kw_804 : Cond.code yX7_packChunks cX7_packChunks 5 none ∈ lw_G := mem_t4 3 rfl rfl
theorem kw_807 : Cond.methodLink RX7 156 yX7_packChunk ∈ lw_G := mem_t4 6 rfl rfl
theorem kw_809 : Cond.instanceMethod yX7_packChunk ∈ lw_G := mem_t4 8 rfl rfl
theorem kw_810 : Cond.code yX7_packChunk cX7_packChunk 6 none ∈ lw_G := mem_t4 9 rfl rfl
theorem kw_811 : Cond.methodLink RX7 159 yX9_maskedCrcOf ∈ lw_G := mem_t4 10 rfl rfl
theorem kw_812 : Cond.static yX9_maskedCrcOf ∈ lw_G := mem_t4 11 rfl rfl
theorem kw_813 : Cond.code yX9_maskedCrcOf cX9_maskedCrcOf 3 (some .int) ∈ lw_G := mem_t4 12 rfl rfl
theorem kw_814 : Cond.methodLink RX9 37 yX9_crcOf ∈ lw_G := mem_t4 13 rfl rfl
theorem kw_815 : Cond.static yX9_crcOf ∈ lw_G := mem_t4 14 rfl rfl
theorem kw_816 : Cond.code yX9_crcOf cX9_crcOf 6 (some .int) ∈ lw_G := mem_t4 15 rfl rfl
theorem kw_817 : Cond.constant RX9 36 (-2097792136) ∈ lw_G := mem_t4 16 rfl rfl
theorem kw_818 : Cond.constant RX9 40 (-1568478504) ∈ lw_G := mem_t4 17 rfl rfl
theorem kw_819 : Cond.methodLink RX11 107 yX11_exchangeOutputs ∈ lw_G := mem_t4 18 rfl rfl
theorem kw_821 : Cond.instanceMethod yX11_exchangeOutputs ∈ lw_G := mem_t4 20 rfl rfl
theorem kw_822 : Cond.code yX11_exchangeOutputs cX11_exchangeOutputs 2 none ∈ lw_G := mem_t4 21 rfl rfl
theorem kw_823 : Cond.methodLink RX11 110 yX11_exchangeBlocks ∈ lw_G := mem_t4 22 rfl rfl
theorem kw_825 : Cond.instanceMethod yX11_exchangeBlocks ∈ lw_G := mem_t4 24 rfl rfl
theorem kw_826 : Cond.code yX11_exchangeBlocks cX11_exchangeBlocks 2 none ∈ lw_G := mem_t4 25 rfl rfl
theorem kw_831 : Cond.methodLink RX11 113 yX2_addRange ∈ lw_G := mem_t4 30 rfl rfl
theorem kw_836 : Cond.constantLong RX11 117 (407710288) ∈ lw_G := mem_t4 35 rfl rfl
theorem kw_837 : Cond.constantLong RX11 119 (80) ∈ lw_G := mem_t4 36 rfl rfl
theorem kw_838 : Cond.methodLink RX11 121 yX2_addNumber ∈ lw_G := mem_t4 37 rfl rfl
theorem kw_843 : Cond.methodLink RX11 125 yX6_start ∈ lw_G := mem_t4 42 rfl rfl
theorem kw_844 : Cond.instanceMethod yX6_start ∈ lw_G := mem_t4 43 rfl rfl
theorem kw_845 : Cond.selects RX6 yX6_start yX6_start ∈ lw_G := mem_t4 44 rfl rfl
theorem kw_846 : Cond.code yX6_start cX6_start 3 none ∈ lw_G := mem_t4 45 rfl rfl
theorem kw_847 : Cond.methodLink RX6 36 yX2_keep ∈ lw_G := mem_t4 46 rfl rfl
theorem kw_848 : Cond.methodLink RX6 42 yX1_clear ∈ lw_G := mem_t4 47 rfl rfl
theorem kw_849 : Cond.methodLink RX6 50 yX2_size ∈ lw_G := mem_t4 48 rfl rfl
theorem kw_850 : Cond.methodLink RX11 128 yX6_openWholeSequences ∈ lw_G := mem_t4 49 rfl rfl
theorem kw_851 : Cond.instanceMethod yX6_openWholeSequences ∈ lw_G := mem_t4 50 rfl rfl
theorem kw_852 : Cond.selects RX6 yX6_openWholeSequences yX6_openWholeSequences ∈ lw_G := mem_t4 51 rfl rfl
theorem kw_853 : Cond.code yX6_openWholeSequences cX6_openWholeSequences 1 (some .boolean) ∈ lw_G := mem_t4 52 rfl rfl
theorem kw_854 : Cond.methodLink RX6 57 yX6_openSequences ∈ lw_G := mem_t4 53 rfl rfl
theorem kw_856 : Cond.instanceMethod yX6_openSequences ∈ lw_G := mem_t4 55 rfl rfl
theorem kw_857 : Cond.code yX6_openSequences cX6_openSequences 7 (some .boolean) ∈ lw_G := mem_t4 56 rfl rfl
theorem kw_858 : Cond.methodLink RX6 86 yX6_beginBlock ∈ lw_G := mem_t4 57 rfl rfl
theorem kw_860 : Cond.instanceMethod yX6_beginBlock ∈ lw_G := mem_t4 59 rfl rfl
theorem kw_861 : Cond.code yX6_beginBlock cX6_beginBlock 1 none ∈ lw_G := mem_t4 60 rfl rfl
theorem kw_862 : Cond.methodLink RX6 89 yX2_at ∈ lw_G := mem_t4 61 rfl rfl
theorem kw_863 : Cond.methodLink RX6 92 yX6_withAdded ∈ lw_G := mem_t4 62 rfl rfl
theorem kw_865 : Cond.instanceMethod yX6_withAdded ∈ lw_G := mem_t4 64 rfl rfl
theorem kw_866 : Cond.code yX6_withAdded cX6_withAdded 4 (some .int) ∈ lw_G := mem_t4 65 rfl rfl
theorem kw_867 : Cond.methodLink RX6 95 yX6_lacks ∈ lw_G := mem_t4 66 rfl rfl
theorem kw_869 : Cond.instanceMethod yX6_lacks ∈ lw_G := mem_t4 68 rfl rfl
theorem kw_870 : Cond.code yX6_lacks cX6_lacks 2 (some .boolean) ∈ lw_G := mem_t4 69 rfl rfl
theorem kw_871 : Cond.methodLink RX6 98 yX6_breaks ∈ lw_G := mem_t4 70 rfl rfl
theorem kw_873 : Cond.instanceMethod yX6_breaks ∈ lw_G := mem_t4 72 rfl rfl
theorem kw_874 : Cond.code yX6_breaks cX6_breaks 3 (some .boolean) ∈ lw_G := mem_t4 73 rfl rfl
theorem kw_875 : Cond.methodLink RX6 102 yX6_isOver ∈ lw_G := mem_t4 74 rfl rfl
theorem kw_877 : Cond.instanceMethod yX6_isOver ∈ lw_G := mem_t4 76 rfl rfl
theorem kw_878 : Cond.code yX6_isOver cX6_isOver 3 (some .boolean) ∈ lw_G := mem_t4 77 rfl rfl
theorem kw_879 : Cond.constantLong RX6 84 (12000) ∈ lw_G := mem_t4 78 rfl rfl
theorem kw_880 : Cond.methodLink RX6 106 yX2_addRange ∈ lw_G := mem_t4 79 rfl rfl
theorem kw_881 : Cond.methodLink RX6 110 yX6_endsWell ∈ lw_G := mem_t4 80 rfl rfl
theorem kw_883 : Cond.instanceMethod yX6_endsWell ∈ lw_G := mem_t4 82 rfl rfl
theorem kw_884 : Cond.code yX6_endsWell cX6_endsWell 4 (some .boolean) ∈ lw_G := mem_t4 83 rfl rfl
theorem kw_885 : Cond.methodLink RX6 114 yX6_openCopy ∈ lw_G := mem_t4 84 rfl rfl
theorem kw_887 : Cond.instanceMethod yX6_openCopy ∈ lw_G := mem_t4 86 rfl rfl
theorem kw_888 : Cond.code yX6_openCopy cX6_openCopy 6 (some .boolean) ∈ lw_G := mem_t4 87 rfl rfl
theorem kw_889 : Cond.methodLink RX6 117 yX2_number ∈ lw_G := mem_t4 88 rfl rfl
theorem kw_890 : Cond.instanceMethod yX2_number ∈ lw_G := mem_t4 89 rfl rfl
theorem kw_891 : Cond.selects RX2 yX2_number yX2_number ∈ lw_G := mem_t4 90 rfl rfl
theorem kw_892 : Cond.code yX2_number cX2_number 6 (some .long) ∈ lw_G := mem_t4 91 rfl rfl
theorem kw_893 : Cond.methodLink RX2 23 yX2_at ∈ lw_G := mem_t4 92 rfl rfl
theorem kw_894 : Cond.methodLink RX6 121 yX6_copy ∈ lw_G := mem_t4 93 rfl rfl
theorem kw_896 : Cond.instanceMethod yX6_copy ∈ lw_G := mem_t4 95 rfl rfl
theorem kw_897 : Cond.code yX6_copy cX6_copy 6 none ∈ lw_G := mem_t4 96 rfl rfl
theorem kw_898 : Cond.methodLink RX6 125 yJ9_max_7cf53 ∈ lw_G := mem_t4 97 rfl rfl
theorem kw_899 : Cond.methodLink RX6 131 yJ9_min_7cf53 ∈ lw_G := mem_t4 98 rfl rfl
theorem kw_900 : Cond.methodLink RX6 134 yX2_addAgain ∈ lw_G := mem_t4 99 rfl rfl
theorem kw_901 : Cond.instanceMethod yX2_addAgain ∈ lw_G := mem_t4 100 rfl rfl
theorem kw_902 : Cond.selects RX2 yX2_addAgain yX2_addAgain ∈ lw_G := mem_t4 101 rfl rfl
theorem kw_903 : Cond.code yX2_addAgain cX2_addAgain 4 none ∈ lw_G := mem_t4 102 rfl rfl
theorem kw_904 : Cond.methodLink RX6 61 yX6_addPackedBlock ∈ lw_G := mem_t4 103 rfl rfl
theorem kw_906 : Cond.instanceMethod yX6_addPackedBlock ∈ lw_G := mem_t4 105 rfl rfl
theorem kw_907 : Cond.code yX6_addPackedBlock cX6_addPackedBlock 2 none ∈ lw_G := mem_t4 106 rfl rfl
theorem kw_908 : Cond.methodLink RX6 80 yX1_addPacked ∈ lw_G := mem_t4 107 rfl rfl
theorem kw_909 : Cond.methodLink RX11 132 yX6_openFrames ∈ lw_G := mem_t4 108 rfl rfl
theorem kw_910 : Cond.instanceMethod yX6_openFrames ∈ lw_G := mem_t4 109 rfl rfl
theorem kw_911 : Cond.selects RX6 yX6_openFrames yX6_openFrames ∈ lw_G := mem_t4 110 rfl rfl
theorem kw_912 : Cond.code yX6_openFrames cX6_openFrames 5 (some .boolean) ∈ lw_G := mem_t4 111 rfl rfl
theorem kw_913 : Cond.constantLong RX6 138 (407710288) ∈ lw_G := mem_t4 112 rfl rfl
theorem kw_914 : Cond.constantLong RX6 140 (407710304) ∈ lw_G := mem_t4 113 rfl rfl
theorem kw_915 : Cond.constantLong RX6 142 (407708164) ∈ lw_G := mem_t4 114 rfl rfl
theorem kw_916 : Cond.methodLink RX6 144 yX6_passPiece ∈ lw_G := mem_t4 115 rfl rfl
theorem kw_918 : Cond.instanceMethod yX6_passPiece ∈ lw_G := mem_t4 117 rfl rfl
theorem kw_919 : Cond.code yX6_passPiece cX6_passPiece 3 (some .boolean) ∈ lw_G := mem_t4 118 rfl rfl
theorem kw_920 : Cond.methodLink RX6 147 yX6_openFrame ∈ lw_G := mem_t4 119 rfl rfl
theorem kw_922 : Cond.instanceMethod yX6_openFrame ∈ lw_G := mem_t4 121 rfl rfl
theorem kw_923 : Cond.code yX6_openFrame cX6_openFrame 2 (some .boolean) ∈ lw_G := mem_t4 122 rfl rfl
theorem kw_924 : Cond.methodLink RX6 153 yX6_openFrameHead ∈ lw_G := mem_t4 123 rfl rfl
theorem kw_926 : Cond.instanceMethod yX6_openFrameHead ∈ lw_G := mem_t4 125 rfl rfl
theorem kw_927 : Cond.code yX6_openFrameHead cX6_openFrameHead 1 (some .boolean) ∈ lw_G := mem_t4 126 rfl rfl
theorem kw_928 : Cond.methodLink RX6 165 yX6_isFlag ∈ lw_G := mem_t4 127 rfl rfl
theorem kw_930 : Cond.instanceMethod yX6_isFlag ∈ lw_G := mem_t4 129 rfl rfl
theorem kw_931 : Cond.code yX6_isFlag cX6_isFlag 2 (some .boolean) ∈ lw_G := mem_t4 130 rfl rfl
theorem kw_932 : Cond.methodLink RX6 171 yX6_openFrameTold ∈ lw_G := mem_t4 131 rfl rfl
theorem kw_934 : Cond.instanceMethod yX6_openFrameTold ∈ lw_G := mem_t4 133 rfl rfl
theorem kw_935 : Cond.code yX6_openFrameTold cX6_openFrameTold 5 (some .boolean) ∈ lw_G := mem_t4 134 rfl rfl
theorem kw_936 : Cond.methodLink RX6 177 yX9_sumOf ∈ lw_G := mem_t4 135 rfl rfl
theorem kw_937 : Cond.methodLink RX6 183 yX2_number32 ∈ lw_G := mem_t4 136 rfl rfl
theorem kw_938 : Cond.methodLink RX6 156 yX6_openFrameEnd ∈ lw_G := mem_t4 137 rfl rfl
theorem kw_940 : Cond.instanceMethod yX6_openFrameEnd ∈ lw_G := mem_t4 139 rfl rfl
theorem kw_941 : Cond.code yX6_openFrameEnd cX6_openFrameEnd 2 (some .boolean) ∈ lw_G := mem_t4 140 rfl rfl
theorem kw_942 : Cond.methodLink RX6 159 yX6_openFrameBlock ∈ lw_G := mem_t4 141 rfl rfl
theorem kw_944 : Cond.instanceMethod yX6_openFrameBlock ∈ lw_G := mem_t4 143 rfl rfl
theorem kw_945 : Cond.code yX6_openFrameBlock cX6_openFrameBlock 7 (some .boolean) ∈ lw_G := mem_t4 144 rfl rfl
theorem kw_946 : Cond.constantLong RX6 186 (2147483648) ∈ lw_G := mem_t4 145 rfl rfl
theorem kw_947 : Cond.methodLink RX6 188 yX6_openRaw ∈ lw_G := mem_t4 146 rfl rfl
theorem kw_949 : Cond.instanceMethod yX6_openRaw ∈ lw_G := mem_t4 148 rfl rfl
theorem kw_950 : Cond.code yX6_openRaw cX6_openRaw 3 (some .boolean) ∈ lw_G := mem_t4 149 rfl rfl
theorem kw_951 : Cond.methodLink RX6 191 yX1_addRaw ∈ lw_G := mem_t4 150 rfl rfl
theorem kw_952 : Cond.methodLink RX11 135 yX6_openWholeElements ∈ lw_G := mem_t4 151 rfl rfl
theorem kw_953 : Cond.instanceMethod yX6_openWholeElements ∈ lw_G := mem_t4 152 rfl rfl
theorem kw_954 : Cond.selects RX6 yX6_openWholeElements yX6_openWholeElements ∈ lw_G := mem_t4 153 rfl rfl
theorem kw_955 : Cond.code yX6_openWholeElements cX6_openWholeElements 1 (some .boolean) ∈ lw_G := mem_t4 154 rfl rfl
theorem kw_956 : Cond.methodLink RX6 64 yX6_openElements ∈ lw_G := mem_t4 155 rfl rfl
theorem kw_958 : Cond.instanceMethod yX6_openElements ∈ lw_G := mem_t4 157 rfl rfl
theorem kw_959 : Cond.code yX6_openElements cX6_openElements 7 (some .boolean) ∈ lw_G := mem_t4 158 rfl rfl
theorem kw_960 : Cond.constantLong RX6 194 (4294967295) ∈ lw_G := mem_t4 159 rfl rfl
theorem kw_961 : Cond.methodLink RX6 196 yX6_openElement ∈ lw_G := mem_t4 160 rfl rfl
theorem kw_963 : Cond.instanceMethod yX6_openElement ∈ lw_G := mem_t4 162 rfl rfl
theorem kw_964 : Cond.code yX6_openElement cX6_openElement 8 (some .boolean) ∈ lw_G := mem_t4 163 rfl rfl
theorem kw_965 : Cond.methodLink RX6 199 yX6_openLiterals ∈ lw_G := mem_t4 164 rfl rfl
theorem kw_967 : Cond.instanceMethod yX6_openLiterals ∈ lw_G := mem_t4 166 rfl rfl
theorem kw_968 : Cond.code yX6_openLiterals cX6_openLiterals 5 (some .boolean) ∈ lw_G := mem_t4 167 rfl rfl
theorem kw_969 : Cond.methodLink RX6 203 yX6_openOffset ∈ lw_G := mem_t4 168 rfl rfl
theorem kw_971 : Cond.instanceMethod yX6_openOffset ∈ lw_G := mem_t4 170 rfl rfl
theorem kw_972 : Cond.code yX6_openOffset cX6_openOffset 6 (some .boolean) ∈ lw_G := mem_t4 171 rfl rfl
theorem kw_973 : Cond.methodLink RX11 138 yX6_openChunks ∈ lw_G := mem_t4 172 rfl rfl
theorem kw_974 : Cond.instanceMethod yX6_openChunks ∈ lw_G := mem_t4 173 rfl rfl
theorem kw_975 : Cond.selects RX6 yX6_openChunks yX6_openChunks ∈ lw_G := mem_t4 174 rfl rfl
theorem kw_976 : Cond.code yX6_openChunks cX6_openChunks 2 (some .boolean) ∈ lw_G := mem_t4 175 rfl rfl
theorem kw_977 : Cond.methodLink RX6 207 yX6_openChunk ∈ lw_G := mem_t4 176 rfl rfl
theorem kw_979 : Cond.instanceMethod yX6_openChunk ∈ lw_G := mem_t4 178 rfl rfl
theorem kw_980 : Cond.code yX6_openChunk cX6_openChunk 5 (some .boolean) ∈ lw_G := mem_t4 179 rfl rfl
theorem kw_982 : Cond.methodLink RX6 213 yX6_isFirstChunk ∈ lw_G := mem_t4 181 rfl rfl
theorem kw_984 : Cond.instanceMethod yX6_isFirstChunk ∈ lw_G := mem_t4 183 rfl rfl
theorem kw_985 : Cond.code yX6_isFirstChunk cX6_isFirstChunk 2 (some .boolean) ∈ lw_G := mem_t4 184 rfl rfl
theorem kw_986 : Cond.methodLink RX6 216 yX6_openChunkBytes ∈ lw_G := mem_t4 185 rfl rfl
theorem kw_988 : Cond.instanceMethod yX6_openChunkBytes ∈ lw_G := mem_t4 187 rfl rfl
theorem kw_989 : Cond.code yX6_openChunkBytes cX6_openChunkBytes 6 (some .boolean) ∈ lw_G := mem_t4 188 rfl rfl
theorem kw_990 : Cond.methodLink RX6 220 yX9_maskedCrcOf ∈ lw_G := mem_t4 189 rfl rfl
theorem kw_991 : Cond.methodLink RX11 141 yX6_brokenRule ∈ lw_G := mem_t4 190 rfl rfl
theorem kw_992 : Cond.instanceMethod yX6_brokenRule ∈ lw_G := mem_t4 191 rfl rfl
theorem kw_993 : Cond.selects RX6 yX6_brokenRule yX6_brokenRule ∈ lw_G := mem_t4 192 rfl rfl
theorem kw_994 : Cond.code yX6_brokenRule cX6_brokenRule 1 (some .int) ∈ lw_G := mem_t4 193 rfl rfl
theorem kw_999 : Cond.methodLink RX11 144 yX6_brokenPlace ∈ lw_G := mem_t4 198 rfl rfl
theorem kw_1000 : Cond.instanceMethod yX6_brokenPlace ∈ lw_G := mem_t4 199 rfl rfl
theorem kw_1001 : Cond.selects RX6 yX6_brokenPlace yX6_brokenPlace ∈ lw_G := mem_t4 200 rfl rfl
theorem kw_1002 : Cond.code yX6_brokenPlace cX6_brokenPlace 1 (some .int) ∈ lw_G := mem_t4 201 rfl rfl
theorem kw_1007 : Cond.methodLink RX11 147 yX1_size ∈ lw_G := mem_t4 206 rfl rfl
theorem kw_1008 : Cond.instanceMethod yX1_size ∈ lw_G := mem_t4 207 rfl rfl
theorem kw_1009 : Cond.selects RX1 yX1_size yX1_size ∈ lw_G := mem_t4 208 rfl rfl
theorem kw_1010 : Cond.code yX1_size cX1_size 1 (some .int) ∈ lw_G := mem_t4 209 rfl rfl
theorem kw_1011 : Cond.methodLink RX11 148 yX1_fact ∈ lw_G := mem_t4 210 rfl rfl
theorem kw_1012 : Cond.instanceMethod yX1_fact ∈ lw_G := mem_t4 211 rfl rfl
theorem kw_1013 : Cond.selects RX1 yX1_fact yX1_fact ∈ lw_G := mem_t4 212 rfl rfl
theorem kw_1014 : Cond.code yX1_fact cX1_fact 3 (some .int) ∈ lw_G := mem_t4 213 rfl rfl
theorem kw_1019 : Cond.methodLink RX11 152 yX10_load ∈ lw_G := mem_t4 218 rfl rfl
theorem kw_1020 : Cond.methodLink RX11 156 yX10_reach ∈ lw_G := mem_t4 219 rfl rfl
theorem kw_1025 : Cond.methodLink RX11 160 yX10_offsetOf ∈ lw_G := mem_t4 224 rfl rfl
theorem kw_1030 : Cond.constantLong RX11 163 (4294967295) ∈ lw_G := mem_t4 229 rfl rfl
theorem kw_1031 : Cond.methodLink RX11 165 yX9_sumOf ∈ lw_G := mem_t4 230 rfl rfl
theorem kw_1032 : Cond.methodLink RX11 171 yX9_crcOf ∈ lw_G := mem_t4 231 rfl rfl
theorem kw_1033 : Cond.methodLink RX11 174 yX9_maskedCrcOf ∈ lw_G := mem_t4 232 rfl rfl
theorem kw_1034 : Cond.constantLong RX11 177 (-1) ∈ lw_G := mem_t4 233 rfl rfl
theorem kw_1039 : Cond.constantLong RX11 179 (16) ∈ lw_G := mem_t4 238 rfl rfl
theorem kw_1040 : Cond.constantLong RX11 181 (32) ∈ lw_G := mem_t4 239 rfl rfl
theorem kw_1052 : Cond.fieldLink RX12 170 "FastBlocksModel" "in" "[I" ∈ lw_G := mem_t5 11 rfl rfl
theorem kw_1053 : Cond.fieldLink RX12 177 "FastBlocksModel" "inSize" "I" ∈ lw_G := mem_t5 12 rfl rfl
theorem kw_1054 : Cond.fieldLink RX12 220 "FastBlocksModel" "out" "[I" ∈ lw_G := mem_t5 13 rfl rfl
theorem kw_1055 : Cond.fieldLink RX12 223 "FastBlocksModel" "outSize" "I" ∈ lw_G := mem_t5 14 rfl rfl
theorem kw_1056 : Cond.fieldLink RX12 164 "FastBlocksModel" "dict" "[I" ∈ lw_G := mem_t5 15 rfl rfl
theorem kw_1057 : Cond.fieldLink RX12 167 "FastBlocksModel" "dictSize" "I" ∈ lw_G := mem_t5 16 rfl rfl
theorem kw_1058 : Cond.fieldLink RX12 174 "FastBlocksModel" "told" "[I" ∈ lw_G := mem_t5 17 rfl rfl
theorem kw_1059 : Cond.fieldLink RX12 105 "FastBlocksModel" "fresh" "[I" ∈ lw_G := mem_t5 18 rfl rfl
theorem kw_1060 : Cond.fieldLink RX12 108 "FastBlocksModel" "freshSize" "I" ∈ lw_G := mem_t5 19 rfl rfl
theorem kw_1061 : Cond.fieldLink RX12 20 "FastBlocksModel" "text" "[I" ∈ lw_G := mem_t5 20 rfl rfl
theorem kw_1062 : Cond.fieldLink RX12 24 "FastBlocksModel" "lean" "I" ∈ lw_G := mem_t5 21 rfl rfl
theorem kw_1063 : Cond.fieldLink RX12 35 "FastBlocksModel" "size" "I" ∈ lw_G := mem_t5 22 rfl rfl
theorem kw_1064 : Cond.fieldLink RX12 38 "FastBlocksModel" "most" "[I" ∈ lw_G := mem_t5 23 rfl rfl
theorem kw_1065 : Cond.fieldLink RX12 41 "FastBlocksModel" "offset" "[I" ∈ lw_G := mem_t5 24 rfl rfl
theorem kw_1066 : Cond.fieldLink RX12 44 "FastBlocksModel" "copyAt" "[I" ∈ lw_G := mem_t5 25 rfl rfl
theorem kw_1067 : Cond.fieldLink RX12 47 "FastBlocksModel" "copies" "I" ∈ lw_G := mem_t5 26 rfl rfl
theorem kw_1068 : Cond.fieldLink RX12 50 "FastBlocksModel" "copyLength" "[I" ∈ lw_G := mem_t5 27 rfl rfl
theorem kw_1069 : Cond.fieldLink RX12 53 "FastBlocksModel" "copyOffset" "[I" ∈ lw_G := mem_t5 28 rfl rfl
theorem kw_1070 : Cond.fieldLink RX12 81 "FastBlocksModel" "fromHere" "[I" ∈ lw_G := mem_t5 29 rfl rfl
theorem kw_1071 : Cond.fieldLink RX12 74 "FastBlocksModel" "withCopy" "[I" ∈ lw_G := mem_t5 30 rfl rfl
theorem kw_1072 : Cond.fieldLink RX12 78 "FastBlocksModel" "bestCopy" "[I" ∈ lw_G := mem_t5 31 rfl rfl
theorem kw_1073 : Cond.fieldLink RX12 91 "FastBlocksModel" "bestLiterals" "[I" ∈ lw_G := mem_t5 32 rfl rfl
theorem kw_1074 : Cond.fieldLink RX12 125 "FastBlocksModel" "copiesOf" "I" ∈ lw_G := mem_t5 33 rfl rfl
theorem kw_1075 : Cond.fieldLink RX12 128 "FastBlocksModel" "literalsOf" "I" ∈ lw_G := mem_t5 34 rfl rfl
theorem kw_1076 : Cond.fieldLink RX12 142 "FastBlocksModel" "partsOf" "I" ∈ lw_G := mem_t5 35 rfl rfl
theorem kw_1077 : Cond.fieldLink RX12 157 "FastBlocksModel" "blocks" "[I" ∈ lw_G := mem_t5 36 rfl rfl
theorem kw_1078 : Cond.fieldLink RX12 154 "FastBlocksModel" "blockMany" "I" ∈ lw_G := mem_t5 37 rfl rfl
theorem kw_1079 : Cond.fieldLink RX12 151 "FastBlocksModel" "newBlocks" "[I" ∈ lw_G := mem_t5 38 rfl rfl
theorem kw_1080 : Cond.fieldLink RX12 148 "FastBlocksModel" "newMany" "I" ∈ lw_G := mem_t5 39 rfl rfl
theorem kw_1081 : Cond.fieldLink RX12 226 "FastBlocksModel" "rule" "I" ∈ lw_G := mem_t5 40 rfl rfl
theorem kw_1082 : Cond.fieldLink RX12 229 "FastBlocksModel" "place" "I" ∈ lw_G := mem_t5 41 rfl rfl
theorem kw_1083 : Cond.fieldLink RX12 232 "FastBlocksModel" "at" "I" ∈ lw_G := mem_t5 42 rfl rfl
theorem kw_1153 : Cond.methodLink RX12 285 yX12_word ∈ lw_G := mem_t5 112 rfl rfl
theorem kw_1155 : Cond.instanceMethod yX12_word ∈ lw_G := mem_t5 114 rfl rfl
theorem kw_1156 : Cond.code yX12_word cX12_word 3 none ∈ lw_G := mem_t5 115 rfl rfl
theorem kw_1161 : Cond.methodLink RX12 101 yX12_in ∈ lw_G := mem_t5 120 rfl rfl
theorem kw_1162 : Cond.static yX12_in ∈ lw_G := mem_t5 121 rfl rfl
theorem kw_1163 : Cond.code yX12_in cX12_in 6 (some .boolean) ∈ lw_G := mem_t5 122 rfl rfl
theorem kw_1172 : Cond.methodLink RX12 160 yX12_carry ∈ lw_G := mem_t5 131 rfl rfl
theorem kw_1173 : Cond.static yX12_carry ∈ lw_G := mem_t5 132 rfl rfl
theorem kw_1174 : Cond.code yX12_carry cX12_carry 6 none ∈ lw_G := mem_t5 133 rfl rfl
theorem kw_1183 : Cond.constantLong RX12 288 (16) ∈ lw_G := mem_t5 142 rfl rfl
theorem kw_1184 : Cond.constantLong RX12 290 (4000) ∈ lw_G := mem_t5 143 rfl rfl
theorem kw_1185 : Cond.constantLong RX12 97 (4) ∈ lw_G := mem_t5 144 rfl rfl
theorem kw_1190 : Cond.constantLong RX12 292 (3) ∈ lw_G := mem_t5 149 rfl rfl
theorem kw_1191 : Cond.constantLong RX12 266 (2) ∈ lw_G := mem_t5 150 rfl rfl
theorem kw_1192 : Cond.methodLink RX12 294 yX12_write ∈ lw_G := mem_t5 151 rfl rfl
theorem kw_1194 : Cond.instanceMethod yX12_write ∈ lw_G := mem_t5 153 rfl rfl
theorem kw_1195 : Cond.code yX12_write cX12_write 4 none ∈ lw_G := mem_t5 154 rfl rfl
theorem kw_1196 : Cond.methodLink RX12 214 yX12_frame ∈ lw_G := mem_t5 155 rfl rfl
theorem kw_1198 : Cond.instanceMethod yX12_frame ∈ lw_G := mem_t5 157 rfl rfl
theorem kw_1199 : Cond.code yX12_frame cX12_frame 11 none ∈ lw_G := mem_t5 158 rfl rfl
theorem kw_1200 : Cond.constantLong RX12 172 (407708164) ∈ lw_G := mem_t5 159 rfl rfl
theorem kw_1201 : Cond.methodLink RX12 138 yX12_lowest ∈ lw_G := mem_t5 160 rfl rfl
theorem kw_1203 : Cond.instanceMethod yX12_lowest ∈ lw_G := mem_t5 162 rfl rfl
theorem kw_1204 : Cond.code yX12_lowest cX12_lowest 5 none ∈ lw_G := mem_t5 163 rfl rfl
theorem kw_1205 : Cond.methodLink RX12 111 yX12_put ∈ lw_G := mem_t5 164 rfl rfl
theorem kw_1207 : Cond.instanceMethod yX12_put ∈ lw_G := mem_t5 166 rfl rfl
theorem kw_1208 : Cond.code yX12_put cX12_put 2 none ∈ lw_G := mem_t5 167 rfl rfl
theorem kw_1209 : Cond.methodLink RX12 180 yX12_sumOf ∈ lw_G := mem_t5 168 rfl rfl
theorem kw_1210 : Cond.static yX12_sumOf ∈ lw_G := mem_t5 169 rfl rfl
theorem kw_1211 : Cond.code yX12_sumOf cX12_sumOf 10 (some .int) ∈ lw_G := mem_t5 170 rfl rfl
theorem kw_1212 : Cond.constant RX12 3 (374761393) ∈ lw_G := mem_t5 171 rfl rfl
theorem kw_1213 : Cond.constant RX12 4 (606290984) ∈ lw_G := mem_t5 172 rfl rfl
theorem kw_1214 : Cond.constant RX12 5 (-2048144777) ∈ lw_G := mem_t5 173 rfl rfl
theorem kw_1215 : Cond.constant RX12 6 (1640531535) ∈ lw_G := mem_t5 174 rfl rfl
theorem kw_1216 : Cond.methodLink RX12 7 yX12_four ∈ lw_G := mem_t5 175 rfl rfl
theorem kw_1217 : Cond.static yX12_four ∈ lw_G := mem_t5 176 rfl rfl
theorem kw_1218 : Cond.code yX12_four cX12_four 2 (some .int) ∈ lw_G := mem_t5 177 rfl rfl
theorem kw_1219 : Cond.methodLink RX12 11 yX12_turned ∈ lw_G := mem_t5 178 rfl rfl
theorem kw_1220 : Cond.static yX12_turned ∈ lw_G := mem_t5 179 rfl rfl
theorem kw_1221 : Cond.code yX12_turned cX12_turned 2 (some .int) ∈ lw_G := mem_t5 180 rfl rfl
theorem kw_1222 : Cond.constant RX12 15 (-1640531535) ∈ lw_G := mem_t5 181 rfl rfl
theorem kw_1223 : Cond.constant RX12 16 (-1028477379) ∈ lw_G := mem_t5 182 rfl rfl
theorem kw_1224 : Cond.constant RX12 17 (668265263) ∈ lw_G := mem_t5 183 rfl rfl
theorem kw_1225 : Cond.methodLink RX12 59 yX12_small ∈ lw_G := mem_t5 184 rfl rfl
theorem kw_1226 : Cond.static yX12_small ∈ lw_G := mem_t5 185 rfl rfl
theorem kw_1227 : Cond.code yX12_small cX12_small 2 (some .int) ∈ lw_G := mem_t5 186 rfl rfl
theorem kw_1228 : Cond.methodLink RX12 184 yX12_lay ∈ lw_G := mem_t5 187 rfl rfl
theorem kw_1230 : Cond.instanceMethod yX12_lay ∈ lw_G := mem_t5 189 rfl rfl
theorem kw_1231 : Cond.code yX12_lay cX12_lay 5 none ∈ lw_G := mem_t5 190 rfl rfl
theorem kw_1232 : Cond.methodLink RX12 188 yX12_sequences ∈ lw_G := mem_t5 191 rfl rfl
theorem kw_1234 : Cond.instanceMethod yX12_sequences ∈ lw_G := mem_t5 193 rfl rfl
theorem kw_1235 : Cond.code yX12_sequences cX12_sequences 8 none ∈ lw_G := mem_t5 194 rfl rfl
theorem kw_1236 : Cond.methodLink RX12 131 yX12_plan ∈ lw_G := mem_t5 195 rfl rfl
theorem kw_1238 : Cond.instanceMethod yX12_plan ∈ lw_G := mem_t5 197 rfl rfl
theorem kw_1239 : Cond.code yX12_plan cX12_plan 4 none ∈ lw_G := mem_t5 198 rfl rfl
theorem kw_1240 : Cond.methodLink RX12 114 yX12_runs ∈ lw_G := mem_t5 199 rfl rfl
theorem kw_1242 : Cond.instanceMethod yX12_runs ∈ lw_G := mem_t5 201 rfl rfl
theorem kw_1243 : Cond.code yX12_runs cX12_runs 6 none ∈ lw_G := mem_t5 202 rfl rfl
theorem kw_1244 : Cond.methodLink RX12 32 yX12_great ∈ lw_G := mem_t5 203 rfl rfl
theorem kw_1245 : Cond.static yX12_great ∈ lw_G := mem_t5 204 rfl rfl
theorem kw_1246 : Cond.code yX12_great cX12_great 2 (some .int) ∈ lw_G := mem_t5 205 rfl rfl
theorem kw_1247 : Cond.methodLink RX12 118 yX12_fewest ∈ lw_G := mem_t5 206 rfl rfl
theorem kw_1249 : Cond.instanceMethod yX12_fewest ∈ lw_G := mem_t5 208 rfl rfl
theorem kw_1250 : Cond.code yX12_fewest cX12_fewest 5 none ∈ lw_G := mem_t5 209 rfl rfl
theorem kw_1251 : Cond.constant RX12 77 (2147483647) ∈ lw_G := mem_t5 210 rfl rfl
theorem kw_1252 : Cond.methodLink RX12 62 yX12_match ∈ lw_G := mem_t5 211 rfl rfl
theorem kw_1254 : Cond.instanceMethod yX12_match ∈ lw_G := mem_t5 213 rfl rfl
theorem kw_1255 : Cond.code yX12_match cX12_match 4 (some .int) ∈ lw_G := mem_t5 214 rfl rfl
theorem kw_1256 : Cond.methodLink RX12 70 yX12_ext ∈ lw_G := mem_t5 215 rfl rfl
theorem kw_1257 : Cond.static yX12_ext ∈ lw_G := mem_t5 216 rfl rfl
theorem kw_1258 : Cond.code yX12_ext cX12_ext 1 (some .int) ∈ lw_G := mem_t5 217 rfl rfl
theorem kw_1259 : Cond.methodLink RX12 84 yX12_element ∈ lw_G := mem_t5 218 rfl rfl
theorem kw_1261 : Cond.instanceMethod yX12_element ∈ lw_G := mem_t5 220 rfl rfl
theorem kw_1262 : Cond.code yX12_element cX12_element 4 none ∈ lw_G := mem_t5 221 rfl rfl
theorem kw_1263 : Cond.methodLink RX12 94 yX12_cheap ∈ lw_G := mem_t5 222 rfl rfl
theorem kw_1264 : Cond.static yX12_cheap ∈ lw_G := mem_t5 223 rfl rfl
theorem kw_1265 : Cond.code yX12_cheap cX12_cheap 2 (some .int) ∈ lw_G := mem_t5 224 rfl rfl
theorem kw_1266 : Cond.constantLong RX12 99 (11) ∈ lw_G := mem_t5 225 rfl rfl
theorem kw_1267 : Cond.methodLink RX12 88 yX12_literals ∈ lw_G := mem_t5 226 rfl rfl
theorem kw_1268 : Cond.static yX12_literals ∈ lw_G := mem_t5 227 rfl rfl
theorem kw_1269 : Cond.code yX12_literals cX12_literals 2 (some .int) ∈ lw_G := mem_t5 228 rfl rfl
theorem kw_1270 : Cond.methodLink RX12 66 yX12_copy ∈ lw_G := mem_t5 229 rfl rfl
theorem kw_1272 : Cond.instanceMethod yX12_copy ∈ lw_G := mem_t5 231 rfl rfl
theorem kw_1273 : Cond.code yX12_copy cX12_copy 3 none ∈ lw_G := mem_t5 232 rfl rfl
theorem kw_1274 : Cond.methodLink RX12 56 yX12_nearest ∈ lw_G := mem_t5 233 rfl rfl
theorem kw_1276 : Cond.instanceMethod yX12_nearest ∈ lw_G := mem_t5 235 rfl rfl
theorem kw_1277 : Cond.code yX12_nearest cX12_nearest 5 (some .int) ∈ lw_G := mem_t5 236 rfl rfl
theorem kw_1278 : Cond.methodLink RX12 28 yX12_alike ∈ lw_G := mem_t5 237 rfl rfl
theorem kw_1280 : Cond.instanceMethod yX12_alike ∈ lw_G := mem_t5 239 rfl rfl
theorem kw_1281 : Cond.code yX12_alike cX12_alike 6 (some .int) ∈ lw_G := mem_t6 0 rfl rfl
theorem kw_1282 : Cond.methodLink RX12 121 yX12_greedy ∈ lw_G := mem_t6 1 rfl rfl
theorem kw_1284 : Cond.instanceMethod yX12_greedy ∈ lw_G := mem_t6 3 rfl rfl
theorem kw_1285 : Cond.code yX12_greedy cX12_greedy 8 none ∈ lw_G := mem_t6 4 rfl rfl
theorem kw_1286 : Cond.methodLink RX12 135 yX12_extra ∈ lw_G := mem_t6 5 rfl rfl
theorem kw_1288 : Cond.instanceMethod yX12_extra ∈ lw_G := mem_t6 7 rfl rfl
theorem kw_1289 : Cond.code yX12_extra cX12_extra 3 none ∈ lw_G := mem_t6 8 rfl rfl
theorem kw_1290 : Cond.constantLong RX12 191 (2147483648) ∈ lw_G := mem_t6 9 rfl rfl
theorem kw_1291 : Cond.methodLink RX12 193 yX12_note ∈ lw_G := mem_t6 10 rfl rfl
theorem kw_1293 : Cond.instanceMethod yX12_note ∈ lw_G := mem_t6 12 rfl rfl
theorem kw_1294 : Cond.code yX12_note cX12_note 6 none ∈ lw_G := mem_t6 13 rfl rfl
theorem kw_1295 : Cond.methodLink RX12 217 yX12_chunks ∈ lw_G := mem_t6 14 rfl rfl
theorem kw_1297 : Cond.instanceMethod yX12_chunks ∈ lw_G := mem_t6 16 rfl rfl
theorem kw_1298 : Cond.code yX12_chunks cX12_chunks 8 none ∈ lw_G := mem_t6 17 rfl rfl
theorem kw_1299 : Cond.constantLong RX12 200 (6) ∈ lw_G := mem_t6 18 rfl rfl
theorem kw_1300 : Cond.methodLink RX12 202 yX12_stream ∈ lw_G := mem_t6 19 rfl rfl
theorem kw_1301 : Cond.static yX12_stream ∈ lw_G := mem_t6 20 rfl rfl
theorem kw_1302 : Cond.code yX12_stream cX12_stream 1 (some .int) ∈ lw_G := mem_t6 21 rfl rfl
theorem kw_1303 : Cond.constantLong RX12 196 (98338919763571) ∈ lw_G := mem_t6 22 rfl rfl
theorem kw_1304 : Cond.constantLong RX12 198 (255) ∈ lw_G := mem_t6 23 rfl rfl
theorem kw_1305 : Cond.methodLink RX12 205 yX12_crcOf ∈ lw_G := mem_t6 24 rfl rfl
theorem kw_1306 : Cond.static yX12_crcOf ∈ lw_G := mem_t6 25 rfl rfl
theorem kw_1307 : Cond.code yX12_crcOf cX12_crcOf 7 (some .int) ∈ lw_G := mem_t6 26 rfl rfl
theorem kw_1308 : Cond.constant RX12 18 (-2097792136) ∈ lw_G := mem_t6 27 rfl rfl
theorem kw_1309 : Cond.methodLink RX12 208 yX12_masked ∈ lw_G := mem_t6 28 rfl rfl
theorem kw_1310 : Cond.static yX12_masked ∈ lw_G := mem_t6 29 rfl rfl
theorem kw_1311 : Cond.code yX12_masked cX12_masked 1 (some .int) ∈ lw_G := mem_t6 30 rfl rfl
theorem kw_1312 : Cond.constant RX12 19 (-1568478504) ∈ lw_G := mem_t6 31 rfl rfl
theorem kw_1313 : Cond.methodLink RX12 211 yX12_elements ∈ lw_G := mem_t6 32 rfl rfl
theorem kw_1315 : Cond.instanceMethod yX12_elements ∈ lw_G := mem_t6 34 rfl rfl
theorem kw_1316 : Cond.code yX12_elements cX12_elements 8 none ∈ lw_G := mem_t6 35 rfl rfl
theorem kw_1317 : Cond.methodLink RX12 145 yX12_literal ∈ lw_G := mem_t6 36 rfl rfl
theorem kw_1319 : Cond.instanceMethod yX12_literal ∈ lw_G := mem_t6 38 rfl rfl
theorem kw_1320 : Cond.code yX12_literal cX12_literal 4 none ∈ lw_G := mem_t6 39 rfl rfl
theorem kw_1321 : Cond.methodLink RX12 297 yX12_keepBlocks ∈ lw_G := mem_t6 40 rfl rfl
theorem kw_1323 : Cond.instanceMethod yX12_keepBlocks ∈ lw_G := mem_t6 42 rfl rfl
theorem kw_1324 : Cond.code yX12_keepBlocks cX12_keepBlocks 1 none ∈ lw_G := mem_t6 43 rfl rfl
theorem kw_1325 : Cond.methodLink RX12 300 yX12_give ∈ lw_G := mem_t6 44 rfl rfl
theorem kw_1327 : Cond.instanceMethod yX12_give ∈ lw_G := mem_t6 46 rfl rfl
theorem kw_1328 : Cond.code yX12_give cX12_give 1 (some .int) ∈ lw_G := mem_t6 47 rfl rfl
theorem kw_1333 : Cond.methodLink RX12 304 yX12_layOut ∈ lw_G := mem_t6 52 rfl rfl
theorem kw_1335 : Cond.instanceMethod yX12_layOut ∈ lw_G := mem_t6 54 rfl rfl
theorem kw_1336 : Cond.code yX12_layOut cX12_layOut 1 none ∈ lw_G := mem_t6 55 rfl rfl
theorem kw_1341 : Cond.constantLong RX12 307 (80) ∈ lw_G := mem_t6 60 rfl rfl
theorem kw_1342 : Cond.constantLong RX12 309 (95) ∈ lw_G := mem_t6 61 rfl rfl
theorem kw_1343 : Cond.constantLong RX12 311 (128) ∈ lw_G := mem_t6 62 rfl rfl
theorem kw_1344 : Cond.constantLong RX12 313 (254) ∈ lw_G := mem_t6 63 rfl rfl
theorem kw_1349 : Cond.methodLink RX12 315 yX12_readFrames ∈ lw_G := mem_t6 68 rfl rfl
theorem kw_1351 : Cond.instanceMethod yX12_readFrames ∈ lw_G := mem_t6 70 rfl rfl
theorem kw_1352 : Cond.code yX12_readFrames cX12_readFrames 7 (some .boolean) ∈ lw_G := mem_t6 71 rfl rfl
theorem kw_1353 : Cond.methodLink RX12 235 yX12_no ∈ lw_G := mem_t6 72 rfl rfl
theorem kw_1355 : Cond.instanceMethod yX12_no ∈ lw_G := mem_t6 74 rfl rfl
theorem kw_1356 : Cond.code yX12_no cX12_no 3 (some .boolean) ∈ lw_G := mem_t6 75 rfl rfl
theorem kw_1357 : Cond.methodLink RX12 239 yX12_number ∈ lw_G := mem_t6 76 rfl rfl
theorem kw_1359 : Cond.instanceMethod yX12_number ∈ lw_G := mem_t6 78 rfl rfl
theorem kw_1360 : Cond.code yX12_number cX12_number 6 (some .long) ∈ lw_G := mem_t6 79 rfl rfl
theorem kw_1361 : Cond.methodLink RX12 249 yX12_readFrame ∈ lw_G := mem_t6 80 rfl rfl
theorem kw_1363 : Cond.instanceMethod yX12_readFrame ∈ lw_G := mem_t6 82 rfl rfl
theorem kw_1364 : Cond.code yX12_readFrame cX12_readFrame 11 (some .boolean) ∈ lw_G := mem_t6 83 rfl rfl
theorem kw_1365 : Cond.methodLink RX12 257 yX12_readBlock ∈ lw_G := mem_t6 84 rfl rfl
theorem kw_1367 : Cond.instanceMethod yX12_readBlock ∈ lw_G := mem_t6 86 rfl rfl
theorem kw_1368 : Cond.code yX12_readBlock cX12_readBlock 15 (some .boolean) ∈ lw_G := mem_t6 87 rfl rfl
theorem kw_1369 : Cond.constantLong RX12 261 (2147483647) ∈ lw_G := mem_t6 88 rfl rfl
theorem kw_1370 : Cond.constantLong RX12 245 (12000) ∈ lw_G := mem_t6 89 rfl rfl
theorem kw_1371 : Cond.methodLink RX12 263 yX12_readSequences ∈ lw_G := mem_t6 90 rfl rfl
theorem kw_1373 : Cond.instanceMethod yX12_readSequences ∈ lw_G := mem_t6 92 rfl rfl
theorem kw_1374 : Cond.code yX12_readSequences cX12_readSequences 11 (some .boolean) ∈ lw_G := mem_t6 93 rfl rfl
theorem kw_1375 : Cond.constantLong RX12 253 (407710288) ∈ lw_G := mem_t6 94 rfl rfl
theorem kw_1376 : Cond.constantLong RX12 255 (407710303) ∈ lw_G := mem_t6 95 rfl rfl
theorem kw_1377 : Cond.methodLink RX12 318 yX12_readChunks ∈ lw_G := mem_t6 96 rfl rfl
theorem kw_1379 : Cond.instanceMethod yX12_readChunks ∈ lw_G := mem_t6 98 rfl rfl
theorem kw_1380 : Cond.code yX12_readChunks cX12_readChunks 7 (some .boolean) ∈ lw_G := mem_t6 99 rfl rfl
theorem kw_1381 : Cond.constantLong RX12 268 (127) ∈ lw_G := mem_t6 100 rfl rfl
theorem kw_1382 : Cond.methodLink RX12 270 yX12_readChunk ∈ lw_G := mem_t6 101 rfl rfl
theorem kw_1384 : Cond.instanceMethod yX12_readChunk ∈ lw_G := mem_t6 103 rfl rfl
theorem kw_1385 : Cond.code yX12_readChunk cX12_readChunk 6 (some .boolean) ∈ lw_G := mem_t6 104 rfl rfl
theorem kw_1386 : Cond.methodLink RX12 274 yX12_readElements ∈ lw_G := mem_t6 105 rfl rfl
theorem kw_1388 : Cond.instanceMethod yX12_readElements ∈ lw_G := mem_t6 107 rfl rfl
theorem kw_1389 : Cond.code yX12_readElements cX12_readElements 19 (some .boolean) ∈ lw_G := mem_t6 108 rfl rfl
theorem kw_1390 : Cond.constantLong RX12 243 (4294967295) ∈ lw_G := mem_t6 109 rfl rfl
theorem kw_1391 : Cond.constantLong RX12 247 (256) ∈ lw_G := mem_t6 110 rfl rfl
theorem kw_1404 : Cond.methodLink RX12 321 yX12_longestTo ∈ lw_G := mem_t6 123 rfl rfl
theorem kw_1406 : Cond.instanceMethod yX12_longestTo ∈ lw_G := mem_t6 125 rfl rfl
theorem kw_1407 : Cond.code yX12_longestTo cX12_longestTo 6 (some .int) ∈ lw_G := mem_t6 126 rfl rfl
theorem kw_1416 : Cond.constantLong RX12 324 (-1) ∈ lw_G := mem_t6 135 rfl rfl
theorem kw_1421 : Cond.constantLong RX12 326 (32) ∈ lw_G := mem_t6 140 rfl rfl
theorem kw_1426 : Cond.selects RX3 yX3_headOf yX3_headOf ∈ lw_G := mem_t6 145 rfl rfl
