/-- the fuel of a loop: more than any of them goes round -/
def FU : Nat := 300
theorem iX0 : ∀ w ∈ u_ws RX0 TX0 2, w ∈ GW := by decide +kernel
theorem iX1 : ∀ w ∈ u_ws RX1 TX1 5, w ∈ GW := by decide +kernel
theorem iX2 : ∀ w ∈ u_ws RX2 TX2 4, w ∈ GW := by decide +kernel
theorem iX3 : ∀ w ∈ u_ws RX3 TX3 2, w ∈ GW := by decide +kernel
theorem iX4 : ∀ w ∈ u_ws RX4 TX4 12, w ∈ GW := by decide +kernel
theorem iX5 : ∀ w ∈ u_ws RX5 TX5 26, w ∈ GW := by decide +kernel
abbrev cwX0_note : Cond := .code yX0_note cX0_note 6 none
theorem qdX0_note : yX0_note.cls ≠ "java/lang/invoke/MethodHandle" ∧ yX0_note.cls ≠ "java/lang/invoke/VarHandle" ∧ (parseMethodDescriptor yX0_note.desc).map (fun d => d.parameters.length) = some 4 := by decide +kernel
abbrev cwX0_isAtRest : Cond := .code yX0_isAtRest cX0_isAtRest 5 (some .boolean)
theorem qdX0_isAtRest : yX0_isAtRest.cls ≠ "java/lang/invoke/MethodHandle" ∧ yX0_isAtRest.cls ≠ "java/lang/invoke/VarHandle" ∧ (parseMethodDescriptor yX0_isAtRest.desc).map (fun d => d.parameters.length) = some 1 := by decide +kernel
abbrev cwX0_countAtRest : Cond := .code yX0_countAtRest cX0_countAtRest 3 (some .int)
theorem qdX0_countAtRest : yX0_countAtRest.cls ≠ "java/lang/invoke/MethodHandle" ∧ yX0_countAtRest.cls ≠ "java/lang/invoke/VarHandle" ∧ (parseMethodDescriptor yX0_countAtRest.desc).map (fun d => d.parameters.length) = some 0 := by decide +kernel
abbrev cwX0_firstAtRest : Cond := .code yX0_firstAtRest cX0_firstAtRest 2 (some .int)
theorem qdX0_firstAtRest : yX0_firstAtRest.cls ≠ "java/lang/invoke/MethodHandle" ∧ yX0_firstAtRest.cls ≠ "java/lang/invoke/VarHandle" ∧ (parseMethodDescriptor yX0_firstAtRest.desc).map (fun d => d.parameters.length) = some 0 := by decide +kernel
abbrev cwX1_clear : Cond := .code yX1_clear cX1_clear 2 none
theorem qdX1_clear : yX1_clear.cls ≠ "java/lang/invoke/MethodHandle" ∧ yX1_clear.cls ≠ "java/lang/invoke/VarHandle" ∧ (parseMethodDescriptor yX1_clear.desc).map (fun d => d.parameters.length) = some 0 := by decide +kernel
abbrev cwX1_copyFrom : Cond := .code yX1_copyFrom cX1_copyFrom 3 none
theorem qdX1_copyFrom : yX1_copyFrom.cls ≠ "java/lang/invoke/MethodHandle" ∧ yX1_copyFrom.cls ≠ "java/lang/invoke/VarHandle" ∧ (parseMethodDescriptor yX1_copyFrom.desc).map (fun d => d.parameters.length) = some 1 := by decide +kernel
abbrev cwJ6_bitCount_0f7a4 : Cond := .code yJ6_bitCount_0f7a4 cJ6_bitCount_0f7a4 1 (some .int)
theorem qdJ6_bitCount_0f7a4 : yJ6_bitCount_0f7a4.cls ≠ "java/lang/invoke/MethodHandle" ∧ yJ6_bitCount_0f7a4.cls ≠ "java/lang/invoke/VarHandle" ∧ (parseMethodDescriptor yJ6_bitCount_0f7a4.desc).map (fun d => d.parameters.length) = some 1 := by decide +kernel
abbrev cwX1_size : Cond := .code yX1_size cX1_size 1 (some .int)
theorem qdX1_size : yX1_size.cls ≠ "java/lang/invoke/MethodHandle" ∧ yX1_size.cls ≠ "java/lang/invoke/VarHandle" ∧ (parseMethodDescriptor yX1_size.desc).map (fun d => d.parameters.length) = some 0 := by decide +kernel
abbrev cwX1_has : Cond := .code yX1_has cX1_has 2 (some .boolean)
theorem qdX1_has : yX1_has.cls ≠ "java/lang/invoke/MethodHandle" ∧ yX1_has.cls ≠ "java/lang/invoke/VarHandle" ∧ (parseMethodDescriptor yX1_has.desc).map (fun d => d.parameters.length) = some 1 := by decide +kernel
abbrev cwX1_kindOf : Cond := .code yX1_kindOf cX1_kindOf 2 (some .int)
theorem qdX1_kindOf : yX1_kindOf.cls ≠ "java/lang/invoke/MethodHandle" ∧ yX1_kindOf.cls ≠ "java/lang/invoke/VarHandle" ∧ (parseMethodDescriptor yX1_kindOf.desc).map (fun d => d.parameters.length) = some 1 := by decide +kernel
abbrev cwX4_cardsOf : Cond := .code yX4_cardsOf cX4_cardsOf 1 (some .int)
theorem qdX4_cardsOf : yX4_cardsOf.cls ≠ "java/lang/invoke/MethodHandle" ∧ yX4_cardsOf.cls ≠ "java/lang/invoke/VarHandle" ∧ (parseMethodDescriptor yX4_cardsOf.desc).map (fun d => d.parameters.length) = some 1 := by decide +kernel
abbrev cwX4_cardWeight : Cond := .code yX4_cardWeight cX4_cardWeight 1 (some .int)
theorem qdX4_cardWeight : yX4_cardWeight.cls ≠ "java/lang/invoke/MethodHandle" ∧ yX4_cardWeight.cls ≠ "java/lang/invoke/VarHandle" ∧ (parseMethodDescriptor yX4_cardWeight.desc).map (fun d => d.parameters.length) = some 1 := by decide +kernel
abbrev cwX1_weightOf : Cond := .code yX1_weightOf cX1_weightOf 2 (some .int)
theorem qdX1_weightOf : yX1_weightOf.cls ≠ "java/lang/invoke/MethodHandle" ∧ yX1_weightOf.cls ≠ "java/lang/invoke/VarHandle" ∧ (parseMethodDescriptor yX1_weightOf.desc).map (fun d => d.parameters.length) = some 1 := by decide +kernel
abbrev cwX1_highestLevel : Cond := .code yX1_highestLevel cX1_highestLevel 3 (some .int)
theorem qdX1_highestLevel : yX1_highestLevel.cls ≠ "java/lang/invoke/MethodHandle" ∧ yX1_highestLevel.cls ≠ "java/lang/invoke/VarHandle" ∧ (parseMethodDescriptor yX1_highestLevel.desc).map (fun d => d.parameters.length) = some 0 := by decide +kernel
abbrev cwX4_isKind : Cond := .code yX4_isKind cX4_isKind 1 (some .boolean)
theorem qdX4_isKind : yX4_isKind.cls ≠ "java/lang/invoke/MethodHandle" ∧ yX4_isKind.cls ≠ "java/lang/invoke/VarHandle" ∧ (parseMethodDescriptor yX4_isKind.desc).map (fun d => d.parameters.length) = some 1 := by decide +kernel
abbrev cwX1_cardsLeft : Cond := .code yX1_cardsLeft cX1_cardsLeft 4 (some .int)
theorem qdX1_cardsLeft : yX1_cardsLeft.cls ≠ "java/lang/invoke/MethodHandle" ∧ yX1_cardsLeft.cls ≠ "java/lang/invoke/VarHandle" ∧ (parseMethodDescriptor yX1_cardsLeft.desc).map (fun d => d.parameters.length) = some 1 := by decide +kernel
abbrev cwX1_mostCardsLeft : Cond := .code yX1_mostCardsLeft cX1_mostCardsLeft 3 (some .int)
theorem qdX1_mostCardsLeft : yX1_mostCardsLeft.cls ≠ "java/lang/invoke/MethodHandle" ∧ yX1_mostCardsLeft.cls ≠ "java/lang/invoke/VarHandle" ∧ (parseMethodDescriptor yX1_mostCardsLeft.desc).map (fun d => d.parameters.length) = some 0 := by decide +kernel
abbrev cwX4_isPiece : Cond := .code yX4_isPiece cX4_isPiece 1 (some .boolean)
theorem qdX4_isPiece : yX4_isPiece.cls ≠ "java/lang/invoke/MethodHandle" ∧ yX4_isPiece.cls ≠ "java/lang/invoke/VarHandle" ∧ (parseMethodDescriptor yX4_isPiece.desc).map (fun d => d.parameters.length) = some 1 := by decide +kernel
abbrev cwX1_hasRoomFor : Cond := .code yX1_hasRoomFor cX1_hasRoomFor 2 (some .boolean)
theorem qdX1_hasRoomFor : yX1_hasRoomFor.cls ≠ "java/lang/invoke/MethodHandle" ∧ yX1_hasRoomFor.cls ≠ "java/lang/invoke/VarHandle" ∧ (parseMethodDescriptor yX1_hasRoomFor.desc).map (fun d => d.parameters.length) = some 1 := by decide +kernel
abbrev cwX1_canLay : Cond := .code yX1_canLay cX1_canLay 3 (some .boolean)
theorem qdX1_canLay : yX1_canLay.cls ≠ "java/lang/invoke/MethodHandle" ∧ yX1_canLay.cls ≠ "java/lang/invoke/VarHandle" ∧ (parseMethodDescriptor yX1_canLay.desc).map (fun d => d.parameters.length) = some 2 := by decide +kernel
abbrev cwX1_place : Cond := .code yX1_place cX1_place 3 none
theorem qdX1_place : yX1_place.cls ≠ "java/lang/invoke/MethodHandle" ∧ yX1_place.cls ≠ "java/lang/invoke/VarHandle" ∧ (parseMethodDescriptor yX1_place.desc).map (fun d => d.parameters.length) = some 2 := by decide +kernel
abbrev cwX1_weigh : Cond := .code yX1_weigh cX1_weigh 6 none
theorem qdX1_weigh : yX1_weigh.cls ≠ "java/lang/invoke/MethodHandle" ∧ yX1_weigh.cls ≠ "java/lang/invoke/VarHandle" ∧ (parseMethodDescriptor yX1_weigh.desc).map (fun d => d.parameters.length) = some 0 := by decide +kernel
abbrev cwX1_goneWith : Cond := .code yX1_goneWith cX1_goneWith 4 (some .int)
theorem qdX1_goneWith : yX1_goneWith.cls ≠ "java/lang/invoke/MethodHandle" ∧ yX1_goneWith.cls ≠ "java/lang/invoke/VarHandle" ∧ (parseMethodDescriptor yX1_goneWith.desc).map (fun d => d.parameters.length) = some 1 := by decide +kernel
abbrev cwX1_drop : Cond := .code yX1_drop cX1_drop 4 (some .int)
theorem qdX1_drop : yX1_drop.cls ≠ "java/lang/invoke/MethodHandle" ∧ yX1_drop.cls ≠ "java/lang/invoke/VarHandle" ∧ (parseMethodDescriptor yX1_drop.desc).map (fun d => d.parameters.length) = some 1 := by decide +kernel
abbrev cwX1_settle : Cond := .code yX1_settle cX1_settle 5 (some .int)
theorem qdX1_settle : yX1_settle.cls ≠ "java/lang/invoke/MethodHandle" ∧ yX1_settle.cls ≠ "java/lang/invoke/VarHandle" ∧ (parseMethodDescriptor yX1_settle.desc).map (fun d => d.parameters.length) = some 0 := by decide +kernel
abbrev cwX1_lay : Cond := .code yX1_lay cX1_lay 3 (some .int)
theorem qdX1_lay : yX1_lay.cls ≠ "java/lang/invoke/MethodHandle" ∧ yX1_lay.cls ≠ "java/lang/invoke/VarHandle" ∧ (parseMethodDescriptor yX1_lay.desc).map (fun d => d.parameters.length) = some 2 := by decide +kernel
abbrev cwX1_layIfCan : Cond := .code yX1_layIfCan cX1_layIfCan 3 (some .boolean)
theorem qdX1_layIfCan : yX1_layIfCan.cls ≠ "java/lang/invoke/MethodHandle" ∧ yX1_layIfCan.cls ≠ "java/lang/invoke/VarHandle" ∧ (parseMethodDescriptor yX1_layIfCan.desc).map (fun d => d.parameters.length) = some 2 := by decide +kernel
abbrev cwX1_canLift : Cond := .code yX1_canLift cX1_canLift 2 (some .boolean)
theorem qdX1_canLift : yX1_canLift.cls ≠ "java/lang/invoke/MethodHandle" ∧ yX1_canLift.cls ≠ "java/lang/invoke/VarHandle" ∧ (parseMethodDescriptor yX1_canLift.desc).map (fun d => d.parameters.length) = some 1 := by decide +kernel
abbrev cwX1_lift : Cond := .code yX1_lift cX1_lift 2 none
theorem qdX1_lift : yX1_lift.cls ≠ "java/lang/invoke/MethodHandle" ∧ yX1_lift.cls ≠ "java/lang/invoke/VarHandle" ∧ (parseMethodDescriptor yX1_lift.desc).map (fun d => d.parameters.length) = some 1 := by decide +kernel
abbrev cwX1_liftIfCan : Cond := .code yX1_liftIfCan cX1_liftIfCan 2 (some .boolean)
theorem qdX1_liftIfCan : yX1_liftIfCan.cls ≠ "java/lang/invoke/MethodHandle" ∧ yX1_liftIfCan.cls ≠ "java/lang/invoke/VarHandle" ∧ (parseMethodDescriptor yX1_liftIfCan.desc).map (fun d => d.parameters.length) = some 1 := by decide +kernel
abbrev cwX4_isLevel : Cond := .code yX4_isLevel cX4_isLevel 1 (some .boolean)
theorem qdX4_isLevel : yX4_isLevel.cls ≠ "java/lang/invoke/MethodHandle" ∧ yX4_isLevel.cls ≠ "java/lang/invoke/VarHandle" ∧ (parseMethodDescriptor yX4_isLevel.desc).map (fun d => d.parameters.length) = some 1 := by decide +kernel
abbrev cwX1_isTentOfLevel : Cond := .code yX1_isTentOfLevel cX1_isTentOfLevel 3 (some .boolean)
theorem qdX1_isTentOfLevel : yX1_isTentOfLevel.cls ≠ "java/lang/invoke/MethodHandle" ∧ yX1_isTentOfLevel.cls ≠ "java/lang/invoke/VarHandle" ∧ (parseMethodDescriptor yX1_isTentOfLevel.desc).map (fun d => d.parameters.length) = some 2 := by decide +kernel
abbrev cwX4_steadiness : Cond := .code yX4_steadiness cX4_steadiness 2 (some .int)
theorem qdX4_steadiness : yX4_steadiness.cls ≠ "java/lang/invoke/MethodHandle" ∧ yX4_steadiness.cls ≠ "java/lang/invoke/VarHandle" ∧ (parseMethodDescriptor yX4_steadiness.desc).map (fun d => d.parameters.length) = some 2 := by decide +kernel
abbrev cwX1_blow : Cond := .code yX1_blow cX1_blow 5 (some .int)
theorem qdX1_blow : yX1_blow.cls ≠ "java/lang/invoke/MethodHandle" ∧ yX1_blow.cls ≠ "java/lang/invoke/VarHandle" ∧ (parseMethodDescriptor yX1_blow.desc).map (fun d => d.parameters.length) = some 2 := by decide +kernel
abbrev cwX4_isForce : Cond := .code yX4_isForce cX4_isForce 1 (some .boolean)
theorem qdX4_isForce : yX4_isForce.cls ≠ "java/lang/invoke/MethodHandle" ∧ yX4_isForce.cls ≠ "java/lang/invoke/VarHandle" ∧ (parseMethodDescriptor yX4_isForce.desc).map (fun d => d.parameters.length) = some 1 := by decide +kernel
abbrev cwX1_blowIfCan : Cond := .code yX1_blowIfCan cX1_blowIfCan 3 (some .boolean)
theorem qdX1_blowIfCan : yX1_blowIfCan.cls ≠ "java/lang/invoke/MethodHandle" ∧ yX1_blowIfCan.cls ≠ "java/lang/invoke/VarHandle" ∧ (parseMethodDescriptor yX1_blowIfCan.desc).map (fun d => d.parameters.length) = some 2 := by decide +kernel
abbrev cwX1_forceStood : Cond := .code yX1_forceStood cX1_forceStood 4 (some .int)
theorem qdX1_forceStood : yX1_forceStood.cls ≠ "java/lang/invoke/MethodHandle" ∧ yX1_forceStood.cls ≠ "java/lang/invoke/VarHandle" ∧ (parseMethodDescriptor yX1_forceStood.desc).map (fun d => d.parameters.length) = some 1 := by decide +kernel
abbrev cwX1_sizeWithout : Cond := .code yX1_sizeWithout cX1_sizeWithout 2 (some .int)
theorem qdX1_sizeWithout : yX1_sizeWithout.cls ≠ "java/lang/invoke/MethodHandle" ∧ yX1_sizeWithout.cls ≠ "java/lang/invoke/VarHandle" ∧ (parseMethodDescriptor yX1_sizeWithout.desc).map (fun d => d.parameters.length) = some 1 := by decide +kernel
abbrev cwX1_missingFor : Cond := .code yX1_missingFor cX1_missingFor 4 (some .int)
theorem qdX1_missingFor : yX1_missingFor.cls ≠ "java/lang/invoke/MethodHandle" ∧ yX1_missingFor.cls ≠ "java/lang/invoke/VarHandle" ∧ (parseMethodDescriptor yX1_missingFor.desc).map (fun d => d.parameters.length) = some 1 := by decide +kernel
abbrev cwX1_loadOf : Cond := .code yX1_loadOf cX1_loadOf 2 (some .int)
theorem qdX1_loadOf : yX1_loadOf.cls ≠ "java/lang/invoke/MethodHandle" ∧ yX1_loadOf.cls ≠ "java/lang/invoke/VarHandle" ∧ (parseMethodDescriptor yX1_loadOf.desc).map (fun d => d.parameters.length) = some 1 := by decide +kernel
abbrev cwX2_store : Cond := .code yX2_store cX2_store 3 none
theorem qdX2_store : yX2_store.cls ≠ "java/lang/invoke/MethodHandle" ∧ yX2_store.cls ≠ "java/lang/invoke/VarHandle" ∧ (parseMethodDescriptor yX2_store.desc).map (fun d => d.parameters.length) = some 2 := by decide +kernel
abbrev cwX2_restore : Cond := .code yX2_restore cX2_restore 3 none
theorem qdX2_restore : yX2_restore.cls ≠ "java/lang/invoke/MethodHandle" ∧ yX2_restore.cls ≠ "java/lang/invoke/VarHandle" ∧ (parseMethodDescriptor yX2_restore.desc).map (fun d => d.parameters.length) = some 2 := by decide +kernel
abbrev cwX2_forgetFirst : Cond := .code yX2_forgetFirst cX2_forgetFirst 2 none
theorem qdX2_forgetFirst : yX2_forgetFirst.cls ≠ "java/lang/invoke/MethodHandle" ∧ yX2_forgetFirst.cls ≠ "java/lang/invoke/VarHandle" ∧ (parseMethodDescriptor yX2_forgetFirst.desc).map (fun d => d.parameters.length) = some 0 := by decide +kernel
abbrev cwX3_append : Cond := .code yX3_append cX3_append 2 none
theorem qdX3_append : yX3_append.cls ≠ "java/lang/invoke/MethodHandle" ∧ yX3_append.cls ≠ "java/lang/invoke/VarHandle" ∧ (parseMethodDescriptor yX3_append.desc).map (fun d => d.parameters.length) = some 1 := by decide +kernel
abbrev cwX3_readFigure : Cond := .code yX3_readFigure cX3_readFigure 3 (some .boolean)
theorem qdX3_readFigure : yX3_readFigure.cls ≠ "java/lang/invoke/MethodHandle" ∧ yX3_readFigure.cls ≠ "java/lang/invoke/VarHandle" ∧ (parseMethodDescriptor yX3_readFigure.desc).map (fun d => d.parameters.length) = some 3 := by decide +kernel
abbrev cwX3_canBeTold : Cond := .code yX3_canBeTold cX3_canBeTold 3 (some .boolean)
theorem qdX3_canBeTold : yX3_canBeTold.cls ≠ "java/lang/invoke/MethodHandle" ∧ yX3_canBeTold.cls ≠ "java/lang/invoke/VarHandle" ∧ (parseMethodDescriptor yX3_canBeTold.desc).map (fun d => d.parameters.length) = some 3 := by decide +kernel
abbrev cwX3_canAnyBeTold : Cond := .code yX3_canAnyBeTold cX3_canAnyBeTold 3 (some .boolean)
theorem qdX3_canAnyBeTold : yX3_canAnyBeTold.cls ≠ "java/lang/invoke/MethodHandle" ∧ yX3_canAnyBeTold.cls ≠ "java/lang/invoke/VarHandle" ∧ (parseMethodDescriptor yX3_canAnyBeTold.desc).map (fun d => d.parameters.length) = some 1 := by decide +kernel
abbrev cwX3_readKind : Cond := .code yX3_readKind cX3_readKind 3 (some .boolean)
theorem qdX3_readKind : yX3_readKind.cls ≠ "java/lang/invoke/MethodHandle" ∧ yX3_readKind.cls ≠ "java/lang/invoke/VarHandle" ∧ (parseMethodDescriptor yX3_readKind.desc).map (fun d => d.parameters.length) = some 3 := by decide +kernel
abbrev cwX3_readLetter : Cond := .code yX3_readLetter cX3_readLetter 4 (some .boolean)
theorem qdX3_readLetter : yX3_readLetter.cls ≠ "java/lang/invoke/MethodHandle" ∧ yX3_readLetter.cls ≠ "java/lang/invoke/VarHandle" ∧ (parseMethodDescriptor yX3_readLetter.desc).map (fun d => d.parameters.length) = some 3 := by decide +kernel
abbrev cwX3_readInto : Cond := .code yX3_readInto cX3_readInto 3 (some .int)
theorem qdX3_readInto : yX3_readInto.cls ≠ "java/lang/invoke/MethodHandle" ∧ yX3_readInto.cls ≠ "java/lang/invoke/VarHandle" ∧ (parseMethodDescriptor yX3_readInto.desc).map (fun d => d.parameters.length) = some 1 := by decide +kernel
abbrev cwX4_write : Cond := .code yX4_write cX4_write 2 (some .int)
theorem qdX4_write : yX4_write.cls ≠ "java/lang/invoke/MethodHandle" ∧ yX4_write.cls ≠ "java/lang/invoke/VarHandle" ∧ (parseMethodDescriptor yX4_write.desc).map (fun d => d.parameters.length) = some 1 := by decide +kernel
abbrev cwX4_wipe : Cond := .code yX4_wipe cX4_wipe 2 (some .int)
theorem qdX4_wipe : yX4_wipe.cls ≠ "java/lang/invoke/MethodHandle" ∧ yX4_wipe.cls ≠ "java/lang/invoke/VarHandle" ∧ (parseMethodDescriptor yX4_wipe.desc).map (fun d => d.parameters.length) = some 0 := by decide +kernel
abbrev cwX4_fault : Cond := .code yX4_fault cX4_fault 1 (some .int)
theorem qdX4_fault : yX4_fault.cls ≠ "java/lang/invoke/MethodHandle" ∧ yX4_fault.cls ≠ "java/lang/invoke/VarHandle" ∧ (parseMethodDescriptor yX4_fault.desc).map (fun d => d.parameters.length) = some 0 := by decide +kernel
abbrev cwX4_house : Cond := .code yX4_house cX4_house 1 (some .int)
theorem qdX4_house : yX4_house.cls ≠ "java/lang/invoke/MethodHandle" ∧ yX4_house.cls ≠ "java/lang/invoke/VarHandle" ∧ (parseMethodDescriptor yX4_house.desc).map (fun d => d.parameters.length) = some 0 := by decide +kernel
abbrev cwX4_cardsInDeck : Cond := .code yX4_cardsInDeck cX4_cardsInDeck 3 (some .int)
theorem qdX4_cardsInDeck : yX4_cardsInDeck.cls ≠ "java/lang/invoke/MethodHandle" ∧ yX4_cardsInDeck.cls ≠ "java/lang/invoke/VarHandle" ∧ (parseMethodDescriptor yX4_cardsInDeck.desc).map (fun d => d.parameters.length) = some 0 := by decide +kernel
abbrev cwX4_about : Cond := .code yX4_about cX4_about 2 (some .int)
theorem qdX4_about : yX4_about.cls ≠ "java/lang/invoke/MethodHandle" ∧ yX4_about.cls ≠ "java/lang/invoke/VarHandle" ∧ (parseMethodDescriptor yX4_about.desc).map (fun d => d.parameters.length) = some 1 := by decide +kernel
abbrev cwX4_deck : Cond := .code yX4_deck cX4_deck 2 (some .int)
theorem qdX4_deck : yX4_deck.cls ≠ "java/lang/invoke/MethodHandle" ∧ yX4_deck.cls ≠ "java/lang/invoke/VarHandle" ∧ (parseMethodDescriptor yX4_deck.desc).map (fun d => d.parameters.length) = some 1 := by decide +kernel
abbrev cwX4_piece : Cond := .code yX4_piece cX4_piece 3 (some .int)
theorem qdX4_piece : yX4_piece.cls ≠ "java/lang/invoke/MethodHandle" ∧ yX4_piece.cls ≠ "java/lang/invoke/VarHandle" ∧ (parseMethodDescriptor yX4_piece.desc).map (fun d => d.parameters.length) = some 2 := by decide +kernel
abbrev cwX4_recordAct : Cond := .code yX4_recordAct cX4_recordAct 1 none
theorem qdX4_recordAct : yX4_recordAct.cls ≠ "java/lang/invoke/MethodHandle" ∧ yX4_recordAct.cls ≠ "java/lang/invoke/VarHandle" ∧ (parseMethodDescriptor yX4_recordAct.desc).map (fun d => d.parameters.length) = some 0 := by decide +kernel
abbrev cwX4_put : Cond := .code yX4_put cX4_put 3 (some .int)
theorem qdX4_put : yX4_put.cls ≠ "java/lang/invoke/MethodHandle" ∧ yX4_put.cls ≠ "java/lang/invoke/VarHandle" ∧ (parseMethodDescriptor yX4_put.desc).map (fun d => d.parameters.length) = some 2 := by decide +kernel
abbrev cwX4_take : Cond := .code yX4_take cX4_take 2 (some .int)
theorem qdX4_take : yX4_take.cls ≠ "java/lang/invoke/MethodHandle" ∧ yX4_take.cls ≠ "java/lang/invoke/VarHandle" ∧ (parseMethodDescriptor yX4_take.desc).map (fun d => d.parameters.length) = some 1 := by decide +kernel
abbrev cwX4_draught : Cond := .code yX4_draught cX4_draught 3 (some .int)
theorem qdX4_draught : yX4_draught.cls ≠ "java/lang/invoke/MethodHandle" ∧ yX4_draught.cls ≠ "java/lang/invoke/VarHandle" ∧ (parseMethodDescriptor yX4_draught.desc).map (fun d => d.parameters.length) = some 2 := by decide +kernel
abbrev cwX4_undo : Cond := .code yX4_undo cX4_undo 1 (some .int)
theorem qdX4_undo : yX4_undo.cls ≠ "java/lang/invoke/MethodHandle" ∧ yX4_undo.cls ≠ "java/lang/invoke/VarHandle" ∧ (parseMethodDescriptor yX4_undo.desc).map (fun d => d.parameters.length) = some 0 := by decide +kernel
abbrev cwX4_open : Cond := .code yX4_open cX4_open 5 (some .int)
theorem qdX4_open : yX4_open.cls ≠ "java/lang/invoke/MethodHandle" ∧ yX4_open.cls ≠ "java/lang/invoke/VarHandle" ∧ (parseMethodDescriptor yX4_open.desc).map (fun d => d.parameters.length) = some 1 := by decide +kernel
abbrev cwX4_spread : Cond := .code yX4_spread cX4_spread 2 (some .int)
theorem qdX4_spread : yX4_spread.cls ≠ "java/lang/invoke/MethodHandle" ∧ yX4_spread.cls ≠ "java/lang/invoke/VarHandle" ∧ (parseMethodDescriptor yX4_spread.desc).map (fun d => d.parameters.length) = some 1 := by decide +kernel
abbrev cwX4_stands : Cond := .code yX4_stands cX4_stands 2 (some .int)
theorem qdX4_stands : yX4_stands.cls ≠ "java/lang/invoke/MethodHandle" ∧ yX4_stands.cls ≠ "java/lang/invoke/VarHandle" ∧ (parseMethodDescriptor yX4_stands.desc).map (fun d => d.parameters.length) = some 1 := by decide +kernel
abbrev cwX4_wants : Cond := .code yX4_wants cX4_wants 5 (some .int)
theorem qdX4_wants : yX4_wants.cls ≠ "java/lang/invoke/MethodHandle" ∧ yX4_wants.cls ≠ "java/lang/invoke/VarHandle" ∧ (parseMethodDescriptor yX4_wants.desc).map (fun d => d.parameters.length) = some 2 := by decide +kernel
abbrev cwX4_fit : Cond := .code yX4_fit cX4_fit 3 (some .int)
theorem qdX4_fit : yX4_fit.cls ≠ "java/lang/invoke/MethodHandle" ∧ yX4_fit.cls ≠ "java/lang/invoke/VarHandle" ∧ (parseMethodDescriptor yX4_fit.desc).map (fun d => d.parameters.length) = some 1 := by decide +kernel
abbrev cwX4_canBeDone : Cond := .code yX4_canBeDone cX4_canBeDone 4 (some .boolean)
theorem qdX4_canBeDone : yX4_canBeDone.cls ≠ "java/lang/invoke/MethodHandle" ∧ yX4_canBeDone.cls ≠ "java/lang/invoke/VarHandle" ∧ (parseMethodDescriptor yX4_canBeDone.desc).map (fun d => d.parameters.length) = some 1 := by decide +kernel
abbrev cwX4_judge : Cond := .code yX4_judge cX4_judge 8 (some .int)
theorem qdX4_judge : yX4_judge.cls ≠ "java/lang/invoke/MethodHandle" ∧ yX4_judge.cls ≠ "java/lang/invoke/VarHandle" ∧ (parseMethodDescriptor yX4_judge.desc).map (fun d => d.parameters.length) = some 2 := by decide +kernel
abbrev cwX4_commonDivisor : Cond := .code yX4_commonDivisor cX4_commonDivisor 6 (some .int)
theorem qdX4_commonDivisor : yX4_commonDivisor.cls ≠ "java/lang/invoke/MethodHandle" ∧ yX4_commonDivisor.cls ≠ "java/lang/invoke/VarHandle" ∧ (parseMethodDescriptor yX4_commonDivisor.desc).map (fun d => d.parameters.length) = some 2 := by decide +kernel
abbrev cwX4_partOfFraction : Cond := .code yX4_partOfFraction cX4_partOfFraction 4 (some .int)
theorem qdX4_partOfFraction : yX4_partOfFraction.cls ≠ "java/lang/invoke/MethodHandle" ∧ yX4_partOfFraction.cls ≠ "java/lang/invoke/VarHandle" ∧ (parseMethodDescriptor yX4_partOfFraction.desc).map (fun d => d.parameters.length) = some 3 := by decide +kernel
abbrev cwX4_share : Cond := .code yX4_share cX4_share 7 (some .int)
theorem qdX4_share : yX4_share.cls ≠ "java/lang/invoke/MethodHandle" ∧ yX4_share.cls ≠ "java/lang/invoke/VarHandle" ∧ (parseMethodDescriptor yX4_share.desc).map (fun d => d.parameters.length) = some 2 := by decide +kernel
abbrev cwX4_kindsThatHold : Cond := .code yX4_kindsThatHold cX4_kindsThatHold 4 (some .int)
theorem qdX4_kindsThatHold : yX4_kindsThatHold.cls ≠ "java/lang/invoke/MethodHandle" ∧ yX4_kindsThatHold.cls ≠ "java/lang/invoke/VarHandle" ∧ (parseMethodDescriptor yX4_kindsThatHold.desc).map (fun d => d.parameters.length) = some 2 := by decide +kernel
abbrev cwX4_hold : Cond := .code yX4_hold cX4_hold 6 (some .int)
theorem qdX4_hold : yX4_hold.cls ≠ "java/lang/invoke/MethodHandle" ∧ yX4_hold.cls ≠ "java/lang/invoke/VarHandle" ∧ (parseMethodDescriptor yX4_hold.desc).map (fun d => d.parameters.length) = some 4 := by decide +kernel
abbrev cwX4_unhold : Cond := .code yX4_unhold cX4_unhold 2 (some .int)
theorem qdX4_unhold : yX4_unhold.cls ≠ "java/lang/invoke/MethodHandle" ∧ yX4_unhold.cls ≠ "java/lang/invoke/VarHandle" ∧ (parseMethodDescriptor yX4_unhold.desc).map (fun d => d.parameters.length) = some 0 := by decide +kernel
abbrev cwJ6_numberOfTrailingZeros_0f7a4 : Cond := .code yJ6_numberOfTrailingZeros_0f7a4 cJ6_numberOfTrailingZeros_0f7a4 2 (some .int)
theorem qdJ6_numberOfTrailingZeros_0f7a4 : yJ6_numberOfTrailingZeros_0f7a4.cls ≠ "java/lang/invoke/MethodHandle" ∧ yJ6_numberOfTrailingZeros_0f7a4.cls ≠ "java/lang/invoke/VarHandle" ∧ (parseMethodDescriptor yJ6_numberOfTrailingZeros_0f7a4.desc).map (fun d => d.parameters.length) = some 1 := by decide +kernel
abbrev cwX4_tents : Cond := .code yX4_tents cX4_tents 2 (some .int)
theorem qdX4_tents : yX4_tents.cls ≠ "java/lang/invoke/MethodHandle" ∧ yX4_tents.cls ≠ "java/lang/invoke/VarHandle" ∧ (parseMethodDescriptor yX4_tents.desc).map (fun d => d.parameters.length) = some 1 := by decide +kernel
abbrev cwX4_gain : Cond := .code yX4_gain cX4_gain 3 (some .int)
theorem qdX4_gain : yX4_gain.cls ≠ "java/lang/invoke/MethodHandle" ∧ yX4_gain.cls ≠ "java/lang/invoke/VarHandle" ∧ (parseMethodDescriptor yX4_gain.desc).map (fun d => d.parameters.length) = some 2 := by decide +kernel
abbrev cwX4_rests : Cond := .code yX4_rests cX4_rests 6 (some .int)
theorem qdX4_rests : yX4_rests.cls ≠ "java/lang/invoke/MethodHandle" ∧ yX4_rests.cls ≠ "java/lang/invoke/VarHandle" ∧ (parseMethodDescriptor yX4_rests.desc).map (fun d => d.parameters.length) = some 3 := by decide +kernel
abbrev cwX4_power : Cond := .code yX4_power cX4_power 4 (some .int)
theorem qdX4_power : yX4_power.cls ≠ "java/lang/invoke/MethodHandle" ∧ yX4_power.cls ≠ "java/lang/invoke/VarHandle" ∧ (parseMethodDescriptor yX4_power.desc).map (fun d => d.parameters.length) = some 2 := by decide +kernel
abbrev cwX4_shaken : Cond := .code yX4_shaken cX4_shaken 7 (some .int)
theorem qdX4_shaken : yX4_shaken.cls ≠ "java/lang/invoke/MethodHandle" ∧ yX4_shaken.cls ≠ "java/lang/invoke/VarHandle" ∧ (parseMethodDescriptor yX4_shaken.desc).map (fun d => d.parameters.length) = some 3 := by decide +kernel
abbrev cwX4_seed : Cond := .code yX4_seed cX4_seed 5 (some .long)
theorem qdX4_seed : yX4_seed.cls ≠ "java/lang/invoke/MethodHandle" ∧ yX4_seed.cls ≠ "java/lang/invoke/VarHandle" ∧ (parseMethodDescriptor yX4_seed.desc).map (fun d => d.parameters.length) = some 1 := by decide +kernel
abbrev cwX4_passEvening : Cond := .code yX4_passEvening cX4_passEvening 2 none
theorem qdX4_passEvening : yX4_passEvening.cls ≠ "java/lang/invoke/MethodHandle" ∧ yX4_passEvening.cls ≠ "java/lang/invoke/VarHandle" ∧ (parseMethodDescriptor yX4_passEvening.desc).map (fun d => d.parameters.length) = some 1 := by decide +kernel
abbrev cwX4_evenings : Cond := .code yX4_evenings cX4_evenings 4 (some .int)
theorem qdX4_evenings : yX4_evenings.cls ≠ "java/lang/invoke/MethodHandle" ∧ yX4_evenings.cls ≠ "java/lang/invoke/VarHandle" ∧ (parseMethodDescriptor yX4_evenings.desc).map (fun d => d.parameters.length) = some 1 := by decide +kernel
abbrev cwX4_isSlot : Cond := .code yX4_isSlot cX4_isSlot 1 (some .boolean)
theorem qdX4_isSlot : yX4_isSlot.cls ≠ "java/lang/invoke/MethodHandle" ∧ yX4_isSlot.cls ≠ "java/lang/invoke/VarHandle" ∧ (parseMethodDescriptor yX4_isSlot.desc).map (fun d => d.parameters.length) = some 1 := by decide +kernel
abbrev cwX4_keep : Cond := .code yX4_keep cX4_keep 2 (some .int)
theorem qdX4_keep : yX4_keep.cls ≠ "java/lang/invoke/MethodHandle" ∧ yX4_keep.cls ≠ "java/lang/invoke/VarHandle" ∧ (parseMethodDescriptor yX4_keep.desc).map (fun d => d.parameters.length) = some 1 := by decide +kernel
abbrev cwX4_again : Cond := .code yX4_again cX4_again 2 (some .int)
theorem qdX4_again : yX4_again.cls ≠ "java/lang/invoke/MethodHandle" ∧ yX4_again.cls ≠ "java/lang/invoke/VarHandle" ∧ (parseMethodDescriptor yX4_again.desc).map (fun d => d.parameters.length) = some 1 := by decide +kernel
abbrev cwX5_in : Cond := .code yX5_in cX5_in 6 (some .boolean)
theorem qdX5_in : yX5_in.cls ≠ "java/lang/invoke/MethodHandle" ∧ yX5_in.cls ≠ "java/lang/invoke/VarHandle" ∧ (parseMethodDescriptor yX5_in.desc).map (fun d => d.parameters.length) = some 3 := by decide +kernel
abbrev cwX5_has : Cond := .code yX5_has cX5_has 2 (some .boolean)
theorem qdX5_has : yX5_has.cls ≠ "java/lang/invoke/MethodHandle" ∧ yX5_has.cls ≠ "java/lang/invoke/VarHandle" ∧ (parseMethodDescriptor yX5_has.desc).map (fun d => d.parameters.length) = some 2 := by decide +kernel
abbrev cwX5_many : Cond := .code yX5_many cX5_many 3 (some .int)
theorem qdX5_many : yX5_many.cls ≠ "java/lang/invoke/MethodHandle" ∧ yX5_many.cls ≠ "java/lang/invoke/VarHandle" ∧ (parseMethodDescriptor yX5_many.desc).map (fun d => d.parameters.length) = some 1 := by decide +kernel
abbrev cwX5_power : Cond := .code yX5_power cX5_power 4 (some .int)
theorem qdX5_power : yX5_power.cls ≠ "java/lang/invoke/MethodHandle" ∧ yX5_power.cls ≠ "java/lang/invoke/VarHandle" ∧ (parseMethodDescriptor yX5_power.desc).map (fun d => d.parameters.length) = some 2 := by decide +kernel
abbrev cwX5_noPiece : Cond := .code yX5_noPiece cX5_noPiece 1 (some .boolean)
theorem qdX5_noPiece : yX5_noPiece.cls ≠ "java/lang/invoke/MethodHandle" ∧ yX5_noPiece.cls ≠ "java/lang/invoke/VarHandle" ∧ (parseMethodDescriptor yX5_noPiece.desc).map (fun d => d.parameters.length) = some 1 := by decide +kernel
abbrev cwX5_noKind : Cond := .code yX5_noKind cX5_noKind 1 (some .boolean)
theorem qdX5_noKind : yX5_noKind.cls ≠ "java/lang/invoke/MethodHandle" ∧ yX5_noKind.cls ≠ "java/lang/invoke/VarHandle" ∧ (parseMethodDescriptor yX5_noKind.desc).map (fun d => d.parameters.length) = some 1 := by decide +kernel
abbrev cwX5_level : Cond := .code yX5_level cX5_level 1 (some .int)
theorem qdX5_level : yX5_level.cls ≠ "java/lang/invoke/MethodHandle" ∧ yX5_level.cls ≠ "java/lang/invoke/VarHandle" ∧ (parseMethodDescriptor yX5_level.desc).map (fun d => d.parameters.length) = some 1 := by decide +kernel
abbrev cwX5_isFlat : Cond := .code yX5_isFlat cX5_isFlat 1 (some .boolean)
theorem qdX5_isFlat : yX5_isFlat.cls ≠ "java/lang/invoke/MethodHandle" ∧ yX5_isFlat.cls ≠ "java/lang/invoke/VarHandle" ∧ (parseMethodDescriptor yX5_isFlat.desc).map (fun d => d.parameters.length) = some 1 := by decide +kernel
abbrev cwX5_need : Cond := .code yX5_need cX5_need 1 (some .int)
theorem qdX5_need : yX5_need.cls ≠ "java/lang/invoke/MethodHandle" ∧ yX5_need.cls ≠ "java/lang/invoke/VarHandle" ∧ (parseMethodDescriptor yX5_need.desc).map (fun d => d.parameters.length) = some 1 := by decide +kernel
abbrev cwX5_below : Cond := .code yX5_below cX5_below 1 (some .int)
theorem qdX5_below : yX5_below.cls ≠ "java/lang/invoke/MethodHandle" ∧ yX5_below.cls ≠ "java/lang/invoke/VarHandle" ∧ (parseMethodDescriptor yX5_below.desc).map (fun d => d.parameters.length) = some 1 := by decide +kernel
abbrev cwX5_weighs : Cond := .code yX5_weighs cX5_weighs 2 (some .int)
theorem qdX5_weighs : yX5_weighs.cls ≠ "java/lang/invoke/MethodHandle" ∧ yX5_weighs.cls ≠ "java/lang/invoke/VarHandle" ∧ (parseMethodDescriptor yX5_weighs.desc).map (fun d => d.parameters.length) = some 2 := by decide +kernel
abbrev cwX5_bearsBy : Cond := .code yX5_bearsBy cX5_bearsBy 1 (some .int)
theorem qdX5_bearsBy : yX5_bearsBy.cls ≠ "java/lang/invoke/MethodHandle" ∧ yX5_bearsBy.cls ≠ "java/lang/invoke/VarHandle" ∧ (parseMethodDescriptor yX5_bearsBy.desc).map (fun d => d.parameters.length) = some 1 := by decide +kernel
abbrev cwX5_grip : Cond := .code yX5_grip cX5_grip 1 (some .int)
theorem qdX5_grip : yX5_grip.cls ≠ "java/lang/invoke/MethodHandle" ∧ yX5_grip.cls ≠ "java/lang/invoke/VarHandle" ∧ (parseMethodDescriptor yX5_grip.desc).map (fun d => d.parameters.length) = some 1 := by decide +kernel
abbrev cwX5_there : Cond := .code yX5_there cX5_there 3 (some .int)
theorem qdX5_there : yX5_there.cls ≠ "java/lang/invoke/MethodHandle" ∧ yX5_there.cls ≠ "java/lang/invoke/VarHandle" ∧ (parseMethodDescriptor yX5_there.desc).map (fun d => d.parameters.length) = some 1 := by decide +kernel
abbrev cwX5_used : Cond := .code yX5_used cX5_used 4 (some .int)
theorem qdX5_used : yX5_used.cls ≠ "java/lang/invoke/MethodHandle" ∧ yX5_used.cls ≠ "java/lang/invoke/VarHandle" ∧ (parseMethodDescriptor yX5_used.desc).map (fun d => d.parameters.length) = some 2 := by decide +kernel
abbrev cwX5_left : Cond := .code yX5_left cX5_left 3 (some .int)
theorem qdX5_left : yX5_left.cls ≠ "java/lang/invoke/MethodHandle" ∧ yX5_left.cls ≠ "java/lang/invoke/VarHandle" ∧ (parseMethodDescriptor yX5_left.desc).map (fun d => d.parameters.length) = some 2 := by decide +kernel
abbrev cwX5_layLoads : Cond := .code yX5_layLoads cX5_layLoads 5 none
theorem qdX5_layLoads : yX5_layLoads.cls ≠ "java/lang/invoke/MethodHandle" ∧ yX5_layLoads.cls ≠ "java/lang/invoke/VarHandle" ∧ (parseMethodDescriptor yX5_layLoads.desc).map (fun d => d.parameters.length) = some 1 := by decide +kernel
abbrev cwX5_spreadOf : Cond := .code yX5_spreadOf cX5_spreadOf 4 (some .int)
theorem qdX5_spreadOf : yX5_spreadOf.cls ≠ "java/lang/invoke/MethodHandle" ∧ yX5_spreadOf.cls ≠ "java/lang/invoke/VarHandle" ∧ (parseMethodDescriptor yX5_spreadOf.desc).map (fun d => d.parameters.length) = some 2 := by decide +kernel
abbrev cwX5_fallAll : Cond := .code yX5_fallAll cX5_fallAll 4 (some .int)
theorem qdX5_fallAll : yX5_fallAll.cls ≠ "java/lang/invoke/MethodHandle" ∧ yX5_fallAll.cls ≠ "java/lang/invoke/VarHandle" ∧ (parseMethodDescriptor yX5_fallAll.desc).map (fun d => d.parameters.length) = some 2 := by decide +kernel
abbrev cwX5_weak : Cond := .code yX5_weak cX5_weak 4 (some .int)
theorem qdX5_weak : yX5_weak.cls ≠ "java/lang/invoke/MethodHandle" ∧ yX5_weak.cls ≠ "java/lang/invoke/VarHandle" ∧ (parseMethodDescriptor yX5_weak.desc).map (fun d => d.parameters.length) = some 1 := by decide +kernel
abbrev cwX5_settle : Cond := .code yX5_settle cX5_settle 4 (some .int)
theorem qdX5_settle : yX5_settle.cls ≠ "java/lang/invoke/MethodHandle" ∧ yX5_settle.cls ≠ "java/lang/invoke/VarHandle" ∧ (parseMethodDescriptor yX5_settle.desc).map (fun d => d.parameters.length) = some 1 := by decide +kernel
abbrev cwX5_write : Cond := .code yX5_write cX5_write 2 (some .int)
theorem qdX5_write : yX5_write.cls ≠ "java/lang/invoke/MethodHandle" ∧ yX5_write.cls ≠ "java/lang/invoke/VarHandle" ∧ (parseMethodDescriptor yX5_write.desc).map (fun d => d.parameters.length) = some 1 := by decide +kernel
abbrev cwX5_wipe : Cond := .code yX5_wipe cX5_wipe 2 (some .int)
theorem qdX5_wipe : yX5_wipe.cls ≠ "java/lang/invoke/MethodHandle" ∧ yX5_wipe.cls ≠ "java/lang/invoke/VarHandle" ∧ (parseMethodDescriptor yX5_wipe.desc).map (fun d => d.parameters.length) = some 0 := by decide +kernel
abbrev cwX5_figure : Cond := .code yX5_figure cX5_figure 2 (some .int)
theorem qdX5_figure : yX5_figure.cls ≠ "java/lang/invoke/MethodHandle" ∧ yX5_figure.cls ≠ "java/lang/invoke/VarHandle" ∧ (parseMethodDescriptor yX5_figure.desc).map (fun d => d.parameters.length) = some 1 := by decide +kernel
abbrev cwX5_enough : Cond := .code yX5_enough cX5_enough 3 (some .boolean)
theorem qdX5_enough : yX5_enough.cls ≠ "java/lang/invoke/MethodHandle" ∧ yX5_enough.cls ≠ "java/lang/invoke/VarHandle" ∧ (parseMethodDescriptor yX5_enough.desc).map (fun d => d.parameters.length) = some 2 := by decide +kernel
abbrev cwX5_couldCome : Cond := .code yX5_couldCome cX5_couldCome 2 (some .boolean)
theorem qdX5_couldCome : yX5_couldCome.cls ≠ "java/lang/invoke/MethodHandle" ∧ yX5_couldCome.cls ≠ "java/lang/invoke/VarHandle" ∧ (parseMethodDescriptor yX5_couldCome.desc).map (fun d => d.parameters.length) = some 1 := by decide +kernel
abbrev cwX5_couldAny : Cond := .code yX5_couldAny cX5_couldAny 3 (some .boolean)
theorem qdX5_couldAny : yX5_couldAny.cls ≠ "java/lang/invoke/MethodHandle" ∧ yX5_couldAny.cls ≠ "java/lang/invoke/VarHandle" ∧ (parseMethodDescriptor yX5_couldAny.desc).map (fun d => d.parameters.length) = some 0 := by decide +kernel
abbrev cwX5_readPiece : Cond := .code yX5_readPiece cX5_readPiece 3 (some .boolean)
theorem qdX5_readPiece : yX5_readPiece.cls ≠ "java/lang/invoke/MethodHandle" ∧ yX5_readPiece.cls ≠ "java/lang/invoke/VarHandle" ∧ (parseMethodDescriptor yX5_readPiece.desc).map (fun d => d.parameters.length) = some 0 := by decide +kernel
abbrev cwX5_readHead : Cond := .code yX5_readHead cX5_readHead 3 (some .boolean)
theorem qdX5_readHead : yX5_readHead.cls ≠ "java/lang/invoke/MethodHandle" ∧ yX5_readHead.cls ≠ "java/lang/invoke/VarHandle" ∧ (parseMethodDescriptor yX5_readHead.desc).map (fun d => d.parameters.length) = some 0 := by decide +kernel
abbrev cwX5_readHouse : Cond := .code yX5_readHouse cX5_readHouse 2 (some .int)
theorem qdX5_readHouse : yX5_readHouse.cls ≠ "java/lang/invoke/MethodHandle" ∧ yX5_readHouse.cls ≠ "java/lang/invoke/VarHandle" ∧ (parseMethodDescriptor yX5_readHouse.desc).map (fun d => d.parameters.length) = some 0 := by decide +kernel
abbrev cwX5_fault : Cond := .code yX5_fault cX5_fault 1 (some .int)
theorem qdX5_fault : yX5_fault.cls ≠ "java/lang/invoke/MethodHandle" ∧ yX5_fault.cls ≠ "java/lang/invoke/VarHandle" ∧ (parseMethodDescriptor yX5_fault.desc).map (fun d => d.parameters.length) = some 0 := by decide +kernel
abbrev cwX5_house : Cond := .code yX5_house cX5_house 2 (some .int)
theorem qdX5_house : yX5_house.cls ≠ "java/lang/invoke/MethodHandle" ∧ yX5_house.cls ≠ "java/lang/invoke/VarHandle" ∧ (parseMethodDescriptor yX5_house.desc).map (fun d => d.parameters.length) = some 0 := by decide +kernel
abbrev cwX5_deckAll : Cond := .code yX5_deckAll cX5_deckAll 1 (some .int)
theorem qdX5_deckAll : yX5_deckAll.cls ≠ "java/lang/invoke/MethodHandle" ∧ yX5_deckAll.cls ≠ "java/lang/invoke/VarHandle" ∧ (parseMethodDescriptor yX5_deckAll.desc).map (fun d => d.parameters.length) = some 0 := by decide +kernel
abbrev cwX5_highest : Cond := .code yX5_highest cX5_highest 3 (some .int)
theorem qdX5_highest : yX5_highest.cls ≠ "java/lang/invoke/MethodHandle" ∧ yX5_highest.cls ≠ "java/lang/invoke/VarHandle" ∧ (parseMethodDescriptor yX5_highest.desc).map (fun d => d.parameters.length) = some 0 := by decide +kernel
abbrev cwX5_about : Cond := .code yX5_about cX5_about 2 (some .int)
theorem qdX5_about : yX5_about.cls ≠ "java/lang/invoke/MethodHandle" ∧ yX5_about.cls ≠ "java/lang/invoke/VarHandle" ∧ (parseMethodDescriptor yX5_about.desc).map (fun d => d.parameters.length) = some 1 := by decide +kernel
abbrev cwX5_deck : Cond := .code yX5_deck cX5_deck 2 (some .int)
theorem qdX5_deck : yX5_deck.cls ≠ "java/lang/invoke/MethodHandle" ∧ yX5_deck.cls ≠ "java/lang/invoke/VarHandle" ∧ (parseMethodDescriptor yX5_deck.desc).map (fun d => d.parameters.length) = some 1 := by decide +kernel
abbrev cwX5_isTop : Cond := .code yX5_isTop cX5_isTop 2 (some .boolean)
theorem qdX5_isTop : yX5_isTop.cls ≠ "java/lang/invoke/MethodHandle" ∧ yX5_isTop.cls ≠ "java/lang/invoke/VarHandle" ∧ (parseMethodDescriptor yX5_isTop.desc).map (fun d => d.parameters.length) = some 2 := by decide +kernel
abbrev cwX5_piece : Cond := .code yX5_piece cX5_piece 3 (some .int)
theorem qdX5_piece : yX5_piece.cls ≠ "java/lang/invoke/MethodHandle" ∧ yX5_piece.cls ≠ "java/lang/invoke/VarHandle" ∧ (parseMethodDescriptor yX5_piece.desc).map (fun d => d.parameters.length) = some 2 := by decide +kernel
abbrev cwX5_note : Cond := .code yX5_note cX5_note 2 none
theorem qdX5_note : yX5_note.cls ≠ "java/lang/invoke/MethodHandle" ∧ yX5_note.cls ≠ "java/lang/invoke/VarHandle" ∧ (parseMethodDescriptor yX5_note.desc).map (fun d => d.parameters.length) = some 0 := by decide +kernel
abbrev cwX5_canPut : Cond := .code yX5_canPut cX5_canPut 4 (some .boolean)
theorem qdX5_canPut : yX5_canPut.cls ≠ "java/lang/invoke/MethodHandle" ∧ yX5_canPut.cls ≠ "java/lang/invoke/VarHandle" ∧ (parseMethodDescriptor yX5_canPut.desc).map (fun d => d.parameters.length) = some 3 := by decide +kernel
abbrev cwX5_goPut : Cond := .code yX5_goPut cX5_goPut 5 (some .int)
theorem qdX5_goPut : yX5_goPut.cls ≠ "java/lang/invoke/MethodHandle" ∧ yX5_goPut.cls ≠ "java/lang/invoke/VarHandle" ∧ (parseMethodDescriptor yX5_goPut.desc).map (fun d => d.parameters.length) = some 3 := by decide +kernel
abbrev cwX5_put : Cond := .code yX5_put cX5_put 3 (some .int)
theorem qdX5_put : yX5_put.cls ≠ "java/lang/invoke/MethodHandle" ∧ yX5_put.cls ≠ "java/lang/invoke/VarHandle" ∧ (parseMethodDescriptor yX5_put.desc).map (fun d => d.parameters.length) = some 2 := by decide +kernel
abbrev cwX5_take : Cond := .code yX5_take cX5_take 2 (some .int)
theorem qdX5_take : yX5_take.cls ≠ "java/lang/invoke/MethodHandle" ∧ yX5_take.cls ≠ "java/lang/invoke/VarHandle" ∧ (parseMethodDescriptor yX5_take.desc).map (fun d => d.parameters.length) = some 1 := by decide +kernel
abbrev cwX5_isTentOf : Cond := .code yX5_isTentOf cX5_isTentOf 4 (some .boolean)
theorem qdX5_isTentOf : yX5_isTentOf.cls ≠ "java/lang/invoke/MethodHandle" ∧ yX5_isTentOf.cls ≠ "java/lang/invoke/VarHandle" ∧ (parseMethodDescriptor yX5_isTentOf.desc).map (fun d => d.parameters.length) = some 3 := by decide +kernel
abbrev cwX5_firm : Cond := .code yX5_firm cX5_firm 3 (some .int)
theorem qdX5_firm : yX5_firm.cls ≠ "java/lang/invoke/MethodHandle" ∧ yX5_firm.cls ≠ "java/lang/invoke/VarHandle" ∧ (parseMethodDescriptor yX5_firm.desc).map (fun d => d.parameters.length) = some 2 := by decide +kernel
abbrev cwX5_goDraught : Cond := .code yX5_goDraught cX5_goDraught 6 (some .int)
theorem qdX5_goDraught : yX5_goDraught.cls ≠ "java/lang/invoke/MethodHandle" ∧ yX5_goDraught.cls ≠ "java/lang/invoke/VarHandle" ∧ (parseMethodDescriptor yX5_goDraught.desc).map (fun d => d.parameters.length) = some 3 := by decide +kernel
abbrev cwX5_draught : Cond := .code yX5_draught cX5_draught 3 (some .int)
theorem qdX5_draught : yX5_draught.cls ≠ "java/lang/invoke/MethodHandle" ∧ yX5_draught.cls ≠ "java/lang/invoke/VarHandle" ∧ (parseMethodDescriptor yX5_draught.desc).map (fun d => d.parameters.length) = some 2 := by decide +kernel
abbrev cwX5_undo : Cond := .code yX5_undo cX5_undo 2 (some .int)
theorem qdX5_undo : yX5_undo.cls ≠ "java/lang/invoke/MethodHandle" ∧ yX5_undo.cls ≠ "java/lang/invoke/VarHandle" ∧ (parseMethodDescriptor yX5_undo.desc).map (fun d => d.parameters.length) = some 0 := by decide +kernel
abbrev cwX5_open : Cond := .code yX5_open cX5_open 4 (some .int)
theorem qdX5_open : yX5_open.cls ≠ "java/lang/invoke/MethodHandle" ∧ yX5_open.cls ≠ "java/lang/invoke/VarHandle" ∧ (parseMethodDescriptor yX5_open.desc).map (fun d => d.parameters.length) = some 1 := by decide +kernel
abbrev cwX5_spread : Cond := .code yX5_spread cX5_spread 2 (some .int)
theorem qdX5_spread : yX5_spread.cls ≠ "java/lang/invoke/MethodHandle" ∧ yX5_spread.cls ≠ "java/lang/invoke/VarHandle" ∧ (parseMethodDescriptor yX5_spread.desc).map (fun d => d.parameters.length) = some 1 := by decide +kernel
abbrev cwX5_stands : Cond := .code yX5_stands cX5_stands 5 (some .int)
theorem qdX5_stands : yX5_stands.cls ≠ "java/lang/invoke/MethodHandle" ∧ yX5_stands.cls ≠ "java/lang/invoke/VarHandle" ∧ (parseMethodDescriptor yX5_stands.desc).map (fun d => d.parameters.length) = some 1 := by decide +kernel
abbrev cwX5_wanted : Cond := .code yX5_wanted cX5_wanted 4 (some .int)
theorem qdX5_wanted : yX5_wanted.cls ≠ "java/lang/invoke/MethodHandle" ∧ yX5_wanted.cls ≠ "java/lang/invoke/VarHandle" ∧ (parseMethodDescriptor yX5_wanted.desc).map (fun d => d.parameters.length) = some 2 := by decide +kernel
abbrev cwX5_wants : Cond := .code yX5_wants cX5_wants 6 (some .int)
theorem qdX5_wants : yX5_wants.cls ≠ "java/lang/invoke/MethodHandle" ∧ yX5_wants.cls ≠ "java/lang/invoke/VarHandle" ∧ (parseMethodDescriptor yX5_wants.desc).map (fun d => d.parameters.length) = some 2 := by decide +kernel
abbrev cwX5_begin : Cond := .code yX5_begin cX5_begin 2 none
theorem qdX5_begin : yX5_begin.cls ≠ "java/lang/invoke/MethodHandle" ∧ yX5_begin.cls ≠ "java/lang/invoke/VarHandle" ∧ (parseMethodDescriptor yX5_begin.desc).map (fun d => d.parameters.length) = some 0 := by decide +kernel
abbrev cwX5_fit : Cond := .code yX5_fit cX5_fit 3 (some .int)
theorem qdX5_fit : yX5_fit.cls ≠ "java/lang/invoke/MethodHandle" ∧ yX5_fit.cls ≠ "java/lang/invoke/VarHandle" ∧ (parseMethodDescriptor yX5_fit.desc).map (fun d => d.parameters.length) = some 1 := by decide +kernel
abbrev cwX5_longPower : Cond := .code yX5_longPower cX5_longPower 6 (some .long)
theorem qdX5_longPower : yX5_longPower.cls ≠ "java/lang/invoke/MethodHandle" ∧ yX5_longPower.cls ≠ "java/lang/invoke/VarHandle" ∧ (parseMethodDescriptor yX5_longPower.desc).map (fun d => d.parameters.length) = some 2 := by decide +kernel
abbrev cwX5_puts : Cond := .code yX5_puts cX5_puts 4 (some .boolean)
theorem qdX5_puts : yX5_puts.cls ≠ "java/lang/invoke/MethodHandle" ∧ yX5_puts.cls ≠ "java/lang/invoke/VarHandle" ∧ (parseMethodDescriptor yX5_puts.desc).map (fun d => d.parameters.length) = some 2 := by decide +kernel
abbrev cwX5_takes : Cond := .code yX5_takes cX5_takes 3 (some .boolean)
theorem qdX5_takes : yX5_takes.cls ≠ "java/lang/invoke/MethodHandle" ∧ yX5_takes.cls ≠ "java/lang/invoke/VarHandle" ∧ (parseMethodDescriptor yX5_takes.desc).map (fun d => d.parameters.length) = some 1 := by decide +kernel
abbrev cwX5_blows : Cond := .code yX5_blows cX5_blows 4 (some .boolean)
theorem qdX5_blows : yX5_blows.cls ≠ "java/lang/invoke/MethodHandle" ∧ yX5_blows.cls ≠ "java/lang/invoke/VarHandle" ∧ (parseMethodDescriptor yX5_blows.desc).map (fun d => d.parameters.length) = some 2 := by decide +kernel
abbrev cwX5_does : Cond := .code yX5_does cX5_does 5 (some .boolean)
theorem qdX5_does : yX5_does.cls ≠ "java/lang/invoke/MethodHandle" ∧ yX5_does.cls ≠ "java/lang/invoke/VarHandle" ∧ (parseMethodDescriptor yX5_does.desc).map (fun d => d.parameters.length) = some 1 := by decide +kernel
abbrev cwX5_judge : Cond := .code yX5_judge cX5_judge 5 (some .int)
theorem qdX5_judge : yX5_judge.cls ≠ "java/lang/invoke/MethodHandle" ∧ yX5_judge.cls ≠ "java/lang/invoke/VarHandle" ∧ (parseMethodDescriptor yX5_judge.desc).map (fun d => d.parameters.length) = some 2 := by decide +kernel
abbrev cwX5_ways : Cond := .code yX5_ways cX5_ways 3 (some .int)
theorem qdX5_ways : yX5_ways.cls ≠ "java/lang/invoke/MethodHandle" ∧ yX5_ways.cls ≠ "java/lang/invoke/VarHandle" ∧ (parseMethodDescriptor yX5_ways.desc).map (fun d => d.parameters.length) = some 1 := by decide +kernel
abbrev cwX5_divisor : Cond := .code yX5_divisor cX5_divisor 5 (some .int)
theorem qdX5_divisor : yX5_divisor.cls ≠ "java/lang/invoke/MethodHandle" ∧ yX5_divisor.cls ≠ "java/lang/invoke/VarHandle" ∧ (parseMethodDescriptor yX5_divisor.desc).map (fun d => d.parameters.length) = some 2 := by decide +kernel
abbrev cwX5_fraction : Cond := .code yX5_fraction cX5_fraction 4 (some .int)
theorem qdX5_fraction : yX5_fraction.cls ≠ "java/lang/invoke/MethodHandle" ∧ yX5_fraction.cls ≠ "java/lang/invoke/VarHandle" ∧ (parseMethodDescriptor yX5_fraction.desc).map (fun d => d.parameters.length) = some 3 := by decide +kernel
abbrev cwX5_share : Cond := .code yX5_share cX5_share 6 (some .int)
theorem qdX5_share : yX5_share.cls ≠ "java/lang/invoke/MethodHandle" ∧ yX5_share.cls ≠ "java/lang/invoke/VarHandle" ∧ (parseMethodDescriptor yX5_share.desc).map (fun d => d.parameters.length) = some 2 := by decide +kernel
abbrev cwX5_hold : Cond := .code yX5_hold cX5_hold 5 (some .int)
theorem qdX5_hold : yX5_hold.cls ≠ "java/lang/invoke/MethodHandle" ∧ yX5_hold.cls ≠ "java/lang/invoke/VarHandle" ∧ (parseMethodDescriptor yX5_hold.desc).map (fun d => d.parameters.length) = some 4 := by decide +kernel
abbrev cwX5_unhold : Cond := .code yX5_unhold cX5_unhold 2 (some .int)
theorem qdX5_unhold : yX5_unhold.cls ≠ "java/lang/invoke/MethodHandle" ∧ yX5_unhold.cls ≠ "java/lang/invoke/VarHandle" ∧ (parseMethodDescriptor yX5_unhold.desc).map (fun d => d.parameters.length) = some 0 := by decide +kernel
abbrev cwX5_tents : Cond := .code yX5_tents cX5_tents 7 (some .int)
theorem qdX5_tents : yX5_tents.cls ≠ "java/lang/invoke/MethodHandle" ∧ yX5_tents.cls ≠ "java/lang/invoke/VarHandle" ∧ (parseMethodDescriptor yX5_tents.desc).map (fun d => d.parameters.length) = some 1 := by decide +kernel
abbrev cwX5_rests : Cond := .code yX5_rests cX5_rests 7 (some .int)
theorem qdX5_rests : yX5_rests.cls ≠ "java/lang/invoke/MethodHandle" ∧ yX5_rests.cls ≠ "java/lang/invoke/VarHandle" ∧ (parseMethodDescriptor yX5_rests.desc).map (fun d => d.parameters.length) = some 3 := by decide +kernel
abbrev cwX5_shaken : Cond := .code yX5_shaken cX5_shaken 10 (some .int)
theorem qdX5_shaken : yX5_shaken.cls ≠ "java/lang/invoke/MethodHandle" ∧ yX5_shaken.cls ≠ "java/lang/invoke/VarHandle" ∧ (parseMethodDescriptor yX5_shaken.desc).map (fun d => d.parameters.length) = some 3 := by decide +kernel
abbrev cwX5_seed : Cond := .code yX5_seed cX5_seed 5 (some .long)
theorem qdX5_seed : yX5_seed.cls ≠ "java/lang/invoke/MethodHandle" ∧ yX5_seed.cls ≠ "java/lang/invoke/VarHandle" ∧ (parseMethodDescriptor yX5_seed.desc).map (fun d => d.parameters.length) = some 1 := by decide +kernel
abbrev cwX5_evenings : Cond := .code yX5_evenings cX5_evenings 5 (some .int)
theorem qdX5_evenings : yX5_evenings.cls ≠ "java/lang/invoke/MethodHandle" ∧ yX5_evenings.cls ≠ "java/lang/invoke/VarHandle" ∧ (parseMethodDescriptor yX5_evenings.desc).map (fun d => d.parameters.length) = some 1 := by decide +kernel
abbrev cwX5_keep : Cond := .code yX5_keep cX5_keep 3 (some .int)
theorem qdX5_keep : yX5_keep.cls ≠ "java/lang/invoke/MethodHandle" ∧ yX5_keep.cls ≠ "java/lang/invoke/VarHandle" ∧ (parseMethodDescriptor yX5_keep.desc).map (fun d => d.parameters.length) = some 1 := by decide +kernel
abbrev cwX5_again : Cond := .code yX5_again cX5_again 3 (some .int)
theorem qdX5_again : yX5_again.cls ≠ "java/lang/invoke/MethodHandle" ∧ yX5_again.cls ≠ "java/lang/invoke/VarHandle" ∧ (parseMethodDescriptor yX5_again.desc).map (fun d => d.parameters.length) = some 1 := by decide +kernel
