def tt_0 : List Cond := [(Jvm.Cond.selects "PrefixMill$Tree" ({ cls := "PrefixMill$Tree", name := "sortLeaves", desc := "()V" } : Jvm.MethodName) ({ cls := "PrefixMill$Tree", name := "sortLeaves", desc := "()V" } : Jvm.MethodName)), (Jvm.Cond.selects "PrefixMill$Tree" ({ cls := "PrefixMill$Tree", name := "sortByByte", desc := "([I[II)V" } : Jvm.MethodName) ({ cls := "PrefixMill$Tree", name := "sortByByte", desc := "([I[II)V" } : Jvm.MethodName)), (Jvm.Cond.selects "PrefixMill$Tree" ({ cls := "PrefixMill$Tree", name := "join", desc := "()V" } : Jvm.MethodName) ({ cls := "PrefixMill$Tree", name := "join", desc := "()V" } : Jvm.MethodName)), (Jvm.Cond.selects "PrefixMill$Tree" ({ cls := "PrefixMill$Tree", name := "least", desc := "(I)I" } : Jvm.MethodName) ({ cls := "PrefixMill$Tree", name := "least", desc := "(I)I" } : Jvm.MethodName)), (Jvm.Cond.selects "PrefixMill$Tree" ({ cls := "PrefixMill$Tree", name := "measure", desc := "()I" } : Jvm.MethodName) ({ cls := "PrefixMill$Tree", name := "measure", desc := "()I" } : Jvm.MethodName)), (Jvm.Cond.selects "PrefixMill$Tree" ({ cls := "PrefixMill$Tree", name := "halve", desc := "()V" } : Jvm.MethodName) ({ cls := "PrefixMill$Tree", name := "halve", desc := "()V" } : Jvm.MethodName)), (Jvm.Cond.selects "PrefixMill$Codes" ({ cls := "PrefixMill$Codes", name := "fillCells", desc := "()V" } : Jvm.MethodName) ({ cls := "PrefixMill$Codes", name := "fillCells", desc := "()V" } : Jvm.MethodName)), (Jvm.Cond.selects "PrefixMill$Codes" ({ cls := "PrefixMill$Codes", name := "giveCells", desc := "(III)I" } : Jvm.MethodName) ({ cls := "PrefixMill$Codes", name := "giveCells", desc := "(III)I" } : Jvm.MethodName)), (Jvm.Cond.selects "PrefixMill$Writer" ({ cls := "PrefixMill$Writer", name := "takeWeights", desc := "(LPrefixMill$Codes;I)V" } : Jvm.MethodName) ({ cls := "PrefixMill$Writer", name := "takeWeights", desc := "(LPrefixMill$Codes;I)V" } : Jvm.MethodName)), (Jvm.Cond.selects "PrefixMill$Share" ({ cls := "PrefixMill$Share", name := "lacking", desc := "()I" } : Jvm.MethodName) ({ cls := "PrefixMill$Share", name := "lacking", desc := "()I" } : Jvm.MethodName)), (Jvm.Cond.selects "PrefixMill$Share" ({ cls := "PrefixMill$Share", name := "massOf", desc := "(I)I" } : Jvm.MethodName) ({ cls := "PrefixMill$Share", name := "massOf", desc := "(I)I" } : Jvm.MethodName)), (Jvm.Cond.selects "PrefixMill$Share" ({ cls := "PrefixMill$Share", name := "give", desc := "(I)V" } : Jvm.MethodName) ({ cls := "PrefixMill$Share", name := "give", desc := "(I)V" } : Jvm.MethodName)), (Jvm.Cond.selects "PrefixMill$Share" ({ cls := "PrefixMill$Share", name := "queueByCuts", desc := "()I" } : Jvm.MethodName) ({ cls := "PrefixMill$Share", name := "queueByCuts", desc := "()I" } : Jvm.MethodName)), (Jvm.Cond.selects "PrefixMill$Share" ({ cls := "PrefixMill$Share", name := "takeAway", desc := "(I)V" } : Jvm.MethodName) ({ cls := "PrefixMill$Share", name := "takeAway", desc := "(I)V" } : Jvm.MethodName)), (Jvm.Cond.selects "PrefixMill$Share" ({ cls := "PrefixMill$Share", name := "layOut", desc := "()V" } : Jvm.MethodName) ({ cls := "PrefixMill$Share", name := "layOut", desc := "()V" } : Jvm.MethodName)), (Jvm.Cond.selects "PrefixMill$Share" ({ cls := "PrefixMill$Share", name := "giveHighest", desc := "()I" } : Jvm.MethodName) ({ cls := "PrefixMill$Share", name := "giveHighest", desc := "()I" } : Jvm.MethodName)), (Jvm.Cond.selects "PrefixMill$Share" ({ cls := "PrefixMill$Share", name := "giveByWalk", desc := "(I)V" } : Jvm.MethodName) ({ cls := "PrefixMill$Share", name := "giveByWalk", desc := "(I)V" } : Jvm.MethodName)), (Jvm.Cond.selects "PrefixMill$Share" ({ cls := "PrefixMill$Share", name := "rank", desc := "()V" } : Jvm.MethodName) ({ cls := "PrefixMill$Share", name := "rank", desc := "()V" } : Jvm.MethodName)), (Jvm.Cond.selects "PrefixMill$Share" ({ cls := "PrefixMill$Share", name := "putNone", desc := "(LPrefixMill$Row;I)I" } : Jvm.MethodName) ({ cls := "PrefixMill$Share", name := "putNone", desc := "(LPrefixMill$Row;I)I" } : Jvm.MethodName)), (Jvm.Cond.selects "PrefixMill$Writer" ({ cls := "PrefixMill$Writer", name := "putDirect", desc := "(LPrefixMill$Row;I)V" } : Jvm.MethodName) ({ cls := "PrefixMill$Writer", name := "putDirect", desc := "(LPrefixMill$Row;I)V" } : Jvm.MethodName)), (Jvm.Cond.selects "PrefixMill$Reader" ({ cls := "PrefixMill$Reader", name := "takeDirect", desc := "(LPrefixMill$Row;II)V" } : Jvm.MethodName) ({ cls := "PrefixMill$Reader", name := "takeDirect", desc := "(LPrefixMill$Row;II)V" } : Jvm.MethodName)), (Jvm.Cond.selects "PrefixMill$Share" ({ cls := "PrefixMill$Share", name := "takeBits", desc := "(LPrefixMill$Row;I)I" } : Jvm.MethodName) ({ cls := "PrefixMill$Share", name := "takeBits", desc := "(LPrefixMill$Row;I)I" } : Jvm.MethodName)), (Jvm.Cond.selects "PrefixMill$Share" ({ cls := "PrefixMill$Share", name := "takePoints", desc := "(LPrefixMill$Row;I)I" } : Jvm.MethodName) ({ cls := "PrefixMill$Share", name := "takePoints", desc := "(LPrefixMill$Row;I)I" } : Jvm.MethodName)), (Jvm.Cond.selects "PrefixMill$Share" ({ cls := "PrefixMill$Share", name := "takeNone", desc := "(LPrefixMill$Row;I)I" } : Jvm.MethodName) ({ cls := "PrefixMill$Share", name := "takeNone", desc := "(LPrefixMill$Row;I)I" } : Jvm.MethodName)), (Jvm.Cond.selects "PrefixMill$Reader" ({ cls := "PrefixMill$Reader", name := "takeRow", desc := "(LPrefixMill$Row;I)Z" } : Jvm.MethodName) ({ cls := "PrefixMill$Reader", name := "takeRow", desc := "(LPrefixMill$Row;I)Z" } : Jvm.MethodName)), (Jvm.Cond.selects "PrefixMill$Reader" ({ cls := "PrefixMill$Reader", name := "takeLengths", desc := "()Z" } : Jvm.MethodName) ({ cls := "PrefixMill$Reader", name := "takeLengths", desc := "()Z" } : Jvm.MethodName)), (Jvm.Cond.selects "PrefixMill$Streams" ({ cls := "PrefixMill$Streams", name := "takeStream", desc := "(LPrefixMill$Codes;LPrefixMill$Row;III)I" } : Jvm.MethodName) ({ cls := "PrefixMill$Streams", name := "takeStream", desc := "(LPrefixMill$Codes;LPrefixMill$Row;III)I" } : Jvm.MethodName)), (Jvm.Cond.selects "PrefixMillModel" ({ cls := "PrefixMillModel", name := "sums", desc := "()V" } : Jvm.MethodName) ({ cls := "PrefixMillModel", name := "sums", desc := "()V" } : Jvm.MethodName)), (Jvm.Cond.selects "PrefixMillModel" ({ cls := "PrefixMillModel", name := "least", desc := "(I)I" } : Jvm.MethodName) ({ cls := "PrefixMillModel", name := "least", desc := "(I)I" } : Jvm.MethodName)), (Jvm.Cond.selects "PrefixMillModel" ({ cls := "PrefixMillModel", name := "longestDraft", desc := "()I" } : Jvm.MethodName) ({ cls := "PrefixMillModel", name := "longestDraft", desc := "()I" } : Jvm.MethodName)), (Jvm.Cond.selects "PrefixMillModel" ({ cls := "PrefixMillModel", name := "settle", desc := "(I)I" } : Jvm.MethodName) ({ cls := "PrefixMillModel", name := "settle", desc := "(I)I" } : Jvm.MethodName)), (Jvm.Cond.selects "PrefixMillModel" ({ cls := "PrefixMillModel", name := "weightOf", desc := "(I)I" } : Jvm.MethodName) ({ cls := "PrefixMillModel", name := "weightOf", desc := "(I)I" } : Jvm.MethodName)), (Jvm.Cond.selects "PrefixMillModel" ({ cls := "PrefixMillModel", name := "codeOf", desc := "(I)I" } : Jvm.MethodName) ({ cls := "PrefixMillModel", name := "codeOf", desc := "(I)I" } : Jvm.MethodName)), (Jvm.Cond.selects "PrefixMillModel" ({ cls := "PrefixMillModel", name := "streamBytes", desc := "(II)I" } : Jvm.MethodName) ({ cls := "PrefixMillModel", name := "streamBytes", desc := "(II)I" } : Jvm.MethodName)), (Jvm.Cond.selects "PrefixMillModel" ({ cls := "PrefixMillModel", name := "begin", desc := "()V" } : Jvm.MethodName) ({ cls := "PrefixMillModel", name := "begin", desc := "()V" } : Jvm.MethodName)), (Jvm.Cond.selects "PrefixMillModel" ({ cls := "PrefixMillModel", name := "put", desc := "(II)V" } : Jvm.MethodName) ({ cls := "PrefixMillModel", name := "put", desc := "(II)V" } : Jvm.MethodName)), (Jvm.Cond.selects "PrefixMillModel" ({ cls := "PrefixMillModel", name := "putStream", desc := "(II)V" } : Jvm.MethodName) ({ cls := "PrefixMillModel", name := "putStream", desc := "(II)V" } : Jvm.MethodName)), (Jvm.Cond.selects "PrefixMillModel" ({ cls := "PrefixMillModel", name := "fill", desc := "()V" } : Jvm.MethodName) ({ cls := "PrefixMillModel", name := "fill", desc := "()V" } : Jvm.MethodName)), (Jvm.Cond.selects "PrefixMillModel" ({ cls := "PrefixMillModel", name := "give", desc := "()I" } : Jvm.MethodName) ({ cls := "PrefixMillModel", name := "give", desc := "()I" } : Jvm.MethodName)), (Jvm.Cond.selects "PrefixMillModel" ({ cls := "PrefixMillModel", name := "takeFour", desc := "(II)I" } : Jvm.MethodName) ({ cls := "PrefixMillModel", name := "takeFour", desc := "(II)I" } : Jvm.MethodName)), (Jvm.Cond.selects "PrefixMillModel" ({ cls := "PrefixMillModel", name := "takeStream", desc := "(IIII)I" } : Jvm.MethodName) ({ cls := "PrefixMillModel", name := "takeStream", desc := "(IIII)I" } : Jvm.MethodName)), (Jvm.Cond.selects "PrefixMillModel" ({ cls := "PrefixMillModel", name := "bitAt", desc := "(I)I" } : Jvm.MethodName) ({ cls := "PrefixMillModel", name := "bitAt", desc := "(I)I" } : Jvm.MethodName)), (Jvm.Cond.selects "PrefixMillModel" ({ cls := "PrefixMillModel", name := "different", desc := "()I" } : Jvm.MethodName) ({ cls := "PrefixMillModel", name := "different", desc := "()I" } : Jvm.MethodName)), (Jvm.Cond.selects "PrefixMillModel" ({ cls := "PrefixMillModel", name := "countOf", desc := "(I)I" } : Jvm.MethodName) ({ cls := "PrefixMillModel", name := "countOf", desc := "(I)I" } : Jvm.MethodName)), (Jvm.Cond.selects "PrefixMillModel" ({ cls := "PrefixMillModel", name := "putStates", desc := "(I)I" } : Jvm.MethodName) ({ cls := "PrefixMillModel", name := "putStates", desc := "(I)I" } : Jvm.MethodName)), (Jvm.Cond.selects "PrefixMillModel" ({ cls := "PrefixMillModel", name := "shareByCounts", desc := "(I)V" } : Jvm.MethodName) ({ cls := "PrefixMillModel", name := "shareByCounts", desc := "(I)V" } : Jvm.MethodName)), (Jvm.Cond.selects "PrefixMillModel" ({ cls := "PrefixMillModel", name := "newRound", desc := "()V" } : Jvm.MethodName) ({ cls := "PrefixMillModel", name := "newRound", desc := "()V" } : Jvm.MethodName)), (Jvm.Cond.selects "PrefixMillModel" ({ cls := "PrefixMillModel", name := "lacking", desc := "()I" } : Jvm.MethodName) ({ cls := "PrefixMillModel", name := "lacking", desc := "()I" } : Jvm.MethodName)), (Jvm.Cond.selects "PrefixMillModel" ({ cls := "PrefixMillModel", name := "nextToGet", desc := "()I" } : Jvm.MethodName) ({ cls := "PrefixMillModel", name := "nextToGet", desc := "()I" } : Jvm.MethodName)), (Jvm.Cond.selects "PrefixMillModel" ({ cls := "PrefixMillModel", name := "givePlaces", desc := "()V" } : Jvm.MethodName) ({ cls := "PrefixMillModel", name := "givePlaces", desc := "()V" } : Jvm.MethodName)), (Jvm.Cond.selects "PrefixMillModel" ({ cls := "PrefixMillModel", name := "putShare", desc := "()V" } : Jvm.MethodName) ({ cls := "PrefixMillModel", name := "putShare", desc := "()V" } : Jvm.MethodName)), (Jvm.Cond.selects "PrefixMillModel" ({ cls := "PrefixMillModel", name := "putRow", desc := "()V" } : Jvm.MethodName) ({ cls := "PrefixMillModel", name := "putRow", desc := "()V" } : Jvm.MethodName)), (Jvm.Cond.selects "PrefixMillModel" ({ cls := "PrefixMillModel", name := "lowest", desc := "(I)I" } : Jvm.MethodName) ({ cls := "PrefixMillModel", name := "lowest", desc := "(I)I" } : Jvm.MethodName)), (Jvm.Cond.selects "PrefixMillModel" ({ cls := "PrefixMillModel", name := "bitsOf", desc := "(I)I" } : Jvm.MethodName) ({ cls := "PrefixMillModel", name := "bitsOf", desc := "(I)I" } : Jvm.MethodName)), (Jvm.Cond.selects "PrefixMillModel" ({ cls := "PrefixMillModel", name := "numberOf", desc := "(I)I" } : Jvm.MethodName) ({ cls := "PrefixMillModel", name := "numberOf", desc := "(I)I" } : Jvm.MethodName)), (Jvm.Cond.selects "PrefixMillModel" ({ cls := "PrefixMillModel", name := "placeFor", desc := "(II)I" } : Jvm.MethodName) ({ cls := "PrefixMillModel", name := "placeFor", desc := "(II)I" } : Jvm.MethodName)), (Jvm.Cond.selects "PrefixMillModel" ({ cls := "PrefixMillModel", name := "baseOf", desc := "(I)I" } : Jvm.MethodName) ({ cls := "PrefixMillModel", name := "baseOf", desc := "(I)I" } : Jvm.MethodName)), (Jvm.Cond.selects "PrefixMillModel" ({ cls := "PrefixMillModel", name := "putDirect", desc := "()V" } : Jvm.MethodName) ({ cls := "PrefixMillModel", name := "putDirect", desc := "()V" } : Jvm.MethodName)), (Jvm.Cond.selects "PrefixMillModel" ({ cls := "PrefixMillModel", name := "takeWeights", desc := "()I" } : Jvm.MethodName) ({ cls := "PrefixMillModel", name := "takeWeights", desc := "()I" } : Jvm.MethodName)), (Jvm.Cond.selects "PrefixMillModel" ({ cls := "PrefixMillModel", name := "putWeight", desc := "(I)Z" } : Jvm.MethodName) ({ cls := "PrefixMillModel", name := "putWeight", desc := "(I)Z" } : Jvm.MethodName)), (Jvm.Cond.selects "PrefixMillModel" ({ cls := "PrefixMillModel", name := "takeShare", desc := "()Z" } : Jvm.MethodName) ({ cls := "PrefixMillModel", name := "takeShare", desc := "()Z" } : Jvm.MethodName)), (Jvm.Cond.selects "PrefixMillModel" ({ cls := "PrefixMillModel", name := "take", desc := "(I)I" } : Jvm.MethodName) ({ cls := "PrefixMillModel", name := "take", desc := "(I)I" } : Jvm.MethodName)), (Jvm.Cond.selects "PrefixMillModel" ({ cls := "PrefixMillModel", name := "takeNumber", desc := "(I)I" } : Jvm.MethodName) ({ cls := "PrefixMillModel", name := "takeNumber", desc := "(I)I" } : Jvm.MethodName)), (Jvm.Cond.selects "PrefixMillModel" ({ cls := "PrefixMillModel", name := "takeRow", desc := "()Z" } : Jvm.MethodName) ({ cls := "PrefixMillModel", name := "takeRow", desc := "()Z" } : Jvm.MethodName)), (Jvm.Cond.selects "PrefixMillModel" ({ cls := "PrefixMillModel", name := "takeDown", desc := "(I)I" } : Jvm.MethodName) ({ cls := "PrefixMillModel", name := "takeDown", desc := "(I)I" } : Jvm.MethodName)), (Jvm.Cond.initialized "PrefixMill"), (Jvm.Cond.initialized "PrefixMill$Row"), (Jvm.Cond.initialized "PrefixMill$Codes"), (Jvm.Cond.initialized "PrefixMill$Tree"), (Jvm.Cond.initialized "PrefixMill$Writer"), (Jvm.Cond.initialized "PrefixMill$Draft"), (Jvm.Cond.initialized "PrefixMill$Share"), (Jvm.Cond.initialized "PrefixMill$Reader"), (Jvm.Cond.initialized "PrefixMill$Tail"), (Jvm.Cond.initialized "PrefixMill$Streams"), (Jvm.Cond.initialized "PrefixMillModel"), (Jvm.Cond.initialized "java/lang/Math"), (Jvm.Cond.initialized "java/lang/System"), (Jvm.Cond.initialized "java/util/Arrays"), (Jvm.Cond.classLink "PrefixMillLaw" (7 : Nat) "PrefixMill"), (Jvm.Cond.instantiable "PrefixMill" (9 : Nat)), (Jvm.Cond.methodLink "PrefixMillLaw" (9 : Nat) ({ cls := "PrefixMill", name := "<init>", desc := "()V" } : Jvm.MethodName)), (Jvm.Cond.instanceMethod ({ cls := "PrefixMill", name := "<init>", desc := "()V" } : Jvm.MethodName)), (Jvm.Cond.code ({ cls := "PrefixMill", name := "<init>", desc := "()V" } : Jvm.MethodName) prog_1_method_1_code (1 : Nat) (Option.none : Option Jvm.ClassFile.FieldType)), (Jvm.Cond.methodLink "PrefixMill" (3 : Nat) ({ cls := "java/lang/Object", name := "<init>", desc := "()V" } : Jvm.MethodName)), (Jvm.Cond.instanceMethod ({ cls := "java/lang/Object", name := "<init>", desc := "()V" } : Jvm.MethodName)), (Jvm.Cond.code ({ cls := "java/lang/Object", name := "<init>", desc := "()V" } : Jvm.MethodName) object_method_1_code (1 : Nat) (Option.none : Option Jvm.ClassFile.FieldType)), (Jvm.Cond.classLink "PrefixMill" (9 : Nat) "PrefixMill$Row"), (Jvm.Cond.instantiable "PrefixMill$Row" (5 : Nat)), (Jvm.Cond.methodLink "PrefixMill" (11 : Nat) ({ cls := "PrefixMill$Row", name := "<init>", desc := "(I)V" } : Jvm.MethodName)), (Jvm.Cond.instanceMethod ({ cls := "PrefixMill$Row", name := "<init>", desc := "(I)V" } : Jvm.MethodName)), (Jvm.Cond.code ({ cls := "PrefixMill$Row", name := "<init>", desc := "(I)V" } : Jvm.MethodName) prog_5_method_1_code (2 : Nat) (Option.none : Option Jvm.ClassFile.FieldType)), (Jvm.Cond.methodLink "PrefixMill$Row" (1 : Nat) ({ cls := "java/lang/Object", name := "<init>", desc := "()V" } : Jvm.MethodName)), (Jvm.Cond.fieldLink "PrefixMill$Row" (13 : Nat) "PrefixMill$Row" "words" "[J"), (Jvm.Cond.fieldLink "PrefixMill$Row" (7 : Nat) "PrefixMill$Row" "room" "I"), (Jvm.Cond.fieldLink "PrefixMill$Row" (17 : Nat) "PrefixMill$Row" "used" "I"), (Jvm.Cond.fieldLinkNest "PrefixMill" (64 : Nat) "PrefixMill$Row" "used" "I" "PrefixMill"), (Jvm.Cond.fieldLinkNest "PrefixMill$Reader" (42 : Nat) "PrefixMill$Row" "used" "I" "PrefixMill"), (Jvm.Cond.fieldLinkNest "PrefixMill$Writer" (48 : Nat) "PrefixMill$Row" "used" "I" "PrefixMill"), (Jvm.Cond.fieldLinkNest "PrefixMill$Streams" (44 : Nat) "PrefixMill$Row" "used" "I" "PrefixMill")]
def tt_1 : List Cond := [(Jvm.Cond.fieldLink "PrefixMill$Row" (43 : Nat) "PrefixMill$Row" "held" "I"), (Jvm.Cond.fieldLink "PrefixMill$Row" (46 : Nat) "PrefixMill$Row" "many" "I"), (Jvm.Cond.laysFinal "PrefixMill$Row" "PrefixMill$Row" "words" "[J"), (Jvm.Cond.laysFinal "PrefixMill$Row" "PrefixMill$Row" "room" "I"), (Jvm.Cond.lays "PrefixMill$Row" "PrefixMill$Row" "used" "I"), (Jvm.Cond.lays "PrefixMill$Row" "PrefixMill$Row" "held" "I"), (Jvm.Cond.lays "PrefixMill$Row" "PrefixMill$Row" "many" "I"), (Jvm.Cond.arrayClass Jvm.ClassFile.FieldType.long), (Jvm.Cond.classLink "PrefixMill" (25 : Nat) "PrefixMill$Codes"), (Jvm.Cond.instantiable "PrefixMill$Codes" (6 : Nat)), (Jvm.Cond.methodLinkNest "PrefixMill" (27 : Nat) ({ cls := "PrefixMill$Codes", name := "<init>", desc := "()V" } : Jvm.MethodName) "PrefixMill"), (Jvm.Cond.instanceMethod ({ cls := "PrefixMill$Codes", name := "<init>", desc := "()V" } : Jvm.MethodName)), (Jvm.Cond.code ({ cls := "PrefixMill$Codes", name := "<init>", desc := "()V" } : Jvm.MethodName) prog_2_method_1_code (1 : Nat) (Option.none : Option Jvm.ClassFile.FieldType)), (Jvm.Cond.methodLink "PrefixMill$Codes" (3 : Nat) ({ cls := "java/lang/Object", name := "<init>", desc := "()V" } : Jvm.MethodName)), (Jvm.Cond.fieldLink "PrefixMill$Codes" (9 : Nat) "PrefixMill$Codes" "lengths" "[I"), (Jvm.Cond.fieldLinkNest "PrefixMill$Streams" (31 : Nat) "PrefixMill$Codes" "lengths" "[I" "PrefixMill"), (Jvm.Cond.fieldLinkNest "PrefixMill" (154 : Nat) "PrefixMill$Codes" "lengths" "[I" "PrefixMill"), (Jvm.Cond.fieldLink "PrefixMill$Codes" (15 : Nat) "PrefixMill$Codes" "values" "[I"), (Jvm.Cond.fieldLinkNest "PrefixMill$Streams" (66 : Nat) "PrefixMill$Codes" "values" "[I" "PrefixMill"), (Jvm.Cond.fieldLinkNest "PrefixMill" (155 : Nat) "PrefixMill$Codes" "values" "[I" "PrefixMill"), (Jvm.Cond.fieldLink "PrefixMill$Codes" (18 : Nat) "PrefixMill$Codes" "cells" "[I"), (Jvm.Cond.fieldLinkNest "PrefixMill$Streams" (84 : Nat) "PrefixMill$Codes" "cells" "[I" "PrefixMill"), (Jvm.Cond.fieldLink "PrefixMill$Codes" (21 : Nat) "PrefixMill$Codes" "greatest" "I"), (Jvm.Cond.fieldLinkNest "PrefixMill$Streams" (87 : Nat) "PrefixMill$Codes" "greatest" "I" "PrefixMill"), (Jvm.Cond.fieldLinkNest "PrefixMill" (148 : Nat) "PrefixMill$Codes" "greatest" "I" "PrefixMill"), (Jvm.Cond.fieldLink "PrefixMill$Codes" (29 : Nat) "PrefixMill$Codes" "known" "I"), (Jvm.Cond.fieldLinkNest "PrefixMill" (151 : Nat) "PrefixMill$Codes" "known" "I" "PrefixMill"), (Jvm.Cond.fieldLinkNest "PrefixMill$Writer" (30 : Nat) "PrefixMill$Codes" "highest" "I" "PrefixMill"), (Jvm.Cond.fieldLink "PrefixMill$Codes" (32 : Nat) "PrefixMill$Codes" "highest" "I"), (Jvm.Cond.laysFinal "PrefixMill$Codes" "PrefixMill$Codes" "lengths" "[I"), (Jvm.Cond.laysFinal "PrefixMill$Codes" "PrefixMill$Codes" "values" "[I"), (Jvm.Cond.laysFinal "PrefixMill$Codes" "PrefixMill$Codes" "cells" "[I"), (Jvm.Cond.lays "PrefixMill$Codes" "PrefixMill$Codes" "greatest" "I"), (Jvm.Cond.lays "PrefixMill$Codes" "PrefixMill$Codes" "known" "I"), (Jvm.Cond.lays "PrefixMill$Codes" "PrefixMill$Codes" "highest" "I"), (Jvm.Cond.arrayClass Jvm.ClassFile.FieldType.int), (Jvm.Cond.classLink "PrefixMill" (32 : Nat) "PrefixMill$Tree"), (Jvm.Cond.instantiable "PrefixMill$Tree" (11 : Nat)), (Jvm.Cond.methodLinkNest "PrefixMill" (34 : Nat) ({ cls := "PrefixMill$Tree", name := "<init>", desc := "()V" } : Jvm.MethodName) "PrefixMill"), (Jvm.Cond.instanceMethod ({ cls := "PrefixMill$Tree", name := "<init>", desc := "()V" } : Jvm.MethodName)), (Jvm.Cond.code ({ cls := "PrefixMill$Tree", name := "<init>", desc := "()V" } : Jvm.MethodName) prog_9_method_1_code (1 : Nat) (Option.none : Option Jvm.ClassFile.FieldType)), (Jvm.Cond.methodLink "PrefixMill$Tree" (3 : Nat) ({ cls := "java/lang/Object", name := "<init>", desc := "()V" } : Jvm.MethodName)), (Jvm.Cond.fieldLink "PrefixMill$Tree" (9 : Nat) "PrefixMill$Tree" "lengths" "[I"), (Jvm.Cond.fieldLinkNest "PrefixMill" (99 : Nat) "PrefixMill$Tree" "lengths" "[I" "PrefixMill"), (Jvm.Cond.fieldLink "PrefixMill$Tree" (15 : Nat) "PrefixMill$Tree" "halves" "[I"), (Jvm.Cond.fieldLink "PrefixMill$Tree" (18 : Nat) "PrefixMill$Tree" "leaves" "[I"), (Jvm.Cond.fieldLink "PrefixMill$Tree" (21 : Nat) "PrefixMill$Tree" "sorted" "[I"), (Jvm.Cond.fieldLink "PrefixMill$Tree" (24 : Nat) "PrefixMill$Tree" "starts" "[I"), (Jvm.Cond.fieldLink "PrefixMill$Tree" (27 : Nat) "PrefixMill$Tree" "sums" "[I"), (Jvm.Cond.fieldLink "PrefixMill$Tree" (30 : Nat) "PrefixMill$Tree" "above" "[I"), (Jvm.Cond.fieldLink "PrefixMill$Tree" (33 : Nat) "PrefixMill$Tree" "depths" "[I"), (Jvm.Cond.fieldLink "PrefixMill$Tree" (36 : Nat) "PrefixMill$Tree" "known" "I"), (Jvm.Cond.fieldLink "PrefixMill$Tree" (63 : Nat) "PrefixMill$Tree" "nextLeaf" "I"), (Jvm.Cond.fieldLink "PrefixMill$Tree" (66 : Nat) "PrefixMill$Tree" "nextSum" "I"), (Jvm.Cond.laysFinal "PrefixMill$Tree" "PrefixMill$Tree" "lengths" "[I"), (Jvm.Cond.laysFinal "PrefixMill$Tree" "PrefixMill$Tree" "halves" "[I"), (Jvm.Cond.laysFinal "PrefixMill$Tree" "PrefixMill$Tree" "leaves" "[I"), (Jvm.Cond.laysFinal "PrefixMill$Tree" "PrefixMill$Tree" "sorted" "[I"), (Jvm.Cond.laysFinal "PrefixMill$Tree" "PrefixMill$Tree" "starts" "[I"), (Jvm.Cond.laysFinal "PrefixMill$Tree" "PrefixMill$Tree" "sums" "[I"), (Jvm.Cond.laysFinal "PrefixMill$Tree" "PrefixMill$Tree" "above" "[I"), (Jvm.Cond.laysFinal "PrefixMill$Tree" "PrefixMill$Tree" "depths" "[I"), (Jvm.Cond.lays "PrefixMill$Tree" "PrefixMill$Tree" "known" "I"), (Jvm.Cond.lays "PrefixMill$Tree" "PrefixMill$Tree" "nextLeaf" "I"), (Jvm.Cond.lays "PrefixMill$Tree" "PrefixMill$Tree" "nextSum" "I"), (Jvm.Cond.classLink "PrefixMill" (39 : Nat) "PrefixMill$Writer"), (Jvm.Cond.instantiable "PrefixMill$Writer" (4 : Nat)), (Jvm.Cond.methodLinkNest "PrefixMill" (41 : Nat) ({ cls := "PrefixMill$Writer", name := "<init>", desc := "()V" } : Jvm.MethodName) "PrefixMill"), (Jvm.Cond.instanceMethod ({ cls := "PrefixMill$Writer", name := "<init>", desc := "()V" } : Jvm.MethodName)), (Jvm.Cond.code ({ cls := "PrefixMill$Writer", name := "<init>", desc := "()V" } : Jvm.MethodName) prog_10_method_1_code (1 : Nat) (Option.none : Option Jvm.ClassFile.FieldType)), (Jvm.Cond.methodLink "PrefixMill$Writer" (3 : Nat) ({ cls := "java/lang/Object", name := "<init>", desc := "()V" } : Jvm.MethodName)), (Jvm.Cond.classLink "PrefixMill$Writer" (9 : Nat) "PrefixMill$Draft"), (Jvm.Cond.instantiable "PrefixMill$Draft" (3 : Nat)), (Jvm.Cond.methodLink "PrefixMill$Writer" (11 : Nat) ({ cls := "PrefixMill$Draft", name := "<init>", desc := "(I)V" } : Jvm.MethodName)), (Jvm.Cond.instanceMethod ({ cls := "PrefixMill$Draft", name := "<init>", desc := "(I)V" } : Jvm.MethodName)), (Jvm.Cond.code ({ cls := "PrefixMill$Draft", name := "<init>", desc := "(I)V" } : Jvm.MethodName) prog_3_method_1_code (2 : Nat) (Option.none : Option Jvm.ClassFile.FieldType)), (Jvm.Cond.methodLink "PrefixMill$Draft" (1 : Nat) ({ cls := "java/lang/Object", name := "<init>", desc := "()V" } : Jvm.MethodName)), (Jvm.Cond.classLink "PrefixMill$Draft" (7 : Nat) "PrefixMill$Row"), (Jvm.Cond.methodLink "PrefixMill$Draft" (11 : Nat) ({ cls := "PrefixMill$Row", name := "<init>", desc := "(I)V" } : Jvm.MethodName)), (Jvm.Cond.classLink "PrefixMill$Draft" (18 : Nat) "PrefixMill$Share"), (Jvm.Cond.instantiable "PrefixMill$Share" (12 : Nat)), (Jvm.Cond.methodLinkNest "PrefixMill$Draft" (20 : Nat) ({ cls := "PrefixMill$Share", name := "<init>", desc := "()V" } : Jvm.MethodName) "PrefixMill"), (Jvm.Cond.instanceMethod ({ cls := "PrefixMill$Share", name := "<init>", desc := "()V" } : Jvm.MethodName)), (Jvm.Cond.code ({ cls := "PrefixMill$Share", name := "<init>", desc := "()V" } : Jvm.MethodName) prog_6_method_1_code (1 : Nat) (Option.none : Option Jvm.ClassFile.FieldType)), (Jvm.Cond.methodLink "PrefixMill$Share" (3 : Nat) ({ cls := "java/lang/Object", name := "<init>", desc := "()V" } : Jvm.MethodName)), (Jvm.Cond.fieldLink "PrefixMill$Share" (9 : Nat) "PrefixMill$Share" "points" "[I"), (Jvm.Cond.fieldLink "PrefixMill$Share" (15 : Nat) "PrefixMill$Share" "cuts" "[I"), (Jvm.Cond.fieldLink "PrefixMill$Share" (18 : Nat) "PrefixMill$Share" "queue" "[I"), (Jvm.Cond.fieldLink "PrefixMill$Share" (21 : Nat) "PrefixMill$Share" "owners" "[I"), (Jvm.Cond.fieldLinkNest "PrefixMill$Reader" (77 : Nat) "PrefixMill$Share" "owners" "[I" "PrefixMill"), (Jvm.Cond.fieldLink "PrefixMill$Share" (24 : Nat) "PrefixMill$Share" "takes" "[I"), (Jvm.Cond.fieldLinkNest "PrefixMill$Draft" (52 : Nat) "PrefixMill$Share" "takes" "[I" "PrefixMill"), (Jvm.Cond.fieldLinkNest "PrefixMill$Reader" (80 : Nat) "PrefixMill$Share" "takes" "[I" "PrefixMill"), (Jvm.Cond.fieldLink "PrefixMill$Share" (27 : Nat) "PrefixMill$Share" "bases" "[I"), (Jvm.Cond.fieldLinkNest "PrefixMill$Draft" (48 : Nat) "PrefixMill$Share" "bases" "[I" "PrefixMill"), (Jvm.Cond.fieldLinkNest "PrefixMill$Reader" (83 : Nat) "PrefixMill$Share" "bases" "[I" "PrefixMill"), (Jvm.Cond.fieldLink "PrefixMill$Share" (30 : Nat) "PrefixMill$Share" "ranked" "[I"), (Jvm.Cond.fieldLink "PrefixMill$Share" (33 : Nat) "PrefixMill$Share" "starts" "[I"), (Jvm.Cond.fieldLink "PrefixMill$Share" (36 : Nat) "PrefixMill$Share" "numbers" "[I"), (Jvm.Cond.fieldLink "PrefixMill$Share" (39 : Nat) "PrefixMill$Share" "walk" "[I")]
def tt_2 : List Cond := [(Jvm.Cond.fieldLink "PrefixMill$Share" (42 : Nat) "PrefixMill$Share" "order" "I"), (Jvm.Cond.fieldLinkNest "PrefixMill$Reader" (71 : Nat) "PrefixMill$Share" "order" "I" "PrefixMill"), (Jvm.Cond.fieldLink "PrefixMill$Share" (108 : Nat) "PrefixMill$Share" "next" "I"), (Jvm.Cond.laysFinal "PrefixMill$Share" "PrefixMill$Share" "points" "[I"), (Jvm.Cond.laysFinal "PrefixMill$Share" "PrefixMill$Share" "cuts" "[I"), (Jvm.Cond.laysFinal "PrefixMill$Share" "PrefixMill$Share" "queue" "[I"), (Jvm.Cond.laysFinal "PrefixMill$Share" "PrefixMill$Share" "owners" "[I"), (Jvm.Cond.laysFinal "PrefixMill$Share" "PrefixMill$Share" "takes" "[I"), (Jvm.Cond.laysFinal "PrefixMill$Share" "PrefixMill$Share" "bases" "[I"), (Jvm.Cond.laysFinal "PrefixMill$Share" "PrefixMill$Share" "ranked" "[I"), (Jvm.Cond.laysFinal "PrefixMill$Share" "PrefixMill$Share" "starts" "[I"), (Jvm.Cond.laysFinal "PrefixMill$Share" "PrefixMill$Share" "numbers" "[I"), (Jvm.Cond.laysFinal "PrefixMill$Share" "PrefixMill$Share" "walk" "[I"), (Jvm.Cond.lays "PrefixMill$Share" "PrefixMill$Share" "order" "I"), (Jvm.Cond.lays "PrefixMill$Share" "PrefixMill$Share" "next" "I"), (Jvm.Cond.fieldLink "PrefixMill$Draft" (14 : Nat) "PrefixMill$Draft" "row" "LPrefixMill$Row;"), (Jvm.Cond.fieldLinkNest "PrefixMill$Writer" (44 : Nat) "PrefixMill$Draft" "row" "LPrefixMill$Row;" "PrefixMill"), (Jvm.Cond.fieldLink "PrefixMill$Draft" (21 : Nat) "PrefixMill$Draft" "share" "LPrefixMill$Share;"), (Jvm.Cond.fieldLink "PrefixMill$Draft" (25 : Nat) "PrefixMill$Draft" "order" "I"), (Jvm.Cond.laysFinal "PrefixMill$Draft" "PrefixMill$Draft" "row" "LPrefixMill$Row;"), (Jvm.Cond.laysFinal "PrefixMill$Draft" "PrefixMill$Draft" "share" "LPrefixMill$Share;"), (Jvm.Cond.laysFinal "PrefixMill$Draft" "PrefixMill$Draft" "order" "I"), (Jvm.Cond.fieldLink "PrefixMill$Writer" (14 : Nat) "PrefixMill$Writer" "five" "LPrefixMill$Draft;"), (Jvm.Cond.fieldLink "PrefixMill$Writer" (20 : Nat) "PrefixMill$Writer" "six" "LPrefixMill$Draft;"), (Jvm.Cond.fieldLink "PrefixMill$Writer" (23 : Nat) "PrefixMill$Writer" "weights" "[I"), (Jvm.Cond.fieldLink "PrefixMill$Writer" (27 : Nat) "PrefixMill$Writer" "counts" "[I"), (Jvm.Cond.laysFinal "PrefixMill$Writer" "PrefixMill$Writer" "five" "LPrefixMill$Draft;"), (Jvm.Cond.laysFinal "PrefixMill$Writer" "PrefixMill$Writer" "six" "LPrefixMill$Draft;"), (Jvm.Cond.laysFinal "PrefixMill$Writer" "PrefixMill$Writer" "weights" "[I"), (Jvm.Cond.laysFinal "PrefixMill$Writer" "PrefixMill$Writer" "counts" "[I"), (Jvm.Cond.classLink "PrefixMill" (46 : Nat) "PrefixMill$Reader"), (Jvm.Cond.instantiable "PrefixMill$Reader" (6 : Nat)), (Jvm.Cond.methodLinkNest "PrefixMill" (48 : Nat) ({ cls := "PrefixMill$Reader", name := "<init>", desc := "()V" } : Jvm.MethodName) "PrefixMill"), (Jvm.Cond.instanceMethod ({ cls := "PrefixMill$Reader", name := "<init>", desc := "()V" } : Jvm.MethodName)), (Jvm.Cond.code ({ cls := "PrefixMill$Reader", name := "<init>", desc := "()V" } : Jvm.MethodName) prog_4_method_1_code (1 : Nat) (Option.none : Option Jvm.ClassFile.FieldType)), (Jvm.Cond.methodLink "PrefixMill$Reader" (3 : Nat) ({ cls := "java/lang/Object", name := "<init>", desc := "()V" } : Jvm.MethodName)), (Jvm.Cond.classLink "PrefixMill$Reader" (9 : Nat) "PrefixMill$Tail"), (Jvm.Cond.instantiable "PrefixMill$Tail" (2 : Nat)), (Jvm.Cond.methodLinkNest "PrefixMill$Reader" (11 : Nat) ({ cls := "PrefixMill$Tail", name := "<init>", desc := "()V" } : Jvm.MethodName) "PrefixMill"), (Jvm.Cond.instanceMethod ({ cls := "PrefixMill$Tail", name := "<init>", desc := "()V" } : Jvm.MethodName)), (Jvm.Cond.code ({ cls := "PrefixMill$Tail", name := "<init>", desc := "()V" } : Jvm.MethodName) prog_8_method_1_code (1 : Nat) (Option.none : Option Jvm.ClassFile.FieldType)), (Jvm.Cond.methodLink "PrefixMill$Tail" (1 : Nat) ({ cls := "java/lang/Object", name := "<init>", desc := "()V" } : Jvm.MethodName)), (Jvm.Cond.fieldLink "PrefixMill$Tail" (13 : Nat) "PrefixMill$Tail" "first" "I"), (Jvm.Cond.fieldLink "PrefixMill$Tail" (24 : Nat) "PrefixMill$Tail" "left" "I"), (Jvm.Cond.fieldLinkNest "PrefixMill$Reader" (68 : Nat) "PrefixMill$Tail" "left" "I" "PrefixMill"), (Jvm.Cond.fieldLinkNest "PrefixMill$Streams" (100 : Nat) "PrefixMill$Tail" "left" "I" "PrefixMill"), (Jvm.Cond.lays "PrefixMill$Tail" "PrefixMill$Tail" "first" "I"), (Jvm.Cond.lays "PrefixMill$Tail" "PrefixMill$Tail" "left" "I"), (Jvm.Cond.classLink "PrefixMill$Reader" (18 : Nat) "PrefixMill$Share"), (Jvm.Cond.methodLinkNest "PrefixMill$Reader" (20 : Nat) ({ cls := "PrefixMill$Share", name := "<init>", desc := "()V" } : Jvm.MethodName) "PrefixMill"), (Jvm.Cond.fieldLink "PrefixMill$Reader" (12 : Nat) "PrefixMill$Reader" "tail" "LPrefixMill$Tail;"), (Jvm.Cond.fieldLink "PrefixMill$Reader" (21 : Nat) "PrefixMill$Reader" "share" "LPrefixMill$Share;"), (Jvm.Cond.fieldLink "PrefixMill$Reader" (25 : Nat) "PrefixMill$Reader" "weights" "[I"), (Jvm.Cond.fieldLink "PrefixMill$Reader" (29 : Nat) "PrefixMill$Reader" "lengths" "[I"), (Jvm.Cond.fieldLinkNest "PrefixMill" (124 : Nat) "PrefixMill$Reader" "lengths" "[I" "PrefixMill"), (Jvm.Cond.fieldLink "PrefixMill$Reader" (61 : Nat) "PrefixMill$Reader" "known" "I"), (Jvm.Cond.fieldLink "PrefixMill$Reader" (38 : Nat) "PrefixMill$Reader" "end" "I"), (Jvm.Cond.fieldLinkNest "PrefixMill" (121 : Nat) "PrefixMill$Reader" "end" "I" "PrefixMill"), (Jvm.Cond.laysFinal "PrefixMill$Reader" "PrefixMill$Reader" "tail" "LPrefixMill$Tail;"), (Jvm.Cond.laysFinal "PrefixMill$Reader" "PrefixMill$Reader" "share" "LPrefixMill$Share;"), (Jvm.Cond.laysFinal "PrefixMill$Reader" "PrefixMill$Reader" "weights" "[I"), (Jvm.Cond.laysFinal "PrefixMill$Reader" "PrefixMill$Reader" "lengths" "[I"), (Jvm.Cond.lays "PrefixMill$Reader" "PrefixMill$Reader" "known" "I"), (Jvm.Cond.lays "PrefixMill$Reader" "PrefixMill$Reader" "end" "I"), (Jvm.Cond.classLink "PrefixMill" (53 : Nat) "PrefixMill$Streams"), (Jvm.Cond.instantiable "PrefixMill$Streams" (2 : Nat)), (Jvm.Cond.methodLinkNest "PrefixMill" (55 : Nat) ({ cls := "PrefixMill$Streams", name := "<init>", desc := "()V" } : Jvm.MethodName) "PrefixMill"), (Jvm.Cond.instanceMethod ({ cls := "PrefixMill$Streams", name := "<init>", desc := "()V" } : Jvm.MethodName)), (Jvm.Cond.code ({ cls := "PrefixMill$Streams", name := "<init>", desc := "()V" } : Jvm.MethodName) prog_7_method_1_code (1 : Nat) (Option.none : Option Jvm.ClassFile.FieldType)), (Jvm.Cond.methodLink "PrefixMill$Streams" (3 : Nat) ({ cls := "java/lang/Object", name := "<init>", desc := "()V" } : Jvm.MethodName)), (Jvm.Cond.classLink "PrefixMill$Streams" (9 : Nat) "PrefixMill$Row"), (Jvm.Cond.methodLink "PrefixMill$Streams" (11 : Nat) ({ cls := "PrefixMill$Row", name := "<init>", desc := "(I)V" } : Jvm.MethodName)), (Jvm.Cond.classLink "PrefixMill$Streams" (20 : Nat) "PrefixMill$Tail"), (Jvm.Cond.methodLinkNest "PrefixMill$Streams" (22 : Nat) ({ cls := "PrefixMill$Tail", name := "<init>", desc := "()V" } : Jvm.MethodName) "PrefixMill"), (Jvm.Cond.fieldLink "PrefixMill$Streams" (14 : Nat) "PrefixMill$Streams" "symbols" "LPrefixMill$Row;"), (Jvm.Cond.fieldLinkNest "PrefixMill" (145 : Nat) "PrefixMill$Streams" "symbols" "LPrefixMill$Row;" "PrefixMill"), (Jvm.Cond.fieldLink "PrefixMill$Streams" (23 : Nat) "PrefixMill$Streams" "tail" "LPrefixMill$Tail;"), (Jvm.Cond.laysFinal "PrefixMill$Streams" "PrefixMill$Streams" "symbols" "LPrefixMill$Row;"), (Jvm.Cond.laysFinal "PrefixMill$Streams" "PrefixMill$Streams" "tail" "LPrefixMill$Tail;"), (Jvm.Cond.fieldLink "PrefixMill" (14 : Nat) "PrefixMill" "in" "LPrefixMill$Row;"), (Jvm.Cond.fieldLink "PrefixMill" (18 : Nat) "PrefixMill" "out" "LPrefixMill$Row;"), (Jvm.Cond.fieldLink "PrefixMill" (21 : Nat) "PrefixMill" "counts" "[I"), (Jvm.Cond.fieldLink "PrefixMill" (28 : Nat) "PrefixMill" "codes" "LPrefixMill$Codes;"), (Jvm.Cond.fieldLink "PrefixMill" (35 : Nat) "PrefixMill" "tree" "LPrefixMill$Tree;"), (Jvm.Cond.fieldLink "PrefixMill" (42 : Nat) "PrefixMill" "writer" "LPrefixMill$Writer;"), (Jvm.Cond.fieldLink "PrefixMill" (49 : Nat) "PrefixMill" "reader" "LPrefixMill$Reader;"), (Jvm.Cond.fieldLink "PrefixMill" (56 : Nat) "PrefixMill" "streams" "LPrefixMill$Streams;"), (Jvm.Cond.fieldLink "PrefixMill" (60 : Nat) "PrefixMill" "place" "I"), (Jvm.Cond.laysFinal "PrefixMill" "PrefixMill" "in" "LPrefixMill$Row;"), (Jvm.Cond.laysFinal "PrefixMill" "PrefixMill" "out" "LPrefixMill$Row;"), (Jvm.Cond.laysFinal "PrefixMill" "PrefixMill" "counts" "[I"), (Jvm.Cond.laysFinal "PrefixMill" "PrefixMill" "codes" "LPrefixMill$Codes;"), (Jvm.Cond.laysFinal "PrefixMill" "PrefixMill" "tree" "LPrefixMill$Tree;"), (Jvm.Cond.laysFinal "PrefixMill" "PrefixMill" "writer" "LPrefixMill$Writer;"), (Jvm.Cond.laysFinal "PrefixMill" "PrefixMill" "reader" "LPrefixMill$Reader;"), (Jvm.Cond.laysFinal "PrefixMill" "PrefixMill" "streams" "LPrefixMill$Streams;"), (Jvm.Cond.lays "PrefixMill" "PrefixMill" "place" "I"), (Jvm.Cond.methodLink "PrefixMillLaw" (15 : Nat) ({ cls := "PrefixMill", name := "write", desc := "(JI)Z" } : Jvm.MethodName)), (Jvm.Cond.instanceMethod ({ cls := "PrefixMill", name := "write", desc := "(JI)Z" } : Jvm.MethodName)), (Jvm.Cond.selects "PrefixMill" ({ cls := "PrefixMill", name := "write", desc := "(JI)Z" } : Jvm.MethodName) ({ cls := "PrefixMill", name := "write", desc := "(JI)Z" } : Jvm.MethodName))]
def tt_3 : List Cond := [(Jvm.Cond.code ({ cls := "PrefixMill", name := "write", desc := "(JI)Z" } : Jvm.MethodName) prog_1_method_2_code (5 : Nat) (Option.some Jvm.ClassFile.FieldType.boolean)), (Jvm.Cond.methodLink "PrefixMill" (67 : Nat) ({ cls := "PrefixMill$Row", name := "add", desc := "(I)V" } : Jvm.MethodName)), (Jvm.Cond.instanceMethod ({ cls := "PrefixMill$Row", name := "add", desc := "(I)V" } : Jvm.MethodName)), (Jvm.Cond.selects "PrefixMill$Row" ({ cls := "PrefixMill$Row", name := "add", desc := "(I)V" } : Jvm.MethodName) ({ cls := "PrefixMill$Row", name := "add", desc := "(I)V" } : Jvm.MethodName)), (Jvm.Cond.code ({ cls := "PrefixMill$Row", name := "add", desc := "(I)V" } : Jvm.MethodName) prog_5_method_3_code (4 : Nat) (Option.none : Option Jvm.ClassFile.FieldType)), (Jvm.Cond.constantLong "PrefixMill$Row" (20 : Nat) (255 : Int64)), (Jvm.Cond.constantLong "PrefixMill$Row" (22 : Nat) (-1 : Int64)), (Jvm.Cond.methodLink "PrefixMillLaw" (20 : Nat) ({ cls := "PrefixMill", name := "again", desc := "(II)Z" } : Jvm.MethodName)), (Jvm.Cond.instanceMethod ({ cls := "PrefixMill", name := "again", desc := "(II)Z" } : Jvm.MethodName)), (Jvm.Cond.selects "PrefixMill" ({ cls := "PrefixMill", name := "again", desc := "(II)Z" } : Jvm.MethodName) ({ cls := "PrefixMill", name := "again", desc := "(II)Z" } : Jvm.MethodName)), (Jvm.Cond.code ({ cls := "PrefixMill", name := "again", desc := "(II)Z" } : Jvm.MethodName) prog_1_method_3_code (5 : Nat) (Option.some Jvm.ClassFile.FieldType.boolean)), (Jvm.Cond.methodLink "PrefixMill" (70 : Nat) ({ cls := "PrefixMill$Row", name := "get", desc := "(I)I" } : Jvm.MethodName)), (Jvm.Cond.instanceMethod ({ cls := "PrefixMill$Row", name := "get", desc := "(I)I" } : Jvm.MethodName)), (Jvm.Cond.selects "PrefixMill$Row" ({ cls := "PrefixMill$Row", name := "get", desc := "(I)I" } : Jvm.MethodName) ({ cls := "PrefixMill$Row", name := "get", desc := "(I)I" } : Jvm.MethodName)), (Jvm.Cond.code ({ cls := "PrefixMill$Row", name := "get", desc := "(I)I" } : Jvm.MethodName) prog_5_method_4_code (2 : Nat) (Option.some Jvm.ClassFile.FieldType.int)), (Jvm.Cond.methodLink "PrefixMillLaw" (25 : Nat) ({ cls := "PrefixMill", name := "turn", desc := "()V" } : Jvm.MethodName)), (Jvm.Cond.instanceMethod ({ cls := "PrefixMill", name := "turn", desc := "()V" } : Jvm.MethodName)), (Jvm.Cond.selects "PrefixMill" ({ cls := "PrefixMill", name := "turn", desc := "()V" } : Jvm.MethodName) ({ cls := "PrefixMill", name := "turn", desc := "()V" } : Jvm.MethodName)), (Jvm.Cond.code ({ cls := "PrefixMill", name := "turn", desc := "()V" } : Jvm.MethodName) prog_1_method_4_code (1 : Nat) (Option.none : Option Jvm.ClassFile.FieldType)), (Jvm.Cond.methodLink "PrefixMill" (74 : Nat) ({ cls := "PrefixMill$Row", name := "copy", desc := "(LPrefixMill$Row;)V" } : Jvm.MethodName)), (Jvm.Cond.instanceMethod ({ cls := "PrefixMill$Row", name := "copy", desc := "(LPrefixMill$Row;)V" } : Jvm.MethodName)), (Jvm.Cond.selects "PrefixMill$Row" ({ cls := "PrefixMill$Row", name := "copy", desc := "(LPrefixMill$Row;)V" } : Jvm.MethodName) ({ cls := "PrefixMill$Row", name := "copy", desc := "(LPrefixMill$Row;)V" } : Jvm.MethodName)), (Jvm.Cond.code ({ cls := "PrefixMill$Row", name := "copy", desc := "(LPrefixMill$Row;)V" } : Jvm.MethodName) prog_5_method_6_code (3 : Nat) (Option.none : Option Jvm.ClassFile.FieldType)), (Jvm.Cond.methodLink "PrefixMill$Row" (34 : Nat) ({ cls := "java/lang/Math", name := "min", desc := "(II)I" } : Jvm.MethodName)), (Jvm.Cond.static ({ cls := "java/lang/Math", name := "min", desc := "(II)I" } : Jvm.MethodName)), (Jvm.Cond.code ({ cls := "java/lang/Math", name := "min", desc := "(II)I" } : Jvm.MethodName) prog_13_method_69_code (2 : Nat) (Option.some Jvm.ClassFile.FieldType.int)), (Jvm.Cond.methodLink "PrefixMill$Row" (37 : Nat) ({ cls := "java/lang/System", name := "arraycopy", desc := "(Ljava/lang/Object;ILjava/lang/Object;II)V" } : Jvm.MethodName)), (Jvm.Cond.static ({ cls := "java/lang/System", name := "arraycopy", desc := "(Ljava/lang/Object;ILjava/lang/Object;II)V" } : Jvm.MethodName)), (Jvm.Cond.native ({ cls := "java/lang/System", name := "arraycopy", desc := "(Ljava/lang/Object;ILjava/lang/Object;II)V" } : Jvm.MethodName)), (Jvm.Cond.methodLink "PrefixMillLaw" (29 : Nat) ({ cls := "PrefixMill", name := "clear", desc := "()V" } : Jvm.MethodName)), (Jvm.Cond.instanceMethod ({ cls := "PrefixMill", name := "clear", desc := "()V" } : Jvm.MethodName)), (Jvm.Cond.selects "PrefixMill" ({ cls := "PrefixMill", name := "clear", desc := "()V" } : Jvm.MethodName) ({ cls := "PrefixMill", name := "clear", desc := "()V" } : Jvm.MethodName)), (Jvm.Cond.code ({ cls := "PrefixMill", name := "clear", desc := "()V" } : Jvm.MethodName) prog_1_method_5_code (1 : Nat) (Option.none : Option Jvm.ClassFile.FieldType)), (Jvm.Cond.methodLink "PrefixMill" (78 : Nat) ({ cls := "PrefixMill$Row", name := "empty", desc := "()V" } : Jvm.MethodName)), (Jvm.Cond.instanceMethod ({ cls := "PrefixMill$Row", name := "empty", desc := "()V" } : Jvm.MethodName)), (Jvm.Cond.selects "PrefixMill$Row" ({ cls := "PrefixMill$Row", name := "empty", desc := "()V" } : Jvm.MethodName) ({ cls := "PrefixMill$Row", name := "empty", desc := "()V" } : Jvm.MethodName)), (Jvm.Cond.code ({ cls := "PrefixMill$Row", name := "empty", desc := "()V" } : Jvm.MethodName) prog_5_method_2_code (1 : Nat) (Option.none : Option Jvm.ClassFile.FieldType)), (Jvm.Cond.methodLink "PrefixMill" (81 : Nat) ({ cls := "java/util/Arrays", name := "fill", desc := "([II)V" } : Jvm.MethodName)), (Jvm.Cond.static ({ cls := "java/util/Arrays", name := "fill", desc := "([II)V" } : Jvm.MethodName)), (Jvm.Cond.code ({ cls := "java/util/Arrays", name := "fill", desc := "([II)V" } : Jvm.MethodName) prog_15_method_103_code (4 : Nat) (Option.none : Option Jvm.ClassFile.FieldType)), (Jvm.Cond.methodLink "PrefixMillLaw" (33 : Nat) ({ cls := "PrefixMill", name := "place", desc := "(I)Z" } : Jvm.MethodName)), (Jvm.Cond.instanceMethod ({ cls := "PrefixMill", name := "place", desc := "(I)Z" } : Jvm.MethodName)), (Jvm.Cond.selects "PrefixMill" ({ cls := "PrefixMill", name := "place", desc := "(I)Z" } : Jvm.MethodName) ({ cls := "PrefixMill", name := "place", desc := "(I)Z" } : Jvm.MethodName)), (Jvm.Cond.code ({ cls := "PrefixMill", name := "place", desc := "(I)Z" } : Jvm.MethodName) prog_1_method_6_code (2 : Nat) (Option.some Jvm.ClassFile.FieldType.boolean)), (Jvm.Cond.methodLink "PrefixMillLaw" (38 : Nat) ({ cls := "PrefixMill", name := "at", desc := "()I" } : Jvm.MethodName)), (Jvm.Cond.instanceMethod ({ cls := "PrefixMill", name := "at", desc := "()I" } : Jvm.MethodName)), (Jvm.Cond.selects "PrefixMill" ({ cls := "PrefixMill", name := "at", desc := "()I" } : Jvm.MethodName) ({ cls := "PrefixMill", name := "at", desc := "()I" } : Jvm.MethodName)), (Jvm.Cond.code ({ cls := "PrefixMill", name := "at", desc := "()I" } : Jvm.MethodName) prog_1_method_7_code (1 : Nat) (Option.some Jvm.ClassFile.FieldType.int)), (Jvm.Cond.methodLink "PrefixMillLaw" (43 : Nat) ({ cls := "PrefixMill", name := "count", desc := "(II)Z" } : Jvm.MethodName)), (Jvm.Cond.instanceMethod ({ cls := "PrefixMill", name := "count", desc := "(II)Z" } : Jvm.MethodName)), (Jvm.Cond.selects "PrefixMill" ({ cls := "PrefixMill", name := "count", desc := "(II)Z" } : Jvm.MethodName) ({ cls := "PrefixMill", name := "count", desc := "(II)Z" } : Jvm.MethodName)), (Jvm.Cond.code ({ cls := "PrefixMill", name := "count", desc := "(II)Z" } : Jvm.MethodName) prog_1_method_8_code (3 : Nat) (Option.some Jvm.ClassFile.FieldType.boolean)), (Jvm.Cond.methodLink "PrefixMill" (87 : Nat) ({ cls := "PrefixMill", name := "isSymbol", desc := "(I)Z" } : Jvm.MethodName)), (Jvm.Cond.static ({ cls := "PrefixMill", name := "isSymbol", desc := "(I)Z" } : Jvm.MethodName)), (Jvm.Cond.code ({ cls := "PrefixMill", name := "isSymbol", desc := "(I)Z" } : Jvm.MethodName) prog_1_method_20_code (1 : Nat) (Option.some Jvm.ClassFile.FieldType.boolean)), (Jvm.Cond.constant "PrefixMill" (91 : Nat) (65535 : Int32)), (Jvm.Cond.methodLink "PrefixMillLaw" (47 : Nat) ({ cls := "PrefixMill", name := "countAll", desc := "()I" } : Jvm.MethodName)), (Jvm.Cond.instanceMethod ({ cls := "PrefixMill", name := "countAll", desc := "()I" } : Jvm.MethodName)), (Jvm.Cond.selects "PrefixMill" ({ cls := "PrefixMill", name := "countAll", desc := "()I" } : Jvm.MethodName) ({ cls := "PrefixMill", name := "countAll", desc := "()I" } : Jvm.MethodName)), (Jvm.Cond.code ({ cls := "PrefixMill", name := "countAll", desc := "()I" } : Jvm.MethodName) prog_1_method_9_code (2 : Nat) (Option.some Jvm.ClassFile.FieldType.int)), (Jvm.Cond.methodLink "PrefixMillLaw" (51 : Nat) ({ cls := "PrefixMill", name := "lengths", desc := "(I)I" } : Jvm.MethodName)), (Jvm.Cond.instanceMethod ({ cls := "PrefixMill", name := "lengths", desc := "(I)I" } : Jvm.MethodName)), (Jvm.Cond.selects "PrefixMill" ({ cls := "PrefixMill", name := "lengths", desc := "(I)I" } : Jvm.MethodName) ({ cls := "PrefixMill", name := "lengths", desc := "(I)I" } : Jvm.MethodName)), (Jvm.Cond.code ({ cls := "PrefixMill", name := "lengths", desc := "(I)I" } : Jvm.MethodName) prog_1_method_10_code (3 : Nat) (Option.some Jvm.ClassFile.FieldType.int)), (Jvm.Cond.methodLink "PrefixMill" (92 : Nat) ({ cls := "PrefixMill$Tree", name := "plant", desc := "([I)I" } : Jvm.MethodName)), (Jvm.Cond.instanceMethod ({ cls := "PrefixMill$Tree", name := "plant", desc := "([I)I" } : Jvm.MethodName)), (Jvm.Cond.selects "PrefixMill$Tree" ({ cls := "PrefixMill$Tree", name := "plant", desc := "([I)I" } : Jvm.MethodName) ({ cls := "PrefixMill$Tree", name := "plant", desc := "([I)I" } : Jvm.MethodName)), (Jvm.Cond.code ({ cls := "PrefixMill$Tree", name := "plant", desc := "([I)I" } : Jvm.MethodName) prog_9_method_2_code (3 : Nat) (Option.some Jvm.ClassFile.FieldType.int)), (Jvm.Cond.methodLink "PrefixMill" (96 : Nat) ({ cls := "PrefixMill$Tree", name := "grow", desc := "(I)V" } : Jvm.MethodName)), (Jvm.Cond.instanceMethod ({ cls := "PrefixMill$Tree", name := "grow", desc := "(I)V" } : Jvm.MethodName)), (Jvm.Cond.selects "PrefixMill$Tree" ({ cls := "PrefixMill$Tree", name := "grow", desc := "(I)V" } : Jvm.MethodName) ({ cls := "PrefixMill$Tree", name := "grow", desc := "(I)V" } : Jvm.MethodName)), (Jvm.Cond.code ({ cls := "PrefixMill$Tree", name := "grow", desc := "(I)V" } : Jvm.MethodName) prog_9_method_3_code (3 : Nat) (Option.none : Option Jvm.ClassFile.FieldType)), (Jvm.Cond.methodLink "PrefixMill$Tree" (40 : Nat) ({ cls := "PrefixMill$Tree", name := "sortLeaves", desc := "()V" } : Jvm.MethodName)), (Jvm.Cond.instanceMethod ({ cls := "PrefixMill$Tree", name := "sortLeaves", desc := "()V" } : Jvm.MethodName)), (Jvm.Cond.code ({ cls := "PrefixMill$Tree", name := "sortLeaves", desc := "()V" } : Jvm.MethodName) prog_9_method_5_code (3 : Nat) (Option.none : Option Jvm.ClassFile.FieldType)), (Jvm.Cond.methodLink "PrefixMill$Tree" (53 : Nat) ({ cls := "PrefixMill$Tree", name := "sortByByte", desc := "([I[II)V" } : Jvm.MethodName)), (Jvm.Cond.instanceMethod ({ cls := "PrefixMill$Tree", name := "sortByByte", desc := "([I[II)V" } : Jvm.MethodName)), (Jvm.Cond.code ({ cls := "PrefixMill$Tree", name := "sortByByte", desc := "([I[II)V" } : Jvm.MethodName) prog_9_method_6_code (6 : Nat) (Option.none : Option Jvm.ClassFile.FieldType)), (Jvm.Cond.methodLink "PrefixMill$Tree" (57 : Nat) ({ cls := "java/util/Arrays", name := "fill", desc := "([II)V" } : Jvm.MethodName)), (Jvm.Cond.methodLink "PrefixMill$Tree" (43 : Nat) ({ cls := "PrefixMill$Tree", name := "join", desc := "()V" } : Jvm.MethodName)), (Jvm.Cond.instanceMethod ({ cls := "PrefixMill$Tree", name := "join", desc := "()V" } : Jvm.MethodName)), (Jvm.Cond.code ({ cls := "PrefixMill$Tree", name := "join", desc := "()V" } : Jvm.MethodName) prog_9_method_7_code (4 : Nat) (Option.none : Option Jvm.ClassFile.FieldType)), (Jvm.Cond.methodLink "PrefixMill$Tree" (69 : Nat) ({ cls := "PrefixMill$Tree", name := "least", desc := "(I)I" } : Jvm.MethodName)), (Jvm.Cond.instanceMethod ({ cls := "PrefixMill$Tree", name := "least", desc := "(I)I" } : Jvm.MethodName)), (Jvm.Cond.code ({ cls := "PrefixMill$Tree", name := "least", desc := "(I)I" } : Jvm.MethodName) prog_9_method_8_code (2 : Nat) (Option.some Jvm.ClassFile.FieldType.int)), (Jvm.Cond.methodLink "PrefixMill$Tree" (46 : Nat) ({ cls := "PrefixMill$Tree", name := "measure", desc := "()I" } : Jvm.MethodName)), (Jvm.Cond.instanceMethod ({ cls := "PrefixMill$Tree", name := "measure", desc := "()I" } : Jvm.MethodName)), (Jvm.Cond.code ({ cls := "PrefixMill$Tree", name := "measure", desc := "()I" } : Jvm.MethodName) prog_9_method_9_code (3 : Nat) (Option.some Jvm.ClassFile.FieldType.int)), (Jvm.Cond.methodLinkNest "PrefixMill$Tree" (73 : Nat) ({ cls := "PrefixMill", name := "greatestOf", desc := "([I)I" } : Jvm.MethodName) "PrefixMill"), (Jvm.Cond.static ({ cls := "PrefixMill", name := "greatestOf", desc := "([I)I" } : Jvm.MethodName)), (Jvm.Cond.code ({ cls := "PrefixMill", name := "greatestOf", desc := "([I)I" } : Jvm.MethodName) prog_1_method_23_code (3 : Nat) (Option.some Jvm.ClassFile.FieldType.int)), (Jvm.Cond.methodLink "PrefixMill" (161 : Nat) ({ cls := "java/lang/Math", name := "max", desc := "(II)I" } : Jvm.MethodName)), (Jvm.Cond.static ({ cls := "java/lang/Math", name := "max", desc := "(II)I" } : Jvm.MethodName)), (Jvm.Cond.code ({ cls := "java/lang/Math", name := "max", desc := "(II)I" } : Jvm.MethodName) prog_13_method_65_code (2 : Nat) (Option.some Jvm.ClassFile.FieldType.int)), (Jvm.Cond.methodLink "PrefixMill$Tree" (50 : Nat) ({ cls := "PrefixMill$Tree", name := "halve", desc := "()V" } : Jvm.MethodName)), (Jvm.Cond.instanceMethod ({ cls := "PrefixMill$Tree", name := "halve", desc := "()V" } : Jvm.MethodName)), (Jvm.Cond.code ({ cls := "PrefixMill$Tree", name := "halve", desc := "()V" } : Jvm.MethodName) prog_9_method_4_code (2 : Nat) (Option.none : Option Jvm.ClassFile.FieldType)), (Jvm.Cond.methodLink "PrefixMill" (102 : Nat) ({ cls := "PrefixMill$Codes", name := "become", desc := "([I)I" } : Jvm.MethodName)), (Jvm.Cond.instanceMethod ({ cls := "PrefixMill$Codes", name := "become", desc := "([I)I" } : Jvm.MethodName)), (Jvm.Cond.selects "PrefixMill$Codes" ({ cls := "PrefixMill$Codes", name := "become", desc := "([I)I" } : Jvm.MethodName) ({ cls := "PrefixMill$Codes", name := "become", desc := "([I)I" } : Jvm.MethodName))]
def tt_4 : List Cond := [(Jvm.Cond.code ({ cls := "PrefixMill$Codes", name := "become", desc := "([I)I" } : Jvm.MethodName) prog_2_method_3_code (3 : Nat) (Option.some Jvm.ClassFile.FieldType.int)), (Jvm.Cond.methodLinkNest "PrefixMill$Codes" (25 : Nat) ({ cls := "PrefixMill", name := "greatestOf", desc := "([I)I" } : Jvm.MethodName) "PrefixMill"), (Jvm.Cond.methodLink "PrefixMill$Codes" (35 : Nat) ({ cls := "PrefixMill$Codes", name := "fillCells", desc := "()V" } : Jvm.MethodName)), (Jvm.Cond.instanceMethod ({ cls := "PrefixMill$Codes", name := "fillCells", desc := "()V" } : Jvm.MethodName)), (Jvm.Cond.code ({ cls := "PrefixMill$Codes", name := "fillCells", desc := "()V" } : Jvm.MethodName) prog_2_method_4_code (4 : Nat) (Option.none : Option Jvm.ClassFile.FieldType)), (Jvm.Cond.methodLink "PrefixMill$Codes" (38 : Nat) ({ cls := "PrefixMill$Codes", name := "giveCells", desc := "(III)I" } : Jvm.MethodName)), (Jvm.Cond.instanceMethod ({ cls := "PrefixMill$Codes", name := "giveCells", desc := "(III)I" } : Jvm.MethodName)), (Jvm.Cond.code ({ cls := "PrefixMill$Codes", name := "giveCells", desc := "(III)I" } : Jvm.MethodName) prog_2_method_5_code (6 : Nat) (Option.some Jvm.ClassFile.FieldType.int)), (Jvm.Cond.methodLink "PrefixMill$Codes" (42 : Nat) ({ cls := "java/lang/Math", name := "min", desc := "(II)I" } : Jvm.MethodName)), (Jvm.Cond.methodLink "PrefixMillLaw" (56 : Nat) ({ cls := "PrefixMill", name := "just", desc := "()I" } : Jvm.MethodName)), (Jvm.Cond.instanceMethod ({ cls := "PrefixMill", name := "just", desc := "()I" } : Jvm.MethodName)), (Jvm.Cond.selects "PrefixMill" ({ cls := "PrefixMill", name := "just", desc := "()I" } : Jvm.MethodName) ({ cls := "PrefixMill", name := "just", desc := "()I" } : Jvm.MethodName)), (Jvm.Cond.code ({ cls := "PrefixMill", name := "just", desc := "()I" } : Jvm.MethodName) prog_1_method_11_code (1 : Nat) (Option.some Jvm.ClassFile.FieldType.int)), (Jvm.Cond.methodLink "PrefixMill" (105 : Nat) ({ cls := "PrefixMill", name := "areLengths", desc := "([I)Z" } : Jvm.MethodName)), (Jvm.Cond.static ({ cls := "PrefixMill", name := "areLengths", desc := "([I)Z" } : Jvm.MethodName)), (Jvm.Cond.code ({ cls := "PrefixMill", name := "areLengths", desc := "([I)Z" } : Jvm.MethodName) prog_1_method_22_code (4 : Nat) (Option.some Jvm.ClassFile.FieldType.boolean)), (Jvm.Cond.methodLink "PrefixMill" (158 : Nat) ({ cls := "PrefixMill", name := "greatestOf", desc := "([I)I" } : Jvm.MethodName)), (Jvm.Cond.methodLink "PrefixMillLaw" (60 : Nat) ({ cls := "PrefixMill", name := "describe", desc := "()I" } : Jvm.MethodName)), (Jvm.Cond.instanceMethod ({ cls := "PrefixMill", name := "describe", desc := "()I" } : Jvm.MethodName)), (Jvm.Cond.selects "PrefixMill" ({ cls := "PrefixMill", name := "describe", desc := "()I" } : Jvm.MethodName) ({ cls := "PrefixMill", name := "describe", desc := "()I" } : Jvm.MethodName)), (Jvm.Cond.code ({ cls := "PrefixMill", name := "describe", desc := "()I" } : Jvm.MethodName) prog_1_method_12_code (1 : Nat) (Option.some Jvm.ClassFile.FieldType.int)), (Jvm.Cond.methodLink "PrefixMill" (109 : Nat) ({ cls := "PrefixMill$Codes", name := "areThere", desc := "()Z" } : Jvm.MethodName)), (Jvm.Cond.instanceMethod ({ cls := "PrefixMill$Codes", name := "areThere", desc := "()Z" } : Jvm.MethodName)), (Jvm.Cond.selects "PrefixMill$Codes" ({ cls := "PrefixMill$Codes", name := "areThere", desc := "()Z" } : Jvm.MethodName) ({ cls := "PrefixMill$Codes", name := "areThere", desc := "()Z" } : Jvm.MethodName)), (Jvm.Cond.code ({ cls := "PrefixMill$Codes", name := "areThere", desc := "()Z" } : Jvm.MethodName) prog_2_method_2_code (1 : Nat) (Option.some Jvm.ClassFile.FieldType.boolean)), (Jvm.Cond.methodLink "PrefixMill" (113 : Nat) ({ cls := "PrefixMill$Writer", name := "describeCodes", desc := "(LPrefixMill$Codes;LPrefixMill$Row;)I" } : Jvm.MethodName)), (Jvm.Cond.instanceMethod ({ cls := "PrefixMill$Writer", name := "describeCodes", desc := "(LPrefixMill$Codes;LPrefixMill$Row;)I" } : Jvm.MethodName)), (Jvm.Cond.selects "PrefixMill$Writer" ({ cls := "PrefixMill$Writer", name := "describeCodes", desc := "(LPrefixMill$Codes;LPrefixMill$Row;)I" } : Jvm.MethodName) ({ cls := "PrefixMill$Writer", name := "describeCodes", desc := "(LPrefixMill$Codes;LPrefixMill$Row;)I" } : Jvm.MethodName)), (Jvm.Cond.code ({ cls := "PrefixMill$Writer", name := "describeCodes", desc := "(LPrefixMill$Codes;LPrefixMill$Row;)I" } : Jvm.MethodName) prog_10_method_2_code (8 : Nat) (Option.some Jvm.ClassFile.FieldType.int)), (Jvm.Cond.methodLink "PrefixMill$Writer" (36 : Nat) ({ cls := "PrefixMill$Writer", name := "takeWeights", desc := "(LPrefixMill$Codes;I)V" } : Jvm.MethodName)), (Jvm.Cond.instanceMethod ({ cls := "PrefixMill$Writer", name := "takeWeights", desc := "(LPrefixMill$Codes;I)V" } : Jvm.MethodName)), (Jvm.Cond.code ({ cls := "PrefixMill$Writer", name := "takeWeights", desc := "(LPrefixMill$Codes;I)V" } : Jvm.MethodName) prog_10_method_3_code (4 : Nat) (Option.none : Option Jvm.ClassFile.FieldType)), (Jvm.Cond.methodLink "PrefixMill$Writer" (64 : Nat) ({ cls := "java/util/Arrays", name := "fill", desc := "([II)V" } : Jvm.MethodName)), (Jvm.Cond.methodLink "PrefixMill$Writer" (70 : Nat) ({ cls := "PrefixMill$Codes", name := "weightOf", desc := "(I)I" } : Jvm.MethodName)), (Jvm.Cond.instanceMethod ({ cls := "PrefixMill$Codes", name := "weightOf", desc := "(I)I" } : Jvm.MethodName)), (Jvm.Cond.selects "PrefixMill$Codes" ({ cls := "PrefixMill$Codes", name := "weightOf", desc := "(I)I" } : Jvm.MethodName) ({ cls := "PrefixMill$Codes", name := "weightOf", desc := "(I)I" } : Jvm.MethodName)), (Jvm.Cond.code ({ cls := "PrefixMill$Codes", name := "weightOf", desc := "(I)I" } : Jvm.MethodName) prog_2_method_6_code (2 : Nat) (Option.some Jvm.ClassFile.FieldType.int)), (Jvm.Cond.methodLink "PrefixMill$Writer" (40 : Nat) ({ cls := "PrefixMill$Draft", name := "compose", desc := "([II[I)V" } : Jvm.MethodName)), (Jvm.Cond.instanceMethod ({ cls := "PrefixMill$Draft", name := "compose", desc := "([II[I)V" } : Jvm.MethodName)), (Jvm.Cond.selects "PrefixMill$Draft" ({ cls := "PrefixMill$Draft", name := "compose", desc := "([II[I)V" } : Jvm.MethodName) ({ cls := "PrefixMill$Draft", name := "compose", desc := "([II[I)V" } : Jvm.MethodName)), (Jvm.Cond.code ({ cls := "PrefixMill$Draft", name := "compose", desc := "([II[I)V" } : Jvm.MethodName) prog_3_method_2_code (8 : Nat) (Option.none : Option Jvm.ClassFile.FieldType)), (Jvm.Cond.methodLink "PrefixMill$Draft" (29 : Nat) ({ cls := "PrefixMill$Row", name := "empty", desc := "()V" } : Jvm.MethodName)), (Jvm.Cond.methodLink "PrefixMill$Draft" (32 : Nat) ({ cls := "PrefixMill$Share", name := "byCounts", desc := "(I[II)V" } : Jvm.MethodName)), (Jvm.Cond.instanceMethod ({ cls := "PrefixMill$Share", name := "byCounts", desc := "(I[II)V" } : Jvm.MethodName)), (Jvm.Cond.selects "PrefixMill$Share" ({ cls := "PrefixMill$Share", name := "byCounts", desc := "(I[II)V" } : Jvm.MethodName) ({ cls := "PrefixMill$Share", name := "byCounts", desc := "(I[II)V" } : Jvm.MethodName)), (Jvm.Cond.code ({ cls := "PrefixMill$Share", name := "byCounts", desc := "(I[II)V" } : Jvm.MethodName) prog_6_method_4_code (6 : Nat) (Option.none : Option Jvm.ClassFile.FieldType)), (Jvm.Cond.methodLink "PrefixMill$Share" (50 : Nat) ({ cls := "java/lang/Math", name := "max", desc := "(II)I" } : Jvm.MethodName)), (Jvm.Cond.methodLink "PrefixMill$Share" (56 : Nat) ({ cls := "PrefixMill$Share", name := "lacking", desc := "()I" } : Jvm.MethodName)), (Jvm.Cond.instanceMethod ({ cls := "PrefixMill$Share", name := "lacking", desc := "()I" } : Jvm.MethodName)), (Jvm.Cond.code ({ cls := "PrefixMill$Share", name := "lacking", desc := "()I" } : Jvm.MethodName) prog_6_method_3_code (3 : Nat) (Option.some Jvm.ClassFile.FieldType.int)), (Jvm.Cond.methodLink "PrefixMill$Share" (46 : Nat) ({ cls := "PrefixMill$Share", name := "massOf", desc := "(I)I" } : Jvm.MethodName)), (Jvm.Cond.instanceMethod ({ cls := "PrefixMill$Share", name := "massOf", desc := "(I)I" } : Jvm.MethodName)), (Jvm.Cond.code ({ cls := "PrefixMill$Share", name := "massOf", desc := "(I)I" } : Jvm.MethodName) prog_6_method_2_code (2 : Nat) (Option.some Jvm.ClassFile.FieldType.int)), (Jvm.Cond.methodLink "PrefixMill$Share" (60 : Nat) ({ cls := "PrefixMill$Share", name := "give", desc := "(I)V" } : Jvm.MethodName)), (Jvm.Cond.instanceMethod ({ cls := "PrefixMill$Share", name := "give", desc := "(I)V" } : Jvm.MethodName)), (Jvm.Cond.code ({ cls := "PrefixMill$Share", name := "give", desc := "(I)V" } : Jvm.MethodName) prog_6_method_5_code (4 : Nat) (Option.none : Option Jvm.ClassFile.FieldType)), (Jvm.Cond.methodLink "PrefixMill$Share" (70 : Nat) ({ cls := "PrefixMill$Share", name := "queueByCuts", desc := "()I" } : Jvm.MethodName)), (Jvm.Cond.instanceMethod ({ cls := "PrefixMill$Share", name := "queueByCuts", desc := "()I" } : Jvm.MethodName)), (Jvm.Cond.code ({ cls := "PrefixMill$Share", name := "queueByCuts", desc := "()I" } : Jvm.MethodName) prog_6_method_6_code (4 : Nat) (Option.some Jvm.ClassFile.FieldType.int)), (Jvm.Cond.methodLink "PrefixMill$Share" (64 : Nat) ({ cls := "PrefixMill$Share", name := "takeAway", desc := "(I)V" } : Jvm.MethodName)), (Jvm.Cond.instanceMethod ({ cls := "PrefixMill$Share", name := "takeAway", desc := "(I)V" } : Jvm.MethodName)), (Jvm.Cond.code ({ cls := "PrefixMill$Share", name := "takeAway", desc := "(I)V" } : Jvm.MethodName) prog_6_method_7_code (5 : Nat) (Option.none : Option Jvm.ClassFile.FieldType)), (Jvm.Cond.methodLink "PrefixMill$Share" (67 : Nat) ({ cls := "PrefixMill$Share", name := "layOut", desc := "()V" } : Jvm.MethodName)), (Jvm.Cond.instanceMethod ({ cls := "PrefixMill$Share", name := "layOut", desc := "()V" } : Jvm.MethodName)), (Jvm.Cond.code ({ cls := "PrefixMill$Share", name := "layOut", desc := "()V" } : Jvm.MethodName) prog_6_method_8_code (2 : Nat) (Option.none : Option Jvm.ClassFile.FieldType)), (Jvm.Cond.methodLink "PrefixMill$Share" (73 : Nat) ({ cls := "PrefixMill$Share", name := "giveHighest", desc := "()I" } : Jvm.MethodName)), (Jvm.Cond.instanceMethod ({ cls := "PrefixMill$Share", name := "giveHighest", desc := "()I" } : Jvm.MethodName)), (Jvm.Cond.code ({ cls := "PrefixMill$Share", name := "giveHighest", desc := "()I" } : Jvm.MethodName) prog_6_method_9_code (3 : Nat) (Option.some Jvm.ClassFile.FieldType.int)), (Jvm.Cond.methodLink "PrefixMill$Share" (76 : Nat) ({ cls := "PrefixMill$Share", name := "giveByWalk", desc := "(I)V" } : Jvm.MethodName)), (Jvm.Cond.instanceMethod ({ cls := "PrefixMill$Share", name := "giveByWalk", desc := "(I)V" } : Jvm.MethodName)), (Jvm.Cond.code ({ cls := "PrefixMill$Share", name := "giveByWalk", desc := "(I)V" } : Jvm.MethodName) prog_6_method_10_code (8 : Nat) (Option.none : Option Jvm.ClassFile.FieldType)), (Jvm.Cond.methodLink "PrefixMill$Share" (79 : Nat) ({ cls := "PrefixMill$Share", name := "rank", desc := "()V" } : Jvm.MethodName)), (Jvm.Cond.instanceMethod ({ cls := "PrefixMill$Share", name := "rank", desc := "()V" } : Jvm.MethodName)), (Jvm.Cond.code ({ cls := "PrefixMill$Share", name := "rank", desc := "()V" } : Jvm.MethodName) prog_6_method_11_code (6 : Nat) (Option.none : Option Jvm.ClassFile.FieldType)), (Jvm.Cond.methodLinkNest "PrefixMill$Share" (82 : Nat) ({ cls := "PrefixMill", name := "log2", desc := "(I)I" } : Jvm.MethodName) "PrefixMill"), (Jvm.Cond.static ({ cls := "PrefixMill", name := "log2", desc := "(I)I" } : Jvm.MethodName)), (Jvm.Cond.code ({ cls := "PrefixMill", name := "log2", desc := "(I)I" } : Jvm.MethodName) prog_1_method_21_code (2 : Nat) (Option.some Jvm.ClassFile.FieldType.int)), (Jvm.Cond.methodLink "PrefixMill$Draft" (36 : Nat) ({ cls := "PrefixMill$Share", name := "put", desc := "(LPrefixMill$Row;)V" } : Jvm.MethodName)), (Jvm.Cond.instanceMethod ({ cls := "PrefixMill$Share", name := "put", desc := "(LPrefixMill$Row;)V" } : Jvm.MethodName)), (Jvm.Cond.selects "PrefixMill$Share" ({ cls := "PrefixMill$Share", name := "put", desc := "(LPrefixMill$Row;)V" } : Jvm.MethodName) ({ cls := "PrefixMill$Share", name := "put", desc := "(LPrefixMill$Row;)V" } : Jvm.MethodName)), (Jvm.Cond.code ({ cls := "PrefixMill$Share", name := "put", desc := "(LPrefixMill$Row;)V" } : Jvm.MethodName) prog_6_method_14_code (4 : Nat) (Option.none : Option Jvm.ClassFile.FieldType)), (Jvm.Cond.methodLink "PrefixMill$Share" (85 : Nat) ({ cls := "PrefixMill$Row", name := "put", desc := "(II)V" } : Jvm.MethodName)), (Jvm.Cond.instanceMethod ({ cls := "PrefixMill$Row", name := "put", desc := "(II)V" } : Jvm.MethodName)), (Jvm.Cond.selects "PrefixMill$Row" ({ cls := "PrefixMill$Row", name := "put", desc := "(II)V" } : Jvm.MethodName) ({ cls := "PrefixMill$Row", name := "put", desc := "(II)V" } : Jvm.MethodName)), (Jvm.Cond.code ({ cls := "PrefixMill$Row", name := "put", desc := "(II)V" } : Jvm.MethodName) prog_5_method_7_code (3 : Nat) (Option.none : Option Jvm.ClassFile.FieldType)), (Jvm.Cond.methodLink "PrefixMill$Row" (49 : Nat) ({ cls := "PrefixMill$Row", name := "add", desc := "(I)V" } : Jvm.MethodName)), (Jvm.Cond.methodLink "PrefixMill$Share" (91 : Nat) ({ cls := "PrefixMill$Share", name := "putPoints", desc := "(LPrefixMill$Row;II)V" } : Jvm.MethodName)), (Jvm.Cond.static ({ cls := "PrefixMill$Share", name := "putPoints", desc := "(LPrefixMill$Row;II)V" } : Jvm.MethodName)), (Jvm.Cond.code ({ cls := "PrefixMill$Share", name := "putPoints", desc := "(LPrefixMill$Row;II)V" } : Jvm.MethodName) prog_6_method_15_code (6 : Nat) (Option.none : Option Jvm.ClassFile.FieldType)), (Jvm.Cond.methodLink "PrefixMill$Share" (95 : Nat) ({ cls := "PrefixMill$Share", name := "putNone", desc := "(LPrefixMill$Row;I)I" } : Jvm.MethodName)), (Jvm.Cond.instanceMethod ({ cls := "PrefixMill$Share", name := "putNone", desc := "(LPrefixMill$Row;I)I" } : Jvm.MethodName)), (Jvm.Cond.code ({ cls := "PrefixMill$Share", name := "putNone", desc := "(LPrefixMill$Row;I)I" } : Jvm.MethodName) prog_6_method_16_code (5 : Nat) (Option.some Jvm.ClassFile.FieldType.int)), (Jvm.Cond.methodLink "PrefixMill$Share" (99 : Nat) ({ cls := "PrefixMill$Row", name := "pad", desc := "()V" } : Jvm.MethodName)), (Jvm.Cond.instanceMethod ({ cls := "PrefixMill$Row", name := "pad", desc := "()V" } : Jvm.MethodName)), (Jvm.Cond.selects "PrefixMill$Row" ({ cls := "PrefixMill$Row", name := "pad", desc := "()V" } : Jvm.MethodName) ({ cls := "PrefixMill$Row", name := "pad", desc := "()V" } : Jvm.MethodName)), (Jvm.Cond.code ({ cls := "PrefixMill$Row", name := "pad", desc := "()V" } : Jvm.MethodName) prog_5_method_8_code (1 : Nat) (Option.none : Option Jvm.ClassFile.FieldType)), (Jvm.Cond.methodLink "PrefixMill$Row" (53 : Nat) ({ cls := "PrefixMill$Row", name := "put", desc := "(II)V" } : Jvm.MethodName)), (Jvm.Cond.methodLink "PrefixMill$Draft" (40 : Nat) ({ cls := "PrefixMill$Share", name := "lowestPlace", desc := "(I)I" } : Jvm.MethodName)), (Jvm.Cond.instanceMethod ({ cls := "PrefixMill$Share", name := "lowestPlace", desc := "(I)I" } : Jvm.MethodName)), (Jvm.Cond.selects "PrefixMill$Share" ({ cls := "PrefixMill$Share", name := "lowestPlace", desc := "(I)I" } : Jvm.MethodName) ({ cls := "PrefixMill$Share", name := "lowestPlace", desc := "(I)I" } : Jvm.MethodName))]
def tt_5 : List Cond := [(Jvm.Cond.code ({ cls := "PrefixMill$Share", name := "lowestPlace", desc := "(I)I" } : Jvm.MethodName) prog_6_method_12_code (2 : Nat) (Option.some Jvm.ClassFile.FieldType.int)), (Jvm.Cond.methodLink "PrefixMill$Draft" (44 : Nat) ({ cls := "PrefixMill$Share", name := "placeBefore", desc := "(II)I" } : Jvm.MethodName)), (Jvm.Cond.instanceMethod ({ cls := "PrefixMill$Share", name := "placeBefore", desc := "(II)I" } : Jvm.MethodName)), (Jvm.Cond.selects "PrefixMill$Share" ({ cls := "PrefixMill$Share", name := "placeBefore", desc := "(II)I" } : Jvm.MethodName) ({ cls := "PrefixMill$Share", name := "placeBefore", desc := "(II)I" } : Jvm.MethodName)), (Jvm.Cond.code ({ cls := "PrefixMill$Share", name := "placeBefore", desc := "(II)I" } : Jvm.MethodName) prog_6_method_13_code (5 : Nat) (Option.some Jvm.ClassFile.FieldType.int)), (Jvm.Cond.methodLink "PrefixMill$Draft" (55 : Nat) ({ cls := "PrefixMill$Row", name := "put", desc := "(II)V" } : Jvm.MethodName)), (Jvm.Cond.methodLink "PrefixMill$Draft" (58 : Nat) ({ cls := "PrefixMill$Row", name := "finish", desc := "()V" } : Jvm.MethodName)), (Jvm.Cond.instanceMethod ({ cls := "PrefixMill$Row", name := "finish", desc := "()V" } : Jvm.MethodName)), (Jvm.Cond.selects "PrefixMill$Row" ({ cls := "PrefixMill$Row", name := "finish", desc := "()V" } : Jvm.MethodName) ({ cls := "PrefixMill$Row", name := "finish", desc := "()V" } : Jvm.MethodName)), (Jvm.Cond.code ({ cls := "PrefixMill$Row", name := "finish", desc := "()V" } : Jvm.MethodName) prog_5_method_9_code (1 : Nat) (Option.none : Option Jvm.ClassFile.FieldType)), (Jvm.Cond.methodLink "PrefixMill$Row" (57 : Nat) ({ cls := "PrefixMill$Row", name := "pad", desc := "()V" } : Jvm.MethodName)), (Jvm.Cond.methodLink "PrefixMill$Writer" (53 : Nat) ({ cls := "PrefixMill$Row", name := "empty", desc := "()V" } : Jvm.MethodName)), (Jvm.Cond.methodLink "PrefixMill$Writer" (56 : Nat) ({ cls := "PrefixMill$Writer", name := "putDirect", desc := "(LPrefixMill$Row;I)V" } : Jvm.MethodName)), (Jvm.Cond.instanceMethod ({ cls := "PrefixMill$Writer", name := "putDirect", desc := "(LPrefixMill$Row;I)V" } : Jvm.MethodName)), (Jvm.Cond.code ({ cls := "PrefixMill$Writer", name := "putDirect", desc := "(LPrefixMill$Row;I)V" } : Jvm.MethodName) prog_10_method_4_code (5 : Nat) (Option.none : Option Jvm.ClassFile.FieldType)), (Jvm.Cond.methodLink "PrefixMill$Writer" (74 : Nat) ({ cls := "PrefixMill$Row", name := "add", desc := "(I)V" } : Jvm.MethodName)), (Jvm.Cond.methodLink "PrefixMill$Writer" (60 : Nat) ({ cls := "PrefixMill$Writer", name := "putStates", desc := "(LPrefixMill$Row;LPrefixMill$Row;)V" } : Jvm.MethodName)), (Jvm.Cond.static ({ cls := "PrefixMill$Writer", name := "putStates", desc := "(LPrefixMill$Row;LPrefixMill$Row;)V" } : Jvm.MethodName)), (Jvm.Cond.code ({ cls := "PrefixMill$Writer", name := "putStates", desc := "(LPrefixMill$Row;LPrefixMill$Row;)V" } : Jvm.MethodName) prog_10_method_5_code (3 : Nat) (Option.none : Option Jvm.ClassFile.FieldType)), (Jvm.Cond.methodLink "PrefixMill$Writer" (77 : Nat) ({ cls := "PrefixMill$Row", name := "get", desc := "(I)I" } : Jvm.MethodName)), (Jvm.Cond.methodLink "PrefixMillLaw" (64 : Nat) ({ cls := "PrefixMill", name := "read", desc := "()I" } : Jvm.MethodName)), (Jvm.Cond.instanceMethod ({ cls := "PrefixMill", name := "read", desc := "()I" } : Jvm.MethodName)), (Jvm.Cond.selects "PrefixMill" ({ cls := "PrefixMill", name := "read", desc := "()I" } : Jvm.MethodName) ({ cls := "PrefixMill", name := "read", desc := "()I" } : Jvm.MethodName)), (Jvm.Cond.code ({ cls := "PrefixMill", name := "read", desc := "()I" } : Jvm.MethodName) prog_1_method_13_code (2 : Nat) (Option.some Jvm.ClassFile.FieldType.int)), (Jvm.Cond.methodLink "PrefixMill" (117 : Nat) ({ cls := "PrefixMill$Reader", name := "readCodes", desc := "(LPrefixMill$Row;I)I" } : Jvm.MethodName)), (Jvm.Cond.instanceMethod ({ cls := "PrefixMill$Reader", name := "readCodes", desc := "(LPrefixMill$Row;I)I" } : Jvm.MethodName)), (Jvm.Cond.selects "PrefixMill$Reader" ({ cls := "PrefixMill$Reader", name := "readCodes", desc := "(LPrefixMill$Row;I)I" } : Jvm.MethodName) ({ cls := "PrefixMill$Reader", name := "readCodes", desc := "(LPrefixMill$Row;I)I" } : Jvm.MethodName)), (Jvm.Cond.code ({ cls := "PrefixMill$Reader", name := "readCodes", desc := "(LPrefixMill$Row;I)I" } : Jvm.MethodName) prog_4_method_2_code (6 : Nat) (Option.some Jvm.ClassFile.FieldType.int)), (Jvm.Cond.methodLink "PrefixMill$Reader" (32 : Nat) ({ cls := "PrefixMill$Row", name := "get", desc := "(I)I" } : Jvm.MethodName)), (Jvm.Cond.methodLink "PrefixMill$Reader" (45 : Nat) ({ cls := "PrefixMill$Reader", name := "takeDirect", desc := "(LPrefixMill$Row;II)V" } : Jvm.MethodName)), (Jvm.Cond.instanceMethod ({ cls := "PrefixMill$Reader", name := "takeDirect", desc := "(LPrefixMill$Row;II)V" } : Jvm.MethodName)), (Jvm.Cond.code ({ cls := "PrefixMill$Reader", name := "takeDirect", desc := "(LPrefixMill$Row;II)V" } : Jvm.MethodName) prog_4_method_3_code (6 : Nat) (Option.none : Option Jvm.ClassFile.FieldType)), (Jvm.Cond.methodLink "PrefixMill$Reader" (49 : Nat) ({ cls := "PrefixMill$Share", name := "take", desc := "(LPrefixMill$Row;II)I" } : Jvm.MethodName)), (Jvm.Cond.instanceMethod ({ cls := "PrefixMill$Share", name := "take", desc := "(LPrefixMill$Row;II)I" } : Jvm.MethodName)), (Jvm.Cond.selects "PrefixMill$Share" ({ cls := "PrefixMill$Share", name := "take", desc := "(LPrefixMill$Row;II)I" } : Jvm.MethodName) ({ cls := "PrefixMill$Share", name := "take", desc := "(LPrefixMill$Row;II)I" } : Jvm.MethodName)), (Jvm.Cond.code ({ cls := "PrefixMill$Share", name := "take", desc := "(LPrefixMill$Row;II)I" } : Jvm.MethodName) prog_6_method_17_code (6 : Nat) (Option.some Jvm.ClassFile.FieldType.int)), (Jvm.Cond.methodLink "PrefixMill$Share" (102 : Nat) ({ cls := "java/util/Arrays", name := "fill", desc := "([II)V" } : Jvm.MethodName)), (Jvm.Cond.methodLink "PrefixMill$Share" (111 : Nat) ({ cls := "PrefixMill$Share", name := "takeBits", desc := "(LPrefixMill$Row;I)I" } : Jvm.MethodName)), (Jvm.Cond.instanceMethod ({ cls := "PrefixMill$Share", name := "takeBits", desc := "(LPrefixMill$Row;I)I" } : Jvm.MethodName)), (Jvm.Cond.code ({ cls := "PrefixMill$Share", name := "takeBits", desc := "(LPrefixMill$Row;I)I" } : Jvm.MethodName) prog_6_method_18_code (4 : Nat) (Option.some Jvm.ClassFile.FieldType.int)), (Jvm.Cond.methodLink "PrefixMill$Share" (120 : Nat) ({ cls := "PrefixMill$Row", name := "bits", desc := "(II)I" } : Jvm.MethodName)), (Jvm.Cond.instanceMethod ({ cls := "PrefixMill$Row", name := "bits", desc := "(II)I" } : Jvm.MethodName)), (Jvm.Cond.selects "PrefixMill$Row" ({ cls := "PrefixMill$Row", name := "bits", desc := "(II)I" } : Jvm.MethodName) ({ cls := "PrefixMill$Row", name := "bits", desc := "(II)I" } : Jvm.MethodName)), (Jvm.Cond.code ({ cls := "PrefixMill$Row", name := "bits", desc := "(II)I" } : Jvm.MethodName) prog_5_method_5_code (5 : Nat) (Option.some Jvm.ClassFile.FieldType.int)), (Jvm.Cond.methodLink "PrefixMill$Row" (24 : Nat) ({ cls := "PrefixMill$Row", name := "get", desc := "(I)I" } : Jvm.MethodName)), (Jvm.Cond.methodLink "PrefixMill$Row" (28 : Nat) ({ cls := "java/lang/Math", name := "max", desc := "(II)I" } : Jvm.MethodName)), (Jvm.Cond.methodLink "PrefixMill$Share" (114 : Nat) ({ cls := "PrefixMill$Share", name := "takePoints", desc := "(LPrefixMill$Row;I)I" } : Jvm.MethodName)), (Jvm.Cond.instanceMethod ({ cls := "PrefixMill$Share", name := "takePoints", desc := "(LPrefixMill$Row;I)I" } : Jvm.MethodName)), (Jvm.Cond.code ({ cls := "PrefixMill$Share", name := "takePoints", desc := "(LPrefixMill$Row;I)I" } : Jvm.MethodName) prog_6_method_19_code (7 : Nat) (Option.some Jvm.ClassFile.FieldType.int)), (Jvm.Cond.methodLink "PrefixMill$Share" (117 : Nat) ({ cls := "PrefixMill$Share", name := "takeNone", desc := "(LPrefixMill$Row;I)I" } : Jvm.MethodName)), (Jvm.Cond.instanceMethod ({ cls := "PrefixMill$Share", name := "takeNone", desc := "(LPrefixMill$Row;I)I" } : Jvm.MethodName)), (Jvm.Cond.code ({ cls := "PrefixMill$Share", name := "takeNone", desc := "(LPrefixMill$Row;I)I" } : Jvm.MethodName) prog_6_method_20_code (5 : Nat) (Option.some Jvm.ClassFile.FieldType.int)), (Jvm.Cond.methodLink "PrefixMill$Reader" (53 : Nat) ({ cls := "PrefixMill$Reader", name := "takeRow", desc := "(LPrefixMill$Row;I)Z" } : Jvm.MethodName)), (Jvm.Cond.instanceMethod ({ cls := "PrefixMill$Reader", name := "takeRow", desc := "(LPrefixMill$Row;I)Z" } : Jvm.MethodName)), (Jvm.Cond.code ({ cls := "PrefixMill$Reader", name := "takeRow", desc := "(LPrefixMill$Row;I)Z" } : Jvm.MethodName) prog_4_method_4_code (6 : Nat) (Option.some Jvm.ClassFile.FieldType.boolean)), (Jvm.Cond.methodLink "PrefixMill$Reader" (64 : Nat) ({ cls := "PrefixMill$Tail", name := "open", desc := "(LPrefixMill$Row;II)Z" } : Jvm.MethodName)), (Jvm.Cond.instanceMethod ({ cls := "PrefixMill$Tail", name := "open", desc := "(LPrefixMill$Row;II)Z" } : Jvm.MethodName)), (Jvm.Cond.selects "PrefixMill$Tail" ({ cls := "PrefixMill$Tail", name := "open", desc := "(LPrefixMill$Row;II)Z" } : Jvm.MethodName) ({ cls := "PrefixMill$Tail", name := "open", desc := "(LPrefixMill$Row;II)Z" } : Jvm.MethodName)), (Jvm.Cond.code ({ cls := "PrefixMill$Tail", name := "open", desc := "(LPrefixMill$Row;II)Z" } : Jvm.MethodName) prog_8_method_2_code (5 : Nat) (Option.some Jvm.ClassFile.FieldType.boolean)), (Jvm.Cond.methodLink "PrefixMill$Tail" (7 : Nat) ({ cls := "PrefixMill$Row", name := "get", desc := "(I)I" } : Jvm.MethodName)), (Jvm.Cond.methodLinkNest "PrefixMill$Tail" (19 : Nat) ({ cls := "PrefixMill", name := "log2", desc := "(I)I" } : Jvm.MethodName) "PrefixMill"), (Jvm.Cond.methodLink "PrefixMill$Reader" (74 : Nat) ({ cls := "PrefixMill$Tail", name := "take", desc := "(LPrefixMill$Row;I)I" } : Jvm.MethodName)), (Jvm.Cond.instanceMethod ({ cls := "PrefixMill$Tail", name := "take", desc := "(LPrefixMill$Row;I)I" } : Jvm.MethodName)), (Jvm.Cond.selects "PrefixMill$Tail" ({ cls := "PrefixMill$Tail", name := "take", desc := "(LPrefixMill$Row;I)I" } : Jvm.MethodName) ({ cls := "PrefixMill$Tail", name := "take", desc := "(LPrefixMill$Row;I)I" } : Jvm.MethodName)), (Jvm.Cond.code ({ cls := "PrefixMill$Tail", name := "take", desc := "(LPrefixMill$Row;I)I" } : Jvm.MethodName) prog_8_method_5_code (4 : Nat) (Option.some Jvm.ClassFile.FieldType.int)), (Jvm.Cond.methodLink "PrefixMill$Tail" (31 : Nat) ({ cls := "PrefixMill$Tail", name := "look", desc := "(LPrefixMill$Row;I)I" } : Jvm.MethodName)), (Jvm.Cond.instanceMethod ({ cls := "PrefixMill$Tail", name := "look", desc := "(LPrefixMill$Row;I)I" } : Jvm.MethodName)), (Jvm.Cond.selects "PrefixMill$Tail" ({ cls := "PrefixMill$Tail", name := "look", desc := "(LPrefixMill$Row;I)I" } : Jvm.MethodName) ({ cls := "PrefixMill$Tail", name := "look", desc := "(LPrefixMill$Row;I)I" } : Jvm.MethodName)), (Jvm.Cond.code ({ cls := "PrefixMill$Tail", name := "look", desc := "(LPrefixMill$Row;I)I" } : Jvm.MethodName) prog_8_method_3_code (3 : Nat) (Option.some Jvm.ClassFile.FieldType.int)), (Jvm.Cond.methodLink "PrefixMill$Tail" (27 : Nat) ({ cls := "PrefixMill$Row", name := "bits", desc := "(II)I" } : Jvm.MethodName)), (Jvm.Cond.methodLink "PrefixMill$Tail" (35 : Nat) ({ cls := "PrefixMill$Tail", name := "drop", desc := "(I)Z" } : Jvm.MethodName)), (Jvm.Cond.instanceMethod ({ cls := "PrefixMill$Tail", name := "drop", desc := "(I)Z" } : Jvm.MethodName)), (Jvm.Cond.selects "PrefixMill$Tail" ({ cls := "PrefixMill$Tail", name := "drop", desc := "(I)Z" } : Jvm.MethodName) ({ cls := "PrefixMill$Tail", name := "drop", desc := "(I)Z" } : Jvm.MethodName)), (Jvm.Cond.code ({ cls := "PrefixMill$Tail", name := "drop", desc := "(I)Z" } : Jvm.MethodName) prog_8_method_4_code (2 : Nat) (Option.some Jvm.ClassFile.FieldType.boolean)), (Jvm.Cond.methodLink "PrefixMill$Reader" (57 : Nat) ({ cls := "PrefixMill$Reader", name := "takeLengths", desc := "()Z" } : Jvm.MethodName)), (Jvm.Cond.instanceMethod ({ cls := "PrefixMill$Reader", name := "takeLengths", desc := "()Z" } : Jvm.MethodName)), (Jvm.Cond.code ({ cls := "PrefixMill$Reader", name := "takeLengths", desc := "()Z" } : Jvm.MethodName) prog_4_method_5_code (6 : Nat) (Option.some Jvm.ClassFile.FieldType.boolean)), (Jvm.Cond.methodLinkNest "PrefixMill$Reader" (86 : Nat) ({ cls := "PrefixMill", name := "log2", desc := "(I)I" } : Jvm.MethodName) "PrefixMill"), (Jvm.Cond.methodLink "PrefixMill$Reader" (89 : Nat) ({ cls := "java/util/Arrays", name := "fill", desc := "([II)V" } : Jvm.MethodName)), (Jvm.Cond.methodLink "PrefixMillLaw" (68 : Nat) ({ cls := "PrefixMill", name := "encode", desc := "(Z)I" } : Jvm.MethodName)), (Jvm.Cond.instanceMethod ({ cls := "PrefixMill", name := "encode", desc := "(Z)I" } : Jvm.MethodName)), (Jvm.Cond.selects "PrefixMill" ({ cls := "PrefixMill", name := "encode", desc := "(Z)I" } : Jvm.MethodName) ({ cls := "PrefixMill", name := "encode", desc := "(Z)I" } : Jvm.MethodName)), (Jvm.Cond.code ({ cls := "PrefixMill", name := "encode", desc := "(Z)I" } : Jvm.MethodName) prog_1_method_14_code (2 : Nat) (Option.some Jvm.ClassFile.FieldType.int)), (Jvm.Cond.methodLink "PrefixMill" (125 : Nat) ({ cls := "PrefixMill$Streams", name := "bitsOf", desc := "(LPrefixMill$Codes;LPrefixMill$Row;II)I" } : Jvm.MethodName)), (Jvm.Cond.static ({ cls := "PrefixMill$Streams", name := "bitsOf", desc := "(LPrefixMill$Codes;LPrefixMill$Row;II)I" } : Jvm.MethodName)), (Jvm.Cond.code ({ cls := "PrefixMill$Streams", name := "bitsOf", desc := "(LPrefixMill$Codes;LPrefixMill$Row;II)I" } : Jvm.MethodName) prog_7_method_4_code (7 : Nat) (Option.some Jvm.ClassFile.FieldType.int)), (Jvm.Cond.methodLink "PrefixMill$Streams" (37 : Nat) ({ cls := "PrefixMill$Row", name := "get", desc := "(I)I" } : Jvm.MethodName)), (Jvm.Cond.methodLink "PrefixMill" (129 : Nat) ({ cls := "PrefixMill$Streams", name := "encodeFour", desc := "(LPrefixMill$Codes;LPrefixMill$Row;ILPrefixMill$Row;)I" } : Jvm.MethodName)), (Jvm.Cond.static ({ cls := "PrefixMill$Streams", name := "encodeFour", desc := "(LPrefixMill$Codes;LPrefixMill$Row;ILPrefixMill$Row;)I" } : Jvm.MethodName)), (Jvm.Cond.code ({ cls := "PrefixMill$Streams", name := "encodeFour", desc := "(LPrefixMill$Codes;LPrefixMill$Row;ILPrefixMill$Row;)I" } : Jvm.MethodName) prog_7_method_7_code (12 : Nat) (Option.some Jvm.ClassFile.FieldType.int)), (Jvm.Cond.methodLink "PrefixMill$Streams" (58 : Nat) ({ cls := "PrefixMill$Streams", name := "areFour", desc := "(I)Z" } : Jvm.MethodName)), (Jvm.Cond.static ({ cls := "PrefixMill$Streams", name := "areFour", desc := "(I)Z" } : Jvm.MethodName)), (Jvm.Cond.code ({ cls := "PrefixMill$Streams", name := "areFour", desc := "(I)Z" } : Jvm.MethodName) prog_7_method_2_code (1 : Nat) (Option.some Jvm.ClassFile.FieldType.boolean)), (Jvm.Cond.methodLink "PrefixMill$Streams" (27 : Nat) ({ cls := "PrefixMill$Streams", name := "quarter", desc := "(I)I" } : Jvm.MethodName)), (Jvm.Cond.static ({ cls := "PrefixMill$Streams", name := "quarter", desc := "(I)I" } : Jvm.MethodName)), (Jvm.Cond.code ({ cls := "PrefixMill$Streams", name := "quarter", desc := "(I)I" } : Jvm.MethodName) prog_7_method_3_code (1 : Nat) (Option.some Jvm.ClassFile.FieldType.int)), (Jvm.Cond.methodLink "PrefixMill$Streams" (48 : Nat) ({ cls := "PrefixMill$Streams", name := "bytesOf", desc := "(LPrefixMill$Codes;LPrefixMill$Row;II)I" } : Jvm.MethodName)), (Jvm.Cond.static ({ cls := "PrefixMill$Streams", name := "bytesOf", desc := "(LPrefixMill$Codes;LPrefixMill$Row;II)I" } : Jvm.MethodName)), (Jvm.Cond.code ({ cls := "PrefixMill$Streams", name := "bytesOf", desc := "(LPrefixMill$Codes;LPrefixMill$Row;II)I" } : Jvm.MethodName) prog_7_method_5_code (4 : Nat) (Option.some Jvm.ClassFile.FieldType.int)), (Jvm.Cond.methodLink "PrefixMill$Streams" (40 : Nat) ({ cls := "PrefixMill$Streams", name := "bitsOf", desc := "(LPrefixMill$Codes;LPrefixMill$Row;II)I" } : Jvm.MethodName))]
def tt_6 : List Cond := [(Jvm.Cond.methodLink "PrefixMill$Streams" (51 : Nat) ({ cls := "PrefixMill$Row", name := "empty", desc := "()V" } : Jvm.MethodName)), (Jvm.Cond.methodLink "PrefixMill$Streams" (62 : Nat) ({ cls := "PrefixMill$Row", name := "put", desc := "(II)V" } : Jvm.MethodName)), (Jvm.Cond.methodLink "PrefixMill$Streams" (54 : Nat) ({ cls := "PrefixMill$Streams", name := "putStream", desc := "(LPrefixMill$Codes;LPrefixMill$Row;IILPrefixMill$Row;)V" } : Jvm.MethodName)), (Jvm.Cond.static ({ cls := "PrefixMill$Streams", name := "putStream", desc := "(LPrefixMill$Codes;LPrefixMill$Row;IILPrefixMill$Row;)V" } : Jvm.MethodName)), (Jvm.Cond.code ({ cls := "PrefixMill$Streams", name := "putStream", desc := "(LPrefixMill$Codes;LPrefixMill$Row;IILPrefixMill$Row;)V" } : Jvm.MethodName) prog_7_method_8_code (7 : Nat) (Option.none : Option Jvm.ClassFile.FieldType)), (Jvm.Cond.methodLink "PrefixMill$Streams" (69 : Nat) ({ cls := "PrefixMill$Row", name := "finish", desc := "()V" } : Jvm.MethodName)), (Jvm.Cond.methodLink "PrefixMill" (133 : Nat) ({ cls := "PrefixMill$Streams", name := "encodeOne", desc := "(LPrefixMill$Codes;LPrefixMill$Row;ILPrefixMill$Row;)I" } : Jvm.MethodName)), (Jvm.Cond.static ({ cls := "PrefixMill$Streams", name := "encodeOne", desc := "(LPrefixMill$Codes;LPrefixMill$Row;ILPrefixMill$Row;)I" } : Jvm.MethodName)), (Jvm.Cond.code ({ cls := "PrefixMill$Streams", name := "encodeOne", desc := "(LPrefixMill$Codes;LPrefixMill$Row;ILPrefixMill$Row;)I" } : Jvm.MethodName) prog_7_method_6_code (4 : Nat) (Option.some Jvm.ClassFile.FieldType.int)), (Jvm.Cond.methodLink "PrefixMillLaw" (73 : Nat) ({ cls := "PrefixMill", name := "decode", desc := "(IZ)I" } : Jvm.MethodName)), (Jvm.Cond.instanceMethod ({ cls := "PrefixMill", name := "decode", desc := "(IZ)I" } : Jvm.MethodName)), (Jvm.Cond.selects "PrefixMill" ({ cls := "PrefixMill", name := "decode", desc := "(IZ)I" } : Jvm.MethodName) ({ cls := "PrefixMill", name := "decode", desc := "(IZ)I" } : Jvm.MethodName)), (Jvm.Cond.code ({ cls := "PrefixMill", name := "decode", desc := "(IZ)I" } : Jvm.MethodName) prog_1_method_15_code (4 : Nat) (Option.some Jvm.ClassFile.FieldType.int)), (Jvm.Cond.methodLink "PrefixMill" (136 : Nat) ({ cls := "PrefixMill$Streams", name := "areFour", desc := "(I)Z" } : Jvm.MethodName)), (Jvm.Cond.methodLink "PrefixMill" (139 : Nat) ({ cls := "PrefixMill$Streams", name := "decodeFour", desc := "(LPrefixMill$Codes;LPrefixMill$Row;II)I" } : Jvm.MethodName)), (Jvm.Cond.instanceMethod ({ cls := "PrefixMill$Streams", name := "decodeFour", desc := "(LPrefixMill$Codes;LPrefixMill$Row;II)I" } : Jvm.MethodName)), (Jvm.Cond.selects "PrefixMill$Streams" ({ cls := "PrefixMill$Streams", name := "decodeFour", desc := "(LPrefixMill$Codes;LPrefixMill$Row;II)I" } : Jvm.MethodName) ({ cls := "PrefixMill$Streams", name := "decodeFour", desc := "(LPrefixMill$Codes;LPrefixMill$Row;II)I" } : Jvm.MethodName)), (Jvm.Cond.code ({ cls := "PrefixMill$Streams", name := "decodeFour", desc := "(LPrefixMill$Codes;LPrefixMill$Row;II)I" } : Jvm.MethodName) prog_7_method_10_code (11 : Nat) (Option.some Jvm.ClassFile.FieldType.int)), (Jvm.Cond.methodLink "PrefixMill$Streams" (76 : Nat) ({ cls := "PrefixMill$Row", name := "bits", desc := "(II)I" } : Jvm.MethodName)), (Jvm.Cond.methodLink "PrefixMill$Streams" (72 : Nat) ({ cls := "PrefixMill$Streams", name := "takeStream", desc := "(LPrefixMill$Codes;LPrefixMill$Row;III)I" } : Jvm.MethodName)), (Jvm.Cond.instanceMethod ({ cls := "PrefixMill$Streams", name := "takeStream", desc := "(LPrefixMill$Codes;LPrefixMill$Row;III)I" } : Jvm.MethodName)), (Jvm.Cond.code ({ cls := "PrefixMill$Streams", name := "takeStream", desc := "(LPrefixMill$Codes;LPrefixMill$Row;III)I" } : Jvm.MethodName) prog_7_method_11_code (8 : Nat) (Option.some Jvm.ClassFile.FieldType.int)), (Jvm.Cond.methodLink "PrefixMill$Streams" (80 : Nat) ({ cls := "PrefixMill$Tail", name := "open", desc := "(LPrefixMill$Row;II)Z" } : Jvm.MethodName)), (Jvm.Cond.methodLink "PrefixMill$Streams" (90 : Nat) ({ cls := "PrefixMill$Tail", name := "look", desc := "(LPrefixMill$Row;I)I" } : Jvm.MethodName)), (Jvm.Cond.methodLink "PrefixMill$Streams" (94 : Nat) ({ cls := "PrefixMill$Tail", name := "drop", desc := "(I)Z" } : Jvm.MethodName)), (Jvm.Cond.methodLink "PrefixMill$Streams" (97 : Nat) ({ cls := "PrefixMill$Row", name := "add", desc := "(I)V" } : Jvm.MethodName)), (Jvm.Cond.methodLink "PrefixMill" (142 : Nat) ({ cls := "PrefixMill$Streams", name := "decodeOne", desc := "(LPrefixMill$Codes;LPrefixMill$Row;II)I" } : Jvm.MethodName)), (Jvm.Cond.instanceMethod ({ cls := "PrefixMill$Streams", name := "decodeOne", desc := "(LPrefixMill$Codes;LPrefixMill$Row;II)I" } : Jvm.MethodName)), (Jvm.Cond.selects "PrefixMill$Streams" ({ cls := "PrefixMill$Streams", name := "decodeOne", desc := "(LPrefixMill$Codes;LPrefixMill$Row;II)I" } : Jvm.MethodName) ({ cls := "PrefixMill$Streams", name := "decodeOne", desc := "(LPrefixMill$Codes;LPrefixMill$Row;II)I" } : Jvm.MethodName)), (Jvm.Cond.code ({ cls := "PrefixMill$Streams", name := "decodeOne", desc := "(LPrefixMill$Codes;LPrefixMill$Row;II)I" } : Jvm.MethodName) prog_7_method_9_code (5 : Nat) (Option.some Jvm.ClassFile.FieldType.int)), (Jvm.Cond.methodLink "PrefixMillLaw" (78 : Nat) ({ cls := "PrefixMill", name := "about", desc := "(I)I" } : Jvm.MethodName)), (Jvm.Cond.instanceMethod ({ cls := "PrefixMill", name := "about", desc := "(I)I" } : Jvm.MethodName)), (Jvm.Cond.selects "PrefixMill" ({ cls := "PrefixMill", name := "about", desc := "(I)I" } : Jvm.MethodName) ({ cls := "PrefixMill", name := "about", desc := "(I)I" } : Jvm.MethodName)), (Jvm.Cond.code ({ cls := "PrefixMill", name := "about", desc := "(I)I" } : Jvm.MethodName) prog_1_method_16_code (2 : Nat) (Option.some Jvm.ClassFile.FieldType.int)), (Jvm.Cond.methodLink "PrefixMillLaw" (82 : Nat) ({ cls := "PrefixMill", name := "code", desc := "(II)I" } : Jvm.MethodName)), (Jvm.Cond.instanceMethod ({ cls := "PrefixMill", name := "code", desc := "(II)I" } : Jvm.MethodName)), (Jvm.Cond.selects "PrefixMill" ({ cls := "PrefixMill", name := "code", desc := "(II)I" } : Jvm.MethodName) ({ cls := "PrefixMill", name := "code", desc := "(II)I" } : Jvm.MethodName)), (Jvm.Cond.code ({ cls := "PrefixMill", name := "code", desc := "(II)I" } : Jvm.MethodName) prog_1_method_17_code (3 : Nat) (Option.some Jvm.ClassFile.FieldType.int)), (Jvm.Cond.methodLink "PrefixMillLaw" (87 : Nat) ({ cls := "PrefixMill", name := "size", desc := "()I" } : Jvm.MethodName)), (Jvm.Cond.instanceMethod ({ cls := "PrefixMill", name := "size", desc := "()I" } : Jvm.MethodName)), (Jvm.Cond.selects "PrefixMill" ({ cls := "PrefixMill", name := "size", desc := "()I" } : Jvm.MethodName) ({ cls := "PrefixMill", name := "size", desc := "()I" } : Jvm.MethodName)), (Jvm.Cond.code ({ cls := "PrefixMill", name := "size", desc := "()I" } : Jvm.MethodName) prog_1_method_18_code (1 : Nat) (Option.some Jvm.ClassFile.FieldType.int)), (Jvm.Cond.methodLink "PrefixMillLaw" (91 : Nat) ({ cls := "PrefixMill", name := "byteAt", desc := "(I)I" } : Jvm.MethodName)), (Jvm.Cond.instanceMethod ({ cls := "PrefixMill", name := "byteAt", desc := "(I)I" } : Jvm.MethodName)), (Jvm.Cond.selects "PrefixMill" ({ cls := "PrefixMill", name := "byteAt", desc := "(I)I" } : Jvm.MethodName) ({ cls := "PrefixMill", name := "byteAt", desc := "(I)I" } : Jvm.MethodName)), (Jvm.Cond.code ({ cls := "PrefixMill", name := "byteAt", desc := "(I)I" } : Jvm.MethodName) prog_1_method_19_code (2 : Nat) (Option.some Jvm.ClassFile.FieldType.int)), (Jvm.Cond.classLink "PrefixMillLaw" (10 : Nat) "PrefixMillModel"), (Jvm.Cond.instantiable "PrefixMillModel" (25 : Nat)), (Jvm.Cond.methodLink "PrefixMillLaw" (12 : Nat) ({ cls := "PrefixMillModel", name := "<init>", desc := "()V" } : Jvm.MethodName)), (Jvm.Cond.instanceMethod ({ cls := "PrefixMillModel", name := "<init>", desc := "()V" } : Jvm.MethodName)), (Jvm.Cond.code ({ cls := "PrefixMillModel", name := "<init>", desc := "()V" } : Jvm.MethodName) prog_12_method_1_code (1 : Nat) (Option.none : Option Jvm.ClassFile.FieldType)), (Jvm.Cond.methodLink "PrefixMillModel" (1 : Nat) ({ cls := "java/lang/Object", name := "<init>", desc := "()V" } : Jvm.MethodName)), (Jvm.Cond.fieldLink "PrefixMillModel" (7 : Nat) "PrefixMillModel" "in" "[I"), (Jvm.Cond.fieldLink "PrefixMillModel" (56 : Nat) "PrefixMillModel" "inLong" "I"), (Jvm.Cond.fieldLink "PrefixMillModel" (65 : Nat) "PrefixMillModel" "goesOn" "I"), (Jvm.Cond.fieldLink "PrefixMillModel" (13 : Nat) "PrefixMillModel" "out" "[I"), (Jvm.Cond.fieldLink "PrefixMillModel" (62 : Nat) "PrefixMillModel" "outLong" "I"), (Jvm.Cond.fieldLink "PrefixMillModel" (16 : Nat) "PrefixMillModel" "counts" "[I"), (Jvm.Cond.fieldLink "PrefixMillModel" (69 : Nat) "PrefixMillModel" "greatest" "I"), (Jvm.Cond.fieldLink "PrefixMillModel" (19 : Nat) "PrefixMillModel" "length" "[I"), (Jvm.Cond.fieldLink "PrefixMillModel" (22 : Nat) "PrefixMillModel" "symbolOf" "[I"), (Jvm.Cond.fieldLink "PrefixMillModel" (25 : Nat) "PrefixMillModel" "draft" "[I"), (Jvm.Cond.fieldLink "PrefixMillModel" (28 : Nat) "PrefixMillModel" "knot" "[I"), (Jvm.Cond.fieldLink "PrefixMillModel" (31 : Nat) "PrefixMillModel" "inSum" "[I"), (Jvm.Cond.fieldLink "PrefixMillModel" (76 : Nat) "PrefixMillModel" "knots" "I"), (Jvm.Cond.fieldLink "PrefixMillModel" (34 : Nat) "PrefixMillModel" "halved" "[I"), (Jvm.Cond.fieldLink "PrefixMillModel" (37 : Nat) "PrefixMillModel" "made" "[I"), (Jvm.Cond.fieldLink "PrefixMillModel" (95 : Nat) "PrefixMillModel" "bitsMade" "I"), (Jvm.Cond.fieldLink "PrefixMillModel" (40 : Nat) "PrefixMillModel" "weight" "[I"), (Jvm.Cond.fieldLink "PrefixMillModel" (134 : Nat) "PrefixMillModel" "weights" "I"), (Jvm.Cond.fieldLink "PrefixMillModel" (131 : Nat) "PrefixMillModel" "order" "I"), (Jvm.Cond.fieldLink "PrefixMillModel" (43 : Nat) "PrefixMillModel" "points" "[I"), (Jvm.Cond.fieldLink "PrefixMillModel" (46 : Nat) "PrefixMillModel" "cutOff" "[I"), (Jvm.Cond.fieldLink "PrefixMillModel" (49 : Nat) "PrefixMillModel" "had" "[Z"), (Jvm.Cond.fieldLink "PrefixMillModel" (53 : Nat) "PrefixMillModel" "placeOf" "[I"), (Jvm.Cond.fieldLink "PrefixMillModel" (189 : Nat) "PrefixMillModel" "bit" "I"), (Jvm.Cond.fieldLink "PrefixMillModel" (192 : Nat) "PrefixMillModel" "bitEnd" "I"), (Jvm.Cond.laysFinal "PrefixMillModel" "PrefixMillModel" "in" "[I"), (Jvm.Cond.lays "PrefixMillModel" "PrefixMillModel" "inLong" "I"), (Jvm.Cond.lays "PrefixMillModel" "PrefixMillModel" "goesOn" "I"), (Jvm.Cond.laysFinal "PrefixMillModel" "PrefixMillModel" "out" "[I"), (Jvm.Cond.lays "PrefixMillModel" "PrefixMillModel" "outLong" "I"), (Jvm.Cond.laysFinal "PrefixMillModel" "PrefixMillModel" "counts" "[I"), (Jvm.Cond.lays "PrefixMillModel" "PrefixMillModel" "greatest" "I"), (Jvm.Cond.laysFinal "PrefixMillModel" "PrefixMillModel" "length" "[I"), (Jvm.Cond.laysFinal "PrefixMillModel" "PrefixMillModel" "symbolOf" "[I"), (Jvm.Cond.laysFinal "PrefixMillModel" "PrefixMillModel" "draft" "[I"), (Jvm.Cond.laysFinal "PrefixMillModel" "PrefixMillModel" "knot" "[I"), (Jvm.Cond.laysFinal "PrefixMillModel" "PrefixMillModel" "inSum" "[I"), (Jvm.Cond.lays "PrefixMillModel" "PrefixMillModel" "knots" "I"), (Jvm.Cond.laysFinal "PrefixMillModel" "PrefixMillModel" "halved" "[I"), (Jvm.Cond.laysFinal "PrefixMillModel" "PrefixMillModel" "made" "[I"), (Jvm.Cond.lays "PrefixMillModel" "PrefixMillModel" "bitsMade" "I"), (Jvm.Cond.laysFinal "PrefixMillModel" "PrefixMillModel" "weight" "[I"), (Jvm.Cond.lays "PrefixMillModel" "PrefixMillModel" "weights" "I"), (Jvm.Cond.lays "PrefixMillModel" "PrefixMillModel" "order" "I"), (Jvm.Cond.laysFinal "PrefixMillModel" "PrefixMillModel" "points" "[I"), (Jvm.Cond.laysFinal "PrefixMillModel" "PrefixMillModel" "cutOff" "[I"), (Jvm.Cond.laysFinal "PrefixMillModel" "PrefixMillModel" "had" "[Z"), (Jvm.Cond.laysFinal "PrefixMillModel" "PrefixMillModel" "placeOf" "[I")]
def tt_7 : List Cond := [(Jvm.Cond.lays "PrefixMillModel" "PrefixMillModel" "bit" "I"), (Jvm.Cond.lays "PrefixMillModel" "PrefixMillModel" "bitEnd" "I"), (Jvm.Cond.arrayClass Jvm.ClassFile.FieldType.boolean), (Jvm.Cond.methodLink "PrefixMillLaw" (19 : Nat) ({ cls := "PrefixMillModel", name := "write", desc := "(JI)Z" } : Jvm.MethodName)), (Jvm.Cond.instanceMethod ({ cls := "PrefixMillModel", name := "write", desc := "(JI)Z" } : Jvm.MethodName)), (Jvm.Cond.selects "PrefixMillModel" ({ cls := "PrefixMillModel", name := "write", desc := "(JI)Z" } : Jvm.MethodName) ({ cls := "PrefixMillModel", name := "write", desc := "(JI)Z" } : Jvm.MethodName)), (Jvm.Cond.code ({ cls := "PrefixMillModel", name := "write", desc := "(JI)Z" } : Jvm.MethodName) prog_12_method_2_code (5 : Nat) (Option.some Jvm.ClassFile.FieldType.boolean)), (Jvm.Cond.methodLink "PrefixMillLaw" (24 : Nat) ({ cls := "PrefixMillModel", name := "again", desc := "(II)Z" } : Jvm.MethodName)), (Jvm.Cond.instanceMethod ({ cls := "PrefixMillModel", name := "again", desc := "(II)Z" } : Jvm.MethodName)), (Jvm.Cond.selects "PrefixMillModel" ({ cls := "PrefixMillModel", name := "again", desc := "(II)Z" } : Jvm.MethodName) ({ cls := "PrefixMillModel", name := "again", desc := "(II)Z" } : Jvm.MethodName)), (Jvm.Cond.code ({ cls := "PrefixMillModel", name := "again", desc := "(II)Z" } : Jvm.MethodName) prog_12_method_3_code (5 : Nat) (Option.some Jvm.ClassFile.FieldType.boolean)), (Jvm.Cond.constantLong "PrefixMillModel" (60 : Nat) (6000 : Int64)), (Jvm.Cond.methodLink "PrefixMillLaw" (28 : Nat) ({ cls := "PrefixMillModel", name := "turn", desc := "()V" } : Jvm.MethodName)), (Jvm.Cond.instanceMethod ({ cls := "PrefixMillModel", name := "turn", desc := "()V" } : Jvm.MethodName)), (Jvm.Cond.selects "PrefixMillModel" ({ cls := "PrefixMillModel", name := "turn", desc := "()V" } : Jvm.MethodName) ({ cls := "PrefixMillModel", name := "turn", desc := "()V" } : Jvm.MethodName)), (Jvm.Cond.code ({ cls := "PrefixMillModel", name := "turn", desc := "()V" } : Jvm.MethodName) prog_12_method_4_code (2 : Nat) (Option.none : Option Jvm.ClassFile.FieldType)), (Jvm.Cond.methodLink "PrefixMillLaw" (32 : Nat) ({ cls := "PrefixMillModel", name := "clear", desc := "()V" } : Jvm.MethodName)), (Jvm.Cond.instanceMethod ({ cls := "PrefixMillModel", name := "clear", desc := "()V" } : Jvm.MethodName)), (Jvm.Cond.selects "PrefixMillModel" ({ cls := "PrefixMillModel", name := "clear", desc := "()V" } : Jvm.MethodName) ({ cls := "PrefixMillModel", name := "clear", desc := "()V" } : Jvm.MethodName)), (Jvm.Cond.code ({ cls := "PrefixMillModel", name := "clear", desc := "()V" } : Jvm.MethodName) prog_12_method_5_code (2 : Nat) (Option.none : Option Jvm.ClassFile.FieldType)), (Jvm.Cond.methodLink "PrefixMillLaw" (37 : Nat) ({ cls := "PrefixMillModel", name := "place", desc := "(I)Z" } : Jvm.MethodName)), (Jvm.Cond.instanceMethod ({ cls := "PrefixMillModel", name := "place", desc := "(I)Z" } : Jvm.MethodName)), (Jvm.Cond.selects "PrefixMillModel" ({ cls := "PrefixMillModel", name := "place", desc := "(I)Z" } : Jvm.MethodName) ({ cls := "PrefixMillModel", name := "place", desc := "(I)Z" } : Jvm.MethodName)), (Jvm.Cond.code ({ cls := "PrefixMillModel", name := "place", desc := "(I)Z" } : Jvm.MethodName) prog_12_method_6_code (2 : Nat) (Option.some Jvm.ClassFile.FieldType.boolean)), (Jvm.Cond.methodLink "PrefixMillLaw" (42 : Nat) ({ cls := "PrefixMillModel", name := "at", desc := "()I" } : Jvm.MethodName)), (Jvm.Cond.instanceMethod ({ cls := "PrefixMillModel", name := "at", desc := "()I" } : Jvm.MethodName)), (Jvm.Cond.selects "PrefixMillModel" ({ cls := "PrefixMillModel", name := "at", desc := "()I" } : Jvm.MethodName) ({ cls := "PrefixMillModel", name := "at", desc := "()I" } : Jvm.MethodName)), (Jvm.Cond.code ({ cls := "PrefixMillModel", name := "at", desc := "()I" } : Jvm.MethodName) prog_12_method_7_code (1 : Nat) (Option.some Jvm.ClassFile.FieldType.int)), (Jvm.Cond.methodLink "PrefixMillLaw" (46 : Nat) ({ cls := "PrefixMillModel", name := "count", desc := "(II)Z" } : Jvm.MethodName)), (Jvm.Cond.instanceMethod ({ cls := "PrefixMillModel", name := "count", desc := "(II)Z" } : Jvm.MethodName)), (Jvm.Cond.selects "PrefixMillModel" ({ cls := "PrefixMillModel", name := "count", desc := "(II)Z" } : Jvm.MethodName) ({ cls := "PrefixMillModel", name := "count", desc := "(II)Z" } : Jvm.MethodName)), (Jvm.Cond.code ({ cls := "PrefixMillModel", name := "count", desc := "(II)Z" } : Jvm.MethodName) prog_12_method_8_code (3 : Nat) (Option.some Jvm.ClassFile.FieldType.boolean)), (Jvm.Cond.constant "PrefixMillModel" (68 : Nat) (65535 : Int32)), (Jvm.Cond.methodLink "PrefixMillLaw" (50 : Nat) ({ cls := "PrefixMillModel", name := "countAll", desc := "()I" } : Jvm.MethodName)), (Jvm.Cond.instanceMethod ({ cls := "PrefixMillModel", name := "countAll", desc := "()I" } : Jvm.MethodName)), (Jvm.Cond.selects "PrefixMillModel" ({ cls := "PrefixMillModel", name := "countAll", desc := "()I" } : Jvm.MethodName) ({ cls := "PrefixMillModel", name := "countAll", desc := "()I" } : Jvm.MethodName)), (Jvm.Cond.code ({ cls := "PrefixMillModel", name := "countAll", desc := "()I" } : Jvm.MethodName) prog_12_method_9_code (2 : Nat) (Option.some Jvm.ClassFile.FieldType.int)), (Jvm.Cond.methodLink "PrefixMillLaw" (55 : Nat) ({ cls := "PrefixMillModel", name := "lengths", desc := "(I)I" } : Jvm.MethodName)), (Jvm.Cond.instanceMethod ({ cls := "PrefixMillModel", name := "lengths", desc := "(I)I" } : Jvm.MethodName)), (Jvm.Cond.selects "PrefixMillModel" ({ cls := "PrefixMillModel", name := "lengths", desc := "(I)I" } : Jvm.MethodName) ({ cls := "PrefixMillModel", name := "lengths", desc := "(I)I" } : Jvm.MethodName)), (Jvm.Cond.code ({ cls := "PrefixMillModel", name := "lengths", desc := "(I)I" } : Jvm.MethodName) prog_12_method_15_code (5 : Nat) (Option.some Jvm.ClassFile.FieldType.int)), (Jvm.Cond.methodLink "PrefixMillModel" (82 : Nat) ({ cls := "PrefixMillModel", name := "sums", desc := "()V" } : Jvm.MethodName)), (Jvm.Cond.instanceMethod ({ cls := "PrefixMillModel", name := "sums", desc := "()V" } : Jvm.MethodName)), (Jvm.Cond.code ({ cls := "PrefixMillModel", name := "sums", desc := "()V" } : Jvm.MethodName) prog_12_method_14_code (5 : Nat) (Option.none : Option Jvm.ClassFile.FieldType)), (Jvm.Cond.methodLink "PrefixMillModel" (79 : Nat) ({ cls := "PrefixMillModel", name := "least", desc := "(I)I" } : Jvm.MethodName)), (Jvm.Cond.instanceMethod ({ cls := "PrefixMillModel", name := "least", desc := "(I)I" } : Jvm.MethodName)), (Jvm.Cond.code ({ cls := "PrefixMillModel", name := "least", desc := "(I)I" } : Jvm.MethodName) prog_12_method_13_code (4 : Nat) (Option.some Jvm.ClassFile.FieldType.int)), (Jvm.Cond.methodLink "PrefixMillModel" (85 : Nat) ({ cls := "PrefixMillModel", name := "longestDraft", desc := "()I" } : Jvm.MethodName)), (Jvm.Cond.instanceMethod ({ cls := "PrefixMillModel", name := "longestDraft", desc := "()I" } : Jvm.MethodName)), (Jvm.Cond.code ({ cls := "PrefixMillModel", name := "longestDraft", desc := "()I" } : Jvm.MethodName) prog_12_method_12_code (3 : Nat) (Option.some Jvm.ClassFile.FieldType.int)), (Jvm.Cond.methodLink "PrefixMillModel" (89 : Nat) ({ cls := "PrefixMillModel", name := "settle", desc := "(I)I" } : Jvm.MethodName)), (Jvm.Cond.instanceMethod ({ cls := "PrefixMillModel", name := "settle", desc := "(I)I" } : Jvm.MethodName)), (Jvm.Cond.code ({ cls := "PrefixMillModel", name := "settle", desc := "(I)I" } : Jvm.MethodName) prog_12_method_11_code (6 : Nat) (Option.some Jvm.ClassFile.FieldType.int)), (Jvm.Cond.methodLink "PrefixMillModel" (72 : Nat) ({ cls := "PrefixMillModel", name := "weightOf", desc := "(I)I" } : Jvm.MethodName)), (Jvm.Cond.instanceMethod ({ cls := "PrefixMillModel", name := "weightOf", desc := "(I)I" } : Jvm.MethodName)), (Jvm.Cond.code ({ cls := "PrefixMillModel", name := "weightOf", desc := "(I)I" } : Jvm.MethodName) prog_12_method_10_code (2 : Nat) (Option.some Jvm.ClassFile.FieldType.int)), (Jvm.Cond.methodLink "PrefixMillLaw" (59 : Nat) ({ cls := "PrefixMillModel", name := "just", desc := "()I" } : Jvm.MethodName)), (Jvm.Cond.instanceMethod ({ cls := "PrefixMillModel", name := "just", desc := "()I" } : Jvm.MethodName)), (Jvm.Cond.selects "PrefixMillModel" ({ cls := "PrefixMillModel", name := "just", desc := "()I" } : Jvm.MethodName) ({ cls := "PrefixMillModel", name := "just", desc := "()I" } : Jvm.MethodName)), (Jvm.Cond.code ({ cls := "PrefixMillModel", name := "just", desc := "()I" } : Jvm.MethodName) prog_12_method_16_code (5 : Nat) (Option.some Jvm.ClassFile.FieldType.int)), (Jvm.Cond.methodLink "PrefixMillLaw" (81 : Nat) ({ cls := "PrefixMillModel", name := "about", desc := "(I)I" } : Jvm.MethodName)), (Jvm.Cond.instanceMethod ({ cls := "PrefixMillModel", name := "about", desc := "(I)I" } : Jvm.MethodName)), (Jvm.Cond.selects "PrefixMillModel" ({ cls := "PrefixMillModel", name := "about", desc := "(I)I" } : Jvm.MethodName) ({ cls := "PrefixMillModel", name := "about", desc := "(I)I" } : Jvm.MethodName)), (Jvm.Cond.code ({ cls := "PrefixMillModel", name := "about", desc := "(I)I" } : Jvm.MethodName) prog_12_method_18_code (4 : Nat) (Option.some Jvm.ClassFile.FieldType.int)), (Jvm.Cond.methodLink "PrefixMillLaw" (86 : Nat) ({ cls := "PrefixMillModel", name := "code", desc := "(II)I" } : Jvm.MethodName)), (Jvm.Cond.instanceMethod ({ cls := "PrefixMillModel", name := "code", desc := "(II)I" } : Jvm.MethodName)), (Jvm.Cond.selects "PrefixMillModel" ({ cls := "PrefixMillModel", name := "code", desc := "(II)I" } : Jvm.MethodName) ({ cls := "PrefixMillModel", name := "code", desc := "(II)I" } : Jvm.MethodName)), (Jvm.Cond.code ({ cls := "PrefixMillModel", name := "code", desc := "(II)I" } : Jvm.MethodName) prog_12_method_19_code (3 : Nat) (Option.some Jvm.ClassFile.FieldType.int)), (Jvm.Cond.methodLink "PrefixMillModel" (92 : Nat) ({ cls := "PrefixMillModel", name := "codeOf", desc := "(I)I" } : Jvm.MethodName)), (Jvm.Cond.instanceMethod ({ cls := "PrefixMillModel", name := "codeOf", desc := "(I)I" } : Jvm.MethodName)), (Jvm.Cond.code ({ cls := "PrefixMillModel", name := "codeOf", desc := "(I)I" } : Jvm.MethodName) prog_12_method_17_code (3 : Nat) (Option.some Jvm.ClassFile.FieldType.int)), (Jvm.Cond.methodLink "PrefixMillLaw" (72 : Nat) ({ cls := "PrefixMillModel", name := "encode", desc := "(Z)I" } : Jvm.MethodName)), (Jvm.Cond.instanceMethod ({ cls := "PrefixMillModel", name := "encode", desc := "(Z)I" } : Jvm.MethodName)), (Jvm.Cond.selects "PrefixMillModel" ({ cls := "PrefixMillModel", name := "encode", desc := "(Z)I" } : Jvm.MethodName) ({ cls := "PrefixMillModel", name := "encode", desc := "(Z)I" } : Jvm.MethodName)), (Jvm.Cond.code ({ cls := "PrefixMillModel", name := "encode", desc := "(Z)I" } : Jvm.MethodName) prog_12_method_26_code (7 : Nat) (Option.some Jvm.ClassFile.FieldType.int)), (Jvm.Cond.methodLink "PrefixMillModel" (105 : Nat) ({ cls := "PrefixMillModel", name := "streamBytes", desc := "(II)I" } : Jvm.MethodName)), (Jvm.Cond.instanceMethod ({ cls := "PrefixMillModel", name := "streamBytes", desc := "(II)I" } : Jvm.MethodName)), (Jvm.Cond.code ({ cls := "PrefixMillModel", name := "streamBytes", desc := "(II)I" } : Jvm.MethodName) prog_12_method_24_code (5 : Nat) (Option.some Jvm.ClassFile.FieldType.int)), (Jvm.Cond.methodLink "PrefixMillModel" (109 : Nat) ({ cls := "PrefixMillModel", name := "begin", desc := "()V" } : Jvm.MethodName)), (Jvm.Cond.instanceMethod ({ cls := "PrefixMillModel", name := "begin", desc := "()V" } : Jvm.MethodName)), (Jvm.Cond.code ({ cls := "PrefixMillModel", name := "begin", desc := "()V" } : Jvm.MethodName) prog_12_method_20_code (2 : Nat) (Option.none : Option Jvm.ClassFile.FieldType)), (Jvm.Cond.methodLink "PrefixMillModel" (98 : Nat) ({ cls := "PrefixMillModel", name := "put", desc := "(II)V" } : Jvm.MethodName)), (Jvm.Cond.instanceMethod ({ cls := "PrefixMillModel", name := "put", desc := "(II)V" } : Jvm.MethodName)), (Jvm.Cond.code ({ cls := "PrefixMillModel", name := "put", desc := "(II)V" } : Jvm.MethodName) prog_12_method_21_code (4 : Nat) (Option.none : Option Jvm.ClassFile.FieldType)), (Jvm.Cond.methodLink "PrefixMillModel" (112 : Nat) ({ cls := "PrefixMillModel", name := "putStream", desc := "(II)V" } : Jvm.MethodName)), (Jvm.Cond.instanceMethod ({ cls := "PrefixMillModel", name := "putStream", desc := "(II)V" } : Jvm.MethodName)), (Jvm.Cond.code ({ cls := "PrefixMillModel", name := "putStream", desc := "(II)V" } : Jvm.MethodName) prog_12_method_25_code (4 : Nat) (Option.none : Option Jvm.ClassFile.FieldType)), (Jvm.Cond.methodLink "PrefixMillModel" (102 : Nat) ({ cls := "PrefixMillModel", name := "fill", desc := "()V" } : Jvm.MethodName)), (Jvm.Cond.instanceMethod ({ cls := "PrefixMillModel", name := "fill", desc := "()V" } : Jvm.MethodName)), (Jvm.Cond.code ({ cls := "PrefixMillModel", name := "fill", desc := "()V" } : Jvm.MethodName) prog_12_method_22_code (1 : Nat) (Option.none : Option Jvm.ClassFile.FieldType)), (Jvm.Cond.methodLink "PrefixMillModel" (115 : Nat) ({ cls := "PrefixMillModel", name := "give", desc := "()I" } : Jvm.MethodName)), (Jvm.Cond.instanceMethod ({ cls := "PrefixMillModel", name := "give", desc := "()I" } : Jvm.MethodName)), (Jvm.Cond.code ({ cls := "PrefixMillModel", name := "give", desc := "()I" } : Jvm.MethodName) prog_12_method_23_code (2 : Nat) (Option.some Jvm.ClassFile.FieldType.int)), (Jvm.Cond.methodLink "PrefixMillLaw" (77 : Nat) ({ cls := "PrefixMillModel", name := "decode", desc := "(IZ)I" } : Jvm.MethodName)), (Jvm.Cond.instanceMethod ({ cls := "PrefixMillModel", name := "decode", desc := "(IZ)I" } : Jvm.MethodName)), (Jvm.Cond.selects "PrefixMillModel" ({ cls := "PrefixMillModel", name := "decode", desc := "(IZ)I" } : Jvm.MethodName) ({ cls := "PrefixMillModel", name := "decode", desc := "(IZ)I" } : Jvm.MethodName)), (Jvm.Cond.code ({ cls := "PrefixMillModel", name := "decode", desc := "(IZ)I" } : Jvm.MethodName) prog_12_method_30_code (6 : Nat) (Option.some Jvm.ClassFile.FieldType.int)), (Jvm.Cond.methodLink "PrefixMillModel" (125 : Nat) ({ cls := "PrefixMillModel", name := "takeFour", desc := "(II)I" } : Jvm.MethodName)), (Jvm.Cond.instanceMethod ({ cls := "PrefixMillModel", name := "takeFour", desc := "(II)I" } : Jvm.MethodName)), (Jvm.Cond.code ({ cls := "PrefixMillModel", name := "takeFour", desc := "(II)I" } : Jvm.MethodName) prog_12_method_29_code (8 : Nat) (Option.some Jvm.ClassFile.FieldType.int))]
def tt_8 : List Cond := [(Jvm.Cond.methodLink "PrefixMillModel" (121 : Nat) ({ cls := "PrefixMillModel", name := "takeStream", desc := "(IIII)I" } : Jvm.MethodName)), (Jvm.Cond.instanceMethod ({ cls := "PrefixMillModel", name := "takeStream", desc := "(IIII)I" } : Jvm.MethodName)), (Jvm.Cond.code ({ cls := "PrefixMillModel", name := "takeStream", desc := "(IIII)I" } : Jvm.MethodName) prog_12_method_28_code (10 : Nat) (Option.some Jvm.ClassFile.FieldType.int)), (Jvm.Cond.methodLink "PrefixMillModel" (118 : Nat) ({ cls := "PrefixMillModel", name := "bitAt", desc := "(I)I" } : Jvm.MethodName)), (Jvm.Cond.instanceMethod ({ cls := "PrefixMillModel", name := "bitAt", desc := "(I)I" } : Jvm.MethodName)), (Jvm.Cond.code ({ cls := "PrefixMillModel", name := "bitAt", desc := "(I)I" } : Jvm.MethodName) prog_12_method_27_code (2 : Nat) (Option.some Jvm.ClassFile.FieldType.int)), (Jvm.Cond.methodLink "PrefixMillLaw" (63 : Nat) ({ cls := "PrefixMillModel", name := "describe", desc := "()I" } : Jvm.MethodName)), (Jvm.Cond.instanceMethod ({ cls := "PrefixMillModel", name := "describe", desc := "()I" } : Jvm.MethodName)), (Jvm.Cond.selects "PrefixMillModel" ({ cls := "PrefixMillModel", name := "describe", desc := "()I" } : Jvm.MethodName) ({ cls := "PrefixMillModel", name := "describe", desc := "()I" } : Jvm.MethodName)), (Jvm.Cond.code ({ cls := "PrefixMillModel", name := "describe", desc := "()I" } : Jvm.MethodName) prog_12_method_49_code (6 : Nat) (Option.some Jvm.ClassFile.FieldType.int)), (Jvm.Cond.methodLink "PrefixMillModel" (180 : Nat) ({ cls := "PrefixMillModel", name := "different", desc := "()I" } : Jvm.MethodName)), (Jvm.Cond.instanceMethod ({ cls := "PrefixMillModel", name := "different", desc := "()I" } : Jvm.MethodName)), (Jvm.Cond.code ({ cls := "PrefixMillModel", name := "different", desc := "()I" } : Jvm.MethodName) prog_12_method_48_code (3 : Nat) (Option.some Jvm.ClassFile.FieldType.int)), (Jvm.Cond.methodLink "PrefixMillModel" (137 : Nat) ({ cls := "PrefixMillModel", name := "countOf", desc := "(I)I" } : Jvm.MethodName)), (Jvm.Cond.instanceMethod ({ cls := "PrefixMillModel", name := "countOf", desc := "(I)I" } : Jvm.MethodName)), (Jvm.Cond.code ({ cls := "PrefixMillModel", name := "countOf", desc := "(I)I" } : Jvm.MethodName) prog_12_method_33_code (4 : Nat) (Option.some Jvm.ClassFile.FieldType.int)), (Jvm.Cond.methodLink "PrefixMillModel" (183 : Nat) ({ cls := "PrefixMillModel", name := "putStates", desc := "(I)I" } : Jvm.MethodName)), (Jvm.Cond.instanceMethod ({ cls := "PrefixMillModel", name := "putStates", desc := "(I)I" } : Jvm.MethodName)), (Jvm.Cond.code ({ cls := "PrefixMillModel", name := "putStates", desc := "(I)I" } : Jvm.MethodName) prog_12_method_46_code (2 : Nat) (Option.some Jvm.ClassFile.FieldType.int)), (Jvm.Cond.methodLink "PrefixMillModel" (170 : Nat) ({ cls := "PrefixMillModel", name := "shareByCounts", desc := "(I)V" } : Jvm.MethodName)), (Jvm.Cond.instanceMethod ({ cls := "PrefixMillModel", name := "shareByCounts", desc := "(I)V" } : Jvm.MethodName)), (Jvm.Cond.code ({ cls := "PrefixMillModel", name := "shareByCounts", desc := "(I)V" } : Jvm.MethodName) prog_12_method_36_code (4 : Nat) (Option.none : Option Jvm.ClassFile.FieldType)), (Jvm.Cond.methodLink "PrefixMillModel" (140 : Nat) ({ cls := "PrefixMillModel", name := "newRound", desc := "()V" } : Jvm.MethodName)), (Jvm.Cond.instanceMethod ({ cls := "PrefixMillModel", name := "newRound", desc := "()V" } : Jvm.MethodName)), (Jvm.Cond.code ({ cls := "PrefixMillModel", name := "newRound", desc := "()V" } : Jvm.MethodName) prog_12_method_35_code (2 : Nat) (Option.none : Option Jvm.ClassFile.FieldType)), (Jvm.Cond.methodLink "PrefixMillModel" (143 : Nat) ({ cls := "PrefixMillModel", name := "lacking", desc := "()I" } : Jvm.MethodName)), (Jvm.Cond.instanceMethod ({ cls := "PrefixMillModel", name := "lacking", desc := "()I" } : Jvm.MethodName)), (Jvm.Cond.code ({ cls := "PrefixMillModel", name := "lacking", desc := "()I" } : Jvm.MethodName) prog_12_method_32_code (3 : Nat) (Option.some Jvm.ClassFile.FieldType.int)), (Jvm.Cond.methodLink "PrefixMillModel" (128 : Nat) ({ cls := "PrefixMillModel", name := "mass", desc := "(I)I" } : Jvm.MethodName)), (Jvm.Cond.static ({ cls := "PrefixMillModel", name := "mass", desc := "(I)I" } : Jvm.MethodName)), (Jvm.Cond.code ({ cls := "PrefixMillModel", name := "mass", desc := "(I)I" } : Jvm.MethodName) prog_12_method_31_code (1 : Nat) (Option.some Jvm.ClassFile.FieldType.int)), (Jvm.Cond.methodLink "PrefixMillModel" (146 : Nat) ({ cls := "PrefixMillModel", name := "nextToGet", desc := "()I" } : Jvm.MethodName)), (Jvm.Cond.instanceMethod ({ cls := "PrefixMillModel", name := "nextToGet", desc := "()I" } : Jvm.MethodName)), (Jvm.Cond.code ({ cls := "PrefixMillModel", name := "nextToGet", desc := "()I" } : Jvm.MethodName) prog_12_method_34_code (3 : Nat) (Option.some Jvm.ClassFile.FieldType.int)), (Jvm.Cond.methodLink "PrefixMillModel" (149 : Nat) ({ cls := "PrefixMillModel", name := "givePlaces", desc := "()V" } : Jvm.MethodName)), (Jvm.Cond.instanceMethod ({ cls := "PrefixMillModel", name := "givePlaces", desc := "()V" } : Jvm.MethodName)), (Jvm.Cond.code ({ cls := "PrefixMillModel", name := "givePlaces", desc := "()V" } : Jvm.MethodName) prog_12_method_37_code (7 : Nat) (Option.none : Option Jvm.ClassFile.FieldType)), (Jvm.Cond.methodLink "PrefixMillModel" (174 : Nat) ({ cls := "PrefixMillModel", name := "putShare", desc := "()V" } : Jvm.MethodName)), (Jvm.Cond.instanceMethod ({ cls := "PrefixMillModel", name := "putShare", desc := "()V" } : Jvm.MethodName)), (Jvm.Cond.code ({ cls := "PrefixMillModel", name := "putShare", desc := "()V" } : Jvm.MethodName) prog_12_method_42_code (9 : Nat) (Option.none : Option Jvm.ClassFile.FieldType)), (Jvm.Cond.methodLink "PrefixMillModel" (158 : Nat) ({ cls := "PrefixMillModel", name := "bitsFor", desc := "(I)I" } : Jvm.MethodName)), (Jvm.Cond.static ({ cls := "PrefixMillModel", name := "bitsFor", desc := "(I)I" } : Jvm.MethodName)), (Jvm.Cond.code ({ cls := "PrefixMillModel", name := "bitsFor", desc := "(I)I" } : Jvm.MethodName) prog_12_method_41_code (2 : Nat) (Option.some Jvm.ClassFile.FieldType.int)), (Jvm.Cond.methodLink "PrefixMillModel" (177 : Nat) ({ cls := "PrefixMillModel", name := "putRow", desc := "()V" } : Jvm.MethodName)), (Jvm.Cond.instanceMethod ({ cls := "PrefixMillModel", name := "putRow", desc := "()V" } : Jvm.MethodName)), (Jvm.Cond.code ({ cls := "PrefixMillModel", name := "putRow", desc := "()V" } : Jvm.MethodName) prog_12_method_45_code (5 : Nat) (Option.none : Option Jvm.ClassFile.FieldType)), (Jvm.Cond.methodLink "PrefixMillModel" (164 : Nat) ({ cls := "PrefixMillModel", name := "lowest", desc := "(I)I" } : Jvm.MethodName)), (Jvm.Cond.instanceMethod ({ cls := "PrefixMillModel", name := "lowest", desc := "(I)I" } : Jvm.MethodName)), (Jvm.Cond.code ({ cls := "PrefixMillModel", name := "lowest", desc := "(I)I" } : Jvm.MethodName) prog_12_method_43_code (3 : Nat) (Option.some Jvm.ClassFile.FieldType.int)), (Jvm.Cond.methodLink "PrefixMillModel" (155 : Nat) ({ cls := "PrefixMillModel", name := "bitsOf", desc := "(I)I" } : Jvm.MethodName)), (Jvm.Cond.instanceMethod ({ cls := "PrefixMillModel", name := "bitsOf", desc := "(I)I" } : Jvm.MethodName)), (Jvm.Cond.code ({ cls := "PrefixMillModel", name := "bitsOf", desc := "(I)I" } : Jvm.MethodName) prog_12_method_39_code (3 : Nat) (Option.some Jvm.ClassFile.FieldType.int)), (Jvm.Cond.methodLink "PrefixMillModel" (152 : Nat) ({ cls := "PrefixMillModel", name := "numberOf", desc := "(I)I" } : Jvm.MethodName)), (Jvm.Cond.instanceMethod ({ cls := "PrefixMillModel", name := "numberOf", desc := "(I)I" } : Jvm.MethodName)), (Jvm.Cond.code ({ cls := "PrefixMillModel", name := "numberOf", desc := "(I)I" } : Jvm.MethodName) prog_12_method_38_code (4 : Nat) (Option.some Jvm.ClassFile.FieldType.int)), (Jvm.Cond.methodLink "PrefixMillModel" (167 : Nat) ({ cls := "PrefixMillModel", name := "placeFor", desc := "(II)I" } : Jvm.MethodName)), (Jvm.Cond.instanceMethod ({ cls := "PrefixMillModel", name := "placeFor", desc := "(II)I" } : Jvm.MethodName)), (Jvm.Cond.code ({ cls := "PrefixMillModel", name := "placeFor", desc := "(II)I" } : Jvm.MethodName) prog_12_method_44_code (4 : Nat) (Option.some Jvm.ClassFile.FieldType.int)), (Jvm.Cond.methodLink "PrefixMillModel" (161 : Nat) ({ cls := "PrefixMillModel", name := "baseOf", desc := "(I)I" } : Jvm.MethodName)), (Jvm.Cond.instanceMethod ({ cls := "PrefixMillModel", name := "baseOf", desc := "(I)I" } : Jvm.MethodName)), (Jvm.Cond.code ({ cls := "PrefixMillModel", name := "baseOf", desc := "(I)I" } : Jvm.MethodName) prog_12_method_40_code (2 : Nat) (Option.some Jvm.ClassFile.FieldType.int)), (Jvm.Cond.methodLink "PrefixMillModel" (186 : Nat) ({ cls := "PrefixMillModel", name := "putDirect", desc := "()V" } : Jvm.MethodName)), (Jvm.Cond.instanceMethod ({ cls := "PrefixMillModel", name := "putDirect", desc := "()V" } : Jvm.MethodName)), (Jvm.Cond.code ({ cls := "PrefixMillModel", name := "putDirect", desc := "()V" } : Jvm.MethodName) prog_12_method_47_code (2 : Nat) (Option.none : Option Jvm.ClassFile.FieldType)), (Jvm.Cond.methodLink "PrefixMillLaw" (67 : Nat) ({ cls := "PrefixMillModel", name := "read", desc := "()I" } : Jvm.MethodName)), (Jvm.Cond.instanceMethod ({ cls := "PrefixMillModel", name := "read", desc := "()I" } : Jvm.MethodName)), (Jvm.Cond.selects "PrefixMillModel" ({ cls := "PrefixMillModel", name := "read", desc := "()I" } : Jvm.MethodName) ({ cls := "PrefixMillModel", name := "read", desc := "()I" } : Jvm.MethodName)), (Jvm.Cond.code ({ cls := "PrefixMillModel", name := "read", desc := "()I" } : Jvm.MethodName) prog_12_method_57_code (8 : Nat) (Option.some Jvm.ClassFile.FieldType.int)), (Jvm.Cond.methodLink "PrefixMillModel" (215 : Nat) ({ cls := "PrefixMillModel", name := "takeWeights", desc := "()I" } : Jvm.MethodName)), (Jvm.Cond.instanceMethod ({ cls := "PrefixMillModel", name := "takeWeights", desc := "()I" } : Jvm.MethodName)), (Jvm.Cond.code ({ cls := "PrefixMillModel", name := "takeWeights", desc := "()I" } : Jvm.MethodName) prog_12_method_56_code (5 : Nat) (Option.some Jvm.ClassFile.FieldType.int)), (Jvm.Cond.methodLink "PrefixMillModel" (204 : Nat) ({ cls := "PrefixMillModel", name := "putWeight", desc := "(I)Z" } : Jvm.MethodName)), (Jvm.Cond.instanceMethod ({ cls := "PrefixMillModel", name := "putWeight", desc := "(I)Z" } : Jvm.MethodName)), (Jvm.Cond.code ({ cls := "PrefixMillModel", name := "putWeight", desc := "(I)Z" } : Jvm.MethodName) prog_12_method_53_code (2 : Nat) (Option.some Jvm.ClassFile.FieldType.boolean)), (Jvm.Cond.methodLink "PrefixMillModel" (208 : Nat) ({ cls := "PrefixMillModel", name := "takeShare", desc := "()Z" } : Jvm.MethodName)), (Jvm.Cond.instanceMethod ({ cls := "PrefixMillModel", name := "takeShare", desc := "()Z" } : Jvm.MethodName)), (Jvm.Cond.code ({ cls := "PrefixMillModel", name := "takeShare", desc := "()Z" } : Jvm.MethodName) prog_12_method_52_code (6 : Nat) (Option.some Jvm.ClassFile.FieldType.boolean)), (Jvm.Cond.methodLink "PrefixMillModel" (195 : Nat) ({ cls := "PrefixMillModel", name := "take", desc := "(I)I" } : Jvm.MethodName)), (Jvm.Cond.instanceMethod ({ cls := "PrefixMillModel", name := "take", desc := "(I)I" } : Jvm.MethodName)), (Jvm.Cond.code ({ cls := "PrefixMillModel", name := "take", desc := "(I)I" } : Jvm.MethodName) prog_12_method_50_code (4 : Nat) (Option.some Jvm.ClassFile.FieldType.int)), (Jvm.Cond.methodLink "PrefixMillModel" (198 : Nat) ({ cls := "PrefixMillModel", name := "takeNumber", desc := "(I)I" } : Jvm.MethodName)), (Jvm.Cond.instanceMethod ({ cls := "PrefixMillModel", name := "takeNumber", desc := "(I)I" } : Jvm.MethodName)), (Jvm.Cond.code ({ cls := "PrefixMillModel", name := "takeNumber", desc := "(I)I" } : Jvm.MethodName) prog_12_method_51_code (7 : Nat) (Option.some Jvm.ClassFile.FieldType.int)), (Jvm.Cond.methodLink "PrefixMillModel" (212 : Nat) ({ cls := "PrefixMillModel", name := "takeRow", desc := "()Z" } : Jvm.MethodName)), (Jvm.Cond.instanceMethod ({ cls := "PrefixMillModel", name := "takeRow", desc := "()Z" } : Jvm.MethodName)), (Jvm.Cond.code ({ cls := "PrefixMillModel", name := "takeRow", desc := "()Z" } : Jvm.MethodName) prog_12_method_55_code (6 : Nat) (Option.some Jvm.ClassFile.FieldType.boolean)), (Jvm.Cond.methodLink "PrefixMillModel" (201 : Nat) ({ cls := "PrefixMillModel", name := "takeDown", desc := "(I)I" } : Jvm.MethodName)), (Jvm.Cond.instanceMethod ({ cls := "PrefixMillModel", name := "takeDown", desc := "(I)I" } : Jvm.MethodName)), (Jvm.Cond.code ({ cls := "PrefixMillModel", name := "takeDown", desc := "(I)I" } : Jvm.MethodName) prog_12_method_54_code (4 : Nat) (Option.some Jvm.ClassFile.FieldType.int)), (Jvm.Cond.methodLink "PrefixMillLaw" (90 : Nat) ({ cls := "PrefixMillModel", name := "size", desc := "()I" } : Jvm.MethodName)), (Jvm.Cond.instanceMethod ({ cls := "PrefixMillModel", name := "size", desc := "()I" } : Jvm.MethodName)), (Jvm.Cond.selects "PrefixMillModel" ({ cls := "PrefixMillModel", name := "size", desc := "()I" } : Jvm.MethodName) ({ cls := "PrefixMillModel", name := "size", desc := "()I" } : Jvm.MethodName)), (Jvm.Cond.code ({ cls := "PrefixMillModel", name := "size", desc := "()I" } : Jvm.MethodName) prog_12_method_58_code (1 : Nat) (Option.some Jvm.ClassFile.FieldType.int)), (Jvm.Cond.methodLink "PrefixMillLaw" (94 : Nat) ({ cls := "PrefixMillModel", name := "byteAt", desc := "(I)I" } : Jvm.MethodName)), (Jvm.Cond.instanceMethod ({ cls := "PrefixMillModel", name := "byteAt", desc := "(I)I" } : Jvm.MethodName)), (Jvm.Cond.selects "PrefixMillModel" ({ cls := "PrefixMillModel", name := "byteAt", desc := "(I)I" } : Jvm.MethodName) ({ cls := "PrefixMillModel", name := "byteAt", desc := "(I)I" } : Jvm.MethodName)), (Jvm.Cond.code ({ cls := "PrefixMillModel", name := "byteAt", desc := "(I)I" } : Jvm.MethodName) prog_12_method_59_code (2 : Nat) (Option.some Jvm.ClassFile.FieldType.int)), (Jvm.Cond.constantLong "PrefixMillLaw" (13 : Nat) (4294967295 : Int64))]
def tt : List Cond := tt_0 ++ (tt_1 ++ (tt_2 ++ (tt_3 ++ (tt_4 ++ (tt_5 ++ (tt_6 ++ (tt_7 ++ (tt_8))))))))
theorem tt_c0 : ∀ w ∈ tt_0, w ∈ tt := fun w h => List.mem_append_left _ h
theorem tt_c1 : ∀ w ∈ tt_1, w ∈ tt := fun w h => List.mem_append_right _ (List.mem_append_left _ h)
theorem tt_c2 : ∀ w ∈ tt_2, w ∈ tt := fun w h => List.mem_append_right _ (List.mem_append_right _ (List.mem_append_left _ h))
theorem tt_c3 : ∀ w ∈ tt_3, w ∈ tt := fun w h => List.mem_append_right _ (List.mem_append_right _ (List.mem_append_right _ (List.mem_append_left _ h)))
theorem tt_c4 : ∀ w ∈ tt_4, w ∈ tt := fun w h => List.mem_append_right _ (List.mem_append_right _ (List.mem_append_right _ (List.mem_append_right _ (List.mem_append_left _ h))))
theorem tt_c5 : ∀ w ∈ tt_5, w ∈ tt := fun w h => List.mem_append_right _ (List.mem_append_right _ (List.mem_append_right _ (List.mem_append_right _ (List.mem_append_right _ (List.mem_append_left _ h)))))
theorem tt_c6 : ∀ w ∈ tt_6, w ∈ tt := fun w h => List.mem_append_right _ (List.mem_append_right _ (List.mem_append_right _ (List.mem_append_right _ (List.mem_append_right _ (List.mem_append_right _ (List.mem_append_left _ h))))))
theorem tt_c7 : ∀ w ∈ tt_7, w ∈ tt := fun w h => List.mem_append_right _ (List.mem_append_right _ (List.mem_append_right _ (List.mem_append_right _ (List.mem_append_right _ (List.mem_append_right _ (List.mem_append_right _ (List.mem_append_left _ h)))))))
theorem tt_c8 : ∀ w ∈ tt_8, w ∈ tt := fun w h => List.mem_append_right _ (List.mem_append_right _ (List.mem_append_right _ (List.mem_append_right _ (List.mem_append_right _ (List.mem_append_right _ (List.mem_append_right _ (List.mem_append_right _ (h))))))))
set_option maxRecDepth 100000 in
theorem tt_in : ∀ w ∈ tt, w ∈ lw_tbl := by
  have h : tt = ([0, 1, 2, 3, 4, 5, 6, 7, 8, 9, 10, 11, 12, 13, 14, 15, 16, 17, 18, 19, 20, 21, 22, 23, 24, 25, 26, 27, 28, 29, 30, 31, 32, 33, 34, 35, 36, 37, 38, 39, 40, 41, 42, 43, 44, 45, 46, 47, 48, 49, 50, 51, 52, 53, 54, 55, 56, 57, 58, 59, 60, 61, 62, 63, 64, 66, 67, 68, 69, 70, 71, 72, 73, 74, 75, 76, 77, 78, 79, 80, 81, 82, 83, 84, 85, 86, 87, 88, 89, 90, 91, 92, 93, 94, 95, 96, 97, 98, 99, 100, 101, 102, 103, 105, 107, 109, 111, 114, 115, 116, 117, 118, 119, 120, 121, 122, 123, 124, 125, 126, 127, 128, 129, 130, 131, 132, 133, 134, 135, 136, 138, 140, 142, 144, 146, 149, 150, 151, 152, 153, 154, 155, 156, 157, 158, 159, 160, 161, 162, 163, 164, 165, 166, 167, 168, 170, 172, 174, 176, 178, 180, 182, 184, 186, 188, 191, 192, 193, 194, 195, 196, 197, 198, 199, 200, 201, 202, 203, 204, 205, 206, 207, 208, 209, 210, 211, 212, 213, 214, 215, 216, 217, 218, 219, 220, 221, 222, 223, 224, 225, 226, 227, 228, 229, 231, 233, 235, 237, 239, 241, 243, 245, 247, 249, 251, 254, 255, 256, 257, 258, 260, 262, 265, 266, 267, 268, 269, 271, 273, 275, 278, 279, 280, 281, 282, 283, 284, 285, 286, 287, 288, 289, 290, 291, 292, 293, 294, 296, 299, 300, 301, 302, 303, 304, 305, 306, 307, 308, 309, 311, 313, 315, 317, 319, 322, 323, 324, 325, 326, 327, 328, 329, 330, 331, 332, 333, 334, 335, 337, 340, 341, 342, 343, 344, 345, 346, 347, 348, 349, 351, 353, 355, 357, 359, 361, 363, 365, 368, 369, 370, 371, 372, 373, 374, 375, 376, 377, 378, 379, 380, 381, 382, 383, 384, 385, 386, 387, 388, 389, 390, 391, 392, 393, 394, 395, 396, 397, 398, 399, 400, 401, 402, 403, 404, 405, 406, 407, 408, 409, 410, 411, 412, 413, 414, 415, 416, 417, 418, 419, 420, 421, 422, 423, 424, 425, 426, 427, 428, 429, 430, 431, 432, 433, 434, 435, 436, 437, 438, 439, 440, 441, 442, 443, 445, 446, 447, 449, 450, 451, 452, 454, 455, 456, 458, 459, 460, 462, 463, 464, 465, 466, 467, 468, 469, 470, 472, 473, 474, 475, 476, 477, 478, 479, 481, 482, 483, 485, 486, 487, 488, 489, 490, 491, 492, 493, 494, 495, 496, 497, 498, 499, 500, 501, 502, 503, 504, 505, 506, 507, 508, 510, 511, 512, 513, 514, 515, 516, 517, 518, 519, 520, 521, 522, 523, 524, 525, 526, 527, 529, 530, 531, 533, 534, 535, 537, 538, 539, 541, 542, 543, 545, 546, 547, 549, 550, 551, 553, 554, 555, 557, 558, 559, 561, 562, 563, 564, 565, 566, 567, 568, 569, 570, 571, 572, 573, 574, 575, 576, 577, 578, 580, 581, 582, 583, 584, 585, 586, 587, 588, 589, 590, 591, 592, 593, 594, 595, 596, 597, 598, 599, 600, 601, 602, 604, 605, 606, 607, 608, 609, 610, 611, 612, 613, 614, 615, 616, 617, 618, 619, 620, 622, 623, 624, 625, 626, 627, 628, 629, 631, 632, 633, 634, 635, 636, 637, 638, 639, 641, 642, 643, 645, 646, 647, 649, 650, 651, 652, 653, 654, 655, 656, 657, 658, 659, 660, 661, 662, 663, 664, 665, 666, 667, 668, 669, 670, 672, 673, 674, 675, 676, 677, 678, 679, 680, 681, 682, 683, 684, 685, 686, 687, 688, 689, 690, 691, 692, 693, 694, 695, 696, 697, 698, 699, 700, 701, 702, 703, 704, 705, 706, 707, 708, 709, 710, 711, 712, 713, 714, 715, 716, 718, 719, 720, 721, 722, 723, 724, 725, 726, 727, 728, 729, 730, 731, 732, 733, 734, 735, 736, 737, 738, 739, 740, 741, 742, 743, 744, 745, 746, 747, 748, 749, 750, 751, 752, 753, 754, 755, 756, 757, 758, 759, 760, 761, 762, 763, 764, 765, 766, 767, 768, 769, 770, 771, 772, 773, 774, 775, 777, 779, 781, 783, 785, 787, 789, 791, 793, 795, 797, 799, 801, 803, 805, 807, 809, 811, 813, 815, 817, 819, 821, 823, 826, 827, 828, 829, 830, 831, 832, 833, 834, 835, 836, 837, 838, 839, 840, 841, 842, 843, 844, 845, 846, 847, 848, 849, 850, 851, 852, 853, 854, 855, 856, 857, 858, 859, 860, 861, 862, 863, 864, 865, 867, 868, 869, 871, 872, 873, 875, 876, 877, 879, 880, 881, 883, 884, 885, 886, 887, 888, 889, 890, 891, 892, 893, 894, 895, 896, 897, 899, 900, 901, 902, 903, 904, 905, 907, 908, 909, 911, 912, 913, 915, 916, 917, 919, 920, 921, 923, 924, 925, 927, 928, 929, 930, 931, 932, 933, 935, 936, 937, 939, 940, 941, 943, 944, 945, 946, 947, 948, 949, 951, 952, 953, 955, 956, 957, 959, 960, 961, 963, 964, 965, 967, 968, 969, 971, 972, 973, 974, 975, 976, 978, 979, 980, 982, 983, 984, 986, 987, 988, 989, 990, 991, 993, 994, 995, 997, 998, 999, 1001, 1002, 1003, 1005, 1006, 1007, 1009, 1010, 1011, 1013, 1014, 1015, 1017, 1018, 1019, 1020, 1021, 1022, 1023, 1025, 1026, 1027, 1029, 1030, 1031, 1033, 1034, 1035, 1037, 1038, 1039, 1041, 1042, 1043, 1045, 1046, 1047, 1049, 1050, 1051, 1052, 1053, 1054, 1055, 1056, 1057, 1058, 1059] : List Nat).filterMap (fun i => lw_tbl[i]?) := by rfl
  intro w hw
  rw [h] at hw
  obtain ⟨i, -, hi⟩ := List.mem_filterMap.mp hw
  exact List.mem_of_getElem? hi
def F_PM : u_T := fun k => match k with
  | 0 => ("PrefixMill", "in", "LPrefixMill$Row;", true)
  | 1 => ("PrefixMill", "out", "LPrefixMill$Row;", true)
  | 2 => ("PrefixMill", "counts", "[I", true)
  | 3 => ("PrefixMill", "codes", "LPrefixMill$Codes;", true)
  | 4 => ("PrefixMill", "tree", "LPrefixMill$Tree;", true)
  | 5 => ("PrefixMill", "writer", "LPrefixMill$Writer;", true)
  | 6 => ("PrefixMill", "reader", "LPrefixMill$Reader;", true)
  | 7 => ("PrefixMill", "streams", "LPrefixMill$Streams;", true)
  | _ => ("PrefixMill", "place", "I", false)
def t_PM : Nat → FieldType := fun k => match k with
  | 0 => .object "PrefixMill$Row"
  | 1 => .object "PrefixMill$Row"
  | 2 => .array .int
  | 3 => .object "PrefixMill$Codes"
  | 4 => .object "PrefixMill$Tree"
  | 5 => .object "PrefixMill$Writer"
  | 6 => .object "PrefixMill$Reader"
  | 7 => .object "PrefixMill$Streams"
  | _ => .int
theorem in_PM : ∀ w ∈ u_ws "PrefixMill" F_PM 9, w ∈ tt := by decide +kernel
theorem n_PM : ∀ a, a < 9 → ∀ b, b < 9 → a ≠ b → (F_PM a).2.1 ≠ (F_PM b).2.1 := by decide +kernel
theorem t_PM_ok : ∀ k, k < 9 → parseFieldDescriptor (F_PM k).2.2.1 = some (t_PM k) := by decide +kernel
def F_MM : u_T := fun k => match k with
  | 0 => ("PrefixMillModel", "in", "[I", true)
  | 1 => ("PrefixMillModel", "inLong", "I", false)
  | 2 => ("PrefixMillModel", "goesOn", "I", false)
  | 3 => ("PrefixMillModel", "out", "[I", true)
  | 4 => ("PrefixMillModel", "outLong", "I", false)
  | 5 => ("PrefixMillModel", "counts", "[I", true)
  | 6 => ("PrefixMillModel", "greatest", "I", false)
  | 7 => ("PrefixMillModel", "length", "[I", true)
  | 8 => ("PrefixMillModel", "symbolOf", "[I", true)
  | 9 => ("PrefixMillModel", "draft", "[I", true)
  | 10 => ("PrefixMillModel", "knot", "[I", true)
  | 11 => ("PrefixMillModel", "inSum", "[I", true)
  | 12 => ("PrefixMillModel", "knots", "I", false)
  | 13 => ("PrefixMillModel", "halved", "[I", true)
  | 14 => ("PrefixMillModel", "made", "[I", true)
  | 15 => ("PrefixMillModel", "bitsMade", "I", false)
  | 16 => ("PrefixMillModel", "weight", "[I", true)
  | 17 => ("PrefixMillModel", "weights", "I", false)
  | 18 => ("PrefixMillModel", "order", "I", false)
  | 19 => ("PrefixMillModel", "points", "[I", true)
  | 20 => ("PrefixMillModel", "cutOff", "[I", true)
  | 21 => ("PrefixMillModel", "had", "[Z", true)
  | 22 => ("PrefixMillModel", "placeOf", "[I", true)
  | 23 => ("PrefixMillModel", "bit", "I", false)
  | _ => ("PrefixMillModel", "bitEnd", "I", false)
def t_MM : Nat → FieldType := fun k => match k with
  | 0 => .array .int
  | 1 => .int
  | 2 => .int
  | 3 => .array .int
  | 4 => .int
  | 5 => .array .int
  | 6 => .int
  | 7 => .array .int
  | 8 => .array .int
  | 9 => .array .int
  | 10 => .array .int
  | 11 => .array .int
  | 12 => .int
  | 13 => .array .int
  | 14 => .array .int
  | 15 => .int
  | 16 => .array .int
  | 17 => .int
  | 18 => .int
  | 19 => .array .int
  | 20 => .array .int
  | 21 => .array .boolean
  | 22 => .array .int
  | 23 => .int
  | _ => .int
theorem in_MM : ∀ w ∈ u_ws "PrefixMillModel" F_MM 25, w ∈ tt := by decide +kernel
theorem n_MM : ∀ a, a < 25 → ∀ b, b < 25 → a ≠ b → (F_MM a).2.1 ≠ (F_MM b).2.1 := by decide +kernel
theorem t_MM_ok : ∀ k, k < 25 → parseFieldDescriptor (F_MM k).2.2.1 = some (t_MM k) := by decide +kernel
def F_Codes : u_T := fun k => match k with
  | 0 => ("PrefixMill$Codes", "lengths", "[I", true)
  | 1 => ("PrefixMill$Codes", "values", "[I", true)
  | 2 => ("PrefixMill$Codes", "cells", "[I", true)
  | 3 => ("PrefixMill$Codes", "greatest", "I", false)
  | 4 => ("PrefixMill$Codes", "known", "I", false)
  | _ => ("PrefixMill$Codes", "highest", "I", false)
def t_Codes : Nat → FieldType := fun k => match k with
  | 0 => .array .int
  | 1 => .array .int
  | 2 => .array .int
  | 3 => .int
  | 4 => .int
  | _ => .int
theorem in_Codes : ∀ w ∈ u_ws "PrefixMill$Codes" F_Codes 6, w ∈ tt := by decide +kernel
theorem n_Codes : ∀ a, a < 6 → ∀ b, b < 6 → a ≠ b → (F_Codes a).2.1 ≠ (F_Codes b).2.1 := by decide +kernel
theorem t_Codes_ok : ∀ k, k < 6 → parseFieldDescriptor (F_Codes k).2.2.1 = some (t_Codes k) := by decide +kernel
def F_Draft : u_T := fun k => match k with
  | 0 => ("PrefixMill$Draft", "row", "LPrefixMill$Row;", true)
  | 1 => ("PrefixMill$Draft", "share", "LPrefixMill$Share;", true)
  | _ => ("PrefixMill$Draft", "order", "I", true)
def t_Draft : Nat → FieldType := fun k => match k with
  | 0 => .object "PrefixMill$Row"
  | 1 => .object "PrefixMill$Share"
  | _ => .int
theorem in_Draft : ∀ w ∈ u_ws "PrefixMill$Draft" F_Draft 3, w ∈ tt := by decide +kernel
theorem n_Draft : ∀ a, a < 3 → ∀ b, b < 3 → a ≠ b → (F_Draft a).2.1 ≠ (F_Draft b).2.1 := by decide +kernel
theorem t_Draft_ok : ∀ k, k < 3 → parseFieldDescriptor (F_Draft k).2.2.1 = some (t_Draft k) := by decide +kernel
def F_Reader : u_T := fun k => match k with
  | 0 => ("PrefixMill$Reader", "tail", "LPrefixMill$Tail;", true)
  | 1 => ("PrefixMill$Reader", "share", "LPrefixMill$Share;", true)
  | 2 => ("PrefixMill$Reader", "weights", "[I", true)
  | 3 => ("PrefixMill$Reader", "lengths", "[I", true)
  | 4 => ("PrefixMill$Reader", "known", "I", false)
  | _ => ("PrefixMill$Reader", "end", "I", false)
def t_Reader : Nat → FieldType := fun k => match k with
  | 0 => .object "PrefixMill$Tail"
  | 1 => .object "PrefixMill$Share"
  | 2 => .array .int
  | 3 => .array .int
  | 4 => .int
  | _ => .int
theorem in_Reader : ∀ w ∈ u_ws "PrefixMill$Reader" F_Reader 6, w ∈ tt := by decide +kernel
theorem n_Reader : ∀ a, a < 6 → ∀ b, b < 6 → a ≠ b → (F_Reader a).2.1 ≠ (F_Reader b).2.1 := by decide +kernel
theorem t_Reader_ok : ∀ k, k < 6 → parseFieldDescriptor (F_Reader k).2.2.1 = some (t_Reader k) := by decide +kernel
def F_Row : u_T := fun k => match k with
  | 0 => ("PrefixMill$Row", "words", "[J", true)
  | 1 => ("PrefixMill$Row", "room", "I", true)
  | 2 => ("PrefixMill$Row", "used", "I", false)
  | 3 => ("PrefixMill$Row", "held", "I", false)
  | _ => ("PrefixMill$Row", "many", "I", false)
def t_Row : Nat → FieldType := fun k => match k with
  | 0 => .array .long
  | 1 => .int
  | 2 => .int
  | 3 => .int
  | _ => .int
theorem in_Row : ∀ w ∈ u_ws "PrefixMill$Row" F_Row 5, w ∈ tt := by decide +kernel
theorem n_Row : ∀ a, a < 5 → ∀ b, b < 5 → a ≠ b → (F_Row a).2.1 ≠ (F_Row b).2.1 := by decide +kernel
theorem t_Row_ok : ∀ k, k < 5 → parseFieldDescriptor (F_Row k).2.2.1 = some (t_Row k) := by decide +kernel
def F_Share : u_T := fun k => match k with
  | 0 => ("PrefixMill$Share", "points", "[I", true)
  | 1 => ("PrefixMill$Share", "cuts", "[I", true)
  | 2 => ("PrefixMill$Share", "queue", "[I", true)
  | 3 => ("PrefixMill$Share", "owners", "[I", true)
  | 4 => ("PrefixMill$Share", "takes", "[I", true)
  | 5 => ("PrefixMill$Share", "bases", "[I", true)
  | 6 => ("PrefixMill$Share", "ranked", "[I", true)
  | 7 => ("PrefixMill$Share", "starts", "[I", true)
  | 8 => ("PrefixMill$Share", "numbers", "[I", true)
  | 9 => ("PrefixMill$Share", "walk", "[I", true)
  | 10 => ("PrefixMill$Share", "order", "I", false)
  | _ => ("PrefixMill$Share", "next", "I", false)
def t_Share : Nat → FieldType := fun k => match k with
  | 0 => .array .int
  | 1 => .array .int
  | 2 => .array .int
  | 3 => .array .int
  | 4 => .array .int
  | 5 => .array .int
  | 6 => .array .int
  | 7 => .array .int
  | 8 => .array .int
  | 9 => .array .int
  | 10 => .int
  | _ => .int
theorem in_Share : ∀ w ∈ u_ws "PrefixMill$Share" F_Share 12, w ∈ tt := by decide +kernel
theorem n_Share : ∀ a, a < 12 → ∀ b, b < 12 → a ≠ b → (F_Share a).2.1 ≠ (F_Share b).2.1 := by decide +kernel
theorem t_Share_ok : ∀ k, k < 12 → parseFieldDescriptor (F_Share k).2.2.1 = some (t_Share k) := by decide +kernel
def F_Streams : u_T := fun k => match k with
  | 0 => ("PrefixMill$Streams", "symbols", "LPrefixMill$Row;", true)
  | _ => ("PrefixMill$Streams", "tail", "LPrefixMill$Tail;", true)
def t_Streams : Nat → FieldType := fun k => match k with
  | 0 => .object "PrefixMill$Row"
  | _ => .object "PrefixMill$Tail"
theorem in_Streams : ∀ w ∈ u_ws "PrefixMill$Streams" F_Streams 2, w ∈ tt := by decide +kernel
theorem n_Streams : ∀ a, a < 2 → ∀ b, b < 2 → a ≠ b → (F_Streams a).2.1 ≠ (F_Streams b).2.1 := by decide +kernel
theorem t_Streams_ok : ∀ k, k < 2 → parseFieldDescriptor (F_Streams k).2.2.1 = some (t_Streams k) := by decide +kernel
def F_Tail : u_T := fun k => match k with
  | 0 => ("PrefixMill$Tail", "first", "I", false)
  | _ => ("PrefixMill$Tail", "left", "I", false)
def t_Tail : Nat → FieldType := fun k => match k with
  | 0 => .int
  | _ => .int
theorem in_Tail : ∀ w ∈ u_ws "PrefixMill$Tail" F_Tail 2, w ∈ tt := by decide +kernel
theorem n_Tail : ∀ a, a < 2 → ∀ b, b < 2 → a ≠ b → (F_Tail a).2.1 ≠ (F_Tail b).2.1 := by decide +kernel
theorem t_Tail_ok : ∀ k, k < 2 → parseFieldDescriptor (F_Tail k).2.2.1 = some (t_Tail k) := by decide +kernel
def F_Tree : u_T := fun k => match k with
  | 0 => ("PrefixMill$Tree", "lengths", "[I", true)
  | 1 => ("PrefixMill$Tree", "halves", "[I", true)
  | 2 => ("PrefixMill$Tree", "leaves", "[I", true)
  | 3 => ("PrefixMill$Tree", "sorted", "[I", true)
  | 4 => ("PrefixMill$Tree", "starts", "[I", true)
  | 5 => ("PrefixMill$Tree", "sums", "[I", true)
  | 6 => ("PrefixMill$Tree", "above", "[I", true)
  | 7 => ("PrefixMill$Tree", "depths", "[I", true)
  | 8 => ("PrefixMill$Tree", "known", "I", false)
  | 9 => ("PrefixMill$Tree", "nextLeaf", "I", false)
  | _ => ("PrefixMill$Tree", "nextSum", "I", false)
def t_Tree : Nat → FieldType := fun k => match k with
  | 0 => .array .int
  | 1 => .array .int
  | 2 => .array .int
  | 3 => .array .int
  | 4 => .array .int
  | 5 => .array .int
  | 6 => .array .int
  | 7 => .array .int
  | 8 => .int
  | 9 => .int
  | _ => .int
theorem in_Tree : ∀ w ∈ u_ws "PrefixMill$Tree" F_Tree 11, w ∈ tt := by decide +kernel
theorem n_Tree : ∀ a, a < 11 → ∀ b, b < 11 → a ≠ b → (F_Tree a).2.1 ≠ (F_Tree b).2.1 := by decide +kernel
theorem t_Tree_ok : ∀ k, k < 11 → parseFieldDescriptor (F_Tree k).2.2.1 = some (t_Tree k) := by decide +kernel
def F_Writer : u_T := fun k => match k with
  | 0 => ("PrefixMill$Writer", "five", "LPrefixMill$Draft;", true)
  | 1 => ("PrefixMill$Writer", "six", "LPrefixMill$Draft;", true)
  | 2 => ("PrefixMill$Writer", "weights", "[I", true)
  | _ => ("PrefixMill$Writer", "counts", "[I", true)
def t_Writer : Nat → FieldType := fun k => match k with
  | 0 => .object "PrefixMill$Draft"
  | 1 => .object "PrefixMill$Draft"
  | 2 => .array .int
  | _ => .array .int
theorem in_Writer : ∀ w ∈ u_ws "PrefixMill$Writer" F_Writer 4, w ∈ tt := by decide +kernel
theorem n_Writer : ∀ a, a < 4 → ∀ b, b < 4 → a ≠ b → (F_Writer a).2.1 ≠ (F_Writer b).2.1 := by decide +kernel
theorem t_Writer_ok : ∀ k, k < 4 → parseFieldDescriptor (F_Writer k).2.2.1 = some (t_Writer k) := by decide +kernel
abbrev classes : List vw_C := [("PrefixMill", F_PM, 9), ("PrefixMillModel", F_MM, 25), ("PrefixMill$Codes", F_Codes, 6), ("PrefixMill$Draft", F_Draft, 3), ("PrefixMill$Reader", F_Reader, 6), ("PrefixMill$Row", F_Row, 5), ("PrefixMill$Share", F_Share, 12), ("PrefixMill$Streams", F_Streams, 2), ("PrefixMill$Tail", F_Tail, 2), ("PrefixMill$Tree", F_Tree, 11), ("PrefixMill$Writer", F_Writer, 4)]
set_option maxRecDepth 20000 in
theorem m_0 : (Jvm.Cond.selects "PrefixMill$Tree" ({ cls := "PrefixMill$Tree", name := "sortLeaves", desc := "()V" } : Jvm.MethodName) ({ cls := "PrefixMill$Tree", name := "sortLeaves", desc := "()V" } : Jvm.MethodName)) ∈ tt := tt_c0 _ (List.mem_of_getElem? (i := 0) (by rfl))
set_option maxRecDepth 20000 in
theorem m_1 : (Jvm.Cond.selects "PrefixMill$Tree" ({ cls := "PrefixMill$Tree", name := "sortByByte", desc := "([I[II)V" } : Jvm.MethodName) ({ cls := "PrefixMill$Tree", name := "sortByByte", desc := "([I[II)V" } : Jvm.MethodName)) ∈ tt := tt_c0 _ (List.mem_of_getElem? (i := 1) (by rfl))
set_option maxRecDepth 20000 in
theorem m_2 : (Jvm.Cond.selects "PrefixMill$Tree" ({ cls := "PrefixMill$Tree", name := "join", desc := "()V" } : Jvm.MethodName) ({ cls := "PrefixMill$Tree", name := "join", desc := "()V" } : Jvm.MethodName)) ∈ tt := tt_c0 _ (List.mem_of_getElem? (i := 2) (by rfl))
set_option maxRecDepth 20000 in
theorem m_3 : (Jvm.Cond.selects "PrefixMill$Tree" ({ cls := "PrefixMill$Tree", name := "least", desc := "(I)I" } : Jvm.MethodName) ({ cls := "PrefixMill$Tree", name := "least", desc := "(I)I" } : Jvm.MethodName)) ∈ tt := tt_c0 _ (List.mem_of_getElem? (i := 3) (by rfl))
set_option maxRecDepth 20000 in
theorem m_4 : (Jvm.Cond.selects "PrefixMill$Tree" ({ cls := "PrefixMill$Tree", name := "measure", desc := "()I" } : Jvm.MethodName) ({ cls := "PrefixMill$Tree", name := "measure", desc := "()I" } : Jvm.MethodName)) ∈ tt := tt_c0 _ (List.mem_of_getElem? (i := 4) (by rfl))
set_option maxRecDepth 20000 in
theorem m_5 : (Jvm.Cond.selects "PrefixMill$Tree" ({ cls := "PrefixMill$Tree", name := "halve", desc := "()V" } : Jvm.MethodName) ({ cls := "PrefixMill$Tree", name := "halve", desc := "()V" } : Jvm.MethodName)) ∈ tt := tt_c0 _ (List.mem_of_getElem? (i := 5) (by rfl))
set_option maxRecDepth 20000 in
theorem m_6 : (Jvm.Cond.selects "PrefixMill$Codes" ({ cls := "PrefixMill$Codes", name := "fillCells", desc := "()V" } : Jvm.MethodName) ({ cls := "PrefixMill$Codes", name := "fillCells", desc := "()V" } : Jvm.MethodName)) ∈ tt := tt_c0 _ (List.mem_of_getElem? (i := 6) (by rfl))
set_option maxRecDepth 20000 in
theorem m_7 : (Jvm.Cond.selects "PrefixMill$Codes" ({ cls := "PrefixMill$Codes", name := "giveCells", desc := "(III)I" } : Jvm.MethodName) ({ cls := "PrefixMill$Codes", name := "giveCells", desc := "(III)I" } : Jvm.MethodName)) ∈ tt := tt_c0 _ (List.mem_of_getElem? (i := 7) (by rfl))
set_option maxRecDepth 20000 in
theorem m_8 : (Jvm.Cond.selects "PrefixMill$Writer" ({ cls := "PrefixMill$Writer", name := "takeWeights", desc := "(LPrefixMill$Codes;I)V" } : Jvm.MethodName) ({ cls := "PrefixMill$Writer", name := "takeWeights", desc := "(LPrefixMill$Codes;I)V" } : Jvm.MethodName)) ∈ tt := tt_c0 _ (List.mem_of_getElem? (i := 8) (by rfl))
set_option maxRecDepth 20000 in
theorem m_9 : (Jvm.Cond.selects "PrefixMill$Share" ({ cls := "PrefixMill$Share", name := "lacking", desc := "()I" } : Jvm.MethodName) ({ cls := "PrefixMill$Share", name := "lacking", desc := "()I" } : Jvm.MethodName)) ∈ tt := tt_c0 _ (List.mem_of_getElem? (i := 9) (by rfl))
set_option maxRecDepth 20000 in
theorem m_10 : (Jvm.Cond.selects "PrefixMill$Share" ({ cls := "PrefixMill$Share", name := "massOf", desc := "(I)I" } : Jvm.MethodName) ({ cls := "PrefixMill$Share", name := "massOf", desc := "(I)I" } : Jvm.MethodName)) ∈ tt := tt_c0 _ (List.mem_of_getElem? (i := 10) (by rfl))
set_option maxRecDepth 20000 in
theorem m_11 : (Jvm.Cond.selects "PrefixMill$Share" ({ cls := "PrefixMill$Share", name := "give", desc := "(I)V" } : Jvm.MethodName) ({ cls := "PrefixMill$Share", name := "give", desc := "(I)V" } : Jvm.MethodName)) ∈ tt := tt_c0 _ (List.mem_of_getElem? (i := 11) (by rfl))
set_option maxRecDepth 20000 in
theorem m_12 : (Jvm.Cond.selects "PrefixMill$Share" ({ cls := "PrefixMill$Share", name := "queueByCuts", desc := "()I" } : Jvm.MethodName) ({ cls := "PrefixMill$Share", name := "queueByCuts", desc := "()I" } : Jvm.MethodName)) ∈ tt := tt_c0 _ (List.mem_of_getElem? (i := 12) (by rfl))
set_option maxRecDepth 20000 in
theorem m_13 : (Jvm.Cond.selects "PrefixMill$Share" ({ cls := "PrefixMill$Share", name := "takeAway", desc := "(I)V" } : Jvm.MethodName) ({ cls := "PrefixMill$Share", name := "takeAway", desc := "(I)V" } : Jvm.MethodName)) ∈ tt := tt_c0 _ (List.mem_of_getElem? (i := 13) (by rfl))
set_option maxRecDepth 20000 in
theorem m_14 : (Jvm.Cond.selects "PrefixMill$Share" ({ cls := "PrefixMill$Share", name := "layOut", desc := "()V" } : Jvm.MethodName) ({ cls := "PrefixMill$Share", name := "layOut", desc := "()V" } : Jvm.MethodName)) ∈ tt := tt_c0 _ (List.mem_of_getElem? (i := 14) (by rfl))
set_option maxRecDepth 20000 in
theorem m_15 : (Jvm.Cond.selects "PrefixMill$Share" ({ cls := "PrefixMill$Share", name := "giveHighest", desc := "()I" } : Jvm.MethodName) ({ cls := "PrefixMill$Share", name := "giveHighest", desc := "()I" } : Jvm.MethodName)) ∈ tt := tt_c0 _ (List.mem_of_getElem? (i := 15) (by rfl))
set_option maxRecDepth 20000 in
theorem m_16 : (Jvm.Cond.selects "PrefixMill$Share" ({ cls := "PrefixMill$Share", name := "giveByWalk", desc := "(I)V" } : Jvm.MethodName) ({ cls := "PrefixMill$Share", name := "giveByWalk", desc := "(I)V" } : Jvm.MethodName)) ∈ tt := tt_c0 _ (List.mem_of_getElem? (i := 16) (by rfl))
set_option maxRecDepth 20000 in
theorem m_17 : (Jvm.Cond.selects "PrefixMill$Share" ({ cls := "PrefixMill$Share", name := "rank", desc := "()V" } : Jvm.MethodName) ({ cls := "PrefixMill$Share", name := "rank", desc := "()V" } : Jvm.MethodName)) ∈ tt := tt_c0 _ (List.mem_of_getElem? (i := 17) (by rfl))
set_option maxRecDepth 20000 in
theorem m_18 : (Jvm.Cond.selects "PrefixMill$Share" ({ cls := "PrefixMill$Share", name := "putNone", desc := "(LPrefixMill$Row;I)I" } : Jvm.MethodName) ({ cls := "PrefixMill$Share", name := "putNone", desc := "(LPrefixMill$Row;I)I" } : Jvm.MethodName)) ∈ tt := tt_c0 _ (List.mem_of_getElem? (i := 18) (by rfl))
set_option maxRecDepth 20000 in
theorem m_19 : (Jvm.Cond.selects "PrefixMill$Writer" ({ cls := "PrefixMill$Writer", name := "putDirect", desc := "(LPrefixMill$Row;I)V" } : Jvm.MethodName) ({ cls := "PrefixMill$Writer", name := "putDirect", desc := "(LPrefixMill$Row;I)V" } : Jvm.MethodName)) ∈ tt := tt_c0 _ (List.mem_of_getElem? (i := 19) (by rfl))
set_option maxRecDepth 20000 in
theorem m_20 : (Jvm.Cond.selects "PrefixMill$Reader" ({ cls := "PrefixMill$Reader", name := "takeDirect", desc := "(LPrefixMill$Row;II)V" } : Jvm.MethodName) ({ cls := "PrefixMill$Reader", name := "takeDirect", desc := "(LPrefixMill$Row;II)V" } : Jvm.MethodName)) ∈ tt := tt_c0 _ (List.mem_of_getElem? (i := 20) (by rfl))
set_option maxRecDepth 20000 in
theorem m_21 : (Jvm.Cond.selects "PrefixMill$Share" ({ cls := "PrefixMill$Share", name := "takeBits", desc := "(LPrefixMill$Row;I)I" } : Jvm.MethodName) ({ cls := "PrefixMill$Share", name := "takeBits", desc := "(LPrefixMill$Row;I)I" } : Jvm.MethodName)) ∈ tt := tt_c0 _ (List.mem_of_getElem? (i := 21) (by rfl))
set_option maxRecDepth 20000 in
theorem m_22 : (Jvm.Cond.selects "PrefixMill$Share" ({ cls := "PrefixMill$Share", name := "takePoints", desc := "(LPrefixMill$Row;I)I" } : Jvm.MethodName) ({ cls := "PrefixMill$Share", name := "takePoints", desc := "(LPrefixMill$Row;I)I" } : Jvm.MethodName)) ∈ tt := tt_c0 _ (List.mem_of_getElem? (i := 22) (by rfl))
set_option maxRecDepth 20000 in
theorem m_23 : (Jvm.Cond.selects "PrefixMill$Share" ({ cls := "PrefixMill$Share", name := "takeNone", desc := "(LPrefixMill$Row;I)I" } : Jvm.MethodName) ({ cls := "PrefixMill$Share", name := "takeNone", desc := "(LPrefixMill$Row;I)I" } : Jvm.MethodName)) ∈ tt := tt_c0 _ (List.mem_of_getElem? (i := 23) (by rfl))
set_option maxRecDepth 20000 in
theorem m_24 : (Jvm.Cond.selects "PrefixMill$Reader" ({ cls := "PrefixMill$Reader", name := "takeRow", desc := "(LPrefixMill$Row;I)Z" } : Jvm.MethodName) ({ cls := "PrefixMill$Reader", name := "takeRow", desc := "(LPrefixMill$Row;I)Z" } : Jvm.MethodName)) ∈ tt := tt_c0 _ (List.mem_of_getElem? (i := 24) (by rfl))
set_option maxRecDepth 20000 in
theorem m_25 : (Jvm.Cond.selects "PrefixMill$Reader" ({ cls := "PrefixMill$Reader", name := "takeLengths", desc := "()Z" } : Jvm.MethodName) ({ cls := "PrefixMill$Reader", name := "takeLengths", desc := "()Z" } : Jvm.MethodName)) ∈ tt := tt_c0 _ (List.mem_of_getElem? (i := 25) (by rfl))
set_option maxRecDepth 20000 in
theorem m_26 : (Jvm.Cond.selects "PrefixMill$Streams" ({ cls := "PrefixMill$Streams", name := "takeStream", desc := "(LPrefixMill$Codes;LPrefixMill$Row;III)I" } : Jvm.MethodName) ({ cls := "PrefixMill$Streams", name := "takeStream", desc := "(LPrefixMill$Codes;LPrefixMill$Row;III)I" } : Jvm.MethodName)) ∈ tt := tt_c0 _ (List.mem_of_getElem? (i := 26) (by rfl))
set_option maxRecDepth 20000 in
theorem m_27 : (Jvm.Cond.selects "PrefixMillModel" ({ cls := "PrefixMillModel", name := "sums", desc := "()V" } : Jvm.MethodName) ({ cls := "PrefixMillModel", name := "sums", desc := "()V" } : Jvm.MethodName)) ∈ tt := tt_c0 _ (List.mem_of_getElem? (i := 27) (by rfl))
set_option maxRecDepth 20000 in
theorem m_28 : (Jvm.Cond.selects "PrefixMillModel" ({ cls := "PrefixMillModel", name := "least", desc := "(I)I" } : Jvm.MethodName) ({ cls := "PrefixMillModel", name := "least", desc := "(I)I" } : Jvm.MethodName)) ∈ tt := tt_c0 _ (List.mem_of_getElem? (i := 28) (by rfl))
set_option maxRecDepth 20000 in
theorem m_29 : (Jvm.Cond.selects "PrefixMillModel" ({ cls := "PrefixMillModel", name := "longestDraft", desc := "()I" } : Jvm.MethodName) ({ cls := "PrefixMillModel", name := "longestDraft", desc := "()I" } : Jvm.MethodName)) ∈ tt := tt_c0 _ (List.mem_of_getElem? (i := 29) (by rfl))
set_option maxRecDepth 20000 in
theorem m_30 : (Jvm.Cond.selects "PrefixMillModel" ({ cls := "PrefixMillModel", name := "settle", desc := "(I)I" } : Jvm.MethodName) ({ cls := "PrefixMillModel", name := "settle", desc := "(I)I" } : Jvm.MethodName)) ∈ tt := tt_c0 _ (List.mem_of_getElem? (i := 30) (by rfl))
set_option maxRecDepth 20000 in
theorem m_31 : (Jvm.Cond.selects "PrefixMillModel" ({ cls := "PrefixMillModel", name := "weightOf", desc := "(I)I" } : Jvm.MethodName) ({ cls := "PrefixMillModel", name := "weightOf", desc := "(I)I" } : Jvm.MethodName)) ∈ tt := tt_c0 _ (List.mem_of_getElem? (i := 31) (by rfl))
set_option maxRecDepth 20000 in
theorem m_32 : (Jvm.Cond.selects "PrefixMillModel" ({ cls := "PrefixMillModel", name := "codeOf", desc := "(I)I" } : Jvm.MethodName) ({ cls := "PrefixMillModel", name := "codeOf", desc := "(I)I" } : Jvm.MethodName)) ∈ tt := tt_c0 _ (List.mem_of_getElem? (i := 32) (by rfl))
set_option maxRecDepth 20000 in
theorem m_33 : (Jvm.Cond.selects "PrefixMillModel" ({ cls := "PrefixMillModel", name := "streamBytes", desc := "(II)I" } : Jvm.MethodName) ({ cls := "PrefixMillModel", name := "streamBytes", desc := "(II)I" } : Jvm.MethodName)) ∈ tt := tt_c0 _ (List.mem_of_getElem? (i := 33) (by rfl))
set_option maxRecDepth 20000 in
theorem m_34 : (Jvm.Cond.selects "PrefixMillModel" ({ cls := "PrefixMillModel", name := "begin", desc := "()V" } : Jvm.MethodName) ({ cls := "PrefixMillModel", name := "begin", desc := "()V" } : Jvm.MethodName)) ∈ tt := tt_c0 _ (List.mem_of_getElem? (i := 34) (by rfl))
set_option maxRecDepth 20000 in
theorem m_35 : (Jvm.Cond.selects "PrefixMillModel" ({ cls := "PrefixMillModel", name := "put", desc := "(II)V" } : Jvm.MethodName) ({ cls := "PrefixMillModel", name := "put", desc := "(II)V" } : Jvm.MethodName)) ∈ tt := tt_c0 _ (List.mem_of_getElem? (i := 35) (by rfl))
set_option maxRecDepth 20000 in
theorem m_36 : (Jvm.Cond.selects "PrefixMillModel" ({ cls := "PrefixMillModel", name := "putStream", desc := "(II)V" } : Jvm.MethodName) ({ cls := "PrefixMillModel", name := "putStream", desc := "(II)V" } : Jvm.MethodName)) ∈ tt := tt_c0 _ (List.mem_of_getElem? (i := 36) (by rfl))
set_option maxRecDepth 20000 in
theorem m_37 : (Jvm.Cond.selects "PrefixMillModel" ({ cls := "PrefixMillModel", name := "fill", desc := "()V" } : Jvm.MethodName) ({ cls := "PrefixMillModel", name := "fill", desc := "()V" } : Jvm.MethodName)) ∈ tt := tt_c0 _ (List.mem_of_getElem? (i := 37) (by rfl))
set_option maxRecDepth 20000 in
theorem m_38 : (Jvm.Cond.selects "PrefixMillModel" ({ cls := "PrefixMillModel", name := "give", desc := "()I" } : Jvm.MethodName) ({ cls := "PrefixMillModel", name := "give", desc := "()I" } : Jvm.MethodName)) ∈ tt := tt_c0 _ (List.mem_of_getElem? (i := 38) (by rfl))
set_option maxRecDepth 20000 in
theorem m_39 : (Jvm.Cond.selects "PrefixMillModel" ({ cls := "PrefixMillModel", name := "takeFour", desc := "(II)I" } : Jvm.MethodName) ({ cls := "PrefixMillModel", name := "takeFour", desc := "(II)I" } : Jvm.MethodName)) ∈ tt := tt_c0 _ (List.mem_of_getElem? (i := 39) (by rfl))
set_option maxRecDepth 20000 in
theorem m_40 : (Jvm.Cond.selects "PrefixMillModel" ({ cls := "PrefixMillModel", name := "takeStream", desc := "(IIII)I" } : Jvm.MethodName) ({ cls := "PrefixMillModel", name := "takeStream", desc := "(IIII)I" } : Jvm.MethodName)) ∈ tt := tt_c0 _ (List.mem_of_getElem? (i := 40) (by rfl))
set_option maxRecDepth 20000 in
theorem m_41 : (Jvm.Cond.selects "PrefixMillModel" ({ cls := "PrefixMillModel", name := "bitAt", desc := "(I)I" } : Jvm.MethodName) ({ cls := "PrefixMillModel", name := "bitAt", desc := "(I)I" } : Jvm.MethodName)) ∈ tt := tt_c0 _ (List.mem_of_getElem? (i := 41) (by rfl))
set_option maxRecDepth 20000 in
theorem m_42 : (Jvm.Cond.selects "PrefixMillModel" ({ cls := "PrefixMillModel", name := "different", desc := "()I" } : Jvm.MethodName) ({ cls := "PrefixMillModel", name := "different", desc := "()I" } : Jvm.MethodName)) ∈ tt := tt_c0 _ (List.mem_of_getElem? (i := 42) (by rfl))
set_option maxRecDepth 20000 in
theorem m_43 : (Jvm.Cond.selects "PrefixMillModel" ({ cls := "PrefixMillModel", name := "countOf", desc := "(I)I" } : Jvm.MethodName) ({ cls := "PrefixMillModel", name := "countOf", desc := "(I)I" } : Jvm.MethodName)) ∈ tt := tt_c0 _ (List.mem_of_getElem? (i := 43) (by rfl))
set_option maxRecDepth 20000 in
theorem m_44 : (Jvm.Cond.selects "PrefixMillModel" ({ cls := "PrefixMillModel", name := "putStates", desc := "(I)I" } : Jvm.MethodName) ({ cls := "PrefixMillModel", name := "putStates", desc := "(I)I" } : Jvm.MethodName)) ∈ tt := tt_c0 _ (List.mem_of_getElem? (i := 44) (by rfl))
set_option maxRecDepth 20000 in
theorem m_45 : (Jvm.Cond.selects "PrefixMillModel" ({ cls := "PrefixMillModel", name := "shareByCounts", desc := "(I)V" } : Jvm.MethodName) ({ cls := "PrefixMillModel", name := "shareByCounts", desc := "(I)V" } : Jvm.MethodName)) ∈ tt := tt_c0 _ (List.mem_of_getElem? (i := 45) (by rfl))
set_option maxRecDepth 20000 in
theorem m_46 : (Jvm.Cond.selects "PrefixMillModel" ({ cls := "PrefixMillModel", name := "newRound", desc := "()V" } : Jvm.MethodName) ({ cls := "PrefixMillModel", name := "newRound", desc := "()V" } : Jvm.MethodName)) ∈ tt := tt_c0 _ (List.mem_of_getElem? (i := 46) (by rfl))
set_option maxRecDepth 20000 in
theorem m_47 : (Jvm.Cond.selects "PrefixMillModel" ({ cls := "PrefixMillModel", name := "lacking", desc := "()I" } : Jvm.MethodName) ({ cls := "PrefixMillModel", name := "lacking", desc := "()I" } : Jvm.MethodName)) ∈ tt := tt_c0 _ (List.mem_of_getElem? (i := 47) (by rfl))
set_option maxRecDepth 20000 in
theorem m_48 : (Jvm.Cond.selects "PrefixMillModel" ({ cls := "PrefixMillModel", name := "nextToGet", desc := "()I" } : Jvm.MethodName) ({ cls := "PrefixMillModel", name := "nextToGet", desc := "()I" } : Jvm.MethodName)) ∈ tt := tt_c0 _ (List.mem_of_getElem? (i := 48) (by rfl))
set_option maxRecDepth 20000 in
theorem m_49 : (Jvm.Cond.selects "PrefixMillModel" ({ cls := "PrefixMillModel", name := "givePlaces", desc := "()V" } : Jvm.MethodName) ({ cls := "PrefixMillModel", name := "givePlaces", desc := "()V" } : Jvm.MethodName)) ∈ tt := tt_c0 _ (List.mem_of_getElem? (i := 49) (by rfl))
set_option maxRecDepth 20000 in
theorem m_50 : (Jvm.Cond.selects "PrefixMillModel" ({ cls := "PrefixMillModel", name := "putShare", desc := "()V" } : Jvm.MethodName) ({ cls := "PrefixMillModel", name := "putShare", desc := "()V" } : Jvm.MethodName)) ∈ tt := tt_c0 _ (List.mem_of_getElem? (i := 50) (by rfl))
set_option maxRecDepth 20000 in
theorem m_51 : (Jvm.Cond.selects "PrefixMillModel" ({ cls := "PrefixMillModel", name := "putRow", desc := "()V" } : Jvm.MethodName) ({ cls := "PrefixMillModel", name := "putRow", desc := "()V" } : Jvm.MethodName)) ∈ tt := tt_c0 _ (List.mem_of_getElem? (i := 51) (by rfl))
set_option maxRecDepth 20000 in
theorem m_52 : (Jvm.Cond.selects "PrefixMillModel" ({ cls := "PrefixMillModel", name := "lowest", desc := "(I)I" } : Jvm.MethodName) ({ cls := "PrefixMillModel", name := "lowest", desc := "(I)I" } : Jvm.MethodName)) ∈ tt := tt_c0 _ (List.mem_of_getElem? (i := 52) (by rfl))
set_option maxRecDepth 20000 in
theorem m_53 : (Jvm.Cond.selects "PrefixMillModel" ({ cls := "PrefixMillModel", name := "bitsOf", desc := "(I)I" } : Jvm.MethodName) ({ cls := "PrefixMillModel", name := "bitsOf", desc := "(I)I" } : Jvm.MethodName)) ∈ tt := tt_c0 _ (List.mem_of_getElem? (i := 53) (by rfl))
set_option maxRecDepth 20000 in
theorem m_54 : (Jvm.Cond.selects "PrefixMillModel" ({ cls := "PrefixMillModel", name := "numberOf", desc := "(I)I" } : Jvm.MethodName) ({ cls := "PrefixMillModel", name := "numberOf", desc := "(I)I" } : Jvm.MethodName)) ∈ tt := tt_c0 _ (List.mem_of_getElem? (i := 54) (by rfl))
set_option maxRecDepth 20000 in
theorem m_55 : (Jvm.Cond.selects "PrefixMillModel" ({ cls := "PrefixMillModel", name := "placeFor", desc := "(II)I" } : Jvm.MethodName) ({ cls := "PrefixMillModel", name := "placeFor", desc := "(II)I" } : Jvm.MethodName)) ∈ tt := tt_c0 _ (List.mem_of_getElem? (i := 55) (by rfl))
set_option maxRecDepth 20000 in
theorem m_56 : (Jvm.Cond.selects "PrefixMillModel" ({ cls := "PrefixMillModel", name := "baseOf", desc := "(I)I" } : Jvm.MethodName) ({ cls := "PrefixMillModel", name := "baseOf", desc := "(I)I" } : Jvm.MethodName)) ∈ tt := tt_c0 _ (List.mem_of_getElem? (i := 56) (by rfl))
set_option maxRecDepth 20000 in
theorem m_57 : (Jvm.Cond.selects "PrefixMillModel" ({ cls := "PrefixMillModel", name := "putDirect", desc := "()V" } : Jvm.MethodName) ({ cls := "PrefixMillModel", name := "putDirect", desc := "()V" } : Jvm.MethodName)) ∈ tt := tt_c0 _ (List.mem_of_getElem? (i := 57) (by rfl))
set_option maxRecDepth 20000 in
theorem m_58 : (Jvm.Cond.selects "PrefixMillModel" ({ cls := "PrefixMillModel", name := "takeWeights", desc := "()I" } : Jvm.MethodName) ({ cls := "PrefixMillModel", name := "takeWeights", desc := "()I" } : Jvm.MethodName)) ∈ tt := tt_c0 _ (List.mem_of_getElem? (i := 58) (by rfl))
set_option maxRecDepth 20000 in
theorem m_59 : (Jvm.Cond.selects "PrefixMillModel" ({ cls := "PrefixMillModel", name := "putWeight", desc := "(I)Z" } : Jvm.MethodName) ({ cls := "PrefixMillModel", name := "putWeight", desc := "(I)Z" } : Jvm.MethodName)) ∈ tt := tt_c0 _ (List.mem_of_getElem? (i := 59) (by rfl))
set_option maxRecDepth 20000 in
theorem m_60 : (Jvm.Cond.selects "PrefixMillModel" ({ cls := "PrefixMillModel", name := "takeShare", desc := "()Z" } : Jvm.MethodName) ({ cls := "PrefixMillModel", name := "takeShare", desc := "()Z" } : Jvm.MethodName)) ∈ tt := tt_c0 _ (List.mem_of_getElem? (i := 60) (by rfl))
set_option maxRecDepth 20000 in
theorem m_61 : (Jvm.Cond.selects "PrefixMillModel" ({ cls := "PrefixMillModel", name := "take", desc := "(I)I" } : Jvm.MethodName) ({ cls := "PrefixMillModel", name := "take", desc := "(I)I" } : Jvm.MethodName)) ∈ tt := tt_c0 _ (List.mem_of_getElem? (i := 61) (by rfl))
set_option maxRecDepth 20000 in
theorem m_62 : (Jvm.Cond.selects "PrefixMillModel" ({ cls := "PrefixMillModel", name := "takeNumber", desc := "(I)I" } : Jvm.MethodName) ({ cls := "PrefixMillModel", name := "takeNumber", desc := "(I)I" } : Jvm.MethodName)) ∈ tt := tt_c0 _ (List.mem_of_getElem? (i := 62) (by rfl))
set_option maxRecDepth 20000 in
theorem m_63 : (Jvm.Cond.selects "PrefixMillModel" ({ cls := "PrefixMillModel", name := "takeRow", desc := "()Z" } : Jvm.MethodName) ({ cls := "PrefixMillModel", name := "takeRow", desc := "()Z" } : Jvm.MethodName)) ∈ tt := tt_c0 _ (List.mem_of_getElem? (i := 63) (by rfl))
set_option maxRecDepth 20000 in
theorem m_64 : (Jvm.Cond.selects "PrefixMillModel" ({ cls := "PrefixMillModel", name := "takeDown", desc := "(I)I" } : Jvm.MethodName) ({ cls := "PrefixMillModel", name := "takeDown", desc := "(I)I" } : Jvm.MethodName)) ∈ tt := tt_c0 _ (List.mem_of_getElem? (i := 64) (by rfl))
set_option maxRecDepth 20000 in
theorem m_66 : (Jvm.Cond.initialized "PrefixMill") ∈ tt := tt_c0 _ (List.mem_of_getElem? (i := 65) (by rfl))
set_option maxRecDepth 20000 in
theorem m_67 : (Jvm.Cond.initialized "PrefixMill$Row") ∈ tt := tt_c0 _ (List.mem_of_getElem? (i := 66) (by rfl))
set_option maxRecDepth 20000 in
theorem m_68 : (Jvm.Cond.initialized "PrefixMill$Codes") ∈ tt := tt_c0 _ (List.mem_of_getElem? (i := 67) (by rfl))
set_option maxRecDepth 20000 in
theorem m_69 : (Jvm.Cond.initialized "PrefixMill$Tree") ∈ tt := tt_c0 _ (List.mem_of_getElem? (i := 68) (by rfl))
set_option maxRecDepth 20000 in
theorem m_70 : (Jvm.Cond.initialized "PrefixMill$Writer") ∈ tt := tt_c0 _ (List.mem_of_getElem? (i := 69) (by rfl))
set_option maxRecDepth 20000 in
theorem m_71 : (Jvm.Cond.initialized "PrefixMill$Draft") ∈ tt := tt_c0 _ (List.mem_of_getElem? (i := 70) (by rfl))
set_option maxRecDepth 20000 in
theorem m_72 : (Jvm.Cond.initialized "PrefixMill$Share") ∈ tt := tt_c0 _ (List.mem_of_getElem? (i := 71) (by rfl))
set_option maxRecDepth 20000 in
theorem m_73 : (Jvm.Cond.initialized "PrefixMill$Reader") ∈ tt := tt_c0 _ (List.mem_of_getElem? (i := 72) (by rfl))
set_option maxRecDepth 20000 in
theorem m_74 : (Jvm.Cond.initialized "PrefixMill$Tail") ∈ tt := tt_c0 _ (List.mem_of_getElem? (i := 73) (by rfl))
set_option maxRecDepth 20000 in
theorem m_75 : (Jvm.Cond.initialized "PrefixMill$Streams") ∈ tt := tt_c0 _ (List.mem_of_getElem? (i := 74) (by rfl))
set_option maxRecDepth 20000 in
theorem m_76 : (Jvm.Cond.initialized "PrefixMillModel") ∈ tt := tt_c0 _ (List.mem_of_getElem? (i := 75) (by rfl))
set_option maxRecDepth 20000 in
theorem m_77 : (Jvm.Cond.initialized "java/lang/Math") ∈ tt := tt_c0 _ (List.mem_of_getElem? (i := 76) (by rfl))
set_option maxRecDepth 20000 in
theorem m_78 : (Jvm.Cond.initialized "java/lang/System") ∈ tt := tt_c0 _ (List.mem_of_getElem? (i := 77) (by rfl))
set_option maxRecDepth 20000 in
theorem m_79 : (Jvm.Cond.initialized "java/util/Arrays") ∈ tt := tt_c0 _ (List.mem_of_getElem? (i := 78) (by rfl))
set_option maxRecDepth 20000 in
theorem m_80 : (Jvm.Cond.classLink "PrefixMillLaw" (7 : Nat) "PrefixMill") ∈ tt := tt_c0 _ (List.mem_of_getElem? (i := 79) (by rfl))
set_option maxRecDepth 20000 in
theorem m_81 : (Jvm.Cond.instantiable "PrefixMill" (9 : Nat)) ∈ tt := tt_c0 _ (List.mem_of_getElem? (i := 80) (by rfl))
set_option maxRecDepth 20000 in
theorem m_82 : (Jvm.Cond.methodLink "PrefixMillLaw" (9 : Nat) ({ cls := "PrefixMill", name := "<init>", desc := "()V" } : Jvm.MethodName)) ∈ tt := tt_c0 _ (List.mem_of_getElem? (i := 81) (by rfl))
set_option maxRecDepth 20000 in
theorem m_83 : (Jvm.Cond.instanceMethod ({ cls := "PrefixMill", name := "<init>", desc := "()V" } : Jvm.MethodName)) ∈ tt := tt_c0 _ (List.mem_of_getElem? (i := 82) (by rfl))
set_option maxRecDepth 20000 in
theorem m_84 : (Jvm.Cond.code ({ cls := "PrefixMill", name := "<init>", desc := "()V" } : Jvm.MethodName) prog_1_method_1_code (1 : Nat) (Option.none : Option Jvm.ClassFile.FieldType)) ∈ tt := tt_c0 _ (List.mem_of_getElem? (i := 83) (by rfl))
set_option maxRecDepth 20000 in
theorem m_85 : (Jvm.Cond.methodLink "PrefixMill" (3 : Nat) ({ cls := "java/lang/Object", name := "<init>", desc := "()V" } : Jvm.MethodName)) ∈ tt := tt_c0 _ (List.mem_of_getElem? (i := 84) (by rfl))
set_option maxRecDepth 20000 in
theorem m_86 : (Jvm.Cond.instanceMethod ({ cls := "java/lang/Object", name := "<init>", desc := "()V" } : Jvm.MethodName)) ∈ tt := tt_c0 _ (List.mem_of_getElem? (i := 85) (by rfl))
set_option maxRecDepth 20000 in
theorem m_87 : (Jvm.Cond.code ({ cls := "java/lang/Object", name := "<init>", desc := "()V" } : Jvm.MethodName) object_method_1_code (1 : Nat) (Option.none : Option Jvm.ClassFile.FieldType)) ∈ tt := tt_c0 _ (List.mem_of_getElem? (i := 86) (by rfl))
set_option maxRecDepth 20000 in
theorem m_88 : (Jvm.Cond.classLink "PrefixMill" (9 : Nat) "PrefixMill$Row") ∈ tt := tt_c0 _ (List.mem_of_getElem? (i := 87) (by rfl))
set_option maxRecDepth 20000 in
theorem m_89 : (Jvm.Cond.instantiable "PrefixMill$Row" (5 : Nat)) ∈ tt := tt_c0 _ (List.mem_of_getElem? (i := 88) (by rfl))
set_option maxRecDepth 20000 in
theorem m_90 : (Jvm.Cond.methodLink "PrefixMill" (11 : Nat) ({ cls := "PrefixMill$Row", name := "<init>", desc := "(I)V" } : Jvm.MethodName)) ∈ tt := tt_c0 _ (List.mem_of_getElem? (i := 89) (by rfl))
set_option maxRecDepth 20000 in
theorem m_91 : (Jvm.Cond.instanceMethod ({ cls := "PrefixMill$Row", name := "<init>", desc := "(I)V" } : Jvm.MethodName)) ∈ tt := tt_c0 _ (List.mem_of_getElem? (i := 90) (by rfl))
set_option maxRecDepth 20000 in
theorem m_92 : (Jvm.Cond.code ({ cls := "PrefixMill$Row", name := "<init>", desc := "(I)V" } : Jvm.MethodName) prog_5_method_1_code (2 : Nat) (Option.none : Option Jvm.ClassFile.FieldType)) ∈ tt := tt_c0 _ (List.mem_of_getElem? (i := 91) (by rfl))
set_option maxRecDepth 20000 in
theorem m_93 : (Jvm.Cond.methodLink "PrefixMill$Row" (1 : Nat) ({ cls := "java/lang/Object", name := "<init>", desc := "()V" } : Jvm.MethodName)) ∈ tt := tt_c0 _ (List.mem_of_getElem? (i := 92) (by rfl))
set_option maxRecDepth 20000 in
theorem m_94 : (Jvm.Cond.fieldLink "PrefixMill$Row" (13 : Nat) "PrefixMill$Row" "words" "[J") ∈ tt := tt_c0 _ (List.mem_of_getElem? (i := 93) (by rfl))
set_option maxRecDepth 20000 in
theorem m_95 : (Jvm.Cond.fieldLink "PrefixMill$Row" (7 : Nat) "PrefixMill$Row" "room" "I") ∈ tt := tt_c0 _ (List.mem_of_getElem? (i := 94) (by rfl))
set_option maxRecDepth 20000 in
theorem m_96 : (Jvm.Cond.fieldLink "PrefixMill$Row" (17 : Nat) "PrefixMill$Row" "used" "I") ∈ tt := tt_c0 _ (List.mem_of_getElem? (i := 95) (by rfl))
set_option maxRecDepth 20000 in
theorem m_97 : (Jvm.Cond.fieldLinkNest "PrefixMill" (64 : Nat) "PrefixMill$Row" "used" "I" "PrefixMill") ∈ tt := tt_c0 _ (List.mem_of_getElem? (i := 96) (by rfl))
set_option maxRecDepth 20000 in
theorem m_98 : (Jvm.Cond.fieldLinkNest "PrefixMill$Reader" (42 : Nat) "PrefixMill$Row" "used" "I" "PrefixMill") ∈ tt := tt_c0 _ (List.mem_of_getElem? (i := 97) (by rfl))
set_option maxRecDepth 20000 in
theorem m_99 : (Jvm.Cond.fieldLinkNest "PrefixMill$Writer" (48 : Nat) "PrefixMill$Row" "used" "I" "PrefixMill") ∈ tt := tt_c0 _ (List.mem_of_getElem? (i := 98) (by rfl))
set_option maxRecDepth 20000 in
theorem m_100 : (Jvm.Cond.fieldLinkNest "PrefixMill$Streams" (44 : Nat) "PrefixMill$Row" "used" "I" "PrefixMill") ∈ tt := tt_c0 _ (List.mem_of_getElem? (i := 99) (by rfl))
set_option maxRecDepth 20000 in
theorem m_101 : (Jvm.Cond.fieldLink "PrefixMill$Row" (43 : Nat) "PrefixMill$Row" "held" "I") ∈ tt := tt_c1 _ (List.mem_of_getElem? (i := 0) (by rfl))
set_option maxRecDepth 20000 in
theorem m_102 : (Jvm.Cond.fieldLink "PrefixMill$Row" (46 : Nat) "PrefixMill$Row" "many" "I") ∈ tt := tt_c1 _ (List.mem_of_getElem? (i := 1) (by rfl))
set_option maxRecDepth 20000 in
theorem m_103 : (Jvm.Cond.laysFinal "PrefixMill$Row" "PrefixMill$Row" "words" "[J") ∈ tt := tt_c1 _ (List.mem_of_getElem? (i := 2) (by rfl))
set_option maxRecDepth 20000 in
theorem m_105 : (Jvm.Cond.laysFinal "PrefixMill$Row" "PrefixMill$Row" "room" "I") ∈ tt := tt_c1 _ (List.mem_of_getElem? (i := 3) (by rfl))
set_option maxRecDepth 20000 in
theorem m_107 : (Jvm.Cond.lays "PrefixMill$Row" "PrefixMill$Row" "used" "I") ∈ tt := tt_c1 _ (List.mem_of_getElem? (i := 4) (by rfl))
set_option maxRecDepth 20000 in
theorem m_109 : (Jvm.Cond.lays "PrefixMill$Row" "PrefixMill$Row" "held" "I") ∈ tt := tt_c1 _ (List.mem_of_getElem? (i := 5) (by rfl))
set_option maxRecDepth 20000 in
theorem m_111 : (Jvm.Cond.lays "PrefixMill$Row" "PrefixMill$Row" "many" "I") ∈ tt := tt_c1 _ (List.mem_of_getElem? (i := 6) (by rfl))
set_option maxRecDepth 20000 in
theorem m_114 : (Jvm.Cond.arrayClass Jvm.ClassFile.FieldType.long) ∈ tt := tt_c1 _ (List.mem_of_getElem? (i := 7) (by rfl))
set_option maxRecDepth 20000 in
theorem m_115 : (Jvm.Cond.classLink "PrefixMill" (25 : Nat) "PrefixMill$Codes") ∈ tt := tt_c1 _ (List.mem_of_getElem? (i := 8) (by rfl))
set_option maxRecDepth 20000 in
theorem m_116 : (Jvm.Cond.instantiable "PrefixMill$Codes" (6 : Nat)) ∈ tt := tt_c1 _ (List.mem_of_getElem? (i := 9) (by rfl))
set_option maxRecDepth 20000 in
theorem m_117 : (Jvm.Cond.methodLinkNest "PrefixMill" (27 : Nat) ({ cls := "PrefixMill$Codes", name := "<init>", desc := "()V" } : Jvm.MethodName) "PrefixMill") ∈ tt := tt_c1 _ (List.mem_of_getElem? (i := 10) (by rfl))
set_option maxRecDepth 20000 in
theorem m_118 : (Jvm.Cond.instanceMethod ({ cls := "PrefixMill$Codes", name := "<init>", desc := "()V" } : Jvm.MethodName)) ∈ tt := tt_c1 _ (List.mem_of_getElem? (i := 11) (by rfl))
set_option maxRecDepth 20000 in
theorem m_119 : (Jvm.Cond.code ({ cls := "PrefixMill$Codes", name := "<init>", desc := "()V" } : Jvm.MethodName) prog_2_method_1_code (1 : Nat) (Option.none : Option Jvm.ClassFile.FieldType)) ∈ tt := tt_c1 _ (List.mem_of_getElem? (i := 12) (by rfl))
set_option maxRecDepth 20000 in
theorem m_120 : (Jvm.Cond.methodLink "PrefixMill$Codes" (3 : Nat) ({ cls := "java/lang/Object", name := "<init>", desc := "()V" } : Jvm.MethodName)) ∈ tt := tt_c1 _ (List.mem_of_getElem? (i := 13) (by rfl))
set_option maxRecDepth 20000 in
theorem m_121 : (Jvm.Cond.fieldLink "PrefixMill$Codes" (9 : Nat) "PrefixMill$Codes" "lengths" "[I") ∈ tt := tt_c1 _ (List.mem_of_getElem? (i := 14) (by rfl))
set_option maxRecDepth 20000 in
theorem m_122 : (Jvm.Cond.fieldLinkNest "PrefixMill$Streams" (31 : Nat) "PrefixMill$Codes" "lengths" "[I" "PrefixMill") ∈ tt := tt_c1 _ (List.mem_of_getElem? (i := 15) (by rfl))
set_option maxRecDepth 20000 in
theorem m_123 : (Jvm.Cond.fieldLinkNest "PrefixMill" (154 : Nat) "PrefixMill$Codes" "lengths" "[I" "PrefixMill") ∈ tt := tt_c1 _ (List.mem_of_getElem? (i := 16) (by rfl))
set_option maxRecDepth 20000 in
theorem m_124 : (Jvm.Cond.fieldLink "PrefixMill$Codes" (15 : Nat) "PrefixMill$Codes" "values" "[I") ∈ tt := tt_c1 _ (List.mem_of_getElem? (i := 17) (by rfl))
set_option maxRecDepth 20000 in
theorem m_125 : (Jvm.Cond.fieldLinkNest "PrefixMill$Streams" (66 : Nat) "PrefixMill$Codes" "values" "[I" "PrefixMill") ∈ tt := tt_c1 _ (List.mem_of_getElem? (i := 18) (by rfl))
set_option maxRecDepth 20000 in
theorem m_126 : (Jvm.Cond.fieldLinkNest "PrefixMill" (155 : Nat) "PrefixMill$Codes" "values" "[I" "PrefixMill") ∈ tt := tt_c1 _ (List.mem_of_getElem? (i := 19) (by rfl))
set_option maxRecDepth 20000 in
theorem m_127 : (Jvm.Cond.fieldLink "PrefixMill$Codes" (18 : Nat) "PrefixMill$Codes" "cells" "[I") ∈ tt := tt_c1 _ (List.mem_of_getElem? (i := 20) (by rfl))
set_option maxRecDepth 20000 in
theorem m_128 : (Jvm.Cond.fieldLinkNest "PrefixMill$Streams" (84 : Nat) "PrefixMill$Codes" "cells" "[I" "PrefixMill") ∈ tt := tt_c1 _ (List.mem_of_getElem? (i := 21) (by rfl))
set_option maxRecDepth 20000 in
theorem m_129 : (Jvm.Cond.fieldLink "PrefixMill$Codes" (21 : Nat) "PrefixMill$Codes" "greatest" "I") ∈ tt := tt_c1 _ (List.mem_of_getElem? (i := 22) (by rfl))
set_option maxRecDepth 20000 in
theorem m_130 : (Jvm.Cond.fieldLinkNest "PrefixMill$Streams" (87 : Nat) "PrefixMill$Codes" "greatest" "I" "PrefixMill") ∈ tt := tt_c1 _ (List.mem_of_getElem? (i := 23) (by rfl))
set_option maxRecDepth 20000 in
theorem m_131 : (Jvm.Cond.fieldLinkNest "PrefixMill" (148 : Nat) "PrefixMill$Codes" "greatest" "I" "PrefixMill") ∈ tt := tt_c1 _ (List.mem_of_getElem? (i := 24) (by rfl))
set_option maxRecDepth 20000 in
theorem m_132 : (Jvm.Cond.fieldLink "PrefixMill$Codes" (29 : Nat) "PrefixMill$Codes" "known" "I") ∈ tt := tt_c1 _ (List.mem_of_getElem? (i := 25) (by rfl))
set_option maxRecDepth 20000 in
theorem m_133 : (Jvm.Cond.fieldLinkNest "PrefixMill" (151 : Nat) "PrefixMill$Codes" "known" "I" "PrefixMill") ∈ tt := tt_c1 _ (List.mem_of_getElem? (i := 26) (by rfl))
set_option maxRecDepth 20000 in
theorem m_134 : (Jvm.Cond.fieldLinkNest "PrefixMill$Writer" (30 : Nat) "PrefixMill$Codes" "highest" "I" "PrefixMill") ∈ tt := tt_c1 _ (List.mem_of_getElem? (i := 27) (by rfl))
set_option maxRecDepth 20000 in
theorem m_135 : (Jvm.Cond.fieldLink "PrefixMill$Codes" (32 : Nat) "PrefixMill$Codes" "highest" "I") ∈ tt := tt_c1 _ (List.mem_of_getElem? (i := 28) (by rfl))
set_option maxRecDepth 20000 in
theorem m_136 : (Jvm.Cond.laysFinal "PrefixMill$Codes" "PrefixMill$Codes" "lengths" "[I") ∈ tt := tt_c1 _ (List.mem_of_getElem? (i := 29) (by rfl))
set_option maxRecDepth 20000 in
theorem m_138 : (Jvm.Cond.laysFinal "PrefixMill$Codes" "PrefixMill$Codes" "values" "[I") ∈ tt := tt_c1 _ (List.mem_of_getElem? (i := 30) (by rfl))
set_option maxRecDepth 20000 in
theorem m_140 : (Jvm.Cond.laysFinal "PrefixMill$Codes" "PrefixMill$Codes" "cells" "[I") ∈ tt := tt_c1 _ (List.mem_of_getElem? (i := 31) (by rfl))
set_option maxRecDepth 20000 in
theorem m_142 : (Jvm.Cond.lays "PrefixMill$Codes" "PrefixMill$Codes" "greatest" "I") ∈ tt := tt_c1 _ (List.mem_of_getElem? (i := 32) (by rfl))
set_option maxRecDepth 20000 in
theorem m_144 : (Jvm.Cond.lays "PrefixMill$Codes" "PrefixMill$Codes" "known" "I") ∈ tt := tt_c1 _ (List.mem_of_getElem? (i := 33) (by rfl))
set_option maxRecDepth 20000 in
theorem m_146 : (Jvm.Cond.lays "PrefixMill$Codes" "PrefixMill$Codes" "highest" "I") ∈ tt := tt_c1 _ (List.mem_of_getElem? (i := 34) (by rfl))
set_option maxRecDepth 20000 in
theorem m_149 : (Jvm.Cond.arrayClass Jvm.ClassFile.FieldType.int) ∈ tt := tt_c1 _ (List.mem_of_getElem? (i := 35) (by rfl))
set_option maxRecDepth 20000 in
theorem m_150 : (Jvm.Cond.classLink "PrefixMill" (32 : Nat) "PrefixMill$Tree") ∈ tt := tt_c1 _ (List.mem_of_getElem? (i := 36) (by rfl))
set_option maxRecDepth 20000 in
theorem m_151 : (Jvm.Cond.instantiable "PrefixMill$Tree" (11 : Nat)) ∈ tt := tt_c1 _ (List.mem_of_getElem? (i := 37) (by rfl))
set_option maxRecDepth 20000 in
theorem m_152 : (Jvm.Cond.methodLinkNest "PrefixMill" (34 : Nat) ({ cls := "PrefixMill$Tree", name := "<init>", desc := "()V" } : Jvm.MethodName) "PrefixMill") ∈ tt := tt_c1 _ (List.mem_of_getElem? (i := 38) (by rfl))
set_option maxRecDepth 20000 in
theorem m_153 : (Jvm.Cond.instanceMethod ({ cls := "PrefixMill$Tree", name := "<init>", desc := "()V" } : Jvm.MethodName)) ∈ tt := tt_c1 _ (List.mem_of_getElem? (i := 39) (by rfl))
set_option maxRecDepth 20000 in
theorem m_154 : (Jvm.Cond.code ({ cls := "PrefixMill$Tree", name := "<init>", desc := "()V" } : Jvm.MethodName) prog_9_method_1_code (1 : Nat) (Option.none : Option Jvm.ClassFile.FieldType)) ∈ tt := tt_c1 _ (List.mem_of_getElem? (i := 40) (by rfl))
set_option maxRecDepth 20000 in
theorem m_155 : (Jvm.Cond.methodLink "PrefixMill$Tree" (3 : Nat) ({ cls := "java/lang/Object", name := "<init>", desc := "()V" } : Jvm.MethodName)) ∈ tt := tt_c1 _ (List.mem_of_getElem? (i := 41) (by rfl))
set_option maxRecDepth 20000 in
theorem m_156 : (Jvm.Cond.fieldLink "PrefixMill$Tree" (9 : Nat) "PrefixMill$Tree" "lengths" "[I") ∈ tt := tt_c1 _ (List.mem_of_getElem? (i := 42) (by rfl))
set_option maxRecDepth 20000 in
theorem m_157 : (Jvm.Cond.fieldLinkNest "PrefixMill" (99 : Nat) "PrefixMill$Tree" "lengths" "[I" "PrefixMill") ∈ tt := tt_c1 _ (List.mem_of_getElem? (i := 43) (by rfl))
set_option maxRecDepth 20000 in
theorem m_158 : (Jvm.Cond.fieldLink "PrefixMill$Tree" (15 : Nat) "PrefixMill$Tree" "halves" "[I") ∈ tt := tt_c1 _ (List.mem_of_getElem? (i := 44) (by rfl))
set_option maxRecDepth 20000 in
theorem m_159 : (Jvm.Cond.fieldLink "PrefixMill$Tree" (18 : Nat) "PrefixMill$Tree" "leaves" "[I") ∈ tt := tt_c1 _ (List.mem_of_getElem? (i := 45) (by rfl))
set_option maxRecDepth 20000 in
theorem m_160 : (Jvm.Cond.fieldLink "PrefixMill$Tree" (21 : Nat) "PrefixMill$Tree" "sorted" "[I") ∈ tt := tt_c1 _ (List.mem_of_getElem? (i := 46) (by rfl))
set_option maxRecDepth 20000 in
theorem m_161 : (Jvm.Cond.fieldLink "PrefixMill$Tree" (24 : Nat) "PrefixMill$Tree" "starts" "[I") ∈ tt := tt_c1 _ (List.mem_of_getElem? (i := 47) (by rfl))
set_option maxRecDepth 20000 in
theorem m_162 : (Jvm.Cond.fieldLink "PrefixMill$Tree" (27 : Nat) "PrefixMill$Tree" "sums" "[I") ∈ tt := tt_c1 _ (List.mem_of_getElem? (i := 48) (by rfl))
set_option maxRecDepth 20000 in
theorem m_163 : (Jvm.Cond.fieldLink "PrefixMill$Tree" (30 : Nat) "PrefixMill$Tree" "above" "[I") ∈ tt := tt_c1 _ (List.mem_of_getElem? (i := 49) (by rfl))
set_option maxRecDepth 20000 in
theorem m_164 : (Jvm.Cond.fieldLink "PrefixMill$Tree" (33 : Nat) "PrefixMill$Tree" "depths" "[I") ∈ tt := tt_c1 _ (List.mem_of_getElem? (i := 50) (by rfl))
set_option maxRecDepth 20000 in
theorem m_165 : (Jvm.Cond.fieldLink "PrefixMill$Tree" (36 : Nat) "PrefixMill$Tree" "known" "I") ∈ tt := tt_c1 _ (List.mem_of_getElem? (i := 51) (by rfl))
set_option maxRecDepth 20000 in
theorem m_166 : (Jvm.Cond.fieldLink "PrefixMill$Tree" (63 : Nat) "PrefixMill$Tree" "nextLeaf" "I") ∈ tt := tt_c1 _ (List.mem_of_getElem? (i := 52) (by rfl))
set_option maxRecDepth 20000 in
theorem m_167 : (Jvm.Cond.fieldLink "PrefixMill$Tree" (66 : Nat) "PrefixMill$Tree" "nextSum" "I") ∈ tt := tt_c1 _ (List.mem_of_getElem? (i := 53) (by rfl))
set_option maxRecDepth 20000 in
theorem m_168 : (Jvm.Cond.laysFinal "PrefixMill$Tree" "PrefixMill$Tree" "lengths" "[I") ∈ tt := tt_c1 _ (List.mem_of_getElem? (i := 54) (by rfl))
set_option maxRecDepth 20000 in
theorem m_170 : (Jvm.Cond.laysFinal "PrefixMill$Tree" "PrefixMill$Tree" "halves" "[I") ∈ tt := tt_c1 _ (List.mem_of_getElem? (i := 55) (by rfl))
set_option maxRecDepth 20000 in
theorem m_172 : (Jvm.Cond.laysFinal "PrefixMill$Tree" "PrefixMill$Tree" "leaves" "[I") ∈ tt := tt_c1 _ (List.mem_of_getElem? (i := 56) (by rfl))
set_option maxRecDepth 20000 in
theorem m_174 : (Jvm.Cond.laysFinal "PrefixMill$Tree" "PrefixMill$Tree" "sorted" "[I") ∈ tt := tt_c1 _ (List.mem_of_getElem? (i := 57) (by rfl))
set_option maxRecDepth 20000 in
theorem m_176 : (Jvm.Cond.laysFinal "PrefixMill$Tree" "PrefixMill$Tree" "starts" "[I") ∈ tt := tt_c1 _ (List.mem_of_getElem? (i := 58) (by rfl))
set_option maxRecDepth 20000 in
theorem m_178 : (Jvm.Cond.laysFinal "PrefixMill$Tree" "PrefixMill$Tree" "sums" "[I") ∈ tt := tt_c1 _ (List.mem_of_getElem? (i := 59) (by rfl))
set_option maxRecDepth 20000 in
theorem m_180 : (Jvm.Cond.laysFinal "PrefixMill$Tree" "PrefixMill$Tree" "above" "[I") ∈ tt := tt_c1 _ (List.mem_of_getElem? (i := 60) (by rfl))
set_option maxRecDepth 20000 in
theorem m_182 : (Jvm.Cond.laysFinal "PrefixMill$Tree" "PrefixMill$Tree" "depths" "[I") ∈ tt := tt_c1 _ (List.mem_of_getElem? (i := 61) (by rfl))
set_option maxRecDepth 20000 in
theorem m_184 : (Jvm.Cond.lays "PrefixMill$Tree" "PrefixMill$Tree" "known" "I") ∈ tt := tt_c1 _ (List.mem_of_getElem? (i := 62) (by rfl))
set_option maxRecDepth 20000 in
theorem m_186 : (Jvm.Cond.lays "PrefixMill$Tree" "PrefixMill$Tree" "nextLeaf" "I") ∈ tt := tt_c1 _ (List.mem_of_getElem? (i := 63) (by rfl))
set_option maxRecDepth 20000 in
theorem m_188 : (Jvm.Cond.lays "PrefixMill$Tree" "PrefixMill$Tree" "nextSum" "I") ∈ tt := tt_c1 _ (List.mem_of_getElem? (i := 64) (by rfl))
set_option maxRecDepth 20000 in
theorem m_191 : (Jvm.Cond.classLink "PrefixMill" (39 : Nat) "PrefixMill$Writer") ∈ tt := tt_c1 _ (List.mem_of_getElem? (i := 65) (by rfl))
set_option maxRecDepth 20000 in
theorem m_192 : (Jvm.Cond.instantiable "PrefixMill$Writer" (4 : Nat)) ∈ tt := tt_c1 _ (List.mem_of_getElem? (i := 66) (by rfl))
set_option maxRecDepth 20000 in
theorem m_193 : (Jvm.Cond.methodLinkNest "PrefixMill" (41 : Nat) ({ cls := "PrefixMill$Writer", name := "<init>", desc := "()V" } : Jvm.MethodName) "PrefixMill") ∈ tt := tt_c1 _ (List.mem_of_getElem? (i := 67) (by rfl))
set_option maxRecDepth 20000 in
theorem m_194 : (Jvm.Cond.instanceMethod ({ cls := "PrefixMill$Writer", name := "<init>", desc := "()V" } : Jvm.MethodName)) ∈ tt := tt_c1 _ (List.mem_of_getElem? (i := 68) (by rfl))
set_option maxRecDepth 20000 in
theorem m_195 : (Jvm.Cond.code ({ cls := "PrefixMill$Writer", name := "<init>", desc := "()V" } : Jvm.MethodName) prog_10_method_1_code (1 : Nat) (Option.none : Option Jvm.ClassFile.FieldType)) ∈ tt := tt_c1 _ (List.mem_of_getElem? (i := 69) (by rfl))
set_option maxRecDepth 20000 in
theorem m_196 : (Jvm.Cond.methodLink "PrefixMill$Writer" (3 : Nat) ({ cls := "java/lang/Object", name := "<init>", desc := "()V" } : Jvm.MethodName)) ∈ tt := tt_c1 _ (List.mem_of_getElem? (i := 70) (by rfl))
set_option maxRecDepth 20000 in
theorem m_197 : (Jvm.Cond.classLink "PrefixMill$Writer" (9 : Nat) "PrefixMill$Draft") ∈ tt := tt_c1 _ (List.mem_of_getElem? (i := 71) (by rfl))
set_option maxRecDepth 20000 in
theorem m_198 : (Jvm.Cond.instantiable "PrefixMill$Draft" (3 : Nat)) ∈ tt := tt_c1 _ (List.mem_of_getElem? (i := 72) (by rfl))
set_option maxRecDepth 20000 in
theorem m_199 : (Jvm.Cond.methodLink "PrefixMill$Writer" (11 : Nat) ({ cls := "PrefixMill$Draft", name := "<init>", desc := "(I)V" } : Jvm.MethodName)) ∈ tt := tt_c1 _ (List.mem_of_getElem? (i := 73) (by rfl))
set_option maxRecDepth 20000 in
theorem m_200 : (Jvm.Cond.instanceMethod ({ cls := "PrefixMill$Draft", name := "<init>", desc := "(I)V" } : Jvm.MethodName)) ∈ tt := tt_c1 _ (List.mem_of_getElem? (i := 74) (by rfl))
set_option maxRecDepth 20000 in
theorem m_201 : (Jvm.Cond.code ({ cls := "PrefixMill$Draft", name := "<init>", desc := "(I)V" } : Jvm.MethodName) prog_3_method_1_code (2 : Nat) (Option.none : Option Jvm.ClassFile.FieldType)) ∈ tt := tt_c1 _ (List.mem_of_getElem? (i := 75) (by rfl))
set_option maxRecDepth 20000 in
theorem m_202 : (Jvm.Cond.methodLink "PrefixMill$Draft" (1 : Nat) ({ cls := "java/lang/Object", name := "<init>", desc := "()V" } : Jvm.MethodName)) ∈ tt := tt_c1 _ (List.mem_of_getElem? (i := 76) (by rfl))
set_option maxRecDepth 20000 in
theorem m_203 : (Jvm.Cond.classLink "PrefixMill$Draft" (7 : Nat) "PrefixMill$Row") ∈ tt := tt_c1 _ (List.mem_of_getElem? (i := 77) (by rfl))
set_option maxRecDepth 20000 in
theorem m_204 : (Jvm.Cond.methodLink "PrefixMill$Draft" (11 : Nat) ({ cls := "PrefixMill$Row", name := "<init>", desc := "(I)V" } : Jvm.MethodName)) ∈ tt := tt_c1 _ (List.mem_of_getElem? (i := 78) (by rfl))
set_option maxRecDepth 20000 in
theorem m_205 : (Jvm.Cond.classLink "PrefixMill$Draft" (18 : Nat) "PrefixMill$Share") ∈ tt := tt_c1 _ (List.mem_of_getElem? (i := 79) (by rfl))
set_option maxRecDepth 20000 in
theorem m_206 : (Jvm.Cond.instantiable "PrefixMill$Share" (12 : Nat)) ∈ tt := tt_c1 _ (List.mem_of_getElem? (i := 80) (by rfl))
set_option maxRecDepth 20000 in
theorem m_207 : (Jvm.Cond.methodLinkNest "PrefixMill$Draft" (20 : Nat) ({ cls := "PrefixMill$Share", name := "<init>", desc := "()V" } : Jvm.MethodName) "PrefixMill") ∈ tt := tt_c1 _ (List.mem_of_getElem? (i := 81) (by rfl))
set_option maxRecDepth 20000 in
theorem m_208 : (Jvm.Cond.instanceMethod ({ cls := "PrefixMill$Share", name := "<init>", desc := "()V" } : Jvm.MethodName)) ∈ tt := tt_c1 _ (List.mem_of_getElem? (i := 82) (by rfl))
set_option maxRecDepth 20000 in
theorem m_209 : (Jvm.Cond.code ({ cls := "PrefixMill$Share", name := "<init>", desc := "()V" } : Jvm.MethodName) prog_6_method_1_code (1 : Nat) (Option.none : Option Jvm.ClassFile.FieldType)) ∈ tt := tt_c1 _ (List.mem_of_getElem? (i := 83) (by rfl))
set_option maxRecDepth 20000 in
theorem m_210 : (Jvm.Cond.methodLink "PrefixMill$Share" (3 : Nat) ({ cls := "java/lang/Object", name := "<init>", desc := "()V" } : Jvm.MethodName)) ∈ tt := tt_c1 _ (List.mem_of_getElem? (i := 84) (by rfl))
set_option maxRecDepth 20000 in
theorem m_211 : (Jvm.Cond.fieldLink "PrefixMill$Share" (9 : Nat) "PrefixMill$Share" "points" "[I") ∈ tt := tt_c1 _ (List.mem_of_getElem? (i := 85) (by rfl))
set_option maxRecDepth 20000 in
theorem m_212 : (Jvm.Cond.fieldLink "PrefixMill$Share" (15 : Nat) "PrefixMill$Share" "cuts" "[I") ∈ tt := tt_c1 _ (List.mem_of_getElem? (i := 86) (by rfl))
set_option maxRecDepth 20000 in
theorem m_213 : (Jvm.Cond.fieldLink "PrefixMill$Share" (18 : Nat) "PrefixMill$Share" "queue" "[I") ∈ tt := tt_c1 _ (List.mem_of_getElem? (i := 87) (by rfl))
set_option maxRecDepth 20000 in
theorem m_214 : (Jvm.Cond.fieldLink "PrefixMill$Share" (21 : Nat) "PrefixMill$Share" "owners" "[I") ∈ tt := tt_c1 _ (List.mem_of_getElem? (i := 88) (by rfl))
set_option maxRecDepth 20000 in
theorem m_215 : (Jvm.Cond.fieldLinkNest "PrefixMill$Reader" (77 : Nat) "PrefixMill$Share" "owners" "[I" "PrefixMill") ∈ tt := tt_c1 _ (List.mem_of_getElem? (i := 89) (by rfl))
set_option maxRecDepth 20000 in
theorem m_216 : (Jvm.Cond.fieldLink "PrefixMill$Share" (24 : Nat) "PrefixMill$Share" "takes" "[I") ∈ tt := tt_c1 _ (List.mem_of_getElem? (i := 90) (by rfl))
set_option maxRecDepth 20000 in
theorem m_217 : (Jvm.Cond.fieldLinkNest "PrefixMill$Draft" (52 : Nat) "PrefixMill$Share" "takes" "[I" "PrefixMill") ∈ tt := tt_c1 _ (List.mem_of_getElem? (i := 91) (by rfl))
set_option maxRecDepth 20000 in
theorem m_218 : (Jvm.Cond.fieldLinkNest "PrefixMill$Reader" (80 : Nat) "PrefixMill$Share" "takes" "[I" "PrefixMill") ∈ tt := tt_c1 _ (List.mem_of_getElem? (i := 92) (by rfl))
set_option maxRecDepth 20000 in
theorem m_219 : (Jvm.Cond.fieldLink "PrefixMill$Share" (27 : Nat) "PrefixMill$Share" "bases" "[I") ∈ tt := tt_c1 _ (List.mem_of_getElem? (i := 93) (by rfl))
set_option maxRecDepth 20000 in
theorem m_220 : (Jvm.Cond.fieldLinkNest "PrefixMill$Draft" (48 : Nat) "PrefixMill$Share" "bases" "[I" "PrefixMill") ∈ tt := tt_c1 _ (List.mem_of_getElem? (i := 94) (by rfl))
set_option maxRecDepth 20000 in
theorem m_221 : (Jvm.Cond.fieldLinkNest "PrefixMill$Reader" (83 : Nat) "PrefixMill$Share" "bases" "[I" "PrefixMill") ∈ tt := tt_c1 _ (List.mem_of_getElem? (i := 95) (by rfl))
set_option maxRecDepth 20000 in
theorem m_222 : (Jvm.Cond.fieldLink "PrefixMill$Share" (30 : Nat) "PrefixMill$Share" "ranked" "[I") ∈ tt := tt_c1 _ (List.mem_of_getElem? (i := 96) (by rfl))
set_option maxRecDepth 20000 in
theorem m_223 : (Jvm.Cond.fieldLink "PrefixMill$Share" (33 : Nat) "PrefixMill$Share" "starts" "[I") ∈ tt := tt_c1 _ (List.mem_of_getElem? (i := 97) (by rfl))
set_option maxRecDepth 20000 in
theorem m_224 : (Jvm.Cond.fieldLink "PrefixMill$Share" (36 : Nat) "PrefixMill$Share" "numbers" "[I") ∈ tt := tt_c1 _ (List.mem_of_getElem? (i := 98) (by rfl))
set_option maxRecDepth 20000 in
theorem m_225 : (Jvm.Cond.fieldLink "PrefixMill$Share" (39 : Nat) "PrefixMill$Share" "walk" "[I") ∈ tt := tt_c1 _ (List.mem_of_getElem? (i := 99) (by rfl))
set_option maxRecDepth 20000 in
theorem m_226 : (Jvm.Cond.fieldLink "PrefixMill$Share" (42 : Nat) "PrefixMill$Share" "order" "I") ∈ tt := tt_c2 _ (List.mem_of_getElem? (i := 0) (by rfl))
set_option maxRecDepth 20000 in
theorem m_227 : (Jvm.Cond.fieldLinkNest "PrefixMill$Reader" (71 : Nat) "PrefixMill$Share" "order" "I" "PrefixMill") ∈ tt := tt_c2 _ (List.mem_of_getElem? (i := 1) (by rfl))
set_option maxRecDepth 20000 in
theorem m_228 : (Jvm.Cond.fieldLink "PrefixMill$Share" (108 : Nat) "PrefixMill$Share" "next" "I") ∈ tt := tt_c2 _ (List.mem_of_getElem? (i := 2) (by rfl))
set_option maxRecDepth 20000 in
theorem m_229 : (Jvm.Cond.laysFinal "PrefixMill$Share" "PrefixMill$Share" "points" "[I") ∈ tt := tt_c2 _ (List.mem_of_getElem? (i := 3) (by rfl))
set_option maxRecDepth 20000 in
theorem m_231 : (Jvm.Cond.laysFinal "PrefixMill$Share" "PrefixMill$Share" "cuts" "[I") ∈ tt := tt_c2 _ (List.mem_of_getElem? (i := 4) (by rfl))
set_option maxRecDepth 20000 in
theorem m_233 : (Jvm.Cond.laysFinal "PrefixMill$Share" "PrefixMill$Share" "queue" "[I") ∈ tt := tt_c2 _ (List.mem_of_getElem? (i := 5) (by rfl))
set_option maxRecDepth 20000 in
theorem m_235 : (Jvm.Cond.laysFinal "PrefixMill$Share" "PrefixMill$Share" "owners" "[I") ∈ tt := tt_c2 _ (List.mem_of_getElem? (i := 6) (by rfl))
set_option maxRecDepth 20000 in
theorem m_237 : (Jvm.Cond.laysFinal "PrefixMill$Share" "PrefixMill$Share" "takes" "[I") ∈ tt := tt_c2 _ (List.mem_of_getElem? (i := 7) (by rfl))
set_option maxRecDepth 20000 in
theorem m_239 : (Jvm.Cond.laysFinal "PrefixMill$Share" "PrefixMill$Share" "bases" "[I") ∈ tt := tt_c2 _ (List.mem_of_getElem? (i := 8) (by rfl))
set_option maxRecDepth 20000 in
theorem m_241 : (Jvm.Cond.laysFinal "PrefixMill$Share" "PrefixMill$Share" "ranked" "[I") ∈ tt := tt_c2 _ (List.mem_of_getElem? (i := 9) (by rfl))
set_option maxRecDepth 20000 in
theorem m_243 : (Jvm.Cond.laysFinal "PrefixMill$Share" "PrefixMill$Share" "starts" "[I") ∈ tt := tt_c2 _ (List.mem_of_getElem? (i := 10) (by rfl))
set_option maxRecDepth 20000 in
theorem m_245 : (Jvm.Cond.laysFinal "PrefixMill$Share" "PrefixMill$Share" "numbers" "[I") ∈ tt := tt_c2 _ (List.mem_of_getElem? (i := 11) (by rfl))
set_option maxRecDepth 20000 in
theorem m_247 : (Jvm.Cond.laysFinal "PrefixMill$Share" "PrefixMill$Share" "walk" "[I") ∈ tt := tt_c2 _ (List.mem_of_getElem? (i := 12) (by rfl))
set_option maxRecDepth 20000 in
theorem m_249 : (Jvm.Cond.lays "PrefixMill$Share" "PrefixMill$Share" "order" "I") ∈ tt := tt_c2 _ (List.mem_of_getElem? (i := 13) (by rfl))
set_option maxRecDepth 20000 in
theorem m_251 : (Jvm.Cond.lays "PrefixMill$Share" "PrefixMill$Share" "next" "I") ∈ tt := tt_c2 _ (List.mem_of_getElem? (i := 14) (by rfl))
set_option maxRecDepth 20000 in
theorem m_254 : (Jvm.Cond.fieldLink "PrefixMill$Draft" (14 : Nat) "PrefixMill$Draft" "row" "LPrefixMill$Row;") ∈ tt := tt_c2 _ (List.mem_of_getElem? (i := 15) (by rfl))
set_option maxRecDepth 20000 in
theorem m_255 : (Jvm.Cond.fieldLinkNest "PrefixMill$Writer" (44 : Nat) "PrefixMill$Draft" "row" "LPrefixMill$Row;" "PrefixMill") ∈ tt := tt_c2 _ (List.mem_of_getElem? (i := 16) (by rfl))
set_option maxRecDepth 20000 in
theorem m_256 : (Jvm.Cond.fieldLink "PrefixMill$Draft" (21 : Nat) "PrefixMill$Draft" "share" "LPrefixMill$Share;") ∈ tt := tt_c2 _ (List.mem_of_getElem? (i := 17) (by rfl))
set_option maxRecDepth 20000 in
theorem m_257 : (Jvm.Cond.fieldLink "PrefixMill$Draft" (25 : Nat) "PrefixMill$Draft" "order" "I") ∈ tt := tt_c2 _ (List.mem_of_getElem? (i := 18) (by rfl))
set_option maxRecDepth 20000 in
theorem m_258 : (Jvm.Cond.laysFinal "PrefixMill$Draft" "PrefixMill$Draft" "row" "LPrefixMill$Row;") ∈ tt := tt_c2 _ (List.mem_of_getElem? (i := 19) (by rfl))
set_option maxRecDepth 20000 in
theorem m_260 : (Jvm.Cond.laysFinal "PrefixMill$Draft" "PrefixMill$Draft" "share" "LPrefixMill$Share;") ∈ tt := tt_c2 _ (List.mem_of_getElem? (i := 20) (by rfl))
set_option maxRecDepth 20000 in
theorem m_262 : (Jvm.Cond.laysFinal "PrefixMill$Draft" "PrefixMill$Draft" "order" "I") ∈ tt := tt_c2 _ (List.mem_of_getElem? (i := 21) (by rfl))
set_option maxRecDepth 20000 in
theorem m_265 : (Jvm.Cond.fieldLink "PrefixMill$Writer" (14 : Nat) "PrefixMill$Writer" "five" "LPrefixMill$Draft;") ∈ tt := tt_c2 _ (List.mem_of_getElem? (i := 22) (by rfl))
set_option maxRecDepth 20000 in
theorem m_266 : (Jvm.Cond.fieldLink "PrefixMill$Writer" (20 : Nat) "PrefixMill$Writer" "six" "LPrefixMill$Draft;") ∈ tt := tt_c2 _ (List.mem_of_getElem? (i := 23) (by rfl))
set_option maxRecDepth 20000 in
theorem m_267 : (Jvm.Cond.fieldLink "PrefixMill$Writer" (23 : Nat) "PrefixMill$Writer" "weights" "[I") ∈ tt := tt_c2 _ (List.mem_of_getElem? (i := 24) (by rfl))
set_option maxRecDepth 20000 in
theorem m_268 : (Jvm.Cond.fieldLink "PrefixMill$Writer" (27 : Nat) "PrefixMill$Writer" "counts" "[I") ∈ tt := tt_c2 _ (List.mem_of_getElem? (i := 25) (by rfl))
set_option maxRecDepth 20000 in
theorem m_269 : (Jvm.Cond.laysFinal "PrefixMill$Writer" "PrefixMill$Writer" "five" "LPrefixMill$Draft;") ∈ tt := tt_c2 _ (List.mem_of_getElem? (i := 26) (by rfl))
set_option maxRecDepth 20000 in
theorem m_271 : (Jvm.Cond.laysFinal "PrefixMill$Writer" "PrefixMill$Writer" "six" "LPrefixMill$Draft;") ∈ tt := tt_c2 _ (List.mem_of_getElem? (i := 27) (by rfl))
set_option maxRecDepth 20000 in
theorem m_273 : (Jvm.Cond.laysFinal "PrefixMill$Writer" "PrefixMill$Writer" "weights" "[I") ∈ tt := tt_c2 _ (List.mem_of_getElem? (i := 28) (by rfl))
set_option maxRecDepth 20000 in
theorem m_275 : (Jvm.Cond.laysFinal "PrefixMill$Writer" "PrefixMill$Writer" "counts" "[I") ∈ tt := tt_c2 _ (List.mem_of_getElem? (i := 29) (by rfl))
set_option maxRecDepth 20000 in
theorem m_278 : (Jvm.Cond.classLink "PrefixMill" (46 : Nat) "PrefixMill$Reader") ∈ tt := tt_c2 _ (List.mem_of_getElem? (i := 30) (by rfl))
set_option maxRecDepth 20000 in
theorem m_279 : (Jvm.Cond.instantiable "PrefixMill$Reader" (6 : Nat)) ∈ tt := tt_c2 _ (List.mem_of_getElem? (i := 31) (by rfl))
set_option maxRecDepth 20000 in
theorem m_280 : (Jvm.Cond.methodLinkNest "PrefixMill" (48 : Nat) ({ cls := "PrefixMill$Reader", name := "<init>", desc := "()V" } : Jvm.MethodName) "PrefixMill") ∈ tt := tt_c2 _ (List.mem_of_getElem? (i := 32) (by rfl))
set_option maxRecDepth 20000 in
theorem m_281 : (Jvm.Cond.instanceMethod ({ cls := "PrefixMill$Reader", name := "<init>", desc := "()V" } : Jvm.MethodName)) ∈ tt := tt_c2 _ (List.mem_of_getElem? (i := 33) (by rfl))
set_option maxRecDepth 20000 in
theorem m_282 : (Jvm.Cond.code ({ cls := "PrefixMill$Reader", name := "<init>", desc := "()V" } : Jvm.MethodName) prog_4_method_1_code (1 : Nat) (Option.none : Option Jvm.ClassFile.FieldType)) ∈ tt := tt_c2 _ (List.mem_of_getElem? (i := 34) (by rfl))
set_option maxRecDepth 20000 in
theorem m_283 : (Jvm.Cond.methodLink "PrefixMill$Reader" (3 : Nat) ({ cls := "java/lang/Object", name := "<init>", desc := "()V" } : Jvm.MethodName)) ∈ tt := tt_c2 _ (List.mem_of_getElem? (i := 35) (by rfl))
set_option maxRecDepth 20000 in
theorem m_284 : (Jvm.Cond.classLink "PrefixMill$Reader" (9 : Nat) "PrefixMill$Tail") ∈ tt := tt_c2 _ (List.mem_of_getElem? (i := 36) (by rfl))
set_option maxRecDepth 20000 in
theorem m_285 : (Jvm.Cond.instantiable "PrefixMill$Tail" (2 : Nat)) ∈ tt := tt_c2 _ (List.mem_of_getElem? (i := 37) (by rfl))
set_option maxRecDepth 20000 in
theorem m_286 : (Jvm.Cond.methodLinkNest "PrefixMill$Reader" (11 : Nat) ({ cls := "PrefixMill$Tail", name := "<init>", desc := "()V" } : Jvm.MethodName) "PrefixMill") ∈ tt := tt_c2 _ (List.mem_of_getElem? (i := 38) (by rfl))
set_option maxRecDepth 20000 in
theorem m_287 : (Jvm.Cond.instanceMethod ({ cls := "PrefixMill$Tail", name := "<init>", desc := "()V" } : Jvm.MethodName)) ∈ tt := tt_c2 _ (List.mem_of_getElem? (i := 39) (by rfl))
set_option maxRecDepth 20000 in
theorem m_288 : (Jvm.Cond.code ({ cls := "PrefixMill$Tail", name := "<init>", desc := "()V" } : Jvm.MethodName) prog_8_method_1_code (1 : Nat) (Option.none : Option Jvm.ClassFile.FieldType)) ∈ tt := tt_c2 _ (List.mem_of_getElem? (i := 40) (by rfl))
set_option maxRecDepth 20000 in
theorem m_289 : (Jvm.Cond.methodLink "PrefixMill$Tail" (1 : Nat) ({ cls := "java/lang/Object", name := "<init>", desc := "()V" } : Jvm.MethodName)) ∈ tt := tt_c2 _ (List.mem_of_getElem? (i := 41) (by rfl))
set_option maxRecDepth 20000 in
theorem m_290 : (Jvm.Cond.fieldLink "PrefixMill$Tail" (13 : Nat) "PrefixMill$Tail" "first" "I") ∈ tt := tt_c2 _ (List.mem_of_getElem? (i := 42) (by rfl))
set_option maxRecDepth 20000 in
theorem m_291 : (Jvm.Cond.fieldLink "PrefixMill$Tail" (24 : Nat) "PrefixMill$Tail" "left" "I") ∈ tt := tt_c2 _ (List.mem_of_getElem? (i := 43) (by rfl))
set_option maxRecDepth 20000 in
theorem m_292 : (Jvm.Cond.fieldLinkNest "PrefixMill$Reader" (68 : Nat) "PrefixMill$Tail" "left" "I" "PrefixMill") ∈ tt := tt_c2 _ (List.mem_of_getElem? (i := 44) (by rfl))
set_option maxRecDepth 20000 in
theorem m_293 : (Jvm.Cond.fieldLinkNest "PrefixMill$Streams" (100 : Nat) "PrefixMill$Tail" "left" "I" "PrefixMill") ∈ tt := tt_c2 _ (List.mem_of_getElem? (i := 45) (by rfl))
set_option maxRecDepth 20000 in
theorem m_294 : (Jvm.Cond.lays "PrefixMill$Tail" "PrefixMill$Tail" "first" "I") ∈ tt := tt_c2 _ (List.mem_of_getElem? (i := 46) (by rfl))
set_option maxRecDepth 20000 in
theorem m_296 : (Jvm.Cond.lays "PrefixMill$Tail" "PrefixMill$Tail" "left" "I") ∈ tt := tt_c2 _ (List.mem_of_getElem? (i := 47) (by rfl))
set_option maxRecDepth 20000 in
theorem m_299 : (Jvm.Cond.classLink "PrefixMill$Reader" (18 : Nat) "PrefixMill$Share") ∈ tt := tt_c2 _ (List.mem_of_getElem? (i := 48) (by rfl))
set_option maxRecDepth 20000 in
theorem m_300 : (Jvm.Cond.methodLinkNest "PrefixMill$Reader" (20 : Nat) ({ cls := "PrefixMill$Share", name := "<init>", desc := "()V" } : Jvm.MethodName) "PrefixMill") ∈ tt := tt_c2 _ (List.mem_of_getElem? (i := 49) (by rfl))
set_option maxRecDepth 20000 in
theorem m_301 : (Jvm.Cond.fieldLink "PrefixMill$Reader" (12 : Nat) "PrefixMill$Reader" "tail" "LPrefixMill$Tail;") ∈ tt := tt_c2 _ (List.mem_of_getElem? (i := 50) (by rfl))
set_option maxRecDepth 20000 in
theorem m_302 : (Jvm.Cond.fieldLink "PrefixMill$Reader" (21 : Nat) "PrefixMill$Reader" "share" "LPrefixMill$Share;") ∈ tt := tt_c2 _ (List.mem_of_getElem? (i := 51) (by rfl))
set_option maxRecDepth 20000 in
theorem m_303 : (Jvm.Cond.fieldLink "PrefixMill$Reader" (25 : Nat) "PrefixMill$Reader" "weights" "[I") ∈ tt := tt_c2 _ (List.mem_of_getElem? (i := 52) (by rfl))
set_option maxRecDepth 20000 in
theorem m_304 : (Jvm.Cond.fieldLink "PrefixMill$Reader" (29 : Nat) "PrefixMill$Reader" "lengths" "[I") ∈ tt := tt_c2 _ (List.mem_of_getElem? (i := 53) (by rfl))
set_option maxRecDepth 20000 in
theorem m_305 : (Jvm.Cond.fieldLinkNest "PrefixMill" (124 : Nat) "PrefixMill$Reader" "lengths" "[I" "PrefixMill") ∈ tt := tt_c2 _ (List.mem_of_getElem? (i := 54) (by rfl))
set_option maxRecDepth 20000 in
theorem m_306 : (Jvm.Cond.fieldLink "PrefixMill$Reader" (61 : Nat) "PrefixMill$Reader" "known" "I") ∈ tt := tt_c2 _ (List.mem_of_getElem? (i := 55) (by rfl))
set_option maxRecDepth 20000 in
theorem m_307 : (Jvm.Cond.fieldLink "PrefixMill$Reader" (38 : Nat) "PrefixMill$Reader" "end" "I") ∈ tt := tt_c2 _ (List.mem_of_getElem? (i := 56) (by rfl))
set_option maxRecDepth 20000 in
theorem m_308 : (Jvm.Cond.fieldLinkNest "PrefixMill" (121 : Nat) "PrefixMill$Reader" "end" "I" "PrefixMill") ∈ tt := tt_c2 _ (List.mem_of_getElem? (i := 57) (by rfl))
set_option maxRecDepth 20000 in
theorem m_309 : (Jvm.Cond.laysFinal "PrefixMill$Reader" "PrefixMill$Reader" "tail" "LPrefixMill$Tail;") ∈ tt := tt_c2 _ (List.mem_of_getElem? (i := 58) (by rfl))
set_option maxRecDepth 20000 in
theorem m_311 : (Jvm.Cond.laysFinal "PrefixMill$Reader" "PrefixMill$Reader" "share" "LPrefixMill$Share;") ∈ tt := tt_c2 _ (List.mem_of_getElem? (i := 59) (by rfl))
set_option maxRecDepth 20000 in
theorem m_313 : (Jvm.Cond.laysFinal "PrefixMill$Reader" "PrefixMill$Reader" "weights" "[I") ∈ tt := tt_c2 _ (List.mem_of_getElem? (i := 60) (by rfl))
set_option maxRecDepth 20000 in
theorem m_315 : (Jvm.Cond.laysFinal "PrefixMill$Reader" "PrefixMill$Reader" "lengths" "[I") ∈ tt := tt_c2 _ (List.mem_of_getElem? (i := 61) (by rfl))
set_option maxRecDepth 20000 in
theorem m_317 : (Jvm.Cond.lays "PrefixMill$Reader" "PrefixMill$Reader" "known" "I") ∈ tt := tt_c2 _ (List.mem_of_getElem? (i := 62) (by rfl))
set_option maxRecDepth 20000 in
theorem m_319 : (Jvm.Cond.lays "PrefixMill$Reader" "PrefixMill$Reader" "end" "I") ∈ tt := tt_c2 _ (List.mem_of_getElem? (i := 63) (by rfl))
set_option maxRecDepth 20000 in
theorem m_322 : (Jvm.Cond.classLink "PrefixMill" (53 : Nat) "PrefixMill$Streams") ∈ tt := tt_c2 _ (List.mem_of_getElem? (i := 64) (by rfl))
set_option maxRecDepth 20000 in
theorem m_323 : (Jvm.Cond.instantiable "PrefixMill$Streams" (2 : Nat)) ∈ tt := tt_c2 _ (List.mem_of_getElem? (i := 65) (by rfl))
set_option maxRecDepth 20000 in
theorem m_324 : (Jvm.Cond.methodLinkNest "PrefixMill" (55 : Nat) ({ cls := "PrefixMill$Streams", name := "<init>", desc := "()V" } : Jvm.MethodName) "PrefixMill") ∈ tt := tt_c2 _ (List.mem_of_getElem? (i := 66) (by rfl))
set_option maxRecDepth 20000 in
theorem m_325 : (Jvm.Cond.instanceMethod ({ cls := "PrefixMill$Streams", name := "<init>", desc := "()V" } : Jvm.MethodName)) ∈ tt := tt_c2 _ (List.mem_of_getElem? (i := 67) (by rfl))
set_option maxRecDepth 20000 in
theorem m_326 : (Jvm.Cond.code ({ cls := "PrefixMill$Streams", name := "<init>", desc := "()V" } : Jvm.MethodName) prog_7_method_1_code (1 : Nat) (Option.none : Option Jvm.ClassFile.FieldType)) ∈ tt := tt_c2 _ (List.mem_of_getElem? (i := 68) (by rfl))
set_option maxRecDepth 20000 in
theorem m_327 : (Jvm.Cond.methodLink "PrefixMill$Streams" (3 : Nat) ({ cls := "java/lang/Object", name := "<init>", desc := "()V" } : Jvm.MethodName)) ∈ tt := tt_c2 _ (List.mem_of_getElem? (i := 69) (by rfl))
set_option maxRecDepth 20000 in
theorem m_328 : (Jvm.Cond.classLink "PrefixMill$Streams" (9 : Nat) "PrefixMill$Row") ∈ tt := tt_c2 _ (List.mem_of_getElem? (i := 70) (by rfl))
set_option maxRecDepth 20000 in
theorem m_329 : (Jvm.Cond.methodLink "PrefixMill$Streams" (11 : Nat) ({ cls := "PrefixMill$Row", name := "<init>", desc := "(I)V" } : Jvm.MethodName)) ∈ tt := tt_c2 _ (List.mem_of_getElem? (i := 71) (by rfl))
set_option maxRecDepth 20000 in
theorem m_330 : (Jvm.Cond.classLink "PrefixMill$Streams" (20 : Nat) "PrefixMill$Tail") ∈ tt := tt_c2 _ (List.mem_of_getElem? (i := 72) (by rfl))
set_option maxRecDepth 20000 in
theorem m_331 : (Jvm.Cond.methodLinkNest "PrefixMill$Streams" (22 : Nat) ({ cls := "PrefixMill$Tail", name := "<init>", desc := "()V" } : Jvm.MethodName) "PrefixMill") ∈ tt := tt_c2 _ (List.mem_of_getElem? (i := 73) (by rfl))
set_option maxRecDepth 20000 in
theorem m_332 : (Jvm.Cond.fieldLink "PrefixMill$Streams" (14 : Nat) "PrefixMill$Streams" "symbols" "LPrefixMill$Row;") ∈ tt := tt_c2 _ (List.mem_of_getElem? (i := 74) (by rfl))
set_option maxRecDepth 20000 in
theorem m_333 : (Jvm.Cond.fieldLinkNest "PrefixMill" (145 : Nat) "PrefixMill$Streams" "symbols" "LPrefixMill$Row;" "PrefixMill") ∈ tt := tt_c2 _ (List.mem_of_getElem? (i := 75) (by rfl))
set_option maxRecDepth 20000 in
theorem m_334 : (Jvm.Cond.fieldLink "PrefixMill$Streams" (23 : Nat) "PrefixMill$Streams" "tail" "LPrefixMill$Tail;") ∈ tt := tt_c2 _ (List.mem_of_getElem? (i := 76) (by rfl))
set_option maxRecDepth 20000 in
theorem m_335 : (Jvm.Cond.laysFinal "PrefixMill$Streams" "PrefixMill$Streams" "symbols" "LPrefixMill$Row;") ∈ tt := tt_c2 _ (List.mem_of_getElem? (i := 77) (by rfl))
set_option maxRecDepth 20000 in
theorem m_337 : (Jvm.Cond.laysFinal "PrefixMill$Streams" "PrefixMill$Streams" "tail" "LPrefixMill$Tail;") ∈ tt := tt_c2 _ (List.mem_of_getElem? (i := 78) (by rfl))
set_option maxRecDepth 20000 in
theorem m_340 : (Jvm.Cond.fieldLink "PrefixMill" (14 : Nat) "PrefixMill" "in" "LPrefixMill$Row;") ∈ tt := tt_c2 _ (List.mem_of_getElem? (i := 79) (by rfl))
set_option maxRecDepth 20000 in
theorem m_341 : (Jvm.Cond.fieldLink "PrefixMill" (18 : Nat) "PrefixMill" "out" "LPrefixMill$Row;") ∈ tt := tt_c2 _ (List.mem_of_getElem? (i := 80) (by rfl))
set_option maxRecDepth 20000 in
theorem m_342 : (Jvm.Cond.fieldLink "PrefixMill" (21 : Nat) "PrefixMill" "counts" "[I") ∈ tt := tt_c2 _ (List.mem_of_getElem? (i := 81) (by rfl))
set_option maxRecDepth 20000 in
theorem m_343 : (Jvm.Cond.fieldLink "PrefixMill" (28 : Nat) "PrefixMill" "codes" "LPrefixMill$Codes;") ∈ tt := tt_c2 _ (List.mem_of_getElem? (i := 82) (by rfl))
set_option maxRecDepth 20000 in
theorem m_344 : (Jvm.Cond.fieldLink "PrefixMill" (35 : Nat) "PrefixMill" "tree" "LPrefixMill$Tree;") ∈ tt := tt_c2 _ (List.mem_of_getElem? (i := 83) (by rfl))
set_option maxRecDepth 20000 in
theorem m_345 : (Jvm.Cond.fieldLink "PrefixMill" (42 : Nat) "PrefixMill" "writer" "LPrefixMill$Writer;") ∈ tt := tt_c2 _ (List.mem_of_getElem? (i := 84) (by rfl))
set_option maxRecDepth 20000 in
theorem m_346 : (Jvm.Cond.fieldLink "PrefixMill" (49 : Nat) "PrefixMill" "reader" "LPrefixMill$Reader;") ∈ tt := tt_c2 _ (List.mem_of_getElem? (i := 85) (by rfl))
set_option maxRecDepth 20000 in
theorem m_347 : (Jvm.Cond.fieldLink "PrefixMill" (56 : Nat) "PrefixMill" "streams" "LPrefixMill$Streams;") ∈ tt := tt_c2 _ (List.mem_of_getElem? (i := 86) (by rfl))
set_option maxRecDepth 20000 in
theorem m_348 : (Jvm.Cond.fieldLink "PrefixMill" (60 : Nat) "PrefixMill" "place" "I") ∈ tt := tt_c2 _ (List.mem_of_getElem? (i := 87) (by rfl))
set_option maxRecDepth 20000 in
theorem m_349 : (Jvm.Cond.laysFinal "PrefixMill" "PrefixMill" "in" "LPrefixMill$Row;") ∈ tt := tt_c2 _ (List.mem_of_getElem? (i := 88) (by rfl))
set_option maxRecDepth 20000 in
theorem m_351 : (Jvm.Cond.laysFinal "PrefixMill" "PrefixMill" "out" "LPrefixMill$Row;") ∈ tt := tt_c2 _ (List.mem_of_getElem? (i := 89) (by rfl))
set_option maxRecDepth 20000 in
theorem m_353 : (Jvm.Cond.laysFinal "PrefixMill" "PrefixMill" "counts" "[I") ∈ tt := tt_c2 _ (List.mem_of_getElem? (i := 90) (by rfl))
set_option maxRecDepth 20000 in
theorem m_355 : (Jvm.Cond.laysFinal "PrefixMill" "PrefixMill" "codes" "LPrefixMill$Codes;") ∈ tt := tt_c2 _ (List.mem_of_getElem? (i := 91) (by rfl))
set_option maxRecDepth 20000 in
theorem m_357 : (Jvm.Cond.laysFinal "PrefixMill" "PrefixMill" "tree" "LPrefixMill$Tree;") ∈ tt := tt_c2 _ (List.mem_of_getElem? (i := 92) (by rfl))
set_option maxRecDepth 20000 in
theorem m_359 : (Jvm.Cond.laysFinal "PrefixMill" "PrefixMill" "writer" "LPrefixMill$Writer;") ∈ tt := tt_c2 _ (List.mem_of_getElem? (i := 93) (by rfl))
set_option maxRecDepth 20000 in
theorem m_361 : (Jvm.Cond.laysFinal "PrefixMill" "PrefixMill" "reader" "LPrefixMill$Reader;") ∈ tt := tt_c2 _ (List.mem_of_getElem? (i := 94) (by rfl))
set_option maxRecDepth 20000 in
theorem m_363 : (Jvm.Cond.laysFinal "PrefixMill" "PrefixMill" "streams" "LPrefixMill$Streams;") ∈ tt := tt_c2 _ (List.mem_of_getElem? (i := 95) (by rfl))
set_option maxRecDepth 20000 in
theorem m_365 : (Jvm.Cond.lays "PrefixMill" "PrefixMill" "place" "I") ∈ tt := tt_c2 _ (List.mem_of_getElem? (i := 96) (by rfl))
set_option maxRecDepth 20000 in
theorem m_368 : (Jvm.Cond.methodLink "PrefixMillLaw" (15 : Nat) ({ cls := "PrefixMill", name := "write", desc := "(JI)Z" } : Jvm.MethodName)) ∈ tt := tt_c2 _ (List.mem_of_getElem? (i := 97) (by rfl))
set_option maxRecDepth 20000 in
theorem m_369 : (Jvm.Cond.instanceMethod ({ cls := "PrefixMill", name := "write", desc := "(JI)Z" } : Jvm.MethodName)) ∈ tt := tt_c2 _ (List.mem_of_getElem? (i := 98) (by rfl))
set_option maxRecDepth 20000 in
theorem m_370 : (Jvm.Cond.selects "PrefixMill" ({ cls := "PrefixMill", name := "write", desc := "(JI)Z" } : Jvm.MethodName) ({ cls := "PrefixMill", name := "write", desc := "(JI)Z" } : Jvm.MethodName)) ∈ tt := tt_c2 _ (List.mem_of_getElem? (i := 99) (by rfl))
set_option maxRecDepth 20000 in
theorem m_371 : (Jvm.Cond.code ({ cls := "PrefixMill", name := "write", desc := "(JI)Z" } : Jvm.MethodName) prog_1_method_2_code (5 : Nat) (Option.some Jvm.ClassFile.FieldType.boolean)) ∈ tt := tt_c3 _ (List.mem_of_getElem? (i := 0) (by rfl))
set_option maxRecDepth 20000 in
theorem m_372 : (Jvm.Cond.methodLink "PrefixMill" (67 : Nat) ({ cls := "PrefixMill$Row", name := "add", desc := "(I)V" } : Jvm.MethodName)) ∈ tt := tt_c3 _ (List.mem_of_getElem? (i := 1) (by rfl))
set_option maxRecDepth 20000 in
theorem m_373 : (Jvm.Cond.instanceMethod ({ cls := "PrefixMill$Row", name := "add", desc := "(I)V" } : Jvm.MethodName)) ∈ tt := tt_c3 _ (List.mem_of_getElem? (i := 2) (by rfl))
set_option maxRecDepth 20000 in
theorem m_374 : (Jvm.Cond.selects "PrefixMill$Row" ({ cls := "PrefixMill$Row", name := "add", desc := "(I)V" } : Jvm.MethodName) ({ cls := "PrefixMill$Row", name := "add", desc := "(I)V" } : Jvm.MethodName)) ∈ tt := tt_c3 _ (List.mem_of_getElem? (i := 3) (by rfl))
set_option maxRecDepth 20000 in
theorem m_375 : (Jvm.Cond.code ({ cls := "PrefixMill$Row", name := "add", desc := "(I)V" } : Jvm.MethodName) prog_5_method_3_code (4 : Nat) (Option.none : Option Jvm.ClassFile.FieldType)) ∈ tt := tt_c3 _ (List.mem_of_getElem? (i := 4) (by rfl))
set_option maxRecDepth 20000 in
theorem m_376 : (Jvm.Cond.constantLong "PrefixMill$Row" (20 : Nat) (255 : Int64)) ∈ tt := tt_c3 _ (List.mem_of_getElem? (i := 5) (by rfl))
set_option maxRecDepth 20000 in
theorem m_377 : (Jvm.Cond.constantLong "PrefixMill$Row" (22 : Nat) (-1 : Int64)) ∈ tt := tt_c3 _ (List.mem_of_getElem? (i := 6) (by rfl))
set_option maxRecDepth 20000 in
theorem m_378 : (Jvm.Cond.methodLink "PrefixMillLaw" (20 : Nat) ({ cls := "PrefixMill", name := "again", desc := "(II)Z" } : Jvm.MethodName)) ∈ tt := tt_c3 _ (List.mem_of_getElem? (i := 7) (by rfl))
set_option maxRecDepth 20000 in
theorem m_379 : (Jvm.Cond.instanceMethod ({ cls := "PrefixMill", name := "again", desc := "(II)Z" } : Jvm.MethodName)) ∈ tt := tt_c3 _ (List.mem_of_getElem? (i := 8) (by rfl))
set_option maxRecDepth 20000 in
theorem m_380 : (Jvm.Cond.selects "PrefixMill" ({ cls := "PrefixMill", name := "again", desc := "(II)Z" } : Jvm.MethodName) ({ cls := "PrefixMill", name := "again", desc := "(II)Z" } : Jvm.MethodName)) ∈ tt := tt_c3 _ (List.mem_of_getElem? (i := 9) (by rfl))
set_option maxRecDepth 20000 in
theorem m_381 : (Jvm.Cond.code ({ cls := "PrefixMill", name := "again", desc := "(II)Z" } : Jvm.MethodName) prog_1_method_3_code (5 : Nat) (Option.some Jvm.ClassFile.FieldType.boolean)) ∈ tt := tt_c3 _ (List.mem_of_getElem? (i := 10) (by rfl))
set_option maxRecDepth 20000 in
theorem m_382 : (Jvm.Cond.methodLink "PrefixMill" (70 : Nat) ({ cls := "PrefixMill$Row", name := "get", desc := "(I)I" } : Jvm.MethodName)) ∈ tt := tt_c3 _ (List.mem_of_getElem? (i := 11) (by rfl))
set_option maxRecDepth 20000 in
theorem m_383 : (Jvm.Cond.instanceMethod ({ cls := "PrefixMill$Row", name := "get", desc := "(I)I" } : Jvm.MethodName)) ∈ tt := tt_c3 _ (List.mem_of_getElem? (i := 12) (by rfl))
set_option maxRecDepth 20000 in
theorem m_384 : (Jvm.Cond.selects "PrefixMill$Row" ({ cls := "PrefixMill$Row", name := "get", desc := "(I)I" } : Jvm.MethodName) ({ cls := "PrefixMill$Row", name := "get", desc := "(I)I" } : Jvm.MethodName)) ∈ tt := tt_c3 _ (List.mem_of_getElem? (i := 13) (by rfl))
set_option maxRecDepth 20000 in
theorem m_385 : (Jvm.Cond.code ({ cls := "PrefixMill$Row", name := "get", desc := "(I)I" } : Jvm.MethodName) prog_5_method_4_code (2 : Nat) (Option.some Jvm.ClassFile.FieldType.int)) ∈ tt := tt_c3 _ (List.mem_of_getElem? (i := 14) (by rfl))
set_option maxRecDepth 20000 in
theorem m_386 : (Jvm.Cond.methodLink "PrefixMillLaw" (25 : Nat) ({ cls := "PrefixMill", name := "turn", desc := "()V" } : Jvm.MethodName)) ∈ tt := tt_c3 _ (List.mem_of_getElem? (i := 15) (by rfl))
set_option maxRecDepth 20000 in
theorem m_387 : (Jvm.Cond.instanceMethod ({ cls := "PrefixMill", name := "turn", desc := "()V" } : Jvm.MethodName)) ∈ tt := tt_c3 _ (List.mem_of_getElem? (i := 16) (by rfl))
set_option maxRecDepth 20000 in
theorem m_388 : (Jvm.Cond.selects "PrefixMill" ({ cls := "PrefixMill", name := "turn", desc := "()V" } : Jvm.MethodName) ({ cls := "PrefixMill", name := "turn", desc := "()V" } : Jvm.MethodName)) ∈ tt := tt_c3 _ (List.mem_of_getElem? (i := 17) (by rfl))
set_option maxRecDepth 20000 in
theorem m_389 : (Jvm.Cond.code ({ cls := "PrefixMill", name := "turn", desc := "()V" } : Jvm.MethodName) prog_1_method_4_code (1 : Nat) (Option.none : Option Jvm.ClassFile.FieldType)) ∈ tt := tt_c3 _ (List.mem_of_getElem? (i := 18) (by rfl))
set_option maxRecDepth 20000 in
theorem m_390 : (Jvm.Cond.methodLink "PrefixMill" (74 : Nat) ({ cls := "PrefixMill$Row", name := "copy", desc := "(LPrefixMill$Row;)V" } : Jvm.MethodName)) ∈ tt := tt_c3 _ (List.mem_of_getElem? (i := 19) (by rfl))
set_option maxRecDepth 20000 in
theorem m_391 : (Jvm.Cond.instanceMethod ({ cls := "PrefixMill$Row", name := "copy", desc := "(LPrefixMill$Row;)V" } : Jvm.MethodName)) ∈ tt := tt_c3 _ (List.mem_of_getElem? (i := 20) (by rfl))
set_option maxRecDepth 20000 in
theorem m_392 : (Jvm.Cond.selects "PrefixMill$Row" ({ cls := "PrefixMill$Row", name := "copy", desc := "(LPrefixMill$Row;)V" } : Jvm.MethodName) ({ cls := "PrefixMill$Row", name := "copy", desc := "(LPrefixMill$Row;)V" } : Jvm.MethodName)) ∈ tt := tt_c3 _ (List.mem_of_getElem? (i := 21) (by rfl))
set_option maxRecDepth 20000 in
theorem m_393 : (Jvm.Cond.code ({ cls := "PrefixMill$Row", name := "copy", desc := "(LPrefixMill$Row;)V" } : Jvm.MethodName) prog_5_method_6_code (3 : Nat) (Option.none : Option Jvm.ClassFile.FieldType)) ∈ tt := tt_c3 _ (List.mem_of_getElem? (i := 22) (by rfl))
set_option maxRecDepth 20000 in
theorem m_394 : (Jvm.Cond.methodLink "PrefixMill$Row" (34 : Nat) ({ cls := "java/lang/Math", name := "min", desc := "(II)I" } : Jvm.MethodName)) ∈ tt := tt_c3 _ (List.mem_of_getElem? (i := 23) (by rfl))
set_option maxRecDepth 20000 in
theorem m_395 : (Jvm.Cond.static ({ cls := "java/lang/Math", name := "min", desc := "(II)I" } : Jvm.MethodName)) ∈ tt := tt_c3 _ (List.mem_of_getElem? (i := 24) (by rfl))
set_option maxRecDepth 20000 in
theorem m_396 : (Jvm.Cond.code ({ cls := "java/lang/Math", name := "min", desc := "(II)I" } : Jvm.MethodName) prog_13_method_69_code (2 : Nat) (Option.some Jvm.ClassFile.FieldType.int)) ∈ tt := tt_c3 _ (List.mem_of_getElem? (i := 25) (by rfl))
set_option maxRecDepth 20000 in
theorem m_397 : (Jvm.Cond.methodLink "PrefixMill$Row" (37 : Nat) ({ cls := "java/lang/System", name := "arraycopy", desc := "(Ljava/lang/Object;ILjava/lang/Object;II)V" } : Jvm.MethodName)) ∈ tt := tt_c3 _ (List.mem_of_getElem? (i := 26) (by rfl))
set_option maxRecDepth 20000 in
theorem m_398 : (Jvm.Cond.static ({ cls := "java/lang/System", name := "arraycopy", desc := "(Ljava/lang/Object;ILjava/lang/Object;II)V" } : Jvm.MethodName)) ∈ tt := tt_c3 _ (List.mem_of_getElem? (i := 27) (by rfl))
set_option maxRecDepth 20000 in
theorem m_399 : (Jvm.Cond.native ({ cls := "java/lang/System", name := "arraycopy", desc := "(Ljava/lang/Object;ILjava/lang/Object;II)V" } : Jvm.MethodName)) ∈ tt := tt_c3 _ (List.mem_of_getElem? (i := 28) (by rfl))
set_option maxRecDepth 20000 in
theorem m_400 : (Jvm.Cond.methodLink "PrefixMillLaw" (29 : Nat) ({ cls := "PrefixMill", name := "clear", desc := "()V" } : Jvm.MethodName)) ∈ tt := tt_c3 _ (List.mem_of_getElem? (i := 29) (by rfl))
set_option maxRecDepth 20000 in
theorem m_401 : (Jvm.Cond.instanceMethod ({ cls := "PrefixMill", name := "clear", desc := "()V" } : Jvm.MethodName)) ∈ tt := tt_c3 _ (List.mem_of_getElem? (i := 30) (by rfl))
set_option maxRecDepth 20000 in
theorem m_402 : (Jvm.Cond.selects "PrefixMill" ({ cls := "PrefixMill", name := "clear", desc := "()V" } : Jvm.MethodName) ({ cls := "PrefixMill", name := "clear", desc := "()V" } : Jvm.MethodName)) ∈ tt := tt_c3 _ (List.mem_of_getElem? (i := 31) (by rfl))
set_option maxRecDepth 20000 in
theorem m_403 : (Jvm.Cond.code ({ cls := "PrefixMill", name := "clear", desc := "()V" } : Jvm.MethodName) prog_1_method_5_code (1 : Nat) (Option.none : Option Jvm.ClassFile.FieldType)) ∈ tt := tt_c3 _ (List.mem_of_getElem? (i := 32) (by rfl))
set_option maxRecDepth 20000 in
theorem m_404 : (Jvm.Cond.methodLink "PrefixMill" (78 : Nat) ({ cls := "PrefixMill$Row", name := "empty", desc := "()V" } : Jvm.MethodName)) ∈ tt := tt_c3 _ (List.mem_of_getElem? (i := 33) (by rfl))
set_option maxRecDepth 20000 in
theorem m_405 : (Jvm.Cond.instanceMethod ({ cls := "PrefixMill$Row", name := "empty", desc := "()V" } : Jvm.MethodName)) ∈ tt := tt_c3 _ (List.mem_of_getElem? (i := 34) (by rfl))
set_option maxRecDepth 20000 in
theorem m_406 : (Jvm.Cond.selects "PrefixMill$Row" ({ cls := "PrefixMill$Row", name := "empty", desc := "()V" } : Jvm.MethodName) ({ cls := "PrefixMill$Row", name := "empty", desc := "()V" } : Jvm.MethodName)) ∈ tt := tt_c3 _ (List.mem_of_getElem? (i := 35) (by rfl))
set_option maxRecDepth 20000 in
theorem m_407 : (Jvm.Cond.code ({ cls := "PrefixMill$Row", name := "empty", desc := "()V" } : Jvm.MethodName) prog_5_method_2_code (1 : Nat) (Option.none : Option Jvm.ClassFile.FieldType)) ∈ tt := tt_c3 _ (List.mem_of_getElem? (i := 36) (by rfl))
set_option maxRecDepth 20000 in
theorem m_408 : (Jvm.Cond.methodLink "PrefixMill" (81 : Nat) ({ cls := "java/util/Arrays", name := "fill", desc := "([II)V" } : Jvm.MethodName)) ∈ tt := tt_c3 _ (List.mem_of_getElem? (i := 37) (by rfl))
set_option maxRecDepth 20000 in
theorem m_409 : (Jvm.Cond.static ({ cls := "java/util/Arrays", name := "fill", desc := "([II)V" } : Jvm.MethodName)) ∈ tt := tt_c3 _ (List.mem_of_getElem? (i := 38) (by rfl))
set_option maxRecDepth 20000 in
theorem m_410 : (Jvm.Cond.code ({ cls := "java/util/Arrays", name := "fill", desc := "([II)V" } : Jvm.MethodName) prog_15_method_103_code (4 : Nat) (Option.none : Option Jvm.ClassFile.FieldType)) ∈ tt := tt_c3 _ (List.mem_of_getElem? (i := 39) (by rfl))
set_option maxRecDepth 20000 in
theorem m_411 : (Jvm.Cond.methodLink "PrefixMillLaw" (33 : Nat) ({ cls := "PrefixMill", name := "place", desc := "(I)Z" } : Jvm.MethodName)) ∈ tt := tt_c3 _ (List.mem_of_getElem? (i := 40) (by rfl))
set_option maxRecDepth 20000 in
theorem m_412 : (Jvm.Cond.instanceMethod ({ cls := "PrefixMill", name := "place", desc := "(I)Z" } : Jvm.MethodName)) ∈ tt := tt_c3 _ (List.mem_of_getElem? (i := 41) (by rfl))
set_option maxRecDepth 20000 in
theorem m_413 : (Jvm.Cond.selects "PrefixMill" ({ cls := "PrefixMill", name := "place", desc := "(I)Z" } : Jvm.MethodName) ({ cls := "PrefixMill", name := "place", desc := "(I)Z" } : Jvm.MethodName)) ∈ tt := tt_c3 _ (List.mem_of_getElem? (i := 42) (by rfl))
set_option maxRecDepth 20000 in
theorem m_414 : (Jvm.Cond.code ({ cls := "PrefixMill", name := "place", desc := "(I)Z" } : Jvm.MethodName) prog_1_method_6_code (2 : Nat) (Option.some Jvm.ClassFile.FieldType.boolean)) ∈ tt := tt_c3 _ (List.mem_of_getElem? (i := 43) (by rfl))
set_option maxRecDepth 20000 in
theorem m_415 : (Jvm.Cond.methodLink "PrefixMillLaw" (38 : Nat) ({ cls := "PrefixMill", name := "at", desc := "()I" } : Jvm.MethodName)) ∈ tt := tt_c3 _ (List.mem_of_getElem? (i := 44) (by rfl))
set_option maxRecDepth 20000 in
theorem m_416 : (Jvm.Cond.instanceMethod ({ cls := "PrefixMill", name := "at", desc := "()I" } : Jvm.MethodName)) ∈ tt := tt_c3 _ (List.mem_of_getElem? (i := 45) (by rfl))
set_option maxRecDepth 20000 in
theorem m_417 : (Jvm.Cond.selects "PrefixMill" ({ cls := "PrefixMill", name := "at", desc := "()I" } : Jvm.MethodName) ({ cls := "PrefixMill", name := "at", desc := "()I" } : Jvm.MethodName)) ∈ tt := tt_c3 _ (List.mem_of_getElem? (i := 46) (by rfl))
set_option maxRecDepth 20000 in
theorem m_418 : (Jvm.Cond.code ({ cls := "PrefixMill", name := "at", desc := "()I" } : Jvm.MethodName) prog_1_method_7_code (1 : Nat) (Option.some Jvm.ClassFile.FieldType.int)) ∈ tt := tt_c3 _ (List.mem_of_getElem? (i := 47) (by rfl))
set_option maxRecDepth 20000 in
theorem m_419 : (Jvm.Cond.methodLink "PrefixMillLaw" (43 : Nat) ({ cls := "PrefixMill", name := "count", desc := "(II)Z" } : Jvm.MethodName)) ∈ tt := tt_c3 _ (List.mem_of_getElem? (i := 48) (by rfl))
set_option maxRecDepth 20000 in
theorem m_420 : (Jvm.Cond.instanceMethod ({ cls := "PrefixMill", name := "count", desc := "(II)Z" } : Jvm.MethodName)) ∈ tt := tt_c3 _ (List.mem_of_getElem? (i := 49) (by rfl))
set_option maxRecDepth 20000 in
theorem m_421 : (Jvm.Cond.selects "PrefixMill" ({ cls := "PrefixMill", name := "count", desc := "(II)Z" } : Jvm.MethodName) ({ cls := "PrefixMill", name := "count", desc := "(II)Z" } : Jvm.MethodName)) ∈ tt := tt_c3 _ (List.mem_of_getElem? (i := 50) (by rfl))
set_option maxRecDepth 20000 in
theorem m_422 : (Jvm.Cond.code ({ cls := "PrefixMill", name := "count", desc := "(II)Z" } : Jvm.MethodName) prog_1_method_8_code (3 : Nat) (Option.some Jvm.ClassFile.FieldType.boolean)) ∈ tt := tt_c3 _ (List.mem_of_getElem? (i := 51) (by rfl))
set_option maxRecDepth 20000 in
theorem m_423 : (Jvm.Cond.methodLink "PrefixMill" (87 : Nat) ({ cls := "PrefixMill", name := "isSymbol", desc := "(I)Z" } : Jvm.MethodName)) ∈ tt := tt_c3 _ (List.mem_of_getElem? (i := 52) (by rfl))
set_option maxRecDepth 20000 in
theorem m_424 : (Jvm.Cond.static ({ cls := "PrefixMill", name := "isSymbol", desc := "(I)Z" } : Jvm.MethodName)) ∈ tt := tt_c3 _ (List.mem_of_getElem? (i := 53) (by rfl))
set_option maxRecDepth 20000 in
theorem m_425 : (Jvm.Cond.code ({ cls := "PrefixMill", name := "isSymbol", desc := "(I)Z" } : Jvm.MethodName) prog_1_method_20_code (1 : Nat) (Option.some Jvm.ClassFile.FieldType.boolean)) ∈ tt := tt_c3 _ (List.mem_of_getElem? (i := 54) (by rfl))
set_option maxRecDepth 20000 in
theorem m_426 : (Jvm.Cond.constant "PrefixMill" (91 : Nat) (65535 : Int32)) ∈ tt := tt_c3 _ (List.mem_of_getElem? (i := 55) (by rfl))
set_option maxRecDepth 20000 in
theorem m_427 : (Jvm.Cond.methodLink "PrefixMillLaw" (47 : Nat) ({ cls := "PrefixMill", name := "countAll", desc := "()I" } : Jvm.MethodName)) ∈ tt := tt_c3 _ (List.mem_of_getElem? (i := 56) (by rfl))
set_option maxRecDepth 20000 in
theorem m_428 : (Jvm.Cond.instanceMethod ({ cls := "PrefixMill", name := "countAll", desc := "()I" } : Jvm.MethodName)) ∈ tt := tt_c3 _ (List.mem_of_getElem? (i := 57) (by rfl))
set_option maxRecDepth 20000 in
theorem m_429 : (Jvm.Cond.selects "PrefixMill" ({ cls := "PrefixMill", name := "countAll", desc := "()I" } : Jvm.MethodName) ({ cls := "PrefixMill", name := "countAll", desc := "()I" } : Jvm.MethodName)) ∈ tt := tt_c3 _ (List.mem_of_getElem? (i := 58) (by rfl))
set_option maxRecDepth 20000 in
theorem m_430 : (Jvm.Cond.code ({ cls := "PrefixMill", name := "countAll", desc := "()I" } : Jvm.MethodName) prog_1_method_9_code (2 : Nat) (Option.some Jvm.ClassFile.FieldType.int)) ∈ tt := tt_c3 _ (List.mem_of_getElem? (i := 59) (by rfl))
set_option maxRecDepth 20000 in
theorem m_431 : (Jvm.Cond.methodLink "PrefixMillLaw" (51 : Nat) ({ cls := "PrefixMill", name := "lengths", desc := "(I)I" } : Jvm.MethodName)) ∈ tt := tt_c3 _ (List.mem_of_getElem? (i := 60) (by rfl))
set_option maxRecDepth 20000 in
theorem m_432 : (Jvm.Cond.instanceMethod ({ cls := "PrefixMill", name := "lengths", desc := "(I)I" } : Jvm.MethodName)) ∈ tt := tt_c3 _ (List.mem_of_getElem? (i := 61) (by rfl))
set_option maxRecDepth 20000 in
theorem m_433 : (Jvm.Cond.selects "PrefixMill" ({ cls := "PrefixMill", name := "lengths", desc := "(I)I" } : Jvm.MethodName) ({ cls := "PrefixMill", name := "lengths", desc := "(I)I" } : Jvm.MethodName)) ∈ tt := tt_c3 _ (List.mem_of_getElem? (i := 62) (by rfl))
set_option maxRecDepth 20000 in
theorem m_434 : (Jvm.Cond.code ({ cls := "PrefixMill", name := "lengths", desc := "(I)I" } : Jvm.MethodName) prog_1_method_10_code (3 : Nat) (Option.some Jvm.ClassFile.FieldType.int)) ∈ tt := tt_c3 _ (List.mem_of_getElem? (i := 63) (by rfl))
set_option maxRecDepth 20000 in
theorem m_435 : (Jvm.Cond.methodLink "PrefixMill" (92 : Nat) ({ cls := "PrefixMill$Tree", name := "plant", desc := "([I)I" } : Jvm.MethodName)) ∈ tt := tt_c3 _ (List.mem_of_getElem? (i := 64) (by rfl))
set_option maxRecDepth 20000 in
theorem m_436 : (Jvm.Cond.instanceMethod ({ cls := "PrefixMill$Tree", name := "plant", desc := "([I)I" } : Jvm.MethodName)) ∈ tt := tt_c3 _ (List.mem_of_getElem? (i := 65) (by rfl))
set_option maxRecDepth 20000 in
theorem m_437 : (Jvm.Cond.selects "PrefixMill$Tree" ({ cls := "PrefixMill$Tree", name := "plant", desc := "([I)I" } : Jvm.MethodName) ({ cls := "PrefixMill$Tree", name := "plant", desc := "([I)I" } : Jvm.MethodName)) ∈ tt := tt_c3 _ (List.mem_of_getElem? (i := 66) (by rfl))
set_option maxRecDepth 20000 in
theorem m_438 : (Jvm.Cond.code ({ cls := "PrefixMill$Tree", name := "plant", desc := "([I)I" } : Jvm.MethodName) prog_9_method_2_code (3 : Nat) (Option.some Jvm.ClassFile.FieldType.int)) ∈ tt := tt_c3 _ (List.mem_of_getElem? (i := 67) (by rfl))
set_option maxRecDepth 20000 in
theorem m_439 : (Jvm.Cond.methodLink "PrefixMill" (96 : Nat) ({ cls := "PrefixMill$Tree", name := "grow", desc := "(I)V" } : Jvm.MethodName)) ∈ tt := tt_c3 _ (List.mem_of_getElem? (i := 68) (by rfl))
set_option maxRecDepth 20000 in
theorem m_440 : (Jvm.Cond.instanceMethod ({ cls := "PrefixMill$Tree", name := "grow", desc := "(I)V" } : Jvm.MethodName)) ∈ tt := tt_c3 _ (List.mem_of_getElem? (i := 69) (by rfl))
set_option maxRecDepth 20000 in
theorem m_441 : (Jvm.Cond.selects "PrefixMill$Tree" ({ cls := "PrefixMill$Tree", name := "grow", desc := "(I)V" } : Jvm.MethodName) ({ cls := "PrefixMill$Tree", name := "grow", desc := "(I)V" } : Jvm.MethodName)) ∈ tt := tt_c3 _ (List.mem_of_getElem? (i := 70) (by rfl))
set_option maxRecDepth 20000 in
theorem m_442 : (Jvm.Cond.code ({ cls := "PrefixMill$Tree", name := "grow", desc := "(I)V" } : Jvm.MethodName) prog_9_method_3_code (3 : Nat) (Option.none : Option Jvm.ClassFile.FieldType)) ∈ tt := tt_c3 _ (List.mem_of_getElem? (i := 71) (by rfl))
set_option maxRecDepth 20000 in
theorem m_443 : (Jvm.Cond.methodLink "PrefixMill$Tree" (40 : Nat) ({ cls := "PrefixMill$Tree", name := "sortLeaves", desc := "()V" } : Jvm.MethodName)) ∈ tt := tt_c3 _ (List.mem_of_getElem? (i := 72) (by rfl))
set_option maxRecDepth 20000 in
theorem m_445 : (Jvm.Cond.instanceMethod ({ cls := "PrefixMill$Tree", name := "sortLeaves", desc := "()V" } : Jvm.MethodName)) ∈ tt := tt_c3 _ (List.mem_of_getElem? (i := 73) (by rfl))
set_option maxRecDepth 20000 in
theorem m_446 : (Jvm.Cond.code ({ cls := "PrefixMill$Tree", name := "sortLeaves", desc := "()V" } : Jvm.MethodName) prog_9_method_5_code (3 : Nat) (Option.none : Option Jvm.ClassFile.FieldType)) ∈ tt := tt_c3 _ (List.mem_of_getElem? (i := 74) (by rfl))
set_option maxRecDepth 20000 in
theorem m_447 : (Jvm.Cond.methodLink "PrefixMill$Tree" (53 : Nat) ({ cls := "PrefixMill$Tree", name := "sortByByte", desc := "([I[II)V" } : Jvm.MethodName)) ∈ tt := tt_c3 _ (List.mem_of_getElem? (i := 75) (by rfl))
set_option maxRecDepth 20000 in
theorem m_449 : (Jvm.Cond.instanceMethod ({ cls := "PrefixMill$Tree", name := "sortByByte", desc := "([I[II)V" } : Jvm.MethodName)) ∈ tt := tt_c3 _ (List.mem_of_getElem? (i := 76) (by rfl))
set_option maxRecDepth 20000 in
theorem m_450 : (Jvm.Cond.code ({ cls := "PrefixMill$Tree", name := "sortByByte", desc := "([I[II)V" } : Jvm.MethodName) prog_9_method_6_code (6 : Nat) (Option.none : Option Jvm.ClassFile.FieldType)) ∈ tt := tt_c3 _ (List.mem_of_getElem? (i := 77) (by rfl))
set_option maxRecDepth 20000 in
theorem m_451 : (Jvm.Cond.methodLink "PrefixMill$Tree" (57 : Nat) ({ cls := "java/util/Arrays", name := "fill", desc := "([II)V" } : Jvm.MethodName)) ∈ tt := tt_c3 _ (List.mem_of_getElem? (i := 78) (by rfl))
set_option maxRecDepth 20000 in
theorem m_452 : (Jvm.Cond.methodLink "PrefixMill$Tree" (43 : Nat) ({ cls := "PrefixMill$Tree", name := "join", desc := "()V" } : Jvm.MethodName)) ∈ tt := tt_c3 _ (List.mem_of_getElem? (i := 79) (by rfl))
set_option maxRecDepth 20000 in
theorem m_454 : (Jvm.Cond.instanceMethod ({ cls := "PrefixMill$Tree", name := "join", desc := "()V" } : Jvm.MethodName)) ∈ tt := tt_c3 _ (List.mem_of_getElem? (i := 80) (by rfl))
set_option maxRecDepth 20000 in
theorem m_455 : (Jvm.Cond.code ({ cls := "PrefixMill$Tree", name := "join", desc := "()V" } : Jvm.MethodName) prog_9_method_7_code (4 : Nat) (Option.none : Option Jvm.ClassFile.FieldType)) ∈ tt := tt_c3 _ (List.mem_of_getElem? (i := 81) (by rfl))
set_option maxRecDepth 20000 in
theorem m_456 : (Jvm.Cond.methodLink "PrefixMill$Tree" (69 : Nat) ({ cls := "PrefixMill$Tree", name := "least", desc := "(I)I" } : Jvm.MethodName)) ∈ tt := tt_c3 _ (List.mem_of_getElem? (i := 82) (by rfl))
set_option maxRecDepth 20000 in
theorem m_458 : (Jvm.Cond.instanceMethod ({ cls := "PrefixMill$Tree", name := "least", desc := "(I)I" } : Jvm.MethodName)) ∈ tt := tt_c3 _ (List.mem_of_getElem? (i := 83) (by rfl))
set_option maxRecDepth 20000 in
theorem m_459 : (Jvm.Cond.code ({ cls := "PrefixMill$Tree", name := "least", desc := "(I)I" } : Jvm.MethodName) prog_9_method_8_code (2 : Nat) (Option.some Jvm.ClassFile.FieldType.int)) ∈ tt := tt_c3 _ (List.mem_of_getElem? (i := 84) (by rfl))
set_option maxRecDepth 20000 in
theorem m_460 : (Jvm.Cond.methodLink "PrefixMill$Tree" (46 : Nat) ({ cls := "PrefixMill$Tree", name := "measure", desc := "()I" } : Jvm.MethodName)) ∈ tt := tt_c3 _ (List.mem_of_getElem? (i := 85) (by rfl))
set_option maxRecDepth 20000 in
theorem m_462 : (Jvm.Cond.instanceMethod ({ cls := "PrefixMill$Tree", name := "measure", desc := "()I" } : Jvm.MethodName)) ∈ tt := tt_c3 _ (List.mem_of_getElem? (i := 86) (by rfl))
set_option maxRecDepth 20000 in
theorem m_463 : (Jvm.Cond.code ({ cls := "PrefixMill$Tree", name := "measure", desc := "()I" } : Jvm.MethodName) prog_9_method_9_code (3 : Nat) (Option.some Jvm.ClassFile.FieldType.int)) ∈ tt := tt_c3 _ (List.mem_of_getElem? (i := 87) (by rfl))
set_option maxRecDepth 20000 in
theorem m_464 : (Jvm.Cond.methodLinkNest "PrefixMill$Tree" (73 : Nat) ({ cls := "PrefixMill", name := "greatestOf", desc := "([I)I" } : Jvm.MethodName) "PrefixMill") ∈ tt := tt_c3 _ (List.mem_of_getElem? (i := 88) (by rfl))
set_option maxRecDepth 20000 in
theorem m_465 : (Jvm.Cond.static ({ cls := "PrefixMill", name := "greatestOf", desc := "([I)I" } : Jvm.MethodName)) ∈ tt := tt_c3 _ (List.mem_of_getElem? (i := 89) (by rfl))
set_option maxRecDepth 20000 in
theorem m_466 : (Jvm.Cond.code ({ cls := "PrefixMill", name := "greatestOf", desc := "([I)I" } : Jvm.MethodName) prog_1_method_23_code (3 : Nat) (Option.some Jvm.ClassFile.FieldType.int)) ∈ tt := tt_c3 _ (List.mem_of_getElem? (i := 90) (by rfl))
set_option maxRecDepth 20000 in
theorem m_467 : (Jvm.Cond.methodLink "PrefixMill" (161 : Nat) ({ cls := "java/lang/Math", name := "max", desc := "(II)I" } : Jvm.MethodName)) ∈ tt := tt_c3 _ (List.mem_of_getElem? (i := 91) (by rfl))
set_option maxRecDepth 20000 in
theorem m_468 : (Jvm.Cond.static ({ cls := "java/lang/Math", name := "max", desc := "(II)I" } : Jvm.MethodName)) ∈ tt := tt_c3 _ (List.mem_of_getElem? (i := 92) (by rfl))
set_option maxRecDepth 20000 in
theorem m_469 : (Jvm.Cond.code ({ cls := "java/lang/Math", name := "max", desc := "(II)I" } : Jvm.MethodName) prog_13_method_65_code (2 : Nat) (Option.some Jvm.ClassFile.FieldType.int)) ∈ tt := tt_c3 _ (List.mem_of_getElem? (i := 93) (by rfl))
set_option maxRecDepth 20000 in
theorem m_470 : (Jvm.Cond.methodLink "PrefixMill$Tree" (50 : Nat) ({ cls := "PrefixMill$Tree", name := "halve", desc := "()V" } : Jvm.MethodName)) ∈ tt := tt_c3 _ (List.mem_of_getElem? (i := 94) (by rfl))
set_option maxRecDepth 20000 in
theorem m_472 : (Jvm.Cond.instanceMethod ({ cls := "PrefixMill$Tree", name := "halve", desc := "()V" } : Jvm.MethodName)) ∈ tt := tt_c3 _ (List.mem_of_getElem? (i := 95) (by rfl))
set_option maxRecDepth 20000 in
theorem m_473 : (Jvm.Cond.code ({ cls := "PrefixMill$Tree", name := "halve", desc := "()V" } : Jvm.MethodName) prog_9_method_4_code (2 : Nat) (Option.none : Option Jvm.ClassFile.FieldType)) ∈ tt := tt_c3 _ (List.mem_of_getElem? (i := 96) (by rfl))
set_option maxRecDepth 20000 in
theorem m_474 : (Jvm.Cond.methodLink "PrefixMill" (102 : Nat) ({ cls := "PrefixMill$Codes", name := "become", desc := "([I)I" } : Jvm.MethodName)) ∈ tt := tt_c3 _ (List.mem_of_getElem? (i := 97) (by rfl))
set_option maxRecDepth 20000 in
theorem m_475 : (Jvm.Cond.instanceMethod ({ cls := "PrefixMill$Codes", name := "become", desc := "([I)I" } : Jvm.MethodName)) ∈ tt := tt_c3 _ (List.mem_of_getElem? (i := 98) (by rfl))
set_option maxRecDepth 20000 in
theorem m_476 : (Jvm.Cond.selects "PrefixMill$Codes" ({ cls := "PrefixMill$Codes", name := "become", desc := "([I)I" } : Jvm.MethodName) ({ cls := "PrefixMill$Codes", name := "become", desc := "([I)I" } : Jvm.MethodName)) ∈ tt := tt_c3 _ (List.mem_of_getElem? (i := 99) (by rfl))
set_option maxRecDepth 20000 in
theorem m_477 : (Jvm.Cond.code ({ cls := "PrefixMill$Codes", name := "become", desc := "([I)I" } : Jvm.MethodName) prog_2_method_3_code (3 : Nat) (Option.some Jvm.ClassFile.FieldType.int)) ∈ tt := tt_c4 _ (List.mem_of_getElem? (i := 0) (by rfl))
set_option maxRecDepth 20000 in
theorem m_478 : (Jvm.Cond.methodLinkNest "PrefixMill$Codes" (25 : Nat) ({ cls := "PrefixMill", name := "greatestOf", desc := "([I)I" } : Jvm.MethodName) "PrefixMill") ∈ tt := tt_c4 _ (List.mem_of_getElem? (i := 1) (by rfl))
set_option maxRecDepth 20000 in
theorem m_479 : (Jvm.Cond.methodLink "PrefixMill$Codes" (35 : Nat) ({ cls := "PrefixMill$Codes", name := "fillCells", desc := "()V" } : Jvm.MethodName)) ∈ tt := tt_c4 _ (List.mem_of_getElem? (i := 2) (by rfl))
set_option maxRecDepth 20000 in
theorem m_481 : (Jvm.Cond.instanceMethod ({ cls := "PrefixMill$Codes", name := "fillCells", desc := "()V" } : Jvm.MethodName)) ∈ tt := tt_c4 _ (List.mem_of_getElem? (i := 3) (by rfl))
set_option maxRecDepth 20000 in
theorem m_482 : (Jvm.Cond.code ({ cls := "PrefixMill$Codes", name := "fillCells", desc := "()V" } : Jvm.MethodName) prog_2_method_4_code (4 : Nat) (Option.none : Option Jvm.ClassFile.FieldType)) ∈ tt := tt_c4 _ (List.mem_of_getElem? (i := 4) (by rfl))
set_option maxRecDepth 20000 in
theorem m_483 : (Jvm.Cond.methodLink "PrefixMill$Codes" (38 : Nat) ({ cls := "PrefixMill$Codes", name := "giveCells", desc := "(III)I" } : Jvm.MethodName)) ∈ tt := tt_c4 _ (List.mem_of_getElem? (i := 5) (by rfl))
set_option maxRecDepth 20000 in
theorem m_485 : (Jvm.Cond.instanceMethod ({ cls := "PrefixMill$Codes", name := "giveCells", desc := "(III)I" } : Jvm.MethodName)) ∈ tt := tt_c4 _ (List.mem_of_getElem? (i := 6) (by rfl))
set_option maxRecDepth 20000 in
theorem m_486 : (Jvm.Cond.code ({ cls := "PrefixMill$Codes", name := "giveCells", desc := "(III)I" } : Jvm.MethodName) prog_2_method_5_code (6 : Nat) (Option.some Jvm.ClassFile.FieldType.int)) ∈ tt := tt_c4 _ (List.mem_of_getElem? (i := 7) (by rfl))
set_option maxRecDepth 20000 in
theorem m_487 : (Jvm.Cond.methodLink "PrefixMill$Codes" (42 : Nat) ({ cls := "java/lang/Math", name := "min", desc := "(II)I" } : Jvm.MethodName)) ∈ tt := tt_c4 _ (List.mem_of_getElem? (i := 8) (by rfl))
set_option maxRecDepth 20000 in
theorem m_488 : (Jvm.Cond.methodLink "PrefixMillLaw" (56 : Nat) ({ cls := "PrefixMill", name := "just", desc := "()I" } : Jvm.MethodName)) ∈ tt := tt_c4 _ (List.mem_of_getElem? (i := 9) (by rfl))
set_option maxRecDepth 20000 in
theorem m_489 : (Jvm.Cond.instanceMethod ({ cls := "PrefixMill", name := "just", desc := "()I" } : Jvm.MethodName)) ∈ tt := tt_c4 _ (List.mem_of_getElem? (i := 10) (by rfl))
set_option maxRecDepth 20000 in
theorem m_490 : (Jvm.Cond.selects "PrefixMill" ({ cls := "PrefixMill", name := "just", desc := "()I" } : Jvm.MethodName) ({ cls := "PrefixMill", name := "just", desc := "()I" } : Jvm.MethodName)) ∈ tt := tt_c4 _ (List.mem_of_getElem? (i := 11) (by rfl))
set_option maxRecDepth 20000 in
theorem m_491 : (Jvm.Cond.code ({ cls := "PrefixMill", name := "just", desc := "()I" } : Jvm.MethodName) prog_1_method_11_code (1 : Nat) (Option.some Jvm.ClassFile.FieldType.int)) ∈ tt := tt_c4 _ (List.mem_of_getElem? (i := 12) (by rfl))
set_option maxRecDepth 20000 in
theorem m_492 : (Jvm.Cond.methodLink "PrefixMill" (105 : Nat) ({ cls := "PrefixMill", name := "areLengths", desc := "([I)Z" } : Jvm.MethodName)) ∈ tt := tt_c4 _ (List.mem_of_getElem? (i := 13) (by rfl))
set_option maxRecDepth 20000 in
theorem m_493 : (Jvm.Cond.static ({ cls := "PrefixMill", name := "areLengths", desc := "([I)Z" } : Jvm.MethodName)) ∈ tt := tt_c4 _ (List.mem_of_getElem? (i := 14) (by rfl))
set_option maxRecDepth 20000 in
theorem m_494 : (Jvm.Cond.code ({ cls := "PrefixMill", name := "areLengths", desc := "([I)Z" } : Jvm.MethodName) prog_1_method_22_code (4 : Nat) (Option.some Jvm.ClassFile.FieldType.boolean)) ∈ tt := tt_c4 _ (List.mem_of_getElem? (i := 15) (by rfl))
set_option maxRecDepth 20000 in
theorem m_495 : (Jvm.Cond.methodLink "PrefixMill" (158 : Nat) ({ cls := "PrefixMill", name := "greatestOf", desc := "([I)I" } : Jvm.MethodName)) ∈ tt := tt_c4 _ (List.mem_of_getElem? (i := 16) (by rfl))
set_option maxRecDepth 20000 in
theorem m_496 : (Jvm.Cond.methodLink "PrefixMillLaw" (60 : Nat) ({ cls := "PrefixMill", name := "describe", desc := "()I" } : Jvm.MethodName)) ∈ tt := tt_c4 _ (List.mem_of_getElem? (i := 17) (by rfl))
set_option maxRecDepth 20000 in
theorem m_497 : (Jvm.Cond.instanceMethod ({ cls := "PrefixMill", name := "describe", desc := "()I" } : Jvm.MethodName)) ∈ tt := tt_c4 _ (List.mem_of_getElem? (i := 18) (by rfl))
set_option maxRecDepth 20000 in
theorem m_498 : (Jvm.Cond.selects "PrefixMill" ({ cls := "PrefixMill", name := "describe", desc := "()I" } : Jvm.MethodName) ({ cls := "PrefixMill", name := "describe", desc := "()I" } : Jvm.MethodName)) ∈ tt := tt_c4 _ (List.mem_of_getElem? (i := 19) (by rfl))
set_option maxRecDepth 20000 in
theorem m_499 : (Jvm.Cond.code ({ cls := "PrefixMill", name := "describe", desc := "()I" } : Jvm.MethodName) prog_1_method_12_code (1 : Nat) (Option.some Jvm.ClassFile.FieldType.int)) ∈ tt := tt_c4 _ (List.mem_of_getElem? (i := 20) (by rfl))
set_option maxRecDepth 20000 in
theorem m_500 : (Jvm.Cond.methodLink "PrefixMill" (109 : Nat) ({ cls := "PrefixMill$Codes", name := "areThere", desc := "()Z" } : Jvm.MethodName)) ∈ tt := tt_c4 _ (List.mem_of_getElem? (i := 21) (by rfl))
set_option maxRecDepth 20000 in
theorem m_501 : (Jvm.Cond.instanceMethod ({ cls := "PrefixMill$Codes", name := "areThere", desc := "()Z" } : Jvm.MethodName)) ∈ tt := tt_c4 _ (List.mem_of_getElem? (i := 22) (by rfl))
set_option maxRecDepth 20000 in
theorem m_502 : (Jvm.Cond.selects "PrefixMill$Codes" ({ cls := "PrefixMill$Codes", name := "areThere", desc := "()Z" } : Jvm.MethodName) ({ cls := "PrefixMill$Codes", name := "areThere", desc := "()Z" } : Jvm.MethodName)) ∈ tt := tt_c4 _ (List.mem_of_getElem? (i := 23) (by rfl))
set_option maxRecDepth 20000 in
theorem m_503 : (Jvm.Cond.code ({ cls := "PrefixMill$Codes", name := "areThere", desc := "()Z" } : Jvm.MethodName) prog_2_method_2_code (1 : Nat) (Option.some Jvm.ClassFile.FieldType.boolean)) ∈ tt := tt_c4 _ (List.mem_of_getElem? (i := 24) (by rfl))
set_option maxRecDepth 20000 in
theorem m_504 : (Jvm.Cond.methodLink "PrefixMill" (113 : Nat) ({ cls := "PrefixMill$Writer", name := "describeCodes", desc := "(LPrefixMill$Codes;LPrefixMill$Row;)I" } : Jvm.MethodName)) ∈ tt := tt_c4 _ (List.mem_of_getElem? (i := 25) (by rfl))
set_option maxRecDepth 20000 in
theorem m_505 : (Jvm.Cond.instanceMethod ({ cls := "PrefixMill$Writer", name := "describeCodes", desc := "(LPrefixMill$Codes;LPrefixMill$Row;)I" } : Jvm.MethodName)) ∈ tt := tt_c4 _ (List.mem_of_getElem? (i := 26) (by rfl))
set_option maxRecDepth 20000 in
theorem m_506 : (Jvm.Cond.selects "PrefixMill$Writer" ({ cls := "PrefixMill$Writer", name := "describeCodes", desc := "(LPrefixMill$Codes;LPrefixMill$Row;)I" } : Jvm.MethodName) ({ cls := "PrefixMill$Writer", name := "describeCodes", desc := "(LPrefixMill$Codes;LPrefixMill$Row;)I" } : Jvm.MethodName)) ∈ tt := tt_c4 _ (List.mem_of_getElem? (i := 27) (by rfl))
set_option maxRecDepth 20000 in
theorem m_507 : (Jvm.Cond.code ({ cls := "PrefixMill$Writer", name := "describeCodes", desc := "(LPrefixMill$Codes;LPrefixMill$Row;)I" } : Jvm.MethodName) prog_10_method_2_code (8 : Nat) (Option.some Jvm.ClassFile.FieldType.int)) ∈ tt := tt_c4 _ (List.mem_of_getElem? (i := 28) (by rfl))
set_option maxRecDepth 20000 in
theorem m_508 : (Jvm.Cond.methodLink "PrefixMill$Writer" (36 : Nat) ({ cls := "PrefixMill$Writer", name := "takeWeights", desc := "(LPrefixMill$Codes;I)V" } : Jvm.MethodName)) ∈ tt := tt_c4 _ (List.mem_of_getElem? (i := 29) (by rfl))
set_option maxRecDepth 20000 in
theorem m_510 : (Jvm.Cond.instanceMethod ({ cls := "PrefixMill$Writer", name := "takeWeights", desc := "(LPrefixMill$Codes;I)V" } : Jvm.MethodName)) ∈ tt := tt_c4 _ (List.mem_of_getElem? (i := 30) (by rfl))
set_option maxRecDepth 20000 in
theorem m_511 : (Jvm.Cond.code ({ cls := "PrefixMill$Writer", name := "takeWeights", desc := "(LPrefixMill$Codes;I)V" } : Jvm.MethodName) prog_10_method_3_code (4 : Nat) (Option.none : Option Jvm.ClassFile.FieldType)) ∈ tt := tt_c4 _ (List.mem_of_getElem? (i := 31) (by rfl))
set_option maxRecDepth 20000 in
theorem m_512 : (Jvm.Cond.methodLink "PrefixMill$Writer" (64 : Nat) ({ cls := "java/util/Arrays", name := "fill", desc := "([II)V" } : Jvm.MethodName)) ∈ tt := tt_c4 _ (List.mem_of_getElem? (i := 32) (by rfl))
set_option maxRecDepth 20000 in
theorem m_513 : (Jvm.Cond.methodLink "PrefixMill$Writer" (70 : Nat) ({ cls := "PrefixMill$Codes", name := "weightOf", desc := "(I)I" } : Jvm.MethodName)) ∈ tt := tt_c4 _ (List.mem_of_getElem? (i := 33) (by rfl))
set_option maxRecDepth 20000 in
theorem m_514 : (Jvm.Cond.instanceMethod ({ cls := "PrefixMill$Codes", name := "weightOf", desc := "(I)I" } : Jvm.MethodName)) ∈ tt := tt_c4 _ (List.mem_of_getElem? (i := 34) (by rfl))
set_option maxRecDepth 20000 in
theorem m_515 : (Jvm.Cond.selects "PrefixMill$Codes" ({ cls := "PrefixMill$Codes", name := "weightOf", desc := "(I)I" } : Jvm.MethodName) ({ cls := "PrefixMill$Codes", name := "weightOf", desc := "(I)I" } : Jvm.MethodName)) ∈ tt := tt_c4 _ (List.mem_of_getElem? (i := 35) (by rfl))
set_option maxRecDepth 20000 in
theorem m_516 : (Jvm.Cond.code ({ cls := "PrefixMill$Codes", name := "weightOf", desc := "(I)I" } : Jvm.MethodName) prog_2_method_6_code (2 : Nat) (Option.some Jvm.ClassFile.FieldType.int)) ∈ tt := tt_c4 _ (List.mem_of_getElem? (i := 36) (by rfl))
set_option maxRecDepth 20000 in
theorem m_517 : (Jvm.Cond.methodLink "PrefixMill$Writer" (40 : Nat) ({ cls := "PrefixMill$Draft", name := "compose", desc := "([II[I)V" } : Jvm.MethodName)) ∈ tt := tt_c4 _ (List.mem_of_getElem? (i := 37) (by rfl))
set_option maxRecDepth 20000 in
theorem m_518 : (Jvm.Cond.instanceMethod ({ cls := "PrefixMill$Draft", name := "compose", desc := "([II[I)V" } : Jvm.MethodName)) ∈ tt := tt_c4 _ (List.mem_of_getElem? (i := 38) (by rfl))
set_option maxRecDepth 20000 in
theorem m_519 : (Jvm.Cond.selects "PrefixMill$Draft" ({ cls := "PrefixMill$Draft", name := "compose", desc := "([II[I)V" } : Jvm.MethodName) ({ cls := "PrefixMill$Draft", name := "compose", desc := "([II[I)V" } : Jvm.MethodName)) ∈ tt := tt_c4 _ (List.mem_of_getElem? (i := 39) (by rfl))
set_option maxRecDepth 20000 in
theorem m_520 : (Jvm.Cond.code ({ cls := "PrefixMill$Draft", name := "compose", desc := "([II[I)V" } : Jvm.MethodName) prog_3_method_2_code (8 : Nat) (Option.none : Option Jvm.ClassFile.FieldType)) ∈ tt := tt_c4 _ (List.mem_of_getElem? (i := 40) (by rfl))
set_option maxRecDepth 20000 in
theorem m_521 : (Jvm.Cond.methodLink "PrefixMill$Draft" (29 : Nat) ({ cls := "PrefixMill$Row", name := "empty", desc := "()V" } : Jvm.MethodName)) ∈ tt := tt_c4 _ (List.mem_of_getElem? (i := 41) (by rfl))
set_option maxRecDepth 20000 in
theorem m_522 : (Jvm.Cond.methodLink "PrefixMill$Draft" (32 : Nat) ({ cls := "PrefixMill$Share", name := "byCounts", desc := "(I[II)V" } : Jvm.MethodName)) ∈ tt := tt_c4 _ (List.mem_of_getElem? (i := 42) (by rfl))
set_option maxRecDepth 20000 in
theorem m_523 : (Jvm.Cond.instanceMethod ({ cls := "PrefixMill$Share", name := "byCounts", desc := "(I[II)V" } : Jvm.MethodName)) ∈ tt := tt_c4 _ (List.mem_of_getElem? (i := 43) (by rfl))
set_option maxRecDepth 20000 in
theorem m_524 : (Jvm.Cond.selects "PrefixMill$Share" ({ cls := "PrefixMill$Share", name := "byCounts", desc := "(I[II)V" } : Jvm.MethodName) ({ cls := "PrefixMill$Share", name := "byCounts", desc := "(I[II)V" } : Jvm.MethodName)) ∈ tt := tt_c4 _ (List.mem_of_getElem? (i := 44) (by rfl))
set_option maxRecDepth 20000 in
theorem m_525 : (Jvm.Cond.code ({ cls := "PrefixMill$Share", name := "byCounts", desc := "(I[II)V" } : Jvm.MethodName) prog_6_method_4_code (6 : Nat) (Option.none : Option Jvm.ClassFile.FieldType)) ∈ tt := tt_c4 _ (List.mem_of_getElem? (i := 45) (by rfl))
set_option maxRecDepth 20000 in
theorem m_526 : (Jvm.Cond.methodLink "PrefixMill$Share" (50 : Nat) ({ cls := "java/lang/Math", name := "max", desc := "(II)I" } : Jvm.MethodName)) ∈ tt := tt_c4 _ (List.mem_of_getElem? (i := 46) (by rfl))
set_option maxRecDepth 20000 in
theorem m_527 : (Jvm.Cond.methodLink "PrefixMill$Share" (56 : Nat) ({ cls := "PrefixMill$Share", name := "lacking", desc := "()I" } : Jvm.MethodName)) ∈ tt := tt_c4 _ (List.mem_of_getElem? (i := 47) (by rfl))
set_option maxRecDepth 20000 in
theorem m_529 : (Jvm.Cond.instanceMethod ({ cls := "PrefixMill$Share", name := "lacking", desc := "()I" } : Jvm.MethodName)) ∈ tt := tt_c4 _ (List.mem_of_getElem? (i := 48) (by rfl))
set_option maxRecDepth 20000 in
theorem m_530 : (Jvm.Cond.code ({ cls := "PrefixMill$Share", name := "lacking", desc := "()I" } : Jvm.MethodName) prog_6_method_3_code (3 : Nat) (Option.some Jvm.ClassFile.FieldType.int)) ∈ tt := tt_c4 _ (List.mem_of_getElem? (i := 49) (by rfl))
set_option maxRecDepth 20000 in
theorem m_531 : (Jvm.Cond.methodLink "PrefixMill$Share" (46 : Nat) ({ cls := "PrefixMill$Share", name := "massOf", desc := "(I)I" } : Jvm.MethodName)) ∈ tt := tt_c4 _ (List.mem_of_getElem? (i := 50) (by rfl))
set_option maxRecDepth 20000 in
theorem m_533 : (Jvm.Cond.instanceMethod ({ cls := "PrefixMill$Share", name := "massOf", desc := "(I)I" } : Jvm.MethodName)) ∈ tt := tt_c4 _ (List.mem_of_getElem? (i := 51) (by rfl))
set_option maxRecDepth 20000 in
theorem m_534 : (Jvm.Cond.code ({ cls := "PrefixMill$Share", name := "massOf", desc := "(I)I" } : Jvm.MethodName) prog_6_method_2_code (2 : Nat) (Option.some Jvm.ClassFile.FieldType.int)) ∈ tt := tt_c4 _ (List.mem_of_getElem? (i := 52) (by rfl))
set_option maxRecDepth 20000 in
theorem m_535 : (Jvm.Cond.methodLink "PrefixMill$Share" (60 : Nat) ({ cls := "PrefixMill$Share", name := "give", desc := "(I)V" } : Jvm.MethodName)) ∈ tt := tt_c4 _ (List.mem_of_getElem? (i := 53) (by rfl))
set_option maxRecDepth 20000 in
theorem m_537 : (Jvm.Cond.instanceMethod ({ cls := "PrefixMill$Share", name := "give", desc := "(I)V" } : Jvm.MethodName)) ∈ tt := tt_c4 _ (List.mem_of_getElem? (i := 54) (by rfl))
set_option maxRecDepth 20000 in
theorem m_538 : (Jvm.Cond.code ({ cls := "PrefixMill$Share", name := "give", desc := "(I)V" } : Jvm.MethodName) prog_6_method_5_code (4 : Nat) (Option.none : Option Jvm.ClassFile.FieldType)) ∈ tt := tt_c4 _ (List.mem_of_getElem? (i := 55) (by rfl))
set_option maxRecDepth 20000 in
theorem m_539 : (Jvm.Cond.methodLink "PrefixMill$Share" (70 : Nat) ({ cls := "PrefixMill$Share", name := "queueByCuts", desc := "()I" } : Jvm.MethodName)) ∈ tt := tt_c4 _ (List.mem_of_getElem? (i := 56) (by rfl))
set_option maxRecDepth 20000 in
theorem m_541 : (Jvm.Cond.instanceMethod ({ cls := "PrefixMill$Share", name := "queueByCuts", desc := "()I" } : Jvm.MethodName)) ∈ tt := tt_c4 _ (List.mem_of_getElem? (i := 57) (by rfl))
set_option maxRecDepth 20000 in
theorem m_542 : (Jvm.Cond.code ({ cls := "PrefixMill$Share", name := "queueByCuts", desc := "()I" } : Jvm.MethodName) prog_6_method_6_code (4 : Nat) (Option.some Jvm.ClassFile.FieldType.int)) ∈ tt := tt_c4 _ (List.mem_of_getElem? (i := 58) (by rfl))
set_option maxRecDepth 20000 in
theorem m_543 : (Jvm.Cond.methodLink "PrefixMill$Share" (64 : Nat) ({ cls := "PrefixMill$Share", name := "takeAway", desc := "(I)V" } : Jvm.MethodName)) ∈ tt := tt_c4 _ (List.mem_of_getElem? (i := 59) (by rfl))
set_option maxRecDepth 20000 in
theorem m_545 : (Jvm.Cond.instanceMethod ({ cls := "PrefixMill$Share", name := "takeAway", desc := "(I)V" } : Jvm.MethodName)) ∈ tt := tt_c4 _ (List.mem_of_getElem? (i := 60) (by rfl))
set_option maxRecDepth 20000 in
theorem m_546 : (Jvm.Cond.code ({ cls := "PrefixMill$Share", name := "takeAway", desc := "(I)V" } : Jvm.MethodName) prog_6_method_7_code (5 : Nat) (Option.none : Option Jvm.ClassFile.FieldType)) ∈ tt := tt_c4 _ (List.mem_of_getElem? (i := 61) (by rfl))
set_option maxRecDepth 20000 in
theorem m_547 : (Jvm.Cond.methodLink "PrefixMill$Share" (67 : Nat) ({ cls := "PrefixMill$Share", name := "layOut", desc := "()V" } : Jvm.MethodName)) ∈ tt := tt_c4 _ (List.mem_of_getElem? (i := 62) (by rfl))
set_option maxRecDepth 20000 in
theorem m_549 : (Jvm.Cond.instanceMethod ({ cls := "PrefixMill$Share", name := "layOut", desc := "()V" } : Jvm.MethodName)) ∈ tt := tt_c4 _ (List.mem_of_getElem? (i := 63) (by rfl))
set_option maxRecDepth 20000 in
theorem m_550 : (Jvm.Cond.code ({ cls := "PrefixMill$Share", name := "layOut", desc := "()V" } : Jvm.MethodName) prog_6_method_8_code (2 : Nat) (Option.none : Option Jvm.ClassFile.FieldType)) ∈ tt := tt_c4 _ (List.mem_of_getElem? (i := 64) (by rfl))
set_option maxRecDepth 20000 in
theorem m_551 : (Jvm.Cond.methodLink "PrefixMill$Share" (73 : Nat) ({ cls := "PrefixMill$Share", name := "giveHighest", desc := "()I" } : Jvm.MethodName)) ∈ tt := tt_c4 _ (List.mem_of_getElem? (i := 65) (by rfl))
set_option maxRecDepth 20000 in
theorem m_553 : (Jvm.Cond.instanceMethod ({ cls := "PrefixMill$Share", name := "giveHighest", desc := "()I" } : Jvm.MethodName)) ∈ tt := tt_c4 _ (List.mem_of_getElem? (i := 66) (by rfl))
set_option maxRecDepth 20000 in
theorem m_554 : (Jvm.Cond.code ({ cls := "PrefixMill$Share", name := "giveHighest", desc := "()I" } : Jvm.MethodName) prog_6_method_9_code (3 : Nat) (Option.some Jvm.ClassFile.FieldType.int)) ∈ tt := tt_c4 _ (List.mem_of_getElem? (i := 67) (by rfl))
set_option maxRecDepth 20000 in
theorem m_555 : (Jvm.Cond.methodLink "PrefixMill$Share" (76 : Nat) ({ cls := "PrefixMill$Share", name := "giveByWalk", desc := "(I)V" } : Jvm.MethodName)) ∈ tt := tt_c4 _ (List.mem_of_getElem? (i := 68) (by rfl))
set_option maxRecDepth 20000 in
theorem m_557 : (Jvm.Cond.instanceMethod ({ cls := "PrefixMill$Share", name := "giveByWalk", desc := "(I)V" } : Jvm.MethodName)) ∈ tt := tt_c4 _ (List.mem_of_getElem? (i := 69) (by rfl))
set_option maxRecDepth 20000 in
theorem m_558 : (Jvm.Cond.code ({ cls := "PrefixMill$Share", name := "giveByWalk", desc := "(I)V" } : Jvm.MethodName) prog_6_method_10_code (8 : Nat) (Option.none : Option Jvm.ClassFile.FieldType)) ∈ tt := tt_c4 _ (List.mem_of_getElem? (i := 70) (by rfl))
set_option maxRecDepth 20000 in
theorem m_559 : (Jvm.Cond.methodLink "PrefixMill$Share" (79 : Nat) ({ cls := "PrefixMill$Share", name := "rank", desc := "()V" } : Jvm.MethodName)) ∈ tt := tt_c4 _ (List.mem_of_getElem? (i := 71) (by rfl))
set_option maxRecDepth 20000 in
theorem m_561 : (Jvm.Cond.instanceMethod ({ cls := "PrefixMill$Share", name := "rank", desc := "()V" } : Jvm.MethodName)) ∈ tt := tt_c4 _ (List.mem_of_getElem? (i := 72) (by rfl))
set_option maxRecDepth 20000 in
theorem m_562 : (Jvm.Cond.code ({ cls := "PrefixMill$Share", name := "rank", desc := "()V" } : Jvm.MethodName) prog_6_method_11_code (6 : Nat) (Option.none : Option Jvm.ClassFile.FieldType)) ∈ tt := tt_c4 _ (List.mem_of_getElem? (i := 73) (by rfl))
set_option maxRecDepth 20000 in
theorem m_563 : (Jvm.Cond.methodLinkNest "PrefixMill$Share" (82 : Nat) ({ cls := "PrefixMill", name := "log2", desc := "(I)I" } : Jvm.MethodName) "PrefixMill") ∈ tt := tt_c4 _ (List.mem_of_getElem? (i := 74) (by rfl))
set_option maxRecDepth 20000 in
theorem m_564 : (Jvm.Cond.static ({ cls := "PrefixMill", name := "log2", desc := "(I)I" } : Jvm.MethodName)) ∈ tt := tt_c4 _ (List.mem_of_getElem? (i := 75) (by rfl))
set_option maxRecDepth 20000 in
theorem m_565 : (Jvm.Cond.code ({ cls := "PrefixMill", name := "log2", desc := "(I)I" } : Jvm.MethodName) prog_1_method_21_code (2 : Nat) (Option.some Jvm.ClassFile.FieldType.int)) ∈ tt := tt_c4 _ (List.mem_of_getElem? (i := 76) (by rfl))
set_option maxRecDepth 20000 in
theorem m_566 : (Jvm.Cond.methodLink "PrefixMill$Draft" (36 : Nat) ({ cls := "PrefixMill$Share", name := "put", desc := "(LPrefixMill$Row;)V" } : Jvm.MethodName)) ∈ tt := tt_c4 _ (List.mem_of_getElem? (i := 77) (by rfl))
set_option maxRecDepth 20000 in
theorem m_567 : (Jvm.Cond.instanceMethod ({ cls := "PrefixMill$Share", name := "put", desc := "(LPrefixMill$Row;)V" } : Jvm.MethodName)) ∈ tt := tt_c4 _ (List.mem_of_getElem? (i := 78) (by rfl))
set_option maxRecDepth 20000 in
theorem m_568 : (Jvm.Cond.selects "PrefixMill$Share" ({ cls := "PrefixMill$Share", name := "put", desc := "(LPrefixMill$Row;)V" } : Jvm.MethodName) ({ cls := "PrefixMill$Share", name := "put", desc := "(LPrefixMill$Row;)V" } : Jvm.MethodName)) ∈ tt := tt_c4 _ (List.mem_of_getElem? (i := 79) (by rfl))
set_option maxRecDepth 20000 in
theorem m_569 : (Jvm.Cond.code ({ cls := "PrefixMill$Share", name := "put", desc := "(LPrefixMill$Row;)V" } : Jvm.MethodName) prog_6_method_14_code (4 : Nat) (Option.none : Option Jvm.ClassFile.FieldType)) ∈ tt := tt_c4 _ (List.mem_of_getElem? (i := 80) (by rfl))
set_option maxRecDepth 20000 in
theorem m_570 : (Jvm.Cond.methodLink "PrefixMill$Share" (85 : Nat) ({ cls := "PrefixMill$Row", name := "put", desc := "(II)V" } : Jvm.MethodName)) ∈ tt := tt_c4 _ (List.mem_of_getElem? (i := 81) (by rfl))
set_option maxRecDepth 20000 in
theorem m_571 : (Jvm.Cond.instanceMethod ({ cls := "PrefixMill$Row", name := "put", desc := "(II)V" } : Jvm.MethodName)) ∈ tt := tt_c4 _ (List.mem_of_getElem? (i := 82) (by rfl))
set_option maxRecDepth 20000 in
theorem m_572 : (Jvm.Cond.selects "PrefixMill$Row" ({ cls := "PrefixMill$Row", name := "put", desc := "(II)V" } : Jvm.MethodName) ({ cls := "PrefixMill$Row", name := "put", desc := "(II)V" } : Jvm.MethodName)) ∈ tt := tt_c4 _ (List.mem_of_getElem? (i := 83) (by rfl))
set_option maxRecDepth 20000 in
theorem m_573 : (Jvm.Cond.code ({ cls := "PrefixMill$Row", name := "put", desc := "(II)V" } : Jvm.MethodName) prog_5_method_7_code (3 : Nat) (Option.none : Option Jvm.ClassFile.FieldType)) ∈ tt := tt_c4 _ (List.mem_of_getElem? (i := 84) (by rfl))
set_option maxRecDepth 20000 in
theorem m_574 : (Jvm.Cond.methodLink "PrefixMill$Row" (49 : Nat) ({ cls := "PrefixMill$Row", name := "add", desc := "(I)V" } : Jvm.MethodName)) ∈ tt := tt_c4 _ (List.mem_of_getElem? (i := 85) (by rfl))
set_option maxRecDepth 20000 in
theorem m_575 : (Jvm.Cond.methodLink "PrefixMill$Share" (91 : Nat) ({ cls := "PrefixMill$Share", name := "putPoints", desc := "(LPrefixMill$Row;II)V" } : Jvm.MethodName)) ∈ tt := tt_c4 _ (List.mem_of_getElem? (i := 86) (by rfl))
set_option maxRecDepth 20000 in
theorem m_576 : (Jvm.Cond.static ({ cls := "PrefixMill$Share", name := "putPoints", desc := "(LPrefixMill$Row;II)V" } : Jvm.MethodName)) ∈ tt := tt_c4 _ (List.mem_of_getElem? (i := 87) (by rfl))
set_option maxRecDepth 20000 in
theorem m_577 : (Jvm.Cond.code ({ cls := "PrefixMill$Share", name := "putPoints", desc := "(LPrefixMill$Row;II)V" } : Jvm.MethodName) prog_6_method_15_code (6 : Nat) (Option.none : Option Jvm.ClassFile.FieldType)) ∈ tt := tt_c4 _ (List.mem_of_getElem? (i := 88) (by rfl))
set_option maxRecDepth 20000 in
theorem m_578 : (Jvm.Cond.methodLink "PrefixMill$Share" (95 : Nat) ({ cls := "PrefixMill$Share", name := "putNone", desc := "(LPrefixMill$Row;I)I" } : Jvm.MethodName)) ∈ tt := tt_c4 _ (List.mem_of_getElem? (i := 89) (by rfl))
set_option maxRecDepth 20000 in
theorem m_580 : (Jvm.Cond.instanceMethod ({ cls := "PrefixMill$Share", name := "putNone", desc := "(LPrefixMill$Row;I)I" } : Jvm.MethodName)) ∈ tt := tt_c4 _ (List.mem_of_getElem? (i := 90) (by rfl))
set_option maxRecDepth 20000 in
theorem m_581 : (Jvm.Cond.code ({ cls := "PrefixMill$Share", name := "putNone", desc := "(LPrefixMill$Row;I)I" } : Jvm.MethodName) prog_6_method_16_code (5 : Nat) (Option.some Jvm.ClassFile.FieldType.int)) ∈ tt := tt_c4 _ (List.mem_of_getElem? (i := 91) (by rfl))
set_option maxRecDepth 20000 in
theorem m_582 : (Jvm.Cond.methodLink "PrefixMill$Share" (99 : Nat) ({ cls := "PrefixMill$Row", name := "pad", desc := "()V" } : Jvm.MethodName)) ∈ tt := tt_c4 _ (List.mem_of_getElem? (i := 92) (by rfl))
set_option maxRecDepth 20000 in
theorem m_583 : (Jvm.Cond.instanceMethod ({ cls := "PrefixMill$Row", name := "pad", desc := "()V" } : Jvm.MethodName)) ∈ tt := tt_c4 _ (List.mem_of_getElem? (i := 93) (by rfl))
set_option maxRecDepth 20000 in
theorem m_584 : (Jvm.Cond.selects "PrefixMill$Row" ({ cls := "PrefixMill$Row", name := "pad", desc := "()V" } : Jvm.MethodName) ({ cls := "PrefixMill$Row", name := "pad", desc := "()V" } : Jvm.MethodName)) ∈ tt := tt_c4 _ (List.mem_of_getElem? (i := 94) (by rfl))
set_option maxRecDepth 20000 in
theorem m_585 : (Jvm.Cond.code ({ cls := "PrefixMill$Row", name := "pad", desc := "()V" } : Jvm.MethodName) prog_5_method_8_code (1 : Nat) (Option.none : Option Jvm.ClassFile.FieldType)) ∈ tt := tt_c4 _ (List.mem_of_getElem? (i := 95) (by rfl))
set_option maxRecDepth 20000 in
theorem m_586 : (Jvm.Cond.methodLink "PrefixMill$Row" (53 : Nat) ({ cls := "PrefixMill$Row", name := "put", desc := "(II)V" } : Jvm.MethodName)) ∈ tt := tt_c4 _ (List.mem_of_getElem? (i := 96) (by rfl))
set_option maxRecDepth 20000 in
theorem m_587 : (Jvm.Cond.methodLink "PrefixMill$Draft" (40 : Nat) ({ cls := "PrefixMill$Share", name := "lowestPlace", desc := "(I)I" } : Jvm.MethodName)) ∈ tt := tt_c4 _ (List.mem_of_getElem? (i := 97) (by rfl))
set_option maxRecDepth 20000 in
theorem m_588 : (Jvm.Cond.instanceMethod ({ cls := "PrefixMill$Share", name := "lowestPlace", desc := "(I)I" } : Jvm.MethodName)) ∈ tt := tt_c4 _ (List.mem_of_getElem? (i := 98) (by rfl))
set_option maxRecDepth 20000 in
theorem m_589 : (Jvm.Cond.selects "PrefixMill$Share" ({ cls := "PrefixMill$Share", name := "lowestPlace", desc := "(I)I" } : Jvm.MethodName) ({ cls := "PrefixMill$Share", name := "lowestPlace", desc := "(I)I" } : Jvm.MethodName)) ∈ tt := tt_c4 _ (List.mem_of_getElem? (i := 99) (by rfl))
set_option maxRecDepth 20000 in
theorem m_590 : (Jvm.Cond.code ({ cls := "PrefixMill$Share", name := "lowestPlace", desc := "(I)I" } : Jvm.MethodName) prog_6_method_12_code (2 : Nat) (Option.some Jvm.ClassFile.FieldType.int)) ∈ tt := tt_c5 _ (List.mem_of_getElem? (i := 0) (by rfl))
set_option maxRecDepth 20000 in
theorem m_591 : (Jvm.Cond.methodLink "PrefixMill$Draft" (44 : Nat) ({ cls := "PrefixMill$Share", name := "placeBefore", desc := "(II)I" } : Jvm.MethodName)) ∈ tt := tt_c5 _ (List.mem_of_getElem? (i := 1) (by rfl))
set_option maxRecDepth 20000 in
theorem m_592 : (Jvm.Cond.instanceMethod ({ cls := "PrefixMill$Share", name := "placeBefore", desc := "(II)I" } : Jvm.MethodName)) ∈ tt := tt_c5 _ (List.mem_of_getElem? (i := 2) (by rfl))
set_option maxRecDepth 20000 in
theorem m_593 : (Jvm.Cond.selects "PrefixMill$Share" ({ cls := "PrefixMill$Share", name := "placeBefore", desc := "(II)I" } : Jvm.MethodName) ({ cls := "PrefixMill$Share", name := "placeBefore", desc := "(II)I" } : Jvm.MethodName)) ∈ tt := tt_c5 _ (List.mem_of_getElem? (i := 3) (by rfl))
set_option maxRecDepth 20000 in
theorem m_594 : (Jvm.Cond.code ({ cls := "PrefixMill$Share", name := "placeBefore", desc := "(II)I" } : Jvm.MethodName) prog_6_method_13_code (5 : Nat) (Option.some Jvm.ClassFile.FieldType.int)) ∈ tt := tt_c5 _ (List.mem_of_getElem? (i := 4) (by rfl))
set_option maxRecDepth 20000 in
theorem m_595 : (Jvm.Cond.methodLink "PrefixMill$Draft" (55 : Nat) ({ cls := "PrefixMill$Row", name := "put", desc := "(II)V" } : Jvm.MethodName)) ∈ tt := tt_c5 _ (List.mem_of_getElem? (i := 5) (by rfl))
set_option maxRecDepth 20000 in
theorem m_596 : (Jvm.Cond.methodLink "PrefixMill$Draft" (58 : Nat) ({ cls := "PrefixMill$Row", name := "finish", desc := "()V" } : Jvm.MethodName)) ∈ tt := tt_c5 _ (List.mem_of_getElem? (i := 6) (by rfl))
set_option maxRecDepth 20000 in
theorem m_597 : (Jvm.Cond.instanceMethod ({ cls := "PrefixMill$Row", name := "finish", desc := "()V" } : Jvm.MethodName)) ∈ tt := tt_c5 _ (List.mem_of_getElem? (i := 7) (by rfl))
set_option maxRecDepth 20000 in
theorem m_598 : (Jvm.Cond.selects "PrefixMill$Row" ({ cls := "PrefixMill$Row", name := "finish", desc := "()V" } : Jvm.MethodName) ({ cls := "PrefixMill$Row", name := "finish", desc := "()V" } : Jvm.MethodName)) ∈ tt := tt_c5 _ (List.mem_of_getElem? (i := 8) (by rfl))
set_option maxRecDepth 20000 in
theorem m_599 : (Jvm.Cond.code ({ cls := "PrefixMill$Row", name := "finish", desc := "()V" } : Jvm.MethodName) prog_5_method_9_code (1 : Nat) (Option.none : Option Jvm.ClassFile.FieldType)) ∈ tt := tt_c5 _ (List.mem_of_getElem? (i := 9) (by rfl))
set_option maxRecDepth 20000 in
theorem m_600 : (Jvm.Cond.methodLink "PrefixMill$Row" (57 : Nat) ({ cls := "PrefixMill$Row", name := "pad", desc := "()V" } : Jvm.MethodName)) ∈ tt := tt_c5 _ (List.mem_of_getElem? (i := 10) (by rfl))
set_option maxRecDepth 20000 in
theorem m_601 : (Jvm.Cond.methodLink "PrefixMill$Writer" (53 : Nat) ({ cls := "PrefixMill$Row", name := "empty", desc := "()V" } : Jvm.MethodName)) ∈ tt := tt_c5 _ (List.mem_of_getElem? (i := 11) (by rfl))
set_option maxRecDepth 20000 in
theorem m_602 : (Jvm.Cond.methodLink "PrefixMill$Writer" (56 : Nat) ({ cls := "PrefixMill$Writer", name := "putDirect", desc := "(LPrefixMill$Row;I)V" } : Jvm.MethodName)) ∈ tt := tt_c5 _ (List.mem_of_getElem? (i := 12) (by rfl))
set_option maxRecDepth 20000 in
theorem m_604 : (Jvm.Cond.instanceMethod ({ cls := "PrefixMill$Writer", name := "putDirect", desc := "(LPrefixMill$Row;I)V" } : Jvm.MethodName)) ∈ tt := tt_c5 _ (List.mem_of_getElem? (i := 13) (by rfl))
set_option maxRecDepth 20000 in
theorem m_605 : (Jvm.Cond.code ({ cls := "PrefixMill$Writer", name := "putDirect", desc := "(LPrefixMill$Row;I)V" } : Jvm.MethodName) prog_10_method_4_code (5 : Nat) (Option.none : Option Jvm.ClassFile.FieldType)) ∈ tt := tt_c5 _ (List.mem_of_getElem? (i := 14) (by rfl))
set_option maxRecDepth 20000 in
theorem m_606 : (Jvm.Cond.methodLink "PrefixMill$Writer" (74 : Nat) ({ cls := "PrefixMill$Row", name := "add", desc := "(I)V" } : Jvm.MethodName)) ∈ tt := tt_c5 _ (List.mem_of_getElem? (i := 15) (by rfl))
set_option maxRecDepth 20000 in
theorem m_607 : (Jvm.Cond.methodLink "PrefixMill$Writer" (60 : Nat) ({ cls := "PrefixMill$Writer", name := "putStates", desc := "(LPrefixMill$Row;LPrefixMill$Row;)V" } : Jvm.MethodName)) ∈ tt := tt_c5 _ (List.mem_of_getElem? (i := 16) (by rfl))
set_option maxRecDepth 20000 in
theorem m_608 : (Jvm.Cond.static ({ cls := "PrefixMill$Writer", name := "putStates", desc := "(LPrefixMill$Row;LPrefixMill$Row;)V" } : Jvm.MethodName)) ∈ tt := tt_c5 _ (List.mem_of_getElem? (i := 17) (by rfl))
set_option maxRecDepth 20000 in
theorem m_609 : (Jvm.Cond.code ({ cls := "PrefixMill$Writer", name := "putStates", desc := "(LPrefixMill$Row;LPrefixMill$Row;)V" } : Jvm.MethodName) prog_10_method_5_code (3 : Nat) (Option.none : Option Jvm.ClassFile.FieldType)) ∈ tt := tt_c5 _ (List.mem_of_getElem? (i := 18) (by rfl))
set_option maxRecDepth 20000 in
theorem m_610 : (Jvm.Cond.methodLink "PrefixMill$Writer" (77 : Nat) ({ cls := "PrefixMill$Row", name := "get", desc := "(I)I" } : Jvm.MethodName)) ∈ tt := tt_c5 _ (List.mem_of_getElem? (i := 19) (by rfl))
set_option maxRecDepth 20000 in
theorem m_611 : (Jvm.Cond.methodLink "PrefixMillLaw" (64 : Nat) ({ cls := "PrefixMill", name := "read", desc := "()I" } : Jvm.MethodName)) ∈ tt := tt_c5 _ (List.mem_of_getElem? (i := 20) (by rfl))
set_option maxRecDepth 20000 in
theorem m_612 : (Jvm.Cond.instanceMethod ({ cls := "PrefixMill", name := "read", desc := "()I" } : Jvm.MethodName)) ∈ tt := tt_c5 _ (List.mem_of_getElem? (i := 21) (by rfl))
set_option maxRecDepth 20000 in
theorem m_613 : (Jvm.Cond.selects "PrefixMill" ({ cls := "PrefixMill", name := "read", desc := "()I" } : Jvm.MethodName) ({ cls := "PrefixMill", name := "read", desc := "()I" } : Jvm.MethodName)) ∈ tt := tt_c5 _ (List.mem_of_getElem? (i := 22) (by rfl))
set_option maxRecDepth 20000 in
theorem m_614 : (Jvm.Cond.code ({ cls := "PrefixMill", name := "read", desc := "()I" } : Jvm.MethodName) prog_1_method_13_code (2 : Nat) (Option.some Jvm.ClassFile.FieldType.int)) ∈ tt := tt_c5 _ (List.mem_of_getElem? (i := 23) (by rfl))
set_option maxRecDepth 20000 in
theorem m_615 : (Jvm.Cond.methodLink "PrefixMill" (117 : Nat) ({ cls := "PrefixMill$Reader", name := "readCodes", desc := "(LPrefixMill$Row;I)I" } : Jvm.MethodName)) ∈ tt := tt_c5 _ (List.mem_of_getElem? (i := 24) (by rfl))
set_option maxRecDepth 20000 in
theorem m_616 : (Jvm.Cond.instanceMethod ({ cls := "PrefixMill$Reader", name := "readCodes", desc := "(LPrefixMill$Row;I)I" } : Jvm.MethodName)) ∈ tt := tt_c5 _ (List.mem_of_getElem? (i := 25) (by rfl))
set_option maxRecDepth 20000 in
theorem m_617 : (Jvm.Cond.selects "PrefixMill$Reader" ({ cls := "PrefixMill$Reader", name := "readCodes", desc := "(LPrefixMill$Row;I)I" } : Jvm.MethodName) ({ cls := "PrefixMill$Reader", name := "readCodes", desc := "(LPrefixMill$Row;I)I" } : Jvm.MethodName)) ∈ tt := tt_c5 _ (List.mem_of_getElem? (i := 26) (by rfl))
set_option maxRecDepth 20000 in
theorem m_618 : (Jvm.Cond.code ({ cls := "PrefixMill$Reader", name := "readCodes", desc := "(LPrefixMill$Row;I)I" } : Jvm.MethodName) prog_4_method_2_code (6 : Nat) (Option.some Jvm.ClassFile.FieldType.int)) ∈ tt := tt_c5 _ (List.mem_of_getElem? (i := 27) (by rfl))
set_option maxRecDepth 20000 in
theorem m_619 : (Jvm.Cond.methodLink "PrefixMill$Reader" (32 : Nat) ({ cls := "PrefixMill$Row", name := "get", desc := "(I)I" } : Jvm.MethodName)) ∈ tt := tt_c5 _ (List.mem_of_getElem? (i := 28) (by rfl))
set_option maxRecDepth 20000 in
theorem m_620 : (Jvm.Cond.methodLink "PrefixMill$Reader" (45 : Nat) ({ cls := "PrefixMill$Reader", name := "takeDirect", desc := "(LPrefixMill$Row;II)V" } : Jvm.MethodName)) ∈ tt := tt_c5 _ (List.mem_of_getElem? (i := 29) (by rfl))
set_option maxRecDepth 20000 in
theorem m_622 : (Jvm.Cond.instanceMethod ({ cls := "PrefixMill$Reader", name := "takeDirect", desc := "(LPrefixMill$Row;II)V" } : Jvm.MethodName)) ∈ tt := tt_c5 _ (List.mem_of_getElem? (i := 30) (by rfl))
set_option maxRecDepth 20000 in
theorem m_623 : (Jvm.Cond.code ({ cls := "PrefixMill$Reader", name := "takeDirect", desc := "(LPrefixMill$Row;II)V" } : Jvm.MethodName) prog_4_method_3_code (6 : Nat) (Option.none : Option Jvm.ClassFile.FieldType)) ∈ tt := tt_c5 _ (List.mem_of_getElem? (i := 31) (by rfl))
set_option maxRecDepth 20000 in
theorem m_624 : (Jvm.Cond.methodLink "PrefixMill$Reader" (49 : Nat) ({ cls := "PrefixMill$Share", name := "take", desc := "(LPrefixMill$Row;II)I" } : Jvm.MethodName)) ∈ tt := tt_c5 _ (List.mem_of_getElem? (i := 32) (by rfl))
set_option maxRecDepth 20000 in
theorem m_625 : (Jvm.Cond.instanceMethod ({ cls := "PrefixMill$Share", name := "take", desc := "(LPrefixMill$Row;II)I" } : Jvm.MethodName)) ∈ tt := tt_c5 _ (List.mem_of_getElem? (i := 33) (by rfl))
set_option maxRecDepth 20000 in
theorem m_626 : (Jvm.Cond.selects "PrefixMill$Share" ({ cls := "PrefixMill$Share", name := "take", desc := "(LPrefixMill$Row;II)I" } : Jvm.MethodName) ({ cls := "PrefixMill$Share", name := "take", desc := "(LPrefixMill$Row;II)I" } : Jvm.MethodName)) ∈ tt := tt_c5 _ (List.mem_of_getElem? (i := 34) (by rfl))
set_option maxRecDepth 20000 in
theorem m_627 : (Jvm.Cond.code ({ cls := "PrefixMill$Share", name := "take", desc := "(LPrefixMill$Row;II)I" } : Jvm.MethodName) prog_6_method_17_code (6 : Nat) (Option.some Jvm.ClassFile.FieldType.int)) ∈ tt := tt_c5 _ (List.mem_of_getElem? (i := 35) (by rfl))
set_option maxRecDepth 20000 in
theorem m_628 : (Jvm.Cond.methodLink "PrefixMill$Share" (102 : Nat) ({ cls := "java/util/Arrays", name := "fill", desc := "([II)V" } : Jvm.MethodName)) ∈ tt := tt_c5 _ (List.mem_of_getElem? (i := 36) (by rfl))
set_option maxRecDepth 20000 in
theorem m_629 : (Jvm.Cond.methodLink "PrefixMill$Share" (111 : Nat) ({ cls := "PrefixMill$Share", name := "takeBits", desc := "(LPrefixMill$Row;I)I" } : Jvm.MethodName)) ∈ tt := tt_c5 _ (List.mem_of_getElem? (i := 37) (by rfl))
set_option maxRecDepth 20000 in
theorem m_631 : (Jvm.Cond.instanceMethod ({ cls := "PrefixMill$Share", name := "takeBits", desc := "(LPrefixMill$Row;I)I" } : Jvm.MethodName)) ∈ tt := tt_c5 _ (List.mem_of_getElem? (i := 38) (by rfl))
set_option maxRecDepth 20000 in
theorem m_632 : (Jvm.Cond.code ({ cls := "PrefixMill$Share", name := "takeBits", desc := "(LPrefixMill$Row;I)I" } : Jvm.MethodName) prog_6_method_18_code (4 : Nat) (Option.some Jvm.ClassFile.FieldType.int)) ∈ tt := tt_c5 _ (List.mem_of_getElem? (i := 39) (by rfl))
set_option maxRecDepth 20000 in
theorem m_633 : (Jvm.Cond.methodLink "PrefixMill$Share" (120 : Nat) ({ cls := "PrefixMill$Row", name := "bits", desc := "(II)I" } : Jvm.MethodName)) ∈ tt := tt_c5 _ (List.mem_of_getElem? (i := 40) (by rfl))
set_option maxRecDepth 20000 in
theorem m_634 : (Jvm.Cond.instanceMethod ({ cls := "PrefixMill$Row", name := "bits", desc := "(II)I" } : Jvm.MethodName)) ∈ tt := tt_c5 _ (List.mem_of_getElem? (i := 41) (by rfl))
set_option maxRecDepth 20000 in
theorem m_635 : (Jvm.Cond.selects "PrefixMill$Row" ({ cls := "PrefixMill$Row", name := "bits", desc := "(II)I" } : Jvm.MethodName) ({ cls := "PrefixMill$Row", name := "bits", desc := "(II)I" } : Jvm.MethodName)) ∈ tt := tt_c5 _ (List.mem_of_getElem? (i := 42) (by rfl))
set_option maxRecDepth 20000 in
theorem m_636 : (Jvm.Cond.code ({ cls := "PrefixMill$Row", name := "bits", desc := "(II)I" } : Jvm.MethodName) prog_5_method_5_code (5 : Nat) (Option.some Jvm.ClassFile.FieldType.int)) ∈ tt := tt_c5 _ (List.mem_of_getElem? (i := 43) (by rfl))
set_option maxRecDepth 20000 in
theorem m_637 : (Jvm.Cond.methodLink "PrefixMill$Row" (24 : Nat) ({ cls := "PrefixMill$Row", name := "get", desc := "(I)I" } : Jvm.MethodName)) ∈ tt := tt_c5 _ (List.mem_of_getElem? (i := 44) (by rfl))
set_option maxRecDepth 20000 in
theorem m_638 : (Jvm.Cond.methodLink "PrefixMill$Row" (28 : Nat) ({ cls := "java/lang/Math", name := "max", desc := "(II)I" } : Jvm.MethodName)) ∈ tt := tt_c5 _ (List.mem_of_getElem? (i := 45) (by rfl))
set_option maxRecDepth 20000 in
theorem m_639 : (Jvm.Cond.methodLink "PrefixMill$Share" (114 : Nat) ({ cls := "PrefixMill$Share", name := "takePoints", desc := "(LPrefixMill$Row;I)I" } : Jvm.MethodName)) ∈ tt := tt_c5 _ (List.mem_of_getElem? (i := 46) (by rfl))
set_option maxRecDepth 20000 in
theorem m_641 : (Jvm.Cond.instanceMethod ({ cls := "PrefixMill$Share", name := "takePoints", desc := "(LPrefixMill$Row;I)I" } : Jvm.MethodName)) ∈ tt := tt_c5 _ (List.mem_of_getElem? (i := 47) (by rfl))
set_option maxRecDepth 20000 in
theorem m_642 : (Jvm.Cond.code ({ cls := "PrefixMill$Share", name := "takePoints", desc := "(LPrefixMill$Row;I)I" } : Jvm.MethodName) prog_6_method_19_code (7 : Nat) (Option.some Jvm.ClassFile.FieldType.int)) ∈ tt := tt_c5 _ (List.mem_of_getElem? (i := 48) (by rfl))
set_option maxRecDepth 20000 in
theorem m_643 : (Jvm.Cond.methodLink "PrefixMill$Share" (117 : Nat) ({ cls := "PrefixMill$Share", name := "takeNone", desc := "(LPrefixMill$Row;I)I" } : Jvm.MethodName)) ∈ tt := tt_c5 _ (List.mem_of_getElem? (i := 49) (by rfl))
set_option maxRecDepth 20000 in
theorem m_645 : (Jvm.Cond.instanceMethod ({ cls := "PrefixMill$Share", name := "takeNone", desc := "(LPrefixMill$Row;I)I" } : Jvm.MethodName)) ∈ tt := tt_c5 _ (List.mem_of_getElem? (i := 50) (by rfl))
set_option maxRecDepth 20000 in
theorem m_646 : (Jvm.Cond.code ({ cls := "PrefixMill$Share", name := "takeNone", desc := "(LPrefixMill$Row;I)I" } : Jvm.MethodName) prog_6_method_20_code (5 : Nat) (Option.some Jvm.ClassFile.FieldType.int)) ∈ tt := tt_c5 _ (List.mem_of_getElem? (i := 51) (by rfl))
set_option maxRecDepth 20000 in
theorem m_647 : (Jvm.Cond.methodLink "PrefixMill$Reader" (53 : Nat) ({ cls := "PrefixMill$Reader", name := "takeRow", desc := "(LPrefixMill$Row;I)Z" } : Jvm.MethodName)) ∈ tt := tt_c5 _ (List.mem_of_getElem? (i := 52) (by rfl))
set_option maxRecDepth 20000 in
theorem m_649 : (Jvm.Cond.instanceMethod ({ cls := "PrefixMill$Reader", name := "takeRow", desc := "(LPrefixMill$Row;I)Z" } : Jvm.MethodName)) ∈ tt := tt_c5 _ (List.mem_of_getElem? (i := 53) (by rfl))
set_option maxRecDepth 20000 in
theorem m_650 : (Jvm.Cond.code ({ cls := "PrefixMill$Reader", name := "takeRow", desc := "(LPrefixMill$Row;I)Z" } : Jvm.MethodName) prog_4_method_4_code (6 : Nat) (Option.some Jvm.ClassFile.FieldType.boolean)) ∈ tt := tt_c5 _ (List.mem_of_getElem? (i := 54) (by rfl))
set_option maxRecDepth 20000 in
theorem m_651 : (Jvm.Cond.methodLink "PrefixMill$Reader" (64 : Nat) ({ cls := "PrefixMill$Tail", name := "open", desc := "(LPrefixMill$Row;II)Z" } : Jvm.MethodName)) ∈ tt := tt_c5 _ (List.mem_of_getElem? (i := 55) (by rfl))
set_option maxRecDepth 20000 in
theorem m_652 : (Jvm.Cond.instanceMethod ({ cls := "PrefixMill$Tail", name := "open", desc := "(LPrefixMill$Row;II)Z" } : Jvm.MethodName)) ∈ tt := tt_c5 _ (List.mem_of_getElem? (i := 56) (by rfl))
set_option maxRecDepth 20000 in
theorem m_653 : (Jvm.Cond.selects "PrefixMill$Tail" ({ cls := "PrefixMill$Tail", name := "open", desc := "(LPrefixMill$Row;II)Z" } : Jvm.MethodName) ({ cls := "PrefixMill$Tail", name := "open", desc := "(LPrefixMill$Row;II)Z" } : Jvm.MethodName)) ∈ tt := tt_c5 _ (List.mem_of_getElem? (i := 57) (by rfl))
set_option maxRecDepth 20000 in
theorem m_654 : (Jvm.Cond.code ({ cls := "PrefixMill$Tail", name := "open", desc := "(LPrefixMill$Row;II)Z" } : Jvm.MethodName) prog_8_method_2_code (5 : Nat) (Option.some Jvm.ClassFile.FieldType.boolean)) ∈ tt := tt_c5 _ (List.mem_of_getElem? (i := 58) (by rfl))
set_option maxRecDepth 20000 in
theorem m_655 : (Jvm.Cond.methodLink "PrefixMill$Tail" (7 : Nat) ({ cls := "PrefixMill$Row", name := "get", desc := "(I)I" } : Jvm.MethodName)) ∈ tt := tt_c5 _ (List.mem_of_getElem? (i := 59) (by rfl))
set_option maxRecDepth 20000 in
theorem m_656 : (Jvm.Cond.methodLinkNest "PrefixMill$Tail" (19 : Nat) ({ cls := "PrefixMill", name := "log2", desc := "(I)I" } : Jvm.MethodName) "PrefixMill") ∈ tt := tt_c5 _ (List.mem_of_getElem? (i := 60) (by rfl))
set_option maxRecDepth 20000 in
theorem m_657 : (Jvm.Cond.methodLink "PrefixMill$Reader" (74 : Nat) ({ cls := "PrefixMill$Tail", name := "take", desc := "(LPrefixMill$Row;I)I" } : Jvm.MethodName)) ∈ tt := tt_c5 _ (List.mem_of_getElem? (i := 61) (by rfl))
set_option maxRecDepth 20000 in
theorem m_658 : (Jvm.Cond.instanceMethod ({ cls := "PrefixMill$Tail", name := "take", desc := "(LPrefixMill$Row;I)I" } : Jvm.MethodName)) ∈ tt := tt_c5 _ (List.mem_of_getElem? (i := 62) (by rfl))
set_option maxRecDepth 20000 in
theorem m_659 : (Jvm.Cond.selects "PrefixMill$Tail" ({ cls := "PrefixMill$Tail", name := "take", desc := "(LPrefixMill$Row;I)I" } : Jvm.MethodName) ({ cls := "PrefixMill$Tail", name := "take", desc := "(LPrefixMill$Row;I)I" } : Jvm.MethodName)) ∈ tt := tt_c5 _ (List.mem_of_getElem? (i := 63) (by rfl))
set_option maxRecDepth 20000 in
theorem m_660 : (Jvm.Cond.code ({ cls := "PrefixMill$Tail", name := "take", desc := "(LPrefixMill$Row;I)I" } : Jvm.MethodName) prog_8_method_5_code (4 : Nat) (Option.some Jvm.ClassFile.FieldType.int)) ∈ tt := tt_c5 _ (List.mem_of_getElem? (i := 64) (by rfl))
set_option maxRecDepth 20000 in
theorem m_661 : (Jvm.Cond.methodLink "PrefixMill$Tail" (31 : Nat) ({ cls := "PrefixMill$Tail", name := "look", desc := "(LPrefixMill$Row;I)I" } : Jvm.MethodName)) ∈ tt := tt_c5 _ (List.mem_of_getElem? (i := 65) (by rfl))
set_option maxRecDepth 20000 in
theorem m_662 : (Jvm.Cond.instanceMethod ({ cls := "PrefixMill$Tail", name := "look", desc := "(LPrefixMill$Row;I)I" } : Jvm.MethodName)) ∈ tt := tt_c5 _ (List.mem_of_getElem? (i := 66) (by rfl))
set_option maxRecDepth 20000 in
theorem m_663 : (Jvm.Cond.selects "PrefixMill$Tail" ({ cls := "PrefixMill$Tail", name := "look", desc := "(LPrefixMill$Row;I)I" } : Jvm.MethodName) ({ cls := "PrefixMill$Tail", name := "look", desc := "(LPrefixMill$Row;I)I" } : Jvm.MethodName)) ∈ tt := tt_c5 _ (List.mem_of_getElem? (i := 67) (by rfl))
set_option maxRecDepth 20000 in
theorem m_664 : (Jvm.Cond.code ({ cls := "PrefixMill$Tail", name := "look", desc := "(LPrefixMill$Row;I)I" } : Jvm.MethodName) prog_8_method_3_code (3 : Nat) (Option.some Jvm.ClassFile.FieldType.int)) ∈ tt := tt_c5 _ (List.mem_of_getElem? (i := 68) (by rfl))
set_option maxRecDepth 20000 in
theorem m_665 : (Jvm.Cond.methodLink "PrefixMill$Tail" (27 : Nat) ({ cls := "PrefixMill$Row", name := "bits", desc := "(II)I" } : Jvm.MethodName)) ∈ tt := tt_c5 _ (List.mem_of_getElem? (i := 69) (by rfl))
set_option maxRecDepth 20000 in
theorem m_666 : (Jvm.Cond.methodLink "PrefixMill$Tail" (35 : Nat) ({ cls := "PrefixMill$Tail", name := "drop", desc := "(I)Z" } : Jvm.MethodName)) ∈ tt := tt_c5 _ (List.mem_of_getElem? (i := 70) (by rfl))
set_option maxRecDepth 20000 in
theorem m_667 : (Jvm.Cond.instanceMethod ({ cls := "PrefixMill$Tail", name := "drop", desc := "(I)Z" } : Jvm.MethodName)) ∈ tt := tt_c5 _ (List.mem_of_getElem? (i := 71) (by rfl))
set_option maxRecDepth 20000 in
theorem m_668 : (Jvm.Cond.selects "PrefixMill$Tail" ({ cls := "PrefixMill$Tail", name := "drop", desc := "(I)Z" } : Jvm.MethodName) ({ cls := "PrefixMill$Tail", name := "drop", desc := "(I)Z" } : Jvm.MethodName)) ∈ tt := tt_c5 _ (List.mem_of_getElem? (i := 72) (by rfl))
set_option maxRecDepth 20000 in
theorem m_669 : (Jvm.Cond.code ({ cls := "PrefixMill$Tail", name := "drop", desc := "(I)Z" } : Jvm.MethodName) prog_8_method_4_code (2 : Nat) (Option.some Jvm.ClassFile.FieldType.boolean)) ∈ tt := tt_c5 _ (List.mem_of_getElem? (i := 73) (by rfl))
set_option maxRecDepth 20000 in
theorem m_670 : (Jvm.Cond.methodLink "PrefixMill$Reader" (57 : Nat) ({ cls := "PrefixMill$Reader", name := "takeLengths", desc := "()Z" } : Jvm.MethodName)) ∈ tt := tt_c5 _ (List.mem_of_getElem? (i := 74) (by rfl))
set_option maxRecDepth 20000 in
theorem m_672 : (Jvm.Cond.instanceMethod ({ cls := "PrefixMill$Reader", name := "takeLengths", desc := "()Z" } : Jvm.MethodName)) ∈ tt := tt_c5 _ (List.mem_of_getElem? (i := 75) (by rfl))
set_option maxRecDepth 20000 in
theorem m_673 : (Jvm.Cond.code ({ cls := "PrefixMill$Reader", name := "takeLengths", desc := "()Z" } : Jvm.MethodName) prog_4_method_5_code (6 : Nat) (Option.some Jvm.ClassFile.FieldType.boolean)) ∈ tt := tt_c5 _ (List.mem_of_getElem? (i := 76) (by rfl))
set_option maxRecDepth 20000 in
theorem m_674 : (Jvm.Cond.methodLinkNest "PrefixMill$Reader" (86 : Nat) ({ cls := "PrefixMill", name := "log2", desc := "(I)I" } : Jvm.MethodName) "PrefixMill") ∈ tt := tt_c5 _ (List.mem_of_getElem? (i := 77) (by rfl))
set_option maxRecDepth 20000 in
theorem m_675 : (Jvm.Cond.methodLink "PrefixMill$Reader" (89 : Nat) ({ cls := "java/util/Arrays", name := "fill", desc := "([II)V" } : Jvm.MethodName)) ∈ tt := tt_c5 _ (List.mem_of_getElem? (i := 78) (by rfl))
set_option maxRecDepth 20000 in
theorem m_676 : (Jvm.Cond.methodLink "PrefixMillLaw" (68 : Nat) ({ cls := "PrefixMill", name := "encode", desc := "(Z)I" } : Jvm.MethodName)) ∈ tt := tt_c5 _ (List.mem_of_getElem? (i := 79) (by rfl))
set_option maxRecDepth 20000 in
theorem m_677 : (Jvm.Cond.instanceMethod ({ cls := "PrefixMill", name := "encode", desc := "(Z)I" } : Jvm.MethodName)) ∈ tt := tt_c5 _ (List.mem_of_getElem? (i := 80) (by rfl))
set_option maxRecDepth 20000 in
theorem m_678 : (Jvm.Cond.selects "PrefixMill" ({ cls := "PrefixMill", name := "encode", desc := "(Z)I" } : Jvm.MethodName) ({ cls := "PrefixMill", name := "encode", desc := "(Z)I" } : Jvm.MethodName)) ∈ tt := tt_c5 _ (List.mem_of_getElem? (i := 81) (by rfl))
set_option maxRecDepth 20000 in
theorem m_679 : (Jvm.Cond.code ({ cls := "PrefixMill", name := "encode", desc := "(Z)I" } : Jvm.MethodName) prog_1_method_14_code (2 : Nat) (Option.some Jvm.ClassFile.FieldType.int)) ∈ tt := tt_c5 _ (List.mem_of_getElem? (i := 82) (by rfl))
set_option maxRecDepth 20000 in
theorem m_680 : (Jvm.Cond.methodLink "PrefixMill" (125 : Nat) ({ cls := "PrefixMill$Streams", name := "bitsOf", desc := "(LPrefixMill$Codes;LPrefixMill$Row;II)I" } : Jvm.MethodName)) ∈ tt := tt_c5 _ (List.mem_of_getElem? (i := 83) (by rfl))
set_option maxRecDepth 20000 in
theorem m_681 : (Jvm.Cond.static ({ cls := "PrefixMill$Streams", name := "bitsOf", desc := "(LPrefixMill$Codes;LPrefixMill$Row;II)I" } : Jvm.MethodName)) ∈ tt := tt_c5 _ (List.mem_of_getElem? (i := 84) (by rfl))
set_option maxRecDepth 20000 in
theorem m_682 : (Jvm.Cond.code ({ cls := "PrefixMill$Streams", name := "bitsOf", desc := "(LPrefixMill$Codes;LPrefixMill$Row;II)I" } : Jvm.MethodName) prog_7_method_4_code (7 : Nat) (Option.some Jvm.ClassFile.FieldType.int)) ∈ tt := tt_c5 _ (List.mem_of_getElem? (i := 85) (by rfl))
set_option maxRecDepth 20000 in
theorem m_683 : (Jvm.Cond.methodLink "PrefixMill$Streams" (37 : Nat) ({ cls := "PrefixMill$Row", name := "get", desc := "(I)I" } : Jvm.MethodName)) ∈ tt := tt_c5 _ (List.mem_of_getElem? (i := 86) (by rfl))
set_option maxRecDepth 20000 in
theorem m_684 : (Jvm.Cond.methodLink "PrefixMill" (129 : Nat) ({ cls := "PrefixMill$Streams", name := "encodeFour", desc := "(LPrefixMill$Codes;LPrefixMill$Row;ILPrefixMill$Row;)I" } : Jvm.MethodName)) ∈ tt := tt_c5 _ (List.mem_of_getElem? (i := 87) (by rfl))
set_option maxRecDepth 20000 in
theorem m_685 : (Jvm.Cond.static ({ cls := "PrefixMill$Streams", name := "encodeFour", desc := "(LPrefixMill$Codes;LPrefixMill$Row;ILPrefixMill$Row;)I" } : Jvm.MethodName)) ∈ tt := tt_c5 _ (List.mem_of_getElem? (i := 88) (by rfl))
set_option maxRecDepth 20000 in
theorem m_686 : (Jvm.Cond.code ({ cls := "PrefixMill$Streams", name := "encodeFour", desc := "(LPrefixMill$Codes;LPrefixMill$Row;ILPrefixMill$Row;)I" } : Jvm.MethodName) prog_7_method_7_code (12 : Nat) (Option.some Jvm.ClassFile.FieldType.int)) ∈ tt := tt_c5 _ (List.mem_of_getElem? (i := 89) (by rfl))
set_option maxRecDepth 20000 in
theorem m_687 : (Jvm.Cond.methodLink "PrefixMill$Streams" (58 : Nat) ({ cls := "PrefixMill$Streams", name := "areFour", desc := "(I)Z" } : Jvm.MethodName)) ∈ tt := tt_c5 _ (List.mem_of_getElem? (i := 90) (by rfl))
set_option maxRecDepth 20000 in
theorem m_688 : (Jvm.Cond.static ({ cls := "PrefixMill$Streams", name := "areFour", desc := "(I)Z" } : Jvm.MethodName)) ∈ tt := tt_c5 _ (List.mem_of_getElem? (i := 91) (by rfl))
set_option maxRecDepth 20000 in
theorem m_689 : (Jvm.Cond.code ({ cls := "PrefixMill$Streams", name := "areFour", desc := "(I)Z" } : Jvm.MethodName) prog_7_method_2_code (1 : Nat) (Option.some Jvm.ClassFile.FieldType.boolean)) ∈ tt := tt_c5 _ (List.mem_of_getElem? (i := 92) (by rfl))
set_option maxRecDepth 20000 in
theorem m_690 : (Jvm.Cond.methodLink "PrefixMill$Streams" (27 : Nat) ({ cls := "PrefixMill$Streams", name := "quarter", desc := "(I)I" } : Jvm.MethodName)) ∈ tt := tt_c5 _ (List.mem_of_getElem? (i := 93) (by rfl))
set_option maxRecDepth 20000 in
theorem m_691 : (Jvm.Cond.static ({ cls := "PrefixMill$Streams", name := "quarter", desc := "(I)I" } : Jvm.MethodName)) ∈ tt := tt_c5 _ (List.mem_of_getElem? (i := 94) (by rfl))
set_option maxRecDepth 20000 in
theorem m_692 : (Jvm.Cond.code ({ cls := "PrefixMill$Streams", name := "quarter", desc := "(I)I" } : Jvm.MethodName) prog_7_method_3_code (1 : Nat) (Option.some Jvm.ClassFile.FieldType.int)) ∈ tt := tt_c5 _ (List.mem_of_getElem? (i := 95) (by rfl))
set_option maxRecDepth 20000 in
theorem m_693 : (Jvm.Cond.methodLink "PrefixMill$Streams" (48 : Nat) ({ cls := "PrefixMill$Streams", name := "bytesOf", desc := "(LPrefixMill$Codes;LPrefixMill$Row;II)I" } : Jvm.MethodName)) ∈ tt := tt_c5 _ (List.mem_of_getElem? (i := 96) (by rfl))
set_option maxRecDepth 20000 in
theorem m_694 : (Jvm.Cond.static ({ cls := "PrefixMill$Streams", name := "bytesOf", desc := "(LPrefixMill$Codes;LPrefixMill$Row;II)I" } : Jvm.MethodName)) ∈ tt := tt_c5 _ (List.mem_of_getElem? (i := 97) (by rfl))
set_option maxRecDepth 20000 in
theorem m_695 : (Jvm.Cond.code ({ cls := "PrefixMill$Streams", name := "bytesOf", desc := "(LPrefixMill$Codes;LPrefixMill$Row;II)I" } : Jvm.MethodName) prog_7_method_5_code (4 : Nat) (Option.some Jvm.ClassFile.FieldType.int)) ∈ tt := tt_c5 _ (List.mem_of_getElem? (i := 98) (by rfl))
set_option maxRecDepth 20000 in
theorem m_696 : (Jvm.Cond.methodLink "PrefixMill$Streams" (40 : Nat) ({ cls := "PrefixMill$Streams", name := "bitsOf", desc := "(LPrefixMill$Codes;LPrefixMill$Row;II)I" } : Jvm.MethodName)) ∈ tt := tt_c5 _ (List.mem_of_getElem? (i := 99) (by rfl))
set_option maxRecDepth 20000 in
theorem m_697 : (Jvm.Cond.methodLink "PrefixMill$Streams" (51 : Nat) ({ cls := "PrefixMill$Row", name := "empty", desc := "()V" } : Jvm.MethodName)) ∈ tt := tt_c6 _ (List.mem_of_getElem? (i := 0) (by rfl))
set_option maxRecDepth 20000 in
theorem m_698 : (Jvm.Cond.methodLink "PrefixMill$Streams" (62 : Nat) ({ cls := "PrefixMill$Row", name := "put", desc := "(II)V" } : Jvm.MethodName)) ∈ tt := tt_c6 _ (List.mem_of_getElem? (i := 1) (by rfl))
set_option maxRecDepth 20000 in
theorem m_699 : (Jvm.Cond.methodLink "PrefixMill$Streams" (54 : Nat) ({ cls := "PrefixMill$Streams", name := "putStream", desc := "(LPrefixMill$Codes;LPrefixMill$Row;IILPrefixMill$Row;)V" } : Jvm.MethodName)) ∈ tt := tt_c6 _ (List.mem_of_getElem? (i := 2) (by rfl))
set_option maxRecDepth 20000 in
theorem m_700 : (Jvm.Cond.static ({ cls := "PrefixMill$Streams", name := "putStream", desc := "(LPrefixMill$Codes;LPrefixMill$Row;IILPrefixMill$Row;)V" } : Jvm.MethodName)) ∈ tt := tt_c6 _ (List.mem_of_getElem? (i := 3) (by rfl))
set_option maxRecDepth 20000 in
theorem m_701 : (Jvm.Cond.code ({ cls := "PrefixMill$Streams", name := "putStream", desc := "(LPrefixMill$Codes;LPrefixMill$Row;IILPrefixMill$Row;)V" } : Jvm.MethodName) prog_7_method_8_code (7 : Nat) (Option.none : Option Jvm.ClassFile.FieldType)) ∈ tt := tt_c6 _ (List.mem_of_getElem? (i := 4) (by rfl))
set_option maxRecDepth 20000 in
theorem m_702 : (Jvm.Cond.methodLink "PrefixMill$Streams" (69 : Nat) ({ cls := "PrefixMill$Row", name := "finish", desc := "()V" } : Jvm.MethodName)) ∈ tt := tt_c6 _ (List.mem_of_getElem? (i := 5) (by rfl))
set_option maxRecDepth 20000 in
theorem m_703 : (Jvm.Cond.methodLink "PrefixMill" (133 : Nat) ({ cls := "PrefixMill$Streams", name := "encodeOne", desc := "(LPrefixMill$Codes;LPrefixMill$Row;ILPrefixMill$Row;)I" } : Jvm.MethodName)) ∈ tt := tt_c6 _ (List.mem_of_getElem? (i := 6) (by rfl))
set_option maxRecDepth 20000 in
theorem m_704 : (Jvm.Cond.static ({ cls := "PrefixMill$Streams", name := "encodeOne", desc := "(LPrefixMill$Codes;LPrefixMill$Row;ILPrefixMill$Row;)I" } : Jvm.MethodName)) ∈ tt := tt_c6 _ (List.mem_of_getElem? (i := 7) (by rfl))
set_option maxRecDepth 20000 in
theorem m_705 : (Jvm.Cond.code ({ cls := "PrefixMill$Streams", name := "encodeOne", desc := "(LPrefixMill$Codes;LPrefixMill$Row;ILPrefixMill$Row;)I" } : Jvm.MethodName) prog_7_method_6_code (4 : Nat) (Option.some Jvm.ClassFile.FieldType.int)) ∈ tt := tt_c6 _ (List.mem_of_getElem? (i := 8) (by rfl))
set_option maxRecDepth 20000 in
theorem m_706 : (Jvm.Cond.methodLink "PrefixMillLaw" (73 : Nat) ({ cls := "PrefixMill", name := "decode", desc := "(IZ)I" } : Jvm.MethodName)) ∈ tt := tt_c6 _ (List.mem_of_getElem? (i := 9) (by rfl))
set_option maxRecDepth 20000 in
theorem m_707 : (Jvm.Cond.instanceMethod ({ cls := "PrefixMill", name := "decode", desc := "(IZ)I" } : Jvm.MethodName)) ∈ tt := tt_c6 _ (List.mem_of_getElem? (i := 10) (by rfl))
set_option maxRecDepth 20000 in
theorem m_708 : (Jvm.Cond.selects "PrefixMill" ({ cls := "PrefixMill", name := "decode", desc := "(IZ)I" } : Jvm.MethodName) ({ cls := "PrefixMill", name := "decode", desc := "(IZ)I" } : Jvm.MethodName)) ∈ tt := tt_c6 _ (List.mem_of_getElem? (i := 11) (by rfl))
set_option maxRecDepth 20000 in
theorem m_709 : (Jvm.Cond.code ({ cls := "PrefixMill", name := "decode", desc := "(IZ)I" } : Jvm.MethodName) prog_1_method_15_code (4 : Nat) (Option.some Jvm.ClassFile.FieldType.int)) ∈ tt := tt_c6 _ (List.mem_of_getElem? (i := 12) (by rfl))
set_option maxRecDepth 20000 in
theorem m_710 : (Jvm.Cond.methodLink "PrefixMill" (136 : Nat) ({ cls := "PrefixMill$Streams", name := "areFour", desc := "(I)Z" } : Jvm.MethodName)) ∈ tt := tt_c6 _ (List.mem_of_getElem? (i := 13) (by rfl))
set_option maxRecDepth 20000 in
theorem m_711 : (Jvm.Cond.methodLink "PrefixMill" (139 : Nat) ({ cls := "PrefixMill$Streams", name := "decodeFour", desc := "(LPrefixMill$Codes;LPrefixMill$Row;II)I" } : Jvm.MethodName)) ∈ tt := tt_c6 _ (List.mem_of_getElem? (i := 14) (by rfl))
set_option maxRecDepth 20000 in
theorem m_712 : (Jvm.Cond.instanceMethod ({ cls := "PrefixMill$Streams", name := "decodeFour", desc := "(LPrefixMill$Codes;LPrefixMill$Row;II)I" } : Jvm.MethodName)) ∈ tt := tt_c6 _ (List.mem_of_getElem? (i := 15) (by rfl))
set_option maxRecDepth 20000 in
theorem m_713 : (Jvm.Cond.selects "PrefixMill$Streams" ({ cls := "PrefixMill$Streams", name := "decodeFour", desc := "(LPrefixMill$Codes;LPrefixMill$Row;II)I" } : Jvm.MethodName) ({ cls := "PrefixMill$Streams", name := "decodeFour", desc := "(LPrefixMill$Codes;LPrefixMill$Row;II)I" } : Jvm.MethodName)) ∈ tt := tt_c6 _ (List.mem_of_getElem? (i := 16) (by rfl))
set_option maxRecDepth 20000 in
theorem m_714 : (Jvm.Cond.code ({ cls := "PrefixMill$Streams", name := "decodeFour", desc := "(LPrefixMill$Codes;LPrefixMill$Row;II)I" } : Jvm.MethodName) prog_7_method_10_code (11 : Nat) (Option.some Jvm.ClassFile.FieldType.int)) ∈ tt := tt_c6 _ (List.mem_of_getElem? (i := 17) (by rfl))
set_option maxRecDepth 20000 in
theorem m_715 : (Jvm.Cond.methodLink "PrefixMill$Streams" (76 : Nat) ({ cls := "PrefixMill$Row", name := "bits", desc := "(II)I" } : Jvm.MethodName)) ∈ tt := tt_c6 _ (List.mem_of_getElem? (i := 18) (by rfl))
set_option maxRecDepth 20000 in
theorem m_716 : (Jvm.Cond.methodLink "PrefixMill$Streams" (72 : Nat) ({ cls := "PrefixMill$Streams", name := "takeStream", desc := "(LPrefixMill$Codes;LPrefixMill$Row;III)I" } : Jvm.MethodName)) ∈ tt := tt_c6 _ (List.mem_of_getElem? (i := 19) (by rfl))
set_option maxRecDepth 20000 in
theorem m_718 : (Jvm.Cond.instanceMethod ({ cls := "PrefixMill$Streams", name := "takeStream", desc := "(LPrefixMill$Codes;LPrefixMill$Row;III)I" } : Jvm.MethodName)) ∈ tt := tt_c6 _ (List.mem_of_getElem? (i := 20) (by rfl))
set_option maxRecDepth 20000 in
theorem m_719 : (Jvm.Cond.code ({ cls := "PrefixMill$Streams", name := "takeStream", desc := "(LPrefixMill$Codes;LPrefixMill$Row;III)I" } : Jvm.MethodName) prog_7_method_11_code (8 : Nat) (Option.some Jvm.ClassFile.FieldType.int)) ∈ tt := tt_c6 _ (List.mem_of_getElem? (i := 21) (by rfl))
set_option maxRecDepth 20000 in
theorem m_720 : (Jvm.Cond.methodLink "PrefixMill$Streams" (80 : Nat) ({ cls := "PrefixMill$Tail", name := "open", desc := "(LPrefixMill$Row;II)Z" } : Jvm.MethodName)) ∈ tt := tt_c6 _ (List.mem_of_getElem? (i := 22) (by rfl))
set_option maxRecDepth 20000 in
theorem m_721 : (Jvm.Cond.methodLink "PrefixMill$Streams" (90 : Nat) ({ cls := "PrefixMill$Tail", name := "look", desc := "(LPrefixMill$Row;I)I" } : Jvm.MethodName)) ∈ tt := tt_c6 _ (List.mem_of_getElem? (i := 23) (by rfl))
set_option maxRecDepth 20000 in
theorem m_722 : (Jvm.Cond.methodLink "PrefixMill$Streams" (94 : Nat) ({ cls := "PrefixMill$Tail", name := "drop", desc := "(I)Z" } : Jvm.MethodName)) ∈ tt := tt_c6 _ (List.mem_of_getElem? (i := 24) (by rfl))
set_option maxRecDepth 20000 in
theorem m_723 : (Jvm.Cond.methodLink "PrefixMill$Streams" (97 : Nat) ({ cls := "PrefixMill$Row", name := "add", desc := "(I)V" } : Jvm.MethodName)) ∈ tt := tt_c6 _ (List.mem_of_getElem? (i := 25) (by rfl))
set_option maxRecDepth 20000 in
theorem m_724 : (Jvm.Cond.methodLink "PrefixMill" (142 : Nat) ({ cls := "PrefixMill$Streams", name := "decodeOne", desc := "(LPrefixMill$Codes;LPrefixMill$Row;II)I" } : Jvm.MethodName)) ∈ tt := tt_c6 _ (List.mem_of_getElem? (i := 26) (by rfl))
set_option maxRecDepth 20000 in
theorem m_725 : (Jvm.Cond.instanceMethod ({ cls := "PrefixMill$Streams", name := "decodeOne", desc := "(LPrefixMill$Codes;LPrefixMill$Row;II)I" } : Jvm.MethodName)) ∈ tt := tt_c6 _ (List.mem_of_getElem? (i := 27) (by rfl))
set_option maxRecDepth 20000 in
theorem m_726 : (Jvm.Cond.selects "PrefixMill$Streams" ({ cls := "PrefixMill$Streams", name := "decodeOne", desc := "(LPrefixMill$Codes;LPrefixMill$Row;II)I" } : Jvm.MethodName) ({ cls := "PrefixMill$Streams", name := "decodeOne", desc := "(LPrefixMill$Codes;LPrefixMill$Row;II)I" } : Jvm.MethodName)) ∈ tt := tt_c6 _ (List.mem_of_getElem? (i := 28) (by rfl))
set_option maxRecDepth 20000 in
theorem m_727 : (Jvm.Cond.code ({ cls := "PrefixMill$Streams", name := "decodeOne", desc := "(LPrefixMill$Codes;LPrefixMill$Row;II)I" } : Jvm.MethodName) prog_7_method_9_code (5 : Nat) (Option.some Jvm.ClassFile.FieldType.int)) ∈ tt := tt_c6 _ (List.mem_of_getElem? (i := 29) (by rfl))
set_option maxRecDepth 20000 in
theorem m_728 : (Jvm.Cond.methodLink "PrefixMillLaw" (78 : Nat) ({ cls := "PrefixMill", name := "about", desc := "(I)I" } : Jvm.MethodName)) ∈ tt := tt_c6 _ (List.mem_of_getElem? (i := 30) (by rfl))
set_option maxRecDepth 20000 in
theorem m_729 : (Jvm.Cond.instanceMethod ({ cls := "PrefixMill", name := "about", desc := "(I)I" } : Jvm.MethodName)) ∈ tt := tt_c6 _ (List.mem_of_getElem? (i := 31) (by rfl))
set_option maxRecDepth 20000 in
theorem m_730 : (Jvm.Cond.selects "PrefixMill" ({ cls := "PrefixMill", name := "about", desc := "(I)I" } : Jvm.MethodName) ({ cls := "PrefixMill", name := "about", desc := "(I)I" } : Jvm.MethodName)) ∈ tt := tt_c6 _ (List.mem_of_getElem? (i := 32) (by rfl))
set_option maxRecDepth 20000 in
theorem m_731 : (Jvm.Cond.code ({ cls := "PrefixMill", name := "about", desc := "(I)I" } : Jvm.MethodName) prog_1_method_16_code (2 : Nat) (Option.some Jvm.ClassFile.FieldType.int)) ∈ tt := tt_c6 _ (List.mem_of_getElem? (i := 33) (by rfl))
set_option maxRecDepth 20000 in
theorem m_732 : (Jvm.Cond.methodLink "PrefixMillLaw" (82 : Nat) ({ cls := "PrefixMill", name := "code", desc := "(II)I" } : Jvm.MethodName)) ∈ tt := tt_c6 _ (List.mem_of_getElem? (i := 34) (by rfl))
set_option maxRecDepth 20000 in
theorem m_733 : (Jvm.Cond.instanceMethod ({ cls := "PrefixMill", name := "code", desc := "(II)I" } : Jvm.MethodName)) ∈ tt := tt_c6 _ (List.mem_of_getElem? (i := 35) (by rfl))
set_option maxRecDepth 20000 in
theorem m_734 : (Jvm.Cond.selects "PrefixMill" ({ cls := "PrefixMill", name := "code", desc := "(II)I" } : Jvm.MethodName) ({ cls := "PrefixMill", name := "code", desc := "(II)I" } : Jvm.MethodName)) ∈ tt := tt_c6 _ (List.mem_of_getElem? (i := 36) (by rfl))
set_option maxRecDepth 20000 in
theorem m_735 : (Jvm.Cond.code ({ cls := "PrefixMill", name := "code", desc := "(II)I" } : Jvm.MethodName) prog_1_method_17_code (3 : Nat) (Option.some Jvm.ClassFile.FieldType.int)) ∈ tt := tt_c6 _ (List.mem_of_getElem? (i := 37) (by rfl))
set_option maxRecDepth 20000 in
theorem m_736 : (Jvm.Cond.methodLink "PrefixMillLaw" (87 : Nat) ({ cls := "PrefixMill", name := "size", desc := "()I" } : Jvm.MethodName)) ∈ tt := tt_c6 _ (List.mem_of_getElem? (i := 38) (by rfl))
set_option maxRecDepth 20000 in
theorem m_737 : (Jvm.Cond.instanceMethod ({ cls := "PrefixMill", name := "size", desc := "()I" } : Jvm.MethodName)) ∈ tt := tt_c6 _ (List.mem_of_getElem? (i := 39) (by rfl))
set_option maxRecDepth 20000 in
theorem m_738 : (Jvm.Cond.selects "PrefixMill" ({ cls := "PrefixMill", name := "size", desc := "()I" } : Jvm.MethodName) ({ cls := "PrefixMill", name := "size", desc := "()I" } : Jvm.MethodName)) ∈ tt := tt_c6 _ (List.mem_of_getElem? (i := 40) (by rfl))
set_option maxRecDepth 20000 in
theorem m_739 : (Jvm.Cond.code ({ cls := "PrefixMill", name := "size", desc := "()I" } : Jvm.MethodName) prog_1_method_18_code (1 : Nat) (Option.some Jvm.ClassFile.FieldType.int)) ∈ tt := tt_c6 _ (List.mem_of_getElem? (i := 41) (by rfl))
set_option maxRecDepth 20000 in
theorem m_740 : (Jvm.Cond.methodLink "PrefixMillLaw" (91 : Nat) ({ cls := "PrefixMill", name := "byteAt", desc := "(I)I" } : Jvm.MethodName)) ∈ tt := tt_c6 _ (List.mem_of_getElem? (i := 42) (by rfl))
set_option maxRecDepth 20000 in
theorem m_741 : (Jvm.Cond.instanceMethod ({ cls := "PrefixMill", name := "byteAt", desc := "(I)I" } : Jvm.MethodName)) ∈ tt := tt_c6 _ (List.mem_of_getElem? (i := 43) (by rfl))
set_option maxRecDepth 20000 in
theorem m_742 : (Jvm.Cond.selects "PrefixMill" ({ cls := "PrefixMill", name := "byteAt", desc := "(I)I" } : Jvm.MethodName) ({ cls := "PrefixMill", name := "byteAt", desc := "(I)I" } : Jvm.MethodName)) ∈ tt := tt_c6 _ (List.mem_of_getElem? (i := 44) (by rfl))
set_option maxRecDepth 20000 in
theorem m_743 : (Jvm.Cond.code ({ cls := "PrefixMill", name := "byteAt", desc := "(I)I" } : Jvm.MethodName) prog_1_method_19_code (2 : Nat) (Option.some Jvm.ClassFile.FieldType.int)) ∈ tt := tt_c6 _ (List.mem_of_getElem? (i := 45) (by rfl))
set_option maxRecDepth 20000 in
theorem m_744 : (Jvm.Cond.classLink "PrefixMillLaw" (10 : Nat) "PrefixMillModel") ∈ tt := tt_c6 _ (List.mem_of_getElem? (i := 46) (by rfl))
set_option maxRecDepth 20000 in
theorem m_745 : (Jvm.Cond.instantiable "PrefixMillModel" (25 : Nat)) ∈ tt := tt_c6 _ (List.mem_of_getElem? (i := 47) (by rfl))
set_option maxRecDepth 20000 in
theorem m_746 : (Jvm.Cond.methodLink "PrefixMillLaw" (12 : Nat) ({ cls := "PrefixMillModel", name := "<init>", desc := "()V" } : Jvm.MethodName)) ∈ tt := tt_c6 _ (List.mem_of_getElem? (i := 48) (by rfl))
set_option maxRecDepth 20000 in
theorem m_747 : (Jvm.Cond.instanceMethod ({ cls := "PrefixMillModel", name := "<init>", desc := "()V" } : Jvm.MethodName)) ∈ tt := tt_c6 _ (List.mem_of_getElem? (i := 49) (by rfl))
set_option maxRecDepth 20000 in
theorem m_748 : (Jvm.Cond.code ({ cls := "PrefixMillModel", name := "<init>", desc := "()V" } : Jvm.MethodName) prog_12_method_1_code (1 : Nat) (Option.none : Option Jvm.ClassFile.FieldType)) ∈ tt := tt_c6 _ (List.mem_of_getElem? (i := 50) (by rfl))
set_option maxRecDepth 20000 in
theorem m_749 : (Jvm.Cond.methodLink "PrefixMillModel" (1 : Nat) ({ cls := "java/lang/Object", name := "<init>", desc := "()V" } : Jvm.MethodName)) ∈ tt := tt_c6 _ (List.mem_of_getElem? (i := 51) (by rfl))
set_option maxRecDepth 20000 in
theorem m_750 : (Jvm.Cond.fieldLink "PrefixMillModel" (7 : Nat) "PrefixMillModel" "in" "[I") ∈ tt := tt_c6 _ (List.mem_of_getElem? (i := 52) (by rfl))
set_option maxRecDepth 20000 in
theorem m_751 : (Jvm.Cond.fieldLink "PrefixMillModel" (56 : Nat) "PrefixMillModel" "inLong" "I") ∈ tt := tt_c6 _ (List.mem_of_getElem? (i := 53) (by rfl))
set_option maxRecDepth 20000 in
theorem m_752 : (Jvm.Cond.fieldLink "PrefixMillModel" (65 : Nat) "PrefixMillModel" "goesOn" "I") ∈ tt := tt_c6 _ (List.mem_of_getElem? (i := 54) (by rfl))
set_option maxRecDepth 20000 in
theorem m_753 : (Jvm.Cond.fieldLink "PrefixMillModel" (13 : Nat) "PrefixMillModel" "out" "[I") ∈ tt := tt_c6 _ (List.mem_of_getElem? (i := 55) (by rfl))
set_option maxRecDepth 20000 in
theorem m_754 : (Jvm.Cond.fieldLink "PrefixMillModel" (62 : Nat) "PrefixMillModel" "outLong" "I") ∈ tt := tt_c6 _ (List.mem_of_getElem? (i := 56) (by rfl))
set_option maxRecDepth 20000 in
theorem m_755 : (Jvm.Cond.fieldLink "PrefixMillModel" (16 : Nat) "PrefixMillModel" "counts" "[I") ∈ tt := tt_c6 _ (List.mem_of_getElem? (i := 57) (by rfl))
set_option maxRecDepth 20000 in
theorem m_756 : (Jvm.Cond.fieldLink "PrefixMillModel" (69 : Nat) "PrefixMillModel" "greatest" "I") ∈ tt := tt_c6 _ (List.mem_of_getElem? (i := 58) (by rfl))
set_option maxRecDepth 20000 in
theorem m_757 : (Jvm.Cond.fieldLink "PrefixMillModel" (19 : Nat) "PrefixMillModel" "length" "[I") ∈ tt := tt_c6 _ (List.mem_of_getElem? (i := 59) (by rfl))
set_option maxRecDepth 20000 in
theorem m_758 : (Jvm.Cond.fieldLink "PrefixMillModel" (22 : Nat) "PrefixMillModel" "symbolOf" "[I") ∈ tt := tt_c6 _ (List.mem_of_getElem? (i := 60) (by rfl))
set_option maxRecDepth 20000 in
theorem m_759 : (Jvm.Cond.fieldLink "PrefixMillModel" (25 : Nat) "PrefixMillModel" "draft" "[I") ∈ tt := tt_c6 _ (List.mem_of_getElem? (i := 61) (by rfl))
set_option maxRecDepth 20000 in
theorem m_760 : (Jvm.Cond.fieldLink "PrefixMillModel" (28 : Nat) "PrefixMillModel" "knot" "[I") ∈ tt := tt_c6 _ (List.mem_of_getElem? (i := 62) (by rfl))
set_option maxRecDepth 20000 in
theorem m_761 : (Jvm.Cond.fieldLink "PrefixMillModel" (31 : Nat) "PrefixMillModel" "inSum" "[I") ∈ tt := tt_c6 _ (List.mem_of_getElem? (i := 63) (by rfl))
set_option maxRecDepth 20000 in
theorem m_762 : (Jvm.Cond.fieldLink "PrefixMillModel" (76 : Nat) "PrefixMillModel" "knots" "I") ∈ tt := tt_c6 _ (List.mem_of_getElem? (i := 64) (by rfl))
set_option maxRecDepth 20000 in
theorem m_763 : (Jvm.Cond.fieldLink "PrefixMillModel" (34 : Nat) "PrefixMillModel" "halved" "[I") ∈ tt := tt_c6 _ (List.mem_of_getElem? (i := 65) (by rfl))
set_option maxRecDepth 20000 in
theorem m_764 : (Jvm.Cond.fieldLink "PrefixMillModel" (37 : Nat) "PrefixMillModel" "made" "[I") ∈ tt := tt_c6 _ (List.mem_of_getElem? (i := 66) (by rfl))
set_option maxRecDepth 20000 in
theorem m_765 : (Jvm.Cond.fieldLink "PrefixMillModel" (95 : Nat) "PrefixMillModel" "bitsMade" "I") ∈ tt := tt_c6 _ (List.mem_of_getElem? (i := 67) (by rfl))
set_option maxRecDepth 20000 in
theorem m_766 : (Jvm.Cond.fieldLink "PrefixMillModel" (40 : Nat) "PrefixMillModel" "weight" "[I") ∈ tt := tt_c6 _ (List.mem_of_getElem? (i := 68) (by rfl))
set_option maxRecDepth 20000 in
theorem m_767 : (Jvm.Cond.fieldLink "PrefixMillModel" (134 : Nat) "PrefixMillModel" "weights" "I") ∈ tt := tt_c6 _ (List.mem_of_getElem? (i := 69) (by rfl))
set_option maxRecDepth 20000 in
theorem m_768 : (Jvm.Cond.fieldLink "PrefixMillModel" (131 : Nat) "PrefixMillModel" "order" "I") ∈ tt := tt_c6 _ (List.mem_of_getElem? (i := 70) (by rfl))
set_option maxRecDepth 20000 in
theorem m_769 : (Jvm.Cond.fieldLink "PrefixMillModel" (43 : Nat) "PrefixMillModel" "points" "[I") ∈ tt := tt_c6 _ (List.mem_of_getElem? (i := 71) (by rfl))
set_option maxRecDepth 20000 in
theorem m_770 : (Jvm.Cond.fieldLink "PrefixMillModel" (46 : Nat) "PrefixMillModel" "cutOff" "[I") ∈ tt := tt_c6 _ (List.mem_of_getElem? (i := 72) (by rfl))
set_option maxRecDepth 20000 in
theorem m_771 : (Jvm.Cond.fieldLink "PrefixMillModel" (49 : Nat) "PrefixMillModel" "had" "[Z") ∈ tt := tt_c6 _ (List.mem_of_getElem? (i := 73) (by rfl))
set_option maxRecDepth 20000 in
theorem m_772 : (Jvm.Cond.fieldLink "PrefixMillModel" (53 : Nat) "PrefixMillModel" "placeOf" "[I") ∈ tt := tt_c6 _ (List.mem_of_getElem? (i := 74) (by rfl))
set_option maxRecDepth 20000 in
theorem m_773 : (Jvm.Cond.fieldLink "PrefixMillModel" (189 : Nat) "PrefixMillModel" "bit" "I") ∈ tt := tt_c6 _ (List.mem_of_getElem? (i := 75) (by rfl))
set_option maxRecDepth 20000 in
theorem m_774 : (Jvm.Cond.fieldLink "PrefixMillModel" (192 : Nat) "PrefixMillModel" "bitEnd" "I") ∈ tt := tt_c6 _ (List.mem_of_getElem? (i := 76) (by rfl))
set_option maxRecDepth 20000 in
theorem m_775 : (Jvm.Cond.laysFinal "PrefixMillModel" "PrefixMillModel" "in" "[I") ∈ tt := tt_c6 _ (List.mem_of_getElem? (i := 77) (by rfl))
set_option maxRecDepth 20000 in
theorem m_777 : (Jvm.Cond.lays "PrefixMillModel" "PrefixMillModel" "inLong" "I") ∈ tt := tt_c6 _ (List.mem_of_getElem? (i := 78) (by rfl))
set_option maxRecDepth 20000 in
theorem m_779 : (Jvm.Cond.lays "PrefixMillModel" "PrefixMillModel" "goesOn" "I") ∈ tt := tt_c6 _ (List.mem_of_getElem? (i := 79) (by rfl))
set_option maxRecDepth 20000 in
theorem m_781 : (Jvm.Cond.laysFinal "PrefixMillModel" "PrefixMillModel" "out" "[I") ∈ tt := tt_c6 _ (List.mem_of_getElem? (i := 80) (by rfl))
set_option maxRecDepth 20000 in
theorem m_783 : (Jvm.Cond.lays "PrefixMillModel" "PrefixMillModel" "outLong" "I") ∈ tt := tt_c6 _ (List.mem_of_getElem? (i := 81) (by rfl))
set_option maxRecDepth 20000 in
theorem m_785 : (Jvm.Cond.laysFinal "PrefixMillModel" "PrefixMillModel" "counts" "[I") ∈ tt := tt_c6 _ (List.mem_of_getElem? (i := 82) (by rfl))
set_option maxRecDepth 20000 in
theorem m_787 : (Jvm.Cond.lays "PrefixMillModel" "PrefixMillModel" "greatest" "I") ∈ tt := tt_c6 _ (List.mem_of_getElem? (i := 83) (by rfl))
set_option maxRecDepth 20000 in
theorem m_789 : (Jvm.Cond.laysFinal "PrefixMillModel" "PrefixMillModel" "length" "[I") ∈ tt := tt_c6 _ (List.mem_of_getElem? (i := 84) (by rfl))
set_option maxRecDepth 20000 in
theorem m_791 : (Jvm.Cond.laysFinal "PrefixMillModel" "PrefixMillModel" "symbolOf" "[I") ∈ tt := tt_c6 _ (List.mem_of_getElem? (i := 85) (by rfl))
set_option maxRecDepth 20000 in
theorem m_793 : (Jvm.Cond.laysFinal "PrefixMillModel" "PrefixMillModel" "draft" "[I") ∈ tt := tt_c6 _ (List.mem_of_getElem? (i := 86) (by rfl))
set_option maxRecDepth 20000 in
theorem m_795 : (Jvm.Cond.laysFinal "PrefixMillModel" "PrefixMillModel" "knot" "[I") ∈ tt := tt_c6 _ (List.mem_of_getElem? (i := 87) (by rfl))
set_option maxRecDepth 20000 in
theorem m_797 : (Jvm.Cond.laysFinal "PrefixMillModel" "PrefixMillModel" "inSum" "[I") ∈ tt := tt_c6 _ (List.mem_of_getElem? (i := 88) (by rfl))
set_option maxRecDepth 20000 in
theorem m_799 : (Jvm.Cond.lays "PrefixMillModel" "PrefixMillModel" "knots" "I") ∈ tt := tt_c6 _ (List.mem_of_getElem? (i := 89) (by rfl))
set_option maxRecDepth 20000 in
theorem m_801 : (Jvm.Cond.laysFinal "PrefixMillModel" "PrefixMillModel" "halved" "[I") ∈ tt := tt_c6 _ (List.mem_of_getElem? (i := 90) (by rfl))
set_option maxRecDepth 20000 in
theorem m_803 : (Jvm.Cond.laysFinal "PrefixMillModel" "PrefixMillModel" "made" "[I") ∈ tt := tt_c6 _ (List.mem_of_getElem? (i := 91) (by rfl))
set_option maxRecDepth 20000 in
theorem m_805 : (Jvm.Cond.lays "PrefixMillModel" "PrefixMillModel" "bitsMade" "I") ∈ tt := tt_c6 _ (List.mem_of_getElem? (i := 92) (by rfl))
set_option maxRecDepth 20000 in
theorem m_807 : (Jvm.Cond.laysFinal "PrefixMillModel" "PrefixMillModel" "weight" "[I") ∈ tt := tt_c6 _ (List.mem_of_getElem? (i := 93) (by rfl))
set_option maxRecDepth 20000 in
theorem m_809 : (Jvm.Cond.lays "PrefixMillModel" "PrefixMillModel" "weights" "I") ∈ tt := tt_c6 _ (List.mem_of_getElem? (i := 94) (by rfl))
set_option maxRecDepth 20000 in
theorem m_811 : (Jvm.Cond.lays "PrefixMillModel" "PrefixMillModel" "order" "I") ∈ tt := tt_c6 _ (List.mem_of_getElem? (i := 95) (by rfl))
set_option maxRecDepth 20000 in
theorem m_813 : (Jvm.Cond.laysFinal "PrefixMillModel" "PrefixMillModel" "points" "[I") ∈ tt := tt_c6 _ (List.mem_of_getElem? (i := 96) (by rfl))
set_option maxRecDepth 20000 in
theorem m_815 : (Jvm.Cond.laysFinal "PrefixMillModel" "PrefixMillModel" "cutOff" "[I") ∈ tt := tt_c6 _ (List.mem_of_getElem? (i := 97) (by rfl))
set_option maxRecDepth 20000 in
theorem m_817 : (Jvm.Cond.laysFinal "PrefixMillModel" "PrefixMillModel" "had" "[Z") ∈ tt := tt_c6 _ (List.mem_of_getElem? (i := 98) (by rfl))
set_option maxRecDepth 20000 in
theorem m_819 : (Jvm.Cond.laysFinal "PrefixMillModel" "PrefixMillModel" "placeOf" "[I") ∈ tt := tt_c6 _ (List.mem_of_getElem? (i := 99) (by rfl))
set_option maxRecDepth 20000 in
theorem m_821 : (Jvm.Cond.lays "PrefixMillModel" "PrefixMillModel" "bit" "I") ∈ tt := tt_c7 _ (List.mem_of_getElem? (i := 0) (by rfl))
set_option maxRecDepth 20000 in
theorem m_823 : (Jvm.Cond.lays "PrefixMillModel" "PrefixMillModel" "bitEnd" "I") ∈ tt := tt_c7 _ (List.mem_of_getElem? (i := 1) (by rfl))
set_option maxRecDepth 20000 in
theorem m_826 : (Jvm.Cond.arrayClass Jvm.ClassFile.FieldType.boolean) ∈ tt := tt_c7 _ (List.mem_of_getElem? (i := 2) (by rfl))
set_option maxRecDepth 20000 in
theorem m_827 : (Jvm.Cond.methodLink "PrefixMillLaw" (19 : Nat) ({ cls := "PrefixMillModel", name := "write", desc := "(JI)Z" } : Jvm.MethodName)) ∈ tt := tt_c7 _ (List.mem_of_getElem? (i := 3) (by rfl))
set_option maxRecDepth 20000 in
theorem m_828 : (Jvm.Cond.instanceMethod ({ cls := "PrefixMillModel", name := "write", desc := "(JI)Z" } : Jvm.MethodName)) ∈ tt := tt_c7 _ (List.mem_of_getElem? (i := 4) (by rfl))
set_option maxRecDepth 20000 in
theorem m_829 : (Jvm.Cond.selects "PrefixMillModel" ({ cls := "PrefixMillModel", name := "write", desc := "(JI)Z" } : Jvm.MethodName) ({ cls := "PrefixMillModel", name := "write", desc := "(JI)Z" } : Jvm.MethodName)) ∈ tt := tt_c7 _ (List.mem_of_getElem? (i := 5) (by rfl))
set_option maxRecDepth 20000 in
theorem m_830 : (Jvm.Cond.code ({ cls := "PrefixMillModel", name := "write", desc := "(JI)Z" } : Jvm.MethodName) prog_12_method_2_code (5 : Nat) (Option.some Jvm.ClassFile.FieldType.boolean)) ∈ tt := tt_c7 _ (List.mem_of_getElem? (i := 6) (by rfl))
set_option maxRecDepth 20000 in
theorem m_831 : (Jvm.Cond.methodLink "PrefixMillLaw" (24 : Nat) ({ cls := "PrefixMillModel", name := "again", desc := "(II)Z" } : Jvm.MethodName)) ∈ tt := tt_c7 _ (List.mem_of_getElem? (i := 7) (by rfl))
set_option maxRecDepth 20000 in
theorem m_832 : (Jvm.Cond.instanceMethod ({ cls := "PrefixMillModel", name := "again", desc := "(II)Z" } : Jvm.MethodName)) ∈ tt := tt_c7 _ (List.mem_of_getElem? (i := 8) (by rfl))
set_option maxRecDepth 20000 in
theorem m_833 : (Jvm.Cond.selects "PrefixMillModel" ({ cls := "PrefixMillModel", name := "again", desc := "(II)Z" } : Jvm.MethodName) ({ cls := "PrefixMillModel", name := "again", desc := "(II)Z" } : Jvm.MethodName)) ∈ tt := tt_c7 _ (List.mem_of_getElem? (i := 9) (by rfl))
set_option maxRecDepth 20000 in
theorem m_834 : (Jvm.Cond.code ({ cls := "PrefixMillModel", name := "again", desc := "(II)Z" } : Jvm.MethodName) prog_12_method_3_code (5 : Nat) (Option.some Jvm.ClassFile.FieldType.boolean)) ∈ tt := tt_c7 _ (List.mem_of_getElem? (i := 10) (by rfl))
set_option maxRecDepth 20000 in
theorem m_835 : (Jvm.Cond.constantLong "PrefixMillModel" (60 : Nat) (6000 : Int64)) ∈ tt := tt_c7 _ (List.mem_of_getElem? (i := 11) (by rfl))
set_option maxRecDepth 20000 in
theorem m_836 : (Jvm.Cond.methodLink "PrefixMillLaw" (28 : Nat) ({ cls := "PrefixMillModel", name := "turn", desc := "()V" } : Jvm.MethodName)) ∈ tt := tt_c7 _ (List.mem_of_getElem? (i := 12) (by rfl))
set_option maxRecDepth 20000 in
theorem m_837 : (Jvm.Cond.instanceMethod ({ cls := "PrefixMillModel", name := "turn", desc := "()V" } : Jvm.MethodName)) ∈ tt := tt_c7 _ (List.mem_of_getElem? (i := 13) (by rfl))
set_option maxRecDepth 20000 in
theorem m_838 : (Jvm.Cond.selects "PrefixMillModel" ({ cls := "PrefixMillModel", name := "turn", desc := "()V" } : Jvm.MethodName) ({ cls := "PrefixMillModel", name := "turn", desc := "()V" } : Jvm.MethodName)) ∈ tt := tt_c7 _ (List.mem_of_getElem? (i := 14) (by rfl))
set_option maxRecDepth 20000 in
theorem m_839 : (Jvm.Cond.code ({ cls := "PrefixMillModel", name := "turn", desc := "()V" } : Jvm.MethodName) prog_12_method_4_code (2 : Nat) (Option.none : Option Jvm.ClassFile.FieldType)) ∈ tt := tt_c7 _ (List.mem_of_getElem? (i := 15) (by rfl))
set_option maxRecDepth 20000 in
theorem m_840 : (Jvm.Cond.methodLink "PrefixMillLaw" (32 : Nat) ({ cls := "PrefixMillModel", name := "clear", desc := "()V" } : Jvm.MethodName)) ∈ tt := tt_c7 _ (List.mem_of_getElem? (i := 16) (by rfl))
set_option maxRecDepth 20000 in
theorem m_841 : (Jvm.Cond.instanceMethod ({ cls := "PrefixMillModel", name := "clear", desc := "()V" } : Jvm.MethodName)) ∈ tt := tt_c7 _ (List.mem_of_getElem? (i := 17) (by rfl))
set_option maxRecDepth 20000 in
theorem m_842 : (Jvm.Cond.selects "PrefixMillModel" ({ cls := "PrefixMillModel", name := "clear", desc := "()V" } : Jvm.MethodName) ({ cls := "PrefixMillModel", name := "clear", desc := "()V" } : Jvm.MethodName)) ∈ tt := tt_c7 _ (List.mem_of_getElem? (i := 18) (by rfl))
set_option maxRecDepth 20000 in
theorem m_843 : (Jvm.Cond.code ({ cls := "PrefixMillModel", name := "clear", desc := "()V" } : Jvm.MethodName) prog_12_method_5_code (2 : Nat) (Option.none : Option Jvm.ClassFile.FieldType)) ∈ tt := tt_c7 _ (List.mem_of_getElem? (i := 19) (by rfl))
set_option maxRecDepth 20000 in
theorem m_844 : (Jvm.Cond.methodLink "PrefixMillLaw" (37 : Nat) ({ cls := "PrefixMillModel", name := "place", desc := "(I)Z" } : Jvm.MethodName)) ∈ tt := tt_c7 _ (List.mem_of_getElem? (i := 20) (by rfl))
set_option maxRecDepth 20000 in
theorem m_845 : (Jvm.Cond.instanceMethod ({ cls := "PrefixMillModel", name := "place", desc := "(I)Z" } : Jvm.MethodName)) ∈ tt := tt_c7 _ (List.mem_of_getElem? (i := 21) (by rfl))
set_option maxRecDepth 20000 in
theorem m_846 : (Jvm.Cond.selects "PrefixMillModel" ({ cls := "PrefixMillModel", name := "place", desc := "(I)Z" } : Jvm.MethodName) ({ cls := "PrefixMillModel", name := "place", desc := "(I)Z" } : Jvm.MethodName)) ∈ tt := tt_c7 _ (List.mem_of_getElem? (i := 22) (by rfl))
set_option maxRecDepth 20000 in
theorem m_847 : (Jvm.Cond.code ({ cls := "PrefixMillModel", name := "place", desc := "(I)Z" } : Jvm.MethodName) prog_12_method_6_code (2 : Nat) (Option.some Jvm.ClassFile.FieldType.boolean)) ∈ tt := tt_c7 _ (List.mem_of_getElem? (i := 23) (by rfl))
set_option maxRecDepth 20000 in
theorem m_848 : (Jvm.Cond.methodLink "PrefixMillLaw" (42 : Nat) ({ cls := "PrefixMillModel", name := "at", desc := "()I" } : Jvm.MethodName)) ∈ tt := tt_c7 _ (List.mem_of_getElem? (i := 24) (by rfl))
set_option maxRecDepth 20000 in
theorem m_849 : (Jvm.Cond.instanceMethod ({ cls := "PrefixMillModel", name := "at", desc := "()I" } : Jvm.MethodName)) ∈ tt := tt_c7 _ (List.mem_of_getElem? (i := 25) (by rfl))
set_option maxRecDepth 20000 in
theorem m_850 : (Jvm.Cond.selects "PrefixMillModel" ({ cls := "PrefixMillModel", name := "at", desc := "()I" } : Jvm.MethodName) ({ cls := "PrefixMillModel", name := "at", desc := "()I" } : Jvm.MethodName)) ∈ tt := tt_c7 _ (List.mem_of_getElem? (i := 26) (by rfl))
set_option maxRecDepth 20000 in
theorem m_851 : (Jvm.Cond.code ({ cls := "PrefixMillModel", name := "at", desc := "()I" } : Jvm.MethodName) prog_12_method_7_code (1 : Nat) (Option.some Jvm.ClassFile.FieldType.int)) ∈ tt := tt_c7 _ (List.mem_of_getElem? (i := 27) (by rfl))
set_option maxRecDepth 20000 in
theorem m_852 : (Jvm.Cond.methodLink "PrefixMillLaw" (46 : Nat) ({ cls := "PrefixMillModel", name := "count", desc := "(II)Z" } : Jvm.MethodName)) ∈ tt := tt_c7 _ (List.mem_of_getElem? (i := 28) (by rfl))
set_option maxRecDepth 20000 in
theorem m_853 : (Jvm.Cond.instanceMethod ({ cls := "PrefixMillModel", name := "count", desc := "(II)Z" } : Jvm.MethodName)) ∈ tt := tt_c7 _ (List.mem_of_getElem? (i := 29) (by rfl))
set_option maxRecDepth 20000 in
theorem m_854 : (Jvm.Cond.selects "PrefixMillModel" ({ cls := "PrefixMillModel", name := "count", desc := "(II)Z" } : Jvm.MethodName) ({ cls := "PrefixMillModel", name := "count", desc := "(II)Z" } : Jvm.MethodName)) ∈ tt := tt_c7 _ (List.mem_of_getElem? (i := 30) (by rfl))
set_option maxRecDepth 20000 in
theorem m_855 : (Jvm.Cond.code ({ cls := "PrefixMillModel", name := "count", desc := "(II)Z" } : Jvm.MethodName) prog_12_method_8_code (3 : Nat) (Option.some Jvm.ClassFile.FieldType.boolean)) ∈ tt := tt_c7 _ (List.mem_of_getElem? (i := 31) (by rfl))
set_option maxRecDepth 20000 in
theorem m_856 : (Jvm.Cond.constant "PrefixMillModel" (68 : Nat) (65535 : Int32)) ∈ tt := tt_c7 _ (List.mem_of_getElem? (i := 32) (by rfl))
set_option maxRecDepth 20000 in
theorem m_857 : (Jvm.Cond.methodLink "PrefixMillLaw" (50 : Nat) ({ cls := "PrefixMillModel", name := "countAll", desc := "()I" } : Jvm.MethodName)) ∈ tt := tt_c7 _ (List.mem_of_getElem? (i := 33) (by rfl))
set_option maxRecDepth 20000 in
theorem m_858 : (Jvm.Cond.instanceMethod ({ cls := "PrefixMillModel", name := "countAll", desc := "()I" } : Jvm.MethodName)) ∈ tt := tt_c7 _ (List.mem_of_getElem? (i := 34) (by rfl))
set_option maxRecDepth 20000 in
theorem m_859 : (Jvm.Cond.selects "PrefixMillModel" ({ cls := "PrefixMillModel", name := "countAll", desc := "()I" } : Jvm.MethodName) ({ cls := "PrefixMillModel", name := "countAll", desc := "()I" } : Jvm.MethodName)) ∈ tt := tt_c7 _ (List.mem_of_getElem? (i := 35) (by rfl))
set_option maxRecDepth 20000 in
theorem m_860 : (Jvm.Cond.code ({ cls := "PrefixMillModel", name := "countAll", desc := "()I" } : Jvm.MethodName) prog_12_method_9_code (2 : Nat) (Option.some Jvm.ClassFile.FieldType.int)) ∈ tt := tt_c7 _ (List.mem_of_getElem? (i := 36) (by rfl))
set_option maxRecDepth 20000 in
theorem m_861 : (Jvm.Cond.methodLink "PrefixMillLaw" (55 : Nat) ({ cls := "PrefixMillModel", name := "lengths", desc := "(I)I" } : Jvm.MethodName)) ∈ tt := tt_c7 _ (List.mem_of_getElem? (i := 37) (by rfl))
set_option maxRecDepth 20000 in
theorem m_862 : (Jvm.Cond.instanceMethod ({ cls := "PrefixMillModel", name := "lengths", desc := "(I)I" } : Jvm.MethodName)) ∈ tt := tt_c7 _ (List.mem_of_getElem? (i := 38) (by rfl))
set_option maxRecDepth 20000 in
theorem m_863 : (Jvm.Cond.selects "PrefixMillModel" ({ cls := "PrefixMillModel", name := "lengths", desc := "(I)I" } : Jvm.MethodName) ({ cls := "PrefixMillModel", name := "lengths", desc := "(I)I" } : Jvm.MethodName)) ∈ tt := tt_c7 _ (List.mem_of_getElem? (i := 39) (by rfl))
set_option maxRecDepth 20000 in
theorem m_864 : (Jvm.Cond.code ({ cls := "PrefixMillModel", name := "lengths", desc := "(I)I" } : Jvm.MethodName) prog_12_method_15_code (5 : Nat) (Option.some Jvm.ClassFile.FieldType.int)) ∈ tt := tt_c7 _ (List.mem_of_getElem? (i := 40) (by rfl))
set_option maxRecDepth 20000 in
theorem m_865 : (Jvm.Cond.methodLink "PrefixMillModel" (82 : Nat) ({ cls := "PrefixMillModel", name := "sums", desc := "()V" } : Jvm.MethodName)) ∈ tt := tt_c7 _ (List.mem_of_getElem? (i := 41) (by rfl))
set_option maxRecDepth 20000 in
theorem m_867 : (Jvm.Cond.instanceMethod ({ cls := "PrefixMillModel", name := "sums", desc := "()V" } : Jvm.MethodName)) ∈ tt := tt_c7 _ (List.mem_of_getElem? (i := 42) (by rfl))
set_option maxRecDepth 20000 in
theorem m_868 : (Jvm.Cond.code ({ cls := "PrefixMillModel", name := "sums", desc := "()V" } : Jvm.MethodName) prog_12_method_14_code (5 : Nat) (Option.none : Option Jvm.ClassFile.FieldType)) ∈ tt := tt_c7 _ (List.mem_of_getElem? (i := 43) (by rfl))
set_option maxRecDepth 20000 in
theorem m_869 : (Jvm.Cond.methodLink "PrefixMillModel" (79 : Nat) ({ cls := "PrefixMillModel", name := "least", desc := "(I)I" } : Jvm.MethodName)) ∈ tt := tt_c7 _ (List.mem_of_getElem? (i := 44) (by rfl))
set_option maxRecDepth 20000 in
theorem m_871 : (Jvm.Cond.instanceMethod ({ cls := "PrefixMillModel", name := "least", desc := "(I)I" } : Jvm.MethodName)) ∈ tt := tt_c7 _ (List.mem_of_getElem? (i := 45) (by rfl))
set_option maxRecDepth 20000 in
theorem m_872 : (Jvm.Cond.code ({ cls := "PrefixMillModel", name := "least", desc := "(I)I" } : Jvm.MethodName) prog_12_method_13_code (4 : Nat) (Option.some Jvm.ClassFile.FieldType.int)) ∈ tt := tt_c7 _ (List.mem_of_getElem? (i := 46) (by rfl))
set_option maxRecDepth 20000 in
theorem m_873 : (Jvm.Cond.methodLink "PrefixMillModel" (85 : Nat) ({ cls := "PrefixMillModel", name := "longestDraft", desc := "()I" } : Jvm.MethodName)) ∈ tt := tt_c7 _ (List.mem_of_getElem? (i := 47) (by rfl))
set_option maxRecDepth 20000 in
theorem m_875 : (Jvm.Cond.instanceMethod ({ cls := "PrefixMillModel", name := "longestDraft", desc := "()I" } : Jvm.MethodName)) ∈ tt := tt_c7 _ (List.mem_of_getElem? (i := 48) (by rfl))
set_option maxRecDepth 20000 in
theorem m_876 : (Jvm.Cond.code ({ cls := "PrefixMillModel", name := "longestDraft", desc := "()I" } : Jvm.MethodName) prog_12_method_12_code (3 : Nat) (Option.some Jvm.ClassFile.FieldType.int)) ∈ tt := tt_c7 _ (List.mem_of_getElem? (i := 49) (by rfl))
set_option maxRecDepth 20000 in
theorem m_877 : (Jvm.Cond.methodLink "PrefixMillModel" (89 : Nat) ({ cls := "PrefixMillModel", name := "settle", desc := "(I)I" } : Jvm.MethodName)) ∈ tt := tt_c7 _ (List.mem_of_getElem? (i := 50) (by rfl))
set_option maxRecDepth 20000 in
theorem m_879 : (Jvm.Cond.instanceMethod ({ cls := "PrefixMillModel", name := "settle", desc := "(I)I" } : Jvm.MethodName)) ∈ tt := tt_c7 _ (List.mem_of_getElem? (i := 51) (by rfl))
set_option maxRecDepth 20000 in
theorem m_880 : (Jvm.Cond.code ({ cls := "PrefixMillModel", name := "settle", desc := "(I)I" } : Jvm.MethodName) prog_12_method_11_code (6 : Nat) (Option.some Jvm.ClassFile.FieldType.int)) ∈ tt := tt_c7 _ (List.mem_of_getElem? (i := 52) (by rfl))
set_option maxRecDepth 20000 in
theorem m_881 : (Jvm.Cond.methodLink "PrefixMillModel" (72 : Nat) ({ cls := "PrefixMillModel", name := "weightOf", desc := "(I)I" } : Jvm.MethodName)) ∈ tt := tt_c7 _ (List.mem_of_getElem? (i := 53) (by rfl))
set_option maxRecDepth 20000 in
theorem m_883 : (Jvm.Cond.instanceMethod ({ cls := "PrefixMillModel", name := "weightOf", desc := "(I)I" } : Jvm.MethodName)) ∈ tt := tt_c7 _ (List.mem_of_getElem? (i := 54) (by rfl))
set_option maxRecDepth 20000 in
theorem m_884 : (Jvm.Cond.code ({ cls := "PrefixMillModel", name := "weightOf", desc := "(I)I" } : Jvm.MethodName) prog_12_method_10_code (2 : Nat) (Option.some Jvm.ClassFile.FieldType.int)) ∈ tt := tt_c7 _ (List.mem_of_getElem? (i := 55) (by rfl))
set_option maxRecDepth 20000 in
theorem m_885 : (Jvm.Cond.methodLink "PrefixMillLaw" (59 : Nat) ({ cls := "PrefixMillModel", name := "just", desc := "()I" } : Jvm.MethodName)) ∈ tt := tt_c7 _ (List.mem_of_getElem? (i := 56) (by rfl))
set_option maxRecDepth 20000 in
theorem m_886 : (Jvm.Cond.instanceMethod ({ cls := "PrefixMillModel", name := "just", desc := "()I" } : Jvm.MethodName)) ∈ tt := tt_c7 _ (List.mem_of_getElem? (i := 57) (by rfl))
set_option maxRecDepth 20000 in
theorem m_887 : (Jvm.Cond.selects "PrefixMillModel" ({ cls := "PrefixMillModel", name := "just", desc := "()I" } : Jvm.MethodName) ({ cls := "PrefixMillModel", name := "just", desc := "()I" } : Jvm.MethodName)) ∈ tt := tt_c7 _ (List.mem_of_getElem? (i := 58) (by rfl))
set_option maxRecDepth 20000 in
theorem m_888 : (Jvm.Cond.code ({ cls := "PrefixMillModel", name := "just", desc := "()I" } : Jvm.MethodName) prog_12_method_16_code (5 : Nat) (Option.some Jvm.ClassFile.FieldType.int)) ∈ tt := tt_c7 _ (List.mem_of_getElem? (i := 59) (by rfl))
set_option maxRecDepth 20000 in
theorem m_889 : (Jvm.Cond.methodLink "PrefixMillLaw" (81 : Nat) ({ cls := "PrefixMillModel", name := "about", desc := "(I)I" } : Jvm.MethodName)) ∈ tt := tt_c7 _ (List.mem_of_getElem? (i := 60) (by rfl))
set_option maxRecDepth 20000 in
theorem m_890 : (Jvm.Cond.instanceMethod ({ cls := "PrefixMillModel", name := "about", desc := "(I)I" } : Jvm.MethodName)) ∈ tt := tt_c7 _ (List.mem_of_getElem? (i := 61) (by rfl))
set_option maxRecDepth 20000 in
theorem m_891 : (Jvm.Cond.selects "PrefixMillModel" ({ cls := "PrefixMillModel", name := "about", desc := "(I)I" } : Jvm.MethodName) ({ cls := "PrefixMillModel", name := "about", desc := "(I)I" } : Jvm.MethodName)) ∈ tt := tt_c7 _ (List.mem_of_getElem? (i := 62) (by rfl))
set_option maxRecDepth 20000 in
theorem m_892 : (Jvm.Cond.code ({ cls := "PrefixMillModel", name := "about", desc := "(I)I" } : Jvm.MethodName) prog_12_method_18_code (4 : Nat) (Option.some Jvm.ClassFile.FieldType.int)) ∈ tt := tt_c7 _ (List.mem_of_getElem? (i := 63) (by rfl))
set_option maxRecDepth 20000 in
theorem m_893 : (Jvm.Cond.methodLink "PrefixMillLaw" (86 : Nat) ({ cls := "PrefixMillModel", name := "code", desc := "(II)I" } : Jvm.MethodName)) ∈ tt := tt_c7 _ (List.mem_of_getElem? (i := 64) (by rfl))
set_option maxRecDepth 20000 in
theorem m_894 : (Jvm.Cond.instanceMethod ({ cls := "PrefixMillModel", name := "code", desc := "(II)I" } : Jvm.MethodName)) ∈ tt := tt_c7 _ (List.mem_of_getElem? (i := 65) (by rfl))
set_option maxRecDepth 20000 in
theorem m_895 : (Jvm.Cond.selects "PrefixMillModel" ({ cls := "PrefixMillModel", name := "code", desc := "(II)I" } : Jvm.MethodName) ({ cls := "PrefixMillModel", name := "code", desc := "(II)I" } : Jvm.MethodName)) ∈ tt := tt_c7 _ (List.mem_of_getElem? (i := 66) (by rfl))
set_option maxRecDepth 20000 in
theorem m_896 : (Jvm.Cond.code ({ cls := "PrefixMillModel", name := "code", desc := "(II)I" } : Jvm.MethodName) prog_12_method_19_code (3 : Nat) (Option.some Jvm.ClassFile.FieldType.int)) ∈ tt := tt_c7 _ (List.mem_of_getElem? (i := 67) (by rfl))
set_option maxRecDepth 20000 in
theorem m_897 : (Jvm.Cond.methodLink "PrefixMillModel" (92 : Nat) ({ cls := "PrefixMillModel", name := "codeOf", desc := "(I)I" } : Jvm.MethodName)) ∈ tt := tt_c7 _ (List.mem_of_getElem? (i := 68) (by rfl))
set_option maxRecDepth 20000 in
theorem m_899 : (Jvm.Cond.instanceMethod ({ cls := "PrefixMillModel", name := "codeOf", desc := "(I)I" } : Jvm.MethodName)) ∈ tt := tt_c7 _ (List.mem_of_getElem? (i := 69) (by rfl))
set_option maxRecDepth 20000 in
theorem m_900 : (Jvm.Cond.code ({ cls := "PrefixMillModel", name := "codeOf", desc := "(I)I" } : Jvm.MethodName) prog_12_method_17_code (3 : Nat) (Option.some Jvm.ClassFile.FieldType.int)) ∈ tt := tt_c7 _ (List.mem_of_getElem? (i := 70) (by rfl))
set_option maxRecDepth 20000 in
theorem m_901 : (Jvm.Cond.methodLink "PrefixMillLaw" (72 : Nat) ({ cls := "PrefixMillModel", name := "encode", desc := "(Z)I" } : Jvm.MethodName)) ∈ tt := tt_c7 _ (List.mem_of_getElem? (i := 71) (by rfl))
set_option maxRecDepth 20000 in
theorem m_902 : (Jvm.Cond.instanceMethod ({ cls := "PrefixMillModel", name := "encode", desc := "(Z)I" } : Jvm.MethodName)) ∈ tt := tt_c7 _ (List.mem_of_getElem? (i := 72) (by rfl))
set_option maxRecDepth 20000 in
theorem m_903 : (Jvm.Cond.selects "PrefixMillModel" ({ cls := "PrefixMillModel", name := "encode", desc := "(Z)I" } : Jvm.MethodName) ({ cls := "PrefixMillModel", name := "encode", desc := "(Z)I" } : Jvm.MethodName)) ∈ tt := tt_c7 _ (List.mem_of_getElem? (i := 73) (by rfl))
set_option maxRecDepth 20000 in
theorem m_904 : (Jvm.Cond.code ({ cls := "PrefixMillModel", name := "encode", desc := "(Z)I" } : Jvm.MethodName) prog_12_method_26_code (7 : Nat) (Option.some Jvm.ClassFile.FieldType.int)) ∈ tt := tt_c7 _ (List.mem_of_getElem? (i := 74) (by rfl))
set_option maxRecDepth 20000 in
theorem m_905 : (Jvm.Cond.methodLink "PrefixMillModel" (105 : Nat) ({ cls := "PrefixMillModel", name := "streamBytes", desc := "(II)I" } : Jvm.MethodName)) ∈ tt := tt_c7 _ (List.mem_of_getElem? (i := 75) (by rfl))
set_option maxRecDepth 20000 in
theorem m_907 : (Jvm.Cond.instanceMethod ({ cls := "PrefixMillModel", name := "streamBytes", desc := "(II)I" } : Jvm.MethodName)) ∈ tt := tt_c7 _ (List.mem_of_getElem? (i := 76) (by rfl))
set_option maxRecDepth 20000 in
theorem m_908 : (Jvm.Cond.code ({ cls := "PrefixMillModel", name := "streamBytes", desc := "(II)I" } : Jvm.MethodName) prog_12_method_24_code (5 : Nat) (Option.some Jvm.ClassFile.FieldType.int)) ∈ tt := tt_c7 _ (List.mem_of_getElem? (i := 77) (by rfl))
set_option maxRecDepth 20000 in
theorem m_909 : (Jvm.Cond.methodLink "PrefixMillModel" (109 : Nat) ({ cls := "PrefixMillModel", name := "begin", desc := "()V" } : Jvm.MethodName)) ∈ tt := tt_c7 _ (List.mem_of_getElem? (i := 78) (by rfl))
set_option maxRecDepth 20000 in
theorem m_911 : (Jvm.Cond.instanceMethod ({ cls := "PrefixMillModel", name := "begin", desc := "()V" } : Jvm.MethodName)) ∈ tt := tt_c7 _ (List.mem_of_getElem? (i := 79) (by rfl))
set_option maxRecDepth 20000 in
theorem m_912 : (Jvm.Cond.code ({ cls := "PrefixMillModel", name := "begin", desc := "()V" } : Jvm.MethodName) prog_12_method_20_code (2 : Nat) (Option.none : Option Jvm.ClassFile.FieldType)) ∈ tt := tt_c7 _ (List.mem_of_getElem? (i := 80) (by rfl))
set_option maxRecDepth 20000 in
theorem m_913 : (Jvm.Cond.methodLink "PrefixMillModel" (98 : Nat) ({ cls := "PrefixMillModel", name := "put", desc := "(II)V" } : Jvm.MethodName)) ∈ tt := tt_c7 _ (List.mem_of_getElem? (i := 81) (by rfl))
set_option maxRecDepth 20000 in
theorem m_915 : (Jvm.Cond.instanceMethod ({ cls := "PrefixMillModel", name := "put", desc := "(II)V" } : Jvm.MethodName)) ∈ tt := tt_c7 _ (List.mem_of_getElem? (i := 82) (by rfl))
set_option maxRecDepth 20000 in
theorem m_916 : (Jvm.Cond.code ({ cls := "PrefixMillModel", name := "put", desc := "(II)V" } : Jvm.MethodName) prog_12_method_21_code (4 : Nat) (Option.none : Option Jvm.ClassFile.FieldType)) ∈ tt := tt_c7 _ (List.mem_of_getElem? (i := 83) (by rfl))
set_option maxRecDepth 20000 in
theorem m_917 : (Jvm.Cond.methodLink "PrefixMillModel" (112 : Nat) ({ cls := "PrefixMillModel", name := "putStream", desc := "(II)V" } : Jvm.MethodName)) ∈ tt := tt_c7 _ (List.mem_of_getElem? (i := 84) (by rfl))
set_option maxRecDepth 20000 in
theorem m_919 : (Jvm.Cond.instanceMethod ({ cls := "PrefixMillModel", name := "putStream", desc := "(II)V" } : Jvm.MethodName)) ∈ tt := tt_c7 _ (List.mem_of_getElem? (i := 85) (by rfl))
set_option maxRecDepth 20000 in
theorem m_920 : (Jvm.Cond.code ({ cls := "PrefixMillModel", name := "putStream", desc := "(II)V" } : Jvm.MethodName) prog_12_method_25_code (4 : Nat) (Option.none : Option Jvm.ClassFile.FieldType)) ∈ tt := tt_c7 _ (List.mem_of_getElem? (i := 86) (by rfl))
set_option maxRecDepth 20000 in
theorem m_921 : (Jvm.Cond.methodLink "PrefixMillModel" (102 : Nat) ({ cls := "PrefixMillModel", name := "fill", desc := "()V" } : Jvm.MethodName)) ∈ tt := tt_c7 _ (List.mem_of_getElem? (i := 87) (by rfl))
set_option maxRecDepth 20000 in
theorem m_923 : (Jvm.Cond.instanceMethod ({ cls := "PrefixMillModel", name := "fill", desc := "()V" } : Jvm.MethodName)) ∈ tt := tt_c7 _ (List.mem_of_getElem? (i := 88) (by rfl))
set_option maxRecDepth 20000 in
theorem m_924 : (Jvm.Cond.code ({ cls := "PrefixMillModel", name := "fill", desc := "()V" } : Jvm.MethodName) prog_12_method_22_code (1 : Nat) (Option.none : Option Jvm.ClassFile.FieldType)) ∈ tt := tt_c7 _ (List.mem_of_getElem? (i := 89) (by rfl))
set_option maxRecDepth 20000 in
theorem m_925 : (Jvm.Cond.methodLink "PrefixMillModel" (115 : Nat) ({ cls := "PrefixMillModel", name := "give", desc := "()I" } : Jvm.MethodName)) ∈ tt := tt_c7 _ (List.mem_of_getElem? (i := 90) (by rfl))
set_option maxRecDepth 20000 in
theorem m_927 : (Jvm.Cond.instanceMethod ({ cls := "PrefixMillModel", name := "give", desc := "()I" } : Jvm.MethodName)) ∈ tt := tt_c7 _ (List.mem_of_getElem? (i := 91) (by rfl))
set_option maxRecDepth 20000 in
theorem m_928 : (Jvm.Cond.code ({ cls := "PrefixMillModel", name := "give", desc := "()I" } : Jvm.MethodName) prog_12_method_23_code (2 : Nat) (Option.some Jvm.ClassFile.FieldType.int)) ∈ tt := tt_c7 _ (List.mem_of_getElem? (i := 92) (by rfl))
set_option maxRecDepth 20000 in
theorem m_929 : (Jvm.Cond.methodLink "PrefixMillLaw" (77 : Nat) ({ cls := "PrefixMillModel", name := "decode", desc := "(IZ)I" } : Jvm.MethodName)) ∈ tt := tt_c7 _ (List.mem_of_getElem? (i := 93) (by rfl))
set_option maxRecDepth 20000 in
theorem m_930 : (Jvm.Cond.instanceMethod ({ cls := "PrefixMillModel", name := "decode", desc := "(IZ)I" } : Jvm.MethodName)) ∈ tt := tt_c7 _ (List.mem_of_getElem? (i := 94) (by rfl))
set_option maxRecDepth 20000 in
theorem m_931 : (Jvm.Cond.selects "PrefixMillModel" ({ cls := "PrefixMillModel", name := "decode", desc := "(IZ)I" } : Jvm.MethodName) ({ cls := "PrefixMillModel", name := "decode", desc := "(IZ)I" } : Jvm.MethodName)) ∈ tt := tt_c7 _ (List.mem_of_getElem? (i := 95) (by rfl))
set_option maxRecDepth 20000 in
theorem m_932 : (Jvm.Cond.code ({ cls := "PrefixMillModel", name := "decode", desc := "(IZ)I" } : Jvm.MethodName) prog_12_method_30_code (6 : Nat) (Option.some Jvm.ClassFile.FieldType.int)) ∈ tt := tt_c7 _ (List.mem_of_getElem? (i := 96) (by rfl))
set_option maxRecDepth 20000 in
theorem m_933 : (Jvm.Cond.methodLink "PrefixMillModel" (125 : Nat) ({ cls := "PrefixMillModel", name := "takeFour", desc := "(II)I" } : Jvm.MethodName)) ∈ tt := tt_c7 _ (List.mem_of_getElem? (i := 97) (by rfl))
set_option maxRecDepth 20000 in
theorem m_935 : (Jvm.Cond.instanceMethod ({ cls := "PrefixMillModel", name := "takeFour", desc := "(II)I" } : Jvm.MethodName)) ∈ tt := tt_c7 _ (List.mem_of_getElem? (i := 98) (by rfl))
set_option maxRecDepth 20000 in
theorem m_936 : (Jvm.Cond.code ({ cls := "PrefixMillModel", name := "takeFour", desc := "(II)I" } : Jvm.MethodName) prog_12_method_29_code (8 : Nat) (Option.some Jvm.ClassFile.FieldType.int)) ∈ tt := tt_c7 _ (List.mem_of_getElem? (i := 99) (by rfl))
set_option maxRecDepth 20000 in
theorem m_937 : (Jvm.Cond.methodLink "PrefixMillModel" (121 : Nat) ({ cls := "PrefixMillModel", name := "takeStream", desc := "(IIII)I" } : Jvm.MethodName)) ∈ tt := tt_c8 _ (List.mem_of_getElem? (i := 0) (by rfl))
set_option maxRecDepth 20000 in
theorem m_939 : (Jvm.Cond.instanceMethod ({ cls := "PrefixMillModel", name := "takeStream", desc := "(IIII)I" } : Jvm.MethodName)) ∈ tt := tt_c8 _ (List.mem_of_getElem? (i := 1) (by rfl))
set_option maxRecDepth 20000 in
theorem m_940 : (Jvm.Cond.code ({ cls := "PrefixMillModel", name := "takeStream", desc := "(IIII)I" } : Jvm.MethodName) prog_12_method_28_code (10 : Nat) (Option.some Jvm.ClassFile.FieldType.int)) ∈ tt := tt_c8 _ (List.mem_of_getElem? (i := 2) (by rfl))
set_option maxRecDepth 20000 in
theorem m_941 : (Jvm.Cond.methodLink "PrefixMillModel" (118 : Nat) ({ cls := "PrefixMillModel", name := "bitAt", desc := "(I)I" } : Jvm.MethodName)) ∈ tt := tt_c8 _ (List.mem_of_getElem? (i := 3) (by rfl))
set_option maxRecDepth 20000 in
theorem m_943 : (Jvm.Cond.instanceMethod ({ cls := "PrefixMillModel", name := "bitAt", desc := "(I)I" } : Jvm.MethodName)) ∈ tt := tt_c8 _ (List.mem_of_getElem? (i := 4) (by rfl))
set_option maxRecDepth 20000 in
theorem m_944 : (Jvm.Cond.code ({ cls := "PrefixMillModel", name := "bitAt", desc := "(I)I" } : Jvm.MethodName) prog_12_method_27_code (2 : Nat) (Option.some Jvm.ClassFile.FieldType.int)) ∈ tt := tt_c8 _ (List.mem_of_getElem? (i := 5) (by rfl))
set_option maxRecDepth 20000 in
theorem m_945 : (Jvm.Cond.methodLink "PrefixMillLaw" (63 : Nat) ({ cls := "PrefixMillModel", name := "describe", desc := "()I" } : Jvm.MethodName)) ∈ tt := tt_c8 _ (List.mem_of_getElem? (i := 6) (by rfl))
set_option maxRecDepth 20000 in
theorem m_946 : (Jvm.Cond.instanceMethod ({ cls := "PrefixMillModel", name := "describe", desc := "()I" } : Jvm.MethodName)) ∈ tt := tt_c8 _ (List.mem_of_getElem? (i := 7) (by rfl))
set_option maxRecDepth 20000 in
theorem m_947 : (Jvm.Cond.selects "PrefixMillModel" ({ cls := "PrefixMillModel", name := "describe", desc := "()I" } : Jvm.MethodName) ({ cls := "PrefixMillModel", name := "describe", desc := "()I" } : Jvm.MethodName)) ∈ tt := tt_c8 _ (List.mem_of_getElem? (i := 8) (by rfl))
set_option maxRecDepth 20000 in
theorem m_948 : (Jvm.Cond.code ({ cls := "PrefixMillModel", name := "describe", desc := "()I" } : Jvm.MethodName) prog_12_method_49_code (6 : Nat) (Option.some Jvm.ClassFile.FieldType.int)) ∈ tt := tt_c8 _ (List.mem_of_getElem? (i := 9) (by rfl))
set_option maxRecDepth 20000 in
theorem m_949 : (Jvm.Cond.methodLink "PrefixMillModel" (180 : Nat) ({ cls := "PrefixMillModel", name := "different", desc := "()I" } : Jvm.MethodName)) ∈ tt := tt_c8 _ (List.mem_of_getElem? (i := 10) (by rfl))
set_option maxRecDepth 20000 in
theorem m_951 : (Jvm.Cond.instanceMethod ({ cls := "PrefixMillModel", name := "different", desc := "()I" } : Jvm.MethodName)) ∈ tt := tt_c8 _ (List.mem_of_getElem? (i := 11) (by rfl))
set_option maxRecDepth 20000 in
theorem m_952 : (Jvm.Cond.code ({ cls := "PrefixMillModel", name := "different", desc := "()I" } : Jvm.MethodName) prog_12_method_48_code (3 : Nat) (Option.some Jvm.ClassFile.FieldType.int)) ∈ tt := tt_c8 _ (List.mem_of_getElem? (i := 12) (by rfl))
set_option maxRecDepth 20000 in
theorem m_953 : (Jvm.Cond.methodLink "PrefixMillModel" (137 : Nat) ({ cls := "PrefixMillModel", name := "countOf", desc := "(I)I" } : Jvm.MethodName)) ∈ tt := tt_c8 _ (List.mem_of_getElem? (i := 13) (by rfl))
set_option maxRecDepth 20000 in
theorem m_955 : (Jvm.Cond.instanceMethod ({ cls := "PrefixMillModel", name := "countOf", desc := "(I)I" } : Jvm.MethodName)) ∈ tt := tt_c8 _ (List.mem_of_getElem? (i := 14) (by rfl))
set_option maxRecDepth 20000 in
theorem m_956 : (Jvm.Cond.code ({ cls := "PrefixMillModel", name := "countOf", desc := "(I)I" } : Jvm.MethodName) prog_12_method_33_code (4 : Nat) (Option.some Jvm.ClassFile.FieldType.int)) ∈ tt := tt_c8 _ (List.mem_of_getElem? (i := 15) (by rfl))
set_option maxRecDepth 20000 in
theorem m_957 : (Jvm.Cond.methodLink "PrefixMillModel" (183 : Nat) ({ cls := "PrefixMillModel", name := "putStates", desc := "(I)I" } : Jvm.MethodName)) ∈ tt := tt_c8 _ (List.mem_of_getElem? (i := 16) (by rfl))
set_option maxRecDepth 20000 in
theorem m_959 : (Jvm.Cond.instanceMethod ({ cls := "PrefixMillModel", name := "putStates", desc := "(I)I" } : Jvm.MethodName)) ∈ tt := tt_c8 _ (List.mem_of_getElem? (i := 17) (by rfl))
set_option maxRecDepth 20000 in
theorem m_960 : (Jvm.Cond.code ({ cls := "PrefixMillModel", name := "putStates", desc := "(I)I" } : Jvm.MethodName) prog_12_method_46_code (2 : Nat) (Option.some Jvm.ClassFile.FieldType.int)) ∈ tt := tt_c8 _ (List.mem_of_getElem? (i := 18) (by rfl))
set_option maxRecDepth 20000 in
theorem m_961 : (Jvm.Cond.methodLink "PrefixMillModel" (170 : Nat) ({ cls := "PrefixMillModel", name := "shareByCounts", desc := "(I)V" } : Jvm.MethodName)) ∈ tt := tt_c8 _ (List.mem_of_getElem? (i := 19) (by rfl))
set_option maxRecDepth 20000 in
theorem m_963 : (Jvm.Cond.instanceMethod ({ cls := "PrefixMillModel", name := "shareByCounts", desc := "(I)V" } : Jvm.MethodName)) ∈ tt := tt_c8 _ (List.mem_of_getElem? (i := 20) (by rfl))
set_option maxRecDepth 20000 in
theorem m_964 : (Jvm.Cond.code ({ cls := "PrefixMillModel", name := "shareByCounts", desc := "(I)V" } : Jvm.MethodName) prog_12_method_36_code (4 : Nat) (Option.none : Option Jvm.ClassFile.FieldType)) ∈ tt := tt_c8 _ (List.mem_of_getElem? (i := 21) (by rfl))
set_option maxRecDepth 20000 in
theorem m_965 : (Jvm.Cond.methodLink "PrefixMillModel" (140 : Nat) ({ cls := "PrefixMillModel", name := "newRound", desc := "()V" } : Jvm.MethodName)) ∈ tt := tt_c8 _ (List.mem_of_getElem? (i := 22) (by rfl))
set_option maxRecDepth 20000 in
theorem m_967 : (Jvm.Cond.instanceMethod ({ cls := "PrefixMillModel", name := "newRound", desc := "()V" } : Jvm.MethodName)) ∈ tt := tt_c8 _ (List.mem_of_getElem? (i := 23) (by rfl))
set_option maxRecDepth 20000 in
theorem m_968 : (Jvm.Cond.code ({ cls := "PrefixMillModel", name := "newRound", desc := "()V" } : Jvm.MethodName) prog_12_method_35_code (2 : Nat) (Option.none : Option Jvm.ClassFile.FieldType)) ∈ tt := tt_c8 _ (List.mem_of_getElem? (i := 24) (by rfl))
set_option maxRecDepth 20000 in
theorem m_969 : (Jvm.Cond.methodLink "PrefixMillModel" (143 : Nat) ({ cls := "PrefixMillModel", name := "lacking", desc := "()I" } : Jvm.MethodName)) ∈ tt := tt_c8 _ (List.mem_of_getElem? (i := 25) (by rfl))
set_option maxRecDepth 20000 in
theorem m_971 : (Jvm.Cond.instanceMethod ({ cls := "PrefixMillModel", name := "lacking", desc := "()I" } : Jvm.MethodName)) ∈ tt := tt_c8 _ (List.mem_of_getElem? (i := 26) (by rfl))
set_option maxRecDepth 20000 in
theorem m_972 : (Jvm.Cond.code ({ cls := "PrefixMillModel", name := "lacking", desc := "()I" } : Jvm.MethodName) prog_12_method_32_code (3 : Nat) (Option.some Jvm.ClassFile.FieldType.int)) ∈ tt := tt_c8 _ (List.mem_of_getElem? (i := 27) (by rfl))
set_option maxRecDepth 20000 in
theorem m_973 : (Jvm.Cond.methodLink "PrefixMillModel" (128 : Nat) ({ cls := "PrefixMillModel", name := "mass", desc := "(I)I" } : Jvm.MethodName)) ∈ tt := tt_c8 _ (List.mem_of_getElem? (i := 28) (by rfl))
set_option maxRecDepth 20000 in
theorem m_974 : (Jvm.Cond.static ({ cls := "PrefixMillModel", name := "mass", desc := "(I)I" } : Jvm.MethodName)) ∈ tt := tt_c8 _ (List.mem_of_getElem? (i := 29) (by rfl))
set_option maxRecDepth 20000 in
theorem m_975 : (Jvm.Cond.code ({ cls := "PrefixMillModel", name := "mass", desc := "(I)I" } : Jvm.MethodName) prog_12_method_31_code (1 : Nat) (Option.some Jvm.ClassFile.FieldType.int)) ∈ tt := tt_c8 _ (List.mem_of_getElem? (i := 30) (by rfl))
set_option maxRecDepth 20000 in
theorem m_976 : (Jvm.Cond.methodLink "PrefixMillModel" (146 : Nat) ({ cls := "PrefixMillModel", name := "nextToGet", desc := "()I" } : Jvm.MethodName)) ∈ tt := tt_c8 _ (List.mem_of_getElem? (i := 31) (by rfl))
set_option maxRecDepth 20000 in
theorem m_978 : (Jvm.Cond.instanceMethod ({ cls := "PrefixMillModel", name := "nextToGet", desc := "()I" } : Jvm.MethodName)) ∈ tt := tt_c8 _ (List.mem_of_getElem? (i := 32) (by rfl))
set_option maxRecDepth 20000 in
theorem m_979 : (Jvm.Cond.code ({ cls := "PrefixMillModel", name := "nextToGet", desc := "()I" } : Jvm.MethodName) prog_12_method_34_code (3 : Nat) (Option.some Jvm.ClassFile.FieldType.int)) ∈ tt := tt_c8 _ (List.mem_of_getElem? (i := 33) (by rfl))
set_option maxRecDepth 20000 in
theorem m_980 : (Jvm.Cond.methodLink "PrefixMillModel" (149 : Nat) ({ cls := "PrefixMillModel", name := "givePlaces", desc := "()V" } : Jvm.MethodName)) ∈ tt := tt_c8 _ (List.mem_of_getElem? (i := 34) (by rfl))
set_option maxRecDepth 20000 in
theorem m_982 : (Jvm.Cond.instanceMethod ({ cls := "PrefixMillModel", name := "givePlaces", desc := "()V" } : Jvm.MethodName)) ∈ tt := tt_c8 _ (List.mem_of_getElem? (i := 35) (by rfl))
set_option maxRecDepth 20000 in
theorem m_983 : (Jvm.Cond.code ({ cls := "PrefixMillModel", name := "givePlaces", desc := "()V" } : Jvm.MethodName) prog_12_method_37_code (7 : Nat) (Option.none : Option Jvm.ClassFile.FieldType)) ∈ tt := tt_c8 _ (List.mem_of_getElem? (i := 36) (by rfl))
set_option maxRecDepth 20000 in
theorem m_984 : (Jvm.Cond.methodLink "PrefixMillModel" (174 : Nat) ({ cls := "PrefixMillModel", name := "putShare", desc := "()V" } : Jvm.MethodName)) ∈ tt := tt_c8 _ (List.mem_of_getElem? (i := 37) (by rfl))
set_option maxRecDepth 20000 in
theorem m_986 : (Jvm.Cond.instanceMethod ({ cls := "PrefixMillModel", name := "putShare", desc := "()V" } : Jvm.MethodName)) ∈ tt := tt_c8 _ (List.mem_of_getElem? (i := 38) (by rfl))
set_option maxRecDepth 20000 in
theorem m_987 : (Jvm.Cond.code ({ cls := "PrefixMillModel", name := "putShare", desc := "()V" } : Jvm.MethodName) prog_12_method_42_code (9 : Nat) (Option.none : Option Jvm.ClassFile.FieldType)) ∈ tt := tt_c8 _ (List.mem_of_getElem? (i := 39) (by rfl))
set_option maxRecDepth 20000 in
theorem m_988 : (Jvm.Cond.methodLink "PrefixMillModel" (158 : Nat) ({ cls := "PrefixMillModel", name := "bitsFor", desc := "(I)I" } : Jvm.MethodName)) ∈ tt := tt_c8 _ (List.mem_of_getElem? (i := 40) (by rfl))
set_option maxRecDepth 20000 in
theorem m_989 : (Jvm.Cond.static ({ cls := "PrefixMillModel", name := "bitsFor", desc := "(I)I" } : Jvm.MethodName)) ∈ tt := tt_c8 _ (List.mem_of_getElem? (i := 41) (by rfl))
set_option maxRecDepth 20000 in
theorem m_990 : (Jvm.Cond.code ({ cls := "PrefixMillModel", name := "bitsFor", desc := "(I)I" } : Jvm.MethodName) prog_12_method_41_code (2 : Nat) (Option.some Jvm.ClassFile.FieldType.int)) ∈ tt := tt_c8 _ (List.mem_of_getElem? (i := 42) (by rfl))
set_option maxRecDepth 20000 in
theorem m_991 : (Jvm.Cond.methodLink "PrefixMillModel" (177 : Nat) ({ cls := "PrefixMillModel", name := "putRow", desc := "()V" } : Jvm.MethodName)) ∈ tt := tt_c8 _ (List.mem_of_getElem? (i := 43) (by rfl))
set_option maxRecDepth 20000 in
theorem m_993 : (Jvm.Cond.instanceMethod ({ cls := "PrefixMillModel", name := "putRow", desc := "()V" } : Jvm.MethodName)) ∈ tt := tt_c8 _ (List.mem_of_getElem? (i := 44) (by rfl))
set_option maxRecDepth 20000 in
theorem m_994 : (Jvm.Cond.code ({ cls := "PrefixMillModel", name := "putRow", desc := "()V" } : Jvm.MethodName) prog_12_method_45_code (5 : Nat) (Option.none : Option Jvm.ClassFile.FieldType)) ∈ tt := tt_c8 _ (List.mem_of_getElem? (i := 45) (by rfl))
set_option maxRecDepth 20000 in
theorem m_995 : (Jvm.Cond.methodLink "PrefixMillModel" (164 : Nat) ({ cls := "PrefixMillModel", name := "lowest", desc := "(I)I" } : Jvm.MethodName)) ∈ tt := tt_c8 _ (List.mem_of_getElem? (i := 46) (by rfl))
set_option maxRecDepth 20000 in
theorem m_997 : (Jvm.Cond.instanceMethod ({ cls := "PrefixMillModel", name := "lowest", desc := "(I)I" } : Jvm.MethodName)) ∈ tt := tt_c8 _ (List.mem_of_getElem? (i := 47) (by rfl))
set_option maxRecDepth 20000 in
theorem m_998 : (Jvm.Cond.code ({ cls := "PrefixMillModel", name := "lowest", desc := "(I)I" } : Jvm.MethodName) prog_12_method_43_code (3 : Nat) (Option.some Jvm.ClassFile.FieldType.int)) ∈ tt := tt_c8 _ (List.mem_of_getElem? (i := 48) (by rfl))
set_option maxRecDepth 20000 in
theorem m_999 : (Jvm.Cond.methodLink "PrefixMillModel" (155 : Nat) ({ cls := "PrefixMillModel", name := "bitsOf", desc := "(I)I" } : Jvm.MethodName)) ∈ tt := tt_c8 _ (List.mem_of_getElem? (i := 49) (by rfl))
set_option maxRecDepth 20000 in
theorem m_1001 : (Jvm.Cond.instanceMethod ({ cls := "PrefixMillModel", name := "bitsOf", desc := "(I)I" } : Jvm.MethodName)) ∈ tt := tt_c8 _ (List.mem_of_getElem? (i := 50) (by rfl))
set_option maxRecDepth 20000 in
theorem m_1002 : (Jvm.Cond.code ({ cls := "PrefixMillModel", name := "bitsOf", desc := "(I)I" } : Jvm.MethodName) prog_12_method_39_code (3 : Nat) (Option.some Jvm.ClassFile.FieldType.int)) ∈ tt := tt_c8 _ (List.mem_of_getElem? (i := 51) (by rfl))
set_option maxRecDepth 20000 in
theorem m_1003 : (Jvm.Cond.methodLink "PrefixMillModel" (152 : Nat) ({ cls := "PrefixMillModel", name := "numberOf", desc := "(I)I" } : Jvm.MethodName)) ∈ tt := tt_c8 _ (List.mem_of_getElem? (i := 52) (by rfl))
set_option maxRecDepth 20000 in
theorem m_1005 : (Jvm.Cond.instanceMethod ({ cls := "PrefixMillModel", name := "numberOf", desc := "(I)I" } : Jvm.MethodName)) ∈ tt := tt_c8 _ (List.mem_of_getElem? (i := 53) (by rfl))
set_option maxRecDepth 20000 in
theorem m_1006 : (Jvm.Cond.code ({ cls := "PrefixMillModel", name := "numberOf", desc := "(I)I" } : Jvm.MethodName) prog_12_method_38_code (4 : Nat) (Option.some Jvm.ClassFile.FieldType.int)) ∈ tt := tt_c8 _ (List.mem_of_getElem? (i := 54) (by rfl))
set_option maxRecDepth 20000 in
theorem m_1007 : (Jvm.Cond.methodLink "PrefixMillModel" (167 : Nat) ({ cls := "PrefixMillModel", name := "placeFor", desc := "(II)I" } : Jvm.MethodName)) ∈ tt := tt_c8 _ (List.mem_of_getElem? (i := 55) (by rfl))
set_option maxRecDepth 20000 in
theorem m_1009 : (Jvm.Cond.instanceMethod ({ cls := "PrefixMillModel", name := "placeFor", desc := "(II)I" } : Jvm.MethodName)) ∈ tt := tt_c8 _ (List.mem_of_getElem? (i := 56) (by rfl))
set_option maxRecDepth 20000 in
theorem m_1010 : (Jvm.Cond.code ({ cls := "PrefixMillModel", name := "placeFor", desc := "(II)I" } : Jvm.MethodName) prog_12_method_44_code (4 : Nat) (Option.some Jvm.ClassFile.FieldType.int)) ∈ tt := tt_c8 _ (List.mem_of_getElem? (i := 57) (by rfl))
set_option maxRecDepth 20000 in
theorem m_1011 : (Jvm.Cond.methodLink "PrefixMillModel" (161 : Nat) ({ cls := "PrefixMillModel", name := "baseOf", desc := "(I)I" } : Jvm.MethodName)) ∈ tt := tt_c8 _ (List.mem_of_getElem? (i := 58) (by rfl))
set_option maxRecDepth 20000 in
theorem m_1013 : (Jvm.Cond.instanceMethod ({ cls := "PrefixMillModel", name := "baseOf", desc := "(I)I" } : Jvm.MethodName)) ∈ tt := tt_c8 _ (List.mem_of_getElem? (i := 59) (by rfl))
set_option maxRecDepth 20000 in
theorem m_1014 : (Jvm.Cond.code ({ cls := "PrefixMillModel", name := "baseOf", desc := "(I)I" } : Jvm.MethodName) prog_12_method_40_code (2 : Nat) (Option.some Jvm.ClassFile.FieldType.int)) ∈ tt := tt_c8 _ (List.mem_of_getElem? (i := 60) (by rfl))
set_option maxRecDepth 20000 in
theorem m_1015 : (Jvm.Cond.methodLink "PrefixMillModel" (186 : Nat) ({ cls := "PrefixMillModel", name := "putDirect", desc := "()V" } : Jvm.MethodName)) ∈ tt := tt_c8 _ (List.mem_of_getElem? (i := 61) (by rfl))
set_option maxRecDepth 20000 in
theorem m_1017 : (Jvm.Cond.instanceMethod ({ cls := "PrefixMillModel", name := "putDirect", desc := "()V" } : Jvm.MethodName)) ∈ tt := tt_c8 _ (List.mem_of_getElem? (i := 62) (by rfl))
set_option maxRecDepth 20000 in
theorem m_1018 : (Jvm.Cond.code ({ cls := "PrefixMillModel", name := "putDirect", desc := "()V" } : Jvm.MethodName) prog_12_method_47_code (2 : Nat) (Option.none : Option Jvm.ClassFile.FieldType)) ∈ tt := tt_c8 _ (List.mem_of_getElem? (i := 63) (by rfl))
set_option maxRecDepth 20000 in
theorem m_1019 : (Jvm.Cond.methodLink "PrefixMillLaw" (67 : Nat) ({ cls := "PrefixMillModel", name := "read", desc := "()I" } : Jvm.MethodName)) ∈ tt := tt_c8 _ (List.mem_of_getElem? (i := 64) (by rfl))
set_option maxRecDepth 20000 in
theorem m_1020 : (Jvm.Cond.instanceMethod ({ cls := "PrefixMillModel", name := "read", desc := "()I" } : Jvm.MethodName)) ∈ tt := tt_c8 _ (List.mem_of_getElem? (i := 65) (by rfl))
set_option maxRecDepth 20000 in
theorem m_1021 : (Jvm.Cond.selects "PrefixMillModel" ({ cls := "PrefixMillModel", name := "read", desc := "()I" } : Jvm.MethodName) ({ cls := "PrefixMillModel", name := "read", desc := "()I" } : Jvm.MethodName)) ∈ tt := tt_c8 _ (List.mem_of_getElem? (i := 66) (by rfl))
set_option maxRecDepth 20000 in
theorem m_1022 : (Jvm.Cond.code ({ cls := "PrefixMillModel", name := "read", desc := "()I" } : Jvm.MethodName) prog_12_method_57_code (8 : Nat) (Option.some Jvm.ClassFile.FieldType.int)) ∈ tt := tt_c8 _ (List.mem_of_getElem? (i := 67) (by rfl))
set_option maxRecDepth 20000 in
theorem m_1023 : (Jvm.Cond.methodLink "PrefixMillModel" (215 : Nat) ({ cls := "PrefixMillModel", name := "takeWeights", desc := "()I" } : Jvm.MethodName)) ∈ tt := tt_c8 _ (List.mem_of_getElem? (i := 68) (by rfl))
set_option maxRecDepth 20000 in
theorem m_1025 : (Jvm.Cond.instanceMethod ({ cls := "PrefixMillModel", name := "takeWeights", desc := "()I" } : Jvm.MethodName)) ∈ tt := tt_c8 _ (List.mem_of_getElem? (i := 69) (by rfl))
set_option maxRecDepth 20000 in
theorem m_1026 : (Jvm.Cond.code ({ cls := "PrefixMillModel", name := "takeWeights", desc := "()I" } : Jvm.MethodName) prog_12_method_56_code (5 : Nat) (Option.some Jvm.ClassFile.FieldType.int)) ∈ tt := tt_c8 _ (List.mem_of_getElem? (i := 70) (by rfl))
set_option maxRecDepth 20000 in
theorem m_1027 : (Jvm.Cond.methodLink "PrefixMillModel" (204 : Nat) ({ cls := "PrefixMillModel", name := "putWeight", desc := "(I)Z" } : Jvm.MethodName)) ∈ tt := tt_c8 _ (List.mem_of_getElem? (i := 71) (by rfl))
set_option maxRecDepth 20000 in
theorem m_1029 : (Jvm.Cond.instanceMethod ({ cls := "PrefixMillModel", name := "putWeight", desc := "(I)Z" } : Jvm.MethodName)) ∈ tt := tt_c8 _ (List.mem_of_getElem? (i := 72) (by rfl))
set_option maxRecDepth 20000 in
theorem m_1030 : (Jvm.Cond.code ({ cls := "PrefixMillModel", name := "putWeight", desc := "(I)Z" } : Jvm.MethodName) prog_12_method_53_code (2 : Nat) (Option.some Jvm.ClassFile.FieldType.boolean)) ∈ tt := tt_c8 _ (List.mem_of_getElem? (i := 73) (by rfl))
set_option maxRecDepth 20000 in
theorem m_1031 : (Jvm.Cond.methodLink "PrefixMillModel" (208 : Nat) ({ cls := "PrefixMillModel", name := "takeShare", desc := "()Z" } : Jvm.MethodName)) ∈ tt := tt_c8 _ (List.mem_of_getElem? (i := 74) (by rfl))
set_option maxRecDepth 20000 in
theorem m_1033 : (Jvm.Cond.instanceMethod ({ cls := "PrefixMillModel", name := "takeShare", desc := "()Z" } : Jvm.MethodName)) ∈ tt := tt_c8 _ (List.mem_of_getElem? (i := 75) (by rfl))
set_option maxRecDepth 20000 in
theorem m_1034 : (Jvm.Cond.code ({ cls := "PrefixMillModel", name := "takeShare", desc := "()Z" } : Jvm.MethodName) prog_12_method_52_code (6 : Nat) (Option.some Jvm.ClassFile.FieldType.boolean)) ∈ tt := tt_c8 _ (List.mem_of_getElem? (i := 76) (by rfl))
set_option maxRecDepth 20000 in
theorem m_1035 : (Jvm.Cond.methodLink "PrefixMillModel" (195 : Nat) ({ cls := "PrefixMillModel", name := "take", desc := "(I)I" } : Jvm.MethodName)) ∈ tt := tt_c8 _ (List.mem_of_getElem? (i := 77) (by rfl))
set_option maxRecDepth 20000 in
theorem m_1037 : (Jvm.Cond.instanceMethod ({ cls := "PrefixMillModel", name := "take", desc := "(I)I" } : Jvm.MethodName)) ∈ tt := tt_c8 _ (List.mem_of_getElem? (i := 78) (by rfl))
set_option maxRecDepth 20000 in
theorem m_1038 : (Jvm.Cond.code ({ cls := "PrefixMillModel", name := "take", desc := "(I)I" } : Jvm.MethodName) prog_12_method_50_code (4 : Nat) (Option.some Jvm.ClassFile.FieldType.int)) ∈ tt := tt_c8 _ (List.mem_of_getElem? (i := 79) (by rfl))
set_option maxRecDepth 20000 in
theorem m_1039 : (Jvm.Cond.methodLink "PrefixMillModel" (198 : Nat) ({ cls := "PrefixMillModel", name := "takeNumber", desc := "(I)I" } : Jvm.MethodName)) ∈ tt := tt_c8 _ (List.mem_of_getElem? (i := 80) (by rfl))
set_option maxRecDepth 20000 in
theorem m_1041 : (Jvm.Cond.instanceMethod ({ cls := "PrefixMillModel", name := "takeNumber", desc := "(I)I" } : Jvm.MethodName)) ∈ tt := tt_c8 _ (List.mem_of_getElem? (i := 81) (by rfl))
set_option maxRecDepth 20000 in
theorem m_1042 : (Jvm.Cond.code ({ cls := "PrefixMillModel", name := "takeNumber", desc := "(I)I" } : Jvm.MethodName) prog_12_method_51_code (7 : Nat) (Option.some Jvm.ClassFile.FieldType.int)) ∈ tt := tt_c8 _ (List.mem_of_getElem? (i := 82) (by rfl))
set_option maxRecDepth 20000 in
theorem m_1043 : (Jvm.Cond.methodLink "PrefixMillModel" (212 : Nat) ({ cls := "PrefixMillModel", name := "takeRow", desc := "()Z" } : Jvm.MethodName)) ∈ tt := tt_c8 _ (List.mem_of_getElem? (i := 83) (by rfl))
set_option maxRecDepth 20000 in
theorem m_1045 : (Jvm.Cond.instanceMethod ({ cls := "PrefixMillModel", name := "takeRow", desc := "()Z" } : Jvm.MethodName)) ∈ tt := tt_c8 _ (List.mem_of_getElem? (i := 84) (by rfl))
set_option maxRecDepth 20000 in
theorem m_1046 : (Jvm.Cond.code ({ cls := "PrefixMillModel", name := "takeRow", desc := "()Z" } : Jvm.MethodName) prog_12_method_55_code (6 : Nat) (Option.some Jvm.ClassFile.FieldType.boolean)) ∈ tt := tt_c8 _ (List.mem_of_getElem? (i := 85) (by rfl))
set_option maxRecDepth 20000 in
theorem m_1047 : (Jvm.Cond.methodLink "PrefixMillModel" (201 : Nat) ({ cls := "PrefixMillModel", name := "takeDown", desc := "(I)I" } : Jvm.MethodName)) ∈ tt := tt_c8 _ (List.mem_of_getElem? (i := 86) (by rfl))
set_option maxRecDepth 20000 in
theorem m_1049 : (Jvm.Cond.instanceMethod ({ cls := "PrefixMillModel", name := "takeDown", desc := "(I)I" } : Jvm.MethodName)) ∈ tt := tt_c8 _ (List.mem_of_getElem? (i := 87) (by rfl))
set_option maxRecDepth 20000 in
theorem m_1050 : (Jvm.Cond.code ({ cls := "PrefixMillModel", name := "takeDown", desc := "(I)I" } : Jvm.MethodName) prog_12_method_54_code (4 : Nat) (Option.some Jvm.ClassFile.FieldType.int)) ∈ tt := tt_c8 _ (List.mem_of_getElem? (i := 88) (by rfl))
set_option maxRecDepth 20000 in
theorem m_1051 : (Jvm.Cond.methodLink "PrefixMillLaw" (90 : Nat) ({ cls := "PrefixMillModel", name := "size", desc := "()I" } : Jvm.MethodName)) ∈ tt := tt_c8 _ (List.mem_of_getElem? (i := 89) (by rfl))
set_option maxRecDepth 20000 in
theorem m_1052 : (Jvm.Cond.instanceMethod ({ cls := "PrefixMillModel", name := "size", desc := "()I" } : Jvm.MethodName)) ∈ tt := tt_c8 _ (List.mem_of_getElem? (i := 90) (by rfl))
set_option maxRecDepth 20000 in
theorem m_1053 : (Jvm.Cond.selects "PrefixMillModel" ({ cls := "PrefixMillModel", name := "size", desc := "()I" } : Jvm.MethodName) ({ cls := "PrefixMillModel", name := "size", desc := "()I" } : Jvm.MethodName)) ∈ tt := tt_c8 _ (List.mem_of_getElem? (i := 91) (by rfl))
set_option maxRecDepth 20000 in
theorem m_1054 : (Jvm.Cond.code ({ cls := "PrefixMillModel", name := "size", desc := "()I" } : Jvm.MethodName) prog_12_method_58_code (1 : Nat) (Option.some Jvm.ClassFile.FieldType.int)) ∈ tt := tt_c8 _ (List.mem_of_getElem? (i := 92) (by rfl))
set_option maxRecDepth 20000 in
theorem m_1055 : (Jvm.Cond.methodLink "PrefixMillLaw" (94 : Nat) ({ cls := "PrefixMillModel", name := "byteAt", desc := "(I)I" } : Jvm.MethodName)) ∈ tt := tt_c8 _ (List.mem_of_getElem? (i := 93) (by rfl))
set_option maxRecDepth 20000 in
theorem m_1056 : (Jvm.Cond.instanceMethod ({ cls := "PrefixMillModel", name := "byteAt", desc := "(I)I" } : Jvm.MethodName)) ∈ tt := tt_c8 _ (List.mem_of_getElem? (i := 94) (by rfl))
set_option maxRecDepth 20000 in
theorem m_1057 : (Jvm.Cond.selects "PrefixMillModel" ({ cls := "PrefixMillModel", name := "byteAt", desc := "(I)I" } : Jvm.MethodName) ({ cls := "PrefixMillModel", name := "byteAt", desc := "(I)I" } : Jvm.MethodName)) ∈ tt := tt_c8 _ (List.mem_of_getElem? (i := 95) (by rfl))
set_option maxRecDepth 20000 in
theorem m_1058 : (Jvm.Cond.code ({ cls := "PrefixMillModel", name := "byteAt", desc := "(I)I" } : Jvm.MethodName) prog_12_method_59_code (2 : Nat) (Option.some Jvm.ClassFile.FieldType.int)) ∈ tt := tt_c8 _ (List.mem_of_getElem? (i := 96) (by rfl))
set_option maxRecDepth 20000 in
theorem m_1059 : (Jvm.Cond.constantLong "PrefixMillLaw" (13 : Nat) (4294967295 : Int64)) ∈ tt := tt_c8 _ (List.mem_of_getElem? (i := 97) (by rfl))
