def tt_0 : List Cond := [(Jvm.Cond.selects "PrefixMill$Tree" ({ cls := "PrefixMill$Tree", name := "sortLeaves", desc := "()V" } : Jvm.MethodName) ({ cls := "PrefixMill$Tree", name := "sortLeaves", desc := "()V" } : Jvm.MethodName)), (Jvm.Cond.selects "PrefixMill$Tree" ({ cls := "PrefixMill$Tree", name := "sortByByte", desc := "([I[II)V" } : Jvm.MethodName) ({ cls := "PrefixMill$Tree", name := "sortByByte", desc := "([I[II)V" } : Jvm.MethodName)), (Jvm.Cond.selects "PrefixMill$Tree" ({ cls := "PrefixMill$Tree", name := "join", desc := "()V" } : Jvm.MethodName) ({ cls := "PrefixMill$Tree", name := "join", desc := "()V" } : Jvm.MethodName)), (Jvm.Cond.selects "PrefixMill$Tree" ({ cls := "PrefixMill$Tree", name := "least", desc := "(I)I" } : Jvm.MethodName) ({ cls := "PrefixMill$Tree", name := "least", desc := "(I)I" } : Jvm.MethodName)), (Jvm.Cond.selects "PrefixMill$Tree" ({ cls := "PrefixMill$Tree", name := "measure", desc := "()I" } : Jvm.MethodName) ({ cls := "PrefixMill$Tree", name := "measure", desc := "()I" } : Jvm.MethodName)), (Jvm.Cond.selects "PrefixMill$Tree" ({ cls := "PrefixMill$Tree", name := "halve", desc := "()V" } : Jvm.MethodName) ({ cls := "PrefixMill$Tree", name := "halve", desc := "()V" } : Jvm.MethodName)), (Jvm.Cond.selects "PrefixMill$Codes" ({ cls := "PrefixMill$Codes", name := "fillCells", desc := "()V" } : Jvm.MethodName) ({ cls := "PrefixMill$Codes", name := "fillCells", desc := "()V" } : Jvm.MethodName)), (Jvm.Cond.selects "PrefixMill$Codes" ({ cls := "PrefixMill$Codes", name := "giveCells", desc := "(III)I" } : Jvm.MethodName) ({ cls := "PrefixMill$Codes", name := "giveCells", desc := "(III)I" } : Jvm.MethodName)), (Jvm.Cond.selects "PrefixMill$Writer" ({ cls := "PrefixMill$Writer", name := "takeWeights", desc := "(LPrefixMill$Codes;I)V" } : Jvm.MethodName) ({ cls := "PrefixMill$Writer", name := "takeWeights", desc := "(LPrefixMill$Codes;I)V" } : Jvm.MethodName)), (Jvm.Cond.selects "PrefixMill$Share" ({ cls := "PrefixMill$Share", name := "lacking", desc := "()I" } : Jvm.MethodName) ({ cls := "PrefixMill$Share", name := "lacking", desc := "()I" } : Jvm.MethodName)), (Jvm.Cond.selects "PrefixMill$Share" ({ cls := "PrefixMill$Share", name := "massOf", desc := "(I)I" } : Jvm.MethodName) ({ cls := "PrefixMill$Share", name := "massOf", desc := "(I)I" } : Jvm.MethodName)), (Jvm.Cond.selects "PrefixMill$Share" ({ cls := "PrefixMill$Share", name := "give", desc := "(I)V" } : Jvm.MethodName) ({ cls := "PrefixMill$Share", name := "give", desc := "(I)V" } : Jvm.MethodName)), (Jvm.Cond.selects "PrefixMill$Share" ({ cls := "PrefixMill$Share", name := "queueByCuts", desc := "()I" } : Jvm.MethodName) ({ cls := "PrefixMill$Share", name := "queueByCuts", desc := "()I" } : Jvm.MethodName)), (Jvm.Cond.selects "PrefixMill$Share" ({ cls := "PrefixMill$Share", name := "takeAway", desc := "(I)V" } : Jvm.MethodName) ({ cls := "PrefixMill$Share", name := "takeAway", desc := "(I)V" } : Jvm.MethodName)), (Jvm.Cond.selects "PrefixMill$Share" ({ cls := "PrefixMill$Share", name := "layOut", desc := "()V" } : Jvm.MethodName) ({ cls := "PrefixMill$Share", name := "layOut", desc := "()V" } : Jvm.MethodName)), (Jvm.Cond.selects "PrefixMill$Share" ({ cls := "PrefixMill$Share", name := "giveHighest", desc := "()I" } : Jvm.MethodName) ({ cls := "PrefixMill$Share", name := "giveHighest", desc := "()I" } : Jvm.MethodName)), (Jvm.Cond.selects "PrefixMill$Share" ({ cls := "PrefixMill$Share", name := "giveByWalk", desc := "(I)V" } : Jvm.MethodName) ({ cls := "PrefixMill$Share", name := "giveByWalk", desc := "(I)V" } : Jvm.MethodName)), (Jvm.Cond.selects "PrefixMill$Share" ({ cls := "PrefixMill$Share", name := "rank", desc := "()V" } : Jvm.MethodName) ({ cls := "PrefixMill$Share", name := "rank", desc := "()V" } : Jvm.MethodName)), (Jvm.Cond.selects "PrefixMill$Share" ({ cls := "PrefixMill$Share", name := "putNone", desc := "(LPrefixMill$Row;I)I" } : Jvm.MethodName) ({ cls := "PrefixMill$Share", name := "putNone", desc := "(LPrefixMill$Row;I)I" } : Jvm.MethodName)), (Jvm.Cond.selects "PrefixMill$Writer" ({ cls := "PrefixMill$Writer", name := "putDirect", desc := "(LPrefixMill$Row;I)V" } : Jvm.MethodName) ({ cls := "PrefixMill$Writer", name := "putDirect", desc := "(LPrefixMill$Row;I)V" } : Jvm.MethodName)), (Jvm.Cond.selects "PrefixMill$Reader" ({ cls := "PrefixMill$Reader", name := "takeDirect", desc := "(LPrefixMill$Row;II)V" } : Jvm.MethodName) ({ cls := "PrefixMill$Reader", name := "takeDirect", desc := "(LPrefixMill$Row;II)V" } : Jvm.MethodName)), (Jvm.Cond.selects "PrefixMill$Share" ({ cls := "PrefixMill$Share", name := "takeBits", desc := "(LPrefixMill$Row;I)I" } : Jvm.MethodName) ({ cls := "PrefixMill$Share", name := "takeBits", desc := "(LPrefixMill$Row;I)I" } : Jvm.MethodName)), (Jvm.Cond.selects "PrefixMill$Share" ({ cls := "PrefixMill$Share", name := "takePoints", desc := "(LPrefixMill$Row;I)I" } : Jvm.MethodName) ({ cls := "PrefixMill$Share", name := "takePoints", desc := "(LPrefixMill$Row;I)I" } : Jvm.MethodName)), (Jvm.Cond.selects "PrefixMill$Share" ({ cls := "PrefixMill$Share", name := "takeNone", desc := "(LPrefixMill$Row;I)I" } : Jvm.MethodName) ({ cls := "PrefixMill$Share", name := "takeNone", desc := "(LPrefixMill$Row;I)I" } : Jvm.MethodName)), (Jvm.Cond.selects "PrefixMill$Reader" ({ cls := "PrefixMill$Reader", name := "takeRow", desc := "(LPrefixMill$Row;I)Z" } : Jvm.MethodName) ({ cls := "PrefixMill$Reader", name := "takeRow", desc := "(LPrefixMill$Row;I)Z" } : Jvm.MethodName)), (Jvm.Cond.selects "PrefixMill$Reader" ({ cls := "PrefixMill$Reader", name := "takeLengths", desc := "()Z" } : Jvm.MethodName) ({ cls := "PrefixMill$Reader", name := "takeLengths", desc := "()Z" } : Jvm.MethodName)), (Jvm.Cond.selects "PrefixMill$Streams" ({ cls := "PrefixMill$Streams", name := "takeStream", desc := "(LPrefixMill$Codes;LPrefixMill$Row;III)I" } : Jvm.MethodName) ({ cls := "PrefixMill$Streams", name := "takeStream", desc := "(LPrefixMill$Codes;LPrefixMill$Row;III)I" } : Jvm.MethodName)), (Jvm.Cond.selects "PrefixMillModel" ({ cls := "PrefixMillModel", name := "sums", desc := "()V" } : Jvm.MethodName) ({ cls := "PrefixMillModel", name := "sums", desc := "()V" } : Jvm.MethodName)), (Jvm.Cond.selects "PrefixMillModel" ({ cls := "PrefixMillModel", name := "least", desc := "(I)I" } : Jvm.MethodName) ({ cls := "PrefixMillModel", name := "least", desc := "(I)I" } : Jvm.MethodName)), (Jvm.Cond.selects "PrefixMillModel" ({ cls := "PrefixMillModel", name := "longestDraft", desc := "()I" } : Jvm.MethodName) ({ cls := "PrefixMillModel", name := "longestDraft", desc := "()I" } : Jvm.MethodName)), (Jvm.Cond.selects "PrefixMillModel" ({ cls := "PrefixMillModel", name := "settle", desc := "(I)I" } : Jvm.MethodName) ({ cls := "PrefixMillModel", name := "settle", desc := "(I)I" } : Jvm.MethodName)), (Jvm.Cond.selects "PrefixMillModel" ({ cls := "PrefixMillModel", name := "weightOf", desc := "(I)I" } : Jvm.MethodName) ({ cls := "PrefixMillModel", name := "weightOf", desc := "(I)I" } : Jvm.MethodName)), (Jvm.Cond.selects "PrefixMillModel" ({ cls := "PrefixMillModel", name := "codeOf", desc := "(I)I" } : Jvm.MethodName) ({ cls := "PrefixMillModel", name := "codeOf", desc := "(I)I" } : Jvm.MethodName)), (Jvm.Cond.selects "PrefixMillModel" ({ cls := "PrefixMillModel", name := "streamBytes", desc := "(II)I" } : Jvm.MethodName) ({ cls := "PrefixMillModel", name := "streamBytes", desc := "(II)I" } : Jvm.MethodName)), (Jvm.Cond.selects "PrefixMillModel" ({ cls := "PrefixMillModel", name := "begin", desc := "()V" } : Jvm.MethodName) ({ cls := "PrefixMillModel", name := "begin", desc := "()V" } : Jvm.MethodName)), (Jvm.Cond.selects "PrefixMillModel" ({ cls := "PrefixMillModel", name := "put", desc := "(II)V" } : Jvm.MethodName) ({ cls := "PrefixMillModel", name := "put", desc := "(II)V" } : Jvm.MethodName)), (Jvm.Cond.selects "PrefixMillModel" ({ cls := "PrefixMillModel", name := "putStream", desc := "(II)V" } : Jvm.MethodName) ({ cls := "PrefixMillModel", name := "putStream", desc := "(II)V" } : Jvm.MethodName)), (Jvm.Cond.selects "PrefixMillModel" ({ cls := "PrefixMillModel", name := "fill", desc := "()V" } : Jvm.MethodName) ({ cls := "PrefixMillModel", name := "fill", desc := "()V" } : Jvm.MethodName)), (Jvm.Cond.selects "PrefixMillModel" ({ cls := "PrefixMillModel", name := "give", desc := "()I" } : Jvm.MethodName) ({ cls := "PrefixMillModel", name := "give", desc := "()I" } : Jvm.MethodName)), (Jvm.Cond.selects "PrefixMillModel" ({ cls := "PrefixMillModel", name := "takeFour", desc := "(II)I" } : Jvm.MethodName) ({ cls := "PrefixMillModel", name := "takeFour", desc := "(II)I" } : Jvm.MethodName)), (Jvm.Cond.selects "PrefixMillModel" ({ cls := "PrefixMillModel", name := "takeStream", desc := "(IIII)I" } : Jvm.MethodName) ({ cls := "PrefixMillModel", name := "takeStream", desc := "(IIII)I" } : Jvm.MethodName)), (Jvm.Cond.selects "PrefixMillModel" ({ cls := "PrefixMillModel", name := "bitAt", desc := "(I)I" } : Jvm.MethodName) ({ cls := "PrefixMillModel", name := "bitAt", desc := "(I)I" } : Jvm.MethodName)), (Jvm.Cond.selects "PrefixMillModel" ({ cls := "PrefixMillModel", name := "different", desc := "()I" } : Jvm.MethodName) ({ cls := "PrefixMillModel", name := "different", desc := "()I" } : Jvm.MethodName)), (Jvm.Cond.selects "PrefixMillModel" ({ cls := "PrefixMillModel", name := "countOf", desc := "(I)I" } : Jvm.MethodName) ({ cls := "PrefixMillModel", name := "countOf", desc := "(I)I" } : Jvm.MethodName)), (Jvm.Cond.selects "PrefixMillModel" ({ cls := "PrefixMillModel", name := "putStates", desc := "(I)I" } : Jvm.MethodName) ({ cls := "PrefixMillModel", name := "putStates", desc := "(I)I" } : Jvm.MethodName)), (Jvm.Cond.selects "PrefixMillModel" ({ cls := "PrefixMillModel", name := "shareByCounts", desc := "(I)V" } : Jvm.MethodName) ({ cls := "PrefixMillModel", name := "shareByCounts", desc := "(I)V" } : Jvm.MethodName)), (Jvm.Cond.selects "PrefixMillModel" ({ cls := "PrefixMillModel", name := "newRound", desc := "()V" } : Jvm.MethodName) ({ cls := "PrefixMillModel", name := "newRound", desc := "()V" } : Jvm.MethodName)), (Jvm.Cond.selects "PrefixMillModel" ({ cls := "PrefixMillModel", name := "lacking", desc := "()I" } : Jvm.MethodName) ({ cls := "PrefixMillModel", name := "lacking", desc := "()I" } : Jvm.MethodName)), (Jvm.Cond.selects "PrefixMillModel" ({ cls := "PrefixMillModel", name := "nextToGet", desc := "()I" } : Jvm.MethodName) ({ cls := "PrefixMillModel", name := "nextToGet", desc := "()I" } : Jvm.MethodName)), (Jvm.Cond.selects "PrefixMillModel" ({ cls := "PrefixMillModel", name := "givePlaces", desc := "()V" } : Jvm.MethodName) ({ cls := "PrefixMillModel", name := "givePlaces", desc := "()V" } : Jvm.MethodName)), (Jvm.Cond.selects "PrefixMillModel" ({ cls := "PrefixMillModel", name := "putShare", desc := "()V" } : Jvm.MethodName) ({ cls := "PrefixMillModel", name := "putShare", desc := "()V" } : Jvm.MethodName)), (Jvm.Cond.selects "PrefixMillModel" ({ cls := "PrefixMillModel", name := "putRow", desc := "()V" } : Jvm.MethodName) ({ cls := "PrefixMillModel", name := "putRow", desc := "()V" } : Jvm.MethodName)), (Jvm.Cond.selects "PrefixMillModel" ({ cls := "PrefixMillModel", name := "lowest", desc := "(I)I" } : Jvm.MethodName) ({ cls := "PrefixMillModel", name := "lowest", desc := "(I)I" } : Jvm.MethodName)), (Jvm.Cond.selects "PrefixMillModel" ({ cls := "PrefixMillModel", name := "bitsOf", desc := "(I)I" } : Jvm.MethodName) ({ cls := "PrefixMillModel", name := "bitsOf", desc := "(I)I" } : Jvm.MethodName)), (Jvm.Cond.selects "PrefixMillModel" ({ cls := "PrefixMillModel", name := "numberOf", desc := "(I)I" } : Jvm.MethodName) ({ cls := "PrefixMillModel", name := "numberOf", desc := "(I)I" } : Jvm.MethodName)), (Jvm.Cond.selects "PrefixMillModel" ({ cls := "PrefixMillModel", name := "placeFor", desc := "(II)I" } : Jvm.MethodName) ({ cls := "PrefixMillModel", name := "placeFor", desc := "(II)I" } : Jvm.MethodName)), (Jvm.Cond.selects "PrefixMillModel" ({ cls := "PrefixMillModel", name := "baseOf", desc := "(I)I" } : Jvm.MethodName) ({ cls := "PrefixMillModel", name := "baseOf", desc := "(I)I" } : Jvm.MethodName)), (Jvm.Cond.selects "PrefixMillModel" ({ cls := "PrefixMillModel", name := "putDirect", desc := "()V" } : Jvm.MethodName) ({ cls := "PrefixMillModel", name := "putDirect", desc := "()V" } : Jvm.MethodName)), (Jvm.Cond.selects "PrefixMillModel" ({ cls := "PrefixMillModel", name := "takeWeights", desc := "()I" } : Jvm.MethodName) ({ cls := "PrefixMillModel", name := "takeWeights", desc := "()I" } : Jvm.MethodName)), (Jvm.Cond.selects "PrefixMillModel" ({ cls := "PrefixMillModel", name := "putWeight", desc := "(I)Z" } : Jvm.MethodName) ({ cls := "PrefixMillModel", name := "putWeight", desc := "(I)Z" } : Jvm.MethodName)), (Jvm.Cond.selects "PrefixMillModel" ({ cls := "PrefixMillModel", name := "takeShare", desc := "()Z" } : Jvm.MethodName) ({ cls := "PrefixMillModel", name := "takeShare", desc := "()Z" } : Jvm.MethodName)), (Jvm.Cond.selects "PrefixMillModel" ({ cls := "PrefixMillModel", name := "take", desc := "(I)I" } : Jvm.MethodName) ({ cls := "PrefixMillModel", name := "take", desc := "(I)I" } : Jvm.MethodName)), (Jvm.Cond.selects "PrefixMillModel" ({ cls := "PrefixMillModel", name := "takeNumber", desc := "(I)I" } : Jvm.MethodName) ({ cls := "PrefixMillModel", name := "takeNumber", desc := "(I)I" } : Jvm.MethodName)), (Jvm.Cond.selects "PrefixMillModel" ({ cls := "PrefixMillModel", name := "takeRow", desc := "()Z" } : Jvm.MethodName) ({ cls := "PrefixMillModel", name := "takeRow", desc := "()Z" } : Jvm.MethodName)), (Jvm.Cond.selects "PrefixMillModel" ({ cls := "PrefixMillModel", name := "takeDown", desc := "(I)I" } : Jvm.MethodName) ({ cls := "PrefixMillModel", name := "takeDown", desc := "(I)I" } : Jvm.MethodName)), (Jvm.Cond.initialized "PrefixMill"), (Jvm.Cond.initialized "PrefixMill$Row"), (Jvm.Cond.initialized "PrefixMill$Codes"), (Jvm.Cond.initialized "PrefixMill$Tree"), (Jvm.Cond.initialized "PrefixMill$Writer"), (Jvm.Cond.initialized "PrefixMill$Draft"), (Jvm.Cond.initialized "PrefixMill$Share"), (Jvm.Cond.initialized "PrefixMill$Reader"), (Jvm.Cond.initialized "PrefixMill$Tail"), (Jvm.Cond.initialized "PrefixMill$Streams"), (Jvm.Cond.initialized "PrefixMillModel"), (Jvm.Cond.initialized "java/lang/Math"), (Jvm.Cond.initialized "java/lang/System"), (Jvm.Cond.initialized "java/util/Arrays"), (Jvm.Cond.classLink "PrefixMillLaw" (7 : Nat) "PrefixMill"), (Jvm.Cond.instantiable "PrefixMill" (9 : Nat)), (Jvm.Cond.methodLink "PrefixMillLaw" (9 : Nat) ({ cls := "PrefixMill", name := "<init>", desc := "()V" } : Jvm.MethodName)), (Jvm.Cond.instanceMethod ({ cls := "PrefixMill", name := "<init>", desc := "()V" } : Jvm.MethodName)), (Jvm.Cond.code ({ cls := "PrefixMill", name := "<init>", desc := "()V" } : Jvm.MethodName) prog_1_method_1_code (1 : Nat) (Option.none : Option Jvm.ClassFile.FieldType)), (Jvm.Cond.methodLink "PrefixMill" (3 : Nat) ({ cls := "java/lang/Object", name := "<init>", desc := "()V" } : Jvm.MethodName)), (Jvm.Cond.instanceMethod ({ cls := "java/lang/Object", name := "<init>", desc := "()V" } : Jvm.MethodName)), (Jvm.Cond.code ({ cls := "java/lang/Object", name := "<init>", desc := "()V" } : Jvm.MethodName) object_method_1_code (1 : Nat) (Option.none : Option Jvm.ClassFile.FieldType)), (Jvm.Cond.classLink "PrefixMill" (9 : Nat) "PrefixMill$Row"), (Jvm.Cond.instantiable "PrefixMill$Row" (5 : Nat)), (Jvm.Cond.methodLink "PrefixMill" (11 : Nat) ({ cls := "PrefixMill$Row", name := "<init>", desc := "(I)V" } : Jvm.MethodName)), (Jvm.Cond.instanceMethod ({ cls := "PrefixMill$Row", name := "<init>", desc := "(I)V" } : Jvm.MethodName)), (Jvm.Cond.code ({ cls := "PrefixMill$Row", name := "<init>", desc := "(I)V" } : Jvm.MethodName) prog_5_method_1_code (2 : Nat) (Option.none : Option Jvm.ClassFile.FieldType)), (Jvm.Cond.methodLink "PrefixMill$Row" (1 : Nat) ({ cls := "java/lang/Object", name := "<init>", desc := "()V" } : Jvm.MethodName)), (Jvm.Cond.fieldLink "PrefixMill$Row" (13 : Nat) "PrefixMill$Row" "words" "[J"), (Jvm.Cond.fieldLink "PrefixMill$Row" (7 : Nat) "PrefixMill$Row" "room" "I"), (Jvm.Cond.fieldLink "PrefixMill$Row" (17 : Nat) "PrefixMill$Row" "used" "I"), (Jvm.Cond.fieldLinkNest "PrefixMill" (64 : Nat) "PrefixMill$Row" "used" "I" "PrefixMill"), (Jvm.Cond.fieldLinkNest "PrefixMill$Reader" (42 : Nat) "PrefixMill$Row" "used" "I" "PrefixMill"), (Jvm.Cond.fieldLinkNest "PrefixMill$Writer" (48 : Nat) "PrefixMill$Row" "used" "I" "PrefixMill"), (Jvm.Cond.fieldLinkNest "PrefixMill$Streams" (44 : Nat) "PrefixMill$Row" "used" "I" "PrefixMill")]
def tt_1 : List Cond := [(Jvm.Cond.fieldLink "PrefixMill$Row" (43 : Nat) "PrefixMill$Row" "held" "I"), (Jvm.Cond.fieldLink "PrefixMill$Row" (46 : Nat) "PrefixMill$Row" "many" "I"), (Jvm.Cond.laysFinal "PrefixMill$Row" "PrefixMill$Row" "words" "[J"), (Jvm.Cond.laysFinal "PrefixMill$Row" "PrefixMill$Row" "room" "I"), (Jvm.Cond.lays "PrefixMill$Row" "PrefixMill$Row" "used" "I"), (Jvm.Cond.lays "PrefixMill$Row" "PrefixMill$Row" "held" "I"), (Jvm.Cond.lays "PrefixMill$Row" "PrefixMill$Row" "many" "I"), (Jvm.Cond.arrayClass Jvm.ClassFile.FieldType.long), (Jvm.Cond.classLink "PrefixMill" (25 : Nat) "PrefixMill$Codes"), (Jvm.Cond.instantiable "PrefixMill$Codes" (6 : Nat)), (Jvm.Cond.methodLinkNest "PrefixMill" (27 : Nat) ({ cls := "PrefixMill$Codes", name := "<init>", desc := "()V" } : Jvm.MethodName) "PrefixMill"), (Jvm.Cond.instanceMethod ({ cls := "PrefixMill$Codes", name := "<init>", desc := "()V" } : Jvm.MethodName)), (Jvm.Cond.code ({ cls := "PrefixMill$Codes", name := "<init>", desc := "()V" } : Jvm.MethodName) prog_2_method_1_code (1 : Nat) (Option.none : Option Jvm.ClassFile.FieldType)), (Jvm.Cond.methodLink "PrefixMill$Codes" (3 : Nat) ({ cls := "java/lang/Object", name := "<init>", desc := "()V" } : Jvm.MethodName)), (Jvm.Cond.fieldLink "PrefixMill$Codes" (9 : Nat) "PrefixMill$Codes" "lengths" "[I"), (Jvm.Cond.fieldLinkNest "PrefixMill$Streams" (31 : Nat) "PrefixMill$Codes" "lengths" "[I" "PrefixMill"), (Jvm.Cond.fieldLinkNest "PrefixMill" (154 : Nat) "PrefixMill$Codes" "lengths" "[I" "PrefixMill"), (Jvm.Cond.fieldLink "PrefixMill$Codes" (15 : Nat) "PrefixMill$Codes" "values" "[I"), (Jvm.Cond.fieldLinkNest "PrefixMill$Streams" (66 : Nat) "PrefixMill$Codes" "values" "[I" "PrefixMill"), (Jvm.Cond.fieldLinkNest "PrefixMill" (155 : Nat) "PrefixMill$Codes" "values" "[I" "PrefixMill"), (Jvm.Cond.fieldLink "PrefixMill$Codes" (18 : Nat) "PrefixMill$Codes" "cells" "[I"), (Jvm.Cond.fieldLinkNest "PrefixMill$Streams" (84 : Nat) "PrefixMill$Codes" "cells" "[I" "PrefixMill"), (Jvm.Cond.fieldLink "PrefixMill$Codes" (21 : Nat) "PrefixMill$Codes" "greatest" "I"), (Jvm.Cond.fieldLinkNest "PrefixMill$Streams" (87 : Nat) "PrefixMill$Codes" "greatest" "I" "PrefixMill"), (Jvm.Cond.fieldLinkNest "PrefixMill" (148 : Nat) "PrefixMill$Codes" "greatest" "I" "PrefixMill"), (Jvm.Cond.fieldLink "PrefixMill$Codes" (29 : Nat) "PrefixMill$Codes" "known" "I"), (Jvm.Cond.fieldLinkNest "PrefixMill" (151 : Nat) "PrefixMill$Codes" "known" "I" "PrefixMill"), (Jvm.Cond.fieldLinkNest "PrefixMill$Writer" (30 : Nat) "PrefixMill$Codes" "highest" "I" "PrefixMill"), (Jvm.Cond.fieldLink "PrefixMill$Codes" (32 : Nat) "PrefixMill$Codes" "highest" "I"), (Jvm.Cond.laysFinal "PrefixMill$Codes" "PrefixMill$Codes" "lengths" "[I"), (Jvm.Cond.laysFinal "PrefixMill$Codes" "PrefixMill$Codes" "values" "[I"), (Jvm.Cond.laysFinal "PrefixMill$Codes" "PrefixMill$Codes" "cells" "[I"), (Jvm.Cond.lays "PrefixMill$Codes" "PrefixMill$Codes" "greatest" "I"), (Jvm.Cond.lays "PrefixMill$Codes" "PrefixMill$Codes" "known" "I"), (Jvm.Cond.lays "PrefixMill$Codes" "PrefixMill$Codes" "highest" "I"), (Jvm.Cond.arrayClass Jvm.ClassFile.FieldType.int), (Jvm.Cond.classLink "PrefixMill" (32 : Nat) "PrefixMill$Tree"), (Jvm.Cond.instantiable "PrefixMill$Tree" (11 : Nat)), (Jvm.Cond.methodLinkNest "PrefixMill" (34 : Nat) ({ cls := "PrefixMill$Tree", name := "<init>", desc := "()V" } : Jvm.MethodName) "PrefixMill"), (Jvm.Cond.instanceMethod ({ cls := "PrefixMill$Tree", name := "<init>", desc := "()V" } : Jvm.MethodName)), (Jvm.Cond.code ({ cls := "PrefixMill$Tree", name := "<init>", desc := "()V" } : Jvm.MethodName) prog_9_method_1_code (1 : Nat) (Option.none : Option Jvm.ClassFile.FieldType)), (Jvm.Cond.methodLink "PrefixMill$Tree" (3 : Nat) ({ cls := "java/lang/Object", name := "<init>", desc := "()V" } : Jvm.MethodName)), (Jvm.Cond.fieldLink "PrefixMill$Tree" (9 : Nat) "PrefixMill$Tree" "lengths" "[I"), (Jvm.Cond.fieldLinkNest "PrefixMill" (99 : Nat) "PrefixMill$Tree" "lengths" "[I" "PrefixMill"), (Jvm.Cond.fieldLink "PrefixMill$Tree" (15 : Nat) "PrefixMill$Tree" "halves" "[I"), (Jvm.Cond.fieldLink "PrefixMill$Tree" (18 : Nat) "PrefixMill$Tree" "leaves" "[I"), (Jvm.Cond.fieldLink "PrefixMill$Tree" (21 : Nat) "PrefixMill$Tree" "sorted" "[I"), (Jvm.Cond.fieldLink "PrefixMill$Tree" (24 : Nat) "PrefixMill$Tree" "starts" "[I"), (Jvm.Cond.fieldLink "PrefixMill$Tree" (27 : Nat) "PrefixMill$Tree" "sums" "[I"), (Jvm.Cond.fieldLink "PrefixMill$Tree" (30 : Nat) "PrefixMill$Tree" "above" "[I"), (Jvm.Cond.fieldLink "PrefixMill$Tree" (33 : Nat) "PrefixMill$Tree" "depths" "[I"), (Jvm.Cond.fieldLink "PrefixMill$Tree" (36 : Nat) "PrefixMill$Tree" "known" "I"), (Jvm.Cond.fieldLink "PrefixMill$Tree" (63 : Nat) "PrefixMill$Tree" "nextLeaf" "I"), (Jvm.Cond.fieldLink "PrefixMill$Tree" (66 : Nat) "PrefixMill$Tree" "nextSum" "I"), (Jvm.Cond.laysFinal "PrefixMill$Tree" "PrefixMill$Tree" "lengths" "[I"), (Jvm.Cond.laysFinal "PrefixMill$Tree" "PrefixMill$Tree" "halves" "[I"), (Jvm.Cond.laysFinal "PrefixMill$Tree" "PrefixMill$Tree" "leaves" "[I"), (Jvm.Cond.laysFinal "PrefixMill$Tree" "PrefixMill$Tree" "sorted" "[I"), (Jvm.Cond.laysFinal "PrefixMill$Tree" "PrefixMill$Tree" "starts" "[I"), (Jvm.Cond.laysFinal "PrefixMill$Tree" "PrefixMill$Tree" "sums" "[I"), (Jvm.Cond.laysFinal "PrefixMill$Tree" "PrefixMill$Tree" "above" "[I"), (Jvm.Cond.laysFinal "PrefixMill$Tree" "PrefixMill$Tree" "depths" "[I"), (Jvm.Cond.lays "PrefixMill$Tree" "PrefixMill$Tree" "known" "I"), (Jvm.Cond.lays "PrefixMill$Tree" "PrefixMill$Tree" "nextLeaf" "I"), (Jvm.Cond.lays "PrefixMill$Tree" "PrefixMill$Tree" "nextSum" "I"), (Jvm.Cond.classLink "PrefixMill" (39 : Nat) "PrefixMill$Writer"), (Jvm.Cond.instantiable "PrefixMill$Writer" (4 : Nat)), (Jvm.Cond.methodLinkNest "PrefixMill" (41 : Nat) ({ cls := "PrefixMill$Writer", name := "<init>", desc := "()V" } : Jvm.MethodName) "PrefixMill"), (Jvm.Cond.instanceMethod ({ cls := "PrefixMill$Writer", name := "<init>", desc := "()V" } : Jvm.MethodName)), (Jvm.Cond.code ({ cls := "PrefixMill$Writer", name := "<init>", desc := "()V" } : Jvm.MethodName) prog_10_method_1_code (1 : Nat) (Option.none : Option Jvm.ClassFile.FieldType)), (Jvm.Cond.methodLink "PrefixMill$Writer" (3 : Nat) ({ cls := "java/lang/Object", name := "<init>", desc := "()V" } : Jvm.MethodName)), (Jvm.Cond.classLink "PrefixMill$Writer" (9 : Nat) "PrefixMill$Draft"), (Jvm.Cond.instantiable "PrefixMill$Draft" (3 : Nat)), (Jvm.Cond.methodLink "PrefixMill$Writer" (11 : Nat) ({ cls := "PrefixMill$Draft", name := "<init>", desc := "(I)V" } : Jvm.MethodName)), (Jvm.Cond.instanceMethod ({ cls := "PrefixMill$Draft", name := "<init>", desc := "(I)V" } : Jvm.MethodName)), (Jvm.Cond.code ({ cls := "PrefixMill$Draft", name := "<init>", desc := "(I)V" } : Jvm.MethodName) prog_3_method_1_code (2 : Nat) (Option.none : Option Jvm.ClassFile.FieldType)), (Jvm.Cond.methodLink "PrefixMill$Draft" (1 : Nat) ({ cls := "java/lang/Object", name := "<init>", desc := "()V" } : Jvm.MethodName)), (Jvm.Cond.classLink "PrefixMill$Draft" (7 : Nat) "PrefixMill$Row"), (Jvm.Cond.methodLink "PrefixMill$Draft" (11 : Nat) ({ cls := "PrefixMill$Row", name := "<init>", desc := "(I)V" } : Jvm.MethodName)), (Jvm.Cond.classLink "PrefixMill$Draft" (18 : Nat) "PrefixMill$Share"), (Jvm.Cond.instantiable "PrefixMill$Share" (12 : Nat)), (Jvm.Cond.methodLinkNest "PrefixMill$Draft" (20 : Nat) ({ cls := "PrefixMill$Share", name := "<init>", desc := "()V" } : Jvm.MethodName) "PrefixMill"), (Jvm.Cond.instanceMethod ({ cls := "PrefixMill$Share", name := "<init>", desc := "()V" } : Jvm.MethodName)), (Jvm.Cond.code ({ cls := "PrefixMill$Share", name := "<init>", desc := "()V" } : Jvm.MethodName) prog_6_method_1_code (1 : Nat) (Option.none : Option Jvm.ClassFile.FieldType)), (Jvm.Cond.methodLink "PrefixMill$Share" (3 : Nat) ({ cls := "java/lang/Object", name := "<init>", desc := "()V" } : Jvm.MethodName)), (Jvm.Cond.fieldLink "PrefixMill$Share" (9 : Nat) "PrefixMill$Share" "points" "[I"), (Jvm.Cond.fieldLink "PrefixMill$Share" (15 : Nat) "PrefixMill$Share" "cuts" "[I"), (Jvm.Cond.fieldLink "PrefixMill$Share" (18 : Nat) "PrefixMill$Share" "queue" "[I"), (Jvm.Cond.fieldLink "PrefixMill$Share" (21 : Nat) "PrefixMill$Share" "owners" "[I"), (Jvm.Cond.fieldLinkNest "PrefixMill$Reader" (77 : Nat) "PrefixMill$Share" "owners" "[I" "PrefixMill"), (Jvm.Cond.fieldLink "PrefixMill$Share" (24 : Nat) "PrefixMill$Share" "takes" "[I"), (Jvm.Cond.fieldLinkNest "PrefixMill$Draft" (52 : Nat) "PrefixMill$Share" "takes" "[I" "PrefixMill"), (Jvm.Cond.fieldLinkNest "PrefixMill$Reader" (80 : Nat) "PrefixMill$Share" "takes" "[I" "PrefixMill"), (Jvm.Cond.fieldLink "PrefixMill$Share" (27 : Nat) "PrefixMill$Share" "bases" "[I"), (Jvm.Cond.fieldLinkNest "PrefixMill$Draft" (48 : Nat) "PrefixMill$Share" "bases" "[I" "PrefixMill"), (Jvm.Cond.fieldLinkNest "PrefixMill$Reader" (83 : Nat) "PrefixMill$Share" "bases" "[I" "PrefixMill"), (Jvm.Cond.fieldLink "PrefixMill$Share" (30 : Nat) "PrefixMill$Share" "ranked" "[I"), (Jvm.Cond.fieldLink "PrefixMill$Share" (33 : Nat) "PrefixMill$Share" "starts" "[I"), (Jvm.Cond.fieldLink "PrefixMill$Share" (36 : Nat) "PrefixMill$Share" "numbers" "[I"), (Jvm.Cond.fieldLink "PrefixMill$Share" (39 : Nat) "PrefixMill$Share" "walk" "[I")]
def tt_2 : List Cond := [(Jvm.Cond.fieldLink "PrefixMill$Share" (48 : Nat) "PrefixMill$Share" "order" "I"), (Jvm.Cond.fieldLinkNest "PrefixMill$Reader" (71 : Nat) "PrefixMill$Share" "order" "I" "PrefixMill"), (Jvm.Cond.fieldLink "PrefixMill$Share" (111 : Nat) "PrefixMill$Share" "next" "I"), (Jvm.Cond.laysFinal "PrefixMill$Share" "PrefixMill$Share" "points" "[I"), (Jvm.Cond.laysFinal "PrefixMill$Share" "PrefixMill$Share" "cuts" "[I"), (Jvm.Cond.laysFinal "PrefixMill$Share" "PrefixMill$Share" "queue" "[I"), (Jvm.Cond.laysFinal "PrefixMill$Share" "PrefixMill$Share" "owners" "[I"), (Jvm.Cond.laysFinal "PrefixMill$Share" "PrefixMill$Share" "takes" "[I"), (Jvm.Cond.laysFinal "PrefixMill$Share" "PrefixMill$Share" "bases" "[I"), (Jvm.Cond.laysFinal "PrefixMill$Share" "PrefixMill$Share" "ranked" "[I"), (Jvm.Cond.laysFinal "PrefixMill$Share" "PrefixMill$Share" "starts" "[I"), (Jvm.Cond.laysFinal "PrefixMill$Share" "PrefixMill$Share" "numbers" "[I"), (Jvm.Cond.laysFinal "PrefixMill$Share" "PrefixMill$Share" "walk" "[I"), (Jvm.Cond.lays "PrefixMill$Share" "PrefixMill$Share" "order" "I"), (Jvm.Cond.lays "PrefixMill$Share" "PrefixMill$Share" "next" "I"), (Jvm.Cond.fieldLink "PrefixMill$Draft" (14 : Nat) "PrefixMill$Draft" "row" "LPrefixMill$Row;"), (Jvm.Cond.fieldLinkNest "PrefixMill$Writer" (44 : Nat) "PrefixMill$Draft" "row" "LPrefixMill$Row;" "PrefixMill"), (Jvm.Cond.fieldLink "PrefixMill$Draft" (21 : Nat) "PrefixMill$Draft" "share" "LPrefixMill$Share;"), (Jvm.Cond.fieldLink "PrefixMill$Draft" (25 : Nat) "PrefixMill$Draft" "order" "I"), (Jvm.Cond.laysFinal "PrefixMill$Draft" "PrefixMill$Draft" "row" "LPrefixMill$Row;"), (Jvm.Cond.laysFinal "PrefixMill$Draft" "PrefixMill$Draft" "share" "LPrefixMill$Share;"), (Jvm.Cond.laysFinal "PrefixMill$Draft" "PrefixMill$Draft" "order" "I"), (Jvm.Cond.fieldLink "PrefixMill$Writer" (14 : Nat) "PrefixMill$Writer" "five" "LPrefixMill$Draft;"), (Jvm.Cond.fieldLink "PrefixMill$Writer" (20 : Nat) "PrefixMill$Writer" "six" "LPrefixMill$Draft;"), (Jvm.Cond.fieldLink "PrefixMill$Writer" (23 : Nat) "PrefixMill$Writer" "weights" "[I"), (Jvm.Cond.fieldLink "PrefixMill$Writer" (27 : Nat) "PrefixMill$Writer" "counts" "[I"), (Jvm.Cond.laysFinal "PrefixMill$Writer" "PrefixMill$Writer" "five" "LPrefixMill$Draft;"), (Jvm.Cond.laysFinal "PrefixMill$Writer" "PrefixMill$Writer" "six" "LPrefixMill$Draft;"), (Jvm.Cond.laysFinal "PrefixMill$Writer" "PrefixMill$Writer" "weights" "[I"), (Jvm.Cond.laysFinal "PrefixMill$Writer" "PrefixMill$Writer" "counts" "[I"), (Jvm.Cond.classLink "PrefixMill" (46 : Nat) "PrefixMill$Reader"), (Jvm.Cond.instantiable "PrefixMill$Reader" (6 : Nat)), (Jvm.Cond.methodLinkNest "PrefixMill" (48 : Nat) ({ cls := "PrefixMill$Reader", name := "<init>", desc := "()V" } : Jvm.MethodName) "PrefixMill"), (Jvm.Cond.instanceMethod ({ cls := "PrefixMill$Reader", name := "<init>", desc := "()V" } : Jvm.MethodName)), (Jvm.Cond.code ({ cls := "PrefixMill$Reader", name := "<init>", desc := "()V" } : Jvm.MethodName) prog_4_method_1_code (1 : Nat) (Option.none : Option Jvm.ClassFile.FieldType)), (Jvm.Cond.methodLink "PrefixMill$Reader" (3 : Nat) ({ cls := "java/lang/Object", name := "<init>", desc := "()V" } : Jvm.MethodName)), (Jvm.Cond.classLink "PrefixMill$Reader" (9 : Nat) "PrefixMill$Tail"), (Jvm.Cond.instantiable "PrefixMill$Tail" (2 : Nat)), (Jvm.Cond.methodLinkNest "PrefixMill$Reader" (11 : Nat) ({ cls := "PrefixMill$Tail", name := "<init>", desc := "()V" } : Jvm.MethodName) "PrefixMill"), (Jvm.Cond.instanceMethod ({ cls := "PrefixMill$Tail", name := "<init>", desc := "()V" } : Jvm.MethodName)), (Jvm.Cond.code ({ cls := "PrefixMill$Tail", name := "<init>", desc := "()V" } : Jvm.MethodName) prog_8_method_1_code (1 : Nat) (Option.none : Option Jvm.ClassFile.FieldType)), (Jvm.Cond.methodLink "PrefixMill$Tail" (1 : Nat) ({ cls := "java/lang/Object", name := "<init>", desc := "()V" } : Jvm.MethodName)), (Jvm.Cond.fieldLink "PrefixMill$Tail" (13 : Nat) "PrefixMill$Tail" "first" "I"), (Jvm.Cond.fieldLink "PrefixMill$Tail" (24 : Nat) "PrefixMill$Tail" "left" "I"), (Jvm.Cond.fieldLinkNest "PrefixMill$Reader" (68 : Nat) "PrefixMill$Tail" "left" "I" "PrefixMill"), (Jvm.Cond.fieldLinkNest "PrefixMill$Streams" (100 : Nat) "PrefixMill$Tail" "left" "I" "PrefixMill"), (Jvm.Cond.lays "PrefixMill$Tail" "PrefixMill$Tail" "first" "I"), (Jvm.Cond.lays "PrefixMill$Tail" "PrefixMill$Tail" "left" "I"), (Jvm.Cond.classLink "PrefixMill$Reader" (18 : Nat) "PrefixMill$Share"), (Jvm.Cond.methodLinkNest "PrefixMill$Reader" (20 : Nat) ({ cls := "PrefixMill$Share", name := "<init>", desc := "()V" } : Jvm.MethodName) "PrefixMill"), (Jvm.Cond.fieldLink "PrefixMill$Reader" (12 : Nat) "PrefixMill$Reader" "tail" "LPrefixMill$Tail;"), (Jvm.Cond.fieldLink "PrefixMill$Reader" (21 : Nat) "PrefixMill$Reader" "share" "LPrefixMill$Share;"), (Jvm.Cond.fieldLink "PrefixMill$Reader" (25 : Nat) "PrefixMill$Reader" "weights" "[I"), (Jvm.Cond.fieldLink "PrefixMill$Reader" (29 : Nat) "PrefixMill$Reader" "lengths" "[I"), (Jvm.Cond.fieldLinkNest "PrefixMill" (124 : Nat) "PrefixMill$Reader" "lengths" "[I" "PrefixMill"), (Jvm.Cond.fieldLink "PrefixMill$Reader" (61 : Nat) "PrefixMill$Reader" "known" "I"), (Jvm.Cond.fieldLink "PrefixMill$Reader" (38 : Nat) "PrefixMill$Reader" "end" "I"), (Jvm.Cond.fieldLinkNest "PrefixMill" (121 : Nat) "PrefixMill$Reader" "end" "I" "PrefixMill"), (Jvm.Cond.laysFinal "PrefixMill$Reader" "PrefixMill$Reader" "tail" "LPrefixMill$Tail;"), (Jvm.Cond.laysFinal "PrefixMill$Reader" "PrefixMill$Reader" "share" "LPrefixMill$Share;"), (Jvm.Cond.laysFinal "PrefixMill$Reader" "PrefixMill$Reader" "weights" "[I"), (Jvm.Cond.laysFinal "PrefixMill$Reader" "PrefixMill$Reader" "lengths" "[I"), (Jvm.Cond.lays "PrefixMill$Reader" "PrefixMill$Reader" "known" "I"), (Jvm.Cond.lays "PrefixMill$Reader" "PrefixMill$Reader" "end" "I"), (Jvm.Cond.classLink "PrefixMill" (53 : Nat) "PrefixMill$Streams"), (Jvm.Cond.instantiable "PrefixMill$Streams" (2 : Nat)), (Jvm.Cond.methodLinkNest "PrefixMill" (55 : Nat) ({ cls := "PrefixMill$Streams", name := "<init>", desc := "()V" } : Jvm.MethodName) "PrefixMill"), (Jvm.Cond.instanceMethod ({ cls := "PrefixMill$Streams", name := "<init>", desc := "()V" } : Jvm.MethodName)), (Jvm.Cond.code ({ cls := "PrefixMill$Streams", name := "<init>", desc := "()V" } : Jvm.MethodName) prog_7_method_1_code (1 : Nat) (Option.none : Option Jvm.ClassFile.FieldType)), (Jvm.Cond.methodLink "PrefixMill$Streams" (3 : Nat) ({ cls := "java/lang/Object", name := "<init>", desc := "()V" } : Jvm.MethodName)), (Jvm.Cond.classLink "PrefixMill$Streams" (9 : Nat) "PrefixMill$Row"), (Jvm.Cond.methodLink "PrefixMill$Streams" (11 : Nat) ({ cls := "PrefixMill$Row", name := "<init>", desc := "(I)V" } : Jvm.MethodName)), (Jvm.Cond.classLink "PrefixMill$Streams" (20 : Nat) "PrefixMill$Tail"), (Jvm.Cond.methodLinkNest "PrefixMill$Streams" (22 : Nat) ({ cls := "PrefixMill$Tail", name := "<init>", desc := "()V" } : Jvm.MethodName) "PrefixMill"), (Jvm.Cond.fieldLink "PrefixMill$Streams" (14 : Nat) "PrefixMill$Streams" "symbols" "LPrefixMill$Row;"), (Jvm.Cond.fieldLinkNest "PrefixMill" (145 : Nat) "PrefixMill$Streams" "symbols" "LPrefixMill$Row;" "PrefixMill"), (Jvm.Cond.fieldLink "PrefixMill$Streams" (23 : Nat) "PrefixMill$Streams" "tail" "LPrefixMill$Tail;"), (Jvm.Cond.laysFinal "PrefixMill$Streams" "PrefixMill$Streams" "symbols" "LPrefixMill$Row;"), (Jvm.Cond.laysFinal "PrefixMill$Streams" "PrefixMill$Streams" "tail" "LPrefixMill$Tail;"), (Jvm.Cond.fieldLink "PrefixMill" (14 : Nat) "PrefixMill" "in" "LPrefixMill$Row;"), (Jvm.Cond.fieldLink "PrefixMill" (18 : Nat) "PrefixMill" "out" "LPrefixMill$Row;"), (Jvm.Cond.fieldLink "PrefixMill" (21 : Nat) "PrefixMill" "counts" "[I"), (Jvm.Cond.fieldLink "PrefixMill" (28 : Nat) "PrefixMill" "codes" "LPrefixMill$Codes;"), (Jvm.Cond.fieldLink "PrefixMill" (35 : Nat) "PrefixMill" "tree" "LPrefixMill$Tree;"), (Jvm.Cond.fieldLink "PrefixMill" (42 : Nat) "PrefixMill" "writer" "LPrefixMill$Writer;"), (Jvm.Cond.fieldLink "PrefixMill" (49 : Nat) "PrefixMill" "reader" "LPrefixMill$Reader;"), (Jvm.Cond.fieldLink "PrefixMill" (56 : Nat) "PrefixMill" "streams" "LPrefixMill$Streams;"), (Jvm.Cond.fieldLink "PrefixMill" (60 : Nat) "PrefixMill" "place" "I"), (Jvm.Cond.laysFinal "PrefixMill" "PrefixMill" "in" "LPrefixMill$Row;"), (Jvm.Cond.laysFinal "PrefixMill" "PrefixMill" "out" "LPrefixMill$Row;"), (Jvm.Cond.laysFinal "PrefixMill" "PrefixMill" "counts" "[I"), (Jvm.Cond.laysFinal "PrefixMill" "PrefixMill" "codes" "LPrefixMill$Codes;"), (Jvm.Cond.laysFinal "PrefixMill" "PrefixMill" "tree" "LPrefixMill$Tree;"), (Jvm.Cond.laysFinal "PrefixMill" "PrefixMill" "writer" "LPrefixMill$Writer;"), (Jvm.Cond.laysFinal "PrefixMill" "PrefixMill" "reader" "LPrefixMill$Reader;"), (Jvm.Cond.laysFinal "PrefixMill" "PrefixMill" "streams" "LPrefixMill$Streams;"), (Jvm.Cond.lays "PrefixMill" "PrefixMill" "place" "I"), (Jvm.Cond.methodLink "PrefixMillLaw" (15 : Nat) ({ cls := "PrefixMill", name := "write", desc := "(JI)Z" } : Jvm.MethodName)), (Jvm.Cond.instanceMethod ({ cls := "PrefixMill", name := "write", desc := "(JI)Z" } : Jvm.MethodName)), (Jvm.Cond.selects "PrefixMill" ({ cls := "PrefixMill", name := "write", desc := "(JI)Z" } : Jvm.MethodName) ({ cls := "PrefixMill", name := "write", desc := "(JI)Z" } : Jvm.MethodName))]
def tt_3 : List Cond := [(Jvm.Cond.code ({ cls := "PrefixMill", name := "write", desc := "(JI)Z" } : Jvm.MethodName) prog_1_method_2_code (5 : Nat) (Option.some Jvm.ClassFile.FieldType.boolean)), (Jvm.Cond.methodLink "PrefixMill" (67 : Nat) ({ cls := "PrefixMill$Row", name := "add", desc := "(I)V" } : Jvm.MethodName)), (Jvm.Cond.instanceMethod ({ cls := "PrefixMill$Row", name := "add", desc := "(I)V" } : Jvm.MethodName)), (Jvm.Cond.selects "PrefixMill$Row" ({ cls := "PrefixMill$Row", name := "add", desc := "(I)V" } : Jvm.MethodName) ({ cls := "PrefixMill$Row", name := "add", desc := "(I)V" } : Jvm.MethodName)), (Jvm.Cond.code ({ cls := "PrefixMill$Row", name := "add", desc := "(I)V" } : Jvm.MethodName) prog_5_method_3_code (4 : Nat) (Option.none : Option Jvm.ClassFile.FieldType)), (Jvm.Cond.constantLong "PrefixMill$Row" (20 : Nat) (255 : Int64)), (Jvm.Cond.constantLong "PrefixMill$Row" (22 : Nat) (-1 : Int64)), (Jvm.Cond.methodLink "PrefixMillLaw" (20 : Nat) ({ cls := "PrefixMill", name := "again", desc := "(II)Z" } : Jvm.MethodName)), (Jvm.Cond.instanceMethod ({ cls := "PrefixMill", name := "again", desc := "(II)Z" } : Jvm.MethodName)), (Jvm.Cond.selects "PrefixMill" ({ cls := "PrefixMill", name := "again", desc := "(II)Z" } : Jvm.MethodName) ({ cls := "PrefixMill", name := "again", desc := "(II)Z" } : Jvm.MethodName)), (Jvm.Cond.code ({ cls := "PrefixMill", name := "again", desc := "(II)Z" } : Jvm.MethodName) prog_1_method_3_code (5 : Nat) (Option.some Jvm.ClassFile.FieldType.boolean)), (Jvm.Cond.methodLink "PrefixMill" (70 : Nat) ({ cls := "PrefixMill$Row", name := "get", desc := "(I)I" } : Jvm.MethodName)), (Jvm.Cond.instanceMethod ({ cls := "PrefixMill$Row", name := "get", desc := "(I)I" } : Jvm.MethodName)), (Jvm.Cond.selects "PrefixMill$Row" ({ cls := "PrefixMill$Row", name := "get", desc := "(I)I" } : Jvm.MethodName) ({ cls := "PrefixMill$Row", name := "get", desc := "(I)I" } : Jvm.MethodName)), (Jvm.Cond.code ({ cls := "PrefixMill$Row", name := "get", desc := "(I)I" } : Jvm.MethodName) prog_5_method_4_code (2 : Nat) (Option.some Jvm.ClassFile.FieldType.int)), (Jvm.Cond.methodLink "PrefixMillLaw" (25 : Nat) ({ cls := "PrefixMill", name := "turn", desc := "()V" } : Jvm.MethodName)), (Jvm.Cond.instanceMethod ({ cls := "PrefixMill", name := "turn", desc := "()V" } : Jvm.MethodName)), (Jvm.Cond.selects "PrefixMill" ({ cls := "PrefixMill", name := "turn", desc := "()V" } : Jvm.MethodName) ({ cls := "PrefixMill", name := "turn", desc := "()V" } : Jvm.MethodName)), (Jvm.Cond.code ({ cls := "PrefixMill", name := "turn", desc := "()V" } : Jvm.MethodName) prog_1_method_4_code (1 : Nat) (Option.none : Option Jvm.ClassFile.FieldType)), (Jvm.Cond.methodLink "PrefixMill" (74 : Nat) ({ cls := "PrefixMill$Row", name := "copy", desc := "(LPrefixMill$Row;)V" } : Jvm.MethodName)), (Jvm.Cond.instanceMethod ({ cls := "PrefixMill$Row", name := "copy", desc := "(LPrefixMill$Row;)V" } : Jvm.MethodName)), (Jvm.Cond.selects "PrefixMill$Row" ({ cls := "PrefixMill$Row", name := "copy", desc := "(LPrefixMill$Row;)V" } : Jvm.MethodName) ({ cls := "PrefixMill$Row", name := "copy", desc := "(LPrefixMill$Row;)V" } : Jvm.MethodName)), (Jvm.Cond.code ({ cls := "PrefixMill$Row", name := "copy", desc := "(LPrefixMill$Row;)V" } : Jvm.MethodName) prog_5_method_6_code (3 : Nat) (Option.none : Option Jvm.ClassFile.FieldType)), (Jvm.Cond.methodLink "PrefixMill$Row" (34 : Nat) ({ cls := "java/lang/Math", name := "min", desc := "(II)I" } : Jvm.MethodName)), (Jvm.Cond.static ({ cls := "java/lang/Math", name := "min", desc := "(II)I" } : Jvm.MethodName)), (Jvm.Cond.code ({ cls := "java/lang/Math", name := "min", desc := "(II)I" } : Jvm.MethodName) prog_13_method_69_code (2 : Nat) (Option.some Jvm.ClassFile.FieldType.int)), (Jvm.Cond.methodLink "PrefixMill$Row" (37 : Nat) ({ cls := "java/lang/System", name := "arraycopy", desc := "(Ljava/lang/Object;ILjava/lang/Object;II)V" } : Jvm.MethodName)), (Jvm.Cond.static ({ cls := "java/lang/System", name := "arraycopy", desc := "(Ljava/lang/Object;ILjava/lang/Object;II)V" } : Jvm.MethodName)), (Jvm.Cond.native ({ cls := "java/lang/System", name := "arraycopy", desc := "(Ljava/lang/Object;ILjava/lang/Object;II)V" } : Jvm.MethodName)), (Jvm.Cond.methodLink "PrefixMillLaw" (29 : Nat) ({ cls := "PrefixMill", name := "clear", desc := "()V" } : Jvm.MethodName)), (Jvm.Cond.instanceMethod ({ cls := "PrefixMill", name := "clear", desc := "()V" } : Jvm.MethodName)), (Jvm.Cond.selects "PrefixMill" ({ cls := "PrefixMill", name := "clear", desc := "()V" } : Jvm.MethodName) ({ cls := "PrefixMill", name := "clear", desc := "()V" } : Jvm.MethodName)), (Jvm.Cond.code ({ cls := "PrefixMill", name := "clear", desc := "()V" } : Jvm.MethodName) prog_1_method_5_code (1 : Nat) (Option.none : Option Jvm.ClassFile.FieldType)), (Jvm.Cond.methodLink "PrefixMill" (78 : Nat) ({ cls := "PrefixMill$Row", name := "empty", desc := "()V" } : Jvm.MethodName)), (Jvm.Cond.instanceMethod ({ cls := "PrefixMill$Row", name := "empty", desc := "()V" } : Jvm.MethodName)), (Jvm.Cond.selects "PrefixMill$Row" ({ cls := "PrefixMill$Row", name := "empty", desc := "()V" } : Jvm.MethodName) ({ cls := "PrefixMill$Row", name := "empty", desc := "()V" } : Jvm.MethodName)), (Jvm.Cond.code ({ cls := "PrefixMill$Row", name := "empty", desc := "()V" } : Jvm.MethodName) prog_5_method_2_code (1 : Nat) (Option.none : Option Jvm.ClassFile.FieldType)), (Jvm.Cond.methodLink "PrefixMill" (81 : Nat) ({ cls := "java/util/Arrays", name := "fill", desc := "([II)V" } : Jvm.MethodName)), (Jvm.Cond.static ({ cls := "java/util/Arrays", name := "fill", desc := "([II)V" } : Jvm.MethodName)), (Jvm.Cond.code ({ cls := "java/util/Arrays", name := "fill", desc := "([II)V" } : Jvm.MethodName) prog_15_method_103_code (4 : Nat) (Option.none : Option Jvm.ClassFile.FieldType)), (Jvm.Cond.methodLink "PrefixMillLaw" (33 : Nat) ({ cls := "PrefixMill", name := "place", desc := "(I)Z" } : Jvm.MethodName)), (Jvm.Cond.instanceMethod ({ cls := "PrefixMill", name := "place", desc := "(I)Z" } : Jvm.MethodName)), (Jvm.Cond.selects "PrefixMill" ({ cls := "PrefixMill", name := "place", desc := "(I)Z" } : Jvm.MethodName) ({ cls := "PrefixMill", name := "place", desc := "(I)Z" } : Jvm.MethodName)), (Jvm.Cond.code ({ cls := "PrefixMill", name := "place", desc := "(I)Z" } : Jvm.MethodName) prog_1_method_6_code (2 : Nat) (Option.some Jvm.ClassFile.FieldType.boolean)), (Jvm.Cond.methodLink "PrefixMillLaw" (38 : Nat) ({ cls := "PrefixMill", name := "at", desc := "()I" } : Jvm.MethodName)), (Jvm.Cond.instanceMethod ({ cls := "PrefixMill", name := "at", desc := "()I" } : Jvm.MethodName)), (Jvm.Cond.selects "PrefixMill" ({ cls := "PrefixMill", name := "at", desc := "()I" } : Jvm.MethodName) ({ cls := "PrefixMill", name := "at", desc := "()I" } : Jvm.MethodName)), (Jvm.Cond.code ({ cls := "PrefixMill", name := "at", desc := "()I" } : Jvm.MethodName) prog_1_method_7_code (1 : Nat) (Option.some Jvm.ClassFile.FieldType.int)), (Jvm.Cond.methodLink "PrefixMillLaw" (43 : Nat) ({ cls := "PrefixMill", name := "count", desc := "(II)Z" } : Jvm.MethodName)), (Jvm.Cond.instanceMethod ({ cls := "PrefixMill", name := "count", desc := "(II)Z" } : Jvm.MethodName)), (Jvm.Cond.selects "PrefixMill" ({ cls := "PrefixMill", name := "count", desc := "(II)Z" } : Jvm.MethodName) ({ cls := "PrefixMill", name := "count", desc := "(II)Z" } : Jvm.MethodName)), (Jvm.Cond.code ({ cls := "PrefixMill", name := "count", desc := "(II)Z" } : Jvm.MethodName) prog_1_method_8_code (3 : Nat) (Option.some Jvm.ClassFile.FieldType.boolean)), (Jvm.Cond.methodLink "PrefixMill" (87 : Nat) ({ cls := "PrefixMill", name := "isSymbol", desc := "(I)Z" } : Jvm.MethodName)), (Jvm.Cond.static ({ cls := "PrefixMill", name := "isSymbol", desc := "(I)Z" } : Jvm.MethodName)), (Jvm.Cond.code ({ cls := "PrefixMill", name := "isSymbol", desc := "(I)Z" } : Jvm.MethodName) prog_1_method_20_code (1 : Nat) (Option.some Jvm.ClassFile.FieldType.boolean)), (Jvm.Cond.constant "PrefixMill" (91 : Nat) (65535 : Int32)), (Jvm.Cond.methodLink "PrefixMillLaw" (47 : Nat) ({ cls := "PrefixMill", name := "countAll", desc := "()I" } : Jvm.MethodName)), (Jvm.Cond.instanceMethod ({ cls := "PrefixMill", name := "countAll", desc := "()I" } : Jvm.MethodName)), (Jvm.Cond.selects "PrefixMill" ({ cls := "PrefixMill", name := "countAll", desc := "()I" } : Jvm.MethodName) ({ cls := "PrefixMill", name := "countAll", desc := "()I" } : Jvm.MethodName)), (Jvm.Cond.code ({ cls := "PrefixMill", name := "countAll", desc := "()I" } : Jvm.MethodName) prog_1_method_9_code (2 : Nat) (Option.some Jvm.ClassFile.FieldType.int)), (Jvm.Cond.methodLink "PrefixMillLaw" (51 : Nat) ({ cls := "PrefixMill", name := "lengths", desc := "(I)I" } : Jvm.MethodName)), (Jvm.Cond.instanceMethod ({ cls := "PrefixMill", name := "lengths", desc := "(I)I" } : Jvm.MethodName)), (Jvm.Cond.selects "PrefixMill" ({ cls := "PrefixMill", name := "lengths", desc := "(I)I" } : Jvm.MethodName) ({ cls := "PrefixMill", name := "lengths", desc := "(I)I" } : Jvm.MethodName)), (Jvm.Cond.code ({ cls := "PrefixMill", name := "lengths", desc := "(I)I" } : Jvm.MethodName) prog_1_method_10_code (3 : Nat) (Option.some Jvm.ClassFile.FieldType.int)), (Jvm.Cond.methodLink "PrefixMill" (92 : Nat) ({ cls := "PrefixMill$Tree", name := "plant", desc := "([I)I" } : Jvm.MethodName)), (Jvm.Cond.instanceMethod ({ cls := "PrefixMill$Tree", name := "plant", desc := "([I)I" } : Jvm.MethodName)), (Jvm.Cond.selects "PrefixMill$Tree" ({ cls := "PrefixMill$Tree", name := "plant", desc := "([I)I" } : Jvm.MethodName) ({ cls := "PrefixMill$Tree", name := "plant", desc := "([I)I" } : Jvm.MethodName)), (Jvm.Cond.code ({ cls := "PrefixMill$Tree", name := "plant", desc := "([I)I" } : Jvm.MethodName) prog_9_method_2_code (3 : Nat) (Option.some Jvm.ClassFile.FieldType.int)), (Jvm.Cond.methodLink "PrefixMill" (96 : Nat) ({ cls := "PrefixMill$Tree", name := "grow", desc := "(I)V" } : Jvm.MethodName)), (Jvm.Cond.instanceMethod ({ cls := "PrefixMill$Tree", name := "grow", desc := "(I)V" } : Jvm.MethodName)), (Jvm.Cond.selects "PrefixMill$Tree" ({ cls := "PrefixMill$Tree", name := "grow", desc := "(I)V" } : Jvm.MethodName) ({ cls := "PrefixMill$Tree", name := "grow", desc := "(I)V" } : Jvm.MethodName)), (Jvm.Cond.code ({ cls := "PrefixMill$Tree", name := "grow", desc := "(I)V" } : Jvm.MethodName) prog_9_method_3_code (3 : Nat) (Option.none : Option Jvm.ClassFile.FieldType)), (Jvm.Cond.methodLink "PrefixMill$Tree" (40 : Nat) ({ cls := "PrefixMill$Tree", name := "sortLeaves", desc := "()V" } : Jvm.MethodName)), (Jvm.Cond.instanceMethod ({ cls := "PrefixMill$Tree", name := "sortLeaves", desc := "()V" } : Jvm.MethodName)), (Jvm.Cond.code ({ cls := "PrefixMill$Tree", name := "sortLeaves", desc := "()V" } : Jvm.MethodName) prog_9_method_5_code (3 : Nat) (Option.none : Option Jvm.ClassFile.FieldType)), (Jvm.Cond.methodLink "PrefixMill$Tree" (53 : Nat) ({ cls := "PrefixMill$Tree", name := "sortByByte", desc := "([I[II)V" } : Jvm.MethodName)), (Jvm.Cond.instanceMethod ({ cls := "PrefixMill$Tree", name := "sortByByte", desc := "([I[II)V" } : Jvm.MethodName)), (Jvm.Cond.code ({ cls := "PrefixMill$Tree", name := "sortByByte", desc := "([I[II)V" } : Jvm.MethodName) prog_9_method_6_code (6 : Nat) (Option.none : Option Jvm.ClassFile.FieldType)), (Jvm.Cond.methodLink "PrefixMill$Tree" (57 : Nat) ({ cls := "java/util/Arrays", name := "fill", desc := "([II)V" } : Jvm.MethodName)), (Jvm.Cond.methodLink "PrefixMill$Tree" (43 : Nat) ({ cls := "PrefixMill$Tree", name := "join", desc := "()V" } : Jvm.MethodName)), (Jvm.Cond.instanceMethod ({ cls := "PrefixMill$Tree", name := "join", desc := "()V" } : Jvm.MethodName)), (Jvm.Cond.code ({ cls := "PrefixMill$Tree", name := "join", desc := "()V" } : Jvm.MethodName) prog_9_method_7_code (4 : Nat) (Option.none : Option Jvm.ClassFile.FieldType)), (Jvm.Cond.methodLink "PrefixMill$Tree" (69 : Nat) ({ cls := "PrefixMill$Tree", name := "least", desc := "(I)I" } : Jvm.MethodName)), (Jvm.Cond.instanceMethod ({ cls := "PrefixMill$Tree", name := "least", desc := "(I)I" } : Jvm.MethodName)), (Jvm.Cond.code ({ cls := "PrefixMill$Tree", name := "least", desc := "(I)I" } : Jvm.MethodName) prog_9_method_8_code (2 : Nat) (Option.some Jvm.ClassFile.FieldType.int)), (Jvm.Cond.methodLink "PrefixMill$Tree" (46 : Nat) ({ cls := "PrefixMill$Tree", name := "measure", desc := "()I" } : Jvm.MethodName)), (Jvm.Cond.instanceMethod ({ cls := "PrefixMill$Tree", name := "measure", desc := "()I" } : Jvm.MethodName)), (Jvm.Cond.code ({ cls := "PrefixMill$Tree", name := "measure", desc := "()I" } : Jvm.MethodName) prog_9_method_9_code (3 : Nat) (Option.some Jvm.ClassFile.FieldType.int)), (Jvm.Cond.methodLinkNest "PrefixMill$Tree" (73 : Nat) ({ cls := "PrefixMill", name := "greatestOf", desc := "([I)I" } : Jvm.MethodName) "PrefixMill"), (Jvm.Cond.static ({ cls := "PrefixMill", name := "greatestOf", desc := "([I)I" } : Jvm.MethodName)), (Jvm.Cond.code ({ cls := "PrefixMill", name := "greatestOf", desc := "([I)I" } : Jvm.MethodName) prog_1_method_23_code (3 : Nat) (Option.some Jvm.ClassFile.FieldType.int)), (Jvm.Cond.methodLink "PrefixMill" (161 : Nat) ({ cls := "java/lang/Math", name := "max", desc := "(II)I" } : Jvm.MethodName)), (Jvm.Cond.static ({ cls := "java/lang/Math", name := "max", desc := "(II)I" } : Jvm.MethodName)), (Jvm.Cond.code ({ cls := "java/lang/Math", name := "max", desc := "(II)I" } : Jvm.MethodName) prog_13_method_65_code (2 : Nat) (Option.some Jvm.ClassFile.FieldType.int)), (Jvm.Cond.methodLink "PrefixMill$Tree" (50 : Nat) ({ cls := "PrefixMill$Tree", name := "halve", desc := "()V" } : Jvm.MethodName)), (Jvm.Cond.instanceMethod ({ cls := "PrefixMill$Tree", name := "halve", desc := "()V" } : Jvm.MethodName)), (Jvm.Cond.code ({ cls := "PrefixMill$Tree", name := "halve", desc := "()V" } : Jvm.MethodName) prog_9_method_4_code (2 : Nat) (Option.none : Option Jvm.ClassFile.FieldType)), (Jvm.Cond.methodLink "PrefixMill" (102 : Nat) ({ cls := "PrefixMill$Codes", name := "become", desc := "([I)I" } : Jvm.MethodName)), (Jvm.Cond.instanceMethod ({ cls := "PrefixMill$Codes", name := "become", desc := "([I)I" } : Jvm.MethodName)), (Jvm.Cond.selects "PrefixMill$Codes" ({ cls := "PrefixMill$Codes", name := "become", desc := "([I)I" } : Jvm.MethodName) ({ cls := "PrefixMill$Codes", name := "become", desc := "([I)I" } : Jvm.MethodName))]
def tt_4 : List Cond := [(Jvm.Cond.code ({ cls := "PrefixMill$Codes", name := "become", desc := "([I)I" } : Jvm.MethodName) prog_2_method_3_code (3 : Nat) (Option.some Jvm.ClassFile.FieldType.int)), (Jvm.Cond.methodLinkNest "PrefixMill$Codes" (25 : Nat) ({ cls := "PrefixMill", name := "greatestOf", desc := "([I)I" } : Jvm.MethodName) "PrefixMill"), (Jvm.Cond.methodLink "PrefixMill$Codes" (35 : Nat) ({ cls := "PrefixMill$Codes", name := "fillCells", desc := "()V" } : Jvm.MethodName)), (Jvm.Cond.instanceMethod ({ cls := "PrefixMill$Codes", name := "fillCells", desc := "()V" } : Jvm.MethodName)), (Jvm.Cond.code ({ cls := "PrefixMill$Codes", name := "fillCells", desc := "()V" } : Jvm.MethodName) prog_2_method_4_code (4 : Nat) (Option.none : Option Jvm.ClassFile.FieldType)), (Jvm.Cond.methodLink "PrefixMill$Codes" (38 : Nat) ({ cls := "PrefixMill$Codes", name := "giveCells", desc := "(III)I" } : Jvm.MethodName)), (Jvm.Cond.instanceMethod ({ cls := "PrefixMill$Codes", name := "giveCells", desc := "(III)I" } : Jvm.MethodName)), (Jvm.Cond.code ({ cls := "PrefixMill$Codes", name := "giveCells", desc := "(III)I" } : Jvm.MethodName) prog_2_method_5_code (6 : Nat) (Option.some Jvm.ClassFile.FieldType.int)), (Jvm.Cond.methodLink "PrefixMill$Codes" (42 : Nat) ({ cls := "java/lang/Math", name := "min", desc := "(II)I" } : Jvm.MethodName)), (Jvm.Cond.methodLink "PrefixMillLaw" (56 : Nat) ({ cls := "PrefixMill", name := "just", desc := "()I" } : Jvm.MethodName)), (Jvm.Cond.instanceMethod ({ cls := "PrefixMill", name := "just", desc := "()I" } : Jvm.MethodName)), (Jvm.Cond.selects "PrefixMill" ({ cls := "PrefixMill", name := "just", desc := "()I" } : Jvm.MethodName) ({ cls := "PrefixMill", name := "just", desc := "()I" } : Jvm.MethodName)), (Jvm.Cond.code ({ cls := "PrefixMill", name := "just", desc := "()I" } : Jvm.MethodName) prog_1_method_11_code (1 : Nat) (Option.some Jvm.ClassFile.FieldType.int)), (Jvm.Cond.methodLink "PrefixMill" (105 : Nat) ({ cls := "PrefixMill", name := "areLengths", desc := "([I)Z" } : Jvm.MethodName)), (Jvm.Cond.static ({ cls := "PrefixMill", name := "areLengths", desc := "([I)Z" } : Jvm.MethodName)), (Jvm.Cond.code ({ cls := "PrefixMill", name := "areLengths", desc := "([I)Z" } : Jvm.MethodName) prog_1_method_22_code (4 : Nat) (Option.some Jvm.ClassFile.FieldType.boolean)), (Jvm.Cond.methodLink "PrefixMill" (158 : Nat) ({ cls := "PrefixMill", name := "greatestOf", desc := "([I)I" } : Jvm.MethodName)), (Jvm.Cond.methodLink "PrefixMillLaw" (60 : Nat) ({ cls := "PrefixMill", name := "describe", desc := "()I" } : Jvm.MethodName)), (Jvm.Cond.instanceMethod ({ cls := "PrefixMill", name := "describe", desc := "()I" } : Jvm.MethodName)), (Jvm.Cond.selects "PrefixMill" ({ cls := "PrefixMill", name := "describe", desc := "()I" } : Jvm.MethodName) ({ cls := "PrefixMill", name := "describe", desc := "()I" } : Jvm.MethodName)), (Jvm.Cond.code ({ cls := "PrefixMill", name := "describe", desc := "()I" } : Jvm.MethodName) prog_1_method_12_code (1 : Nat) (Option.some Jvm.ClassFile.FieldType.int)), (Jvm.Cond.methodLink "PrefixMill" (109 : Nat) ({ cls := "PrefixMill$Codes", name := "areThere", desc := "()Z" } : Jvm.MethodName)), (Jvm.Cond.instanceMethod ({ cls := "PrefixMill$Codes", name := "areThere", desc := "()Z" } : Jvm.MethodName)), (Jvm.Cond.selects "PrefixMill$Codes" ({ cls := "PrefixMill$Codes", name := "areThere", desc := "()Z" } : Jvm.MethodName) ({ cls := "PrefixMill$Codes", name := "areThere", desc := "()Z" } : Jvm.MethodName)), (Jvm.Cond.code ({ cls := "PrefixMill$Codes", name := "areThere", desc := "()Z" } : Jvm.MethodName) prog_2_method_2_code (1 : Nat) (Option.some Jvm.ClassFile.FieldType.boolean)), (Jvm.Cond.methodLink "PrefixMill" (113 : Nat) ({ cls := "PrefixMill$Writer", name := "describeCodes", desc := "(LPrefixMill$Codes;LPrefixMill$Row;)I" } : Jvm.MethodName)), (Jvm.Cond.instanceMethod ({ cls := "PrefixMill$Writer", name := "describeCodes", desc := "(LPrefixMill$Codes;LPrefixMill$Row;)I" } : Jvm.MethodName)), (Jvm.Cond.selects "PrefixMill$Writer" ({ cls := "PrefixMill$Writer", name := "describeCodes", desc := "(LPrefixMill$Codes;LPrefixMill$Row;)I" } : Jvm.MethodName) ({ cls := "PrefixMill$Writer", name := "describeCodes", desc := "(LPrefixMill$Codes;LPrefixMill$Row;)I" } : Jvm.MethodName)), (Jvm.Cond.code ({ cls := "PrefixMill$Writer", name := "describeCodes", desc := "(LPrefixMill$Codes;LPrefixMill$Row;)I" } : Jvm.MethodName) prog_10_method_2_code (8 : Nat) (Option.some Jvm.ClassFile.FieldType.int)), (Jvm.Cond.methodLink "PrefixMill$Writer" (36 : Nat) ({ cls := "PrefixMill$Writer", name := "takeWeights", desc := "(LPrefixMill$Codes;I)V" } : Jvm.MethodName)), (Jvm.Cond.instanceMethod ({ cls := "PrefixMill$Writer", name := "takeWeights", desc := "(LPrefixMill$Codes;I)V" } : Jvm.MethodName)), (Jvm.Cond.code ({ cls := "PrefixMill$Writer", name := "takeWeights", desc := "(LPrefixMill$Codes;I)V" } : Jvm.MethodName) prog_10_method_3_code (4 : Nat) (Option.none : Option Jvm.ClassFile.FieldType)), (Jvm.Cond.methodLink "PrefixMill$Writer" (64 : Nat) ({ cls := "java/util/Arrays", name := "fill", desc := "([II)V" } : Jvm.MethodName)), (Jvm.Cond.methodLink "PrefixMill$Writer" (70 : Nat) ({ cls := "PrefixMill$Codes", name := "weightOf", desc := "(I)I" } : Jvm.MethodName)), (Jvm.Cond.instanceMethod ({ cls := "PrefixMill$Codes", name := "weightOf", desc := "(I)I" } : Jvm.MethodName)), (Jvm.Cond.selects "PrefixMill$Codes" ({ cls := "PrefixMill$Codes", name := "weightOf", desc := "(I)I" } : Jvm.MethodName) ({ cls := "PrefixMill$Codes", name := "weightOf", desc := "(I)I" } : Jvm.MethodName)), (Jvm.Cond.code ({ cls := "PrefixMill$Codes", name := "weightOf", desc := "(I)I" } : Jvm.MethodName) prog_2_method_6_code (2 : Nat) (Option.some Jvm.ClassFile.FieldType.int)), (Jvm.Cond.methodLink "PrefixMill$Writer" (40 : Nat) ({ cls := "PrefixMill$Draft", name := "compose", desc := "([II[I)V" } : Jvm.MethodName)), (Jvm.Cond.instanceMethod ({ cls := "PrefixMill$Draft", name := "compose", desc := "([II[I)V" } : Jvm.MethodName)), (Jvm.Cond.selects "PrefixMill$Draft" ({ cls := "PrefixMill$Draft", name := "compose", desc := "([II[I)V" } : Jvm.MethodName) ({ cls := "PrefixMill$Draft", name := "compose", desc := "([II[I)V" } : Jvm.MethodName)), (Jvm.Cond.code ({ cls := "PrefixMill$Draft", name := "compose", desc := "([II[I)V" } : Jvm.MethodName) prog_3_method_2_code (8 : Nat) (Option.none : Option Jvm.ClassFile.FieldType)), (Jvm.Cond.methodLink "PrefixMill$Draft" (29 : Nat) ({ cls := "PrefixMill$Row", name := "empty", desc := "()V" } : Jvm.MethodName)), (Jvm.Cond.methodLink "PrefixMill$Draft" (32 : Nat) ({ cls := "PrefixMill$Share", name := "byCounts", desc := "(I[II)V" } : Jvm.MethodName)), (Jvm.Cond.instanceMethod ({ cls := "PrefixMill$Share", name := "byCounts", desc := "(I[II)V" } : Jvm.MethodName)), (Jvm.Cond.selects "PrefixMill$Share" ({ cls := "PrefixMill$Share", name := "byCounts", desc := "(I[II)V" } : Jvm.MethodName) ({ cls := "PrefixMill$Share", name := "byCounts", desc := "(I[II)V" } : Jvm.MethodName)), (Jvm.Cond.code ({ cls := "PrefixMill$Share", name := "byCounts", desc := "(I[II)V" } : Jvm.MethodName) prog_6_method_4_code (6 : Nat) (Option.none : Option Jvm.ClassFile.FieldType)), (Jvm.Cond.methodLink "PrefixMill$Share" (55 : Nat) ({ cls := "java/lang/Math", name := "max", desc := "(II)I" } : Jvm.MethodName)), (Jvm.Cond.methodLink "PrefixMill$Share" (59 : Nat) ({ cls := "PrefixMill$Share", name := "lacking", desc := "()I" } : Jvm.MethodName)), (Jvm.Cond.instanceMethod ({ cls := "PrefixMill$Share", name := "lacking", desc := "()I" } : Jvm.MethodName)), (Jvm.Cond.code ({ cls := "PrefixMill$Share", name := "lacking", desc := "()I" } : Jvm.MethodName) prog_6_method_3_code (3 : Nat) (Option.some Jvm.ClassFile.FieldType.int)), (Jvm.Cond.methodLink "PrefixMill$Share" (52 : Nat) ({ cls := "PrefixMill$Share", name := "massOf", desc := "(I)I" } : Jvm.MethodName)), (Jvm.Cond.instanceMethod ({ cls := "PrefixMill$Share", name := "massOf", desc := "(I)I" } : Jvm.MethodName)), (Jvm.Cond.code ({ cls := "PrefixMill$Share", name := "massOf", desc := "(I)I" } : Jvm.MethodName) prog_6_method_2_code (2 : Nat) (Option.some Jvm.ClassFile.FieldType.int)), (Jvm.Cond.methodLink "PrefixMill$Share" (42 : Nat) ({ cls := "java/lang/Math", name := "abs", desc := "(I)I" } : Jvm.MethodName)), (Jvm.Cond.static ({ cls := "java/lang/Math", name := "abs", desc := "(I)I" } : Jvm.MethodName)), (Jvm.Cond.code ({ cls := "java/lang/Math", name := "abs", desc := "(I)I" } : Jvm.MethodName) prog_13_method_59_code (1 : Nat) (Option.some Jvm.ClassFile.FieldType.int)), (Jvm.Cond.methodLink "PrefixMill$Share" (63 : Nat) ({ cls := "PrefixMill$Share", name := "give", desc := "(I)V" } : Jvm.MethodName)), (Jvm.Cond.instanceMethod ({ cls := "PrefixMill$Share", name := "give", desc := "(I)V" } : Jvm.MethodName)), (Jvm.Cond.code ({ cls := "PrefixMill$Share", name := "give", desc := "(I)V" } : Jvm.MethodName) prog_6_method_5_code (4 : Nat) (Option.none : Option Jvm.ClassFile.FieldType)), (Jvm.Cond.methodLink "PrefixMill$Share" (73 : Nat) ({ cls := "PrefixMill$Share", name := "queueByCuts", desc := "()I" } : Jvm.MethodName)), (Jvm.Cond.instanceMethod ({ cls := "PrefixMill$Share", name := "queueByCuts", desc := "()I" } : Jvm.MethodName)), (Jvm.Cond.code ({ cls := "PrefixMill$Share", name := "queueByCuts", desc := "()I" } : Jvm.MethodName) prog_6_method_6_code (4 : Nat) (Option.some Jvm.ClassFile.FieldType.int)), (Jvm.Cond.methodLink "PrefixMill$Share" (67 : Nat) ({ cls := "PrefixMill$Share", name := "takeAway", desc := "(I)V" } : Jvm.MethodName)), (Jvm.Cond.instanceMethod ({ cls := "PrefixMill$Share", name := "takeAway", desc := "(I)V" } : Jvm.MethodName)), (Jvm.Cond.code ({ cls := "PrefixMill$Share", name := "takeAway", desc := "(I)V" } : Jvm.MethodName) prog_6_method_7_code (5 : Nat) (Option.none : Option Jvm.ClassFile.FieldType)), (Jvm.Cond.methodLink "PrefixMill$Share" (70 : Nat) ({ cls := "PrefixMill$Share", name := "layOut", desc := "()V" } : Jvm.MethodName)), (Jvm.Cond.instanceMethod ({ cls := "PrefixMill$Share", name := "layOut", desc := "()V" } : Jvm.MethodName)), (Jvm.Cond.code ({ cls := "PrefixMill$Share", name := "layOut", desc := "()V" } : Jvm.MethodName) prog_6_method_8_code (2 : Nat) (Option.none : Option Jvm.ClassFile.FieldType)), (Jvm.Cond.methodLink "PrefixMill$Share" (76 : Nat) ({ cls := "PrefixMill$Share", name := "giveHighest", desc := "()I" } : Jvm.MethodName)), (Jvm.Cond.instanceMethod ({ cls := "PrefixMill$Share", name := "giveHighest", desc := "()I" } : Jvm.MethodName)), (Jvm.Cond.code ({ cls := "PrefixMill$Share", name := "giveHighest", desc := "()I" } : Jvm.MethodName) prog_6_method_9_code (3 : Nat) (Option.some Jvm.ClassFile.FieldType.int)), (Jvm.Cond.methodLink "PrefixMill$Share" (79 : Nat) ({ cls := "PrefixMill$Share", name := "giveByWalk", desc := "(I)V" } : Jvm.MethodName)), (Jvm.Cond.instanceMethod ({ cls := "PrefixMill$Share", name := "giveByWalk", desc := "(I)V" } : Jvm.MethodName)), (Jvm.Cond.code ({ cls := "PrefixMill$Share", name := "giveByWalk", desc := "(I)V" } : Jvm.MethodName) prog_6_method_10_code (8 : Nat) (Option.none : Option Jvm.ClassFile.FieldType)), (Jvm.Cond.methodLink "PrefixMill$Share" (82 : Nat) ({ cls := "PrefixMill$Share", name := "rank", desc := "()V" } : Jvm.MethodName)), (Jvm.Cond.instanceMethod ({ cls := "PrefixMill$Share", name := "rank", desc := "()V" } : Jvm.MethodName)), (Jvm.Cond.code ({ cls := "PrefixMill$Share", name := "rank", desc := "()V" } : Jvm.MethodName) prog_6_method_11_code (6 : Nat) (Option.none : Option Jvm.ClassFile.FieldType)), (Jvm.Cond.methodLinkNest "PrefixMill$Share" (85 : Nat) ({ cls := "PrefixMill", name := "log2", desc := "(I)I" } : Jvm.MethodName) "PrefixMill"), (Jvm.Cond.static ({ cls := "PrefixMill", name := "log2", desc := "(I)I" } : Jvm.MethodName)), (Jvm.Cond.code ({ cls := "PrefixMill", name := "log2", desc := "(I)I" } : Jvm.MethodName) prog_1_method_21_code (2 : Nat) (Option.some Jvm.ClassFile.FieldType.int)), (Jvm.Cond.methodLink "PrefixMill$Draft" (36 : Nat) ({ cls := "PrefixMill$Share", name := "put", desc := "(LPrefixMill$Row;)V" } : Jvm.MethodName)), (Jvm.Cond.instanceMethod ({ cls := "PrefixMill$Share", name := "put", desc := "(LPrefixMill$Row;)V" } : Jvm.MethodName)), (Jvm.Cond.selects "PrefixMill$Share" ({ cls := "PrefixMill$Share", name := "put", desc := "(LPrefixMill$Row;)V" } : Jvm.MethodName) ({ cls := "PrefixMill$Share", name := "put", desc := "(LPrefixMill$Row;)V" } : Jvm.MethodName)), (Jvm.Cond.code ({ cls := "PrefixMill$Share", name := "put", desc := "(LPrefixMill$Row;)V" } : Jvm.MethodName) prog_6_method_14_code (4 : Nat) (Option.none : Option Jvm.ClassFile.FieldType)), (Jvm.Cond.methodLink "PrefixMill$Share" (88 : Nat) ({ cls := "PrefixMill$Row", name := "put", desc := "(II)V" } : Jvm.MethodName)), (Jvm.Cond.instanceMethod ({ cls := "PrefixMill$Row", name := "put", desc := "(II)V" } : Jvm.MethodName)), (Jvm.Cond.selects "PrefixMill$Row" ({ cls := "PrefixMill$Row", name := "put", desc := "(II)V" } : Jvm.MethodName) ({ cls := "PrefixMill$Row", name := "put", desc := "(II)V" } : Jvm.MethodName)), (Jvm.Cond.code ({ cls := "PrefixMill$Row", name := "put", desc := "(II)V" } : Jvm.MethodName) prog_5_method_7_code (3 : Nat) (Option.none : Option Jvm.ClassFile.FieldType)), (Jvm.Cond.methodLink "PrefixMill$Row" (49 : Nat) ({ cls := "PrefixMill$Row", name := "add", desc := "(I)V" } : Jvm.MethodName)), (Jvm.Cond.methodLink "PrefixMill$Share" (94 : Nat) ({ cls := "PrefixMill$Share", name := "putPoints", desc := "(LPrefixMill$Row;II)V" } : Jvm.MethodName)), (Jvm.Cond.static ({ cls := "PrefixMill$Share", name := "putPoints", desc := "(LPrefixMill$Row;II)V" } : Jvm.MethodName)), (Jvm.Cond.code ({ cls := "PrefixMill$Share", name := "putPoints", desc := "(LPrefixMill$Row;II)V" } : Jvm.MethodName) prog_6_method_15_code (6 : Nat) (Option.none : Option Jvm.ClassFile.FieldType)), (Jvm.Cond.methodLink "PrefixMill$Share" (98 : Nat) ({ cls := "PrefixMill$Share", name := "putNone", desc := "(LPrefixMill$Row;I)I" } : Jvm.MethodName)), (Jvm.Cond.instanceMethod ({ cls := "PrefixMill$Share", name := "putNone", desc := "(LPrefixMill$Row;I)I" } : Jvm.MethodName)), (Jvm.Cond.code ({ cls := "PrefixMill$Share", name := "putNone", desc := "(LPrefixMill$Row;I)I" } : Jvm.MethodName) prog_6_method_16_code (5 : Nat) (Option.some Jvm.ClassFile.FieldType.int)), (Jvm.Cond.methodLink "PrefixMill$Share" (102 : Nat) ({ cls := "PrefixMill$Row", name := "pad", desc := "()V" } : Jvm.MethodName)), (Jvm.Cond.instanceMethod ({ cls := "PrefixMill$Row", name := "pad", desc := "()V" } : Jvm.MethodName)), (Jvm.Cond.selects "PrefixMill$Row" ({ cls := "PrefixMill$Row", name := "pad", desc := "()V" } : Jvm.MethodName) ({ cls := "PrefixMill$Row", name := "pad", desc := "()V" } : Jvm.MethodName)), (Jvm.Cond.code ({ cls := "PrefixMill$Row", name := "pad", desc := "()V" } : Jvm.MethodName) prog_5_method_8_code (1 : Nat) (Option.none : Option Jvm.ClassFile.FieldType)), (Jvm.Cond.methodLink "PrefixMill$Row" (53 : Nat) ({ cls := "PrefixMill$Row", name := "put", desc := "(II)V" } : Jvm.MethodName))]
def tt_5 : List Cond := [(Jvm.Cond.methodLink "PrefixMill$Draft" (40 : Nat) ({ cls := "PrefixMill$Share", name := "lowestPlace", desc := "(I)I" } : Jvm.MethodName)), (Jvm.Cond.instanceMethod ({ cls := "PrefixMill$Share", name := "lowestPlace", desc := "(I)I" } : Jvm.MethodName)), (Jvm.Cond.selects "PrefixMill$Share" ({ cls := "PrefixMill$Share", name := "lowestPlace", desc := "(I)I" } : Jvm.MethodName) ({ cls := "PrefixMill$Share", name := "lowestPlace", desc := "(I)I" } : Jvm.MethodName)), (Jvm.Cond.code ({ cls := "PrefixMill$Share", name := "lowestPlace", desc := "(I)I" } : Jvm.MethodName) prog_6_method_12_code (2 : Nat) (Option.some Jvm.ClassFile.FieldType.int)), (Jvm.Cond.methodLink "PrefixMill$Draft" (44 : Nat) ({ cls := "PrefixMill$Share", name := "placeBefore", desc := "(II)I" } : Jvm.MethodName)), (Jvm.Cond.instanceMethod ({ cls := "PrefixMill$Share", name := "placeBefore", desc := "(II)I" } : Jvm.MethodName)), (Jvm.Cond.selects "PrefixMill$Share" ({ cls := "PrefixMill$Share", name := "placeBefore", desc := "(II)I" } : Jvm.MethodName) ({ cls := "PrefixMill$Share", name := "placeBefore", desc := "(II)I" } : Jvm.MethodName)), (Jvm.Cond.code ({ cls := "PrefixMill$Share", name := "placeBefore", desc := "(II)I" } : Jvm.MethodName) prog_6_method_13_code (5 : Nat) (Option.some Jvm.ClassFile.FieldType.int)), (Jvm.Cond.methodLink "PrefixMill$Draft" (55 : Nat) ({ cls := "PrefixMill$Row", name := "put", desc := "(II)V" } : Jvm.MethodName)), (Jvm.Cond.methodLink "PrefixMill$Draft" (58 : Nat) ({ cls := "PrefixMill$Row", name := "finish", desc := "()V" } : Jvm.MethodName)), (Jvm.Cond.instanceMethod ({ cls := "PrefixMill$Row", name := "finish", desc := "()V" } : Jvm.MethodName)), (Jvm.Cond.selects "PrefixMill$Row" ({ cls := "PrefixMill$Row", name := "finish", desc := "()V" } : Jvm.MethodName) ({ cls := "PrefixMill$Row", name := "finish", desc := "()V" } : Jvm.MethodName)), (Jvm.Cond.code ({ cls := "PrefixMill$Row", name := "finish", desc := "()V" } : Jvm.MethodName) prog_5_method_9_code (1 : Nat) (Option.none : Option Jvm.ClassFile.FieldType)), (Jvm.Cond.methodLink "PrefixMill$Row" (57 : Nat) ({ cls := "PrefixMill$Row", name := "pad", desc := "()V" } : Jvm.MethodName)), (Jvm.Cond.methodLink "PrefixMill$Writer" (53 : Nat) ({ cls := "PrefixMill$Row", name := "empty", desc := "()V" } : Jvm.MethodName)), (Jvm.Cond.methodLink "PrefixMill$Writer" (56 : Nat) ({ cls := "PrefixMill$Writer", name := "putDirect", desc := "(LPrefixMill$Row;I)V" } : Jvm.MethodName)), (Jvm.Cond.instanceMethod ({ cls := "PrefixMill$Writer", name := "putDirect", desc := "(LPrefixMill$Row;I)V" } : Jvm.MethodName)), (Jvm.Cond.code ({ cls := "PrefixMill$Writer", name := "putDirect", desc := "(LPrefixMill$Row;I)V" } : Jvm.MethodName) prog_10_method_4_code (5 : Nat) (Option.none : Option Jvm.ClassFile.FieldType)), (Jvm.Cond.methodLink "PrefixMill$Writer" (74 : Nat) ({ cls := "PrefixMill$Row", name := "add", desc := "(I)V" } : Jvm.MethodName)), (Jvm.Cond.methodLink "PrefixMill$Writer" (60 : Nat) ({ cls := "PrefixMill$Writer", name := "putStates", desc := "(LPrefixMill$Row;LPrefixMill$Row;)V" } : Jvm.MethodName)), (Jvm.Cond.static ({ cls := "PrefixMill$Writer", name := "putStates", desc := "(LPrefixMill$Row;LPrefixMill$Row;)V" } : Jvm.MethodName)), (Jvm.Cond.code ({ cls := "PrefixMill$Writer", name := "putStates", desc := "(LPrefixMill$Row;LPrefixMill$Row;)V" } : Jvm.MethodName) prog_10_method_5_code (3 : Nat) (Option.none : Option Jvm.ClassFile.FieldType)), (Jvm.Cond.methodLink "PrefixMill$Writer" (77 : Nat) ({ cls := "PrefixMill$Row", name := "get", desc := "(I)I" } : Jvm.MethodName)), (Jvm.Cond.methodLink "PrefixMillLaw" (64 : Nat) ({ cls := "PrefixMill", name := "read", desc := "()I" } : Jvm.MethodName)), (Jvm.Cond.instanceMethod ({ cls := "PrefixMill", name := "read", desc := "()I" } : Jvm.MethodName)), (Jvm.Cond.selects "PrefixMill" ({ cls := "PrefixMill", name := "read", desc := "()I" } : Jvm.MethodName) ({ cls := "PrefixMill", name := "read", desc := "()I" } : Jvm.MethodName)), (Jvm.Cond.code ({ cls := "PrefixMill", name := "read", desc := "()I" } : Jvm.MethodName) prog_1_method_13_code (2 : Nat) (Option.some Jvm.ClassFile.FieldType.int)), (Jvm.Cond.methodLink "PrefixMill" (117 : Nat) ({ cls := "PrefixMill$Reader", name := "readCodes", desc := "(LPrefixMill$Row;I)I" } : Jvm.MethodName)), (Jvm.Cond.instanceMethod ({ cls := "PrefixMill$Reader", name := "readCodes", desc := "(LPrefixMill$Row;I)I" } : Jvm.MethodName)), (Jvm.Cond.selects "PrefixMill$Reader" ({ cls := "PrefixMill$Reader", name := "readCodes", desc := "(LPrefixMill$Row;I)I" } : Jvm.MethodName) ({ cls := "PrefixMill$Reader", name := "readCodes", desc := "(LPrefixMill$Row;I)I" } : Jvm.MethodName)), (Jvm.Cond.code ({ cls := "PrefixMill$Reader", name := "readCodes", desc := "(LPrefixMill$Row;I)I" } : Jvm.MethodName) prog_4_method_2_code (6 : Nat) (Option.some Jvm.ClassFile.FieldType.int)), (Jvm.Cond.methodLink "PrefixMill$Reader" (32 : Nat) ({ cls := "PrefixMill$Row", name := "get", desc := "(I)I" } : Jvm.MethodName)), (Jvm.Cond.methodLink "PrefixMill$Reader" (45 : Nat) ({ cls := "PrefixMill$Reader", name := "takeDirect", desc := "(LPrefixMill$Row;II)V" } : Jvm.MethodName)), (Jvm.Cond.instanceMethod ({ cls := "PrefixMill$Reader", name := "takeDirect", desc := "(LPrefixMill$Row;II)V" } : Jvm.MethodName)), (Jvm.Cond.code ({ cls := "PrefixMill$Reader", name := "takeDirect", desc := "(LPrefixMill$Row;II)V" } : Jvm.MethodName) prog_4_method_3_code (6 : Nat) (Option.none : Option Jvm.ClassFile.FieldType)), (Jvm.Cond.methodLink "PrefixMill$Reader" (49 : Nat) ({ cls := "PrefixMill$Share", name := "take", desc := "(LPrefixMill$Row;II)I" } : Jvm.MethodName)), (Jvm.Cond.instanceMethod ({ cls := "PrefixMill$Share", name := "take", desc := "(LPrefixMill$Row;II)I" } : Jvm.MethodName)), (Jvm.Cond.selects "PrefixMill$Share" ({ cls := "PrefixMill$Share", name := "take", desc := "(LPrefixMill$Row;II)I" } : Jvm.MethodName) ({ cls := "PrefixMill$Share", name := "take", desc := "(LPrefixMill$Row;II)I" } : Jvm.MethodName)), (Jvm.Cond.code ({ cls := "PrefixMill$Share", name := "take", desc := "(LPrefixMill$Row;II)I" } : Jvm.MethodName) prog_6_method_17_code (6 : Nat) (Option.some Jvm.ClassFile.FieldType.int)), (Jvm.Cond.methodLink "PrefixMill$Share" (105 : Nat) ({ cls := "java/util/Arrays", name := "fill", desc := "([II)V" } : Jvm.MethodName)), (Jvm.Cond.methodLink "PrefixMill$Share" (114 : Nat) ({ cls := "PrefixMill$Share", name := "takeBits", desc := "(LPrefixMill$Row;I)I" } : Jvm.MethodName)), (Jvm.Cond.instanceMethod ({ cls := "PrefixMill$Share", name := "takeBits", desc := "(LPrefixMill$Row;I)I" } : Jvm.MethodName)), (Jvm.Cond.code ({ cls := "PrefixMill$Share", name := "takeBits", desc := "(LPrefixMill$Row;I)I" } : Jvm.MethodName) prog_6_method_18_code (4 : Nat) (Option.some Jvm.ClassFile.FieldType.int)), (Jvm.Cond.methodLink "PrefixMill$Share" (123 : Nat) ({ cls := "PrefixMill$Row", name := "bits", desc := "(II)I" } : Jvm.MethodName)), (Jvm.Cond.instanceMethod ({ cls := "PrefixMill$Row", name := "bits", desc := "(II)I" } : Jvm.MethodName)), (Jvm.Cond.selects "PrefixMill$Row" ({ cls := "PrefixMill$Row", name := "bits", desc := "(II)I" } : Jvm.MethodName) ({ cls := "PrefixMill$Row", name := "bits", desc := "(II)I" } : Jvm.MethodName)), (Jvm.Cond.code ({ cls := "PrefixMill$Row", name := "bits", desc := "(II)I" } : Jvm.MethodName) prog_5_method_5_code (5 : Nat) (Option.some Jvm.ClassFile.FieldType.int)), (Jvm.Cond.methodLink "PrefixMill$Row" (24 : Nat) ({ cls := "PrefixMill$Row", name := "get", desc := "(I)I" } : Jvm.MethodName)), (Jvm.Cond.methodLink "PrefixMill$Row" (28 : Nat) ({ cls := "java/lang/Math", name := "max", desc := "(II)I" } : Jvm.MethodName)), (Jvm.Cond.methodLink "PrefixMill$Share" (117 : Nat) ({ cls := "PrefixMill$Share", name := "takePoints", desc := "(LPrefixMill$Row;I)I" } : Jvm.MethodName)), (Jvm.Cond.instanceMethod ({ cls := "PrefixMill$Share", name := "takePoints", desc := "(LPrefixMill$Row;I)I" } : Jvm.MethodName)), (Jvm.Cond.code ({ cls := "PrefixMill$Share", name := "takePoints", desc := "(LPrefixMill$Row;I)I" } : Jvm.MethodName) prog_6_method_19_code (7 : Nat) (Option.some Jvm.ClassFile.FieldType.int)), (Jvm.Cond.methodLink "PrefixMill$Share" (120 : Nat) ({ cls := "PrefixMill$Share", name := "takeNone", desc := "(LPrefixMill$Row;I)I" } : Jvm.MethodName)), (Jvm.Cond.instanceMethod ({ cls := "PrefixMill$Share", name := "takeNone", desc := "(LPrefixMill$Row;I)I" } : Jvm.MethodName)), (Jvm.Cond.code ({ cls := "PrefixMill$Share", name := "takeNone", desc := "(LPrefixMill$Row;I)I" } : Jvm.MethodName) prog_6_method_20_code (5 : Nat) (Option.some Jvm.ClassFile.FieldType.int)), (Jvm.Cond.methodLink "PrefixMill$Reader" (53 : Nat) ({ cls := "PrefixMill$Reader", name := "takeRow", desc := "(LPrefixMill$Row;I)Z" } : Jvm.MethodName)), (Jvm.Cond.instanceMethod ({ cls := "PrefixMill$Reader", name := "takeRow", desc := "(LPrefixMill$Row;I)Z" } : Jvm.MethodName)), (Jvm.Cond.code ({ cls := "PrefixMill$Reader", name := "takeRow", desc := "(LPrefixMill$Row;I)Z" } : Jvm.MethodName) prog_4_method_4_code (6 : Nat) (Option.some Jvm.ClassFile.FieldType.boolean)), (Jvm.Cond.methodLink "PrefixMill$Reader" (64 : Nat) ({ cls := "PrefixMill$Tail", name := "open", desc := "(LPrefixMill$Row;II)Z" } : Jvm.MethodName)), (Jvm.Cond.instanceMethod ({ cls := "PrefixMill$Tail", name := "open", desc := "(LPrefixMill$Row;II)Z" } : Jvm.MethodName)), (Jvm.Cond.selects "PrefixMill$Tail" ({ cls := "PrefixMill$Tail", name := "open", desc := "(LPrefixMill$Row;II)Z" } : Jvm.MethodName) ({ cls := "PrefixMill$Tail", name := "open", desc := "(LPrefixMill$Row;II)Z" } : Jvm.MethodName)), (Jvm.Cond.code ({ cls := "PrefixMill$Tail", name := "open", desc := "(LPrefixMill$Row;II)Z" } : Jvm.MethodName) prog_8_method_2_code (5 : Nat) (Option.some Jvm.ClassFile.FieldType.boolean)), (Jvm.Cond.methodLink "PrefixMill$Tail" (7 : Nat) ({ cls := "PrefixMill$Row", name := "get", desc := "(I)I" } : Jvm.MethodName)), (Jvm.Cond.methodLinkNest "PrefixMill$Tail" (19 : Nat) ({ cls := "PrefixMill", name := "log2", desc := "(I)I" } : Jvm.MethodName) "PrefixMill"), (Jvm.Cond.methodLink "PrefixMill$Reader" (74 : Nat) ({ cls := "PrefixMill$Tail", name := "take", desc := "(LPrefixMill$Row;I)I" } : Jvm.MethodName)), (Jvm.Cond.instanceMethod ({ cls := "PrefixMill$Tail", name := "take", desc := "(LPrefixMill$Row;I)I" } : Jvm.MethodName)), (Jvm.Cond.selects "PrefixMill$Tail" ({ cls := "PrefixMill$Tail", name := "take", desc := "(LPrefixMill$Row;I)I" } : Jvm.MethodName) ({ cls := "PrefixMill$Tail", name := "take", desc := "(LPrefixMill$Row;I)I" } : Jvm.MethodName)), (Jvm.Cond.code ({ cls := "PrefixMill$Tail", name := "take", desc := "(LPrefixMill$Row;I)I" } : Jvm.MethodName) prog_8_method_5_code (4 : Nat) (Option.some Jvm.ClassFile.FieldType.int)), (Jvm.Cond.methodLink "PrefixMill$Tail" (31 : Nat) ({ cls := "PrefixMill$Tail", name := "look", desc := "(LPrefixMill$Row;I)I" } : Jvm.MethodName)), (Jvm.Cond.instanceMethod ({ cls := "PrefixMill$Tail", name := "look", desc := "(LPrefixMill$Row;I)I" } : Jvm.MethodName)), (Jvm.Cond.selects "PrefixMill$Tail" ({ cls := "PrefixMill$Tail", name := "look", desc := "(LPrefixMill$Row;I)I" } : Jvm.MethodName) ({ cls := "PrefixMill$Tail", name := "look", desc := "(LPrefixMill$Row;I)I" } : Jvm.MethodName)), (Jvm.Cond.code ({ cls := "PrefixMill$Tail", name := "look", desc := "(LPrefixMill$Row;I)I" } : Jvm.MethodName) prog_8_method_3_code (3 : Nat) (Option.some Jvm.ClassFile.FieldType.int)), (Jvm.Cond.methodLink "PrefixMill$Tail" (27 : Nat) ({ cls := "PrefixMill$Row", name := "bits", desc := "(II)I" } : Jvm.MethodName)), (Jvm.Cond.methodLink "PrefixMill$Tail" (35 : Nat) ({ cls := "PrefixMill$Tail", name := "drop", desc := "(I)Z" } : Jvm.MethodName)), (Jvm.Cond.instanceMethod ({ cls := "PrefixMill$Tail", name := "drop", desc := "(I)Z" } : Jvm.MethodName)), (Jvm.Cond.selects "PrefixMill$Tail" ({ cls := "PrefixMill$Tail", name := "drop", desc := "(I)Z" } : Jvm.MethodName) ({ cls := "PrefixMill$Tail", name := "drop", desc := "(I)Z" } : Jvm.MethodName)), (Jvm.Cond.code ({ cls := "PrefixMill$Tail", name := "drop", desc := "(I)Z" } : Jvm.MethodName) prog_8_method_4_code (2 : Nat) (Option.some Jvm.ClassFile.FieldType.boolean)), (Jvm.Cond.methodLink "PrefixMill$Reader" (57 : Nat) ({ cls := "PrefixMill$Reader", name := "takeLengths", desc := "()Z" } : Jvm.MethodName)), (Jvm.Cond.instanceMethod ({ cls := "PrefixMill$Reader", name := "takeLengths", desc := "()Z" } : Jvm.MethodName)), (Jvm.Cond.code ({ cls := "PrefixMill$Reader", name := "takeLengths", desc := "()Z" } : Jvm.MethodName) prog_4_method_5_code (6 : Nat) (Option.some Jvm.ClassFile.FieldType.boolean)), (Jvm.Cond.methodLinkNest "PrefixMill$Reader" (86 : Nat) ({ cls := "PrefixMill", name := "log2", desc := "(I)I" } : Jvm.MethodName) "PrefixMill"), (Jvm.Cond.methodLink "PrefixMill$Reader" (89 : Nat) ({ cls := "java/util/Arrays", name := "fill", desc := "([II)V" } : Jvm.MethodName)), (Jvm.Cond.methodLink "PrefixMillLaw" (68 : Nat) ({ cls := "PrefixMill", name := "encode", desc := "(Z)I" } : Jvm.MethodName)), (Jvm.Cond.instanceMethod ({ cls := "PrefixMill", name := "encode", desc := "(Z)I" } : Jvm.MethodName)), (Jvm.Cond.selects "PrefixMill" ({ cls := "PrefixMill", name := "encode", desc := "(Z)I" } : Jvm.MethodName) ({ cls := "PrefixMill", name := "encode", desc := "(Z)I" } : Jvm.MethodName)), (Jvm.Cond.code ({ cls := "PrefixMill", name := "encode", desc := "(Z)I" } : Jvm.MethodName) prog_1_method_14_code (2 : Nat) (Option.some Jvm.ClassFile.FieldType.int)), (Jvm.Cond.methodLink "PrefixMill" (125 : Nat) ({ cls := "PrefixMill$Streams", name := "bitsOf", desc := "(LPrefixMill$Codes;LPrefixMill$Row;II)I" } : Jvm.MethodName)), (Jvm.Cond.static ({ cls := "PrefixMill$Streams", name := "bitsOf", desc := "(LPrefixMill$Codes;LPrefixMill$Row;II)I" } : Jvm.MethodName)), (Jvm.Cond.code ({ cls := "PrefixMill$Streams", name := "bitsOf", desc := "(LPrefixMill$Codes;LPrefixMill$Row;II)I" } : Jvm.MethodName) prog_7_method_4_code (7 : Nat) (Option.some Jvm.ClassFile.FieldType.int)), (Jvm.Cond.methodLink "PrefixMill$Streams" (37 : Nat) ({ cls := "PrefixMill$Row", name := "get", desc := "(I)I" } : Jvm.MethodName)), (Jvm.Cond.methodLink "PrefixMill" (129 : Nat) ({ cls := "PrefixMill$Streams", name := "encodeFour", desc := "(LPrefixMill$Codes;LPrefixMill$Row;ILPrefixMill$Row;)I" } : Jvm.MethodName)), (Jvm.Cond.static ({ cls := "PrefixMill$Streams", name := "encodeFour", desc := "(LPrefixMill$Codes;LPrefixMill$Row;ILPrefixMill$Row;)I" } : Jvm.MethodName)), (Jvm.Cond.code ({ cls := "PrefixMill$Streams", name := "encodeFour", desc := "(LPrefixMill$Codes;LPrefixMill$Row;ILPrefixMill$Row;)I" } : Jvm.MethodName) prog_7_method_7_code (12 : Nat) (Option.some Jvm.ClassFile.FieldType.int)), (Jvm.Cond.methodLink "PrefixMill$Streams" (58 : Nat) ({ cls := "PrefixMill$Streams", name := "areFour", desc := "(I)Z" } : Jvm.MethodName)), (Jvm.Cond.static ({ cls := "PrefixMill$Streams", name := "areFour", desc := "(I)Z" } : Jvm.MethodName)), (Jvm.Cond.code ({ cls := "PrefixMill$Streams", name := "areFour", desc := "(I)Z" } : Jvm.MethodName) prog_7_method_2_code (1 : Nat) (Option.some Jvm.ClassFile.FieldType.boolean)), (Jvm.Cond.methodLink "PrefixMill$Streams" (27 : Nat) ({ cls := "PrefixMill$Streams", name := "quarter", desc := "(I)I" } : Jvm.MethodName)), (Jvm.Cond.static ({ cls := "PrefixMill$Streams", name := "quarter", desc := "(I)I" } : Jvm.MethodName)), (Jvm.Cond.code ({ cls := "PrefixMill$Streams", name := "quarter", desc := "(I)I" } : Jvm.MethodName) prog_7_method_3_code (1 : Nat) (Option.some Jvm.ClassFile.FieldType.int)), (Jvm.Cond.methodLink "PrefixMill$Streams" (48 : Nat) ({ cls := "PrefixMill$Streams", name := "bytesOf", desc := "(LPrefixMill$Codes;LPrefixMill$Row;II)I" } : Jvm.MethodName))]
def tt_6 : List Cond := [(Jvm.Cond.static ({ cls := "PrefixMill$Streams", name := "bytesOf", desc := "(LPrefixMill$Codes;LPrefixMill$Row;II)I" } : Jvm.MethodName)), (Jvm.Cond.code ({ cls := "PrefixMill$Streams", name := "bytesOf", desc := "(LPrefixMill$Codes;LPrefixMill$Row;II)I" } : Jvm.MethodName) prog_7_method_5_code (4 : Nat) (Option.some Jvm.ClassFile.FieldType.int)), (Jvm.Cond.methodLink "PrefixMill$Streams" (40 : Nat) ({ cls := "PrefixMill$Streams", name := "bitsOf", desc := "(LPrefixMill$Codes;LPrefixMill$Row;II)I" } : Jvm.MethodName)), (Jvm.Cond.methodLink "PrefixMill$Streams" (51 : Nat) ({ cls := "PrefixMill$Row", name := "empty", desc := "()V" } : Jvm.MethodName)), (Jvm.Cond.methodLink "PrefixMill$Streams" (62 : Nat) ({ cls := "PrefixMill$Row", name := "put", desc := "(II)V" } : Jvm.MethodName)), (Jvm.Cond.methodLink "PrefixMill$Streams" (54 : Nat) ({ cls := "PrefixMill$Streams", name := "putStream", desc := "(LPrefixMill$Codes;LPrefixMill$Row;IILPrefixMill$Row;)V" } : Jvm.MethodName)), (Jvm.Cond.static ({ cls := "PrefixMill$Streams", name := "putStream", desc := "(LPrefixMill$Codes;LPrefixMill$Row;IILPrefixMill$Row;)V" } : Jvm.MethodName)), (Jvm.Cond.code ({ cls := "PrefixMill$Streams", name := "putStream", desc := "(LPrefixMill$Codes;LPrefixMill$Row;IILPrefixMill$Row;)V" } : Jvm.MethodName) prog_7_method_8_code (7 : Nat) (Option.none : Option Jvm.ClassFile.FieldType)), (Jvm.Cond.methodLink "PrefixMill$Streams" (69 : Nat) ({ cls := "PrefixMill$Row", name := "finish", desc := "()V" } : Jvm.MethodName)), (Jvm.Cond.methodLink "PrefixMill" (133 : Nat) ({ cls := "PrefixMill$Streams", name := "encodeOne", desc := "(LPrefixMill$Codes;LPrefixMill$Row;ILPrefixMill$Row;)I" } : Jvm.MethodName)), (Jvm.Cond.static ({ cls := "PrefixMill$Streams", name := "encodeOne", desc := "(LPrefixMill$Codes;LPrefixMill$Row;ILPrefixMill$Row;)I" } : Jvm.MethodName)), (Jvm.Cond.code ({ cls := "PrefixMill$Streams", name := "encodeOne", desc := "(LPrefixMill$Codes;LPrefixMill$Row;ILPrefixMill$Row;)I" } : Jvm.MethodName) prog_7_method_6_code (4 : Nat) (Option.some Jvm.ClassFile.FieldType.int)), (Jvm.Cond.methodLink "PrefixMillLaw" (73 : Nat) ({ cls := "PrefixMill", name := "decode", desc := "(IZ)I" } : Jvm.MethodName)), (Jvm.Cond.instanceMethod ({ cls := "PrefixMill", name := "decode", desc := "(IZ)I" } : Jvm.MethodName)), (Jvm.Cond.selects "PrefixMill" ({ cls := "PrefixMill", name := "decode", desc := "(IZ)I" } : Jvm.MethodName) ({ cls := "PrefixMill", name := "decode", desc := "(IZ)I" } : Jvm.MethodName)), (Jvm.Cond.code ({ cls := "PrefixMill", name := "decode", desc := "(IZ)I" } : Jvm.MethodName) prog_1_method_15_code (4 : Nat) (Option.some Jvm.ClassFile.FieldType.int)), (Jvm.Cond.methodLink "PrefixMill" (136 : Nat) ({ cls := "PrefixMill$Streams", name := "areFour", desc := "(I)Z" } : Jvm.MethodName)), (Jvm.Cond.methodLink "PrefixMill" (139 : Nat) ({ cls := "PrefixMill$Streams", name := "decodeFour", desc := "(LPrefixMill$Codes;LPrefixMill$Row;II)I" } : Jvm.MethodName)), (Jvm.Cond.instanceMethod ({ cls := "PrefixMill$Streams", name := "decodeFour", desc := "(LPrefixMill$Codes;LPrefixMill$Row;II)I" } : Jvm.MethodName)), (Jvm.Cond.selects "PrefixMill$Streams" ({ cls := "PrefixMill$Streams", name := "decodeFour", desc := "(LPrefixMill$Codes;LPrefixMill$Row;II)I" } : Jvm.MethodName) ({ cls := "PrefixMill$Streams", name := "decodeFour", desc := "(LPrefixMill$Codes;LPrefixMill$Row;II)I" } : Jvm.MethodName)), (Jvm.Cond.code ({ cls := "PrefixMill$Streams", name := "decodeFour", desc := "(LPrefixMill$Codes;LPrefixMill$Row;II)I" } : Jvm.MethodName) prog_7_method_10_code (11 : Nat) (Option.some Jvm.ClassFile.FieldType.int)), (Jvm.Cond.methodLink "PrefixMill$Streams" (76 : Nat) ({ cls := "PrefixMill$Row", name := "bits", desc := "(II)I" } : Jvm.MethodName)), (Jvm.Cond.methodLink "PrefixMill$Streams" (72 : Nat) ({ cls := "PrefixMill$Streams", name := "takeStream", desc := "(LPrefixMill$Codes;LPrefixMill$Row;III)I" } : Jvm.MethodName)), (Jvm.Cond.instanceMethod ({ cls := "PrefixMill$Streams", name := "takeStream", desc := "(LPrefixMill$Codes;LPrefixMill$Row;III)I" } : Jvm.MethodName)), (Jvm.Cond.code ({ cls := "PrefixMill$Streams", name := "takeStream", desc := "(LPrefixMill$Codes;LPrefixMill$Row;III)I" } : Jvm.MethodName) prog_7_method_11_code (8 : Nat) (Option.some Jvm.ClassFile.FieldType.int)), (Jvm.Cond.methodLink "PrefixMill$Streams" (80 : Nat) ({ cls := "PrefixMill$Tail", name := "open", desc := "(LPrefixMill$Row;II)Z" } : Jvm.MethodName)), (Jvm.Cond.methodLink "PrefixMill$Streams" (90 : Nat) ({ cls := "PrefixMill$Tail", name := "look", desc := "(LPrefixMill$Row;I)I" } : Jvm.MethodName)), (Jvm.Cond.methodLink "PrefixMill$Streams" (94 : Nat) ({ cls := "PrefixMill$Tail", name := "drop", desc := "(I)Z" } : Jvm.MethodName)), (Jvm.Cond.methodLink "PrefixMill$Streams" (97 : Nat) ({ cls := "PrefixMill$Row", name := "add", desc := "(I)V" } : Jvm.MethodName)), (Jvm.Cond.methodLink "PrefixMill" (142 : Nat) ({ cls := "PrefixMill$Streams", name := "decodeOne", desc := "(LPrefixMill$Codes;LPrefixMill$Row;II)I" } : Jvm.MethodName)), (Jvm.Cond.instanceMethod ({ cls := "PrefixMill$Streams", name := "decodeOne", desc := "(LPrefixMill$Codes;LPrefixMill$Row;II)I" } : Jvm.MethodName)), (Jvm.Cond.selects "PrefixMill$Streams" ({ cls := "PrefixMill$Streams", name := "decodeOne", desc := "(LPrefixMill$Codes;LPrefixMill$Row;II)I" } : Jvm.MethodName) ({ cls := "PrefixMill$Streams", name := "decodeOne", desc := "(LPrefixMill$Codes;LPrefixMill$Row;II)I" } : Jvm.MethodName)), (Jvm.Cond.code ({ cls := "PrefixMill$Streams", name := "decodeOne", desc := "(LPrefixMill$Codes;LPrefixMill$Row;II)I" } : Jvm.MethodName) prog_7_method_9_code (5 : Nat) (Option.some Jvm.ClassFile.FieldType.int)), (Jvm.Cond.methodLink "PrefixMillLaw" (78 : Nat) ({ cls := "PrefixMill", name := "about", desc := "(I)I" } : Jvm.MethodName)), (Jvm.Cond.instanceMethod ({ cls := "PrefixMill", name := "about", desc := "(I)I" } : Jvm.MethodName)), (Jvm.Cond.selects "PrefixMill" ({ cls := "PrefixMill", name := "about", desc := "(I)I" } : Jvm.MethodName) ({ cls := "PrefixMill", name := "about", desc := "(I)I" } : Jvm.MethodName)), (Jvm.Cond.code ({ cls := "PrefixMill", name := "about", desc := "(I)I" } : Jvm.MethodName) prog_1_method_16_code (2 : Nat) (Option.some Jvm.ClassFile.FieldType.int)), (Jvm.Cond.methodLink "PrefixMillLaw" (82 : Nat) ({ cls := "PrefixMill", name := "code", desc := "(II)I" } : Jvm.MethodName)), (Jvm.Cond.instanceMethod ({ cls := "PrefixMill", name := "code", desc := "(II)I" } : Jvm.MethodName)), (Jvm.Cond.selects "PrefixMill" ({ cls := "PrefixMill", name := "code", desc := "(II)I" } : Jvm.MethodName) ({ cls := "PrefixMill", name := "code", desc := "(II)I" } : Jvm.MethodName)), (Jvm.Cond.code ({ cls := "PrefixMill", name := "code", desc := "(II)I" } : Jvm.MethodName) prog_1_method_17_code (3 : Nat) (Option.some Jvm.ClassFile.FieldType.int)), (Jvm.Cond.methodLink "PrefixMillLaw" (87 : Nat) ({ cls := "PrefixMill", name := "size", desc := "()I" } : Jvm.MethodName)), (Jvm.Cond.instanceMethod ({ cls := "PrefixMill", name := "size", desc := "()I" } : Jvm.MethodName)), (Jvm.Cond.selects "PrefixMill" ({ cls := "PrefixMill", name := "size", desc := "()I" } : Jvm.MethodName) ({ cls := "PrefixMill", name := "size", desc := "()I" } : Jvm.MethodName)), (Jvm.Cond.code ({ cls := "PrefixMill", name := "size", desc := "()I" } : Jvm.MethodName) prog_1_method_18_code (1 : Nat) (Option.some Jvm.ClassFile.FieldType.int)), (Jvm.Cond.methodLink "PrefixMillLaw" (91 : Nat) ({ cls := "PrefixMill", name := "byteAt", desc := "(I)I" } : Jvm.MethodName)), (Jvm.Cond.instanceMethod ({ cls := "PrefixMill", name := "byteAt", desc := "(I)I" } : Jvm.MethodName)), (Jvm.Cond.selects "PrefixMill" ({ cls := "PrefixMill", name := "byteAt", desc := "(I)I" } : Jvm.MethodName) ({ cls := "PrefixMill", name := "byteAt", desc := "(I)I" } : Jvm.MethodName)), (Jvm.Cond.code ({ cls := "PrefixMill", name := "byteAt", desc := "(I)I" } : Jvm.MethodName) prog_1_method_19_code (2 : Nat) (Option.some Jvm.ClassFile.FieldType.int)), (Jvm.Cond.classLink "PrefixMillLaw" (10 : Nat) "PrefixMillModel"), (Jvm.Cond.instantiable "PrefixMillModel" (25 : Nat)), (Jvm.Cond.methodLink "PrefixMillLaw" (12 : Nat) ({ cls := "PrefixMillModel", name := "<init>", desc := "()V" } : Jvm.MethodName)), (Jvm.Cond.instanceMethod ({ cls := "PrefixMillModel", name := "<init>", desc := "()V" } : Jvm.MethodName)), (Jvm.Cond.code ({ cls := "PrefixMillModel", name := "<init>", desc := "()V" } : Jvm.MethodName) prog_12_method_1_code (1 : Nat) (Option.none : Option Jvm.ClassFile.FieldType)), (Jvm.Cond.methodLink "PrefixMillModel" (1 : Nat) ({ cls := "java/lang/Object", name := "<init>", desc := "()V" } : Jvm.MethodName)), (Jvm.Cond.fieldLink "PrefixMillModel" (7 : Nat) "PrefixMillModel" "in" "[I"), (Jvm.Cond.fieldLink "PrefixMillModel" (56 : Nat) "PrefixMillModel" "inLong" "I"), (Jvm.Cond.fieldLink "PrefixMillModel" (65 : Nat) "PrefixMillModel" "goesOn" "I"), (Jvm.Cond.fieldLink "PrefixMillModel" (13 : Nat) "PrefixMillModel" "out" "[I"), (Jvm.Cond.fieldLink "PrefixMillModel" (62 : Nat) "PrefixMillModel" "outLong" "I"), (Jvm.Cond.fieldLink "PrefixMillModel" (16 : Nat) "PrefixMillModel" "counts" "[I"), (Jvm.Cond.fieldLink "PrefixMillModel" (69 : Nat) "PrefixMillModel" "greatest" "I"), (Jvm.Cond.fieldLink "PrefixMillModel" (19 : Nat) "PrefixMillModel" "length" "[I"), (Jvm.Cond.fieldLink "PrefixMillModel" (22 : Nat) "PrefixMillModel" "symbolOf" "[I"), (Jvm.Cond.fieldLink "PrefixMillModel" (25 : Nat) "PrefixMillModel" "draft" "[I"), (Jvm.Cond.fieldLink "PrefixMillModel" (28 : Nat) "PrefixMillModel" "knot" "[I"), (Jvm.Cond.fieldLink "PrefixMillModel" (31 : Nat) "PrefixMillModel" "inSum" "[I"), (Jvm.Cond.fieldLink "PrefixMillModel" (76 : Nat) "PrefixMillModel" "knots" "I"), (Jvm.Cond.fieldLink "PrefixMillModel" (34 : Nat) "PrefixMillModel" "halved" "[I"), (Jvm.Cond.fieldLink "PrefixMillModel" (37 : Nat) "PrefixMillModel" "made" "[I"), (Jvm.Cond.fieldLink "PrefixMillModel" (95 : Nat) "PrefixMillModel" "bitsMade" "I"), (Jvm.Cond.fieldLink "PrefixMillModel" (40 : Nat) "PrefixMillModel" "weight" "[I"), (Jvm.Cond.fieldLink "PrefixMillModel" (134 : Nat) "PrefixMillModel" "weights" "I"), (Jvm.Cond.fieldLink "PrefixMillModel" (131 : Nat) "PrefixMillModel" "order" "I"), (Jvm.Cond.fieldLink "PrefixMillModel" (43 : Nat) "PrefixMillModel" "points" "[I"), (Jvm.Cond.fieldLink "PrefixMillModel" (46 : Nat) "PrefixMillModel" "cutOff" "[I"), (Jvm.Cond.fieldLink "PrefixMillModel" (49 : Nat) "PrefixMillModel" "had" "[Z"), (Jvm.Cond.fieldLink "PrefixMillModel" (53 : Nat) "PrefixMillModel" "placeOf" "[I"), (Jvm.Cond.fieldLink "PrefixMillModel" (189 : Nat) "PrefixMillModel" "bit" "I"), (Jvm.Cond.fieldLink "PrefixMillModel" (192 : Nat) "PrefixMillModel" "bitEnd" "I"), (Jvm.Cond.laysFinal "PrefixMillModel" "PrefixMillModel" "in" "[I"), (Jvm.Cond.lays "PrefixMillModel" "PrefixMillModel" "inLong" "I"), (Jvm.Cond.lays "PrefixMillModel" "PrefixMillModel" "goesOn" "I"), (Jvm.Cond.laysFinal "PrefixMillModel" "PrefixMillModel" "out" "[I"), (Jvm.Cond.lays "PrefixMillModel" "PrefixMillModel" "outLong" "I"), (Jvm.Cond.laysFinal "PrefixMillModel" "PrefixMillModel" "counts" "[I"), (Jvm.Cond.lays "PrefixMillModel" "PrefixMillModel" "greatest" "I"), (Jvm.Cond.laysFinal "PrefixMillModel" "PrefixMillModel" "length" "[I"), (Jvm.Cond.laysFinal "PrefixMillModel" "PrefixMillModel" "symbolOf" "[I"), (Jvm.Cond.laysFinal "PrefixMillModel" "PrefixMillModel" "draft" "[I"), (Jvm.Cond.laysFinal "PrefixMillModel" "PrefixMillModel" "knot" "[I"), (Jvm.Cond.laysFinal "PrefixMillModel" "PrefixMillModel" "inSum" "[I"), (Jvm.Cond.lays "PrefixMillModel" "PrefixMillModel" "knots" "I"), (Jvm.Cond.laysFinal "PrefixMillModel" "PrefixMillModel" "halved" "[I"), (Jvm.Cond.laysFinal "PrefixMillModel" "PrefixMillModel" "made" "[I"), (Jvm.Cond.lays "PrefixMillModel" "PrefixMillModel" "bitsMade" "I"), (Jvm.Cond.laysFinal "PrefixMillModel" "PrefixMillModel" "weight" "[I"), (Jvm.Cond.lays "PrefixMillModel" "PrefixMillModel" "weights" "I"), (Jvm.Cond.lays "PrefixMillModel" "PrefixMillModel" "order" "I"), (Jvm.Cond.laysFinal "PrefixMillModel" "PrefixMillModel" "points" "[I")]
def tt_7 : List Cond := [(Jvm.Cond.laysFinal "PrefixMillModel" "PrefixMillModel" "cutOff" "[I"), (Jvm.Cond.laysFinal "PrefixMillModel" "PrefixMillModel" "had" "[Z"), (Jvm.Cond.laysFinal "PrefixMillModel" "PrefixMillModel" "placeOf" "[I"), (Jvm.Cond.lays "PrefixMillModel" "PrefixMillModel" "bit" "I"), (Jvm.Cond.lays "PrefixMillModel" "PrefixMillModel" "bitEnd" "I"), (Jvm.Cond.arrayClass Jvm.ClassFile.FieldType.boolean), (Jvm.Cond.methodLink "PrefixMillLaw" (19 : Nat) ({ cls := "PrefixMillModel", name := "write", desc := "(JI)Z" } : Jvm.MethodName)), (Jvm.Cond.instanceMethod ({ cls := "PrefixMillModel", name := "write", desc := "(JI)Z" } : Jvm.MethodName)), (Jvm.Cond.selects "PrefixMillModel" ({ cls := "PrefixMillModel", name := "write", desc := "(JI)Z" } : Jvm.MethodName) ({ cls := "PrefixMillModel", name := "write", desc := "(JI)Z" } : Jvm.MethodName)), (Jvm.Cond.code ({ cls := "PrefixMillModel", name := "write", desc := "(JI)Z" } : Jvm.MethodName) prog_12_method_2_code (5 : Nat) (Option.some Jvm.ClassFile.FieldType.boolean)), (Jvm.Cond.methodLink "PrefixMillLaw" (24 : Nat) ({ cls := "PrefixMillModel", name := "again", desc := "(II)Z" } : Jvm.MethodName)), (Jvm.Cond.instanceMethod ({ cls := "PrefixMillModel", name := "again", desc := "(II)Z" } : Jvm.MethodName)), (Jvm.Cond.selects "PrefixMillModel" ({ cls := "PrefixMillModel", name := "again", desc := "(II)Z" } : Jvm.MethodName) ({ cls := "PrefixMillModel", name := "again", desc := "(II)Z" } : Jvm.MethodName)), (Jvm.Cond.code ({ cls := "PrefixMillModel", name := "again", desc := "(II)Z" } : Jvm.MethodName) prog_12_method_3_code (5 : Nat) (Option.some Jvm.ClassFile.FieldType.boolean)), (Jvm.Cond.constantLong "PrefixMillModel" (60 : Nat) (6000 : Int64)), (Jvm.Cond.methodLink "PrefixMillLaw" (28 : Nat) ({ cls := "PrefixMillModel", name := "turn", desc := "()V" } : Jvm.MethodName)), (Jvm.Cond.instanceMethod ({ cls := "PrefixMillModel", name := "turn", desc := "()V" } : Jvm.MethodName)), (Jvm.Cond.selects "PrefixMillModel" ({ cls := "PrefixMillModel", name := "turn", desc := "()V" } : Jvm.MethodName) ({ cls := "PrefixMillModel", name := "turn", desc := "()V" } : Jvm.MethodName)), (Jvm.Cond.code ({ cls := "PrefixMillModel", name := "turn", desc := "()V" } : Jvm.MethodName) prog_12_method_4_code (2 : Nat) (Option.none : Option Jvm.ClassFile.FieldType)), (Jvm.Cond.methodLink "PrefixMillLaw" (32 : Nat) ({ cls := "PrefixMillModel", name := "clear", desc := "()V" } : Jvm.MethodName)), (Jvm.Cond.instanceMethod ({ cls := "PrefixMillModel", name := "clear", desc := "()V" } : Jvm.MethodName)), (Jvm.Cond.selects "PrefixMillModel" ({ cls := "PrefixMillModel", name := "clear", desc := "()V" } : Jvm.MethodName) ({ cls := "PrefixMillModel", name := "clear", desc := "()V" } : Jvm.MethodName)), (Jvm.Cond.code ({ cls := "PrefixMillModel", name := "clear", desc := "()V" } : Jvm.MethodName) prog_12_method_5_code (2 : Nat) (Option.none : Option Jvm.ClassFile.FieldType)), (Jvm.Cond.methodLink "PrefixMillLaw" (37 : Nat) ({ cls := "PrefixMillModel", name := "place", desc := "(I)Z" } : Jvm.MethodName)), (Jvm.Cond.instanceMethod ({ cls := "PrefixMillModel", name := "place", desc := "(I)Z" } : Jvm.MethodName)), (Jvm.Cond.selects "PrefixMillModel" ({ cls := "PrefixMillModel", name := "place", desc := "(I)Z" } : Jvm.MethodName) ({ cls := "PrefixMillModel", name := "place", desc := "(I)Z" } : Jvm.MethodName)), (Jvm.Cond.code ({ cls := "PrefixMillModel", name := "place", desc := "(I)Z" } : Jvm.MethodName) prog_12_method_6_code (2 : Nat) (Option.some Jvm.ClassFile.FieldType.boolean)), (Jvm.Cond.methodLink "PrefixMillLaw" (42 : Nat) ({ cls := "PrefixMillModel", name := "at", desc := "()I" } : Jvm.MethodName)), (Jvm.Cond.instanceMethod ({ cls := "PrefixMillModel", name := "at", desc := "()I" } : Jvm.MethodName)), (Jvm.Cond.selects "PrefixMillModel" ({ cls := "PrefixMillModel", name := "at", desc := "()I" } : Jvm.MethodName) ({ cls := "PrefixMillModel", name := "at", desc := "()I" } : Jvm.MethodName)), (Jvm.Cond.code ({ cls := "PrefixMillModel", name := "at", desc := "()I" } : Jvm.MethodName) prog_12_method_7_code (1 : Nat) (Option.some Jvm.ClassFile.FieldType.int)), (Jvm.Cond.methodLink "PrefixMillLaw" (46 : Nat) ({ cls := "PrefixMillModel", name := "count", desc := "(II)Z" } : Jvm.MethodName)), (Jvm.Cond.instanceMethod ({ cls := "PrefixMillModel", name := "count", desc := "(II)Z" } : Jvm.MethodName)), (Jvm.Cond.selects "PrefixMillModel" ({ cls := "PrefixMillModel", name := "count", desc := "(II)Z" } : Jvm.MethodName) ({ cls := "PrefixMillModel", name := "count", desc := "(II)Z" } : Jvm.MethodName)), (Jvm.Cond.code ({ cls := "PrefixMillModel", name := "count", desc := "(II)Z" } : Jvm.MethodName) prog_12_method_8_code (3 : Nat) (Option.some Jvm.ClassFile.FieldType.boolean)), (Jvm.Cond.constant "PrefixMillModel" (68 : Nat) (65535 : Int32)), (Jvm.Cond.methodLink "PrefixMillLaw" (50 : Nat) ({ cls := "PrefixMillModel", name := "countAll", desc := "()I" } : Jvm.MethodName)), (Jvm.Cond.instanceMethod ({ cls := "PrefixMillModel", name := "countAll", desc := "()I" } : Jvm.MethodName)), (Jvm.Cond.selects "PrefixMillModel" ({ cls := "PrefixMillModel", name := "countAll", desc := "()I" } : Jvm.MethodName) ({ cls := "PrefixMillModel", name := "countAll", desc := "()I" } : Jvm.MethodName)), (Jvm.Cond.code ({ cls := "PrefixMillModel", name := "countAll", desc := "()I" } : Jvm.MethodName) prog_12_method_9_code (2 : Nat) (Option.some Jvm.ClassFile.FieldType.int)), (Jvm.Cond.methodLink "PrefixMillLaw" (55 : Nat) ({ cls := "PrefixMillModel", name := "lengths", desc := "(I)I" } : Jvm.MethodName)), (Jvm.Cond.instanceMethod ({ cls := "PrefixMillModel", name := "lengths", desc := "(I)I" } : Jvm.MethodName)), (Jvm.Cond.selects "PrefixMillModel" ({ cls := "PrefixMillModel", name := "lengths", desc := "(I)I" } : Jvm.MethodName) ({ cls := "PrefixMillModel", name := "lengths", desc := "(I)I" } : Jvm.MethodName)), (Jvm.Cond.code ({ cls := "PrefixMillModel", name := "lengths", desc := "(I)I" } : Jvm.MethodName) prog_12_method_15_code (5 : Nat) (Option.some Jvm.ClassFile.FieldType.int)), (Jvm.Cond.methodLink "PrefixMillModel" (82 : Nat) ({ cls := "PrefixMillModel", name := "sums", desc := "()V" } : Jvm.MethodName)), (Jvm.Cond.instanceMethod ({ cls := "PrefixMillModel", name := "sums", desc := "()V" } : Jvm.MethodName)), (Jvm.Cond.code ({ cls := "PrefixMillModel", name := "sums", desc := "()V" } : Jvm.MethodName) prog_12_method_14_code (5 : Nat) (Option.none : Option Jvm.ClassFile.FieldType)), (Jvm.Cond.methodLink "PrefixMillModel" (79 : Nat) ({ cls := "PrefixMillModel", name := "least", desc := "(I)I" } : Jvm.MethodName)), (Jvm.Cond.instanceMethod ({ cls := "PrefixMillModel", name := "least", desc := "(I)I" } : Jvm.MethodName)), (Jvm.Cond.code ({ cls := "PrefixMillModel", name := "least", desc := "(I)I" } : Jvm.MethodName) prog_12_method_13_code (4 : Nat) (Option.some Jvm.ClassFile.FieldType.int)), (Jvm.Cond.methodLink "PrefixMillModel" (85 : Nat) ({ cls := "PrefixMillModel", name := "longestDraft", desc := "()I" } : Jvm.MethodName)), (Jvm.Cond.instanceMethod ({ cls := "PrefixMillModel", name := "longestDraft", desc := "()I" } : Jvm.MethodName)), (Jvm.Cond.code ({ cls := "PrefixMillModel", name := "longestDraft", desc := "()I" } : Jvm.MethodName) prog_12_method_12_code (3 : Nat) (Option.some Jvm.ClassFile.FieldType.int)), (Jvm.Cond.methodLink "PrefixMillModel" (89 : Nat) ({ cls := "PrefixMillModel", name := "settle", desc := "(I)I" } : Jvm.MethodName)), (Jvm.Cond.instanceMethod ({ cls := "PrefixMillModel", name := "settle", desc := "(I)I" } : Jvm.MethodName)), (Jvm.Cond.code ({ cls := "PrefixMillModel", name := "settle", desc := "(I)I" } : Jvm.MethodName) prog_12_method_11_code (6 : Nat) (Option.some Jvm.ClassFile.FieldType.int)), (Jvm.Cond.methodLink "PrefixMillModel" (72 : Nat) ({ cls := "PrefixMillModel", name := "weightOf", desc := "(I)I" } : Jvm.MethodName)), (Jvm.Cond.instanceMethod ({ cls := "PrefixMillModel", name := "weightOf", desc := "(I)I" } : Jvm.MethodName)), (Jvm.Cond.code ({ cls := "PrefixMillModel", name := "weightOf", desc := "(I)I" } : Jvm.MethodName) prog_12_method_10_code (2 : Nat) (Option.some Jvm.ClassFile.FieldType.int)), (Jvm.Cond.methodLink "PrefixMillLaw" (59 : Nat) ({ cls := "PrefixMillModel", name := "just", desc := "()I" } : Jvm.MethodName)), (Jvm.Cond.instanceMethod ({ cls := "PrefixMillModel", name := "just", desc := "()I" } : Jvm.MethodName)), (Jvm.Cond.selects "PrefixMillModel" ({ cls := "PrefixMillModel", name := "just", desc := "()I" } : Jvm.MethodName) ({ cls := "PrefixMillModel", name := "just", desc := "()I" } : Jvm.MethodName)), (Jvm.Cond.code ({ cls := "PrefixMillModel", name := "just", desc := "()I" } : Jvm.MethodName) prog_12_method_16_code (5 : Nat) (Option.some Jvm.ClassFile.FieldType.int)), (Jvm.Cond.methodLink "PrefixMillLaw" (81 : Nat) ({ cls := "PrefixMillModel", name := "about", desc := "(I)I" } : Jvm.MethodName)), (Jvm.Cond.instanceMethod ({ cls := "PrefixMillModel", name := "about", desc := "(I)I" } : Jvm.MethodName)), (Jvm.Cond.selects "PrefixMillModel" ({ cls := "PrefixMillModel", name := "about", desc := "(I)I" } : Jvm.MethodName) ({ cls := "PrefixMillModel", name := "about", desc := "(I)I" } : Jvm.MethodName)), (Jvm.Cond.code ({ cls := "PrefixMillModel", name := "about", desc := "(I)I" } : Jvm.MethodName) prog_12_method_18_code (4 : Nat) (Option.some Jvm.ClassFile.FieldType.int)), (Jvm.Cond.methodLink "PrefixMillLaw" (86 : Nat) ({ cls := "PrefixMillModel", name := "code", desc := "(II)I" } : Jvm.MethodName)), (Jvm.Cond.instanceMethod ({ cls := "PrefixMillModel", name := "code", desc := "(II)I" } : Jvm.MethodName)), (Jvm.Cond.selects "PrefixMillModel" ({ cls := "PrefixMillModel", name := "code", desc := "(II)I" } : Jvm.MethodName) ({ cls := "PrefixMillModel", name := "code", desc := "(II)I" } : Jvm.MethodName)), (Jvm.Cond.code ({ cls := "PrefixMillModel", name := "code", desc := "(II)I" } : Jvm.MethodName) prog_12_method_19_code (3 : Nat) (Option.some Jvm.ClassFile.FieldType.int)), (Jvm.Cond.methodLink "PrefixMillModel" (92 : Nat) ({ cls := "PrefixMillModel", name := "codeOf", desc := "(I)I" } : Jvm.MethodName)), (Jvm.Cond.instanceMethod ({ cls := "PrefixMillModel", name := "codeOf", desc := "(I)I" } : Jvm.MethodName)), (Jvm.Cond.code ({ cls := "PrefixMillModel", name := "codeOf", desc := "(I)I" } : Jvm.MethodName) prog_12_method_17_code (3 : Nat) (Option.some Jvm.ClassFile.FieldType.int)), (Jvm.Cond.methodLink "PrefixMillLaw" (72 : Nat) ({ cls := "PrefixMillModel", name := "encode", desc := "(Z)I" } : Jvm.MethodName)), (Jvm.Cond.instanceMethod ({ cls := "PrefixMillModel", name := "encode", desc := "(Z)I" } : Jvm.MethodName)), (Jvm.Cond.selects "PrefixMillModel" ({ cls := "PrefixMillModel", name := "encode", desc := "(Z)I" } : Jvm.MethodName) ({ cls := "PrefixMillModel", name := "encode", desc := "(Z)I" } : Jvm.MethodName)), (Jvm.Cond.code ({ cls := "PrefixMillModel", name := "encode", desc := "(Z)I" } : Jvm.MethodName) prog_12_method_26_code (7 : Nat) (Option.some Jvm.ClassFile.FieldType.int)), (Jvm.Cond.methodLink "PrefixMillModel" (105 : Nat) ({ cls := "PrefixMillModel", name := "streamBytes", desc := "(II)I" } : Jvm.MethodName)), (Jvm.Cond.instanceMethod ({ cls := "PrefixMillModel", name := "streamBytes", desc := "(II)I" } : Jvm.MethodName)), (Jvm.Cond.code ({ cls := "PrefixMillModel", name := "streamBytes", desc := "(II)I" } : Jvm.MethodName) prog_12_method_24_code (5 : Nat) (Option.some Jvm.ClassFile.FieldType.int)), (Jvm.Cond.methodLink "PrefixMillModel" (109 : Nat) ({ cls := "PrefixMillModel", name := "begin", desc := "()V" } : Jvm.MethodName)), (Jvm.Cond.instanceMethod ({ cls := "PrefixMillModel", name := "begin", desc := "()V" } : Jvm.MethodName)), (Jvm.Cond.code ({ cls := "PrefixMillModel", name := "begin", desc := "()V" } : Jvm.MethodName) prog_12_method_20_code (2 : Nat) (Option.none : Option Jvm.ClassFile.FieldType)), (Jvm.Cond.methodLink "PrefixMillModel" (98 : Nat) ({ cls := "PrefixMillModel", name := "put", desc := "(II)V" } : Jvm.MethodName)), (Jvm.Cond.instanceMethod ({ cls := "PrefixMillModel", name := "put", desc := "(II)V" } : Jvm.MethodName)), (Jvm.Cond.code ({ cls := "PrefixMillModel", name := "put", desc := "(II)V" } : Jvm.MethodName) prog_12_method_21_code (4 : Nat) (Option.none : Option Jvm.ClassFile.FieldType)), (Jvm.Cond.methodLink "PrefixMillModel" (112 : Nat) ({ cls := "PrefixMillModel", name := "putStream", desc := "(II)V" } : Jvm.MethodName)), (Jvm.Cond.instanceMethod ({ cls := "PrefixMillModel", name := "putStream", desc := "(II)V" } : Jvm.MethodName)), (Jvm.Cond.code ({ cls := "PrefixMillModel", name := "putStream", desc := "(II)V" } : Jvm.MethodName) prog_12_method_25_code (4 : Nat) (Option.none : Option Jvm.ClassFile.FieldType)), (Jvm.Cond.methodLink "PrefixMillModel" (102 : Nat) ({ cls := "PrefixMillModel", name := "fill", desc := "()V" } : Jvm.MethodName)), (Jvm.Cond.instanceMethod ({ cls := "PrefixMillModel", name := "fill", desc := "()V" } : Jvm.MethodName)), (Jvm.Cond.code ({ cls := "PrefixMillModel", name := "fill", desc := "()V" } : Jvm.MethodName) prog_12_method_22_code (1 : Nat) (Option.none : Option Jvm.ClassFile.FieldType)), (Jvm.Cond.methodLink "PrefixMillModel" (115 : Nat) ({ cls := "PrefixMillModel", name := "give", desc := "()I" } : Jvm.MethodName)), (Jvm.Cond.instanceMethod ({ cls := "PrefixMillModel", name := "give", desc := "()I" } : Jvm.MethodName)), (Jvm.Cond.code ({ cls := "PrefixMillModel", name := "give", desc := "()I" } : Jvm.MethodName) prog_12_method_23_code (2 : Nat) (Option.some Jvm.ClassFile.FieldType.int)), (Jvm.Cond.methodLink "PrefixMillLaw" (77 : Nat) ({ cls := "PrefixMillModel", name := "decode", desc := "(IZ)I" } : Jvm.MethodName)), (Jvm.Cond.instanceMethod ({ cls := "PrefixMillModel", name := "decode", desc := "(IZ)I" } : Jvm.MethodName)), (Jvm.Cond.selects "PrefixMillModel" ({ cls := "PrefixMillModel", name := "decode", desc := "(IZ)I" } : Jvm.MethodName) ({ cls := "PrefixMillModel", name := "decode", desc := "(IZ)I" } : Jvm.MethodName)), (Jvm.Cond.code ({ cls := "PrefixMillModel", name := "decode", desc := "(IZ)I" } : Jvm.MethodName) prog_12_method_30_code (6 : Nat) (Option.some Jvm.ClassFile.FieldType.int))]
def tt_8 : List Cond := [(Jvm.Cond.methodLink "PrefixMillModel" (125 : Nat) ({ cls := "PrefixMillModel", name := "takeFour", desc := "(II)I" } : Jvm.MethodName)), (Jvm.Cond.instanceMethod ({ cls := "PrefixMillModel", name := "takeFour", desc := "(II)I" } : Jvm.MethodName)), (Jvm.Cond.code ({ cls := "PrefixMillModel", name := "takeFour", desc := "(II)I" } : Jvm.MethodName) prog_12_method_29_code (8 : Nat) (Option.some Jvm.ClassFile.FieldType.int)), (Jvm.Cond.methodLink "PrefixMillModel" (121 : Nat) ({ cls := "PrefixMillModel", name := "takeStream", desc := "(IIII)I" } : Jvm.MethodName)), (Jvm.Cond.instanceMethod ({ cls := "PrefixMillModel", name := "takeStream", desc := "(IIII)I" } : Jvm.MethodName)), (Jvm.Cond.code ({ cls := "PrefixMillModel", name := "takeStream", desc := "(IIII)I" } : Jvm.MethodName) prog_12_method_28_code (10 : Nat) (Option.some Jvm.ClassFile.FieldType.int)), (Jvm.Cond.methodLink "PrefixMillModel" (118 : Nat) ({ cls := "PrefixMillModel", name := "bitAt", desc := "(I)I" } : Jvm.MethodName)), (Jvm.Cond.instanceMethod ({ cls := "PrefixMillModel", name := "bitAt", desc := "(I)I" } : Jvm.MethodName)), (Jvm.Cond.code ({ cls := "PrefixMillModel", name := "bitAt", desc := "(I)I" } : Jvm.MethodName) prog_12_method_27_code (2 : Nat) (Option.some Jvm.ClassFile.FieldType.int)), (Jvm.Cond.methodLink "PrefixMillLaw" (63 : Nat) ({ cls := "PrefixMillModel", name := "describe", desc := "()I" } : Jvm.MethodName)), (Jvm.Cond.instanceMethod ({ cls := "PrefixMillModel", name := "describe", desc := "()I" } : Jvm.MethodName)), (Jvm.Cond.selects "PrefixMillModel" ({ cls := "PrefixMillModel", name := "describe", desc := "()I" } : Jvm.MethodName) ({ cls := "PrefixMillModel", name := "describe", desc := "()I" } : Jvm.MethodName)), (Jvm.Cond.code ({ cls := "PrefixMillModel", name := "describe", desc := "()I" } : Jvm.MethodName) prog_12_method_49_code (6 : Nat) (Option.some Jvm.ClassFile.FieldType.int)), (Jvm.Cond.methodLink "PrefixMillModel" (180 : Nat) ({ cls := "PrefixMillModel", name := "different", desc := "()I" } : Jvm.MethodName)), (Jvm.Cond.instanceMethod ({ cls := "PrefixMillModel", name := "different", desc := "()I" } : Jvm.MethodName)), (Jvm.Cond.code ({ cls := "PrefixMillModel", name := "different", desc := "()I" } : Jvm.MethodName) prog_12_method_48_code (3 : Nat) (Option.some Jvm.ClassFile.FieldType.int)), (Jvm.Cond.methodLink "PrefixMillModel" (137 : Nat) ({ cls := "PrefixMillModel", name := "countOf", desc := "(I)I" } : Jvm.MethodName)), (Jvm.Cond.instanceMethod ({ cls := "PrefixMillModel", name := "countOf", desc := "(I)I" } : Jvm.MethodName)), (Jvm.Cond.code ({ cls := "PrefixMillModel", name := "countOf", desc := "(I)I" } : Jvm.MethodName) prog_12_method_33_code (4 : Nat) (Option.some Jvm.ClassFile.FieldType.int)), (Jvm.Cond.methodLink "PrefixMillModel" (183 : Nat) ({ cls := "PrefixMillModel", name := "putStates", desc := "(I)I" } : Jvm.MethodName)), (Jvm.Cond.instanceMethod ({ cls := "PrefixMillModel", name := "putStates", desc := "(I)I" } : Jvm.MethodName)), (Jvm.Cond.code ({ cls := "PrefixMillModel", name := "putStates", desc := "(I)I" } : Jvm.MethodName) prog_12_method_46_code (2 : Nat) (Option.some Jvm.ClassFile.FieldType.int)), (Jvm.Cond.methodLink "PrefixMillModel" (170 : Nat) ({ cls := "PrefixMillModel", name := "shareByCounts", desc := "(I)V" } : Jvm.MethodName)), (Jvm.Cond.instanceMethod ({ cls := "PrefixMillModel", name := "shareByCounts", desc := "(I)V" } : Jvm.MethodName)), (Jvm.Cond.code ({ cls := "PrefixMillModel", name := "shareByCounts", desc := "(I)V" } : Jvm.MethodName) prog_12_method_36_code (4 : Nat) (Option.none : Option Jvm.ClassFile.FieldType)), (Jvm.Cond.methodLink "PrefixMillModel" (140 : Nat) ({ cls := "PrefixMillModel", name := "newRound", desc := "()V" } : Jvm.MethodName)), (Jvm.Cond.instanceMethod ({ cls := "PrefixMillModel", name := "newRound", desc := "()V" } : Jvm.MethodName)), (Jvm.Cond.code ({ cls := "PrefixMillModel", name := "newRound", desc := "()V" } : Jvm.MethodName) prog_12_method_35_code (2 : Nat) (Option.none : Option Jvm.ClassFile.FieldType)), (Jvm.Cond.methodLink "PrefixMillModel" (143 : Nat) ({ cls := "PrefixMillModel", name := "lacking", desc := "()I" } : Jvm.MethodName)), (Jvm.Cond.instanceMethod ({ cls := "PrefixMillModel", name := "lacking", desc := "()I" } : Jvm.MethodName)), (Jvm.Cond.code ({ cls := "PrefixMillModel", name := "lacking", desc := "()I" } : Jvm.MethodName) prog_12_method_32_code (3 : Nat) (Option.some Jvm.ClassFile.FieldType.int)), (Jvm.Cond.methodLink "PrefixMillModel" (128 : Nat) ({ cls := "PrefixMillModel", name := "mass", desc := "(I)I" } : Jvm.MethodName)), (Jvm.Cond.static ({ cls := "PrefixMillModel", name := "mass", desc := "(I)I" } : Jvm.MethodName)), (Jvm.Cond.code ({ cls := "PrefixMillModel", name := "mass", desc := "(I)I" } : Jvm.MethodName) prog_12_method_31_code (1 : Nat) (Option.some Jvm.ClassFile.FieldType.int)), (Jvm.Cond.methodLink "PrefixMillModel" (146 : Nat) ({ cls := "PrefixMillModel", name := "nextToGet", desc := "()I" } : Jvm.MethodName)), (Jvm.Cond.instanceMethod ({ cls := "PrefixMillModel", name := "nextToGet", desc := "()I" } : Jvm.MethodName)), (Jvm.Cond.code ({ cls := "PrefixMillModel", name := "nextToGet", desc := "()I" } : Jvm.MethodName) prog_12_method_34_code (3 : Nat) (Option.some Jvm.ClassFile.FieldType.int)), (Jvm.Cond.methodLink "PrefixMillModel" (149 : Nat) ({ cls := "PrefixMillModel", name := "givePlaces", desc := "()V" } : Jvm.MethodName)), (Jvm.Cond.instanceMethod ({ cls := "PrefixMillModel", name := "givePlaces", desc := "()V" } : Jvm.MethodName)), (Jvm.Cond.code ({ cls := "PrefixMillModel", name := "givePlaces", desc := "()V" } : Jvm.MethodName) prog_12_method_37_code (7 : Nat) (Option.none : Option Jvm.ClassFile.FieldType)), (Jvm.Cond.methodLink "PrefixMillModel" (174 : Nat) ({ cls := "PrefixMillModel", name := "putShare", desc := "()V" } : Jvm.MethodName)), (Jvm.Cond.instanceMethod ({ cls := "PrefixMillModel", name := "putShare", desc := "()V" } : Jvm.MethodName)), (Jvm.Cond.code ({ cls := "PrefixMillModel", name := "putShare", desc := "()V" } : Jvm.MethodName) prog_12_method_42_code (9 : Nat) (Option.none : Option Jvm.ClassFile.FieldType)), (Jvm.Cond.methodLink "PrefixMillModel" (158 : Nat) ({ cls := "PrefixMillModel", name := "bitsFor", desc := "(I)I" } : Jvm.MethodName)), (Jvm.Cond.static ({ cls := "PrefixMillModel", name := "bitsFor", desc := "(I)I" } : Jvm.MethodName)), (Jvm.Cond.code ({ cls := "PrefixMillModel", name := "bitsFor", desc := "(I)I" } : Jvm.MethodName) prog_12_method_41_code (2 : Nat) (Option.some Jvm.ClassFile.FieldType.int)), (Jvm.Cond.methodLink "PrefixMillModel" (177 : Nat) ({ cls := "PrefixMillModel", name := "putRow", desc := "()V" } : Jvm.MethodName)), (Jvm.Cond.instanceMethod ({ cls := "PrefixMillModel", name := "putRow", desc := "()V" } : Jvm.MethodName)), (Jvm.Cond.code ({ cls := "PrefixMillModel", name := "putRow", desc := "()V" } : Jvm.MethodName) prog_12_method_45_code (5 : Nat) (Option.none : Option Jvm.ClassFile.FieldType)), (Jvm.Cond.methodLink "PrefixMillModel" (164 : Nat) ({ cls := "PrefixMillModel", name := "lowest", desc := "(I)I" } : Jvm.MethodName)), (Jvm.Cond.instanceMethod ({ cls := "PrefixMillModel", name := "lowest", desc := "(I)I" } : Jvm.MethodName)), (Jvm.Cond.code ({ cls := "PrefixMillModel", name := "lowest", desc := "(I)I" } : Jvm.MethodName) prog_12_method_43_code (3 : Nat) (Option.some Jvm.ClassFile.FieldType.int)), (Jvm.Cond.methodLink "PrefixMillModel" (155 : Nat) ({ cls := "PrefixMillModel", name := "bitsOf", desc := "(I)I" } : Jvm.MethodName)), (Jvm.Cond.instanceMethod ({ cls := "PrefixMillModel", name := "bitsOf", desc := "(I)I" } : Jvm.MethodName)), (Jvm.Cond.code ({ cls := "PrefixMillModel", name := "bitsOf", desc := "(I)I" } : Jvm.MethodName) prog_12_method_39_code (3 : Nat) (Option.some Jvm.ClassFile.FieldType.int)), (Jvm.Cond.methodLink "PrefixMillModel" (152 : Nat) ({ cls := "PrefixMillModel", name := "numberOf", desc := "(I)I" } : Jvm.MethodName)), (Jvm.Cond.instanceMethod ({ cls := "PrefixMillModel", name := "numberOf", desc := "(I)I" } : Jvm.MethodName)), (Jvm.Cond.code ({ cls := "PrefixMillModel", name := "numberOf", desc := "(I)I" } : Jvm.MethodName) prog_12_method_38_code (4 : Nat) (Option.some Jvm.ClassFile.FieldType.int)), (Jvm.Cond.methodLink "PrefixMillModel" (167 : Nat) ({ cls := "PrefixMillModel", name := "placeFor", desc := "(II)I" } : Jvm.MethodName)), (Jvm.Cond.instanceMethod ({ cls := "PrefixMillModel", name := "placeFor", desc := "(II)I" } : Jvm.MethodName)), (Jvm.Cond.code ({ cls := "PrefixMillModel", name := "placeFor", desc := "(II)I" } : Jvm.MethodName) prog_12_method_44_code (4 : Nat) (Option.some Jvm.ClassFile.FieldType.int)), (Jvm.Cond.methodLink "PrefixMillModel" (161 : Nat) ({ cls := "PrefixMillModel", name := "baseOf", desc := "(I)I" } : Jvm.MethodName)), (Jvm.Cond.instanceMethod ({ cls := "PrefixMillModel", name := "baseOf", desc := "(I)I" } : Jvm.MethodName)), (Jvm.Cond.code ({ cls := "PrefixMillModel", name := "baseOf", desc := "(I)I" } : Jvm.MethodName) prog_12_method_40_code (2 : Nat) (Option.some Jvm.ClassFile.FieldType.int)), (Jvm.Cond.methodLink "PrefixMillModel" (186 : Nat) ({ cls := "PrefixMillModel", name := "putDirect", desc := "()V" } : Jvm.MethodName)), (Jvm.Cond.instanceMethod ({ cls := "PrefixMillModel", name := "putDirect", desc := "()V" } : Jvm.MethodName)), (Jvm.Cond.code ({ cls := "PrefixMillModel", name := "putDirect", desc := "()V" } : Jvm.MethodName) prog_12_method_47_code (2 : Nat) (Option.none : Option Jvm.ClassFile.FieldType)), (Jvm.Cond.methodLink "PrefixMillLaw" (67 : Nat) ({ cls := "PrefixMillModel", name := "read", desc := "()I" } : Jvm.MethodName)), (Jvm.Cond.instanceMethod ({ cls := "PrefixMillModel", name := "read", desc := "()I" } : Jvm.MethodName)), (Jvm.Cond.selects "PrefixMillModel" ({ cls := "PrefixMillModel", name := "read", desc := "()I" } : Jvm.MethodName) ({ cls := "PrefixMillModel", name := "read", desc := "()I" } : Jvm.MethodName)), (Jvm.Cond.code ({ cls := "PrefixMillModel", name := "read", desc := "()I" } : Jvm.MethodName) prog_12_method_57_code (8 : Nat) (Option.some Jvm.ClassFile.FieldType.int)), (Jvm.Cond.methodLink "PrefixMillModel" (215 : Nat) ({ cls := "PrefixMillModel", name := "takeWeights", desc := "()I" } : Jvm.MethodName)), (Jvm.Cond.instanceMethod ({ cls := "PrefixMillModel", name := "takeWeights", desc := "()I" } : Jvm.MethodName)), (Jvm.Cond.code ({ cls := "PrefixMillModel", name := "takeWeights", desc := "()I" } : Jvm.MethodName) prog_12_method_56_code (5 : Nat) (Option.some Jvm.ClassFile.FieldType.int)), (Jvm.Cond.methodLink "PrefixMillModel" (204 : Nat) ({ cls := "PrefixMillModel", name := "putWeight", desc := "(I)Z" } : Jvm.MethodName)), (Jvm.Cond.instanceMethod ({ cls := "PrefixMillModel", name := "putWeight", desc := "(I)Z" } : Jvm.MethodName)), (Jvm.Cond.code ({ cls := "PrefixMillModel", name := "putWeight", desc := "(I)Z" } : Jvm.MethodName) prog_12_method_53_code (2 : Nat) (Option.some Jvm.ClassFile.FieldType.boolean)), (Jvm.Cond.methodLink "PrefixMillModel" (208 : Nat) ({ cls := "PrefixMillModel", name := "takeShare", desc := "()Z" } : Jvm.MethodName)), (Jvm.Cond.instanceMethod ({ cls := "PrefixMillModel", name := "takeShare", desc := "()Z" } : Jvm.MethodName)), (Jvm.Cond.code ({ cls := "PrefixMillModel", name := "takeShare", desc := "()Z" } : Jvm.MethodName) prog_12_method_52_code (6 : Nat) (Option.some Jvm.ClassFile.FieldType.boolean)), (Jvm.Cond.methodLink "PrefixMillModel" (195 : Nat) ({ cls := "PrefixMillModel", name := "take", desc := "(I)I" } : Jvm.MethodName)), (Jvm.Cond.instanceMethod ({ cls := "PrefixMillModel", name := "take", desc := "(I)I" } : Jvm.MethodName)), (Jvm.Cond.code ({ cls := "PrefixMillModel", name := "take", desc := "(I)I" } : Jvm.MethodName) prog_12_method_50_code (4 : Nat) (Option.some Jvm.ClassFile.FieldType.int)), (Jvm.Cond.methodLink "PrefixMillModel" (198 : Nat) ({ cls := "PrefixMillModel", name := "takeNumber", desc := "(I)I" } : Jvm.MethodName)), (Jvm.Cond.instanceMethod ({ cls := "PrefixMillModel", name := "takeNumber", desc := "(I)I" } : Jvm.MethodName)), (Jvm.Cond.code ({ cls := "PrefixMillModel", name := "takeNumber", desc := "(I)I" } : Jvm.MethodName) prog_12_method_51_code (7 : Nat) (Option.some Jvm.ClassFile.FieldType.int)), (Jvm.Cond.methodLink "PrefixMillModel" (212 : Nat) ({ cls := "PrefixMillModel", name := "takeRow", desc := "()Z" } : Jvm.MethodName)), (Jvm.Cond.instanceMethod ({ cls := "PrefixMillModel", name := "takeRow", desc := "()Z" } : Jvm.MethodName)), (Jvm.Cond.code ({ cls := "PrefixMillModel", name := "takeRow", desc := "()Z" } : Jvm.MethodName) prog_12_method_55_code (6 : Nat) (Option.some Jvm.ClassFile.FieldType.boolean)), (Jvm.Cond.methodLink "PrefixMillModel" (201 : Nat) ({ cls := "PrefixMillModel", name := "takeDown", desc := "(I)I" } : Jvm.MethodName)), (Jvm.Cond.instanceMethod ({ cls := "PrefixMillModel", name := "takeDown", desc := "(I)I" } : Jvm.MethodName)), (Jvm.Cond.code ({ cls := "PrefixMillModel", name := "takeDown", desc := "(I)I" } : Jvm.MethodName) prog_12_method_54_code (4 : Nat) (Option.some Jvm.ClassFile.FieldType.int)), (Jvm.Cond.methodLink "PrefixMillLaw" (90 : Nat) ({ cls := "PrefixMillModel", name := "size", desc := "()I" } : Jvm.MethodName)), (Jvm.Cond.instanceMethod ({ cls := "PrefixMillModel", name := "size", desc := "()I" } : Jvm.MethodName)), (Jvm.Cond.selects "PrefixMillModel" ({ cls := "PrefixMillModel", name := "size", desc := "()I" } : Jvm.MethodName) ({ cls := "PrefixMillModel", name := "size", desc := "()I" } : Jvm.MethodName)), (Jvm.Cond.code ({ cls := "PrefixMillModel", name := "size", desc := "()I" } : Jvm.MethodName) prog_12_method_58_code (1 : Nat) (Option.some Jvm.ClassFile.FieldType.int)), (Jvm.Cond.methodLink "PrefixMillLaw" (94 : Nat) ({ cls := "PrefixMillModel", name := "byteAt", desc := "(I)I" } : Jvm.MethodName)), (Jvm.Cond.instanceMethod ({ cls := "PrefixMillModel", name := "byteAt", desc := "(I)I" } : Jvm.MethodName)), (Jvm.Cond.selects "PrefixMillModel" ({ cls := "PrefixMillModel", name := "byteAt", desc := "(I)I" } : Jvm.MethodName) ({ cls := "PrefixMillModel", name := "byteAt", desc := "(I)I" } : Jvm.MethodName)), (Jvm.Cond.code ({ cls := "PrefixMillModel", name := "byteAt", desc := "(I)I" } : Jvm.MethodName) prog_12_method_59_code (2 : Nat) (Option.some Jvm.ClassFile.FieldType.int))]
def tt_9 : List Cond := [(Jvm.Cond.constantLong "PrefixMillLaw" (13 : Nat) (4294967295 : Int64))]
def tt : List Cond := tt_0 ++ (tt_1 ++ (tt_2 ++ (tt_3 ++ (tt_4 ++ (tt_5 ++ (tt_6 ++ (tt_7 ++ (tt_8 ++ (tt_9)))))))))
set_option maxRecDepth 100000 in
theorem tt_in : ∀ w ∈ tt, w ∈ lw_tbl := by
  have h : tt = ([0, 1, 2, 3, 4, 5, 6, 7, 8, 9, 10, 11, 12, 13, 14, 15, 16, 17, 18, 19, 20, 21, 22, 23, 24, 25, 26, 27, 28, 29, 30, 31, 32, 33, 34, 35, 36, 37, 38, 39, 40, 41, 42, 43, 44, 45, 46, 47, 48, 49, 50, 51, 52, 53, 54, 55, 56, 57, 58, 59, 60, 61, 62, 63, 64, 66, 67, 68, 69, 70, 71, 72, 73, 74, 75, 76, 77, 78, 79, 80, 81, 82, 83, 84, 85, 86, 87, 88, 89, 90, 91, 92, 93, 94, 95, 96, 97, 98, 99, 100, 101, 102, 103, 105, 107, 109, 111, 114, 115, 116, 117, 118, 119, 120, 121, 122, 123, 124, 125, 126, 127, 128, 129, 130, 131, 132, 133, 134, 135, 136, 138, 140, 142, 144, 146, 149, 150, 151, 152, 153, 154, 155, 156, 157, 158, 159, 160, 161, 162, 163, 164, 165, 166, 167, 168, 170, 172, 174, 176, 178, 180, 182, 184, 186, 188, 191, 192, 193, 194, 195, 196, 197, 198, 199, 200, 201, 202, 203, 204, 205, 206, 207, 208, 209, 210, 211, 212, 213, 214, 215, 216, 217, 218, 219, 220, 221, 222, 223, 224, 225, 226, 227, 228, 229, 231, 233, 235, 237, 239, 241, 243, 245, 247, 249, 251, 254, 255, 256, 257, 258, 260, 262, 265, 266, 267, 268, 269, 271, 273, 275, 278, 279, 280, 281, 282, 283, 284, 285, 286, 287, 288, 289, 290, 291, 292, 293, 294, 296, 299, 300, 301, 302, 303, 304, 305, 306, 307, 308, 309, 311, 313, 315, 317, 319, 322, 323, 324, 325, 326, 327, 328, 329, 330, 331, 332, 333, 334, 335, 337, 340, 341, 342, 343, 344, 345, 346, 347, 348, 349, 351, 353, 355, 357, 359, 361, 363, 365, 368, 369, 370, 371, 372, 373, 374, 375, 376, 377, 378, 379, 380, 381, 382, 383, 384, 385, 386, 387, 388, 389, 390, 391, 392, 393, 394, 395, 396, 397, 398, 399, 400, 401, 402, 403, 404, 405, 406, 407, 408, 409, 410, 411, 412, 413, 414, 415, 416, 417, 418, 419, 420, 421, 422, 423, 424, 425, 426, 427, 428, 429, 430, 431, 432, 433, 434, 435, 436, 437, 438, 439, 440, 441, 442, 443, 445, 446, 447, 449, 450, 451, 452, 454, 455, 456, 458, 459, 460, 462, 463, 464, 465, 466, 467, 468, 469, 470, 472, 473, 474, 475, 476, 477, 478, 479, 481, 482, 483, 485, 486, 487, 488, 489, 490, 491, 492, 493, 494, 495, 496, 497, 498, 499, 500, 501, 502, 503, 504, 505, 506, 507, 508, 510, 511, 512, 513, 514, 515, 516, 517, 518, 519, 520, 521, 522, 523, 524, 525, 526, 527, 529, 530, 531, 533, 534, 535, 536, 537, 538, 540, 541, 542, 544, 545, 546, 548, 549, 550, 552, 553, 554, 556, 557, 558, 560, 561, 562, 564, 565, 566, 567, 568, 569, 570, 571, 572, 573, 574, 575, 576, 577, 578, 579, 580, 581, 583, 584, 585, 586, 587, 588, 589, 590, 591, 592, 593, 594, 595, 596, 597, 598, 599, 600, 601, 602, 603, 604, 605, 607, 608, 609, 610, 611, 612, 613, 614, 615, 616, 617, 618, 619, 620, 621, 622, 623, 625, 626, 627, 628, 629, 630, 631, 632, 634, 635, 636, 637, 638, 639, 640, 641, 642, 644, 645, 646, 648, 649, 650, 652, 653, 654, 655, 656, 657, 658, 659, 660, 661, 662, 663, 664, 665, 666, 667, 668, 669, 670, 671, 672, 673, 675, 676, 677, 678, 679, 680, 681, 682, 683, 684, 685, 686, 687, 688, 689, 690, 691, 692, 693, 694, 695, 696, 697, 698, 699, 700, 701, 702, 703, 704, 705, 706, 707, 708, 709, 710, 711, 712, 713, 714, 715, 716, 717, 718, 719, 721, 722, 723, 724, 725, 726, 727, 728, 729, 730, 731, 732, 733, 734, 735, 736, 737, 738, 739, 740, 741, 742, 743, 744, 745, 746, 747, 748, 749, 750, 751, 752, 753, 754, 755, 756, 757, 758, 759, 760, 761, 762, 763, 764, 765, 766, 767, 768, 769, 770, 771, 772, 773, 774, 775, 776, 777, 778, 780, 782, 784, 786, 788, 790, 792, 794, 796, 798, 800, 802, 804, 806, 808, 810, 812, 814, 816, 818, 820, 822, 824, 826, 829, 830, 831, 832, 833, 834, 835, 836, 837, 838, 839, 840, 841, 842, 843, 844, 845, 846, 847, 848, 849, 850, 851, 852, 853, 854, 855, 856, 857, 858, 859, 860, 861, 862, 863, 864, 865, 866, 867, 868, 870, 871, 872, 874, 875, 876, 878, 879, 880, 882, 883, 884, 886, 887, 888, 889, 890, 891, 892, 893, 894, 895, 896, 897, 898, 899, 900, 902, 903, 904, 905, 906, 907, 908, 910, 911, 912, 914, 915, 916, 918, 919, 920, 922, 923, 924, 926, 927, 928, 930, 931, 932, 933, 934, 935, 936, 938, 939, 940, 942, 943, 944, 946, 947, 948, 949, 950, 951, 952, 954, 955, 956, 958, 959, 960, 962, 963, 964, 966, 967, 968, 970, 971, 972, 974, 975, 976, 977, 978, 979, 981, 982, 983, 985, 986, 987, 989, 990, 991, 992, 993, 994, 996, 997, 998, 1000, 1001, 1002, 1004, 1005, 1006, 1008, 1009, 1010, 1012, 1013, 1014, 1016, 1017, 1018, 1020, 1021, 1022, 1023, 1024, 1025, 1026, 1028, 1029, 1030, 1032, 1033, 1034, 1036, 1037, 1038, 1040, 1041, 1042, 1044, 1045, 1046, 1048, 1049, 1050, 1052, 1053, 1054, 1055, 1056, 1057, 1058, 1059, 1060, 1061, 1062] : List Nat).filterMap (fun i => lw_tbl[i]?) := by rfl
  intro w hw
  rw [h] at hw
  obtain ⟨i, -, hi⟩ := List.mem_filterMap.mp hw
  exact List.mem_of_getElem? hi
def F_PM : u_T := fun k => match k with
  | 0 => ("PrefixMill", "in", "LPrefixMill$Row;", true)
  | 1 => ("PrefixMill", "out", "LPrefixMill$Row;", true)
  | 2 => ("PrefixMill", "counts", "[I", true)
  | 3 => ("PrefixMill", "codes", "LPrefixMill$Codes;", true)
  | 4 => ("PrefixMill", "tree", "LPrefixMill$Tree;", true)
  | 5 => ("PrefixMill", "writer", "LPrefixMill$Writer;", true)
  | 6 => ("PrefixMill", "reader", "LPrefixMill$Reader;", true)
  | 7 => ("PrefixMill", "streams", "LPrefixMill$Streams;", true)
  | _ => ("PrefixMill", "place", "I", false)
def t_PM : Nat → FieldType := fun k => match k with
  | 0 => .object "PrefixMill$Row"
  | 1 => .object "PrefixMill$Row"
  | 2 => .array .int
  | 3 => .object "PrefixMill$Codes"
  | 4 => .object "PrefixMill$Tree"
  | 5 => .object "PrefixMill$Writer"
  | 6 => .object "PrefixMill$Reader"
  | 7 => .object "PrefixMill$Streams"
  | _ => .int
theorem in_PM : ∀ w ∈ u_ws "PrefixMill" F_PM 9, w ∈ tt := by decide +kernel
theorem n_PM : ∀ a, a < 9 → ∀ b, b < 9 → a ≠ b → (F_PM a).2.1 ≠ (F_PM b).2.1 := by decide +kernel
theorem t_PM_ok : ∀ k, k < 9 → parseFieldDescriptor (F_PM k).2.2.1 = some (t_PM k) := by decide +kernel
def F_MM : u_T := fun k => match k with
  | 0 => ("PrefixMillModel", "in", "[I", true)
  | 1 => ("PrefixMillModel", "inLong", "I", false)
  | 2 => ("PrefixMillModel", "goesOn", "I", false)
  | 3 => ("PrefixMillModel", "out", "[I", true)
  | 4 => ("PrefixMillModel", "outLong", "I", false)
  | 5 => ("PrefixMillModel", "counts", "[I", true)
  | 6 => ("PrefixMillModel", "greatest", "I", false)
  | 7 => ("PrefixMillModel", "length", "[I", true)
  | 8 => ("PrefixMillModel", "symbolOf", "[I", true)
  | 9 => ("PrefixMillModel", "draft", "[I", true)
  | 10 => ("PrefixMillModel", "knot", "[I", true)
  | 11 => ("PrefixMillModel", "inSum", "[I", true)
  | 12 => ("PrefixMillModel", "knots", "I", false)
  | 13 => ("PrefixMillModel", "halved", "[I", true)
  | 14 => ("PrefixMillModel", "made", "[I", true)
  | 15 => ("PrefixMillModel", "bitsMade", "I", false)
  | 16 => ("PrefixMillModel", "weight", "[I", true)
  | 17 => ("PrefixMillModel", "weights", "I", false)
  | 18 => ("PrefixMillModel", "order", "I", false)
  | 19 => ("PrefixMillModel", "points", "[I", true)
  | 20 => ("PrefixMillModel", "cutOff", "[I", true)
  | 21 => ("PrefixMillModel", "had", "[Z", true)
  | 22 => ("PrefixMillModel", "placeOf", "[I", true)
  | 23 => ("PrefixMillModel", "bit", "I", false)
  | _ => ("PrefixMillModel", "bitEnd", "I", false)
def t_MM : Nat → FieldType := fun k => match k with
  | 0 => .array .int
  | 1 => .int
  | 2 => .int
  | 3 => .array .int
  | 4 => .int
  | 5 => .array .int
  | 6 => .int
  | 7 => .array .int
  | 8 => .array .int
  | 9 => .array .int
  | 10 => .array .int
  | 11 => .array .int
  | 12 => .int
  | 13 => .array .int
  | 14 => .array .int
  | 15 => .int
  | 16 => .array .int
  | 17 => .int
  | 18 => .int
  | 19 => .array .int
  | 20 => .array .int
  | 21 => .array .boolean
  | 22 => .array .int
  | 23 => .int
  | _ => .int
theorem in_MM : ∀ w ∈ u_ws "PrefixMillModel" F_MM 25, w ∈ tt := by decide +kernel
theorem n_MM : ∀ a, a < 25 → ∀ b, b < 25 → a ≠ b → (F_MM a).2.1 ≠ (F_MM b).2.1 := by decide +kernel
theorem t_MM_ok : ∀ k, k < 25 → parseFieldDescriptor (F_MM k).2.2.1 = some (t_MM k) := by decide +kernel
def F_Codes : u_T := fun k => match k with
  | 0 => ("PrefixMill$Codes", "lengths", "[I", true)
  | 1 => ("PrefixMill$Codes", "values", "[I", true)
  | 2 => ("PrefixMill$Codes", "cells", "[I", true)
  | 3 => ("PrefixMill$Codes", "greatest", "I", false)
  | 4 => ("PrefixMill$Codes", "known", "I", false)
  | _ => ("PrefixMill$Codes", "highest", "I", false)
def t_Codes : Nat → FieldType := fun k => match k with
  | 0 => .array .int
  | 1 => .array .int
  | 2 => .array .int
  | 3 => .int
  | 4 => .int
  | _ => .int
theorem in_Codes : ∀ w ∈ u_ws "PrefixMill$Codes" F_Codes 6, w ∈ tt := by decide +kernel
theorem n_Codes : ∀ a, a < 6 → ∀ b, b < 6 → a ≠ b → (F_Codes a).2.1 ≠ (F_Codes b).2.1 := by decide +kernel
theorem t_Codes_ok : ∀ k, k < 6 → parseFieldDescriptor (F_Codes k).2.2.1 = some (t_Codes k) := by decide +kernel
def F_Draft : u_T := fun k => match k with
  | 0 => ("PrefixMill$Draft", "row", "LPrefixMill$Row;", true)
  | 1 => ("PrefixMill$Draft", "share", "LPrefixMill$Share;", true)
  | _ => ("PrefixMill$Draft", "order", "I", true)
def t_Draft : Nat → FieldType := fun k => match k with
  | 0 => .object "PrefixMill$Row"
  | 1 => .object "PrefixMill$Share"
  | _ => .int
theorem in_Draft : ∀ w ∈ u_ws "PrefixMill$Draft" F_Draft 3, w ∈ tt := by decide +kernel
theorem n_Draft : ∀ a, a < 3 → ∀ b, b < 3 → a ≠ b → (F_Draft a).2.1 ≠ (F_Draft b).2.1 := by decide +kernel
theorem t_Draft_ok : ∀ k, k < 3 → parseFieldDescriptor (F_Draft k).2.2.1 = some (t_Draft k) := by decide +kernel
def F_Reader : u_T := fun k => match k with
  | 0 => ("PrefixMill$Reader", "tail", "LPrefixMill$Tail;", true)
  | 1 => ("PrefixMill$Reader", "share", "LPrefixMill$Share;", true)
  | 2 => ("PrefixMill$Reader", "weights", "[I", true)
  | 3 => ("PrefixMill$Reader", "lengths", "[I", true)
  | 4 => ("PrefixMill$Reader", "known", "I", false)
  | _ => ("PrefixMill$Reader", "end", "I", false)
def t_Reader : Nat → FieldType := fun k => match k with
  | 0 => .object "PrefixMill$Tail"
  | 1 => .object "PrefixMill$Share"
  | 2 => .array .int
  | 3 => .array .int
  | 4 => .int
  | _ => .int
theorem in_Reader : ∀ w ∈ u_ws "PrefixMill$Reader" F_Reader 6, w ∈ tt := by decide +kernel
theorem n_Reader : ∀ a, a < 6 → ∀ b, b < 6 → a ≠ b → (F_Reader a).2.1 ≠ (F_Reader b).2.1 := by decide +kernel
theorem t_Reader_ok : ∀ k, k < 6 → parseFieldDescriptor (F_Reader k).2.2.1 = some (t_Reader k) := by decide +kernel
def F_Row : u_T := fun k => match k with
  | 0 => ("PrefixMill$Row", "words", "[J", true)
  | 1 => ("PrefixMill$Row", "room", "I", true)
  | 2 => ("PrefixMill$Row", "used", "I", false)
  | 3 => ("PrefixMill$Row", "held", "I", false)
  | _ => ("PrefixMill$Row", "many", "I", false)
def t_Row : Nat → FieldType := fun k => match k with
  | 0 => .array .long
  | 1 => .int
  | 2 => .int
  | 3 => .int
  | _ => .int
theorem in_Row : ∀ w ∈ u_ws "PrefixMill$Row" F_Row 5, w ∈ tt := by decide +kernel
theorem n_Row : ∀ a, a < 5 → ∀ b, b < 5 → a ≠ b → (F_Row a).2.1 ≠ (F_Row b).2.1 := by decide +kernel
theorem t_Row_ok : ∀ k, k < 5 → parseFieldDescriptor (F_Row k).2.2.1 = some (t_Row k) := by decide +kernel
def F_Share : u_T := fun k => match k with
  | 0 => ("PrefixMill$Share", "points", "[I", true)
  | 1 => ("PrefixMill$Share", "cuts", "[I", true)
  | 2 => ("PrefixMill$Share", "queue", "[I", true)
  | 3 => ("PrefixMill$Share", "owners", "[I", true)
  | 4 => ("PrefixMill$Share", "takes", "[I", true)
  | 5 => ("PrefixMill$Share", "bases", "[I", true)
  | 6 => ("PrefixMill$Share", "ranked", "[I", true)
  | 7 => ("PrefixMill$Share", "starts", "[I", true)
  | 8 => ("PrefixMill$Share", "numbers", "[I", true)
  | 9 => ("PrefixMill$Share", "walk", "[I", true)
  | 10 => ("PrefixMill$Share", "order", "I", false)
  | _ => ("PrefixMill$Share", "next", "I", false)
def t_Share : Nat → FieldType := fun k => match k with
  | 0 => .array .int
  | 1 => .array .int
  | 2 => .array .int
  | 3 => .array .int
  | 4 => .array .int
  | 5 => .array .int
  | 6 => .array .int
  | 7 => .array .int
  | 8 => .array .int
  | 9 => .array .int
  | 10 => .int
  | _ => .int
theorem in_Share : ∀ w ∈ u_ws "PrefixMill$Share" F_Share 12, w ∈ tt := by decide +kernel
theorem n_Share : ∀ a, a < 12 → ∀ b, b < 12 → a ≠ b → (F_Share a).2.1 ≠ (F_Share b).2.1 := by decide +kernel
theorem t_Share_ok : ∀ k, k < 12 → parseFieldDescriptor (F_Share k).2.2.1 = some (t_Share k) := by decide +kernel
def F_Streams : u_T := fun k => match k with
  | 0 => ("PrefixMill$Streams", "symbols", "LPrefixMill$Row;", true)
  | _ => ("PrefixMill$Streams", "tail", "LPrefixMill$Tail;", true)
def t_Streams : Nat → FieldType := fun k => match k with
  | 0 => .object "PrefixMill$Row"
  | _ => .object "PrefixMill$Tail"
theorem in_Streams : ∀ w ∈ u_ws "PrefixMill$Streams" F_Streams 2, w ∈ tt := by decide +kernel
theorem n_Streams : ∀ a, a < 2 → ∀ b, b < 2 → a ≠ b → (F_Streams a).2.1 ≠ (F_Streams b).2.1 := by decide +kernel
theorem t_Streams_ok : ∀ k, k < 2 → parseFieldDescriptor (F_Streams k).2.2.1 = some (t_Streams k) := by decide +kernel
def F_Tail : u_T := fun k => match k with
  | 0 => ("PrefixMill$Tail", "first", "I", false)
  | _ => ("PrefixMill$Tail", "left", "I", false)
def t_Tail : Nat → FieldType := fun k => match k with
  | 0 => .int
  | _ => .int
theorem in_Tail : ∀ w ∈ u_ws "PrefixMill$Tail" F_Tail 2, w ∈ tt := by decide +kernel
theorem n_Tail : ∀ a, a < 2 → ∀ b, b < 2 → a ≠ b → (F_Tail a).2.1 ≠ (F_Tail b).2.1 := by decide +kernel
theorem t_Tail_ok : ∀ k, k < 2 → parseFieldDescriptor (F_Tail k).2.2.1 = some (t_Tail k) := by decide +kernel
def F_Tree : u_T := fun k => match k with
  | 0 => ("PrefixMill$Tree", "lengths", "[I", true)
  | 1 => ("PrefixMill$Tree", "halves", "[I", true)
  | 2 => ("PrefixMill$Tree", "leaves", "[I", true)
  | 3 => ("PrefixMill$Tree", "sorted", "[I", true)
  | 4 => ("PrefixMill$Tree", "starts", "[I", true)
  | 5 => ("PrefixMill$Tree", "sums", "[I", true)
  | 6 => ("PrefixMill$Tree", "above", "[I", true)
  | 7 => ("PrefixMill$Tree", "depths", "[I", true)
  | 8 => ("PrefixMill$Tree", "known", "I", false)
  | 9 => ("PrefixMill$Tree", "nextLeaf", "I", false)
  | _ => ("PrefixMill$Tree", "nextSum", "I", false)
def t_Tree : Nat → FieldType := fun k => match k with
  | 0 => .array .int
  | 1 => .array .int
  | 2 => .array .int
  | 3 => .array .int
  | 4 => .array .int
  | 5 => .array .int
  | 6 => .array .int
  | 7 => .array .int
  | 8 => .int
  | 9 => .int
  | _ => .int
theorem in_Tree : ∀ w ∈ u_ws "PrefixMill$Tree" F_Tree 11, w ∈ tt := by decide +kernel
theorem n_Tree : ∀ a, a < 11 → ∀ b, b < 11 → a ≠ b → (F_Tree a).2.1 ≠ (F_Tree b).2.1 := by decide +kernel
theorem t_Tree_ok : ∀ k, k < 11 → parseFieldDescriptor (F_Tree k).2.2.1 = some (t_Tree k) := by decide +kernel
def F_Writer : u_T := fun k => match k with
  | 0 => ("PrefixMill$Writer", "five", "LPrefixMill$Draft;", true)
  | 1 => ("PrefixMill$Writer", "six", "LPrefixMill$Draft;", true)
  | 2 => ("PrefixMill$Writer", "weights", "[I", true)
  | _ => ("PrefixMill$Writer", "counts", "[I", true)
def t_Writer : Nat → FieldType := fun k => match k with
  | 0 => .object "PrefixMill$Draft"
  | 1 => .object "PrefixMill$Draft"
  | 2 => .array .int
  | _ => .array .int
theorem in_Writer : ∀ w ∈ u_ws "PrefixMill$Writer" F_Writer 4, w ∈ tt := by decide +kernel
theorem n_Writer : ∀ a, a < 4 → ∀ b, b < 4 → a ≠ b → (F_Writer a).2.1 ≠ (F_Writer b).2.1 := by decide +kernel
theorem t_Writer_ok : ∀ k, k < 4 → parseFieldDescriptor (F_Writer k).2.2.1 = some (t_Writer k) := by decide +kernel
abbrev classes : List vw_C := [("PrefixMill", F_PM, 9), ("PrefixMillModel", F_MM, 25), ("PrefixMill$Codes", F_Codes, 6), ("PrefixMill$Draft", F_Draft, 3), ("PrefixMill$Reader", F_Reader, 6), ("PrefixMill$Row", F_Row, 5), ("PrefixMill$Share", F_Share, 12), ("PrefixMill$Streams", F_Streams, 2), ("PrefixMill$Tail", F_Tail, 2), ("PrefixMill$Tree", F_Tree, 11), ("PrefixMill$Writer", F_Writer, 4)]
set_option maxRecDepth 20000 in
theorem m_0 : (Jvm.Cond.selects "PrefixMill$Tree" ({ cls := "PrefixMill$Tree", name := "sortLeaves", desc := "()V" } : Jvm.MethodName) ({ cls := "PrefixMill$Tree", name := "sortLeaves", desc := "()V" } : Jvm.MethodName)) ∈ tt := List.mem_of_getElem? (i := 0) (by rfl)
set_option maxRecDepth 20000 in
theorem m_1 : (Jvm.Cond.selects "PrefixMill$Tree" ({ cls := "PrefixMill$Tree", name := "sortByByte", desc := "([I[II)V" } : Jvm.MethodName) ({ cls := "PrefixMill$Tree", name := "sortByByte", desc := "([I[II)V" } : Jvm.MethodName)) ∈ tt := List.mem_of_getElem? (i := 1) (by rfl)
set_option maxRecDepth 20000 in
theorem m_2 : (Jvm.Cond.selects "PrefixMill$Tree" ({ cls := "PrefixMill$Tree", name := "join", desc := "()V" } : Jvm.MethodName) ({ cls := "PrefixMill$Tree", name := "join", desc := "()V" } : Jvm.MethodName)) ∈ tt := List.mem_of_getElem? (i := 2) (by rfl)
set_option maxRecDepth 20000 in
theorem m_3 : (Jvm.Cond.selects "PrefixMill$Tree" ({ cls := "PrefixMill$Tree", name := "least", desc := "(I)I" } : Jvm.MethodName) ({ cls := "PrefixMill$Tree", name := "least", desc := "(I)I" } : Jvm.MethodName)) ∈ tt := List.mem_of_getElem? (i := 3) (by rfl)
set_option maxRecDepth 20000 in
theorem m_4 : (Jvm.Cond.selects "PrefixMill$Tree" ({ cls := "PrefixMill$Tree", name := "measure", desc := "()I" } : Jvm.MethodName) ({ cls := "PrefixMill$Tree", name := "measure", desc := "()I" } : Jvm.MethodName)) ∈ tt := List.mem_of_getElem? (i := 4) (by rfl)
set_option maxRecDepth 20000 in
theorem m_5 : (Jvm.Cond.selects "PrefixMill$Tree" ({ cls := "PrefixMill$Tree", name := "halve", desc := "()V" } : Jvm.MethodName) ({ cls := "PrefixMill$Tree", name := "halve", desc := "()V" } : Jvm.MethodName)) ∈ tt := List.mem_of_getElem? (i := 5) (by rfl)
set_option maxRecDepth 20000 in
theorem m_6 : (Jvm.Cond.selects "PrefixMill$Codes" ({ cls := "PrefixMill$Codes", name := "fillCells", desc := "()V" } : Jvm.MethodName) ({ cls := "PrefixMill$Codes", name := "fillCells", desc := "()V" } : Jvm.MethodName)) ∈ tt := List.mem_of_getElem? (i := 6) (by rfl)
set_option maxRecDepth 20000 in
theorem m_7 : (Jvm.Cond.selects "PrefixMill$Codes" ({ cls := "PrefixMill$Codes", name := "giveCells", desc := "(III)I" } : Jvm.MethodName) ({ cls := "PrefixMill$Codes", name := "giveCells", desc := "(III)I" } : Jvm.MethodName)) ∈ tt := List.mem_of_getElem? (i := 7) (by rfl)
set_option maxRecDepth 20000 in
theorem m_8 : (Jvm.Cond.selects "PrefixMill$Writer" ({ cls := "PrefixMill$Writer", name := "takeWeights", desc := "(LPrefixMill$Codes;I)V" } : Jvm.MethodName) ({ cls := "PrefixMill$Writer", name := "takeWeights", desc := "(LPrefixMill$Codes;I)V" } : Jvm.MethodName)) ∈ tt := List.mem_of_getElem? (i := 8) (by rfl)
set_option maxRecDepth 20000 in
theorem m_9 : (Jvm.Cond.selects "PrefixMill$Share" ({ cls := "PrefixMill$Share", name := "lacking", desc := "()I" } : Jvm.MethodName) ({ cls := "PrefixMill$Share", name := "lacking", desc := "()I" } : Jvm.MethodName)) ∈ tt := List.mem_of_getElem? (i := 9) (by rfl)
set_option maxRecDepth 20000 in
theorem m_10 : (Jvm.Cond.selects "PrefixMill$Share" ({ cls := "PrefixMill$Share", name := "massOf", desc := "(I)I" } : Jvm.MethodName) ({ cls := "PrefixMill$Share", name := "massOf", desc := "(I)I" } : Jvm.MethodName)) ∈ tt := List.mem_of_getElem? (i := 10) (by rfl)
set_option maxRecDepth 20000 in
theorem m_11 : (Jvm.Cond.selects "PrefixMill$Share" ({ cls := "PrefixMill$Share", name := "give", desc := "(I)V" } : Jvm.MethodName) ({ cls := "PrefixMill$Share", name := "give", desc := "(I)V" } : Jvm.MethodName)) ∈ tt := List.mem_of_getElem? (i := 11) (by rfl)
set_option maxRecDepth 20000 in
theorem m_12 : (Jvm.Cond.selects "PrefixMill$Share" ({ cls := "PrefixMill$Share", name := "queueByCuts", desc := "()I" } : Jvm.MethodName) ({ cls := "PrefixMill$Share", name := "queueByCuts", desc := "()I" } : Jvm.MethodName)) ∈ tt := List.mem_of_getElem? (i := 12) (by rfl)
set_option maxRecDepth 20000 in
theorem m_13 : (Jvm.Cond.selects "PrefixMill$Share" ({ cls := "PrefixMill$Share", name := "takeAway", desc := "(I)V" } : Jvm.MethodName) ({ cls := "PrefixMill$Share", name := "takeAway", desc := "(I)V" } : Jvm.MethodName)) ∈ tt := List.mem_of_getElem? (i := 13) (by rfl)
set_option maxRecDepth 20000 in
theorem m_14 : (Jvm.Cond.selects "PrefixMill$Share" ({ cls := "PrefixMill$Share", name := "layOut", desc := "()V" } : Jvm.MethodName) ({ cls := "PrefixMill$Share", name := "layOut", desc := "()V" } : Jvm.MethodName)) ∈ tt := List.mem_of_getElem? (i := 14) (by rfl)
set_option maxRecDepth 20000 in
theorem m_15 : (Jvm.Cond.selects "PrefixMill$Share" ({ cls := "PrefixMill$Share", name := "giveHighest", desc := "()I" } : Jvm.MethodName) ({ cls := "PrefixMill$Share", name := "giveHighest", desc := "()I" } : Jvm.MethodName)) ∈ tt := List.mem_of_getElem? (i := 15) (by rfl)
set_option maxRecDepth 20000 in
theorem m_16 : (Jvm.Cond.selects "PrefixMill$Share" ({ cls := "PrefixMill$Share", name := "giveByWalk", desc := "(I)V" } : Jvm.MethodName) ({ cls := "PrefixMill$Share", name := "giveByWalk", desc := "(I)V" } : Jvm.MethodName)) ∈ tt := List.mem_of_getElem? (i := 16) (by rfl)
set_option maxRecDepth 20000 in
theorem m_17 : (Jvm.Cond.selects "PrefixMill$Share" ({ cls := "PrefixMill$Share", name := "rank", desc := "()V" } : Jvm.MethodName) ({ cls := "PrefixMill$Share", name := "rank", desc := "()V" } : Jvm.MethodName)) ∈ tt := List.mem_of_getElem? (i := 17) (by rfl)
set_option maxRecDepth 20000 in
theorem m_18 : (Jvm.Cond.selects "PrefixMill$Share" ({ cls := "PrefixMill$Share", name := "putNone", desc := "(LPrefixMill$Row;I)I" } : Jvm.MethodName) ({ cls := "PrefixMill$Share", name := "putNone", desc := "(LPrefixMill$Row;I)I" } : Jvm.MethodName)) ∈ tt := List.mem_of_getElem? (i := 18) (by rfl)
set_option maxRecDepth 20000 in
theorem m_19 : (Jvm.Cond.selects "PrefixMill$Writer" ({ cls := "PrefixMill$Writer", name := "putDirect", desc := "(LPrefixMill$Row;I)V" } : Jvm.MethodName) ({ cls := "PrefixMill$Writer", name := "putDirect", desc := "(LPrefixMill$Row;I)V" } : Jvm.MethodName)) ∈ tt := List.mem_of_getElem? (i := 19) (by rfl)
set_option maxRecDepth 20000 in
theorem m_20 : (Jvm.Cond.selects "PrefixMill$Reader" ({ cls := "PrefixMill$Reader", name := "takeDirect", desc := "(LPrefixMill$Row;II)V" } : Jvm.MethodName) ({ cls := "PrefixMill$Reader", name := "takeDirect", desc := "(LPrefixMill$Row;II)V" } : Jvm.MethodName)) ∈ tt := List.mem_of_getElem? (i := 20) (by rfl)
set_option maxRecDepth 20000 in
theorem m_21 : (Jvm.Cond.selects "PrefixMill$Share" ({ cls := "PrefixMill$Share", name := "takeBits", desc := "(LPrefixMill$Row;I)I" } : Jvm.MethodName) ({ cls := "PrefixMill$Share", name := "takeBits", desc := "(LPrefixMill$Row;I)I" } : Jvm.MethodName)) ∈ tt := List.mem_of_getElem? (i := 21) (by rfl)
set_option maxRecDepth 20000 in
theorem m_22 : (Jvm.Cond.selects "PrefixMill$Share" ({ cls := "PrefixMill$Share", name := "takePoints", desc := "(LPrefixMill$Row;I)I" } : Jvm.MethodName) ({ cls := "PrefixMill$Share", name := "takePoints", desc := "(LPrefixMill$Row;I)I" } : Jvm.MethodName)) ∈ tt := List.mem_of_getElem? (i := 22) (by rfl)
set_option maxRecDepth 20000 in
theorem m_23 : (Jvm.Cond.selects "PrefixMill$Share" ({ cls := "PrefixMill$Share", name := "takeNone", desc := "(LPrefixMill$Row;I)I" } : Jvm.MethodName) ({ cls := "PrefixMill$Share", name := "takeNone", desc := "(LPrefixMill$Row;I)I" } : Jvm.MethodName)) ∈ tt := List.mem_of_getElem? (i := 23) (by rfl)
set_option maxRecDepth 20000 in
theorem m_24 : (Jvm.Cond.selects "PrefixMill$Reader" ({ cls := "PrefixMill$Reader", name := "takeRow", desc := "(LPrefixMill$Row;I)Z" } : Jvm.MethodName) ({ cls := "PrefixMill$Reader", name := "takeRow", desc := "(LPrefixMill$Row;I)Z" } : Jvm.MethodName)) ∈ tt := List.mem_of_getElem? (i := 24) (by rfl)
set_option maxRecDepth 20000 in
theorem m_25 : (Jvm.Cond.selects "PrefixMill$Reader" ({ cls := "PrefixMill$Reader", name := "takeLengths", desc := "()Z" } : Jvm.MethodName) ({ cls := "PrefixMill$Reader", name := "takeLengths", desc := "()Z" } : Jvm.MethodName)) ∈ tt := List.mem_of_getElem? (i := 25) (by rfl)
set_option maxRecDepth 20000 in
theorem m_26 : (Jvm.Cond.selects "PrefixMill$Streams" ({ cls := "PrefixMill$Streams", name := "takeStream", desc := "(LPrefixMill$Codes;LPrefixMill$Row;III)I" } : Jvm.MethodName) ({ cls := "PrefixMill$Streams", name := "takeStream", desc := "(LPrefixMill$Codes;LPrefixMill$Row;III)I" } : Jvm.MethodName)) ∈ tt := List.mem_of_getElem? (i := 26) (by rfl)
set_option maxRecDepth 20000 in
theorem m_27 : (Jvm.Cond.selects "PrefixMillModel" ({ cls := "PrefixMillModel", name := "sums", desc := "()V" } : Jvm.MethodName) ({ cls := "PrefixMillModel", name := "sums", desc := "()V" } : Jvm.MethodName)) ∈ tt := List.mem_of_getElem? (i := 27) (by rfl)
set_option maxRecDepth 20000 in
theorem m_28 : (Jvm.Cond.selects "PrefixMillModel" ({ cls := "PrefixMillModel", name := "least", desc := "(I)I" } : Jvm.MethodName) ({ cls := "PrefixMillModel", name := "least", desc := "(I)I" } : Jvm.MethodName)) ∈ tt := List.mem_of_getElem? (i := 28) (by rfl)
set_option maxRecDepth 20000 in
theorem m_29 : (Jvm.Cond.selects "PrefixMillModel" ({ cls := "PrefixMillModel", name := "longestDraft", desc := "()I" } : Jvm.MethodName) ({ cls := "PrefixMillModel", name := "longestDraft", desc := "()I" } : Jvm.MethodName)) ∈ tt := List.mem_of_getElem? (i := 29) (by rfl)
set_option maxRecDepth 20000 in
theorem m_30 : (Jvm.Cond.selects "PrefixMillModel" ({ cls := "PrefixMillModel", name := "settle", desc := "(I)I" } : Jvm.MethodName) ({ cls := "PrefixMillModel", name := "settle", desc := "(I)I" } : Jvm.MethodName)) ∈ tt := List.mem_of_getElem? (i := 30) (by rfl)
set_option maxRecDepth 20000 in
theorem m_31 : (Jvm.Cond.selects "PrefixMillModel" ({ cls := "PrefixMillModel", name := "weightOf", desc := "(I)I" } : Jvm.MethodName) ({ cls := "PrefixMillModel", name := "weightOf", desc := "(I)I" } : Jvm.MethodName)) ∈ tt := List.mem_of_getElem? (i := 31) (by rfl)
set_option maxRecDepth 20000 in
theorem m_32 : (Jvm.Cond.selects "PrefixMillModel" ({ cls := "PrefixMillModel", name := "codeOf", desc := "(I)I" } : Jvm.MethodName) ({ cls := "PrefixMillModel", name := "codeOf", desc := "(I)I" } : Jvm.MethodName)) ∈ tt := List.mem_of_getElem? (i := 32) (by rfl)
set_option maxRecDepth 20000 in
theorem m_33 : (Jvm.Cond.selects "PrefixMillModel" ({ cls := "PrefixMillModel", name := "streamBytes", desc := "(II)I" } : Jvm.MethodName) ({ cls := "PrefixMillModel", name := "streamBytes", desc := "(II)I" } : Jvm.MethodName)) ∈ tt := List.mem_of_getElem? (i := 33) (by rfl)
set_option maxRecDepth 20000 in
theorem m_34 : (Jvm.Cond.selects "PrefixMillModel" ({ cls := "PrefixMillModel", name := "begin", desc := "()V" } : Jvm.MethodName) ({ cls := "PrefixMillModel", name := "begin", desc := "()V" } : Jvm.MethodName)) ∈ tt := List.mem_of_getElem? (i := 34) (by rfl)
set_option maxRecDepth 20000 in
theorem m_35 : (Jvm.Cond.selects "PrefixMillModel" ({ cls := "PrefixMillModel", name := "put", desc := "(II)V" } : Jvm.MethodName) ({ cls := "PrefixMillModel", name := "put", desc := "(II)V" } : Jvm.MethodName)) ∈ tt := List.mem_of_getElem? (i := 35) (by rfl)
set_option maxRecDepth 20000 in
theorem m_36 : (Jvm.Cond.selects "PrefixMillModel" ({ cls := "PrefixMillModel", name := "putStream", desc := "(II)V" } : Jvm.MethodName) ({ cls := "PrefixMillModel", name := "putStream", desc := "(II)V" } : Jvm.MethodName)) ∈ tt := List.mem_of_getElem? (i := 36) (by rfl)
set_option maxRecDepth 20000 in
theorem m_37 : (Jvm.Cond.selects "PrefixMillModel" ({ cls := "PrefixMillModel", name := "fill", desc := "()V" } : Jvm.MethodName) ({ cls := "PrefixMillModel", name := "fill", desc := "()V" } : Jvm.MethodName)) ∈ tt := List.mem_of_getElem? (i := 37) (by rfl)
set_option maxRecDepth 20000 in
theorem m_38 : (Jvm.Cond.selects "PrefixMillModel" ({ cls := "PrefixMillModel", name := "give", desc := "()I" } : Jvm.MethodName) ({ cls := "PrefixMillModel", name := "give", desc := "()I" } : Jvm.MethodName)) ∈ tt := List.mem_of_getElem? (i := 38) (by rfl)
set_option maxRecDepth 20000 in
theorem m_39 : (Jvm.Cond.selects "PrefixMillModel" ({ cls := "PrefixMillModel", name := "takeFour", desc := "(II)I" } : Jvm.MethodName) ({ cls := "PrefixMillModel", name := "takeFour", desc := "(II)I" } : Jvm.MethodName)) ∈ tt := List.mem_of_getElem? (i := 39) (by rfl)
set_option maxRecDepth 20000 in
theorem m_40 : (Jvm.Cond.selects "PrefixMillModel" ({ cls := "PrefixMillModel", name := "takeStream", desc := "(IIII)I" } : Jvm.MethodName) ({ cls := "PrefixMillModel", name := "takeStream", desc := "(IIII)I" } : Jvm.MethodName)) ∈ tt := List.mem_of_getElem? (i := 40) (by rfl)
set_option maxRecDepth 20000 in
theorem m_41 : (Jvm.Cond.selects "PrefixMillModel" ({ cls := "PrefixMillModel", name := "bitAt", desc := "(I)I" } : Jvm.MethodName) ({ cls := "PrefixMillModel", name := "bitAt", desc := "(I)I" } : Jvm.MethodName)) ∈ tt := List.mem_of_getElem? (i := 41) (by rfl)
set_option maxRecDepth 20000 in
theorem m_42 : (Jvm.Cond.selects "PrefixMillModel" ({ cls := "PrefixMillModel", name := "different", desc := "()I" } : Jvm.MethodName) ({ cls := "PrefixMillModel", name := "different", desc := "()I" } : Jvm.MethodName)) ∈ tt := List.mem_of_getElem? (i := 42) (by rfl)
set_option maxRecDepth 20000 in
theorem m_43 : (Jvm.Cond.selects "PrefixMillModel" ({ cls := "PrefixMillModel", name := "countOf", desc := "(I)I" } : Jvm.MethodName) ({ cls := "PrefixMillModel", name := "countOf", desc := "(I)I" } : Jvm.MethodName)) ∈ tt := List.mem_of_getElem? (i := 43) (by rfl)
set_option maxRecDepth 20000 in
theorem m_44 : (Jvm.Cond.selects "PrefixMillModel" ({ cls := "PrefixMillModel", name := "putStates", desc := "(I)I" } : Jvm.MethodName) ({ cls := "PrefixMillModel", name := "putStates", desc := "(I)I" } : Jvm.MethodName)) ∈ tt := List.mem_of_getElem? (i := 44) (by rfl)
set_option maxRecDepth 20000 in
theorem m_45 : (Jvm.Cond.selects "PrefixMillModel" ({ cls := "PrefixMillModel", name := "shareByCounts", desc := "(I)V" } : Jvm.MethodName) ({ cls := "PrefixMillModel", name := "shareByCounts", desc := "(I)V" } : Jvm.MethodName)) ∈ tt := List.mem_of_getElem? (i := 45) (by rfl)
set_option maxRecDepth 20000 in
theorem m_46 : (Jvm.Cond.selects "PrefixMillModel" ({ cls := "PrefixMillModel", name := "newRound", desc := "()V" } : Jvm.MethodName) ({ cls := "PrefixMillModel", name := "newRound", desc := "()V" } : Jvm.MethodName)) ∈ tt := List.mem_of_getElem? (i := 46) (by rfl)
set_option maxRecDepth 20000 in
theorem m_47 : (Jvm.Cond.selects "PrefixMillModel" ({ cls := "PrefixMillModel", name := "lacking", desc := "()I" } : Jvm.MethodName) ({ cls := "PrefixMillModel", name := "lacking", desc := "()I" } : Jvm.MethodName)) ∈ tt := List.mem_of_getElem? (i := 47) (by rfl)
set_option maxRecDepth 20000 in
theorem m_48 : (Jvm.Cond.selects "PrefixMillModel" ({ cls := "PrefixMillModel", name := "nextToGet", desc := "()I" } : Jvm.MethodName) ({ cls := "PrefixMillModel", name := "nextToGet", desc := "()I" } : Jvm.MethodName)) ∈ tt := List.mem_of_getElem? (i := 48) (by rfl)
set_option maxRecDepth 20000 in
theorem m_49 : (Jvm.Cond.selects "PrefixMillModel" ({ cls := "PrefixMillModel", name := "givePlaces", desc := "()V" } : Jvm.MethodName) ({ cls := "PrefixMillModel", name := "givePlaces", desc := "()V" } : Jvm.MethodName)) ∈ tt := List.mem_of_getElem? (i := 49) (by rfl)
set_option maxRecDepth 20000 in
theorem m_50 : (Jvm.Cond.selects "PrefixMillModel" ({ cls := "PrefixMillModel", name := "putShare", desc := "()V" } : Jvm.MethodName) ({ cls := "PrefixMillModel", name := "putShare", desc := "()V" } : Jvm.MethodName)) ∈ tt := List.mem_of_getElem? (i := 50) (by rfl)
set_option maxRecDepth 20000 in
theorem m_51 : (Jvm.Cond.selects "PrefixMillModel" ({ cls := "PrefixMillModel", name := "putRow", desc := "()V" } : Jvm.MethodName) ({ cls := "PrefixMillModel", name := "putRow", desc := "()V" } : Jvm.MethodName)) ∈ tt := List.mem_of_getElem? (i := 51) (by rfl)
set_option maxRecDepth 20000 in
theorem m_52 : (Jvm.Cond.selects "PrefixMillModel" ({ cls := "PrefixMillModel", name := "lowest", desc := "(I)I" } : Jvm.MethodName) ({ cls := "PrefixMillModel", name := "lowest", desc := "(I)I" } : Jvm.MethodName)) ∈ tt := List.mem_of_getElem? (i := 52) (by rfl)
set_option maxRecDepth 20000 in
theorem m_53 : (Jvm.Cond.selects "PrefixMillModel" ({ cls := "PrefixMillModel", name := "bitsOf", desc := "(I)I" } : Jvm.MethodName) ({ cls := "PrefixMillModel", name := "bitsOf", desc := "(I)I" } : Jvm.MethodName)) ∈ tt := List.mem_of_getElem? (i := 53) (by rfl)
set_option maxRecDepth 20000 in
theorem m_54 : (Jvm.Cond.selects "PrefixMillModel" ({ cls := "PrefixMillModel", name := "numberOf", desc := "(I)I" } : Jvm.MethodName) ({ cls := "PrefixMillModel", name := "numberOf", desc := "(I)I" } : Jvm.MethodName)) ∈ tt := List.mem_of_getElem? (i := 54) (by rfl)
set_option maxRecDepth 20000 in
theorem m_55 : (Jvm.Cond.selects "PrefixMillModel" ({ cls := "PrefixMillModel", name := "placeFor", desc := "(II)I" } : Jvm.MethodName) ({ cls := "PrefixMillModel", name := "placeFor", desc := "(II)I" } : Jvm.MethodName)) ∈ tt := List.mem_of_getElem? (i := 55) (by rfl)
set_option maxRecDepth 20000 in
theorem m_56 : (Jvm.Cond.selects "PrefixMillModel" ({ cls := "PrefixMillModel", name := "baseOf", desc := "(I)I" } : Jvm.MethodName) ({ cls := "PrefixMillModel", name := "baseOf", desc := "(I)I" } : Jvm.MethodName)) ∈ tt := List.mem_of_getElem? (i := 56) (by rfl)
set_option maxRecDepth 20000 in
theorem m_57 : (Jvm.Cond.selects "PrefixMillModel" ({ cls := "PrefixMillModel", name := "putDirect", desc := "()V" } : Jvm.MethodName) ({ cls := "PrefixMillModel", name := "putDirect", desc := "()V" } : Jvm.MethodName)) ∈ tt := List.mem_of_getElem? (i := 57) (by rfl)
set_option maxRecDepth 20000 in
theorem m_58 : (Jvm.Cond.selects "PrefixMillModel" ({ cls := "PrefixMillModel", name := "takeWeights", desc := "()I" } : Jvm.MethodName) ({ cls := "PrefixMillModel", name := "takeWeights", desc := "()I" } : Jvm.MethodName)) ∈ tt := List.mem_of_getElem? (i := 58) (by rfl)
set_option maxRecDepth 20000 in
theorem m_59 : (Jvm.Cond.selects "PrefixMillModel" ({ cls := "PrefixMillModel", name := "putWeight", desc := "(I)Z" } : Jvm.MethodName) ({ cls := "PrefixMillModel", name := "putWeight", desc := "(I)Z" } : Jvm.MethodName)) ∈ tt := List.mem_of_getElem? (i := 59) (by rfl)
set_option maxRecDepth 20000 in
theorem m_60 : (Jvm.Cond.selects "PrefixMillModel" ({ cls := "PrefixMillModel", name := "takeShare", desc := "()Z" } : Jvm.MethodName) ({ cls := "PrefixMillModel", name := "takeShare", desc := "()Z" } : Jvm.MethodName)) ∈ tt := List.mem_of_getElem? (i := 60) (by rfl)
set_option maxRecDepth 20000 in
theorem m_61 : (Jvm.Cond.selects "PrefixMillModel" ({ cls := "PrefixMillModel", name := "take", desc := "(I)I" } : Jvm.MethodName) ({ cls := "PrefixMillModel", name := "take", desc := "(I)I" } : Jvm.MethodName)) ∈ tt := List.mem_of_getElem? (i := 61) (by rfl)
set_option maxRecDepth 20000 in
theorem m_62 : (Jvm.Cond.selects "PrefixMillModel" ({ cls := "PrefixMillModel", name := "takeNumber", desc := "(I)I" } : Jvm.MethodName) ({ cls := "PrefixMillModel", name := "takeNumber", desc := "(I)I" } : Jvm.MethodName)) ∈ tt := List.mem_of_getElem? (i := 62) (by rfl)
set_option maxRecDepth 20000 in
theorem m_63 : (Jvm.Cond.selects "PrefixMillModel" ({ cls := "PrefixMillModel", name := "takeRow", desc := "()Z" } : Jvm.MethodName) ({ cls := "PrefixMillModel", name := "takeRow", desc := "()Z" } : Jvm.MethodName)) ∈ tt := List.mem_of_getElem? (i := 63) (by rfl)
set_option maxRecDepth 20000 in
theorem m_64 : (Jvm.Cond.selects "PrefixMillModel" ({ cls := "PrefixMillModel", name := "takeDown", desc := "(I)I" } : Jvm.MethodName) ({ cls := "PrefixMillModel", name := "takeDown", desc := "(I)I" } : Jvm.MethodName)) ∈ tt := List.mem_of_getElem? (i := 64) (by rfl)
set_option maxRecDepth 20000 in
theorem m_66 : (Jvm.Cond.initialized "PrefixMill") ∈ tt := List.mem_of_getElem? (i := 65) (by rfl)
set_option maxRecDepth 20000 in
theorem m_67 : (Jvm.Cond.initialized "PrefixMill$Row") ∈ tt := List.mem_of_getElem? (i := 66) (by rfl)
set_option maxRecDepth 20000 in
theorem m_68 : (Jvm.Cond.initialized "PrefixMill$Codes") ∈ tt := List.mem_of_getElem? (i := 67) (by rfl)
set_option maxRecDepth 20000 in
theorem m_69 : (Jvm.Cond.initialized "PrefixMill$Tree") ∈ tt := List.mem_of_getElem? (i := 68) (by rfl)
set_option maxRecDepth 20000 in
theorem m_70 : (Jvm.Cond.initialized "PrefixMill$Writer") ∈ tt := List.mem_of_getElem? (i := 69) (by rfl)
set_option maxRecDepth 20000 in
theorem m_71 : (Jvm.Cond.initialized "PrefixMill$Draft") ∈ tt := List.mem_of_getElem? (i := 70) (by rfl)
set_option maxRecDepth 20000 in
theorem m_72 : (Jvm.Cond.initialized "PrefixMill$Share") ∈ tt := List.mem_of_getElem? (i := 71) (by rfl)
set_option maxRecDepth 20000 in
theorem m_73 : (Jvm.Cond.initialized "PrefixMill$Reader") ∈ tt := List.mem_of_getElem? (i := 72) (by rfl)
set_option maxRecDepth 20000 in
theorem m_74 : (Jvm.Cond.initialized "PrefixMill$Tail") ∈ tt := List.mem_of_getElem? (i := 73) (by rfl)
set_option maxRecDepth 20000 in
theorem m_75 : (Jvm.Cond.initialized "PrefixMill$Streams") ∈ tt := List.mem_of_getElem? (i := 74) (by rfl)
set_option maxRecDepth 20000 in
theorem m_76 : (Jvm.Cond.initialized "PrefixMillModel") ∈ tt := List.mem_of_getElem? (i := 75) (by rfl)
set_option maxRecDepth 20000 in
theorem m_77 : (Jvm.Cond.initialized "java/lang/Math") ∈ tt := List.mem_of_getElem? (i := 76) (by rfl)
set_option maxRecDepth 20000 in
theorem m_78 : (Jvm.Cond.initialized "java/lang/System") ∈ tt := List.mem_of_getElem? (i := 77) (by rfl)
set_option maxRecDepth 20000 in
theorem m_79 : (Jvm.Cond.initialized "java/util/Arrays") ∈ tt := List.mem_of_getElem? (i := 78) (by rfl)
set_option maxRecDepth 20000 in
theorem m_80 : (Jvm.Cond.classLink "PrefixMillLaw" (7 : Nat) "PrefixMill") ∈ tt := List.mem_of_getElem? (i := 79) (by rfl)
set_option maxRecDepth 20000 in
theorem m_81 : (Jvm.Cond.instantiable "PrefixMill" (9 : Nat)) ∈ tt := List.mem_of_getElem? (i := 80) (by rfl)
set_option maxRecDepth 20000 in
theorem m_82 : (Jvm.Cond.methodLink "PrefixMillLaw" (9 : Nat) ({ cls := "PrefixMill", name := "<init>", desc := "()V" } : Jvm.MethodName)) ∈ tt := List.mem_of_getElem? (i := 81) (by rfl)
set_option maxRecDepth 20000 in
theorem m_83 : (Jvm.Cond.instanceMethod ({ cls := "PrefixMill", name := "<init>", desc := "()V" } : Jvm.MethodName)) ∈ tt := List.mem_of_getElem? (i := 82) (by rfl)
set_option maxRecDepth 20000 in
theorem m_84 : (Jvm.Cond.code ({ cls := "PrefixMill", name := "<init>", desc := "()V" } : Jvm.MethodName) prog_1_method_1_code (1 : Nat) (Option.none : Option Jvm.ClassFile.FieldType)) ∈ tt := List.mem_of_getElem? (i := 83) (by rfl)
set_option maxRecDepth 20000 in
theorem m_85 : (Jvm.Cond.methodLink "PrefixMill" (3 : Nat) ({ cls := "java/lang/Object", name := "<init>", desc := "()V" } : Jvm.MethodName)) ∈ tt := List.mem_of_getElem? (i := 84) (by rfl)
set_option maxRecDepth 20000 in
theorem m_86 : (Jvm.Cond.instanceMethod ({ cls := "java/lang/Object", name := "<init>", desc := "()V" } : Jvm.MethodName)) ∈ tt := List.mem_of_getElem? (i := 85) (by rfl)
set_option maxRecDepth 20000 in
theorem m_87 : (Jvm.Cond.code ({ cls := "java/lang/Object", name := "<init>", desc := "()V" } : Jvm.MethodName) object_method_1_code (1 : Nat) (Option.none : Option Jvm.ClassFile.FieldType)) ∈ tt := List.mem_of_getElem? (i := 86) (by rfl)
set_option maxRecDepth 20000 in
theorem m_88 : (Jvm.Cond.classLink "PrefixMill" (9 : Nat) "PrefixMill$Row") ∈ tt := List.mem_of_getElem? (i := 87) (by rfl)
set_option maxRecDepth 20000 in
theorem m_89 : (Jvm.Cond.instantiable "PrefixMill$Row" (5 : Nat)) ∈ tt := List.mem_of_getElem? (i := 88) (by rfl)
set_option maxRecDepth 20000 in
theorem m_90 : (Jvm.Cond.methodLink "PrefixMill" (11 : Nat) ({ cls := "PrefixMill$Row", name := "<init>", desc := "(I)V" } : Jvm.MethodName)) ∈ tt := List.mem_of_getElem? (i := 89) (by rfl)
set_option maxRecDepth 20000 in
theorem m_91 : (Jvm.Cond.instanceMethod ({ cls := "PrefixMill$Row", name := "<init>", desc := "(I)V" } : Jvm.MethodName)) ∈ tt := List.mem_of_getElem? (i := 90) (by rfl)
set_option maxRecDepth 20000 in
theorem m_92 : (Jvm.Cond.code ({ cls := "PrefixMill$Row", name := "<init>", desc := "(I)V" } : Jvm.MethodName) prog_5_method_1_code (2 : Nat) (Option.none : Option Jvm.ClassFile.FieldType)) ∈ tt := List.mem_of_getElem? (i := 91) (by rfl)
set_option maxRecDepth 20000 in
theorem m_93 : (Jvm.Cond.methodLink "PrefixMill$Row" (1 : Nat) ({ cls := "java/lang/Object", name := "<init>", desc := "()V" } : Jvm.MethodName)) ∈ tt := List.mem_of_getElem? (i := 92) (by rfl)
set_option maxRecDepth 20000 in
theorem m_94 : (Jvm.Cond.fieldLink "PrefixMill$Row" (13 : Nat) "PrefixMill$Row" "words" "[J") ∈ tt := List.mem_of_getElem? (i := 93) (by rfl)
set_option maxRecDepth 20000 in
theorem m_95 : (Jvm.Cond.fieldLink "PrefixMill$Row" (7 : Nat) "PrefixMill$Row" "room" "I") ∈ tt := List.mem_of_getElem? (i := 94) (by rfl)
set_option maxRecDepth 20000 in
theorem m_96 : (Jvm.Cond.fieldLink "PrefixMill$Row" (17 : Nat) "PrefixMill$Row" "used" "I") ∈ tt := List.mem_of_getElem? (i := 95) (by rfl)
set_option maxRecDepth 20000 in
theorem m_97 : (Jvm.Cond.fieldLinkNest "PrefixMill" (64 : Nat) "PrefixMill$Row" "used" "I" "PrefixMill") ∈ tt := List.mem_of_getElem? (i := 96) (by rfl)
set_option maxRecDepth 20000 in
theorem m_98 : (Jvm.Cond.fieldLinkNest "PrefixMill$Reader" (42 : Nat) "PrefixMill$Row" "used" "I" "PrefixMill") ∈ tt := List.mem_of_getElem? (i := 97) (by rfl)
set_option maxRecDepth 20000 in
theorem m_99 : (Jvm.Cond.fieldLinkNest "PrefixMill$Writer" (48 : Nat) "PrefixMill$Row" "used" "I" "PrefixMill") ∈ tt := List.mem_of_getElem? (i := 98) (by rfl)
set_option maxRecDepth 20000 in
theorem m_100 : (Jvm.Cond.fieldLinkNest "PrefixMill$Streams" (44 : Nat) "PrefixMill$Row" "used" "I" "PrefixMill") ∈ tt := List.mem_of_getElem? (i := 99) (by rfl)
set_option maxRecDepth 20000 in
theorem m_101 : (Jvm.Cond.fieldLink "PrefixMill$Row" (43 : Nat) "PrefixMill$Row" "held" "I") ∈ tt := List.mem_of_getElem? (i := 100) (by rfl)
set_option maxRecDepth 20000 in
theorem m_102 : (Jvm.Cond.fieldLink "PrefixMill$Row" (46 : Nat) "PrefixMill$Row" "many" "I") ∈ tt := List.mem_of_getElem? (i := 101) (by rfl)
set_option maxRecDepth 20000 in
theorem m_103 : (Jvm.Cond.laysFinal "PrefixMill$Row" "PrefixMill$Row" "words" "[J") ∈ tt := List.mem_of_getElem? (i := 102) (by rfl)
set_option maxRecDepth 20000 in
theorem m_105 : (Jvm.Cond.laysFinal "PrefixMill$Row" "PrefixMill$Row" "room" "I") ∈ tt := List.mem_of_getElem? (i := 103) (by rfl)
set_option maxRecDepth 20000 in
theorem m_107 : (Jvm.Cond.lays "PrefixMill$Row" "PrefixMill$Row" "used" "I") ∈ tt := List.mem_of_getElem? (i := 104) (by rfl)
set_option maxRecDepth 20000 in
theorem m_109 : (Jvm.Cond.lays "PrefixMill$Row" "PrefixMill$Row" "held" "I") ∈ tt := List.mem_of_getElem? (i := 105) (by rfl)
set_option maxRecDepth 20000 in
theorem m_111 : (Jvm.Cond.lays "PrefixMill$Row" "PrefixMill$Row" "many" "I") ∈ tt := List.mem_of_getElem? (i := 106) (by rfl)
set_option maxRecDepth 20000 in
theorem m_114 : (Jvm.Cond.arrayClass Jvm.ClassFile.FieldType.long) ∈ tt := List.mem_of_getElem? (i := 107) (by rfl)
set_option maxRecDepth 20000 in
theorem m_115 : (Jvm.Cond.classLink "PrefixMill" (25 : Nat) "PrefixMill$Codes") ∈ tt := List.mem_of_getElem? (i := 108) (by rfl)
set_option maxRecDepth 20000 in
theorem m_116 : (Jvm.Cond.instantiable "PrefixMill$Codes" (6 : Nat)) ∈ tt := List.mem_of_getElem? (i := 109) (by rfl)
set_option maxRecDepth 20000 in
theorem m_117 : (Jvm.Cond.methodLinkNest "PrefixMill" (27 : Nat) ({ cls := "PrefixMill$Codes", name := "<init>", desc := "()V" } : Jvm.MethodName) "PrefixMill") ∈ tt := List.mem_of_getElem? (i := 110) (by rfl)
set_option maxRecDepth 20000 in
theorem m_118 : (Jvm.Cond.instanceMethod ({ cls := "PrefixMill$Codes", name := "<init>", desc := "()V" } : Jvm.MethodName)) ∈ tt := List.mem_of_getElem? (i := 111) (by rfl)
set_option maxRecDepth 20000 in
theorem m_119 : (Jvm.Cond.code ({ cls := "PrefixMill$Codes", name := "<init>", desc := "()V" } : Jvm.MethodName) prog_2_method_1_code (1 : Nat) (Option.none : Option Jvm.ClassFile.FieldType)) ∈ tt := List.mem_of_getElem? (i := 112) (by rfl)
set_option maxRecDepth 20000 in
theorem m_120 : (Jvm.Cond.methodLink "PrefixMill$Codes" (3 : Nat) ({ cls := "java/lang/Object", name := "<init>", desc := "()V" } : Jvm.MethodName)) ∈ tt := List.mem_of_getElem? (i := 113) (by rfl)
set_option maxRecDepth 20000 in
theorem m_121 : (Jvm.Cond.fieldLink "PrefixMill$Codes" (9 : Nat) "PrefixMill$Codes" "lengths" "[I") ∈ tt := List.mem_of_getElem? (i := 114) (by rfl)
set_option maxRecDepth 20000 in
theorem m_122 : (Jvm.Cond.fieldLinkNest "PrefixMill$Streams" (31 : Nat) "PrefixMill$Codes" "lengths" "[I" "PrefixMill") ∈ tt := List.mem_of_getElem? (i := 115) (by rfl)
set_option maxRecDepth 20000 in
theorem m_123 : (Jvm.Cond.fieldLinkNest "PrefixMill" (154 : Nat) "PrefixMill$Codes" "lengths" "[I" "PrefixMill") ∈ tt := List.mem_of_getElem? (i := 116) (by rfl)
set_option maxRecDepth 20000 in
theorem m_124 : (Jvm.Cond.fieldLink "PrefixMill$Codes" (15 : Nat) "PrefixMill$Codes" "values" "[I") ∈ tt := List.mem_of_getElem? (i := 117) (by rfl)
set_option maxRecDepth 20000 in
theorem m_125 : (Jvm.Cond.fieldLinkNest "PrefixMill$Streams" (66 : Nat) "PrefixMill$Codes" "values" "[I" "PrefixMill") ∈ tt := List.mem_of_getElem? (i := 118) (by rfl)
set_option maxRecDepth 20000 in
theorem m_126 : (Jvm.Cond.fieldLinkNest "PrefixMill" (155 : Nat) "PrefixMill$Codes" "values" "[I" "PrefixMill") ∈ tt := List.mem_of_getElem? (i := 119) (by rfl)
set_option maxRecDepth 20000 in
theorem m_127 : (Jvm.Cond.fieldLink "PrefixMill$Codes" (18 : Nat) "PrefixMill$Codes" "cells" "[I") ∈ tt := List.mem_of_getElem? (i := 120) (by rfl)
set_option maxRecDepth 20000 in
theorem m_128 : (Jvm.Cond.fieldLinkNest "PrefixMill$Streams" (84 : Nat) "PrefixMill$Codes" "cells" "[I" "PrefixMill") ∈ tt := List.mem_of_getElem? (i := 121) (by rfl)
set_option maxRecDepth 20000 in
theorem m_129 : (Jvm.Cond.fieldLink "PrefixMill$Codes" (21 : Nat) "PrefixMill$Codes" "greatest" "I") ∈ tt := List.mem_of_getElem? (i := 122) (by rfl)
set_option maxRecDepth 20000 in
theorem m_130 : (Jvm.Cond.fieldLinkNest "PrefixMill$Streams" (87 : Nat) "PrefixMill$Codes" "greatest" "I" "PrefixMill") ∈ tt := List.mem_of_getElem? (i := 123) (by rfl)
set_option maxRecDepth 20000 in
theorem m_131 : (Jvm.Cond.fieldLinkNest "PrefixMill" (148 : Nat) "PrefixMill$Codes" "greatest" "I" "PrefixMill") ∈ tt := List.mem_of_getElem? (i := 124) (by rfl)
set_option maxRecDepth 20000 in
theorem m_132 : (Jvm.Cond.fieldLink "PrefixMill$Codes" (29 : Nat) "PrefixMill$Codes" "known" "I") ∈ tt := List.mem_of_getElem? (i := 125) (by rfl)
set_option maxRecDepth 20000 in
theorem m_133 : (Jvm.Cond.fieldLinkNest "PrefixMill" (151 : Nat) "PrefixMill$Codes" "known" "I" "PrefixMill") ∈ tt := List.mem_of_getElem? (i := 126) (by rfl)
set_option maxRecDepth 20000 in
theorem m_134 : (Jvm.Cond.fieldLinkNest "PrefixMill$Writer" (30 : Nat) "PrefixMill$Codes" "highest" "I" "PrefixMill") ∈ tt := List.mem_of_getElem? (i := 127) (by rfl)
set_option maxRecDepth 20000 in
theorem m_135 : (Jvm.Cond.fieldLink "PrefixMill$Codes" (32 : Nat) "PrefixMill$Codes" "highest" "I") ∈ tt := List.mem_of_getElem? (i := 128) (by rfl)
set_option maxRecDepth 20000 in
theorem m_136 : (Jvm.Cond.laysFinal "PrefixMill$Codes" "PrefixMill$Codes" "lengths" "[I") ∈ tt := List.mem_of_getElem? (i := 129) (by rfl)
set_option maxRecDepth 20000 in
theorem m_138 : (Jvm.Cond.laysFinal "PrefixMill$Codes" "PrefixMill$Codes" "values" "[I") ∈ tt := List.mem_of_getElem? (i := 130) (by rfl)
set_option maxRecDepth 20000 in
theorem m_140 : (Jvm.Cond.laysFinal "PrefixMill$Codes" "PrefixMill$Codes" "cells" "[I") ∈ tt := List.mem_of_getElem? (i := 131) (by rfl)
set_option maxRecDepth 20000 in
theorem m_142 : (Jvm.Cond.lays "PrefixMill$Codes" "PrefixMill$Codes" "greatest" "I") ∈ tt := List.mem_of_getElem? (i := 132) (by rfl)
set_option maxRecDepth 20000 in
theorem m_144 : (Jvm.Cond.lays "PrefixMill$Codes" "PrefixMill$Codes" "known" "I") ∈ tt := List.mem_of_getElem? (i := 133) (by rfl)
set_option maxRecDepth 20000 in
theorem m_146 : (Jvm.Cond.lays "PrefixMill$Codes" "PrefixMill$Codes" "highest" "I") ∈ tt := List.mem_of_getElem? (i := 134) (by rfl)
set_option maxRecDepth 20000 in
theorem m_149 : (Jvm.Cond.arrayClass Jvm.ClassFile.FieldType.int) ∈ tt := List.mem_of_getElem? (i := 135) (by rfl)
set_option maxRecDepth 20000 in
theorem m_150 : (Jvm.Cond.classLink "PrefixMill" (32 : Nat) "PrefixMill$Tree") ∈ tt := List.mem_of_getElem? (i := 136) (by rfl)
set_option maxRecDepth 20000 in
theorem m_151 : (Jvm.Cond.instantiable "PrefixMill$Tree" (11 : Nat)) ∈ tt := List.mem_of_getElem? (i := 137) (by rfl)
set_option maxRecDepth 20000 in
theorem m_152 : (Jvm.Cond.methodLinkNest "PrefixMill" (34 : Nat) ({ cls := "PrefixMill$Tree", name := "<init>", desc := "()V" } : Jvm.MethodName) "PrefixMill") ∈ tt := List.mem_of_getElem? (i := 138) (by rfl)
set_option maxRecDepth 20000 in
theorem m_153 : (Jvm.Cond.instanceMethod ({ cls := "PrefixMill$Tree", name := "<init>", desc := "()V" } : Jvm.MethodName)) ∈ tt := List.mem_of_getElem? (i := 139) (by rfl)
set_option maxRecDepth 20000 in
theorem m_154 : (Jvm.Cond.code ({ cls := "PrefixMill$Tree", name := "<init>", desc := "()V" } : Jvm.MethodName) prog_9_method_1_code (1 : Nat) (Option.none : Option Jvm.ClassFile.FieldType)) ∈ tt := List.mem_of_getElem? (i := 140) (by rfl)
set_option maxRecDepth 20000 in
theorem m_155 : (Jvm.Cond.methodLink "PrefixMill$Tree" (3 : Nat) ({ cls := "java/lang/Object", name := "<init>", desc := "()V" } : Jvm.MethodName)) ∈ tt := List.mem_of_getElem? (i := 141) (by rfl)
set_option maxRecDepth 20000 in
theorem m_156 : (Jvm.Cond.fieldLink "PrefixMill$Tree" (9 : Nat) "PrefixMill$Tree" "lengths" "[I") ∈ tt := List.mem_of_getElem? (i := 142) (by rfl)
set_option maxRecDepth 20000 in
theorem m_157 : (Jvm.Cond.fieldLinkNest "PrefixMill" (99 : Nat) "PrefixMill$Tree" "lengths" "[I" "PrefixMill") ∈ tt := List.mem_of_getElem? (i := 143) (by rfl)
set_option maxRecDepth 20000 in
theorem m_158 : (Jvm.Cond.fieldLink "PrefixMill$Tree" (15 : Nat) "PrefixMill$Tree" "halves" "[I") ∈ tt := List.mem_of_getElem? (i := 144) (by rfl)
set_option maxRecDepth 20000 in
theorem m_159 : (Jvm.Cond.fieldLink "PrefixMill$Tree" (18 : Nat) "PrefixMill$Tree" "leaves" "[I") ∈ tt := List.mem_of_getElem? (i := 145) (by rfl)
set_option maxRecDepth 20000 in
theorem m_160 : (Jvm.Cond.fieldLink "PrefixMill$Tree" (21 : Nat) "PrefixMill$Tree" "sorted" "[I") ∈ tt := List.mem_of_getElem? (i := 146) (by rfl)
set_option maxRecDepth 20000 in
theorem m_161 : (Jvm.Cond.fieldLink "PrefixMill$Tree" (24 : Nat) "PrefixMill$Tree" "starts" "[I") ∈ tt := List.mem_of_getElem? (i := 147) (by rfl)
set_option maxRecDepth 20000 in
theorem m_162 : (Jvm.Cond.fieldLink "PrefixMill$Tree" (27 : Nat) "PrefixMill$Tree" "sums" "[I") ∈ tt := List.mem_of_getElem? (i := 148) (by rfl)
set_option maxRecDepth 20000 in
theorem m_163 : (Jvm.Cond.fieldLink "PrefixMill$Tree" (30 : Nat) "PrefixMill$Tree" "above" "[I") ∈ tt := List.mem_of_getElem? (i := 149) (by rfl)
set_option maxRecDepth 20000 in
theorem m_164 : (Jvm.Cond.fieldLink "PrefixMill$Tree" (33 : Nat) "PrefixMill$Tree" "depths" "[I") ∈ tt := List.mem_of_getElem? (i := 150) (by rfl)
set_option maxRecDepth 20000 in
theorem m_165 : (Jvm.Cond.fieldLink "PrefixMill$Tree" (36 : Nat) "PrefixMill$Tree" "known" "I") ∈ tt := List.mem_of_getElem? (i := 151) (by rfl)
set_option maxRecDepth 20000 in
theorem m_166 : (Jvm.Cond.fieldLink "PrefixMill$Tree" (63 : Nat) "PrefixMill$Tree" "nextLeaf" "I") ∈ tt := List.mem_of_getElem? (i := 152) (by rfl)
set_option maxRecDepth 20000 in
theorem m_167 : (Jvm.Cond.fieldLink "PrefixMill$Tree" (66 : Nat) "PrefixMill$Tree" "nextSum" "I") ∈ tt := List.mem_of_getElem? (i := 153) (by rfl)
set_option maxRecDepth 20000 in
theorem m_168 : (Jvm.Cond.laysFinal "PrefixMill$Tree" "PrefixMill$Tree" "lengths" "[I") ∈ tt := List.mem_of_getElem? (i := 154) (by rfl)
set_option maxRecDepth 20000 in
theorem m_170 : (Jvm.Cond.laysFinal "PrefixMill$Tree" "PrefixMill$Tree" "halves" "[I") ∈ tt := List.mem_of_getElem? (i := 155) (by rfl)
set_option maxRecDepth 20000 in
theorem m_172 : (Jvm.Cond.laysFinal "PrefixMill$Tree" "PrefixMill$Tree" "leaves" "[I") ∈ tt := List.mem_of_getElem? (i := 156) (by rfl)
set_option maxRecDepth 20000 in
theorem m_174 : (Jvm.Cond.laysFinal "PrefixMill$Tree" "PrefixMill$Tree" "sorted" "[I") ∈ tt := List.mem_of_getElem? (i := 157) (by rfl)
set_option maxRecDepth 20000 in
theorem m_176 : (Jvm.Cond.laysFinal "PrefixMill$Tree" "PrefixMill$Tree" "starts" "[I") ∈ tt := List.mem_of_getElem? (i := 158) (by rfl)
set_option maxRecDepth 20000 in
theorem m_178 : (Jvm.Cond.laysFinal "PrefixMill$Tree" "PrefixMill$Tree" "sums" "[I") ∈ tt := List.mem_of_getElem? (i := 159) (by rfl)
set_option maxRecDepth 20000 in
theorem m_180 : (Jvm.Cond.laysFinal "PrefixMill$Tree" "PrefixMill$Tree" "above" "[I") ∈ tt := List.mem_of_getElem? (i := 160) (by rfl)
set_option maxRecDepth 20000 in
theorem m_182 : (Jvm.Cond.laysFinal "PrefixMill$Tree" "PrefixMill$Tree" "depths" "[I") ∈ tt := List.mem_of_getElem? (i := 161) (by rfl)
set_option maxRecDepth 20000 in
theorem m_184 : (Jvm.Cond.lays "PrefixMill$Tree" "PrefixMill$Tree" "known" "I") ∈ tt := List.mem_of_getElem? (i := 162) (by rfl)
set_option maxRecDepth 20000 in
theorem m_186 : (Jvm.Cond.lays "PrefixMill$Tree" "PrefixMill$Tree" "nextLeaf" "I") ∈ tt := List.mem_of_getElem? (i := 163) (by rfl)
set_option maxRecDepth 20000 in
theorem m_188 : (Jvm.Cond.lays "PrefixMill$Tree" "PrefixMill$Tree" "nextSum" "I") ∈ tt := List.mem_of_getElem? (i := 164) (by rfl)
set_option maxRecDepth 20000 in
theorem m_191 : (Jvm.Cond.classLink "PrefixMill" (39 : Nat) "PrefixMill$Writer") ∈ tt := List.mem_of_getElem? (i := 165) (by rfl)
set_option maxRecDepth 20000 in
theorem m_192 : (Jvm.Cond.instantiable "PrefixMill$Writer" (4 : Nat)) ∈ tt := List.mem_of_getElem? (i := 166) (by rfl)
set_option maxRecDepth 20000 in
theorem m_193 : (Jvm.Cond.methodLinkNest "PrefixMill" (41 : Nat) ({ cls := "PrefixMill$Writer", name := "<init>", desc := "()V" } : Jvm.MethodName) "PrefixMill") ∈ tt := List.mem_of_getElem? (i := 167) (by rfl)
set_option maxRecDepth 20000 in
theorem m_194 : (Jvm.Cond.instanceMethod ({ cls := "PrefixMill$Writer", name := "<init>", desc := "()V" } : Jvm.MethodName)) ∈ tt := List.mem_of_getElem? (i := 168) (by rfl)
set_option maxRecDepth 20000 in
theorem m_195 : (Jvm.Cond.code ({ cls := "PrefixMill$Writer", name := "<init>", desc := "()V" } : Jvm.MethodName) prog_10_method_1_code (1 : Nat) (Option.none : Option Jvm.ClassFile.FieldType)) ∈ tt := List.mem_of_getElem? (i := 169) (by rfl)
set_option maxRecDepth 20000 in
theorem m_196 : (Jvm.Cond.methodLink "PrefixMill$Writer" (3 : Nat) ({ cls := "java/lang/Object", name := "<init>", desc := "()V" } : Jvm.MethodName)) ∈ tt := List.mem_of_getElem? (i := 170) (by rfl)
set_option maxRecDepth 20000 in
theorem m_197 : (Jvm.Cond.classLink "PrefixMill$Writer" (9 : Nat) "PrefixMill$Draft") ∈ tt := List.mem_of_getElem? (i := 171) (by rfl)
set_option maxRecDepth 20000 in
theorem m_198 : (Jvm.Cond.instantiable "PrefixMill$Draft" (3 : Nat)) ∈ tt := List.mem_of_getElem? (i := 172) (by rfl)
set_option maxRecDepth 20000 in
theorem m_199 : (Jvm.Cond.methodLink "PrefixMill$Writer" (11 : Nat) ({ cls := "PrefixMill$Draft", name := "<init>", desc := "(I)V" } : Jvm.MethodName)) ∈ tt := List.mem_of_getElem? (i := 173) (by rfl)
set_option maxRecDepth 20000 in
theorem m_200 : (Jvm.Cond.instanceMethod ({ cls := "PrefixMill$Draft", name := "<init>", desc := "(I)V" } : Jvm.MethodName)) ∈ tt := List.mem_of_getElem? (i := 174) (by rfl)
set_option maxRecDepth 20000 in
theorem m_201 : (Jvm.Cond.code ({ cls := "PrefixMill$Draft", name := "<init>", desc := "(I)V" } : Jvm.MethodName) prog_3_method_1_code (2 : Nat) (Option.none : Option Jvm.ClassFile.FieldType)) ∈ tt := List.mem_of_getElem? (i := 175) (by rfl)
set_option maxRecDepth 20000 in
theorem m_202 : (Jvm.Cond.methodLink "PrefixMill$Draft" (1 : Nat) ({ cls := "java/lang/Object", name := "<init>", desc := "()V" } : Jvm.MethodName)) ∈ tt := List.mem_of_getElem? (i := 176) (by rfl)
set_option maxRecDepth 20000 in
theorem m_203 : (Jvm.Cond.classLink "PrefixMill$Draft" (7 : Nat) "PrefixMill$Row") ∈ tt := List.mem_of_getElem? (i := 177) (by rfl)
set_option maxRecDepth 20000 in
theorem m_204 : (Jvm.Cond.methodLink "PrefixMill$Draft" (11 : Nat) ({ cls := "PrefixMill$Row", name := "<init>", desc := "(I)V" } : Jvm.MethodName)) ∈ tt := List.mem_of_getElem? (i := 178) (by rfl)
set_option maxRecDepth 20000 in
theorem m_205 : (Jvm.Cond.classLink "PrefixMill$Draft" (18 : Nat) "PrefixMill$Share") ∈ tt := List.mem_of_getElem? (i := 179) (by rfl)
set_option maxRecDepth 20000 in
theorem m_206 : (Jvm.Cond.instantiable "PrefixMill$Share" (12 : Nat)) ∈ tt := List.mem_of_getElem? (i := 180) (by rfl)
set_option maxRecDepth 20000 in
theorem m_207 : (Jvm.Cond.methodLinkNest "PrefixMill$Draft" (20 : Nat) ({ cls := "PrefixMill$Share", name := "<init>", desc := "()V" } : Jvm.MethodName) "PrefixMill") ∈ tt := List.mem_of_getElem? (i := 181) (by rfl)
set_option maxRecDepth 20000 in
theorem m_208 : (Jvm.Cond.instanceMethod ({ cls := "PrefixMill$Share", name := "<init>", desc := "()V" } : Jvm.MethodName)) ∈ tt := List.mem_of_getElem? (i := 182) (by rfl)
set_option maxRecDepth 20000 in
theorem m_209 : (Jvm.Cond.code ({ cls := "PrefixMill$Share", name := "<init>", desc := "()V" } : Jvm.MethodName) prog_6_method_1_code (1 : Nat) (Option.none : Option Jvm.ClassFile.FieldType)) ∈ tt := List.mem_of_getElem? (i := 183) (by rfl)
set_option maxRecDepth 20000 in
theorem m_210 : (Jvm.Cond.methodLink "PrefixMill$Share" (3 : Nat) ({ cls := "java/lang/Object", name := "<init>", desc := "()V" } : Jvm.MethodName)) ∈ tt := List.mem_of_getElem? (i := 184) (by rfl)
set_option maxRecDepth 20000 in
theorem m_211 : (Jvm.Cond.fieldLink "PrefixMill$Share" (9 : Nat) "PrefixMill$Share" "points" "[I") ∈ tt := List.mem_of_getElem? (i := 185) (by rfl)
set_option maxRecDepth 20000 in
theorem m_212 : (Jvm.Cond.fieldLink "PrefixMill$Share" (15 : Nat) "PrefixMill$Share" "cuts" "[I") ∈ tt := List.mem_of_getElem? (i := 186) (by rfl)
set_option maxRecDepth 20000 in
theorem m_213 : (Jvm.Cond.fieldLink "PrefixMill$Share" (18 : Nat) "PrefixMill$Share" "queue" "[I") ∈ tt := List.mem_of_getElem? (i := 187) (by rfl)
set_option maxRecDepth 20000 in
theorem m_214 : (Jvm.Cond.fieldLink "PrefixMill$Share" (21 : Nat) "PrefixMill$Share" "owners" "[I") ∈ tt := List.mem_of_getElem? (i := 188) (by rfl)
set_option maxRecDepth 20000 in
theorem m_215 : (Jvm.Cond.fieldLinkNest "PrefixMill$Reader" (77 : Nat) "PrefixMill$Share" "owners" "[I" "PrefixMill") ∈ tt := List.mem_of_getElem? (i := 189) (by rfl)
set_option maxRecDepth 20000 in
theorem m_216 : (Jvm.Cond.fieldLink "PrefixMill$Share" (24 : Nat) "PrefixMill$Share" "takes" "[I") ∈ tt := List.mem_of_getElem? (i := 190) (by rfl)
set_option maxRecDepth 20000 in
theorem m_217 : (Jvm.Cond.fieldLinkNest "PrefixMill$Draft" (52 : Nat) "PrefixMill$Share" "takes" "[I" "PrefixMill") ∈ tt := List.mem_of_getElem? (i := 191) (by rfl)
set_option maxRecDepth 20000 in
theorem m_218 : (Jvm.Cond.fieldLinkNest "PrefixMill$Reader" (80 : Nat) "PrefixMill$Share" "takes" "[I" "PrefixMill") ∈ tt := List.mem_of_getElem? (i := 192) (by rfl)
set_option maxRecDepth 20000 in
theorem m_219 : (Jvm.Cond.fieldLink "PrefixMill$Share" (27 : Nat) "PrefixMill$Share" "bases" "[I") ∈ tt := List.mem_of_getElem? (i := 193) (by rfl)
set_option maxRecDepth 20000 in
theorem m_220 : (Jvm.Cond.fieldLinkNest "PrefixMill$Draft" (48 : Nat) "PrefixMill$Share" "bases" "[I" "PrefixMill") ∈ tt := List.mem_of_getElem? (i := 194) (by rfl)
set_option maxRecDepth 20000 in
theorem m_221 : (Jvm.Cond.fieldLinkNest "PrefixMill$Reader" (83 : Nat) "PrefixMill$Share" "bases" "[I" "PrefixMill") ∈ tt := List.mem_of_getElem? (i := 195) (by rfl)
set_option maxRecDepth 20000 in
theorem m_222 : (Jvm.Cond.fieldLink "PrefixMill$Share" (30 : Nat) "PrefixMill$Share" "ranked" "[I") ∈ tt := List.mem_of_getElem? (i := 196) (by rfl)
set_option maxRecDepth 20000 in
theorem m_223 : (Jvm.Cond.fieldLink "PrefixMill$Share" (33 : Nat) "PrefixMill$Share" "starts" "[I") ∈ tt := List.mem_of_getElem? (i := 197) (by rfl)
set_option maxRecDepth 20000 in
theorem m_224 : (Jvm.Cond.fieldLink "PrefixMill$Share" (36 : Nat) "PrefixMill$Share" "numbers" "[I") ∈ tt := List.mem_of_getElem? (i := 198) (by rfl)
set_option maxRecDepth 20000 in
theorem m_225 : (Jvm.Cond.fieldLink "PrefixMill$Share" (39 : Nat) "PrefixMill$Share" "walk" "[I") ∈ tt := List.mem_of_getElem? (i := 199) (by rfl)
set_option maxRecDepth 20000 in
theorem m_226 : (Jvm.Cond.fieldLink "PrefixMill$Share" (48 : Nat) "PrefixMill$Share" "order" "I") ∈ tt := List.mem_of_getElem? (i := 200) (by rfl)
set_option maxRecDepth 20000 in
theorem m_227 : (Jvm.Cond.fieldLinkNest "PrefixMill$Reader" (71 : Nat) "PrefixMill$Share" "order" "I" "PrefixMill") ∈ tt := List.mem_of_getElem? (i := 201) (by rfl)
set_option maxRecDepth 20000 in
theorem m_228 : (Jvm.Cond.fieldLink "PrefixMill$Share" (111 : Nat) "PrefixMill$Share" "next" "I") ∈ tt := List.mem_of_getElem? (i := 202) (by rfl)
set_option maxRecDepth 20000 in
theorem m_229 : (Jvm.Cond.laysFinal "PrefixMill$Share" "PrefixMill$Share" "points" "[I") ∈ tt := List.mem_of_getElem? (i := 203) (by rfl)
set_option maxRecDepth 20000 in
theorem m_231 : (Jvm.Cond.laysFinal "PrefixMill$Share" "PrefixMill$Share" "cuts" "[I") ∈ tt := List.mem_of_getElem? (i := 204) (by rfl)
set_option maxRecDepth 20000 in
theorem m_233 : (Jvm.Cond.laysFinal "PrefixMill$Share" "PrefixMill$Share" "queue" "[I") ∈ tt := List.mem_of_getElem? (i := 205) (by rfl)
set_option maxRecDepth 20000 in
theorem m_235 : (Jvm.Cond.laysFinal "PrefixMill$Share" "PrefixMill$Share" "owners" "[I") ∈ tt := List.mem_of_getElem? (i := 206) (by rfl)
set_option maxRecDepth 20000 in
theorem m_237 : (Jvm.Cond.laysFinal "PrefixMill$Share" "PrefixMill$Share" "takes" "[I") ∈ tt := List.mem_of_getElem? (i := 207) (by rfl)
set_option maxRecDepth 20000 in
theorem m_239 : (Jvm.Cond.laysFinal "PrefixMill$Share" "PrefixMill$Share" "bases" "[I") ∈ tt := List.mem_of_getElem? (i := 208) (by rfl)
set_option maxRecDepth 20000 in
theorem m_241 : (Jvm.Cond.laysFinal "PrefixMill$Share" "PrefixMill$Share" "ranked" "[I") ∈ tt := List.mem_of_getElem? (i := 209) (by rfl)
set_option maxRecDepth 20000 in
theorem m_243 : (Jvm.Cond.laysFinal "PrefixMill$Share" "PrefixMill$Share" "starts" "[I") ∈ tt := List.mem_of_getElem? (i := 210) (by rfl)
set_option maxRecDepth 20000 in
theorem m_245 : (Jvm.Cond.laysFinal "PrefixMill$Share" "PrefixMill$Share" "numbers" "[I") ∈ tt := List.mem_of_getElem? (i := 211) (by rfl)
set_option maxRecDepth 20000 in
theorem m_247 : (Jvm.Cond.laysFinal "PrefixMill$Share" "PrefixMill$Share" "walk" "[I") ∈ tt := List.mem_of_getElem? (i := 212) (by rfl)
set_option maxRecDepth 20000 in
theorem m_249 : (Jvm.Cond.lays "PrefixMill$Share" "PrefixMill$Share" "order" "I") ∈ tt := List.mem_of_getElem? (i := 213) (by rfl)
set_option maxRecDepth 20000 in
theorem m_251 : (Jvm.Cond.lays "PrefixMill$Share" "PrefixMill$Share" "next" "I") ∈ tt := List.mem_of_getElem? (i := 214) (by rfl)
set_option maxRecDepth 20000 in
theorem m_254 : (Jvm.Cond.fieldLink "PrefixMill$Draft" (14 : Nat) "PrefixMill$Draft" "row" "LPrefixMill$Row;") ∈ tt := List.mem_of_getElem? (i := 215) (by rfl)
set_option maxRecDepth 20000 in
theorem m_255 : (Jvm.Cond.fieldLinkNest "PrefixMill$Writer" (44 : Nat) "PrefixMill$Draft" "row" "LPrefixMill$Row;" "PrefixMill") ∈ tt := List.mem_of_getElem? (i := 216) (by rfl)
set_option maxRecDepth 20000 in
theorem m_256 : (Jvm.Cond.fieldLink "PrefixMill$Draft" (21 : Nat) "PrefixMill$Draft" "share" "LPrefixMill$Share;") ∈ tt := List.mem_of_getElem? (i := 217) (by rfl)
set_option maxRecDepth 20000 in
theorem m_257 : (Jvm.Cond.fieldLink "PrefixMill$Draft" (25 : Nat) "PrefixMill$Draft" "order" "I") ∈ tt := List.mem_of_getElem? (i := 218) (by rfl)
set_option maxRecDepth 20000 in
theorem m_258 : (Jvm.Cond.laysFinal "PrefixMill$Draft" "PrefixMill$Draft" "row" "LPrefixMill$Row;") ∈ tt := List.mem_of_getElem? (i := 219) (by rfl)
set_option maxRecDepth 20000 in
theorem m_260 : (Jvm.Cond.laysFinal "PrefixMill$Draft" "PrefixMill$Draft" "share" "LPrefixMill$Share;") ∈ tt := List.mem_of_getElem? (i := 220) (by rfl)
set_option maxRecDepth 20000 in
theorem m_262 : (Jvm.Cond.laysFinal "PrefixMill$Draft" "PrefixMill$Draft" "order" "I") ∈ tt := List.mem_of_getElem? (i := 221) (by rfl)
set_option maxRecDepth 20000 in
theorem m_265 : (Jvm.Cond.fieldLink "PrefixMill$Writer" (14 : Nat) "PrefixMill$Writer" "five" "LPrefixMill$Draft;") ∈ tt := List.mem_of_getElem? (i := 222) (by rfl)
set_option maxRecDepth 20000 in
theorem m_266 : (Jvm.Cond.fieldLink "PrefixMill$Writer" (20 : Nat) "PrefixMill$Writer" "six" "LPrefixMill$Draft;") ∈ tt := List.mem_of_getElem? (i := 223) (by rfl)
set_option maxRecDepth 20000 in
theorem m_267 : (Jvm.Cond.fieldLink "PrefixMill$Writer" (23 : Nat) "PrefixMill$Writer" "weights" "[I") ∈ tt := List.mem_of_getElem? (i := 224) (by rfl)
set_option maxRecDepth 20000 in
theorem m_268 : (Jvm.Cond.fieldLink "PrefixMill$Writer" (27 : Nat) "PrefixMill$Writer" "counts" "[I") ∈ tt := List.mem_of_getElem? (i := 225) (by rfl)
set_option maxRecDepth 20000 in
theorem m_269 : (Jvm.Cond.laysFinal "PrefixMill$Writer" "PrefixMill$Writer" "five" "LPrefixMill$Draft;") ∈ tt := List.mem_of_getElem? (i := 226) (by rfl)
set_option maxRecDepth 20000 in
theorem m_271 : (Jvm.Cond.laysFinal "PrefixMill$Writer" "PrefixMill$Writer" "six" "LPrefixMill$Draft;") ∈ tt := List.mem_of_getElem? (i := 227) (by rfl)
set_option maxRecDepth 20000 in
theorem m_273 : (Jvm.Cond.laysFinal "PrefixMill$Writer" "PrefixMill$Writer" "weights" "[I") ∈ tt := List.mem_of_getElem? (i := 228) (by rfl)
set_option maxRecDepth 20000 in
theorem m_275 : (Jvm.Cond.laysFinal "PrefixMill$Writer" "PrefixMill$Writer" "counts" "[I") ∈ tt := List.mem_of_getElem? (i := 229) (by rfl)
set_option maxRecDepth 20000 in
theorem m_278 : (Jvm.Cond.classLink "PrefixMill" (46 : Nat) "PrefixMill$Reader") ∈ tt := List.mem_of_getElem? (i := 230) (by rfl)
set_option maxRecDepth 20000 in
theorem m_279 : (Jvm.Cond.instantiable "PrefixMill$Reader" (6 : Nat)) ∈ tt := List.mem_of_getElem? (i := 231) (by rfl)
set_option maxRecDepth 20000 in
theorem m_280 : (Jvm.Cond.methodLinkNest "PrefixMill" (48 : Nat) ({ cls := "PrefixMill$Reader", name := "<init>", desc := "()V" } : Jvm.MethodName) "PrefixMill") ∈ tt := List.mem_of_getElem? (i := 232) (by rfl)
set_option maxRecDepth 20000 in
theorem m_281 : (Jvm.Cond.instanceMethod ({ cls := "PrefixMill$Reader", name := "<init>", desc := "()V" } : Jvm.MethodName)) ∈ tt := List.mem_of_getElem? (i := 233) (by rfl)
set_option maxRecDepth 20000 in
theorem m_282 : (Jvm.Cond.code ({ cls := "PrefixMill$Reader", name := "<init>", desc := "()V" } : Jvm.MethodName) prog_4_method_1_code (1 : Nat) (Option.none : Option Jvm.ClassFile.FieldType)) ∈ tt := List.mem_of_getElem? (i := 234) (by rfl)
set_option maxRecDepth 20000 in
theorem m_283 : (Jvm.Cond.methodLink "PrefixMill$Reader" (3 : Nat) ({ cls := "java/lang/Object", name := "<init>", desc := "()V" } : Jvm.MethodName)) ∈ tt := List.mem_of_getElem? (i := 235) (by rfl)
set_option maxRecDepth 20000 in
theorem m_284 : (Jvm.Cond.classLink "PrefixMill$Reader" (9 : Nat) "PrefixMill$Tail") ∈ tt := List.mem_of_getElem? (i := 236) (by rfl)
set_option maxRecDepth 20000 in
theorem m_285 : (Jvm.Cond.instantiable "PrefixMill$Tail" (2 : Nat)) ∈ tt := List.mem_of_getElem? (i := 237) (by rfl)
set_option maxRecDepth 20000 in
theorem m_286 : (Jvm.Cond.methodLinkNest "PrefixMill$Reader" (11 : Nat) ({ cls := "PrefixMill$Tail", name := "<init>", desc := "()V" } : Jvm.MethodName) "PrefixMill") ∈ tt := List.mem_of_getElem? (i := 238) (by rfl)
set_option maxRecDepth 20000 in
theorem m_287 : (Jvm.Cond.instanceMethod ({ cls := "PrefixMill$Tail", name := "<init>", desc := "()V" } : Jvm.MethodName)) ∈ tt := List.mem_of_getElem? (i := 239) (by rfl)
set_option maxRecDepth 20000 in
theorem m_288 : (Jvm.Cond.code ({ cls := "PrefixMill$Tail", name := "<init>", desc := "()V" } : Jvm.MethodName) prog_8_method_1_code (1 : Nat) (Option.none : Option Jvm.ClassFile.FieldType)) ∈ tt := List.mem_of_getElem? (i := 240) (by rfl)
set_option maxRecDepth 20000 in
theorem m_289 : (Jvm.Cond.methodLink "PrefixMill$Tail" (1 : Nat) ({ cls := "java/lang/Object", name := "<init>", desc := "()V" } : Jvm.MethodName)) ∈ tt := List.mem_of_getElem? (i := 241) (by rfl)
set_option maxRecDepth 20000 in
theorem m_290 : (Jvm.Cond.fieldLink "PrefixMill$Tail" (13 : Nat) "PrefixMill$Tail" "first" "I") ∈ tt := List.mem_of_getElem? (i := 242) (by rfl)
set_option maxRecDepth 20000 in
theorem m_291 : (Jvm.Cond.fieldLink "PrefixMill$Tail" (24 : Nat) "PrefixMill$Tail" "left" "I") ∈ tt := List.mem_of_getElem? (i := 243) (by rfl)
set_option maxRecDepth 20000 in
theorem m_292 : (Jvm.Cond.fieldLinkNest "PrefixMill$Reader" (68 : Nat) "PrefixMill$Tail" "left" "I" "PrefixMill") ∈ tt := List.mem_of_getElem? (i := 244) (by rfl)
set_option maxRecDepth 20000 in
theorem m_293 : (Jvm.Cond.fieldLinkNest "PrefixMill$Streams" (100 : Nat) "PrefixMill$Tail" "left" "I" "PrefixMill") ∈ tt := List.mem_of_getElem? (i := 245) (by rfl)
set_option maxRecDepth 20000 in
theorem m_294 : (Jvm.Cond.lays "PrefixMill$Tail" "PrefixMill$Tail" "first" "I") ∈ tt := List.mem_of_getElem? (i := 246) (by rfl)
set_option maxRecDepth 20000 in
theorem m_296 : (Jvm.Cond.lays "PrefixMill$Tail" "PrefixMill$Tail" "left" "I") ∈ tt := List.mem_of_getElem? (i := 247) (by rfl)
set_option maxRecDepth 20000 in
theorem m_299 : (Jvm.Cond.classLink "PrefixMill$Reader" (18 : Nat) "PrefixMill$Share") ∈ tt := List.mem_of_getElem? (i := 248) (by rfl)
set_option maxRecDepth 20000 in
theorem m_300 : (Jvm.Cond.methodLinkNest "PrefixMill$Reader" (20 : Nat) ({ cls := "PrefixMill$Share", name := "<init>", desc := "()V" } : Jvm.MethodName) "PrefixMill") ∈ tt := List.mem_of_getElem? (i := 249) (by rfl)
set_option maxRecDepth 20000 in
theorem m_301 : (Jvm.Cond.fieldLink "PrefixMill$Reader" (12 : Nat) "PrefixMill$Reader" "tail" "LPrefixMill$Tail;") ∈ tt := List.mem_of_getElem? (i := 250) (by rfl)
set_option maxRecDepth 20000 in
theorem m_302 : (Jvm.Cond.fieldLink "PrefixMill$Reader" (21 : Nat) "PrefixMill$Reader" "share" "LPrefixMill$Share;") ∈ tt := List.mem_of_getElem? (i := 251) (by rfl)
set_option maxRecDepth 20000 in
theorem m_303 : (Jvm.Cond.fieldLink "PrefixMill$Reader" (25 : Nat) "PrefixMill$Reader" "weights" "[I") ∈ tt := List.mem_of_getElem? (i := 252) (by rfl)
set_option maxRecDepth 20000 in
theorem m_304 : (Jvm.Cond.fieldLink "PrefixMill$Reader" (29 : Nat) "PrefixMill$Reader" "lengths" "[I") ∈ tt := List.mem_of_getElem? (i := 253) (by rfl)
set_option maxRecDepth 20000 in
theorem m_305 : (Jvm.Cond.fieldLinkNest "PrefixMill" (124 : Nat) "PrefixMill$Reader" "lengths" "[I" "PrefixMill") ∈ tt := List.mem_of_getElem? (i := 254) (by rfl)
set_option maxRecDepth 20000 in
theorem m_306 : (Jvm.Cond.fieldLink "PrefixMill$Reader" (61 : Nat) "PrefixMill$Reader" "known" "I") ∈ tt := List.mem_of_getElem? (i := 255) (by rfl)
set_option maxRecDepth 20000 in
theorem m_307 : (Jvm.Cond.fieldLink "PrefixMill$Reader" (38 : Nat) "PrefixMill$Reader" "end" "I") ∈ tt := List.mem_of_getElem? (i := 256) (by rfl)
set_option maxRecDepth 20000 in
theorem m_308 : (Jvm.Cond.fieldLinkNest "PrefixMill" (121 : Nat) "PrefixMill$Reader" "end" "I" "PrefixMill") ∈ tt := List.mem_of_getElem? (i := 257) (by rfl)
set_option maxRecDepth 20000 in
theorem m_309 : (Jvm.Cond.laysFinal "PrefixMill$Reader" "PrefixMill$Reader" "tail" "LPrefixMill$Tail;") ∈ tt := List.mem_of_getElem? (i := 258) (by rfl)
set_option maxRecDepth 20000 in
theorem m_311 : (Jvm.Cond.laysFinal "PrefixMill$Reader" "PrefixMill$Reader" "share" "LPrefixMill$Share;") ∈ tt := List.mem_of_getElem? (i := 259) (by rfl)
set_option maxRecDepth 20000 in
theorem m_313 : (Jvm.Cond.laysFinal "PrefixMill$Reader" "PrefixMill$Reader" "weights" "[I") ∈ tt := List.mem_of_getElem? (i := 260) (by rfl)
set_option maxRecDepth 20000 in
theorem m_315 : (Jvm.Cond.laysFinal "PrefixMill$Reader" "PrefixMill$Reader" "lengths" "[I") ∈ tt := List.mem_of_getElem? (i := 261) (by rfl)
set_option maxRecDepth 20000 in
theorem m_317 : (Jvm.Cond.lays "PrefixMill$Reader" "PrefixMill$Reader" "known" "I") ∈ tt := List.mem_of_getElem? (i := 262) (by rfl)
set_option maxRecDepth 20000 in
theorem m_319 : (Jvm.Cond.lays "PrefixMill$Reader" "PrefixMill$Reader" "end" "I") ∈ tt := List.mem_of_getElem? (i := 263) (by rfl)
set_option maxRecDepth 20000 in
theorem m_322 : (Jvm.Cond.classLink "PrefixMill" (53 : Nat) "PrefixMill$Streams") ∈ tt := List.mem_of_getElem? (i := 264) (by rfl)
set_option maxRecDepth 20000 in
theorem m_323 : (Jvm.Cond.instantiable "PrefixMill$Streams" (2 : Nat)) ∈ tt := List.mem_of_getElem? (i := 265) (by rfl)
set_option maxRecDepth 20000 in
theorem m_324 : (Jvm.Cond.methodLinkNest "PrefixMill" (55 : Nat) ({ cls := "PrefixMill$Streams", name := "<init>", desc := "()V" } : Jvm.MethodName) "PrefixMill") ∈ tt := List.mem_of_getElem? (i := 266) (by rfl)
set_option maxRecDepth 20000 in
theorem m_325 : (Jvm.Cond.instanceMethod ({ cls := "PrefixMill$Streams", name := "<init>", desc := "()V" } : Jvm.MethodName)) ∈ tt := List.mem_of_getElem? (i := 267) (by rfl)
set_option maxRecDepth 20000 in
theorem m_326 : (Jvm.Cond.code ({ cls := "PrefixMill$Streams", name := "<init>", desc := "()V" } : Jvm.MethodName) prog_7_method_1_code (1 : Nat) (Option.none : Option Jvm.ClassFile.FieldType)) ∈ tt := List.mem_of_getElem? (i := 268) (by rfl)
set_option maxRecDepth 20000 in
theorem m_327 : (Jvm.Cond.methodLink "PrefixMill$Streams" (3 : Nat) ({ cls := "java/lang/Object", name := "<init>", desc := "()V" } : Jvm.MethodName)) ∈ tt := List.mem_of_getElem? (i := 269) (by rfl)
set_option maxRecDepth 20000 in
theorem m_328 : (Jvm.Cond.classLink "PrefixMill$Streams" (9 : Nat) "PrefixMill$Row") ∈ tt := List.mem_of_getElem? (i := 270) (by rfl)
set_option maxRecDepth 20000 in
theorem m_329 : (Jvm.Cond.methodLink "PrefixMill$Streams" (11 : Nat) ({ cls := "PrefixMill$Row", name := "<init>", desc := "(I)V" } : Jvm.MethodName)) ∈ tt := List.mem_of_getElem? (i := 271) (by rfl)
set_option maxRecDepth 20000 in
theorem m_330 : (Jvm.Cond.classLink "PrefixMill$Streams" (20 : Nat) "PrefixMill$Tail") ∈ tt := List.mem_of_getElem? (i := 272) (by rfl)
set_option maxRecDepth 20000 in
theorem m_331 : (Jvm.Cond.methodLinkNest "PrefixMill$Streams" (22 : Nat) ({ cls := "PrefixMill$Tail", name := "<init>", desc := "()V" } : Jvm.MethodName) "PrefixMill") ∈ tt := List.mem_of_getElem? (i := 273) (by rfl)
set_option maxRecDepth 20000 in
theorem m_332 : (Jvm.Cond.fieldLink "PrefixMill$Streams" (14 : Nat) "PrefixMill$Streams" "symbols" "LPrefixMill$Row;") ∈ tt := List.mem_of_getElem? (i := 274) (by rfl)
set_option maxRecDepth 20000 in
theorem m_333 : (Jvm.Cond.fieldLinkNest "PrefixMill" (145 : Nat) "PrefixMill$Streams" "symbols" "LPrefixMill$Row;" "PrefixMill") ∈ tt := List.mem_of_getElem? (i := 275) (by rfl)
set_option maxRecDepth 20000 in
theorem m_334 : (Jvm.Cond.fieldLink "PrefixMill$Streams" (23 : Nat) "PrefixMill$Streams" "tail" "LPrefixMill$Tail;") ∈ tt := List.mem_of_getElem? (i := 276) (by rfl)
set_option maxRecDepth 20000 in
theorem m_335 : (Jvm.Cond.laysFinal "PrefixMill$Streams" "PrefixMill$Streams" "symbols" "LPrefixMill$Row;") ∈ tt := List.mem_of_getElem? (i := 277) (by rfl)
set_option maxRecDepth 20000 in
theorem m_337 : (Jvm.Cond.laysFinal "PrefixMill$Streams" "PrefixMill$Streams" "tail" "LPrefixMill$Tail;") ∈ tt := List.mem_of_getElem? (i := 278) (by rfl)
set_option maxRecDepth 20000 in
theorem m_340 : (Jvm.Cond.fieldLink "PrefixMill" (14 : Nat) "PrefixMill" "in" "LPrefixMill$Row;") ∈ tt := List.mem_of_getElem? (i := 279) (by rfl)
set_option maxRecDepth 20000 in
theorem m_341 : (Jvm.Cond.fieldLink "PrefixMill" (18 : Nat) "PrefixMill" "out" "LPrefixMill$Row;") ∈ tt := List.mem_of_getElem? (i := 280) (by rfl)
set_option maxRecDepth 20000 in
theorem m_342 : (Jvm.Cond.fieldLink "PrefixMill" (21 : Nat) "PrefixMill" "counts" "[I") ∈ tt := List.mem_of_getElem? (i := 281) (by rfl)
set_option maxRecDepth 20000 in
theorem m_343 : (Jvm.Cond.fieldLink "PrefixMill" (28 : Nat) "PrefixMill" "codes" "LPrefixMill$Codes;") ∈ tt := List.mem_of_getElem? (i := 282) (by rfl)
set_option maxRecDepth 20000 in
theorem m_344 : (Jvm.Cond.fieldLink "PrefixMill" (35 : Nat) "PrefixMill" "tree" "LPrefixMill$Tree;") ∈ tt := List.mem_of_getElem? (i := 283) (by rfl)
set_option maxRecDepth 20000 in
theorem m_345 : (Jvm.Cond.fieldLink "PrefixMill" (42 : Nat) "PrefixMill" "writer" "LPrefixMill$Writer;") ∈ tt := List.mem_of_getElem? (i := 284) (by rfl)
set_option maxRecDepth 20000 in
theorem m_346 : (Jvm.Cond.fieldLink "PrefixMill" (49 : Nat) "PrefixMill" "reader" "LPrefixMill$Reader;") ∈ tt := List.mem_of_getElem? (i := 285) (by rfl)
set_option maxRecDepth 20000 in
theorem m_347 : (Jvm.Cond.fieldLink "PrefixMill" (56 : Nat) "PrefixMill" "streams" "LPrefixMill$Streams;") ∈ tt := List.mem_of_getElem? (i := 286) (by rfl)
set_option maxRecDepth 20000 in
theorem m_348 : (Jvm.Cond.fieldLink "PrefixMill" (60 : Nat) "PrefixMill" "place" "I") ∈ tt := List.mem_of_getElem? (i := 287) (by rfl)
set_option maxRecDepth 20000 in
theorem m_349 : (Jvm.Cond.laysFinal "PrefixMill" "PrefixMill" "in" "LPrefixMill$Row;") ∈ tt := List.mem_of_getElem? (i := 288) (by rfl)
set_option maxRecDepth 20000 in
theorem m_351 : (Jvm.Cond.laysFinal "PrefixMill" "PrefixMill" "out" "LPrefixMill$Row;") ∈ tt := List.mem_of_getElem? (i := 289) (by rfl)
set_option maxRecDepth 20000 in
theorem m_353 : (Jvm.Cond.laysFinal "PrefixMill" "PrefixMill" "counts" "[I") ∈ tt := List.mem_of_getElem? (i := 290) (by rfl)
set_option maxRecDepth 20000 in
theorem m_355 : (Jvm.Cond.laysFinal "PrefixMill" "PrefixMill" "codes" "LPrefixMill$Codes;") ∈ tt := List.mem_of_getElem? (i := 291) (by rfl)
set_option maxRecDepth 20000 in
theorem m_357 : (Jvm.Cond.laysFinal "PrefixMill" "PrefixMill" "tree" "LPrefixMill$Tree;") ∈ tt := List.mem_of_getElem? (i := 292) (by rfl)
set_option maxRecDepth 20000 in
theorem m_359 : (Jvm.Cond.laysFinal "PrefixMill" "PrefixMill" "writer" "LPrefixMill$Writer;") ∈ tt := List.mem_of_getElem? (i := 293) (by rfl)
set_option maxRecDepth 20000 in
theorem m_361 : (Jvm.Cond.laysFinal "PrefixMill" "PrefixMill" "reader" "LPrefixMill$Reader;") ∈ tt := List.mem_of_getElem? (i := 294) (by rfl)
set_option maxRecDepth 20000 in
theorem m_363 : (Jvm.Cond.laysFinal "PrefixMill" "PrefixMill" "streams" "LPrefixMill$Streams;") ∈ tt := List.mem_of_getElem? (i := 295) (by rfl)
set_option maxRecDepth 20000 in
theorem m_365 : (Jvm.Cond.lays "PrefixMill" "PrefixMill" "place" "I") ∈ tt := List.mem_of_getElem? (i := 296) (by rfl)
set_option maxRecDepth 20000 in
theorem m_368 : (Jvm.Cond.methodLink "PrefixMillLaw" (15 : Nat) ({ cls := "PrefixMill", name := "write", desc := "(JI)Z" } : Jvm.MethodName)) ∈ tt := List.mem_of_getElem? (i := 297) (by rfl)
set_option maxRecDepth 20000 in
theorem m_369 : (Jvm.Cond.instanceMethod ({ cls := "PrefixMill", name := "write", desc := "(JI)Z" } : Jvm.MethodName)) ∈ tt := List.mem_of_getElem? (i := 298) (by rfl)
set_option maxRecDepth 20000 in
theorem m_370 : (Jvm.Cond.selects "PrefixMill" ({ cls := "PrefixMill", name := "write", desc := "(JI)Z" } : Jvm.MethodName) ({ cls := "PrefixMill", name := "write", desc := "(JI)Z" } : Jvm.MethodName)) ∈ tt := List.mem_of_getElem? (i := 299) (by rfl)
set_option maxRecDepth 20000 in
theorem m_371 : (Jvm.Cond.code ({ cls := "PrefixMill", name := "write", desc := "(JI)Z" } : Jvm.MethodName) prog_1_method_2_code (5 : Nat) (Option.some Jvm.ClassFile.FieldType.boolean)) ∈ tt := List.mem_of_getElem? (i := 300) (by rfl)
set_option maxRecDepth 20000 in
theorem m_372 : (Jvm.Cond.methodLink "PrefixMill" (67 : Nat) ({ cls := "PrefixMill$Row", name := "add", desc := "(I)V" } : Jvm.MethodName)) ∈ tt := List.mem_of_getElem? (i := 301) (by rfl)
set_option maxRecDepth 20000 in
theorem m_373 : (Jvm.Cond.instanceMethod ({ cls := "PrefixMill$Row", name := "add", desc := "(I)V" } : Jvm.MethodName)) ∈ tt := List.mem_of_getElem? (i := 302) (by rfl)
set_option maxRecDepth 20000 in
theorem m_374 : (Jvm.Cond.selects "PrefixMill$Row" ({ cls := "PrefixMill$Row", name := "add", desc := "(I)V" } : Jvm.MethodName) ({ cls := "PrefixMill$Row", name := "add", desc := "(I)V" } : Jvm.MethodName)) ∈ tt := List.mem_of_getElem? (i := 303) (by rfl)
set_option maxRecDepth 20000 in
theorem m_375 : (Jvm.Cond.code ({ cls := "PrefixMill$Row", name := "add", desc := "(I)V" } : Jvm.MethodName) prog_5_method_3_code (4 : Nat) (Option.none : Option Jvm.ClassFile.FieldType)) ∈ tt := List.mem_of_getElem? (i := 304) (by rfl)
set_option maxRecDepth 20000 in
theorem m_376 : (Jvm.Cond.constantLong "PrefixMill$Row" (20 : Nat) (255 : Int64)) ∈ tt := List.mem_of_getElem? (i := 305) (by rfl)
set_option maxRecDepth 20000 in
theorem m_377 : (Jvm.Cond.constantLong "PrefixMill$Row" (22 : Nat) (-1 : Int64)) ∈ tt := List.mem_of_getElem? (i := 306) (by rfl)
set_option maxRecDepth 20000 in
theorem m_378 : (Jvm.Cond.methodLink "PrefixMillLaw" (20 : Nat) ({ cls := "PrefixMill", name := "again", desc := "(II)Z" } : Jvm.MethodName)) ∈ tt := List.mem_of_getElem? (i := 307) (by rfl)
set_option maxRecDepth 20000 in
theorem m_379 : (Jvm.Cond.instanceMethod ({ cls := "PrefixMill", name := "again", desc := "(II)Z" } : Jvm.MethodName)) ∈ tt := List.mem_of_getElem? (i := 308) (by rfl)
set_option maxRecDepth 20000 in
theorem m_380 : (Jvm.Cond.selects "PrefixMill" ({ cls := "PrefixMill", name := "again", desc := "(II)Z" } : Jvm.MethodName) ({ cls := "PrefixMill", name := "again", desc := "(II)Z" } : Jvm.MethodName)) ∈ tt := List.mem_of_getElem? (i := 309) (by rfl)
set_option maxRecDepth 20000 in
theorem m_381 : (Jvm.Cond.code ({ cls := "PrefixMill", name := "again", desc := "(II)Z" } : Jvm.MethodName) prog_1_method_3_code (5 : Nat) (Option.some Jvm.ClassFile.FieldType.boolean)) ∈ tt := List.mem_of_getElem? (i := 310) (by rfl)
set_option maxRecDepth 20000 in
theorem m_382 : (Jvm.Cond.methodLink "PrefixMill" (70 : Nat) ({ cls := "PrefixMill$Row", name := "get", desc := "(I)I" } : Jvm.MethodName)) ∈ tt := List.mem_of_getElem? (i := 311) (by rfl)
set_option maxRecDepth 20000 in
theorem m_383 : (Jvm.Cond.instanceMethod ({ cls := "PrefixMill$Row", name := "get", desc := "(I)I" } : Jvm.MethodName)) ∈ tt := List.mem_of_getElem? (i := 312) (by rfl)
set_option maxRecDepth 20000 in
theorem m_384 : (Jvm.Cond.selects "PrefixMill$Row" ({ cls := "PrefixMill$Row", name := "get", desc := "(I)I" } : Jvm.MethodName) ({ cls := "PrefixMill$Row", name := "get", desc := "(I)I" } : Jvm.MethodName)) ∈ tt := List.mem_of_getElem? (i := 313) (by rfl)
set_option maxRecDepth 20000 in
theorem m_385 : (Jvm.Cond.code ({ cls := "PrefixMill$Row", name := "get", desc := "(I)I" } : Jvm.MethodName) prog_5_method_4_code (2 : Nat) (Option.some Jvm.ClassFile.FieldType.int)) ∈ tt := List.mem_of_getElem? (i := 314) (by rfl)
set_option maxRecDepth 20000 in
theorem m_386 : (Jvm.Cond.methodLink "PrefixMillLaw" (25 : Nat) ({ cls := "PrefixMill", name := "turn", desc := "()V" } : Jvm.MethodName)) ∈ tt := List.mem_of_getElem? (i := 315) (by rfl)
set_option maxRecDepth 20000 in
theorem m_387 : (Jvm.Cond.instanceMethod ({ cls := "PrefixMill", name := "turn", desc := "()V" } : Jvm.MethodName)) ∈ tt := List.mem_of_getElem? (i := 316) (by rfl)
set_option maxRecDepth 20000 in
theorem m_388 : (Jvm.Cond.selects "PrefixMill" ({ cls := "PrefixMill", name := "turn", desc := "()V" } : Jvm.MethodName) ({ cls := "PrefixMill", name := "turn", desc := "()V" } : Jvm.MethodName)) ∈ tt := List.mem_of_getElem? (i := 317) (by rfl)
set_option maxRecDepth 20000 in
theorem m_389 : (Jvm.Cond.code ({ cls := "PrefixMill", name := "turn", desc := "()V" } : Jvm.MethodName) prog_1_method_4_code (1 : Nat) (Option.none : Option Jvm.ClassFile.FieldType)) ∈ tt := List.mem_of_getElem? (i := 318) (by rfl)
set_option maxRecDepth 20000 in
theorem m_390 : (Jvm.Cond.methodLink "PrefixMill" (74 : Nat) ({ cls := "PrefixMill$Row", name := "copy", desc := "(LPrefixMill$Row;)V" } : Jvm.MethodName)) ∈ tt := List.mem_of_getElem? (i := 319) (by rfl)
set_option maxRecDepth 20000 in
theorem m_391 : (Jvm.Cond.instanceMethod ({ cls := "PrefixMill$Row", name := "copy", desc := "(LPrefixMill$Row;)V" } : Jvm.MethodName)) ∈ tt := List.mem_of_getElem? (i := 320) (by rfl)
set_option maxRecDepth 20000 in
theorem m_392 : (Jvm.Cond.selects "PrefixMill$Row" ({ cls := "PrefixMill$Row", name := "copy", desc := "(LPrefixMill$Row;)V" } : Jvm.MethodName) ({ cls := "PrefixMill$Row", name := "copy", desc := "(LPrefixMill$Row;)V" } : Jvm.MethodName)) ∈ tt := List.mem_of_getElem? (i := 321) (by rfl)
set_option maxRecDepth 20000 in
theorem m_393 : (Jvm.Cond.code ({ cls := "PrefixMill$Row", name := "copy", desc := "(LPrefixMill$Row;)V" } : Jvm.MethodName) prog_5_method_6_code (3 : Nat) (Option.none : Option Jvm.ClassFile.FieldType)) ∈ tt := List.mem_of_getElem? (i := 322) (by rfl)
set_option maxRecDepth 20000 in
theorem m_394 : (Jvm.Cond.methodLink "PrefixMill$Row" (34 : Nat) ({ cls := "java/lang/Math", name := "min", desc := "(II)I" } : Jvm.MethodName)) ∈ tt := List.mem_of_getElem? (i := 323) (by rfl)
set_option maxRecDepth 20000 in
theorem m_395 : (Jvm.Cond.static ({ cls := "java/lang/Math", name := "min", desc := "(II)I" } : Jvm.MethodName)) ∈ tt := List.mem_of_getElem? (i := 324) (by rfl)
set_option maxRecDepth 20000 in
theorem m_396 : (Jvm.Cond.code ({ cls := "java/lang/Math", name := "min", desc := "(II)I" } : Jvm.MethodName) prog_13_method_69_code (2 : Nat) (Option.some Jvm.ClassFile.FieldType.int)) ∈ tt := List.mem_of_getElem? (i := 325) (by rfl)
set_option maxRecDepth 20000 in
theorem m_397 : (Jvm.Cond.methodLink "PrefixMill$Row" (37 : Nat) ({ cls := "java/lang/System", name := "arraycopy", desc := "(Ljava/lang/Object;ILjava/lang/Object;II)V" } : Jvm.MethodName)) ∈ tt := List.mem_of_getElem? (i := 326) (by rfl)
set_option maxRecDepth 20000 in
theorem m_398 : (Jvm.Cond.static ({ cls := "java/lang/System", name := "arraycopy", desc := "(Ljava/lang/Object;ILjava/lang/Object;II)V" } : Jvm.MethodName)) ∈ tt := List.mem_of_getElem? (i := 327) (by rfl)
set_option maxRecDepth 20000 in
theorem m_399 : (Jvm.Cond.native ({ cls := "java/lang/System", name := "arraycopy", desc := "(Ljava/lang/Object;ILjava/lang/Object;II)V" } : Jvm.MethodName)) ∈ tt := List.mem_of_getElem? (i := 328) (by rfl)
set_option maxRecDepth 20000 in
theorem m_400 : (Jvm.Cond.methodLink "PrefixMillLaw" (29 : Nat) ({ cls := "PrefixMill", name := "clear", desc := "()V" } : Jvm.MethodName)) ∈ tt := List.mem_of_getElem? (i := 329) (by rfl)
set_option maxRecDepth 20000 in
theorem m_401 : (Jvm.Cond.instanceMethod ({ cls := "PrefixMill", name := "clear", desc := "()V" } : Jvm.MethodName)) ∈ tt := List.mem_of_getElem? (i := 330) (by rfl)
set_option maxRecDepth 20000 in
theorem m_402 : (Jvm.Cond.selects "PrefixMill" ({ cls := "PrefixMill", name := "clear", desc := "()V" } : Jvm.MethodName) ({ cls := "PrefixMill", name := "clear", desc := "()V" } : Jvm.MethodName)) ∈ tt := List.mem_of_getElem? (i := 331) (by rfl)
set_option maxRecDepth 20000 in
theorem m_403 : (Jvm.Cond.code ({ cls := "PrefixMill", name := "clear", desc := "()V" } : Jvm.MethodName) prog_1_method_5_code (1 : Nat) (Option.none : Option Jvm.ClassFile.FieldType)) ∈ tt := List.mem_of_getElem? (i := 332) (by rfl)
set_option maxRecDepth 20000 in
theorem m_404 : (Jvm.Cond.methodLink "PrefixMill" (78 : Nat) ({ cls := "PrefixMill$Row", name := "empty", desc := "()V" } : Jvm.MethodName)) ∈ tt := List.mem_of_getElem? (i := 333) (by rfl)
set_option maxRecDepth 20000 in
theorem m_405 : (Jvm.Cond.instanceMethod ({ cls := "PrefixMill$Row", name := "empty", desc := "()V" } : Jvm.MethodName)) ∈ tt := List.mem_of_getElem? (i := 334) (by rfl)
set_option maxRecDepth 20000 in
theorem m_406 : (Jvm.Cond.selects "PrefixMill$Row" ({ cls := "PrefixMill$Row", name := "empty", desc := "()V" } : Jvm.MethodName) ({ cls := "PrefixMill$Row", name := "empty", desc := "()V" } : Jvm.MethodName)) ∈ tt := List.mem_of_getElem? (i := 335) (by rfl)
set_option maxRecDepth 20000 in
theorem m_407 : (Jvm.Cond.code ({ cls := "PrefixMill$Row", name := "empty", desc := "()V" } : Jvm.MethodName) prog_5_method_2_code (1 : Nat) (Option.none : Option Jvm.ClassFile.FieldType)) ∈ tt := List.mem_of_getElem? (i := 336) (by rfl)
set_option maxRecDepth 20000 in
theorem m_408 : (Jvm.Cond.methodLink "PrefixMill" (81 : Nat) ({ cls := "java/util/Arrays", name := "fill", desc := "([II)V" } : Jvm.MethodName)) ∈ tt := List.mem_of_getElem? (i := 337) (by rfl)
set_option maxRecDepth 20000 in
theorem m_409 : (Jvm.Cond.static ({ cls := "java/util/Arrays", name := "fill", desc := "([II)V" } : Jvm.MethodName)) ∈ tt := List.mem_of_getElem? (i := 338) (by rfl)
set_option maxRecDepth 20000 in
theorem m_410 : (Jvm.Cond.code ({ cls := "java/util/Arrays", name := "fill", desc := "([II)V" } : Jvm.MethodName) prog_15_method_103_code (4 : Nat) (Option.none : Option Jvm.ClassFile.FieldType)) ∈ tt := List.mem_of_getElem? (i := 339) (by rfl)
set_option maxRecDepth 20000 in
theorem m_411 : (Jvm.Cond.methodLink "PrefixMillLaw" (33 : Nat) ({ cls := "PrefixMill", name := "place", desc := "(I)Z" } : Jvm.MethodName)) ∈ tt := List.mem_of_getElem? (i := 340) (by rfl)
set_option maxRecDepth 20000 in
theorem m_412 : (Jvm.Cond.instanceMethod ({ cls := "PrefixMill", name := "place", desc := "(I)Z" } : Jvm.MethodName)) ∈ tt := List.mem_of_getElem? (i := 341) (by rfl)
set_option maxRecDepth 20000 in
theorem m_413 : (Jvm.Cond.selects "PrefixMill" ({ cls := "PrefixMill", name := "place", desc := "(I)Z" } : Jvm.MethodName) ({ cls := "PrefixMill", name := "place", desc := "(I)Z" } : Jvm.MethodName)) ∈ tt := List.mem_of_getElem? (i := 342) (by rfl)
set_option maxRecDepth 20000 in
theorem m_414 : (Jvm.Cond.code ({ cls := "PrefixMill", name := "place", desc := "(I)Z" } : Jvm.MethodName) prog_1_method_6_code (2 : Nat) (Option.some Jvm.ClassFile.FieldType.boolean)) ∈ tt := List.mem_of_getElem? (i := 343) (by rfl)
set_option maxRecDepth 20000 in
theorem m_415 : (Jvm.Cond.methodLink "PrefixMillLaw" (38 : Nat) ({ cls := "PrefixMill", name := "at", desc := "()I" } : Jvm.MethodName)) ∈ tt := List.mem_of_getElem? (i := 344) (by rfl)
set_option maxRecDepth 20000 in
theorem m_416 : (Jvm.Cond.instanceMethod ({ cls := "PrefixMill", name := "at", desc := "()I" } : Jvm.MethodName)) ∈ tt := List.mem_of_getElem? (i := 345) (by rfl)
set_option maxRecDepth 20000 in
theorem m_417 : (Jvm.Cond.selects "PrefixMill" ({ cls := "PrefixMill", name := "at", desc := "()I" } : Jvm.MethodName) ({ cls := "PrefixMill", name := "at", desc := "()I" } : Jvm.MethodName)) ∈ tt := List.mem_of_getElem? (i := 346) (by rfl)
set_option maxRecDepth 20000 in
theorem m_418 : (Jvm.Cond.code ({ cls := "PrefixMill", name := "at", desc := "()I" } : Jvm.MethodName) prog_1_method_7_code (1 : Nat) (Option.some Jvm.ClassFile.FieldType.int)) ∈ tt := List.mem_of_getElem? (i := 347) (by rfl)
set_option maxRecDepth 20000 in
theorem m_419 : (Jvm.Cond.methodLink "PrefixMillLaw" (43 : Nat) ({ cls := "PrefixMill", name := "count", desc := "(II)Z" } : Jvm.MethodName)) ∈ tt := List.mem_of_getElem? (i := 348) (by rfl)
set_option maxRecDepth 20000 in
theorem m_420 : (Jvm.Cond.instanceMethod ({ cls := "PrefixMill", name := "count", desc := "(II)Z" } : Jvm.MethodName)) ∈ tt := List.mem_of_getElem? (i := 349) (by rfl)
set_option maxRecDepth 20000 in
theorem m_421 : (Jvm.Cond.selects "PrefixMill" ({ cls := "PrefixMill", name := "count", desc := "(II)Z" } : Jvm.MethodName) ({ cls := "PrefixMill", name := "count", desc := "(II)Z" } : Jvm.MethodName)) ∈ tt := List.mem_of_getElem? (i := 350) (by rfl)
set_option maxRecDepth 20000 in
theorem m_422 : (Jvm.Cond.code ({ cls := "PrefixMill", name := "count", desc := "(II)Z" } : Jvm.MethodName) prog_1_method_8_code (3 : Nat) (Option.some Jvm.ClassFile.FieldType.boolean)) ∈ tt := List.mem_of_getElem? (i := 351) (by rfl)
set_option maxRecDepth 20000 in
theorem m_423 : (Jvm.Cond.methodLink "PrefixMill" (87 : Nat) ({ cls := "PrefixMill", name := "isSymbol", desc := "(I)Z" } : Jvm.MethodName)) ∈ tt := List.mem_of_getElem? (i := 352) (by rfl)
set_option maxRecDepth 20000 in
theorem m_424 : (Jvm.Cond.static ({ cls := "PrefixMill", name := "isSymbol", desc := "(I)Z" } : Jvm.MethodName)) ∈ tt := List.mem_of_getElem? (i := 353) (by rfl)
set_option maxRecDepth 20000 in
theorem m_425 : (Jvm.Cond.code ({ cls := "PrefixMill", name := "isSymbol", desc := "(I)Z" } : Jvm.MethodName) prog_1_method_20_code (1 : Nat) (Option.some Jvm.ClassFile.FieldType.boolean)) ∈ tt := List.mem_of_getElem? (i := 354) (by rfl)
set_option maxRecDepth 20000 in
theorem m_426 : (Jvm.Cond.constant "PrefixMill" (91 : Nat) (65535 : Int32)) ∈ tt := List.mem_of_getElem? (i := 355) (by rfl)
set_option maxRecDepth 20000 in
theorem m_427 : (Jvm.Cond.methodLink "PrefixMillLaw" (47 : Nat) ({ cls := "PrefixMill", name := "countAll", desc := "()I" } : Jvm.MethodName)) ∈ tt := List.mem_of_getElem? (i := 356) (by rfl)
set_option maxRecDepth 20000 in
theorem m_428 : (Jvm.Cond.instanceMethod ({ cls := "PrefixMill", name := "countAll", desc := "()I" } : Jvm.MethodName)) ∈ tt := List.mem_of_getElem? (i := 357) (by rfl)
set_option maxRecDepth 20000 in
theorem m_429 : (Jvm.Cond.selects "PrefixMill" ({ cls := "PrefixMill", name := "countAll", desc := "()I" } : Jvm.MethodName) ({ cls := "PrefixMill", name := "countAll", desc := "()I" } : Jvm.MethodName)) ∈ tt := List.mem_of_getElem? (i := 358) (by rfl)
set_option maxRecDepth 20000 in
theorem m_430 : (Jvm.Cond.code ({ cls := "PrefixMill", name := "countAll", desc := "()I" } : Jvm.MethodName) prog_1_method_9_code (2 : Nat) (Option.some Jvm.ClassFile.FieldType.int)) ∈ tt := List.mem_of_getElem? (i := 359) (by rfl)
set_option maxRecDepth 20000 in
theorem m_431 : (Jvm.Cond.methodLink "PrefixMillLaw" (51 : Nat) ({ cls := "PrefixMill", name := "lengths", desc := "(I)I" } : Jvm.MethodName)) ∈ tt := List.mem_of_getElem? (i := 360) (by rfl)
set_option maxRecDepth 20000 in
theorem m_432 : (Jvm.Cond.instanceMethod ({ cls := "PrefixMill", name := "lengths", desc := "(I)I" } : Jvm.MethodName)) ∈ tt := List.mem_of_getElem? (i := 361) (by rfl)
set_option maxRecDepth 20000 in
theorem m_433 : (Jvm.Cond.selects "PrefixMill" ({ cls := "PrefixMill", name := "lengths", desc := "(I)I" } : Jvm.MethodName) ({ cls := "PrefixMill", name := "lengths", desc := "(I)I" } : Jvm.MethodName)) ∈ tt := List.mem_of_getElem? (i := 362) (by rfl)
set_option maxRecDepth 20000 in
theorem m_434 : (Jvm.Cond.code ({ cls := "PrefixMill", name := "lengths", desc := "(I)I" } : Jvm.MethodName) prog_1_method_10_code (3 : Nat) (Option.some Jvm.ClassFile.FieldType.int)) ∈ tt := List.mem_of_getElem? (i := 363) (by rfl)
set_option maxRecDepth 20000 in
theorem m_435 : (Jvm.Cond.methodLink "PrefixMill" (92 : Nat) ({ cls := "PrefixMill$Tree", name := "plant", desc := "([I)I" } : Jvm.MethodName)) ∈ tt := List.mem_of_getElem? (i := 364) (by rfl)
set_option maxRecDepth 20000 in
theorem m_436 : (Jvm.Cond.instanceMethod ({ cls := "PrefixMill$Tree", name := "plant", desc := "([I)I" } : Jvm.MethodName)) ∈ tt := List.mem_of_getElem? (i := 365) (by rfl)
set_option maxRecDepth 20000 in
theorem m_437 : (Jvm.Cond.selects "PrefixMill$Tree" ({ cls := "PrefixMill$Tree", name := "plant", desc := "([I)I" } : Jvm.MethodName) ({ cls := "PrefixMill$Tree", name := "plant", desc := "([I)I" } : Jvm.MethodName)) ∈ tt := List.mem_of_getElem? (i := 366) (by rfl)
set_option maxRecDepth 20000 in
theorem m_438 : (Jvm.Cond.code ({ cls := "PrefixMill$Tree", name := "plant", desc := "([I)I" } : Jvm.MethodName) prog_9_method_2_code (3 : Nat) (Option.some Jvm.ClassFile.FieldType.int)) ∈ tt := List.mem_of_getElem? (i := 367) (by rfl)
set_option maxRecDepth 20000 in
theorem m_439 : (Jvm.Cond.methodLink "PrefixMill" (96 : Nat) ({ cls := "PrefixMill$Tree", name := "grow", desc := "(I)V" } : Jvm.MethodName)) ∈ tt := List.mem_of_getElem? (i := 368) (by rfl)
set_option maxRecDepth 20000 in
theorem m_440 : (Jvm.Cond.instanceMethod ({ cls := "PrefixMill$Tree", name := "grow", desc := "(I)V" } : Jvm.MethodName)) ∈ tt := List.mem_of_getElem? (i := 369) (by rfl)
set_option maxRecDepth 20000 in
theorem m_441 : (Jvm.Cond.selects "PrefixMill$Tree" ({ cls := "PrefixMill$Tree", name := "grow", desc := "(I)V" } : Jvm.MethodName) ({ cls := "PrefixMill$Tree", name := "grow", desc := "(I)V" } : Jvm.MethodName)) ∈ tt := List.mem_of_getElem? (i := 370) (by rfl)
set_option maxRecDepth 20000 in
theorem m_442 : (Jvm.Cond.code ({ cls := "PrefixMill$Tree", name := "grow", desc := "(I)V" } : Jvm.MethodName) prog_9_method_3_code (3 : Nat) (Option.none : Option Jvm.ClassFile.FieldType)) ∈ tt := List.mem_of_getElem? (i := 371) (by rfl)
set_option maxRecDepth 20000 in
theorem m_443 : (Jvm.Cond.methodLink "PrefixMill$Tree" (40 : Nat) ({ cls := "PrefixMill$Tree", name := "sortLeaves", desc := "()V" } : Jvm.MethodName)) ∈ tt := List.mem_of_getElem? (i := 372) (by rfl)
set_option maxRecDepth 20000 in
theorem m_445 : (Jvm.Cond.instanceMethod ({ cls := "PrefixMill$Tree", name := "sortLeaves", desc := "()V" } : Jvm.MethodName)) ∈ tt := List.mem_of_getElem? (i := 373) (by rfl)
set_option maxRecDepth 20000 in
theorem m_446 : (Jvm.Cond.code ({ cls := "PrefixMill$Tree", name := "sortLeaves", desc := "()V" } : Jvm.MethodName) prog_9_method_5_code (3 : Nat) (Option.none : Option Jvm.ClassFile.FieldType)) ∈ tt := List.mem_of_getElem? (i := 374) (by rfl)
set_option maxRecDepth 20000 in
theorem m_447 : (Jvm.Cond.methodLink "PrefixMill$Tree" (53 : Nat) ({ cls := "PrefixMill$Tree", name := "sortByByte", desc := "([I[II)V" } : Jvm.MethodName)) ∈ tt := List.mem_of_getElem? (i := 375) (by rfl)
set_option maxRecDepth 20000 in
theorem m_449 : (Jvm.Cond.instanceMethod ({ cls := "PrefixMill$Tree", name := "sortByByte", desc := "([I[II)V" } : Jvm.MethodName)) ∈ tt := List.mem_of_getElem? (i := 376) (by rfl)
set_option maxRecDepth 20000 in
theorem m_450 : (Jvm.Cond.code ({ cls := "PrefixMill$Tree", name := "sortByByte", desc := "([I[II)V" } : Jvm.MethodName) prog_9_method_6_code (6 : Nat) (Option.none : Option Jvm.ClassFile.FieldType)) ∈ tt := List.mem_of_getElem? (i := 377) (by rfl)
set_option maxRecDepth 20000 in
theorem m_451 : (Jvm.Cond.methodLink "PrefixMill$Tree" (57 : Nat) ({ cls := "java/util/Arrays", name := "fill", desc := "([II)V" } : Jvm.MethodName)) ∈ tt := List.mem_of_getElem? (i := 378) (by rfl)
set_option maxRecDepth 20000 in
theorem m_452 : (Jvm.Cond.methodLink "PrefixMill$Tree" (43 : Nat) ({ cls := "PrefixMill$Tree", name := "join", desc := "()V" } : Jvm.MethodName)) ∈ tt := List.mem_of_getElem? (i := 379) (by rfl)
set_option maxRecDepth 20000 in
theorem m_454 : (Jvm.Cond.instanceMethod ({ cls := "PrefixMill$Tree", name := "join", desc := "()V" } : Jvm.MethodName)) ∈ tt := List.mem_of_getElem? (i := 380) (by rfl)
set_option maxRecDepth 20000 in
theorem m_455 : (Jvm.Cond.code ({ cls := "PrefixMill$Tree", name := "join", desc := "()V" } : Jvm.MethodName) prog_9_method_7_code (4 : Nat) (Option.none : Option Jvm.ClassFile.FieldType)) ∈ tt := List.mem_of_getElem? (i := 381) (by rfl)
set_option maxRecDepth 20000 in
theorem m_456 : (Jvm.Cond.methodLink "PrefixMill$Tree" (69 : Nat) ({ cls := "PrefixMill$Tree", name := "least", desc := "(I)I" } : Jvm.MethodName)) ∈ tt := List.mem_of_getElem? (i := 382) (by rfl)
set_option maxRecDepth 20000 in
theorem m_458 : (Jvm.Cond.instanceMethod ({ cls := "PrefixMill$Tree", name := "least", desc := "(I)I" } : Jvm.MethodName)) ∈ tt := List.mem_of_getElem? (i := 383) (by rfl)
set_option maxRecDepth 20000 in
theorem m_459 : (Jvm.Cond.code ({ cls := "PrefixMill$Tree", name := "least", desc := "(I)I" } : Jvm.MethodName) prog_9_method_8_code (2 : Nat) (Option.some Jvm.ClassFile.FieldType.int)) ∈ tt := List.mem_of_getElem? (i := 384) (by rfl)
set_option maxRecDepth 20000 in
theorem m_460 : (Jvm.Cond.methodLink "PrefixMill$Tree" (46 : Nat) ({ cls := "PrefixMill$Tree", name := "measure", desc := "()I" } : Jvm.MethodName)) ∈ tt := List.mem_of_getElem? (i := 385) (by rfl)
set_option maxRecDepth 20000 in
theorem m_462 : (Jvm.Cond.instanceMethod ({ cls := "PrefixMill$Tree", name := "measure", desc := "()I" } : Jvm.MethodName)) ∈ tt := List.mem_of_getElem? (i := 386) (by rfl)
set_option maxRecDepth 20000 in
theorem m_463 : (Jvm.Cond.code ({ cls := "PrefixMill$Tree", name := "measure", desc := "()I" } : Jvm.MethodName) prog_9_method_9_code (3 : Nat) (Option.some Jvm.ClassFile.FieldType.int)) ∈ tt := List.mem_of_getElem? (i := 387) (by rfl)
set_option maxRecDepth 20000 in
theorem m_464 : (Jvm.Cond.methodLinkNest "PrefixMill$Tree" (73 : Nat) ({ cls := "PrefixMill", name := "greatestOf", desc := "([I)I" } : Jvm.MethodName) "PrefixMill") ∈ tt := List.mem_of_getElem? (i := 388) (by rfl)
set_option maxRecDepth 20000 in
theorem m_465 : (Jvm.Cond.static ({ cls := "PrefixMill", name := "greatestOf", desc := "([I)I" } : Jvm.MethodName)) ∈ tt := List.mem_of_getElem? (i := 389) (by rfl)
set_option maxRecDepth 20000 in
theorem m_466 : (Jvm.Cond.code ({ cls := "PrefixMill", name := "greatestOf", desc := "([I)I" } : Jvm.MethodName) prog_1_method_23_code (3 : Nat) (Option.some Jvm.ClassFile.FieldType.int)) ∈ tt := List.mem_of_getElem? (i := 390) (by rfl)
set_option maxRecDepth 20000 in
theorem m_467 : (Jvm.Cond.methodLink "PrefixMill" (161 : Nat) ({ cls := "java/lang/Math", name := "max", desc := "(II)I" } : Jvm.MethodName)) ∈ tt := List.mem_of_getElem? (i := 391) (by rfl)
set_option maxRecDepth 20000 in
theorem m_468 : (Jvm.Cond.static ({ cls := "java/lang/Math", name := "max", desc := "(II)I" } : Jvm.MethodName)) ∈ tt := List.mem_of_getElem? (i := 392) (by rfl)
set_option maxRecDepth 20000 in
theorem m_469 : (Jvm.Cond.code ({ cls := "java/lang/Math", name := "max", desc := "(II)I" } : Jvm.MethodName) prog_13_method_65_code (2 : Nat) (Option.some Jvm.ClassFile.FieldType.int)) ∈ tt := List.mem_of_getElem? (i := 393) (by rfl)
set_option maxRecDepth 20000 in
theorem m_470 : (Jvm.Cond.methodLink "PrefixMill$Tree" (50 : Nat) ({ cls := "PrefixMill$Tree", name := "halve", desc := "()V" } : Jvm.MethodName)) ∈ tt := List.mem_of_getElem? (i := 394) (by rfl)
set_option maxRecDepth 20000 in
theorem m_472 : (Jvm.Cond.instanceMethod ({ cls := "PrefixMill$Tree", name := "halve", desc := "()V" } : Jvm.MethodName)) ∈ tt := List.mem_of_getElem? (i := 395) (by rfl)
set_option maxRecDepth 20000 in
theorem m_473 : (Jvm.Cond.code ({ cls := "PrefixMill$Tree", name := "halve", desc := "()V" } : Jvm.MethodName) prog_9_method_4_code (2 : Nat) (Option.none : Option Jvm.ClassFile.FieldType)) ∈ tt := List.mem_of_getElem? (i := 396) (by rfl)
set_option maxRecDepth 20000 in
theorem m_474 : (Jvm.Cond.methodLink "PrefixMill" (102 : Nat) ({ cls := "PrefixMill$Codes", name := "become", desc := "([I)I" } : Jvm.MethodName)) ∈ tt := List.mem_of_getElem? (i := 397) (by rfl)
set_option maxRecDepth 20000 in
theorem m_475 : (Jvm.Cond.instanceMethod ({ cls := "PrefixMill$Codes", name := "become", desc := "([I)I" } : Jvm.MethodName)) ∈ tt := List.mem_of_getElem? (i := 398) (by rfl)
set_option maxRecDepth 20000 in
theorem m_476 : (Jvm.Cond.selects "PrefixMill$Codes" ({ cls := "PrefixMill$Codes", name := "become", desc := "([I)I" } : Jvm.MethodName) ({ cls := "PrefixMill$Codes", name := "become", desc := "([I)I" } : Jvm.MethodName)) ∈ tt := List.mem_of_getElem? (i := 399) (by rfl)
set_option maxRecDepth 20000 in
theorem m_477 : (Jvm.Cond.code ({ cls := "PrefixMill$Codes", name := "become", desc := "([I)I" } : Jvm.MethodName) prog_2_method_3_code (3 : Nat) (Option.some Jvm.ClassFile.FieldType.int)) ∈ tt := List.mem_of_getElem? (i := 400) (by rfl)
set_option maxRecDepth 20000 in
theorem m_478 : (Jvm.Cond.methodLinkNest "PrefixMill$Codes" (25 : Nat) ({ cls := "PrefixMill", name := "greatestOf", desc := "([I)I" } : Jvm.MethodName) "PrefixMill") ∈ tt := List.mem_of_getElem? (i := 401) (by rfl)
set_option maxRecDepth 20000 in
theorem m_479 : (Jvm.Cond.methodLink "PrefixMill$Codes" (35 : Nat) ({ cls := "PrefixMill$Codes", name := "fillCells", desc := "()V" } : Jvm.MethodName)) ∈ tt := List.mem_of_getElem? (i := 402) (by rfl)
set_option maxRecDepth 20000 in
theorem m_481 : (Jvm.Cond.instanceMethod ({ cls := "PrefixMill$Codes", name := "fillCells", desc := "()V" } : Jvm.MethodName)) ∈ tt := List.mem_of_getElem? (i := 403) (by rfl)
set_option maxRecDepth 20000 in
theorem m_482 : (Jvm.Cond.code ({ cls := "PrefixMill$Codes", name := "fillCells", desc := "()V" } : Jvm.MethodName) prog_2_method_4_code (4 : Nat) (Option.none : Option Jvm.ClassFile.FieldType)) ∈ tt := List.mem_of_getElem? (i := 404) (by rfl)
set_option maxRecDepth 20000 in
theorem m_483 : (Jvm.Cond.methodLink "PrefixMill$Codes" (38 : Nat) ({ cls := "PrefixMill$Codes", name := "giveCells", desc := "(III)I" } : Jvm.MethodName)) ∈ tt := List.mem_of_getElem? (i := 405) (by rfl)
set_option maxRecDepth 20000 in
theorem m_485 : (Jvm.Cond.instanceMethod ({ cls := "PrefixMill$Codes", name := "giveCells", desc := "(III)I" } : Jvm.MethodName)) ∈ tt := List.mem_of_getElem? (i := 406) (by rfl)
set_option maxRecDepth 20000 in
theorem m_486 : (Jvm.Cond.code ({ cls := "PrefixMill$Codes", name := "giveCells", desc := "(III)I" } : Jvm.MethodName) prog_2_method_5_code (6 : Nat) (Option.some Jvm.ClassFile.FieldType.int)) ∈ tt := List.mem_of_getElem? (i := 407) (by rfl)
set_option maxRecDepth 20000 in
theorem m_487 : (Jvm.Cond.methodLink "PrefixMill$Codes" (42 : Nat) ({ cls := "java/lang/Math", name := "min", desc := "(II)I" } : Jvm.MethodName)) ∈ tt := List.mem_of_getElem? (i := 408) (by rfl)
set_option maxRecDepth 20000 in
theorem m_488 : (Jvm.Cond.methodLink "PrefixMillLaw" (56 : Nat) ({ cls := "PrefixMill", name := "just", desc := "()I" } : Jvm.MethodName)) ∈ tt := List.mem_of_getElem? (i := 409) (by rfl)
set_option maxRecDepth 20000 in
theorem m_489 : (Jvm.Cond.instanceMethod ({ cls := "PrefixMill", name := "just", desc := "()I" } : Jvm.MethodName)) ∈ tt := List.mem_of_getElem? (i := 410) (by rfl)
set_option maxRecDepth 20000 in
theorem m_490 : (Jvm.Cond.selects "PrefixMill" ({ cls := "PrefixMill", name := "just", desc := "()I" } : Jvm.MethodName) ({ cls := "PrefixMill", name := "just", desc := "()I" } : Jvm.MethodName)) ∈ tt := List.mem_of_getElem? (i := 411) (by rfl)
set_option maxRecDepth 20000 in
theorem m_491 : (Jvm.Cond.code ({ cls := "PrefixMill", name := "just", desc := "()I" } : Jvm.MethodName) prog_1_method_11_code (1 : Nat) (Option.some Jvm.ClassFile.FieldType.int)) ∈ tt := List.mem_of_getElem? (i := 412) (by rfl)
set_option maxRecDepth 20000 in
theorem m_492 : (Jvm.Cond.methodLink "PrefixMill" (105 : Nat) ({ cls := "PrefixMill", name := "areLengths", desc := "([I)Z" } : Jvm.MethodName)) ∈ tt := List.mem_of_getElem? (i := 413) (by rfl)
set_option maxRecDepth 20000 in
theorem m_493 : (Jvm.Cond.static ({ cls := "PrefixMill", name := "areLengths", desc := "([I)Z" } : Jvm.MethodName)) ∈ tt := List.mem_of_getElem? (i := 414) (by rfl)
set_option maxRecDepth 20000 in
theorem m_494 : (Jvm.Cond.code ({ cls := "PrefixMill", name := "areLengths", desc := "([I)Z" } : Jvm.MethodName) prog_1_method_22_code (4 : Nat) (Option.some Jvm.ClassFile.FieldType.boolean)) ∈ tt := List.mem_of_getElem? (i := 415) (by rfl)
set_option maxRecDepth 20000 in
theorem m_495 : (Jvm.Cond.methodLink "PrefixMill" (158 : Nat) ({ cls := "PrefixMill", name := "greatestOf", desc := "([I)I" } : Jvm.MethodName)) ∈ tt := List.mem_of_getElem? (i := 416) (by rfl)
set_option maxRecDepth 20000 in
theorem m_496 : (Jvm.Cond.methodLink "PrefixMillLaw" (60 : Nat) ({ cls := "PrefixMill", name := "describe", desc := "()I" } : Jvm.MethodName)) ∈ tt := List.mem_of_getElem? (i := 417) (by rfl)
set_option maxRecDepth 20000 in
theorem m_497 : (Jvm.Cond.instanceMethod ({ cls := "PrefixMill", name := "describe", desc := "()I" } : Jvm.MethodName)) ∈ tt := List.mem_of_getElem? (i := 418) (by rfl)
set_option maxRecDepth 20000 in
theorem m_498 : (Jvm.Cond.selects "PrefixMill" ({ cls := "PrefixMill", name := "describe", desc := "()I" } : Jvm.MethodName) ({ cls := "PrefixMill", name := "describe", desc := "()I" } : Jvm.MethodName)) ∈ tt := List.mem_of_getElem? (i := 419) (by rfl)
set_option maxRecDepth 20000 in
theorem m_499 : (Jvm.Cond.code ({ cls := "PrefixMill", name := "describe", desc := "()I" } : Jvm.MethodName) prog_1_method_12_code (1 : Nat) (Option.some Jvm.ClassFile.FieldType.int)) ∈ tt := List.mem_of_getElem? (i := 420) (by rfl)
set_option maxRecDepth 20000 in
theorem m_500 : (Jvm.Cond.methodLink "PrefixMill" (109 : Nat) ({ cls := "PrefixMill$Codes", name := "areThere", desc := "()Z" } : Jvm.MethodName)) ∈ tt := List.mem_of_getElem? (i := 421) (by rfl)
set_option maxRecDepth 20000 in
theorem m_501 : (Jvm.Cond.instanceMethod ({ cls := "PrefixMill$Codes", name := "areThere", desc := "()Z" } : Jvm.MethodName)) ∈ tt := List.mem_of_getElem? (i := 422) (by rfl)
set_option maxRecDepth 20000 in
theorem m_502 : (Jvm.Cond.selects "PrefixMill$Codes" ({ cls := "PrefixMill$Codes", name := "areThere", desc := "()Z" } : Jvm.MethodName) ({ cls := "PrefixMill$Codes", name := "areThere", desc := "()Z" } : Jvm.MethodName)) ∈ tt := List.mem_of_getElem? (i := 423) (by rfl)
set_option maxRecDepth 20000 in
theorem m_503 : (Jvm.Cond.code ({ cls := "PrefixMill$Codes", name := "areThere", desc := "()Z" } : Jvm.MethodName) prog_2_method_2_code (1 : Nat) (Option.some Jvm.ClassFile.FieldType.boolean)) ∈ tt := List.mem_of_getElem? (i := 424) (by rfl)
set_option maxRecDepth 20000 in
theorem m_504 : (Jvm.Cond.methodLink "PrefixMill" (113 : Nat) ({ cls := "PrefixMill$Writer", name := "describeCodes", desc := "(LPrefixMill$Codes;LPrefixMill$Row;)I" } : Jvm.MethodName)) ∈ tt := List.mem_of_getElem? (i := 425) (by rfl)
set_option maxRecDepth 20000 in
theorem m_505 : (Jvm.Cond.instanceMethod ({ cls := "PrefixMill$Writer", name := "describeCodes", desc := "(LPrefixMill$Codes;LPrefixMill$Row;)I" } : Jvm.MethodName)) ∈ tt := List.mem_of_getElem? (i := 426) (by rfl)
set_option maxRecDepth 20000 in
theorem m_506 : (Jvm.Cond.selects "PrefixMill$Writer" ({ cls := "PrefixMill$Writer", name := "describeCodes", desc := "(LPrefixMill$Codes;LPrefixMill$Row;)I" } : Jvm.MethodName) ({ cls := "PrefixMill$Writer", name := "describeCodes", desc := "(LPrefixMill$Codes;LPrefixMill$Row;)I" } : Jvm.MethodName)) ∈ tt := List.mem_of_getElem? (i := 427) (by rfl)
set_option maxRecDepth 20000 in
theorem m_507 : (Jvm.Cond.code ({ cls := "PrefixMill$Writer", name := "describeCodes", desc := "(LPrefixMill$Codes;LPrefixMill$Row;)I" } : Jvm.MethodName) prog_10_method_2_code (8 : Nat) (Option.some Jvm.ClassFile.FieldType.int)) ∈ tt := List.mem_of_getElem? (i := 428) (by rfl)
set_option maxRecDepth 20000 in
theorem m_508 : (Jvm.Cond.methodLink "PrefixMill$Writer" (36 : Nat) ({ cls := "PrefixMill$Writer", name := "takeWeights", desc := "(LPrefixMill$Codes;I)V" } : Jvm.MethodName)) ∈ tt := List.mem_of_getElem? (i := 429) (by rfl)
set_option maxRecDepth 20000 in
theorem m_510 : (Jvm.Cond.instanceMethod ({ cls := "PrefixMill$Writer", name := "takeWeights", desc := "(LPrefixMill$Codes;I)V" } : Jvm.MethodName)) ∈ tt := List.mem_of_getElem? (i := 430) (by rfl)
set_option maxRecDepth 20000 in
theorem m_511 : (Jvm.Cond.code ({ cls := "PrefixMill$Writer", name := "takeWeights", desc := "(LPrefixMill$Codes;I)V" } : Jvm.MethodName) prog_10_method_3_code (4 : Nat) (Option.none : Option Jvm.ClassFile.FieldType)) ∈ tt := List.mem_of_getElem? (i := 431) (by rfl)
set_option maxRecDepth 20000 in
theorem m_512 : (Jvm.Cond.methodLink "PrefixMill$Writer" (64 : Nat) ({ cls := "java/util/Arrays", name := "fill", desc := "([II)V" } : Jvm.MethodName)) ∈ tt := List.mem_of_getElem? (i := 432) (by rfl)
set_option maxRecDepth 20000 in
theorem m_513 : (Jvm.Cond.methodLink "PrefixMill$Writer" (70 : Nat) ({ cls := "PrefixMill$Codes", name := "weightOf", desc := "(I)I" } : Jvm.MethodName)) ∈ tt := List.mem_of_getElem? (i := 433) (by rfl)
set_option maxRecDepth 20000 in
theorem m_514 : (Jvm.Cond.instanceMethod ({ cls := "PrefixMill$Codes", name := "weightOf", desc := "(I)I" } : Jvm.MethodName)) ∈ tt := List.mem_of_getElem? (i := 434) (by rfl)
set_option maxRecDepth 20000 in
theorem m_515 : (Jvm.Cond.selects "PrefixMill$Codes" ({ cls := "PrefixMill$Codes", name := "weightOf", desc := "(I)I" } : Jvm.MethodName) ({ cls := "PrefixMill$Codes", name := "weightOf", desc := "(I)I" } : Jvm.MethodName)) ∈ tt := List.mem_of_getElem? (i := 435) (by rfl)
set_option maxRecDepth 20000 in
theorem m_516 : (Jvm.Cond.code ({ cls := "PrefixMill$Codes", name := "weightOf", desc := "(I)I" } : Jvm.MethodName) prog_2_method_6_code (2 : Nat) (Option.some Jvm.ClassFile.FieldType.int)) ∈ tt := List.mem_of_getElem? (i := 436) (by rfl)
set_option maxRecDepth 20000 in
theorem m_517 : (Jvm.Cond.methodLink "PrefixMill$Writer" (40 : Nat) ({ cls := "PrefixMill$Draft", name := "compose", desc := "([II[I)V" } : Jvm.MethodName)) ∈ tt := List.mem_of_getElem? (i := 437) (by rfl)
set_option maxRecDepth 20000 in
theorem m_518 : (Jvm.Cond.instanceMethod ({ cls := "PrefixMill$Draft", name := "compose", desc := "([II[I)V" } : Jvm.MethodName)) ∈ tt := List.mem_of_getElem? (i := 438) (by rfl)
set_option maxRecDepth 20000 in
theorem m_519 : (Jvm.Cond.selects "PrefixMill$Draft" ({ cls := "PrefixMill$Draft", name := "compose", desc := "([II[I)V" } : Jvm.MethodName) ({ cls := "PrefixMill$Draft", name := "compose", desc := "([II[I)V" } : Jvm.MethodName)) ∈ tt := List.mem_of_getElem? (i := 439) (by rfl)
set_option maxRecDepth 20000 in
theorem m_520 : (Jvm.Cond.code ({ cls := "PrefixMill$Draft", name := "compose", desc := "([II[I)V" } : Jvm.MethodName) prog_3_method_2_code (8 : Nat) (Option.none : Option Jvm.ClassFile.FieldType)) ∈ tt := List.mem_of_getElem? (i := 440) (by rfl)
set_option maxRecDepth 20000 in
theorem m_521 : (Jvm.Cond.methodLink "PrefixMill$Draft" (29 : Nat) ({ cls := "PrefixMill$Row", name := "empty", desc := "()V" } : Jvm.MethodName)) ∈ tt := List.mem_of_getElem? (i := 441) (by rfl)
set_option maxRecDepth 20000 in
theorem m_522 : (Jvm.Cond.methodLink "PrefixMill$Draft" (32 : Nat) ({ cls := "PrefixMill$Share", name := "byCounts", desc := "(I[II)V" } : Jvm.MethodName)) ∈ tt := List.mem_of_getElem? (i := 442) (by rfl)
set_option maxRecDepth 20000 in
theorem m_523 : (Jvm.Cond.instanceMethod ({ cls := "PrefixMill$Share", name := "byCounts", desc := "(I[II)V" } : Jvm.MethodName)) ∈ tt := List.mem_of_getElem? (i := 443) (by rfl)
set_option maxRecDepth 20000 in
theorem m_524 : (Jvm.Cond.selects "PrefixMill$Share" ({ cls := "PrefixMill$Share", name := "byCounts", desc := "(I[II)V" } : Jvm.MethodName) ({ cls := "PrefixMill$Share", name := "byCounts", desc := "(I[II)V" } : Jvm.MethodName)) ∈ tt := List.mem_of_getElem? (i := 444) (by rfl)
set_option maxRecDepth 20000 in
theorem m_525 : (Jvm.Cond.code ({ cls := "PrefixMill$Share", name := "byCounts", desc := "(I[II)V" } : Jvm.MethodName) prog_6_method_4_code (6 : Nat) (Option.none : Option Jvm.ClassFile.FieldType)) ∈ tt := List.mem_of_getElem? (i := 445) (by rfl)
set_option maxRecDepth 20000 in
theorem m_526 : (Jvm.Cond.methodLink "PrefixMill$Share" (55 : Nat) ({ cls := "java/lang/Math", name := "max", desc := "(II)I" } : Jvm.MethodName)) ∈ tt := List.mem_of_getElem? (i := 446) (by rfl)
set_option maxRecDepth 20000 in
theorem m_527 : (Jvm.Cond.methodLink "PrefixMill$Share" (59 : Nat) ({ cls := "PrefixMill$Share", name := "lacking", desc := "()I" } : Jvm.MethodName)) ∈ tt := List.mem_of_getElem? (i := 447) (by rfl)
set_option maxRecDepth 20000 in
theorem m_529 : (Jvm.Cond.instanceMethod ({ cls := "PrefixMill$Share", name := "lacking", desc := "()I" } : Jvm.MethodName)) ∈ tt := List.mem_of_getElem? (i := 448) (by rfl)
set_option maxRecDepth 20000 in
theorem m_530 : (Jvm.Cond.code ({ cls := "PrefixMill$Share", name := "lacking", desc := "()I" } : Jvm.MethodName) prog_6_method_3_code (3 : Nat) (Option.some Jvm.ClassFile.FieldType.int)) ∈ tt := List.mem_of_getElem? (i := 449) (by rfl)
set_option maxRecDepth 20000 in
theorem m_531 : (Jvm.Cond.methodLink "PrefixMill$Share" (52 : Nat) ({ cls := "PrefixMill$Share", name := "massOf", desc := "(I)I" } : Jvm.MethodName)) ∈ tt := List.mem_of_getElem? (i := 450) (by rfl)
set_option maxRecDepth 20000 in
theorem m_533 : (Jvm.Cond.instanceMethod ({ cls := "PrefixMill$Share", name := "massOf", desc := "(I)I" } : Jvm.MethodName)) ∈ tt := List.mem_of_getElem? (i := 451) (by rfl)
set_option maxRecDepth 20000 in
theorem m_534 : (Jvm.Cond.code ({ cls := "PrefixMill$Share", name := "massOf", desc := "(I)I" } : Jvm.MethodName) prog_6_method_2_code (2 : Nat) (Option.some Jvm.ClassFile.FieldType.int)) ∈ tt := List.mem_of_getElem? (i := 452) (by rfl)
set_option maxRecDepth 20000 in
theorem m_535 : (Jvm.Cond.methodLink "PrefixMill$Share" (42 : Nat) ({ cls := "java/lang/Math", name := "abs", desc := "(I)I" } : Jvm.MethodName)) ∈ tt := List.mem_of_getElem? (i := 453) (by rfl)
set_option maxRecDepth 20000 in
theorem m_536 : (Jvm.Cond.static ({ cls := "java/lang/Math", name := "abs", desc := "(I)I" } : Jvm.MethodName)) ∈ tt := List.mem_of_getElem? (i := 454) (by rfl)
set_option maxRecDepth 20000 in
theorem m_537 : (Jvm.Cond.code ({ cls := "java/lang/Math", name := "abs", desc := "(I)I" } : Jvm.MethodName) prog_13_method_59_code (1 : Nat) (Option.some Jvm.ClassFile.FieldType.int)) ∈ tt := List.mem_of_getElem? (i := 455) (by rfl)
set_option maxRecDepth 20000 in
theorem m_538 : (Jvm.Cond.methodLink "PrefixMill$Share" (63 : Nat) ({ cls := "PrefixMill$Share", name := "give", desc := "(I)V" } : Jvm.MethodName)) ∈ tt := List.mem_of_getElem? (i := 456) (by rfl)
set_option maxRecDepth 20000 in
theorem m_540 : (Jvm.Cond.instanceMethod ({ cls := "PrefixMill$Share", name := "give", desc := "(I)V" } : Jvm.MethodName)) ∈ tt := List.mem_of_getElem? (i := 457) (by rfl)
set_option maxRecDepth 20000 in
theorem m_541 : (Jvm.Cond.code ({ cls := "PrefixMill$Share", name := "give", desc := "(I)V" } : Jvm.MethodName) prog_6_method_5_code (4 : Nat) (Option.none : Option Jvm.ClassFile.FieldType)) ∈ tt := List.mem_of_getElem? (i := 458) (by rfl)
set_option maxRecDepth 20000 in
theorem m_542 : (Jvm.Cond.methodLink "PrefixMill$Share" (73 : Nat) ({ cls := "PrefixMill$Share", name := "queueByCuts", desc := "()I" } : Jvm.MethodName)) ∈ tt := List.mem_of_getElem? (i := 459) (by rfl)
set_option maxRecDepth 20000 in
theorem m_544 : (Jvm.Cond.instanceMethod ({ cls := "PrefixMill$Share", name := "queueByCuts", desc := "()I" } : Jvm.MethodName)) ∈ tt := List.mem_of_getElem? (i := 460) (by rfl)
set_option maxRecDepth 20000 in
theorem m_545 : (Jvm.Cond.code ({ cls := "PrefixMill$Share", name := "queueByCuts", desc := "()I" } : Jvm.MethodName) prog_6_method_6_code (4 : Nat) (Option.some Jvm.ClassFile.FieldType.int)) ∈ tt := List.mem_of_getElem? (i := 461) (by rfl)
set_option maxRecDepth 20000 in
theorem m_546 : (Jvm.Cond.methodLink "PrefixMill$Share" (67 : Nat) ({ cls := "PrefixMill$Share", name := "takeAway", desc := "(I)V" } : Jvm.MethodName)) ∈ tt := List.mem_of_getElem? (i := 462) (by rfl)
set_option maxRecDepth 20000 in
theorem m_548 : (Jvm.Cond.instanceMethod ({ cls := "PrefixMill$Share", name := "takeAway", desc := "(I)V" } : Jvm.MethodName)) ∈ tt := List.mem_of_getElem? (i := 463) (by rfl)
set_option maxRecDepth 20000 in
theorem m_549 : (Jvm.Cond.code ({ cls := "PrefixMill$Share", name := "takeAway", desc := "(I)V" } : Jvm.MethodName) prog_6_method_7_code (5 : Nat) (Option.none : Option Jvm.ClassFile.FieldType)) ∈ tt := List.mem_of_getElem? (i := 464) (by rfl)
set_option maxRecDepth 20000 in
theorem m_550 : (Jvm.Cond.methodLink "PrefixMill$Share" (70 : Nat) ({ cls := "PrefixMill$Share", name := "layOut", desc := "()V" } : Jvm.MethodName)) ∈ tt := List.mem_of_getElem? (i := 465) (by rfl)
set_option maxRecDepth 20000 in
theorem m_552 : (Jvm.Cond.instanceMethod ({ cls := "PrefixMill$Share", name := "layOut", desc := "()V" } : Jvm.MethodName)) ∈ tt := List.mem_of_getElem? (i := 466) (by rfl)
set_option maxRecDepth 20000 in
theorem m_553 : (Jvm.Cond.code ({ cls := "PrefixMill$Share", name := "layOut", desc := "()V" } : Jvm.MethodName) prog_6_method_8_code (2 : Nat) (Option.none : Option Jvm.ClassFile.FieldType)) ∈ tt := List.mem_of_getElem? (i := 467) (by rfl)
set_option maxRecDepth 20000 in
theorem m_554 : (Jvm.Cond.methodLink "PrefixMill$Share" (76 : Nat) ({ cls := "PrefixMill$Share", name := "giveHighest", desc := "()I" } : Jvm.MethodName)) ∈ tt := List.mem_of_getElem? (i := 468) (by rfl)
set_option maxRecDepth 20000 in
theorem m_556 : (Jvm.Cond.instanceMethod ({ cls := "PrefixMill$Share", name := "giveHighest", desc := "()I" } : Jvm.MethodName)) ∈ tt := List.mem_of_getElem? (i := 469) (by rfl)
set_option maxRecDepth 20000 in
theorem m_557 : (Jvm.Cond.code ({ cls := "PrefixMill$Share", name := "giveHighest", desc := "()I" } : Jvm.MethodName) prog_6_method_9_code (3 : Nat) (Option.some Jvm.ClassFile.FieldType.int)) ∈ tt := List.mem_of_getElem? (i := 470) (by rfl)
set_option maxRecDepth 20000 in
theorem m_558 : (Jvm.Cond.methodLink "PrefixMill$Share" (79 : Nat) ({ cls := "PrefixMill$Share", name := "giveByWalk", desc := "(I)V" } : Jvm.MethodName)) ∈ tt := List.mem_of_getElem? (i := 471) (by rfl)
set_option maxRecDepth 20000 in
theorem m_560 : (Jvm.Cond.instanceMethod ({ cls := "PrefixMill$Share", name := "giveByWalk", desc := "(I)V" } : Jvm.MethodName)) ∈ tt := List.mem_of_getElem? (i := 472) (by rfl)
set_option maxRecDepth 20000 in
theorem m_561 : (Jvm.Cond.code ({ cls := "PrefixMill$Share", name := "giveByWalk", desc := "(I)V" } : Jvm.MethodName) prog_6_method_10_code (8 : Nat) (Option.none : Option Jvm.ClassFile.FieldType)) ∈ tt := List.mem_of_getElem? (i := 473) (by rfl)
set_option maxRecDepth 20000 in
theorem m_562 : (Jvm.Cond.methodLink "PrefixMill$Share" (82 : Nat) ({ cls := "PrefixMill$Share", name := "rank", desc := "()V" } : Jvm.MethodName)) ∈ tt := List.mem_of_getElem? (i := 474) (by rfl)
set_option maxRecDepth 20000 in
theorem m_564 : (Jvm.Cond.instanceMethod ({ cls := "PrefixMill$Share", name := "rank", desc := "()V" } : Jvm.MethodName)) ∈ tt := List.mem_of_getElem? (i := 475) (by rfl)
set_option maxRecDepth 20000 in
theorem m_565 : (Jvm.Cond.code ({ cls := "PrefixMill$Share", name := "rank", desc := "()V" } : Jvm.MethodName) prog_6_method_11_code (6 : Nat) (Option.none : Option Jvm.ClassFile.FieldType)) ∈ tt := List.mem_of_getElem? (i := 476) (by rfl)
set_option maxRecDepth 20000 in
theorem m_566 : (Jvm.Cond.methodLinkNest "PrefixMill$Share" (85 : Nat) ({ cls := "PrefixMill", name := "log2", desc := "(I)I" } : Jvm.MethodName) "PrefixMill") ∈ tt := List.mem_of_getElem? (i := 477) (by rfl)
set_option maxRecDepth 20000 in
theorem m_567 : (Jvm.Cond.static ({ cls := "PrefixMill", name := "log2", desc := "(I)I" } : Jvm.MethodName)) ∈ tt := List.mem_of_getElem? (i := 478) (by rfl)
set_option maxRecDepth 20000 in
theorem m_568 : (Jvm.Cond.code ({ cls := "PrefixMill", name := "log2", desc := "(I)I" } : Jvm.MethodName) prog_1_method_21_code (2 : Nat) (Option.some Jvm.ClassFile.FieldType.int)) ∈ tt := List.mem_of_getElem? (i := 479) (by rfl)
set_option maxRecDepth 20000 in
theorem m_569 : (Jvm.Cond.methodLink "PrefixMill$Draft" (36 : Nat) ({ cls := "PrefixMill$Share", name := "put", desc := "(LPrefixMill$Row;)V" } : Jvm.MethodName)) ∈ tt := List.mem_of_getElem? (i := 480) (by rfl)
set_option maxRecDepth 20000 in
theorem m_570 : (Jvm.Cond.instanceMethod ({ cls := "PrefixMill$Share", name := "put", desc := "(LPrefixMill$Row;)V" } : Jvm.MethodName)) ∈ tt := List.mem_of_getElem? (i := 481) (by rfl)
set_option maxRecDepth 20000 in
theorem m_571 : (Jvm.Cond.selects "PrefixMill$Share" ({ cls := "PrefixMill$Share", name := "put", desc := "(LPrefixMill$Row;)V" } : Jvm.MethodName) ({ cls := "PrefixMill$Share", name := "put", desc := "(LPrefixMill$Row;)V" } : Jvm.MethodName)) ∈ tt := List.mem_of_getElem? (i := 482) (by rfl)
set_option maxRecDepth 20000 in
theorem m_572 : (Jvm.Cond.code ({ cls := "PrefixMill$Share", name := "put", desc := "(LPrefixMill$Row;)V" } : Jvm.MethodName) prog_6_method_14_code (4 : Nat) (Option.none : Option Jvm.ClassFile.FieldType)) ∈ tt := List.mem_of_getElem? (i := 483) (by rfl)
set_option maxRecDepth 20000 in
theorem m_573 : (Jvm.Cond.methodLink "PrefixMill$Share" (88 : Nat) ({ cls := "PrefixMill$Row", name := "put", desc := "(II)V" } : Jvm.MethodName)) ∈ tt := List.mem_of_getElem? (i := 484) (by rfl)
set_option maxRecDepth 20000 in
theorem m_574 : (Jvm.Cond.instanceMethod ({ cls := "PrefixMill$Row", name := "put", desc := "(II)V" } : Jvm.MethodName)) ∈ tt := List.mem_of_getElem? (i := 485) (by rfl)
set_option maxRecDepth 20000 in
theorem m_575 : (Jvm.Cond.selects "PrefixMill$Row" ({ cls := "PrefixMill$Row", name := "put", desc := "(II)V" } : Jvm.MethodName) ({ cls := "PrefixMill$Row", name := "put", desc := "(II)V" } : Jvm.MethodName)) ∈ tt := List.mem_of_getElem? (i := 486) (by rfl)
set_option maxRecDepth 20000 in
theorem m_576 : (Jvm.Cond.code ({ cls := "PrefixMill$Row", name := "put", desc := "(II)V" } : Jvm.MethodName) prog_5_method_7_code (3 : Nat) (Option.none : Option Jvm.ClassFile.FieldType)) ∈ tt := List.mem_of_getElem? (i := 487) (by rfl)
set_option maxRecDepth 20000 in
theorem m_577 : (Jvm.Cond.methodLink "PrefixMill$Row" (49 : Nat) ({ cls := "PrefixMill$Row", name := "add", desc := "(I)V" } : Jvm.MethodName)) ∈ tt := List.mem_of_getElem? (i := 488) (by rfl)
set_option maxRecDepth 20000 in
theorem m_578 : (Jvm.Cond.methodLink "PrefixMill$Share" (94 : Nat) ({ cls := "PrefixMill$Share", name := "putPoints", desc := "(LPrefixMill$Row;II)V" } : Jvm.MethodName)) ∈ tt := List.mem_of_getElem? (i := 489) (by rfl)
set_option maxRecDepth 20000 in
theorem m_579 : (Jvm.Cond.static ({ cls := "PrefixMill$Share", name := "putPoints", desc := "(LPrefixMill$Row;II)V" } : Jvm.MethodName)) ∈ tt := List.mem_of_getElem? (i := 490) (by rfl)
set_option maxRecDepth 20000 in
theorem m_580 : (Jvm.Cond.code ({ cls := "PrefixMill$Share", name := "putPoints", desc := "(LPrefixMill$Row;II)V" } : Jvm.MethodName) prog_6_method_15_code (6 : Nat) (Option.none : Option Jvm.ClassFile.FieldType)) ∈ tt := List.mem_of_getElem? (i := 491) (by rfl)
set_option maxRecDepth 20000 in
theorem m_581 : (Jvm.Cond.methodLink "PrefixMill$Share" (98 : Nat) ({ cls := "PrefixMill$Share", name := "putNone", desc := "(LPrefixMill$Row;I)I" } : Jvm.MethodName)) ∈ tt := List.mem_of_getElem? (i := 492) (by rfl)
set_option maxRecDepth 20000 in
theorem m_583 : (Jvm.Cond.instanceMethod ({ cls := "PrefixMill$Share", name := "putNone", desc := "(LPrefixMill$Row;I)I" } : Jvm.MethodName)) ∈ tt := List.mem_of_getElem? (i := 493) (by rfl)
set_option maxRecDepth 20000 in
theorem m_584 : (Jvm.Cond.code ({ cls := "PrefixMill$Share", name := "putNone", desc := "(LPrefixMill$Row;I)I" } : Jvm.MethodName) prog_6_method_16_code (5 : Nat) (Option.some Jvm.ClassFile.FieldType.int)) ∈ tt := List.mem_of_getElem? (i := 494) (by rfl)
set_option maxRecDepth 20000 in
theorem m_585 : (Jvm.Cond.methodLink "PrefixMill$Share" (102 : Nat) ({ cls := "PrefixMill$Row", name := "pad", desc := "()V" } : Jvm.MethodName)) ∈ tt := List.mem_of_getElem? (i := 495) (by rfl)
set_option maxRecDepth 20000 in
theorem m_586 : (Jvm.Cond.instanceMethod ({ cls := "PrefixMill$Row", name := "pad", desc := "()V" } : Jvm.MethodName)) ∈ tt := List.mem_of_getElem? (i := 496) (by rfl)
set_option maxRecDepth 20000 in
theorem m_587 : (Jvm.Cond.selects "PrefixMill$Row" ({ cls := "PrefixMill$Row", name := "pad", desc := "()V" } : Jvm.MethodName) ({ cls := "PrefixMill$Row", name := "pad", desc := "()V" } : Jvm.MethodName)) ∈ tt := List.mem_of_getElem? (i := 497) (by rfl)
set_option maxRecDepth 20000 in
theorem m_588 : (Jvm.Cond.code ({ cls := "PrefixMill$Row", name := "pad", desc := "()V" } : Jvm.MethodName) prog_5_method_8_code (1 : Nat) (Option.none : Option Jvm.ClassFile.FieldType)) ∈ tt := List.mem_of_getElem? (i := 498) (by rfl)
set_option maxRecDepth 20000 in
theorem m_589 : (Jvm.Cond.methodLink "PrefixMill$Row" (53 : Nat) ({ cls := "PrefixMill$Row", name := "put", desc := "(II)V" } : Jvm.MethodName)) ∈ tt := List.mem_of_getElem? (i := 499) (by rfl)
set_option maxRecDepth 20000 in
theorem m_590 : (Jvm.Cond.methodLink "PrefixMill$Draft" (40 : Nat) ({ cls := "PrefixMill$Share", name := "lowestPlace", desc := "(I)I" } : Jvm.MethodName)) ∈ tt := List.mem_of_getElem? (i := 500) (by rfl)
set_option maxRecDepth 20000 in
theorem m_591 : (Jvm.Cond.instanceMethod ({ cls := "PrefixMill$Share", name := "lowestPlace", desc := "(I)I" } : Jvm.MethodName)) ∈ tt := List.mem_of_getElem? (i := 501) (by rfl)
set_option maxRecDepth 20000 in
theorem m_592 : (Jvm.Cond.selects "PrefixMill$Share" ({ cls := "PrefixMill$Share", name := "lowestPlace", desc := "(I)I" } : Jvm.MethodName) ({ cls := "PrefixMill$Share", name := "lowestPlace", desc := "(I)I" } : Jvm.MethodName)) ∈ tt := List.mem_of_getElem? (i := 502) (by rfl)
set_option maxRecDepth 20000 in
theorem m_593 : (Jvm.Cond.code ({ cls := "PrefixMill$Share", name := "lowestPlace", desc := "(I)I" } : Jvm.MethodName) prog_6_method_12_code (2 : Nat) (Option.some Jvm.ClassFile.FieldType.int)) ∈ tt := List.mem_of_getElem? (i := 503) (by rfl)
set_option maxRecDepth 20000 in
theorem m_594 : (Jvm.Cond.methodLink "PrefixMill$Draft" (44 : Nat) ({ cls := "PrefixMill$Share", name := "placeBefore", desc := "(II)I" } : Jvm.MethodName)) ∈ tt := List.mem_of_getElem? (i := 504) (by rfl)
set_option maxRecDepth 20000 in
theorem m_595 : (Jvm.Cond.instanceMethod ({ cls := "PrefixMill$Share", name := "placeBefore", desc := "(II)I" } : Jvm.MethodName)) ∈ tt := List.mem_of_getElem? (i := 505) (by rfl)
set_option maxRecDepth 20000 in
theorem m_596 : (Jvm.Cond.selects "PrefixMill$Share" ({ cls := "PrefixMill$Share", name := "placeBefore", desc := "(II)I" } : Jvm.MethodName) ({ cls := "PrefixMill$Share", name := "placeBefore", desc := "(II)I" } : Jvm.MethodName)) ∈ tt := List.mem_of_getElem? (i := 506) (by rfl)
set_option maxRecDepth 20000 in
theorem m_597 : (Jvm.Cond.code ({ cls := "PrefixMill$Share", name := "placeBefore", desc := "(II)I" } : Jvm.MethodName) prog_6_method_13_code (5 : Nat) (Option.some Jvm.ClassFile.FieldType.int)) ∈ tt := List.mem_of_getElem? (i := 507) (by rfl)
set_option maxRecDepth 20000 in
theorem m_598 : (Jvm.Cond.methodLink "PrefixMill$Draft" (55 : Nat) ({ cls := "PrefixMill$Row", name := "put", desc := "(II)V" } : Jvm.MethodName)) ∈ tt := List.mem_of_getElem? (i := 508) (by rfl)
set_option maxRecDepth 20000 in
theorem m_599 : (Jvm.Cond.methodLink "PrefixMill$Draft" (58 : Nat) ({ cls := "PrefixMill$Row", name := "finish", desc := "()V" } : Jvm.MethodName)) ∈ tt := List.mem_of_getElem? (i := 509) (by rfl)
set_option maxRecDepth 20000 in
theorem m_600 : (Jvm.Cond.instanceMethod ({ cls := "PrefixMill$Row", name := "finish", desc := "()V" } : Jvm.MethodName)) ∈ tt := List.mem_of_getElem? (i := 510) (by rfl)
set_option maxRecDepth 20000 in
theorem m_601 : (Jvm.Cond.selects "PrefixMill$Row" ({ cls := "PrefixMill$Row", name := "finish", desc := "()V" } : Jvm.MethodName) ({ cls := "PrefixMill$Row", name := "finish", desc := "()V" } : Jvm.MethodName)) ∈ tt := List.mem_of_getElem? (i := 511) (by rfl)
set_option maxRecDepth 20000 in
theorem m_602 : (Jvm.Cond.code ({ cls := "PrefixMill$Row", name := "finish", desc := "()V" } : Jvm.MethodName) prog_5_method_9_code (1 : Nat) (Option.none : Option Jvm.ClassFile.FieldType)) ∈ tt := List.mem_of_getElem? (i := 512) (by rfl)
set_option maxRecDepth 20000 in
theorem m_603 : (Jvm.Cond.methodLink "PrefixMill$Row" (57 : Nat) ({ cls := "PrefixMill$Row", name := "pad", desc := "()V" } : Jvm.MethodName)) ∈ tt := List.mem_of_getElem? (i := 513) (by rfl)
set_option maxRecDepth 20000 in
theorem m_604 : (Jvm.Cond.methodLink "PrefixMill$Writer" (53 : Nat) ({ cls := "PrefixMill$Row", name := "empty", desc := "()V" } : Jvm.MethodName)) ∈ tt := List.mem_of_getElem? (i := 514) (by rfl)
set_option maxRecDepth 20000 in
theorem m_605 : (Jvm.Cond.methodLink "PrefixMill$Writer" (56 : Nat) ({ cls := "PrefixMill$Writer", name := "putDirect", desc := "(LPrefixMill$Row;I)V" } : Jvm.MethodName)) ∈ tt := List.mem_of_getElem? (i := 515) (by rfl)
set_option maxRecDepth 20000 in
theorem m_607 : (Jvm.Cond.instanceMethod ({ cls := "PrefixMill$Writer", name := "putDirect", desc := "(LPrefixMill$Row;I)V" } : Jvm.MethodName)) ∈ tt := List.mem_of_getElem? (i := 516) (by rfl)
set_option maxRecDepth 20000 in
theorem m_608 : (Jvm.Cond.code ({ cls := "PrefixMill$Writer", name := "putDirect", desc := "(LPrefixMill$Row;I)V" } : Jvm.MethodName) prog_10_method_4_code (5 : Nat) (Option.none : Option Jvm.ClassFile.FieldType)) ∈ tt := List.mem_of_getElem? (i := 517) (by rfl)
set_option maxRecDepth 20000 in
theorem m_609 : (Jvm.Cond.methodLink "PrefixMill$Writer" (74 : Nat) ({ cls := "PrefixMill$Row", name := "add", desc := "(I)V" } : Jvm.MethodName)) ∈ tt := List.mem_of_getElem? (i := 518) (by rfl)
set_option maxRecDepth 20000 in
theorem m_610 : (Jvm.Cond.methodLink "PrefixMill$Writer" (60 : Nat) ({ cls := "PrefixMill$Writer", name := "putStates", desc := "(LPrefixMill$Row;LPrefixMill$Row;)V" } : Jvm.MethodName)) ∈ tt := List.mem_of_getElem? (i := 519) (by rfl)
set_option maxRecDepth 20000 in
theorem m_611 : (Jvm.Cond.static ({ cls := "PrefixMill$Writer", name := "putStates", desc := "(LPrefixMill$Row;LPrefixMill$Row;)V" } : Jvm.MethodName)) ∈ tt := List.mem_of_getElem? (i := 520) (by rfl)
set_option maxRecDepth 20000 in
theorem m_612 : (Jvm.Cond.code ({ cls := "PrefixMill$Writer", name := "putStates", desc := "(LPrefixMill$Row;LPrefixMill$Row;)V" } : Jvm.MethodName) prog_10_method_5_code (3 : Nat) (Option.none : Option Jvm.ClassFile.FieldType)) ∈ tt := List.mem_of_getElem? (i := 521) (by rfl)
set_option maxRecDepth 20000 in
theorem m_613 : (Jvm.Cond.methodLink "PrefixMill$Writer" (77 : Nat) ({ cls := "PrefixMill$Row", name := "get", desc := "(I)I" } : Jvm.MethodName)) ∈ tt := List.mem_of_getElem? (i := 522) (by rfl)
set_option maxRecDepth 20000 in
theorem m_614 : (Jvm.Cond.methodLink "PrefixMillLaw" (64 : Nat) ({ cls := "PrefixMill", name := "read", desc := "()I" } : Jvm.MethodName)) ∈ tt := List.mem_of_getElem? (i := 523) (by rfl)
set_option maxRecDepth 20000 in
theorem m_615 : (Jvm.Cond.instanceMethod ({ cls := "PrefixMill", name := "read", desc := "()I" } : Jvm.MethodName)) ∈ tt := List.mem_of_getElem? (i := 524) (by rfl)
set_option maxRecDepth 20000 in
theorem m_616 : (Jvm.Cond.selects "PrefixMill" ({ cls := "PrefixMill", name := "read", desc := "()I" } : Jvm.MethodName) ({ cls := "PrefixMill", name := "read", desc := "()I" } : Jvm.MethodName)) ∈ tt := List.mem_of_getElem? (i := 525) (by rfl)
set_option maxRecDepth 20000 in
theorem m_617 : (Jvm.Cond.code ({ cls := "PrefixMill", name := "read", desc := "()I" } : Jvm.MethodName) prog_1_method_13_code (2 : Nat) (Option.some Jvm.ClassFile.FieldType.int)) ∈ tt := List.mem_of_getElem? (i := 526) (by rfl)
set_option maxRecDepth 20000 in
theorem m_618 : (Jvm.Cond.methodLink "PrefixMill" (117 : Nat) ({ cls := "PrefixMill$Reader", name := "readCodes", desc := "(LPrefixMill$Row;I)I" } : Jvm.MethodName)) ∈ tt := List.mem_of_getElem? (i := 527) (by rfl)
set_option maxRecDepth 20000 in
theorem m_619 : (Jvm.Cond.instanceMethod ({ cls := "PrefixMill$Reader", name := "readCodes", desc := "(LPrefixMill$Row;I)I" } : Jvm.MethodName)) ∈ tt := List.mem_of_getElem? (i := 528) (by rfl)
set_option maxRecDepth 20000 in
theorem m_620 : (Jvm.Cond.selects "PrefixMill$Reader" ({ cls := "PrefixMill$Reader", name := "readCodes", desc := "(LPrefixMill$Row;I)I" } : Jvm.MethodName) ({ cls := "PrefixMill$Reader", name := "readCodes", desc := "(LPrefixMill$Row;I)I" } : Jvm.MethodName)) ∈ tt := List.mem_of_getElem? (i := 529) (by rfl)
set_option maxRecDepth 20000 in
theorem m_621 : (Jvm.Cond.code ({ cls := "PrefixMill$Reader", name := "readCodes", desc := "(LPrefixMill$Row;I)I" } : Jvm.MethodName) prog_4_method_2_code (6 : Nat) (Option.some Jvm.ClassFile.FieldType.int)) ∈ tt := List.mem_of_getElem? (i := 530) (by rfl)
set_option maxRecDepth 20000 in
theorem m_622 : (Jvm.Cond.methodLink "PrefixMill$Reader" (32 : Nat) ({ cls := "PrefixMill$Row", name := "get", desc := "(I)I" } : Jvm.MethodName)) ∈ tt := List.mem_of_getElem? (i := 531) (by rfl)
set_option maxRecDepth 20000 in
theorem m_623 : (Jvm.Cond.methodLink "PrefixMill$Reader" (45 : Nat) ({ cls := "PrefixMill$Reader", name := "takeDirect", desc := "(LPrefixMill$Row;II)V" } : Jvm.MethodName)) ∈ tt := List.mem_of_getElem? (i := 532) (by rfl)
set_option maxRecDepth 20000 in
theorem m_625 : (Jvm.Cond.instanceMethod ({ cls := "PrefixMill$Reader", name := "takeDirect", desc := "(LPrefixMill$Row;II)V" } : Jvm.MethodName)) ∈ tt := List.mem_of_getElem? (i := 533) (by rfl)
set_option maxRecDepth 20000 in
theorem m_626 : (Jvm.Cond.code ({ cls := "PrefixMill$Reader", name := "takeDirect", desc := "(LPrefixMill$Row;II)V" } : Jvm.MethodName) prog_4_method_3_code (6 : Nat) (Option.none : Option Jvm.ClassFile.FieldType)) ∈ tt := List.mem_of_getElem? (i := 534) (by rfl)
set_option maxRecDepth 20000 in
theorem m_627 : (Jvm.Cond.methodLink "PrefixMill$Reader" (49 : Nat) ({ cls := "PrefixMill$Share", name := "take", desc := "(LPrefixMill$Row;II)I" } : Jvm.MethodName)) ∈ tt := List.mem_of_getElem? (i := 535) (by rfl)
set_option maxRecDepth 20000 in
theorem m_628 : (Jvm.Cond.instanceMethod ({ cls := "PrefixMill$Share", name := "take", desc := "(LPrefixMill$Row;II)I" } : Jvm.MethodName)) ∈ tt := List.mem_of_getElem? (i := 536) (by rfl)
set_option maxRecDepth 20000 in
theorem m_629 : (Jvm.Cond.selects "PrefixMill$Share" ({ cls := "PrefixMill$Share", name := "take", desc := "(LPrefixMill$Row;II)I" } : Jvm.MethodName) ({ cls := "PrefixMill$Share", name := "take", desc := "(LPrefixMill$Row;II)I" } : Jvm.MethodName)) ∈ tt := List.mem_of_getElem? (i := 537) (by rfl)
set_option maxRecDepth 20000 in
theorem m_630 : (Jvm.Cond.code ({ cls := "PrefixMill$Share", name := "take", desc := "(LPrefixMill$Row;II)I" } : Jvm.MethodName) prog_6_method_17_code (6 : Nat) (Option.some Jvm.ClassFile.FieldType.int)) ∈ tt := List.mem_of_getElem? (i := 538) (by rfl)
set_option maxRecDepth 20000 in
theorem m_631 : (Jvm.Cond.methodLink "PrefixMill$Share" (105 : Nat) ({ cls := "java/util/Arrays", name := "fill", desc := "([II)V" } : Jvm.MethodName)) ∈ tt := List.mem_of_getElem? (i := 539) (by rfl)
set_option maxRecDepth 20000 in
theorem m_632 : (Jvm.Cond.methodLink "PrefixMill$Share" (114 : Nat) ({ cls := "PrefixMill$Share", name := "takeBits", desc := "(LPrefixMill$Row;I)I" } : Jvm.MethodName)) ∈ tt := List.mem_of_getElem? (i := 540) (by rfl)
set_option maxRecDepth 20000 in
theorem m_634 : (Jvm.Cond.instanceMethod ({ cls := "PrefixMill$Share", name := "takeBits", desc := "(LPrefixMill$Row;I)I" } : Jvm.MethodName)) ∈ tt := List.mem_of_getElem? (i := 541) (by rfl)
set_option maxRecDepth 20000 in
theorem m_635 : (Jvm.Cond.code ({ cls := "PrefixMill$Share", name := "takeBits", desc := "(LPrefixMill$Row;I)I" } : Jvm.MethodName) prog_6_method_18_code (4 : Nat) (Option.some Jvm.ClassFile.FieldType.int)) ∈ tt := List.mem_of_getElem? (i := 542) (by rfl)
set_option maxRecDepth 20000 in
theorem m_636 : (Jvm.Cond.methodLink "PrefixMill$Share" (123 : Nat) ({ cls := "PrefixMill$Row", name := "bits", desc := "(II)I" } : Jvm.MethodName)) ∈ tt := List.mem_of_getElem? (i := 543) (by rfl)
set_option maxRecDepth 20000 in
theorem m_637 : (Jvm.Cond.instanceMethod ({ cls := "PrefixMill$Row", name := "bits", desc := "(II)I" } : Jvm.MethodName)) ∈ tt := List.mem_of_getElem? (i := 544) (by rfl)
set_option maxRecDepth 20000 in
theorem m_638 : (Jvm.Cond.selects "PrefixMill$Row" ({ cls := "PrefixMill$Row", name := "bits", desc := "(II)I" } : Jvm.MethodName) ({ cls := "PrefixMill$Row", name := "bits", desc := "(II)I" } : Jvm.MethodName)) ∈ tt := List.mem_of_getElem? (i := 545) (by rfl)
set_option maxRecDepth 20000 in
theorem m_639 : (Jvm.Cond.code ({ cls := "PrefixMill$Row", name := "bits", desc := "(II)I" } : Jvm.MethodName) prog_5_method_5_code (5 : Nat) (Option.some Jvm.ClassFile.FieldType.int)) ∈ tt := List.mem_of_getElem? (i := 546) (by rfl)
set_option maxRecDepth 20000 in
theorem m_640 : (Jvm.Cond.methodLink "PrefixMill$Row" (24 : Nat) ({ cls := "PrefixMill$Row", name := "get", desc := "(I)I" } : Jvm.MethodName)) ∈ tt := List.mem_of_getElem? (i := 547) (by rfl)
set_option maxRecDepth 20000 in
theorem m_641 : (Jvm.Cond.methodLink "PrefixMill$Row" (28 : Nat) ({ cls := "java/lang/Math", name := "max", desc := "(II)I" } : Jvm.MethodName)) ∈ tt := List.mem_of_getElem? (i := 548) (by rfl)
set_option maxRecDepth 20000 in
theorem m_642 : (Jvm.Cond.methodLink "PrefixMill$Share" (117 : Nat) ({ cls := "PrefixMill$Share", name := "takePoints", desc := "(LPrefixMill$Row;I)I" } : Jvm.MethodName)) ∈ tt := List.mem_of_getElem? (i := 549) (by rfl)
set_option maxRecDepth 20000 in
theorem m_644 : (Jvm.Cond.instanceMethod ({ cls := "PrefixMill$Share", name := "takePoints", desc := "(LPrefixMill$Row;I)I" } : Jvm.MethodName)) ∈ tt := List.mem_of_getElem? (i := 550) (by rfl)
set_option maxRecDepth 20000 in
theorem m_645 : (Jvm.Cond.code ({ cls := "PrefixMill$Share", name := "takePoints", desc := "(LPrefixMill$Row;I)I" } : Jvm.MethodName) prog_6_method_19_code (7 : Nat) (Option.some Jvm.ClassFile.FieldType.int)) ∈ tt := List.mem_of_getElem? (i := 551) (by rfl)
set_option maxRecDepth 20000 in
theorem m_646 : (Jvm.Cond.methodLink "PrefixMill$Share" (120 : Nat) ({ cls := "PrefixMill$Share", name := "takeNone", desc := "(LPrefixMill$Row;I)I" } : Jvm.MethodName)) ∈ tt := List.mem_of_getElem? (i := 552) (by rfl)
set_option maxRecDepth 20000 in
theorem m_648 : (Jvm.Cond.instanceMethod ({ cls := "PrefixMill$Share", name := "takeNone", desc := "(LPrefixMill$Row;I)I" } : Jvm.MethodName)) ∈ tt := List.mem_of_getElem? (i := 553) (by rfl)
set_option maxRecDepth 20000 in
theorem m_649 : (Jvm.Cond.code ({ cls := "PrefixMill$Share", name := "takeNone", desc := "(LPrefixMill$Row;I)I" } : Jvm.MethodName) prog_6_method_20_code (5 : Nat) (Option.some Jvm.ClassFile.FieldType.int)) ∈ tt := List.mem_of_getElem? (i := 554) (by rfl)
set_option maxRecDepth 20000 in
theorem m_650 : (Jvm.Cond.methodLink "PrefixMill$Reader" (53 : Nat) ({ cls := "PrefixMill$Reader", name := "takeRow", desc := "(LPrefixMill$Row;I)Z" } : Jvm.MethodName)) ∈ tt := List.mem_of_getElem? (i := 555) (by rfl)
set_option maxRecDepth 20000 in
theorem m_652 : (Jvm.Cond.instanceMethod ({ cls := "PrefixMill$Reader", name := "takeRow", desc := "(LPrefixMill$Row;I)Z" } : Jvm.MethodName)) ∈ tt := List.mem_of_getElem? (i := 556) (by rfl)
set_option maxRecDepth 20000 in
theorem m_653 : (Jvm.Cond.code ({ cls := "PrefixMill$Reader", name := "takeRow", desc := "(LPrefixMill$Row;I)Z" } : Jvm.MethodName) prog_4_method_4_code (6 : Nat) (Option.some Jvm.ClassFile.FieldType.boolean)) ∈ tt := List.mem_of_getElem? (i := 557) (by rfl)
set_option maxRecDepth 20000 in
theorem m_654 : (Jvm.Cond.methodLink "PrefixMill$Reader" (64 : Nat) ({ cls := "PrefixMill$Tail", name := "open", desc := "(LPrefixMill$Row;II)Z" } : Jvm.MethodName)) ∈ tt := List.mem_of_getElem? (i := 558) (by rfl)
set_option maxRecDepth 20000 in
theorem m_655 : (Jvm.Cond.instanceMethod ({ cls := "PrefixMill$Tail", name := "open", desc := "(LPrefixMill$Row;II)Z" } : Jvm.MethodName)) ∈ tt := List.mem_of_getElem? (i := 559) (by rfl)
set_option maxRecDepth 20000 in
theorem m_656 : (Jvm.Cond.selects "PrefixMill$Tail" ({ cls := "PrefixMill$Tail", name := "open", desc := "(LPrefixMill$Row;II)Z" } : Jvm.MethodName) ({ cls := "PrefixMill$Tail", name := "open", desc := "(LPrefixMill$Row;II)Z" } : Jvm.MethodName)) ∈ tt := List.mem_of_getElem? (i := 560) (by rfl)
set_option maxRecDepth 20000 in
theorem m_657 : (Jvm.Cond.code ({ cls := "PrefixMill$Tail", name := "open", desc := "(LPrefixMill$Row;II)Z" } : Jvm.MethodName) prog_8_method_2_code (5 : Nat) (Option.some Jvm.ClassFile.FieldType.boolean)) ∈ tt := List.mem_of_getElem? (i := 561) (by rfl)
set_option maxRecDepth 20000 in
theorem m_658 : (Jvm.Cond.methodLink "PrefixMill$Tail" (7 : Nat) ({ cls := "PrefixMill$Row", name := "get", desc := "(I)I" } : Jvm.MethodName)) ∈ tt := List.mem_of_getElem? (i := 562) (by rfl)
set_option maxRecDepth 20000 in
theorem m_659 : (Jvm.Cond.methodLinkNest "PrefixMill$Tail" (19 : Nat) ({ cls := "PrefixMill", name := "log2", desc := "(I)I" } : Jvm.MethodName) "PrefixMill") ∈ tt := List.mem_of_getElem? (i := 563) (by rfl)
set_option maxRecDepth 20000 in
theorem m_660 : (Jvm.Cond.methodLink "PrefixMill$Reader" (74 : Nat) ({ cls := "PrefixMill$Tail", name := "take", desc := "(LPrefixMill$Row;I)I" } : Jvm.MethodName)) ∈ tt := List.mem_of_getElem? (i := 564) (by rfl)
set_option maxRecDepth 20000 in
theorem m_661 : (Jvm.Cond.instanceMethod ({ cls := "PrefixMill$Tail", name := "take", desc := "(LPrefixMill$Row;I)I" } : Jvm.MethodName)) ∈ tt := List.mem_of_getElem? (i := 565) (by rfl)
set_option maxRecDepth 20000 in
theorem m_662 : (Jvm.Cond.selects "PrefixMill$Tail" ({ cls := "PrefixMill$Tail", name := "take", desc := "(LPrefixMill$Row;I)I" } : Jvm.MethodName) ({ cls := "PrefixMill$Tail", name := "take", desc := "(LPrefixMill$Row;I)I" } : Jvm.MethodName)) ∈ tt := List.mem_of_getElem? (i := 566) (by rfl)
set_option maxRecDepth 20000 in
theorem m_663 : (Jvm.Cond.code ({ cls := "PrefixMill$Tail", name := "take", desc := "(LPrefixMill$Row;I)I" } : Jvm.MethodName) prog_8_method_5_code (4 : Nat) (Option.some Jvm.ClassFile.FieldType.int)) ∈ tt := List.mem_of_getElem? (i := 567) (by rfl)
set_option maxRecDepth 20000 in
theorem m_664 : (Jvm.Cond.methodLink "PrefixMill$Tail" (31 : Nat) ({ cls := "PrefixMill$Tail", name := "look", desc := "(LPrefixMill$Row;I)I" } : Jvm.MethodName)) ∈ tt := List.mem_of_getElem? (i := 568) (by rfl)
set_option maxRecDepth 20000 in
theorem m_665 : (Jvm.Cond.instanceMethod ({ cls := "PrefixMill$Tail", name := "look", desc := "(LPrefixMill$Row;I)I" } : Jvm.MethodName)) ∈ tt := List.mem_of_getElem? (i := 569) (by rfl)
set_option maxRecDepth 20000 in
theorem m_666 : (Jvm.Cond.selects "PrefixMill$Tail" ({ cls := "PrefixMill$Tail", name := "look", desc := "(LPrefixMill$Row;I)I" } : Jvm.MethodName) ({ cls := "PrefixMill$Tail", name := "look", desc := "(LPrefixMill$Row;I)I" } : Jvm.MethodName)) ∈ tt := List.mem_of_getElem? (i := 570) (by rfl)
set_option maxRecDepth 20000 in
theorem m_667 : (Jvm.Cond.code ({ cls := "PrefixMill$Tail", name := "look", desc := "(LPrefixMill$Row;I)I" } : Jvm.MethodName) prog_8_method_3_code (3 : Nat) (Option.some Jvm.ClassFile.FieldType.int)) ∈ tt := List.mem_of_getElem? (i := 571) (by rfl)
set_option maxRecDepth 20000 in
theorem m_668 : (Jvm.Cond.methodLink "PrefixMill$Tail" (27 : Nat) ({ cls := "PrefixMill$Row", name := "bits", desc := "(II)I" } : Jvm.MethodName)) ∈ tt := List.mem_of_getElem? (i := 572) (by rfl)
set_option maxRecDepth 20000 in
theorem m_669 : (Jvm.Cond.methodLink "PrefixMill$Tail" (35 : Nat) ({ cls := "PrefixMill$Tail", name := "drop", desc := "(I)Z" } : Jvm.MethodName)) ∈ tt := List.mem_of_getElem? (i := 573) (by rfl)
set_option maxRecDepth 20000 in
theorem m_670 : (Jvm.Cond.instanceMethod ({ cls := "PrefixMill$Tail", name := "drop", desc := "(I)Z" } : Jvm.MethodName)) ∈ tt := List.mem_of_getElem? (i := 574) (by rfl)
set_option maxRecDepth 20000 in
theorem m_671 : (Jvm.Cond.selects "PrefixMill$Tail" ({ cls := "PrefixMill$Tail", name := "drop", desc := "(I)Z" } : Jvm.MethodName) ({ cls := "PrefixMill$Tail", name := "drop", desc := "(I)Z" } : Jvm.MethodName)) ∈ tt := List.mem_of_getElem? (i := 575) (by rfl)
set_option maxRecDepth 20000 in
theorem m_672 : (Jvm.Cond.code ({ cls := "PrefixMill$Tail", name := "drop", desc := "(I)Z" } : Jvm.MethodName) prog_8_method_4_code (2 : Nat) (Option.some Jvm.ClassFile.FieldType.boolean)) ∈ tt := List.mem_of_getElem? (i := 576) (by rfl)
set_option maxRecDepth 20000 in
theorem m_673 : (Jvm.Cond.methodLink "PrefixMill$Reader" (57 : Nat) ({ cls := "PrefixMill$Reader", name := "takeLengths", desc := "()Z" } : Jvm.MethodName)) ∈ tt := List.mem_of_getElem? (i := 577) (by rfl)
set_option maxRecDepth 20000 in
theorem m_675 : (Jvm.Cond.instanceMethod ({ cls := "PrefixMill$Reader", name := "takeLengths", desc := "()Z" } : Jvm.MethodName)) ∈ tt := List.mem_of_getElem? (i := 578) (by rfl)
set_option maxRecDepth 20000 in
theorem m_676 : (Jvm.Cond.code ({ cls := "PrefixMill$Reader", name := "takeLengths", desc := "()Z" } : Jvm.MethodName) prog_4_method_5_code (6 : Nat) (Option.some Jvm.ClassFile.FieldType.boolean)) ∈ tt := List.mem_of_getElem? (i := 579) (by rfl)
set_option maxRecDepth 20000 in
theorem m_677 : (Jvm.Cond.methodLinkNest "PrefixMill$Reader" (86 : Nat) ({ cls := "PrefixMill", name := "log2", desc := "(I)I" } : Jvm.MethodName) "PrefixMill") ∈ tt := List.mem_of_getElem? (i := 580) (by rfl)
set_option maxRecDepth 20000 in
theorem m_678 : (Jvm.Cond.methodLink "PrefixMill$Reader" (89 : Nat) ({ cls := "java/util/Arrays", name := "fill", desc := "([II)V" } : Jvm.MethodName)) ∈ tt := List.mem_of_getElem? (i := 581) (by rfl)
set_option maxRecDepth 20000 in
theorem m_679 : (Jvm.Cond.methodLink "PrefixMillLaw" (68 : Nat) ({ cls := "PrefixMill", name := "encode", desc := "(Z)I" } : Jvm.MethodName)) ∈ tt := List.mem_of_getElem? (i := 582) (by rfl)
set_option maxRecDepth 20000 in
theorem m_680 : (Jvm.Cond.instanceMethod ({ cls := "PrefixMill", name := "encode", desc := "(Z)I" } : Jvm.MethodName)) ∈ tt := List.mem_of_getElem? (i := 583) (by rfl)
set_option maxRecDepth 20000 in
theorem m_681 : (Jvm.Cond.selects "PrefixMill" ({ cls := "PrefixMill", name := "encode", desc := "(Z)I" } : Jvm.MethodName) ({ cls := "PrefixMill", name := "encode", desc := "(Z)I" } : Jvm.MethodName)) ∈ tt := List.mem_of_getElem? (i := 584) (by rfl)
set_option maxRecDepth 20000 in
theorem m_682 : (Jvm.Cond.code ({ cls := "PrefixMill", name := "encode", desc := "(Z)I" } : Jvm.MethodName) prog_1_method_14_code (2 : Nat) (Option.some Jvm.ClassFile.FieldType.int)) ∈ tt := List.mem_of_getElem? (i := 585) (by rfl)
set_option maxRecDepth 20000 in
theorem m_683 : (Jvm.Cond.methodLink "PrefixMill" (125 : Nat) ({ cls := "PrefixMill$Streams", name := "bitsOf", desc := "(LPrefixMill$Codes;LPrefixMill$Row;II)I" } : Jvm.MethodName)) ∈ tt := List.mem_of_getElem? (i := 586) (by rfl)
set_option maxRecDepth 20000 in
theorem m_684 : (Jvm.Cond.static ({ cls := "PrefixMill$Streams", name := "bitsOf", desc := "(LPrefixMill$Codes;LPrefixMill$Row;II)I" } : Jvm.MethodName)) ∈ tt := List.mem_of_getElem? (i := 587) (by rfl)
set_option maxRecDepth 20000 in
theorem m_685 : (Jvm.Cond.code ({ cls := "PrefixMill$Streams", name := "bitsOf", desc := "(LPrefixMill$Codes;LPrefixMill$Row;II)I" } : Jvm.MethodName) prog_7_method_4_code (7 : Nat) (Option.some Jvm.ClassFile.FieldType.int)) ∈ tt := List.mem_of_getElem? (i := 588) (by rfl)
set_option maxRecDepth 20000 in
theorem m_686 : (Jvm.Cond.methodLink "PrefixMill$Streams" (37 : Nat) ({ cls := "PrefixMill$Row", name := "get", desc := "(I)I" } : Jvm.MethodName)) ∈ tt := List.mem_of_getElem? (i := 589) (by rfl)
set_option maxRecDepth 20000 in
theorem m_687 : (Jvm.Cond.methodLink "PrefixMill" (129 : Nat) ({ cls := "PrefixMill$Streams", name := "encodeFour", desc := "(LPrefixMill$Codes;LPrefixMill$Row;ILPrefixMill$Row;)I" } : Jvm.MethodName)) ∈ tt := List.mem_of_getElem? (i := 590) (by rfl)
set_option maxRecDepth 20000 in
theorem m_688 : (Jvm.Cond.static ({ cls := "PrefixMill$Streams", name := "encodeFour", desc := "(LPrefixMill$Codes;LPrefixMill$Row;ILPrefixMill$Row;)I" } : Jvm.MethodName)) ∈ tt := List.mem_of_getElem? (i := 591) (by rfl)
set_option maxRecDepth 20000 in
theorem m_689 : (Jvm.Cond.code ({ cls := "PrefixMill$Streams", name := "encodeFour", desc := "(LPrefixMill$Codes;LPrefixMill$Row;ILPrefixMill$Row;)I" } : Jvm.MethodName) prog_7_method_7_code (12 : Nat) (Option.some Jvm.ClassFile.FieldType.int)) ∈ tt := List.mem_of_getElem? (i := 592) (by rfl)
set_option maxRecDepth 20000 in
theorem m_690 : (Jvm.Cond.methodLink "PrefixMill$Streams" (58 : Nat) ({ cls := "PrefixMill$Streams", name := "areFour", desc := "(I)Z" } : Jvm.MethodName)) ∈ tt := List.mem_of_getElem? (i := 593) (by rfl)
set_option maxRecDepth 20000 in
theorem m_691 : (Jvm.Cond.static ({ cls := "PrefixMill$Streams", name := "areFour", desc := "(I)Z" } : Jvm.MethodName)) ∈ tt := List.mem_of_getElem? (i := 594) (by rfl)
set_option maxRecDepth 20000 in
theorem m_692 : (Jvm.Cond.code ({ cls := "PrefixMill$Streams", name := "areFour", desc := "(I)Z" } : Jvm.MethodName) prog_7_method_2_code (1 : Nat) (Option.some Jvm.ClassFile.FieldType.boolean)) ∈ tt := List.mem_of_getElem? (i := 595) (by rfl)
set_option maxRecDepth 20000 in
theorem m_693 : (Jvm.Cond.methodLink "PrefixMill$Streams" (27 : Nat) ({ cls := "PrefixMill$Streams", name := "quarter", desc := "(I)I" } : Jvm.MethodName)) ∈ tt := List.mem_of_getElem? (i := 596) (by rfl)
set_option maxRecDepth 20000 in
theorem m_694 : (Jvm.Cond.static ({ cls := "PrefixMill$Streams", name := "quarter", desc := "(I)I" } : Jvm.MethodName)) ∈ tt := List.mem_of_getElem? (i := 597) (by rfl)
set_option maxRecDepth 20000 in
theorem m_695 : (Jvm.Cond.code ({ cls := "PrefixMill$Streams", name := "quarter", desc := "(I)I" } : Jvm.MethodName) prog_7_method_3_code (1 : Nat) (Option.some Jvm.ClassFile.FieldType.int)) ∈ tt := List.mem_of_getElem? (i := 598) (by rfl)
set_option maxRecDepth 20000 in
theorem m_696 : (Jvm.Cond.methodLink "PrefixMill$Streams" (48 : Nat) ({ cls := "PrefixMill$Streams", name := "bytesOf", desc := "(LPrefixMill$Codes;LPrefixMill$Row;II)I" } : Jvm.MethodName)) ∈ tt := List.mem_of_getElem? (i := 599) (by rfl)
set_option maxRecDepth 20000 in
theorem m_697 : (Jvm.Cond.static ({ cls := "PrefixMill$Streams", name := "bytesOf", desc := "(LPrefixMill$Codes;LPrefixMill$Row;II)I" } : Jvm.MethodName)) ∈ tt := List.mem_of_getElem? (i := 600) (by rfl)
set_option maxRecDepth 20000 in
theorem m_698 : (Jvm.Cond.code ({ cls := "PrefixMill$Streams", name := "bytesOf", desc := "(LPrefixMill$Codes;LPrefixMill$Row;II)I" } : Jvm.MethodName) prog_7_method_5_code (4 : Nat) (Option.some Jvm.ClassFile.FieldType.int)) ∈ tt := List.mem_of_getElem? (i := 601) (by rfl)
set_option maxRecDepth 20000 in
theorem m_699 : (Jvm.Cond.methodLink "PrefixMill$Streams" (40 : Nat) ({ cls := "PrefixMill$Streams", name := "bitsOf", desc := "(LPrefixMill$Codes;LPrefixMill$Row;II)I" } : Jvm.MethodName)) ∈ tt := List.mem_of_getElem? (i := 602) (by rfl)
set_option maxRecDepth 20000 in
theorem m_700 : (Jvm.Cond.methodLink "PrefixMill$Streams" (51 : Nat) ({ cls := "PrefixMill$Row", name := "empty", desc := "()V" } : Jvm.MethodName)) ∈ tt := List.mem_of_getElem? (i := 603) (by rfl)
set_option maxRecDepth 20000 in
theorem m_701 : (Jvm.Cond.methodLink "PrefixMill$Streams" (62 : Nat) ({ cls := "PrefixMill$Row", name := "put", desc := "(II)V" } : Jvm.MethodName)) ∈ tt := List.mem_of_getElem? (i := 604) (by rfl)
set_option maxRecDepth 20000 in
theorem m_702 : (Jvm.Cond.methodLink "PrefixMill$Streams" (54 : Nat) ({ cls := "PrefixMill$Streams", name := "putStream", desc := "(LPrefixMill$Codes;LPrefixMill$Row;IILPrefixMill$Row;)V" } : Jvm.MethodName)) ∈ tt := List.mem_of_getElem? (i := 605) (by rfl)
set_option maxRecDepth 20000 in
theorem m_703 : (Jvm.Cond.static ({ cls := "PrefixMill$Streams", name := "putStream", desc := "(LPrefixMill$Codes;LPrefixMill$Row;IILPrefixMill$Row;)V" } : Jvm.MethodName)) ∈ tt := List.mem_of_getElem? (i := 606) (by rfl)
set_option maxRecDepth 20000 in
theorem m_704 : (Jvm.Cond.code ({ cls := "PrefixMill$Streams", name := "putStream", desc := "(LPrefixMill$Codes;LPrefixMill$Row;IILPrefixMill$Row;)V" } : Jvm.MethodName) prog_7_method_8_code (7 : Nat) (Option.none : Option Jvm.ClassFile.FieldType)) ∈ tt := List.mem_of_getElem? (i := 607) (by rfl)
set_option maxRecDepth 20000 in
theorem m_705 : (Jvm.Cond.methodLink "PrefixMill$Streams" (69 : Nat) ({ cls := "PrefixMill$Row", name := "finish", desc := "()V" } : Jvm.MethodName)) ∈ tt := List.mem_of_getElem? (i := 608) (by rfl)
set_option maxRecDepth 20000 in
theorem m_706 : (Jvm.Cond.methodLink "PrefixMill" (133 : Nat) ({ cls := "PrefixMill$Streams", name := "encodeOne", desc := "(LPrefixMill$Codes;LPrefixMill$Row;ILPrefixMill$Row;)I" } : Jvm.MethodName)) ∈ tt := List.mem_of_getElem? (i := 609) (by rfl)
set_option maxRecDepth 20000 in
theorem m_707 : (Jvm.Cond.static ({ cls := "PrefixMill$Streams", name := "encodeOne", desc := "(LPrefixMill$Codes;LPrefixMill$Row;ILPrefixMill$Row;)I" } : Jvm.MethodName)) ∈ tt := List.mem_of_getElem? (i := 610) (by rfl)
set_option maxRecDepth 20000 in
theorem m_708 : (Jvm.Cond.code ({ cls := "PrefixMill$Streams", name := "encodeOne", desc := "(LPrefixMill$Codes;LPrefixMill$Row;ILPrefixMill$Row;)I" } : Jvm.MethodName) prog_7_method_6_code (4 : Nat) (Option.some Jvm.ClassFile.FieldType.int)) ∈ tt := List.mem_of_getElem? (i := 611) (by rfl)
set_option maxRecDepth 20000 in
theorem m_709 : (Jvm.Cond.methodLink "PrefixMillLaw" (73 : Nat) ({ cls := "PrefixMill", name := "decode", desc := "(IZ)I" } : Jvm.MethodName)) ∈ tt := List.mem_of_getElem? (i := 612) (by rfl)
set_option maxRecDepth 20000 in
theorem m_710 : (Jvm.Cond.instanceMethod ({ cls := "PrefixMill", name := "decode", desc := "(IZ)I" } : Jvm.MethodName)) ∈ tt := List.mem_of_getElem? (i := 613) (by rfl)
set_option maxRecDepth 20000 in
theorem m_711 : (Jvm.Cond.selects "PrefixMill" ({ cls := "PrefixMill", name := "decode", desc := "(IZ)I" } : Jvm.MethodName) ({ cls := "PrefixMill", name := "decode", desc := "(IZ)I" } : Jvm.MethodName)) ∈ tt := List.mem_of_getElem? (i := 614) (by rfl)
set_option maxRecDepth 20000 in
theorem m_712 : (Jvm.Cond.code ({ cls := "PrefixMill", name := "decode", desc := "(IZ)I" } : Jvm.MethodName) prog_1_method_15_code (4 : Nat) (Option.some Jvm.ClassFile.FieldType.int)) ∈ tt := List.mem_of_getElem? (i := 615) (by rfl)
set_option maxRecDepth 20000 in
theorem m_713 : (Jvm.Cond.methodLink "PrefixMill" (136 : Nat) ({ cls := "PrefixMill$Streams", name := "areFour", desc := "(I)Z" } : Jvm.MethodName)) ∈ tt := List.mem_of_getElem? (i := 616) (by rfl)
set_option maxRecDepth 20000 in
theorem m_714 : (Jvm.Cond.methodLink "PrefixMill" (139 : Nat) ({ cls := "PrefixMill$Streams", name := "decodeFour", desc := "(LPrefixMill$Codes;LPrefixMill$Row;II)I" } : Jvm.MethodName)) ∈ tt := List.mem_of_getElem? (i := 617) (by rfl)
set_option maxRecDepth 20000 in
theorem m_715 : (Jvm.Cond.instanceMethod ({ cls := "PrefixMill$Streams", name := "decodeFour", desc := "(LPrefixMill$Codes;LPrefixMill$Row;II)I" } : Jvm.MethodName)) ∈ tt := List.mem_of_getElem? (i := 618) (by rfl)
set_option maxRecDepth 20000 in
theorem m_716 : (Jvm.Cond.selects "PrefixMill$Streams" ({ cls := "PrefixMill$Streams", name := "decodeFour", desc := "(LPrefixMill$Codes;LPrefixMill$Row;II)I" } : Jvm.MethodName) ({ cls := "PrefixMill$Streams", name := "decodeFour", desc := "(LPrefixMill$Codes;LPrefixMill$Row;II)I" } : Jvm.MethodName)) ∈ tt := List.mem_of_getElem? (i := 619) (by rfl)
set_option maxRecDepth 20000 in
theorem m_717 : (Jvm.Cond.code ({ cls := "PrefixMill$Streams", name := "decodeFour", desc := "(LPrefixMill$Codes;LPrefixMill$Row;II)I" } : Jvm.MethodName) prog_7_method_10_code (11 : Nat) (Option.some Jvm.ClassFile.FieldType.int)) ∈ tt := List.mem_of_getElem? (i := 620) (by rfl)
set_option maxRecDepth 20000 in
theorem m_718 : (Jvm.Cond.methodLink "PrefixMill$Streams" (76 : Nat) ({ cls := "PrefixMill$Row", name := "bits", desc := "(II)I" } : Jvm.MethodName)) ∈ tt := List.mem_of_getElem? (i := 621) (by rfl)
set_option maxRecDepth 20000 in
theorem m_719 : (Jvm.Cond.methodLink "PrefixMill$Streams" (72 : Nat) ({ cls := "PrefixMill$Streams", name := "takeStream", desc := "(LPrefixMill$Codes;LPrefixMill$Row;III)I" } : Jvm.MethodName)) ∈ tt := List.mem_of_getElem? (i := 622) (by rfl)
set_option maxRecDepth 20000 in
theorem m_721 : (Jvm.Cond.instanceMethod ({ cls := "PrefixMill$Streams", name := "takeStream", desc := "(LPrefixMill$Codes;LPrefixMill$Row;III)I" } : Jvm.MethodName)) ∈ tt := List.mem_of_getElem? (i := 623) (by rfl)
set_option maxRecDepth 20000 in
theorem m_722 : (Jvm.Cond.code ({ cls := "PrefixMill$Streams", name := "takeStream", desc := "(LPrefixMill$Codes;LPrefixMill$Row;III)I" } : Jvm.MethodName) prog_7_method_11_code (8 : Nat) (Option.some Jvm.ClassFile.FieldType.int)) ∈ tt := List.mem_of_getElem? (i := 624) (by rfl)
set_option maxRecDepth 20000 in
theorem m_723 : (Jvm.Cond.methodLink "PrefixMill$Streams" (80 : Nat) ({ cls := "PrefixMill$Tail", name := "open", desc := "(LPrefixMill$Row;II)Z" } : Jvm.MethodName)) ∈ tt := List.mem_of_getElem? (i := 625) (by rfl)
set_option maxRecDepth 20000 in
theorem m_724 : (Jvm.Cond.methodLink "PrefixMill$Streams" (90 : Nat) ({ cls := "PrefixMill$Tail", name := "look", desc := "(LPrefixMill$Row;I)I" } : Jvm.MethodName)) ∈ tt := List.mem_of_getElem? (i := 626) (by rfl)
set_option maxRecDepth 20000 in
theorem m_725 : (Jvm.Cond.methodLink "PrefixMill$Streams" (94 : Nat) ({ cls := "PrefixMill$Tail", name := "drop", desc := "(I)Z" } : Jvm.MethodName)) ∈ tt := List.mem_of_getElem? (i := 627) (by rfl)
set_option maxRecDepth 20000 in
theorem m_726 : (Jvm.Cond.methodLink "PrefixMill$Streams" (97 : Nat) ({ cls := "PrefixMill$Row", name := "add", desc := "(I)V" } : Jvm.MethodName)) ∈ tt := List.mem_of_getElem? (i := 628) (by rfl)
set_option maxRecDepth 20000 in
theorem m_727 : (Jvm.Cond.methodLink "PrefixMill" (142 : Nat) ({ cls := "PrefixMill$Streams", name := "decodeOne", desc := "(LPrefixMill$Codes;LPrefixMill$Row;II)I" } : Jvm.MethodName)) ∈ tt := List.mem_of_getElem? (i := 629) (by rfl)
set_option maxRecDepth 20000 in
theorem m_728 : (Jvm.Cond.instanceMethod ({ cls := "PrefixMill$Streams", name := "decodeOne", desc := "(LPrefixMill$Codes;LPrefixMill$Row;II)I" } : Jvm.MethodName)) ∈ tt := List.mem_of_getElem? (i := 630) (by rfl)
set_option maxRecDepth 20000 in
theorem m_729 : (Jvm.Cond.selects "PrefixMill$Streams" ({ cls := "PrefixMill$Streams", name := "decodeOne", desc := "(LPrefixMill$Codes;LPrefixMill$Row;II)I" } : Jvm.MethodName) ({ cls := "PrefixMill$Streams", name := "decodeOne", desc := "(LPrefixMill$Codes;LPrefixMill$Row;II)I" } : Jvm.MethodName)) ∈ tt := List.mem_of_getElem? (i := 631) (by rfl)
set_option maxRecDepth 20000 in
theorem m_730 : (Jvm.Cond.code ({ cls := "PrefixMill$Streams", name := "decodeOne", desc := "(LPrefixMill$Codes;LPrefixMill$Row;II)I" } : Jvm.MethodName) prog_7_method_9_code (5 : Nat) (Option.some Jvm.ClassFile.FieldType.int)) ∈ tt := List.mem_of_getElem? (i := 632) (by rfl)
set_option maxRecDepth 20000 in
theorem m_731 : (Jvm.Cond.methodLink "PrefixMillLaw" (78 : Nat) ({ cls := "PrefixMill", name := "about", desc := "(I)I" } : Jvm.MethodName)) ∈ tt := List.mem_of_getElem? (i := 633) (by rfl)
set_option maxRecDepth 20000 in
theorem m_732 : (Jvm.Cond.instanceMethod ({ cls := "PrefixMill", name := "about", desc := "(I)I" } : Jvm.MethodName)) ∈ tt := List.mem_of_getElem? (i := 634) (by rfl)
set_option maxRecDepth 20000 in
theorem m_733 : (Jvm.Cond.selects "PrefixMill" ({ cls := "PrefixMill", name := "about", desc := "(I)I" } : Jvm.MethodName) ({ cls := "PrefixMill", name := "about", desc := "(I)I" } : Jvm.MethodName)) ∈ tt := List.mem_of_getElem? (i := 635) (by rfl)
set_option maxRecDepth 20000 in
theorem m_734 : (Jvm.Cond.code ({ cls := "PrefixMill", name := "about", desc := "(I)I" } : Jvm.MethodName) prog_1_method_16_code (2 : Nat) (Option.some Jvm.ClassFile.FieldType.int)) ∈ tt := List.mem_of_getElem? (i := 636) (by rfl)
set_option maxRecDepth 20000 in
theorem m_735 : (Jvm.Cond.methodLink "PrefixMillLaw" (82 : Nat) ({ cls := "PrefixMill", name := "code", desc := "(II)I" } : Jvm.MethodName)) ∈ tt := List.mem_of_getElem? (i := 637) (by rfl)
set_option maxRecDepth 20000 in
theorem m_736 : (Jvm.Cond.instanceMethod ({ cls := "PrefixMill", name := "code", desc := "(II)I" } : Jvm.MethodName)) ∈ tt := List.mem_of_getElem? (i := 638) (by rfl)
set_option maxRecDepth 20000 in
theorem m_737 : (Jvm.Cond.selects "PrefixMill" ({ cls := "PrefixMill", name := "code", desc := "(II)I" } : Jvm.MethodName) ({ cls := "PrefixMill", name := "code", desc := "(II)I" } : Jvm.MethodName)) ∈ tt := List.mem_of_getElem? (i := 639) (by rfl)
set_option maxRecDepth 20000 in
theorem m_738 : (Jvm.Cond.code ({ cls := "PrefixMill", name := "code", desc := "(II)I" } : Jvm.MethodName) prog_1_method_17_code (3 : Nat) (Option.some Jvm.ClassFile.FieldType.int)) ∈ tt := List.mem_of_getElem? (i := 640) (by rfl)
set_option maxRecDepth 20000 in
theorem m_739 : (Jvm.Cond.methodLink "PrefixMillLaw" (87 : Nat) ({ cls := "PrefixMill", name := "size", desc := "()I" } : Jvm.MethodName)) ∈ tt := List.mem_of_getElem? (i := 641) (by rfl)
set_option maxRecDepth 20000 in
theorem m_740 : (Jvm.Cond.instanceMethod ({ cls := "PrefixMill", name := "size", desc := "()I" } : Jvm.MethodName)) ∈ tt := List.mem_of_getElem? (i := 642) (by rfl)
set_option maxRecDepth 20000 in
theorem m_741 : (Jvm.Cond.selects "PrefixMill" ({ cls := "PrefixMill", name := "size", desc := "()I" } : Jvm.MethodName) ({ cls := "PrefixMill", name := "size", desc := "()I" } : Jvm.MethodName)) ∈ tt := List.mem_of_getElem? (i := 643) (by rfl)
set_option maxRecDepth 20000 in
theorem m_742 : (Jvm.Cond.code ({ cls := "PrefixMill", name := "size", desc := "()I" } : Jvm.MethodName) prog_1_method_18_code (1 : Nat) (Option.some Jvm.ClassFile.FieldType.int)) ∈ tt := List.mem_of_getElem? (i := 644) (by rfl)
set_option maxRecDepth 20000 in
theorem m_743 : (Jvm.Cond.methodLink "PrefixMillLaw" (91 : Nat) ({ cls := "PrefixMill", name := "byteAt", desc := "(I)I" } : Jvm.MethodName)) ∈ tt := List.mem_of_getElem? (i := 645) (by rfl)
set_option maxRecDepth 20000 in
theorem m_744 : (Jvm.Cond.instanceMethod ({ cls := "PrefixMill", name := "byteAt", desc := "(I)I" } : Jvm.MethodName)) ∈ tt := List.mem_of_getElem? (i := 646) (by rfl)
set_option maxRecDepth 20000 in
theorem m_745 : (Jvm.Cond.selects "PrefixMill" ({ cls := "PrefixMill", name := "byteAt", desc := "(I)I" } : Jvm.MethodName) ({ cls := "PrefixMill", name := "byteAt", desc := "(I)I" } : Jvm.MethodName)) ∈ tt := List.mem_of_getElem? (i := 647) (by rfl)
set_option maxRecDepth 20000 in
theorem m_746 : (Jvm.Cond.code ({ cls := "PrefixMill", name := "byteAt", desc := "(I)I" } : Jvm.MethodName) prog_1_method_19_code (2 : Nat) (Option.some Jvm.ClassFile.FieldType.int)) ∈ tt := List.mem_of_getElem? (i := 648) (by rfl)
set_option maxRecDepth 20000 in
theorem m_747 : (Jvm.Cond.classLink "PrefixMillLaw" (10 : Nat) "PrefixMillModel") ∈ tt := List.mem_of_getElem? (i := 649) (by rfl)
set_option maxRecDepth 20000 in
theorem m_748 : (Jvm.Cond.instantiable "PrefixMillModel" (25 : Nat)) ∈ tt := List.mem_of_getElem? (i := 650) (by rfl)
set_option maxRecDepth 20000 in
theorem m_749 : (Jvm.Cond.methodLink "PrefixMillLaw" (12 : Nat) ({ cls := "PrefixMillModel", name := "<init>", desc := "()V" } : Jvm.MethodName)) ∈ tt := List.mem_of_getElem? (i := 651) (by rfl)
set_option maxRecDepth 20000 in
theorem m_750 : (Jvm.Cond.instanceMethod ({ cls := "PrefixMillModel", name := "<init>", desc := "()V" } : Jvm.MethodName)) ∈ tt := List.mem_of_getElem? (i := 652) (by rfl)
set_option maxRecDepth 20000 in
theorem m_751 : (Jvm.Cond.code ({ cls := "PrefixMillModel", name := "<init>", desc := "()V" } : Jvm.MethodName) prog_12_method_1_code (1 : Nat) (Option.none : Option Jvm.ClassFile.FieldType)) ∈ tt := List.mem_of_getElem? (i := 653) (by rfl)
set_option maxRecDepth 20000 in
theorem m_752 : (Jvm.Cond.methodLink "PrefixMillModel" (1 : Nat) ({ cls := "java/lang/Object", name := "<init>", desc := "()V" } : Jvm.MethodName)) ∈ tt := List.mem_of_getElem? (i := 654) (by rfl)
set_option maxRecDepth 20000 in
theorem m_753 : (Jvm.Cond.fieldLink "PrefixMillModel" (7 : Nat) "PrefixMillModel" "in" "[I") ∈ tt := List.mem_of_getElem? (i := 655) (by rfl)
set_option maxRecDepth 20000 in
theorem m_754 : (Jvm.Cond.fieldLink "PrefixMillModel" (56 : Nat) "PrefixMillModel" "inLong" "I") ∈ tt := List.mem_of_getElem? (i := 656) (by rfl)
set_option maxRecDepth 20000 in
theorem m_755 : (Jvm.Cond.fieldLink "PrefixMillModel" (65 : Nat) "PrefixMillModel" "goesOn" "I") ∈ tt := List.mem_of_getElem? (i := 657) (by rfl)
set_option maxRecDepth 20000 in
theorem m_756 : (Jvm.Cond.fieldLink "PrefixMillModel" (13 : Nat) "PrefixMillModel" "out" "[I") ∈ tt := List.mem_of_getElem? (i := 658) (by rfl)
set_option maxRecDepth 20000 in
theorem m_757 : (Jvm.Cond.fieldLink "PrefixMillModel" (62 : Nat) "PrefixMillModel" "outLong" "I") ∈ tt := List.mem_of_getElem? (i := 659) (by rfl)
set_option maxRecDepth 20000 in
theorem m_758 : (Jvm.Cond.fieldLink "PrefixMillModel" (16 : Nat) "PrefixMillModel" "counts" "[I") ∈ tt := List.mem_of_getElem? (i := 660) (by rfl)
set_option maxRecDepth 20000 in
theorem m_759 : (Jvm.Cond.fieldLink "PrefixMillModel" (69 : Nat) "PrefixMillModel" "greatest" "I") ∈ tt := List.mem_of_getElem? (i := 661) (by rfl)
set_option maxRecDepth 20000 in
theorem m_760 : (Jvm.Cond.fieldLink "PrefixMillModel" (19 : Nat) "PrefixMillModel" "length" "[I") ∈ tt := List.mem_of_getElem? (i := 662) (by rfl)
set_option maxRecDepth 20000 in
theorem m_761 : (Jvm.Cond.fieldLink "PrefixMillModel" (22 : Nat) "PrefixMillModel" "symbolOf" "[I") ∈ tt := List.mem_of_getElem? (i := 663) (by rfl)
set_option maxRecDepth 20000 in
theorem m_762 : (Jvm.Cond.fieldLink "PrefixMillModel" (25 : Nat) "PrefixMillModel" "draft" "[I") ∈ tt := List.mem_of_getElem? (i := 664) (by rfl)
set_option maxRecDepth 20000 in
theorem m_763 : (Jvm.Cond.fieldLink "PrefixMillModel" (28 : Nat) "PrefixMillModel" "knot" "[I") ∈ tt := List.mem_of_getElem? (i := 665) (by rfl)
set_option maxRecDepth 20000 in
theorem m_764 : (Jvm.Cond.fieldLink "PrefixMillModel" (31 : Nat) "PrefixMillModel" "inSum" "[I") ∈ tt := List.mem_of_getElem? (i := 666) (by rfl)
set_option maxRecDepth 20000 in
theorem m_765 : (Jvm.Cond.fieldLink "PrefixMillModel" (76 : Nat) "PrefixMillModel" "knots" "I") ∈ tt := List.mem_of_getElem? (i := 667) (by rfl)
set_option maxRecDepth 20000 in
theorem m_766 : (Jvm.Cond.fieldLink "PrefixMillModel" (34 : Nat) "PrefixMillModel" "halved" "[I") ∈ tt := List.mem_of_getElem? (i := 668) (by rfl)
set_option maxRecDepth 20000 in
theorem m_767 : (Jvm.Cond.fieldLink "PrefixMillModel" (37 : Nat) "PrefixMillModel" "made" "[I") ∈ tt := List.mem_of_getElem? (i := 669) (by rfl)
set_option maxRecDepth 20000 in
theorem m_768 : (Jvm.Cond.fieldLink "PrefixMillModel" (95 : Nat) "PrefixMillModel" "bitsMade" "I") ∈ tt := List.mem_of_getElem? (i := 670) (by rfl)
set_option maxRecDepth 20000 in
theorem m_769 : (Jvm.Cond.fieldLink "PrefixMillModel" (40 : Nat) "PrefixMillModel" "weight" "[I") ∈ tt := List.mem_of_getElem? (i := 671) (by rfl)
set_option maxRecDepth 20000 in
theorem m_770 : (Jvm.Cond.fieldLink "PrefixMillModel" (134 : Nat) "PrefixMillModel" "weights" "I") ∈ tt := List.mem_of_getElem? (i := 672) (by rfl)
set_option maxRecDepth 20000 in
theorem m_771 : (Jvm.Cond.fieldLink "PrefixMillModel" (131 : Nat) "PrefixMillModel" "order" "I") ∈ tt := List.mem_of_getElem? (i := 673) (by rfl)
set_option maxRecDepth 20000 in
theorem m_772 : (Jvm.Cond.fieldLink "PrefixMillModel" (43 : Nat) "PrefixMillModel" "points" "[I") ∈ tt := List.mem_of_getElem? (i := 674) (by rfl)
set_option maxRecDepth 20000 in
theorem m_773 : (Jvm.Cond.fieldLink "PrefixMillModel" (46 : Nat) "PrefixMillModel" "cutOff" "[I") ∈ tt := List.mem_of_getElem? (i := 675) (by rfl)
set_option maxRecDepth 20000 in
theorem m_774 : (Jvm.Cond.fieldLink "PrefixMillModel" (49 : Nat) "PrefixMillModel" "had" "[Z") ∈ tt := List.mem_of_getElem? (i := 676) (by rfl)
set_option maxRecDepth 20000 in
theorem m_775 : (Jvm.Cond.fieldLink "PrefixMillModel" (53 : Nat) "PrefixMillModel" "placeOf" "[I") ∈ tt := List.mem_of_getElem? (i := 677) (by rfl)
set_option maxRecDepth 20000 in
theorem m_776 : (Jvm.Cond.fieldLink "PrefixMillModel" (189 : Nat) "PrefixMillModel" "bit" "I") ∈ tt := List.mem_of_getElem? (i := 678) (by rfl)
set_option maxRecDepth 20000 in
theorem m_777 : (Jvm.Cond.fieldLink "PrefixMillModel" (192 : Nat) "PrefixMillModel" "bitEnd" "I") ∈ tt := List.mem_of_getElem? (i := 679) (by rfl)
set_option maxRecDepth 20000 in
theorem m_778 : (Jvm.Cond.laysFinal "PrefixMillModel" "PrefixMillModel" "in" "[I") ∈ tt := List.mem_of_getElem? (i := 680) (by rfl)
set_option maxRecDepth 20000 in
theorem m_780 : (Jvm.Cond.lays "PrefixMillModel" "PrefixMillModel" "inLong" "I") ∈ tt := List.mem_of_getElem? (i := 681) (by rfl)
set_option maxRecDepth 20000 in
theorem m_782 : (Jvm.Cond.lays "PrefixMillModel" "PrefixMillModel" "goesOn" "I") ∈ tt := List.mem_of_getElem? (i := 682) (by rfl)
set_option maxRecDepth 20000 in
theorem m_784 : (Jvm.Cond.laysFinal "PrefixMillModel" "PrefixMillModel" "out" "[I") ∈ tt := List.mem_of_getElem? (i := 683) (by rfl)
set_option maxRecDepth 20000 in
theorem m_786 : (Jvm.Cond.lays "PrefixMillModel" "PrefixMillModel" "outLong" "I") ∈ tt := List.mem_of_getElem? (i := 684) (by rfl)
set_option maxRecDepth 20000 in
theorem m_788 : (Jvm.Cond.laysFinal "PrefixMillModel" "PrefixMillModel" "counts" "[I") ∈ tt := List.mem_of_getElem? (i := 685) (by rfl)
set_option maxRecDepth 20000 in
theorem m_790 : (Jvm.Cond.lays "PrefixMillModel" "PrefixMillModel" "greatest" "I") ∈ tt := List.mem_of_getElem? (i := 686) (by rfl)
set_option maxRecDepth 20000 in
theorem m_792 : (Jvm.Cond.laysFinal "PrefixMillModel" "PrefixMillModel" "length" "[I") ∈ tt := List.mem_of_getElem? (i := 687) (by rfl)
set_option maxRecDepth 20000 in
theorem m_794 : (Jvm.Cond.laysFinal "PrefixMillModel" "PrefixMillModel" "symbolOf" "[I") ∈ tt := List.mem_of_getElem? (i := 688) (by rfl)
set_option maxRecDepth 20000 in
theorem m_796 : (Jvm.Cond.laysFinal "PrefixMillModel" "PrefixMillModel" "draft" "[I") ∈ tt := List.mem_of_getElem? (i := 689) (by rfl)
set_option maxRecDepth 20000 in
theorem m_798 : (Jvm.Cond.laysFinal "PrefixMillModel" "PrefixMillModel" "knot" "[I") ∈ tt := List.mem_of_getElem? (i := 690) (by rfl)
set_option maxRecDepth 20000 in
theorem m_800 : (Jvm.Cond.laysFinal "PrefixMillModel" "PrefixMillModel" "inSum" "[I") ∈ tt := List.mem_of_getElem? (i := 691) (by rfl)
set_option maxRecDepth 20000 in
theorem m_802 : (Jvm.Cond.lays "PrefixMillModel" "PrefixMillModel" "knots" "I") ∈ tt := List.mem_of_getElem? (i := 692) (by rfl)
set_option maxRecDepth 20000 in
theorem m_804 : (Jvm.Cond.laysFinal "PrefixMillModel" "PrefixMillModel" "halved" "[I") ∈ tt := List.mem_of_getElem? (i := 693) (by rfl)
set_option maxRecDepth 20000 in
theorem m_806 : (Jvm.Cond.laysFinal "PrefixMillModel" "PrefixMillModel" "made" "[I") ∈ tt := List.mem_of_getElem? (i := 694) (by rfl)
set_option maxRecDepth 20000 in
theorem m_808 : (Jvm.Cond.lays "PrefixMillModel" "PrefixMillModel" "bitsMade" "I") ∈ tt := List.mem_of_getElem? (i := 695) (by rfl)
set_option maxRecDepth 20000 in
theorem m_810 : (Jvm.Cond.laysFinal "PrefixMillModel" "PrefixMillModel" "weight" "[I") ∈ tt := List.mem_of_getElem? (i := 696) (by rfl)
set_option maxRecDepth 20000 in
theorem m_812 : (Jvm.Cond.lays "PrefixMillModel" "PrefixMillModel" "weights" "I") ∈ tt := List.mem_of_getElem? (i := 697) (by rfl)
set_option maxRecDepth 20000 in
theorem m_814 : (Jvm.Cond.lays "PrefixMillModel" "PrefixMillModel" "order" "I") ∈ tt := List.mem_of_getElem? (i := 698) (by rfl)
set_option maxRecDepth 20000 in
theorem m_816 : (Jvm.Cond.laysFinal "PrefixMillModel" "PrefixMillModel" "points" "[I") ∈ tt := List.mem_of_getElem? (i := 699) (by rfl)
set_option maxRecDepth 20000 in
theorem m_818 : (Jvm.Cond.laysFinal "PrefixMillModel" "PrefixMillModel" "cutOff" "[I") ∈ tt := List.mem_of_getElem? (i := 700) (by rfl)
set_option maxRecDepth 20000 in
theorem m_820 : (Jvm.Cond.laysFinal "PrefixMillModel" "PrefixMillModel" "had" "[Z") ∈ tt := List.mem_of_getElem? (i := 701) (by rfl)
set_option maxRecDepth 20000 in
theorem m_822 : (Jvm.Cond.laysFinal "PrefixMillModel" "PrefixMillModel" "placeOf" "[I") ∈ tt := List.mem_of_getElem? (i := 702) (by rfl)
set_option maxRecDepth 20000 in
theorem m_824 : (Jvm.Cond.lays "PrefixMillModel" "PrefixMillModel" "bit" "I") ∈ tt := List.mem_of_getElem? (i := 703) (by rfl)
set_option maxRecDepth 20000 in
theorem m_826 : (Jvm.Cond.lays "PrefixMillModel" "PrefixMillModel" "bitEnd" "I") ∈ tt := List.mem_of_getElem? (i := 704) (by rfl)
set_option maxRecDepth 20000 in
theorem m_829 : (Jvm.Cond.arrayClass Jvm.ClassFile.FieldType.boolean) ∈ tt := List.mem_of_getElem? (i := 705) (by rfl)
set_option maxRecDepth 20000 in
theorem m_830 : (Jvm.Cond.methodLink "PrefixMillLaw" (19 : Nat) ({ cls := "PrefixMillModel", name := "write", desc := "(JI)Z" } : Jvm.MethodName)) ∈ tt := List.mem_of_getElem? (i := 706) (by rfl)
set_option maxRecDepth 20000 in
theorem m_831 : (Jvm.Cond.instanceMethod ({ cls := "PrefixMillModel", name := "write", desc := "(JI)Z" } : Jvm.MethodName)) ∈ tt := List.mem_of_getElem? (i := 707) (by rfl)
set_option maxRecDepth 20000 in
theorem m_832 : (Jvm.Cond.selects "PrefixMillModel" ({ cls := "PrefixMillModel", name := "write", desc := "(JI)Z" } : Jvm.MethodName) ({ cls := "PrefixMillModel", name := "write", desc := "(JI)Z" } : Jvm.MethodName)) ∈ tt := List.mem_of_getElem? (i := 708) (by rfl)
set_option maxRecDepth 20000 in
theorem m_833 : (Jvm.Cond.code ({ cls := "PrefixMillModel", name := "write", desc := "(JI)Z" } : Jvm.MethodName) prog_12_method_2_code (5 : Nat) (Option.some Jvm.ClassFile.FieldType.boolean)) ∈ tt := List.mem_of_getElem? (i := 709) (by rfl)
set_option maxRecDepth 20000 in
theorem m_834 : (Jvm.Cond.methodLink "PrefixMillLaw" (24 : Nat) ({ cls := "PrefixMillModel", name := "again", desc := "(II)Z" } : Jvm.MethodName)) ∈ tt := List.mem_of_getElem? (i := 710) (by rfl)
set_option maxRecDepth 20000 in
theorem m_835 : (Jvm.Cond.instanceMethod ({ cls := "PrefixMillModel", name := "again", desc := "(II)Z" } : Jvm.MethodName)) ∈ tt := List.mem_of_getElem? (i := 711) (by rfl)
set_option maxRecDepth 20000 in
theorem m_836 : (Jvm.Cond.selects "PrefixMillModel" ({ cls := "PrefixMillModel", name := "again", desc := "(II)Z" } : Jvm.MethodName) ({ cls := "PrefixMillModel", name := "again", desc := "(II)Z" } : Jvm.MethodName)) ∈ tt := List.mem_of_getElem? (i := 712) (by rfl)
set_option maxRecDepth 20000 in
theorem m_837 : (Jvm.Cond.code ({ cls := "PrefixMillModel", name := "again", desc := "(II)Z" } : Jvm.MethodName) prog_12_method_3_code (5 : Nat) (Option.some Jvm.ClassFile.FieldType.boolean)) ∈ tt := List.mem_of_getElem? (i := 713) (by rfl)
set_option maxRecDepth 20000 in
theorem m_838 : (Jvm.Cond.constantLong "PrefixMillModel" (60 : Nat) (6000 : Int64)) ∈ tt := List.mem_of_getElem? (i := 714) (by rfl)
set_option maxRecDepth 20000 in
theorem m_839 : (Jvm.Cond.methodLink "PrefixMillLaw" (28 : Nat) ({ cls := "PrefixMillModel", name := "turn", desc := "()V" } : Jvm.MethodName)) ∈ tt := List.mem_of_getElem? (i := 715) (by rfl)
set_option maxRecDepth 20000 in
theorem m_840 : (Jvm.Cond.instanceMethod ({ cls := "PrefixMillModel", name := "turn", desc := "()V" } : Jvm.MethodName)) ∈ tt := List.mem_of_getElem? (i := 716) (by rfl)
set_option maxRecDepth 20000 in
theorem m_841 : (Jvm.Cond.selects "PrefixMillModel" ({ cls := "PrefixMillModel", name := "turn", desc := "()V" } : Jvm.MethodName) ({ cls := "PrefixMillModel", name := "turn", desc := "()V" } : Jvm.MethodName)) ∈ tt := List.mem_of_getElem? (i := 717) (by rfl)
set_option maxRecDepth 20000 in
theorem m_842 : (Jvm.Cond.code ({ cls := "PrefixMillModel", name := "turn", desc := "()V" } : Jvm.MethodName) prog_12_method_4_code (2 : Nat) (Option.none : Option Jvm.ClassFile.FieldType)) ∈ tt := List.mem_of_getElem? (i := 718) (by rfl)
set_option maxRecDepth 20000 in
theorem m_843 : (Jvm.Cond.methodLink "PrefixMillLaw" (32 : Nat) ({ cls := "PrefixMillModel", name := "clear", desc := "()V" } : Jvm.MethodName)) ∈ tt := List.mem_of_getElem? (i := 719) (by rfl)
set_option maxRecDepth 20000 in
theorem m_844 : (Jvm.Cond.instanceMethod ({ cls := "PrefixMillModel", name := "clear", desc := "()V" } : Jvm.MethodName)) ∈ tt := List.mem_of_getElem? (i := 720) (by rfl)
set_option maxRecDepth 20000 in
theorem m_845 : (Jvm.Cond.selects "PrefixMillModel" ({ cls := "PrefixMillModel", name := "clear", desc := "()V" } : Jvm.MethodName) ({ cls := "PrefixMillModel", name := "clear", desc := "()V" } : Jvm.MethodName)) ∈ tt := List.mem_of_getElem? (i := 721) (by rfl)
set_option maxRecDepth 20000 in
theorem m_846 : (Jvm.Cond.code ({ cls := "PrefixMillModel", name := "clear", desc := "()V" } : Jvm.MethodName) prog_12_method_5_code (2 : Nat) (Option.none : Option Jvm.ClassFile.FieldType)) ∈ tt := List.mem_of_getElem? (i := 722) (by rfl)
set_option maxRecDepth 20000 in
theorem m_847 : (Jvm.Cond.methodLink "PrefixMillLaw" (37 : Nat) ({ cls := "PrefixMillModel", name := "place", desc := "(I)Z" } : Jvm.MethodName)) ∈ tt := List.mem_of_getElem? (i := 723) (by rfl)
set_option maxRecDepth 20000 in
theorem m_848 : (Jvm.Cond.instanceMethod ({ cls := "PrefixMillModel", name := "place", desc := "(I)Z" } : Jvm.MethodName)) ∈ tt := List.mem_of_getElem? (i := 724) (by rfl)
set_option maxRecDepth 20000 in
theorem m_849 : (Jvm.Cond.selects "PrefixMillModel" ({ cls := "PrefixMillModel", name := "place", desc := "(I)Z" } : Jvm.MethodName) ({ cls := "PrefixMillModel", name := "place", desc := "(I)Z" } : Jvm.MethodName)) ∈ tt := List.mem_of_getElem? (i := 725) (by rfl)
set_option maxRecDepth 20000 in
theorem m_850 : (Jvm.Cond.code ({ cls := "PrefixMillModel", name := "place", desc := "(I)Z" } : Jvm.MethodName) prog_12_method_6_code (2 : Nat) (Option.some Jvm.ClassFile.FieldType.boolean)) ∈ tt := List.mem_of_getElem? (i := 726) (by rfl)
set_option maxRecDepth 20000 in
theorem m_851 : (Jvm.Cond.methodLink "PrefixMillLaw" (42 : Nat) ({ cls := "PrefixMillModel", name := "at", desc := "()I" } : Jvm.MethodName)) ∈ tt := List.mem_of_getElem? (i := 727) (by rfl)
set_option maxRecDepth 20000 in
theorem m_852 : (Jvm.Cond.instanceMethod ({ cls := "PrefixMillModel", name := "at", desc := "()I" } : Jvm.MethodName)) ∈ tt := List.mem_of_getElem? (i := 728) (by rfl)
set_option maxRecDepth 20000 in
theorem m_853 : (Jvm.Cond.selects "PrefixMillModel" ({ cls := "PrefixMillModel", name := "at", desc := "()I" } : Jvm.MethodName) ({ cls := "PrefixMillModel", name := "at", desc := "()I" } : Jvm.MethodName)) ∈ tt := List.mem_of_getElem? (i := 729) (by rfl)
set_option maxRecDepth 20000 in
theorem m_854 : (Jvm.Cond.code ({ cls := "PrefixMillModel", name := "at", desc := "()I" } : Jvm.MethodName) prog_12_method_7_code (1 : Nat) (Option.some Jvm.ClassFile.FieldType.int)) ∈ tt := List.mem_of_getElem? (i := 730) (by rfl)
set_option maxRecDepth 20000 in
theorem m_855 : (Jvm.Cond.methodLink "PrefixMillLaw" (46 : Nat) ({ cls := "PrefixMillModel", name := "count", desc := "(II)Z" } : Jvm.MethodName)) ∈ tt := List.mem_of_getElem? (i := 731) (by rfl)
set_option maxRecDepth 20000 in
theorem m_856 : (Jvm.Cond.instanceMethod ({ cls := "PrefixMillModel", name := "count", desc := "(II)Z" } : Jvm.MethodName)) ∈ tt := List.mem_of_getElem? (i := 732) (by rfl)
set_option maxRecDepth 20000 in
theorem m_857 : (Jvm.Cond.selects "PrefixMillModel" ({ cls := "PrefixMillModel", name := "count", desc := "(II)Z" } : Jvm.MethodName) ({ cls := "PrefixMillModel", name := "count", desc := "(II)Z" } : Jvm.MethodName)) ∈ tt := List.mem_of_getElem? (i := 733) (by rfl)
set_option maxRecDepth 20000 in
theorem m_858 : (Jvm.Cond.code ({ cls := "PrefixMillModel", name := "count", desc := "(II)Z" } : Jvm.MethodName) prog_12_method_8_code (3 : Nat) (Option.some Jvm.ClassFile.FieldType.boolean)) ∈ tt := List.mem_of_getElem? (i := 734) (by rfl)
set_option maxRecDepth 20000 in
theorem m_859 : (Jvm.Cond.constant "PrefixMillModel" (68 : Nat) (65535 : Int32)) ∈ tt := List.mem_of_getElem? (i := 735) (by rfl)
set_option maxRecDepth 20000 in
theorem m_860 : (Jvm.Cond.methodLink "PrefixMillLaw" (50 : Nat) ({ cls := "PrefixMillModel", name := "countAll", desc := "()I" } : Jvm.MethodName)) ∈ tt := List.mem_of_getElem? (i := 736) (by rfl)
set_option maxRecDepth 20000 in
theorem m_861 : (Jvm.Cond.instanceMethod ({ cls := "PrefixMillModel", name := "countAll", desc := "()I" } : Jvm.MethodName)) ∈ tt := List.mem_of_getElem? (i := 737) (by rfl)
set_option maxRecDepth 20000 in
theorem m_862 : (Jvm.Cond.selects "PrefixMillModel" ({ cls := "PrefixMillModel", name := "countAll", desc := "()I" } : Jvm.MethodName) ({ cls := "PrefixMillModel", name := "countAll", desc := "()I" } : Jvm.MethodName)) ∈ tt := List.mem_of_getElem? (i := 738) (by rfl)
set_option maxRecDepth 20000 in
theorem m_863 : (Jvm.Cond.code ({ cls := "PrefixMillModel", name := "countAll", desc := "()I" } : Jvm.MethodName) prog_12_method_9_code (2 : Nat) (Option.some Jvm.ClassFile.FieldType.int)) ∈ tt := List.mem_of_getElem? (i := 739) (by rfl)
set_option maxRecDepth 20000 in
theorem m_864 : (Jvm.Cond.methodLink "PrefixMillLaw" (55 : Nat) ({ cls := "PrefixMillModel", name := "lengths", desc := "(I)I" } : Jvm.MethodName)) ∈ tt := List.mem_of_getElem? (i := 740) (by rfl)
set_option maxRecDepth 20000 in
theorem m_865 : (Jvm.Cond.instanceMethod ({ cls := "PrefixMillModel", name := "lengths", desc := "(I)I" } : Jvm.MethodName)) ∈ tt := List.mem_of_getElem? (i := 741) (by rfl)
set_option maxRecDepth 20000 in
theorem m_866 : (Jvm.Cond.selects "PrefixMillModel" ({ cls := "PrefixMillModel", name := "lengths", desc := "(I)I" } : Jvm.MethodName) ({ cls := "PrefixMillModel", name := "lengths", desc := "(I)I" } : Jvm.MethodName)) ∈ tt := List.mem_of_getElem? (i := 742) (by rfl)
set_option maxRecDepth 20000 in
theorem m_867 : (Jvm.Cond.code ({ cls := "PrefixMillModel", name := "lengths", desc := "(I)I" } : Jvm.MethodName) prog_12_method_15_code (5 : Nat) (Option.some Jvm.ClassFile.FieldType.int)) ∈ tt := List.mem_of_getElem? (i := 743) (by rfl)
set_option maxRecDepth 20000 in
theorem m_868 : (Jvm.Cond.methodLink "PrefixMillModel" (82 : Nat) ({ cls := "PrefixMillModel", name := "sums", desc := "()V" } : Jvm.MethodName)) ∈ tt := List.mem_of_getElem? (i := 744) (by rfl)
set_option maxRecDepth 20000 in
theorem m_870 : (Jvm.Cond.instanceMethod ({ cls := "PrefixMillModel", name := "sums", desc := "()V" } : Jvm.MethodName)) ∈ tt := List.mem_of_getElem? (i := 745) (by rfl)
set_option maxRecDepth 20000 in
theorem m_871 : (Jvm.Cond.code ({ cls := "PrefixMillModel", name := "sums", desc := "()V" } : Jvm.MethodName) prog_12_method_14_code (5 : Nat) (Option.none : Option Jvm.ClassFile.FieldType)) ∈ tt := List.mem_of_getElem? (i := 746) (by rfl)
set_option maxRecDepth 20000 in
theorem m_872 : (Jvm.Cond.methodLink "PrefixMillModel" (79 : Nat) ({ cls := "PrefixMillModel", name := "least", desc := "(I)I" } : Jvm.MethodName)) ∈ tt := List.mem_of_getElem? (i := 747) (by rfl)
set_option maxRecDepth 20000 in
theorem m_874 : (Jvm.Cond.instanceMethod ({ cls := "PrefixMillModel", name := "least", desc := "(I)I" } : Jvm.MethodName)) ∈ tt := List.mem_of_getElem? (i := 748) (by rfl)
set_option maxRecDepth 20000 in
theorem m_875 : (Jvm.Cond.code ({ cls := "PrefixMillModel", name := "least", desc := "(I)I" } : Jvm.MethodName) prog_12_method_13_code (4 : Nat) (Option.some Jvm.ClassFile.FieldType.int)) ∈ tt := List.mem_of_getElem? (i := 749) (by rfl)
set_option maxRecDepth 20000 in
theorem m_876 : (Jvm.Cond.methodLink "PrefixMillModel" (85 : Nat) ({ cls := "PrefixMillModel", name := "longestDraft", desc := "()I" } : Jvm.MethodName)) ∈ tt := List.mem_of_getElem? (i := 750) (by rfl)
set_option maxRecDepth 20000 in
theorem m_878 : (Jvm.Cond.instanceMethod ({ cls := "PrefixMillModel", name := "longestDraft", desc := "()I" } : Jvm.MethodName)) ∈ tt := List.mem_of_getElem? (i := 751) (by rfl)
set_option maxRecDepth 20000 in
theorem m_879 : (Jvm.Cond.code ({ cls := "PrefixMillModel", name := "longestDraft", desc := "()I" } : Jvm.MethodName) prog_12_method_12_code (3 : Nat) (Option.some Jvm.ClassFile.FieldType.int)) ∈ tt := List.mem_of_getElem? (i := 752) (by rfl)
set_option maxRecDepth 20000 in
theorem m_880 : (Jvm.Cond.methodLink "PrefixMillModel" (89 : Nat) ({ cls := "PrefixMillModel", name := "settle", desc := "(I)I" } : Jvm.MethodName)) ∈ tt := List.mem_of_getElem? (i := 753) (by rfl)
set_option maxRecDepth 20000 in
theorem m_882 : (Jvm.Cond.instanceMethod ({ cls := "PrefixMillModel", name := "settle", desc := "(I)I" } : Jvm.MethodName)) ∈ tt := List.mem_of_getElem? (i := 754) (by rfl)
set_option maxRecDepth 20000 in
theorem m_883 : (Jvm.Cond.code ({ cls := "PrefixMillModel", name := "settle", desc := "(I)I" } : Jvm.MethodName) prog_12_method_11_code (6 : Nat) (Option.some Jvm.ClassFile.FieldType.int)) ∈ tt := List.mem_of_getElem? (i := 755) (by rfl)
set_option maxRecDepth 20000 in
theorem m_884 : (Jvm.Cond.methodLink "PrefixMillModel" (72 : Nat) ({ cls := "PrefixMillModel", name := "weightOf", desc := "(I)I" } : Jvm.MethodName)) ∈ tt := List.mem_of_getElem? (i := 756) (by rfl)
set_option maxRecDepth 20000 in
theorem m_886 : (Jvm.Cond.instanceMethod ({ cls := "PrefixMillModel", name := "weightOf", desc := "(I)I" } : Jvm.MethodName)) ∈ tt := List.mem_of_getElem? (i := 757) (by rfl)
set_option maxRecDepth 20000 in
theorem m_887 : (Jvm.Cond.code ({ cls := "PrefixMillModel", name := "weightOf", desc := "(I)I" } : Jvm.MethodName) prog_12_method_10_code (2 : Nat) (Option.some Jvm.ClassFile.FieldType.int)) ∈ tt := List.mem_of_getElem? (i := 758) (by rfl)
set_option maxRecDepth 20000 in
theorem m_888 : (Jvm.Cond.methodLink "PrefixMillLaw" (59 : Nat) ({ cls := "PrefixMillModel", name := "just", desc := "()I" } : Jvm.MethodName)) ∈ tt := List.mem_of_getElem? (i := 759) (by rfl)
set_option maxRecDepth 20000 in
theorem m_889 : (Jvm.Cond.instanceMethod ({ cls := "PrefixMillModel", name := "just", desc := "()I" } : Jvm.MethodName)) ∈ tt := List.mem_of_getElem? (i := 760) (by rfl)
set_option maxRecDepth 20000 in
theorem m_890 : (Jvm.Cond.selects "PrefixMillModel" ({ cls := "PrefixMillModel", name := "just", desc := "()I" } : Jvm.MethodName) ({ cls := "PrefixMillModel", name := "just", desc := "()I" } : Jvm.MethodName)) ∈ tt := List.mem_of_getElem? (i := 761) (by rfl)
set_option maxRecDepth 20000 in
theorem m_891 : (Jvm.Cond.code ({ cls := "PrefixMillModel", name := "just", desc := "()I" } : Jvm.MethodName) prog_12_method_16_code (5 : Nat) (Option.some Jvm.ClassFile.FieldType.int)) ∈ tt := List.mem_of_getElem? (i := 762) (by rfl)
set_option maxRecDepth 20000 in
theorem m_892 : (Jvm.Cond.methodLink "PrefixMillLaw" (81 : Nat) ({ cls := "PrefixMillModel", name := "about", desc := "(I)I" } : Jvm.MethodName)) ∈ tt := List.mem_of_getElem? (i := 763) (by rfl)
set_option maxRecDepth 20000 in
theorem m_893 : (Jvm.Cond.instanceMethod ({ cls := "PrefixMillModel", name := "about", desc := "(I)I" } : Jvm.MethodName)) ∈ tt := List.mem_of_getElem? (i := 764) (by rfl)
set_option maxRecDepth 20000 in
theorem m_894 : (Jvm.Cond.selects "PrefixMillModel" ({ cls := "PrefixMillModel", name := "about", desc := "(I)I" } : Jvm.MethodName) ({ cls := "PrefixMillModel", name := "about", desc := "(I)I" } : Jvm.MethodName)) ∈ tt := List.mem_of_getElem? (i := 765) (by rfl)
set_option maxRecDepth 20000 in
theorem m_895 : (Jvm.Cond.code ({ cls := "PrefixMillModel", name := "about", desc := "(I)I" } : Jvm.MethodName) prog_12_method_18_code (4 : Nat) (Option.some Jvm.ClassFile.FieldType.int)) ∈ tt := List.mem_of_getElem? (i := 766) (by rfl)
set_option maxRecDepth 20000 in
theorem m_896 : (Jvm.Cond.methodLink "PrefixMillLaw" (86 : Nat) ({ cls := "PrefixMillModel", name := "code", desc := "(II)I" } : Jvm.MethodName)) ∈ tt := List.mem_of_getElem? (i := 767) (by rfl)
set_option maxRecDepth 20000 in
theorem m_897 : (Jvm.Cond.instanceMethod ({ cls := "PrefixMillModel", name := "code", desc := "(II)I" } : Jvm.MethodName)) ∈ tt := List.mem_of_getElem? (i := 768) (by rfl)
set_option maxRecDepth 20000 in
theorem m_898 : (Jvm.Cond.selects "PrefixMillModel" ({ cls := "PrefixMillModel", name := "code", desc := "(II)I" } : Jvm.MethodName) ({ cls := "PrefixMillModel", name := "code", desc := "(II)I" } : Jvm.MethodName)) ∈ tt := List.mem_of_getElem? (i := 769) (by rfl)
set_option maxRecDepth 20000 in
theorem m_899 : (Jvm.Cond.code ({ cls := "PrefixMillModel", name := "code", desc := "(II)I" } : Jvm.MethodName) prog_12_method_19_code (3 : Nat) (Option.some Jvm.ClassFile.FieldType.int)) ∈ tt := List.mem_of_getElem? (i := 770) (by rfl)
set_option maxRecDepth 20000 in
theorem m_900 : (Jvm.Cond.methodLink "PrefixMillModel" (92 : Nat) ({ cls := "PrefixMillModel", name := "codeOf", desc := "(I)I" } : Jvm.MethodName)) ∈ tt := List.mem_of_getElem? (i := 771) (by rfl)
set_option maxRecDepth 20000 in
theorem m_902 : (Jvm.Cond.instanceMethod ({ cls := "PrefixMillModel", name := "codeOf", desc := "(I)I" } : Jvm.MethodName)) ∈ tt := List.mem_of_getElem? (i := 772) (by rfl)
set_option maxRecDepth 20000 in
theorem m_903 : (Jvm.Cond.code ({ cls := "PrefixMillModel", name := "codeOf", desc := "(I)I" } : Jvm.MethodName) prog_12_method_17_code (3 : Nat) (Option.some Jvm.ClassFile.FieldType.int)) ∈ tt := List.mem_of_getElem? (i := 773) (by rfl)
set_option maxRecDepth 20000 in
theorem m_904 : (Jvm.Cond.methodLink "PrefixMillLaw" (72 : Nat) ({ cls := "PrefixMillModel", name := "encode", desc := "(Z)I" } : Jvm.MethodName)) ∈ tt := List.mem_of_getElem? (i := 774) (by rfl)
set_option maxRecDepth 20000 in
theorem m_905 : (Jvm.Cond.instanceMethod ({ cls := "PrefixMillModel", name := "encode", desc := "(Z)I" } : Jvm.MethodName)) ∈ tt := List.mem_of_getElem? (i := 775) (by rfl)
set_option maxRecDepth 20000 in
theorem m_906 : (Jvm.Cond.selects "PrefixMillModel" ({ cls := "PrefixMillModel", name := "encode", desc := "(Z)I" } : Jvm.MethodName) ({ cls := "PrefixMillModel", name := "encode", desc := "(Z)I" } : Jvm.MethodName)) ∈ tt := List.mem_of_getElem? (i := 776) (by rfl)
set_option maxRecDepth 20000 in
theorem m_907 : (Jvm.Cond.code ({ cls := "PrefixMillModel", name := "encode", desc := "(Z)I" } : Jvm.MethodName) prog_12_method_26_code (7 : Nat) (Option.some Jvm.ClassFile.FieldType.int)) ∈ tt := List.mem_of_getElem? (i := 777) (by rfl)
set_option maxRecDepth 20000 in
theorem m_908 : (Jvm.Cond.methodLink "PrefixMillModel" (105 : Nat) ({ cls := "PrefixMillModel", name := "streamBytes", desc := "(II)I" } : Jvm.MethodName)) ∈ tt := List.mem_of_getElem? (i := 778) (by rfl)
set_option maxRecDepth 20000 in
theorem m_910 : (Jvm.Cond.instanceMethod ({ cls := "PrefixMillModel", name := "streamBytes", desc := "(II)I" } : Jvm.MethodName)) ∈ tt := List.mem_of_getElem? (i := 779) (by rfl)
set_option maxRecDepth 20000 in
theorem m_911 : (Jvm.Cond.code ({ cls := "PrefixMillModel", name := "streamBytes", desc := "(II)I" } : Jvm.MethodName) prog_12_method_24_code (5 : Nat) (Option.some Jvm.ClassFile.FieldType.int)) ∈ tt := List.mem_of_getElem? (i := 780) (by rfl)
set_option maxRecDepth 20000 in
theorem m_912 : (Jvm.Cond.methodLink "PrefixMillModel" (109 : Nat) ({ cls := "PrefixMillModel", name := "begin", desc := "()V" } : Jvm.MethodName)) ∈ tt := List.mem_of_getElem? (i := 781) (by rfl)
set_option maxRecDepth 20000 in
theorem m_914 : (Jvm.Cond.instanceMethod ({ cls := "PrefixMillModel", name := "begin", desc := "()V" } : Jvm.MethodName)) ∈ tt := List.mem_of_getElem? (i := 782) (by rfl)
set_option maxRecDepth 20000 in
theorem m_915 : (Jvm.Cond.code ({ cls := "PrefixMillModel", name := "begin", desc := "()V" } : Jvm.MethodName) prog_12_method_20_code (2 : Nat) (Option.none : Option Jvm.ClassFile.FieldType)) ∈ tt := List.mem_of_getElem? (i := 783) (by rfl)
set_option maxRecDepth 20000 in
theorem m_916 : (Jvm.Cond.methodLink "PrefixMillModel" (98 : Nat) ({ cls := "PrefixMillModel", name := "put", desc := "(II)V" } : Jvm.MethodName)) ∈ tt := List.mem_of_getElem? (i := 784) (by rfl)
set_option maxRecDepth 20000 in
theorem m_918 : (Jvm.Cond.instanceMethod ({ cls := "PrefixMillModel", name := "put", desc := "(II)V" } : Jvm.MethodName)) ∈ tt := List.mem_of_getElem? (i := 785) (by rfl)
set_option maxRecDepth 20000 in
theorem m_919 : (Jvm.Cond.code ({ cls := "PrefixMillModel", name := "put", desc := "(II)V" } : Jvm.MethodName) prog_12_method_21_code (4 : Nat) (Option.none : Option Jvm.ClassFile.FieldType)) ∈ tt := List.mem_of_getElem? (i := 786) (by rfl)
set_option maxRecDepth 20000 in
theorem m_920 : (Jvm.Cond.methodLink "PrefixMillModel" (112 : Nat) ({ cls := "PrefixMillModel", name := "putStream", desc := "(II)V" } : Jvm.MethodName)) ∈ tt := List.mem_of_getElem? (i := 787) (by rfl)
set_option maxRecDepth 20000 in
theorem m_922 : (Jvm.Cond.instanceMethod ({ cls := "PrefixMillModel", name := "putStream", desc := "(II)V" } : Jvm.MethodName)) ∈ tt := List.mem_of_getElem? (i := 788) (by rfl)
set_option maxRecDepth 20000 in
theorem m_923 : (Jvm.Cond.code ({ cls := "PrefixMillModel", name := "putStream", desc := "(II)V" } : Jvm.MethodName) prog_12_method_25_code (4 : Nat) (Option.none : Option Jvm.ClassFile.FieldType)) ∈ tt := List.mem_of_getElem? (i := 789) (by rfl)
set_option maxRecDepth 20000 in
theorem m_924 : (Jvm.Cond.methodLink "PrefixMillModel" (102 : Nat) ({ cls := "PrefixMillModel", name := "fill", desc := "()V" } : Jvm.MethodName)) ∈ tt := List.mem_of_getElem? (i := 790) (by rfl)
set_option maxRecDepth 20000 in
theorem m_926 : (Jvm.Cond.instanceMethod ({ cls := "PrefixMillModel", name := "fill", desc := "()V" } : Jvm.MethodName)) ∈ tt := List.mem_of_getElem? (i := 791) (by rfl)
set_option maxRecDepth 20000 in
theorem m_927 : (Jvm.Cond.code ({ cls := "PrefixMillModel", name := "fill", desc := "()V" } : Jvm.MethodName) prog_12_method_22_code (1 : Nat) (Option.none : Option Jvm.ClassFile.FieldType)) ∈ tt := List.mem_of_getElem? (i := 792) (by rfl)
set_option maxRecDepth 20000 in
theorem m_928 : (Jvm.Cond.methodLink "PrefixMillModel" (115 : Nat) ({ cls := "PrefixMillModel", name := "give", desc := "()I" } : Jvm.MethodName)) ∈ tt := List.mem_of_getElem? (i := 793) (by rfl)
set_option maxRecDepth 20000 in
theorem m_930 : (Jvm.Cond.instanceMethod ({ cls := "PrefixMillModel", name := "give", desc := "()I" } : Jvm.MethodName)) ∈ tt := List.mem_of_getElem? (i := 794) (by rfl)
set_option maxRecDepth 20000 in
theorem m_931 : (Jvm.Cond.code ({ cls := "PrefixMillModel", name := "give", desc := "()I" } : Jvm.MethodName) prog_12_method_23_code (2 : Nat) (Option.some Jvm.ClassFile.FieldType.int)) ∈ tt := List.mem_of_getElem? (i := 795) (by rfl)
set_option maxRecDepth 20000 in
theorem m_932 : (Jvm.Cond.methodLink "PrefixMillLaw" (77 : Nat) ({ cls := "PrefixMillModel", name := "decode", desc := "(IZ)I" } : Jvm.MethodName)) ∈ tt := List.mem_of_getElem? (i := 796) (by rfl)
set_option maxRecDepth 20000 in
theorem m_933 : (Jvm.Cond.instanceMethod ({ cls := "PrefixMillModel", name := "decode", desc := "(IZ)I" } : Jvm.MethodName)) ∈ tt := List.mem_of_getElem? (i := 797) (by rfl)
set_option maxRecDepth 20000 in
theorem m_934 : (Jvm.Cond.selects "PrefixMillModel" ({ cls := "PrefixMillModel", name := "decode", desc := "(IZ)I" } : Jvm.MethodName) ({ cls := "PrefixMillModel", name := "decode", desc := "(IZ)I" } : Jvm.MethodName)) ∈ tt := List.mem_of_getElem? (i := 798) (by rfl)
set_option maxRecDepth 20000 in
theorem m_935 : (Jvm.Cond.code ({ cls := "PrefixMillModel", name := "decode", desc := "(IZ)I" } : Jvm.MethodName) prog_12_method_30_code (6 : Nat) (Option.some Jvm.ClassFile.FieldType.int)) ∈ tt := List.mem_of_getElem? (i := 799) (by rfl)
set_option maxRecDepth 20000 in
theorem m_936 : (Jvm.Cond.methodLink "PrefixMillModel" (125 : Nat) ({ cls := "PrefixMillModel", name := "takeFour", desc := "(II)I" } : Jvm.MethodName)) ∈ tt := List.mem_of_getElem? (i := 800) (by rfl)
set_option maxRecDepth 20000 in
theorem m_938 : (Jvm.Cond.instanceMethod ({ cls := "PrefixMillModel", name := "takeFour", desc := "(II)I" } : Jvm.MethodName)) ∈ tt := List.mem_of_getElem? (i := 801) (by rfl)
set_option maxRecDepth 20000 in
theorem m_939 : (Jvm.Cond.code ({ cls := "PrefixMillModel", name := "takeFour", desc := "(II)I" } : Jvm.MethodName) prog_12_method_29_code (8 : Nat) (Option.some Jvm.ClassFile.FieldType.int)) ∈ tt := List.mem_of_getElem? (i := 802) (by rfl)
set_option maxRecDepth 20000 in
theorem m_940 : (Jvm.Cond.methodLink "PrefixMillModel" (121 : Nat) ({ cls := "PrefixMillModel", name := "takeStream", desc := "(IIII)I" } : Jvm.MethodName)) ∈ tt := List.mem_of_getElem? (i := 803) (by rfl)
set_option maxRecDepth 20000 in
theorem m_942 : (Jvm.Cond.instanceMethod ({ cls := "PrefixMillModel", name := "takeStream", desc := "(IIII)I" } : Jvm.MethodName)) ∈ tt := List.mem_of_getElem? (i := 804) (by rfl)
set_option maxRecDepth 20000 in
theorem m_943 : (Jvm.Cond.code ({ cls := "PrefixMillModel", name := "takeStream", desc := "(IIII)I" } : Jvm.MethodName) prog_12_method_28_code (10 : Nat) (Option.some Jvm.ClassFile.FieldType.int)) ∈ tt := List.mem_of_getElem? (i := 805) (by rfl)
set_option maxRecDepth 20000 in
theorem m_944 : (Jvm.Cond.methodLink "PrefixMillModel" (118 : Nat) ({ cls := "PrefixMillModel", name := "bitAt", desc := "(I)I" } : Jvm.MethodName)) ∈ tt := List.mem_of_getElem? (i := 806) (by rfl)
set_option maxRecDepth 20000 in
theorem m_946 : (Jvm.Cond.instanceMethod ({ cls := "PrefixMillModel", name := "bitAt", desc := "(I)I" } : Jvm.MethodName)) ∈ tt := List.mem_of_getElem? (i := 807) (by rfl)
set_option maxRecDepth 20000 in
theorem m_947 : (Jvm.Cond.code ({ cls := "PrefixMillModel", name := "bitAt", desc := "(I)I" } : Jvm.MethodName) prog_12_method_27_code (2 : Nat) (Option.some Jvm.ClassFile.FieldType.int)) ∈ tt := List.mem_of_getElem? (i := 808) (by rfl)
set_option maxRecDepth 20000 in
theorem m_948 : (Jvm.Cond.methodLink "PrefixMillLaw" (63 : Nat) ({ cls := "PrefixMillModel", name := "describe", desc := "()I" } : Jvm.MethodName)) ∈ tt := List.mem_of_getElem? (i := 809) (by rfl)
set_option maxRecDepth 20000 in
theorem m_949 : (Jvm.Cond.instanceMethod ({ cls := "PrefixMillModel", name := "describe", desc := "()I" } : Jvm.MethodName)) ∈ tt := List.mem_of_getElem? (i := 810) (by rfl)
set_option maxRecDepth 20000 in
theorem m_950 : (Jvm.Cond.selects "PrefixMillModel" ({ cls := "PrefixMillModel", name := "describe", desc := "()I" } : Jvm.MethodName) ({ cls := "PrefixMillModel", name := "describe", desc := "()I" } : Jvm.MethodName)) ∈ tt := List.mem_of_getElem? (i := 811) (by rfl)
set_option maxRecDepth 20000 in
theorem m_951 : (Jvm.Cond.code ({ cls := "PrefixMillModel", name := "describe", desc := "()I" } : Jvm.MethodName) prog_12_method_49_code (6 : Nat) (Option.some Jvm.ClassFile.FieldType.int)) ∈ tt := List.mem_of_getElem? (i := 812) (by rfl)
set_option maxRecDepth 20000 in
theorem m_952 : (Jvm.Cond.methodLink "PrefixMillModel" (180 : Nat) ({ cls := "PrefixMillModel", name := "different", desc := "()I" } : Jvm.MethodName)) ∈ tt := List.mem_of_getElem? (i := 813) (by rfl)
set_option maxRecDepth 20000 in
theorem m_954 : (Jvm.Cond.instanceMethod ({ cls := "PrefixMillModel", name := "different", desc := "()I" } : Jvm.MethodName)) ∈ tt := List.mem_of_getElem? (i := 814) (by rfl)
set_option maxRecDepth 20000 in
theorem m_955 : (Jvm.Cond.code ({ cls := "PrefixMillModel", name := "different", desc := "()I" } : Jvm.MethodName) prog_12_method_48_code (3 : Nat) (Option.some Jvm.ClassFile.FieldType.int)) ∈ tt := List.mem_of_getElem? (i := 815) (by rfl)
set_option maxRecDepth 20000 in
theorem m_956 : (Jvm.Cond.methodLink "PrefixMillModel" (137 : Nat) ({ cls := "PrefixMillModel", name := "countOf", desc := "(I)I" } : Jvm.MethodName)) ∈ tt := List.mem_of_getElem? (i := 816) (by rfl)
set_option maxRecDepth 20000 in
theorem m_958 : (Jvm.Cond.instanceMethod ({ cls := "PrefixMillModel", name := "countOf", desc := "(I)I" } : Jvm.MethodName)) ∈ tt := List.mem_of_getElem? (i := 817) (by rfl)
set_option maxRecDepth 20000 in
theorem m_959 : (Jvm.Cond.code ({ cls := "PrefixMillModel", name := "countOf", desc := "(I)I" } : Jvm.MethodName) prog_12_method_33_code (4 : Nat) (Option.some Jvm.ClassFile.FieldType.int)) ∈ tt := List.mem_of_getElem? (i := 818) (by rfl)
set_option maxRecDepth 20000 in
theorem m_960 : (Jvm.Cond.methodLink "PrefixMillModel" (183 : Nat) ({ cls := "PrefixMillModel", name := "putStates", desc := "(I)I" } : Jvm.MethodName)) ∈ tt := List.mem_of_getElem? (i := 819) (by rfl)
set_option maxRecDepth 20000 in
theorem m_962 : (Jvm.Cond.instanceMethod ({ cls := "PrefixMillModel", name := "putStates", desc := "(I)I" } : Jvm.MethodName)) ∈ tt := List.mem_of_getElem? (i := 820) (by rfl)
set_option maxRecDepth 20000 in
theorem m_963 : (Jvm.Cond.code ({ cls := "PrefixMillModel", name := "putStates", desc := "(I)I" } : Jvm.MethodName) prog_12_method_46_code (2 : Nat) (Option.some Jvm.ClassFile.FieldType.int)) ∈ tt := List.mem_of_getElem? (i := 821) (by rfl)
set_option maxRecDepth 20000 in
theorem m_964 : (Jvm.Cond.methodLink "PrefixMillModel" (170 : Nat) ({ cls := "PrefixMillModel", name := "shareByCounts", desc := "(I)V" } : Jvm.MethodName)) ∈ tt := List.mem_of_getElem? (i := 822) (by rfl)
set_option maxRecDepth 20000 in
theorem m_966 : (Jvm.Cond.instanceMethod ({ cls := "PrefixMillModel", name := "shareByCounts", desc := "(I)V" } : Jvm.MethodName)) ∈ tt := List.mem_of_getElem? (i := 823) (by rfl)
set_option maxRecDepth 20000 in
theorem m_967 : (Jvm.Cond.code ({ cls := "PrefixMillModel", name := "shareByCounts", desc := "(I)V" } : Jvm.MethodName) prog_12_method_36_code (4 : Nat) (Option.none : Option Jvm.ClassFile.FieldType)) ∈ tt := List.mem_of_getElem? (i := 824) (by rfl)
set_option maxRecDepth 20000 in
theorem m_968 : (Jvm.Cond.methodLink "PrefixMillModel" (140 : Nat) ({ cls := "PrefixMillModel", name := "newRound", desc := "()V" } : Jvm.MethodName)) ∈ tt := List.mem_of_getElem? (i := 825) (by rfl)
set_option maxRecDepth 20000 in
theorem m_970 : (Jvm.Cond.instanceMethod ({ cls := "PrefixMillModel", name := "newRound", desc := "()V" } : Jvm.MethodName)) ∈ tt := List.mem_of_getElem? (i := 826) (by rfl)
set_option maxRecDepth 20000 in
theorem m_971 : (Jvm.Cond.code ({ cls := "PrefixMillModel", name := "newRound", desc := "()V" } : Jvm.MethodName) prog_12_method_35_code (2 : Nat) (Option.none : Option Jvm.ClassFile.FieldType)) ∈ tt := List.mem_of_getElem? (i := 827) (by rfl)
set_option maxRecDepth 20000 in
theorem m_972 : (Jvm.Cond.methodLink "PrefixMillModel" (143 : Nat) ({ cls := "PrefixMillModel", name := "lacking", desc := "()I" } : Jvm.MethodName)) ∈ tt := List.mem_of_getElem? (i := 828) (by rfl)
set_option maxRecDepth 20000 in
theorem m_974 : (Jvm.Cond.instanceMethod ({ cls := "PrefixMillModel", name := "lacking", desc := "()I" } : Jvm.MethodName)) ∈ tt := List.mem_of_getElem? (i := 829) (by rfl)
set_option maxRecDepth 20000 in
theorem m_975 : (Jvm.Cond.code ({ cls := "PrefixMillModel", name := "lacking", desc := "()I" } : Jvm.MethodName) prog_12_method_32_code (3 : Nat) (Option.some Jvm.ClassFile.FieldType.int)) ∈ tt := List.mem_of_getElem? (i := 830) (by rfl)
set_option maxRecDepth 20000 in
theorem m_976 : (Jvm.Cond.methodLink "PrefixMillModel" (128 : Nat) ({ cls := "PrefixMillModel", name := "mass", desc := "(I)I" } : Jvm.MethodName)) ∈ tt := List.mem_of_getElem? (i := 831) (by rfl)
set_option maxRecDepth 20000 in
theorem m_977 : (Jvm.Cond.static ({ cls := "PrefixMillModel", name := "mass", desc := "(I)I" } : Jvm.MethodName)) ∈ tt := List.mem_of_getElem? (i := 832) (by rfl)
set_option maxRecDepth 20000 in
theorem m_978 : (Jvm.Cond.code ({ cls := "PrefixMillModel", name := "mass", desc := "(I)I" } : Jvm.MethodName) prog_12_method_31_code (1 : Nat) (Option.some Jvm.ClassFile.FieldType.int)) ∈ tt := List.mem_of_getElem? (i := 833) (by rfl)
set_option maxRecDepth 20000 in
theorem m_979 : (Jvm.Cond.methodLink "PrefixMillModel" (146 : Nat) ({ cls := "PrefixMillModel", name := "nextToGet", desc := "()I" } : Jvm.MethodName)) ∈ tt := List.mem_of_getElem? (i := 834) (by rfl)
set_option maxRecDepth 20000 in
theorem m_981 : (Jvm.Cond.instanceMethod ({ cls := "PrefixMillModel", name := "nextToGet", desc := "()I" } : Jvm.MethodName)) ∈ tt := List.mem_of_getElem? (i := 835) (by rfl)
set_option maxRecDepth 20000 in
theorem m_982 : (Jvm.Cond.code ({ cls := "PrefixMillModel", name := "nextToGet", desc := "()I" } : Jvm.MethodName) prog_12_method_34_code (3 : Nat) (Option.some Jvm.ClassFile.FieldType.int)) ∈ tt := List.mem_of_getElem? (i := 836) (by rfl)
set_option maxRecDepth 20000 in
theorem m_983 : (Jvm.Cond.methodLink "PrefixMillModel" (149 : Nat) ({ cls := "PrefixMillModel", name := "givePlaces", desc := "()V" } : Jvm.MethodName)) ∈ tt := List.mem_of_getElem? (i := 837) (by rfl)
set_option maxRecDepth 20000 in
theorem m_985 : (Jvm.Cond.instanceMethod ({ cls := "PrefixMillModel", name := "givePlaces", desc := "()V" } : Jvm.MethodName)) ∈ tt := List.mem_of_getElem? (i := 838) (by rfl)
set_option maxRecDepth 20000 in
theorem m_986 : (Jvm.Cond.code ({ cls := "PrefixMillModel", name := "givePlaces", desc := "()V" } : Jvm.MethodName) prog_12_method_37_code (7 : Nat) (Option.none : Option Jvm.ClassFile.FieldType)) ∈ tt := List.mem_of_getElem? (i := 839) (by rfl)
set_option maxRecDepth 20000 in
theorem m_987 : (Jvm.Cond.methodLink "PrefixMillModel" (174 : Nat) ({ cls := "PrefixMillModel", name := "putShare", desc := "()V" } : Jvm.MethodName)) ∈ tt := List.mem_of_getElem? (i := 840) (by rfl)
set_option maxRecDepth 20000 in
theorem m_989 : (Jvm.Cond.instanceMethod ({ cls := "PrefixMillModel", name := "putShare", desc := "()V" } : Jvm.MethodName)) ∈ tt := List.mem_of_getElem? (i := 841) (by rfl)
set_option maxRecDepth 20000 in
theorem m_990 : (Jvm.Cond.code ({ cls := "PrefixMillModel", name := "putShare", desc := "()V" } : Jvm.MethodName) prog_12_method_42_code (9 : Nat) (Option.none : Option Jvm.ClassFile.FieldType)) ∈ tt := List.mem_of_getElem? (i := 842) (by rfl)
set_option maxRecDepth 20000 in
theorem m_991 : (Jvm.Cond.methodLink "PrefixMillModel" (158 : Nat) ({ cls := "PrefixMillModel", name := "bitsFor", desc := "(I)I" } : Jvm.MethodName)) ∈ tt := List.mem_of_getElem? (i := 843) (by rfl)
set_option maxRecDepth 20000 in
theorem m_992 : (Jvm.Cond.static ({ cls := "PrefixMillModel", name := "bitsFor", desc := "(I)I" } : Jvm.MethodName)) ∈ tt := List.mem_of_getElem? (i := 844) (by rfl)
set_option maxRecDepth 20000 in
theorem m_993 : (Jvm.Cond.code ({ cls := "PrefixMillModel", name := "bitsFor", desc := "(I)I" } : Jvm.MethodName) prog_12_method_41_code (2 : Nat) (Option.some Jvm.ClassFile.FieldType.int)) ∈ tt := List.mem_of_getElem? (i := 845) (by rfl)
set_option maxRecDepth 20000 in
theorem m_994 : (Jvm.Cond.methodLink "PrefixMillModel" (177 : Nat) ({ cls := "PrefixMillModel", name := "putRow", desc := "()V" } : Jvm.MethodName)) ∈ tt := List.mem_of_getElem? (i := 846) (by rfl)
set_option maxRecDepth 20000 in
theorem m_996 : (Jvm.Cond.instanceMethod ({ cls := "PrefixMillModel", name := "putRow", desc := "()V" } : Jvm.MethodName)) ∈ tt := List.mem_of_getElem? (i := 847) (by rfl)
set_option maxRecDepth 20000 in
theorem m_997 : (Jvm.Cond.code ({ cls := "PrefixMillModel", name := "putRow", desc := "()V" } : Jvm.MethodName) prog_12_method_45_code (5 : Nat) (Option.none : Option Jvm.ClassFile.FieldType)) ∈ tt := List.mem_of_getElem? (i := 848) (by rfl)
set_option maxRecDepth 20000 in
theorem m_998 : (Jvm.Cond.methodLink "PrefixMillModel" (164 : Nat) ({ cls := "PrefixMillModel", name := "lowest", desc := "(I)I" } : Jvm.MethodName)) ∈ tt := List.mem_of_getElem? (i := 849) (by rfl)
set_option maxRecDepth 20000 in
theorem m_1000 : (Jvm.Cond.instanceMethod ({ cls := "PrefixMillModel", name := "lowest", desc := "(I)I" } : Jvm.MethodName)) ∈ tt := List.mem_of_getElem? (i := 850) (by rfl)
set_option maxRecDepth 20000 in
theorem m_1001 : (Jvm.Cond.code ({ cls := "PrefixMillModel", name := "lowest", desc := "(I)I" } : Jvm.MethodName) prog_12_method_43_code (3 : Nat) (Option.some Jvm.ClassFile.FieldType.int)) ∈ tt := List.mem_of_getElem? (i := 851) (by rfl)
set_option maxRecDepth 20000 in
theorem m_1002 : (Jvm.Cond.methodLink "PrefixMillModel" (155 : Nat) ({ cls := "PrefixMillModel", name := "bitsOf", desc := "(I)I" } : Jvm.MethodName)) ∈ tt := List.mem_of_getElem? (i := 852) (by rfl)
set_option maxRecDepth 20000 in
theorem m_1004 : (Jvm.Cond.instanceMethod ({ cls := "PrefixMillModel", name := "bitsOf", desc := "(I)I" } : Jvm.MethodName)) ∈ tt := List.mem_of_getElem? (i := 853) (by rfl)
set_option maxRecDepth 20000 in
theorem m_1005 : (Jvm.Cond.code ({ cls := "PrefixMillModel", name := "bitsOf", desc := "(I)I" } : Jvm.MethodName) prog_12_method_39_code (3 : Nat) (Option.some Jvm.ClassFile.FieldType.int)) ∈ tt := List.mem_of_getElem? (i := 854) (by rfl)
set_option maxRecDepth 20000 in
theorem m_1006 : (Jvm.Cond.methodLink "PrefixMillModel" (152 : Nat) ({ cls := "PrefixMillModel", name := "numberOf", desc := "(I)I" } : Jvm.MethodName)) ∈ tt := List.mem_of_getElem? (i := 855) (by rfl)
set_option maxRecDepth 20000 in
theorem m_1008 : (Jvm.Cond.instanceMethod ({ cls := "PrefixMillModel", name := "numberOf", desc := "(I)I" } : Jvm.MethodName)) ∈ tt := List.mem_of_getElem? (i := 856) (by rfl)
set_option maxRecDepth 20000 in
theorem m_1009 : (Jvm.Cond.code ({ cls := "PrefixMillModel", name := "numberOf", desc := "(I)I" } : Jvm.MethodName) prog_12_method_38_code (4 : Nat) (Option.some Jvm.ClassFile.FieldType.int)) ∈ tt := List.mem_of_getElem? (i := 857) (by rfl)
set_option maxRecDepth 20000 in
theorem m_1010 : (Jvm.Cond.methodLink "PrefixMillModel" (167 : Nat) ({ cls := "PrefixMillModel", name := "placeFor", desc := "(II)I" } : Jvm.MethodName)) ∈ tt := List.mem_of_getElem? (i := 858) (by rfl)
set_option maxRecDepth 20000 in
theorem m_1012 : (Jvm.Cond.instanceMethod ({ cls := "PrefixMillModel", name := "placeFor", desc := "(II)I" } : Jvm.MethodName)) ∈ tt := List.mem_of_getElem? (i := 859) (by rfl)
set_option maxRecDepth 20000 in
theorem m_1013 : (Jvm.Cond.code ({ cls := "PrefixMillModel", name := "placeFor", desc := "(II)I" } : Jvm.MethodName) prog_12_method_44_code (4 : Nat) (Option.some Jvm.ClassFile.FieldType.int)) ∈ tt := List.mem_of_getElem? (i := 860) (by rfl)
set_option maxRecDepth 20000 in
theorem m_1014 : (Jvm.Cond.methodLink "PrefixMillModel" (161 : Nat) ({ cls := "PrefixMillModel", name := "baseOf", desc := "(I)I" } : Jvm.MethodName)) ∈ tt := List.mem_of_getElem? (i := 861) (by rfl)
set_option maxRecDepth 20000 in
theorem m_1016 : (Jvm.Cond.instanceMethod ({ cls := "PrefixMillModel", name := "baseOf", desc := "(I)I" } : Jvm.MethodName)) ∈ tt := List.mem_of_getElem? (i := 862) (by rfl)
set_option maxRecDepth 20000 in
theorem m_1017 : (Jvm.Cond.code ({ cls := "PrefixMillModel", name := "baseOf", desc := "(I)I" } : Jvm.MethodName) prog_12_method_40_code (2 : Nat) (Option.some Jvm.ClassFile.FieldType.int)) ∈ tt := List.mem_of_getElem? (i := 863) (by rfl)
set_option maxRecDepth 20000 in
theorem m_1018 : (Jvm.Cond.methodLink "PrefixMillModel" (186 : Nat) ({ cls := "PrefixMillModel", name := "putDirect", desc := "()V" } : Jvm.MethodName)) ∈ tt := List.mem_of_getElem? (i := 864) (by rfl)
set_option maxRecDepth 20000 in
theorem m_1020 : (Jvm.Cond.instanceMethod ({ cls := "PrefixMillModel", name := "putDirect", desc := "()V" } : Jvm.MethodName)) ∈ tt := List.mem_of_getElem? (i := 865) (by rfl)
set_option maxRecDepth 20000 in
theorem m_1021 : (Jvm.Cond.code ({ cls := "PrefixMillModel", name := "putDirect", desc := "()V" } : Jvm.MethodName) prog_12_method_47_code (2 : Nat) (Option.none : Option Jvm.ClassFile.FieldType)) ∈ tt := List.mem_of_getElem? (i := 866) (by rfl)
set_option maxRecDepth 20000 in
theorem m_1022 : (Jvm.Cond.methodLink "PrefixMillLaw" (67 : Nat) ({ cls := "PrefixMillModel", name := "read", desc := "()I" } : Jvm.MethodName)) ∈ tt := List.mem_of_getElem? (i := 867) (by rfl)
set_option maxRecDepth 20000 in
theorem m_1023 : (Jvm.Cond.instanceMethod ({ cls := "PrefixMillModel", name := "read", desc := "()I" } : Jvm.MethodName)) ∈ tt := List.mem_of_getElem? (i := 868) (by rfl)
set_option maxRecDepth 20000 in
theorem m_1024 : (Jvm.Cond.selects "PrefixMillModel" ({ cls := "PrefixMillModel", name := "read", desc := "()I" } : Jvm.MethodName) ({ cls := "PrefixMillModel", name := "read", desc := "()I" } : Jvm.MethodName)) ∈ tt := List.mem_of_getElem? (i := 869) (by rfl)
set_option maxRecDepth 20000 in
theorem m_1025 : (Jvm.Cond.code ({ cls := "PrefixMillModel", name := "read", desc := "()I" } : Jvm.MethodName) prog_12_method_57_code (8 : Nat) (Option.some Jvm.ClassFile.FieldType.int)) ∈ tt := List.mem_of_getElem? (i := 870) (by rfl)
set_option maxRecDepth 20000 in
theorem m_1026 : (Jvm.Cond.methodLink "PrefixMillModel" (215 : Nat) ({ cls := "PrefixMillModel", name := "takeWeights", desc := "()I" } : Jvm.MethodName)) ∈ tt := List.mem_of_getElem? (i := 871) (by rfl)
set_option maxRecDepth 20000 in
theorem m_1028 : (Jvm.Cond.instanceMethod ({ cls := "PrefixMillModel", name := "takeWeights", desc := "()I" } : Jvm.MethodName)) ∈ tt := List.mem_of_getElem? (i := 872) (by rfl)
set_option maxRecDepth 20000 in
theorem m_1029 : (Jvm.Cond.code ({ cls := "PrefixMillModel", name := "takeWeights", desc := "()I" } : Jvm.MethodName) prog_12_method_56_code (5 : Nat) (Option.some Jvm.ClassFile.FieldType.int)) ∈ tt := List.mem_of_getElem? (i := 873) (by rfl)
set_option maxRecDepth 20000 in
theorem m_1030 : (Jvm.Cond.methodLink "PrefixMillModel" (204 : Nat) ({ cls := "PrefixMillModel", name := "putWeight", desc := "(I)Z" } : Jvm.MethodName)) ∈ tt := List.mem_of_getElem? (i := 874) (by rfl)
set_option maxRecDepth 20000 in
theorem m_1032 : (Jvm.Cond.instanceMethod ({ cls := "PrefixMillModel", name := "putWeight", desc := "(I)Z" } : Jvm.MethodName)) ∈ tt := List.mem_of_getElem? (i := 875) (by rfl)
set_option maxRecDepth 20000 in
theorem m_1033 : (Jvm.Cond.code ({ cls := "PrefixMillModel", name := "putWeight", desc := "(I)Z" } : Jvm.MethodName) prog_12_method_53_code (2 : Nat) (Option.some Jvm.ClassFile.FieldType.boolean)) ∈ tt := List.mem_of_getElem? (i := 876) (by rfl)
set_option maxRecDepth 20000 in
theorem m_1034 : (Jvm.Cond.methodLink "PrefixMillModel" (208 : Nat) ({ cls := "PrefixMillModel", name := "takeShare", desc := "()Z" } : Jvm.MethodName)) ∈ tt := List.mem_of_getElem? (i := 877) (by rfl)
set_option maxRecDepth 20000 in
theorem m_1036 : (Jvm.Cond.instanceMethod ({ cls := "PrefixMillModel", name := "takeShare", desc := "()Z" } : Jvm.MethodName)) ∈ tt := List.mem_of_getElem? (i := 878) (by rfl)
set_option maxRecDepth 20000 in
theorem m_1037 : (Jvm.Cond.code ({ cls := "PrefixMillModel", name := "takeShare", desc := "()Z" } : Jvm.MethodName) prog_12_method_52_code (6 : Nat) (Option.some Jvm.ClassFile.FieldType.boolean)) ∈ tt := List.mem_of_getElem? (i := 879) (by rfl)
set_option maxRecDepth 20000 in
theorem m_1038 : (Jvm.Cond.methodLink "PrefixMillModel" (195 : Nat) ({ cls := "PrefixMillModel", name := "take", desc := "(I)I" } : Jvm.MethodName)) ∈ tt := List.mem_of_getElem? (i := 880) (by rfl)
set_option maxRecDepth 20000 in
theorem m_1040 : (Jvm.Cond.instanceMethod ({ cls := "PrefixMillModel", name := "take", desc := "(I)I" } : Jvm.MethodName)) ∈ tt := List.mem_of_getElem? (i := 881) (by rfl)
set_option maxRecDepth 20000 in
theorem m_1041 : (Jvm.Cond.code ({ cls := "PrefixMillModel", name := "take", desc := "(I)I" } : Jvm.MethodName) prog_12_method_50_code (4 : Nat) (Option.some Jvm.ClassFile.FieldType.int)) ∈ tt := List.mem_of_getElem? (i := 882) (by rfl)
set_option maxRecDepth 20000 in
theorem m_1042 : (Jvm.Cond.methodLink "PrefixMillModel" (198 : Nat) ({ cls := "PrefixMillModel", name := "takeNumber", desc := "(I)I" } : Jvm.MethodName)) ∈ tt := List.mem_of_getElem? (i := 883) (by rfl)
set_option maxRecDepth 20000 in
theorem m_1044 : (Jvm.Cond.instanceMethod ({ cls := "PrefixMillModel", name := "takeNumber", desc := "(I)I" } : Jvm.MethodName)) ∈ tt := List.mem_of_getElem? (i := 884) (by rfl)
set_option maxRecDepth 20000 in
theorem m_1045 : (Jvm.Cond.code ({ cls := "PrefixMillModel", name := "takeNumber", desc := "(I)I" } : Jvm.MethodName) prog_12_method_51_code (7 : Nat) (Option.some Jvm.ClassFile.FieldType.int)) ∈ tt := List.mem_of_getElem? (i := 885) (by rfl)
set_option maxRecDepth 20000 in
theorem m_1046 : (Jvm.Cond.methodLink "PrefixMillModel" (212 : Nat) ({ cls := "PrefixMillModel", name := "takeRow", desc := "()Z" } : Jvm.MethodName)) ∈ tt := List.mem_of_getElem? (i := 886) (by rfl)
set_option maxRecDepth 20000 in
theorem m_1048 : (Jvm.Cond.instanceMethod ({ cls := "PrefixMillModel", name := "takeRow", desc := "()Z" } : Jvm.MethodName)) ∈ tt := List.mem_of_getElem? (i := 887) (by rfl)
set_option maxRecDepth 20000 in
theorem m_1049 : (Jvm.Cond.code ({ cls := "PrefixMillModel", name := "takeRow", desc := "()Z" } : Jvm.MethodName) prog_12_method_55_code (6 : Nat) (Option.some Jvm.ClassFile.FieldType.boolean)) ∈ tt := List.mem_of_getElem? (i := 888) (by rfl)
set_option maxRecDepth 20000 in
theorem m_1050 : (Jvm.Cond.methodLink "PrefixMillModel" (201 : Nat) ({ cls := "PrefixMillModel", name := "takeDown", desc := "(I)I" } : Jvm.MethodName)) ∈ tt := List.mem_of_getElem? (i := 889) (by rfl)
set_option maxRecDepth 20000 in
theorem m_1052 : (Jvm.Cond.instanceMethod ({ cls := "PrefixMillModel", name := "takeDown", desc := "(I)I" } : Jvm.MethodName)) ∈ tt := List.mem_of_getElem? (i := 890) (by rfl)
set_option maxRecDepth 20000 in
theorem m_1053 : (Jvm.Cond.code ({ cls := "PrefixMillModel", name := "takeDown", desc := "(I)I" } : Jvm.MethodName) prog_12_method_54_code (4 : Nat) (Option.some Jvm.ClassFile.FieldType.int)) ∈ tt := List.mem_of_getElem? (i := 891) (by rfl)
set_option maxRecDepth 20000 in
theorem m_1054 : (Jvm.Cond.methodLink "PrefixMillLaw" (90 : Nat) ({ cls := "PrefixMillModel", name := "size", desc := "()I" } : Jvm.MethodName)) ∈ tt := List.mem_of_getElem? (i := 892) (by rfl)
set_option maxRecDepth 20000 in
theorem m_1055 : (Jvm.Cond.instanceMethod ({ cls := "PrefixMillModel", name := "size", desc := "()I" } : Jvm.MethodName)) ∈ tt := List.mem_of_getElem? (i := 893) (by rfl)
set_option maxRecDepth 20000 in
theorem m_1056 : (Jvm.Cond.selects "PrefixMillModel" ({ cls := "PrefixMillModel", name := "size", desc := "()I" } : Jvm.MethodName) ({ cls := "PrefixMillModel", name := "size", desc := "()I" } : Jvm.MethodName)) ∈ tt := List.mem_of_getElem? (i := 894) (by rfl)
set_option maxRecDepth 20000 in
theorem m_1057 : (Jvm.Cond.code ({ cls := "PrefixMillModel", name := "size", desc := "()I" } : Jvm.MethodName) prog_12_method_58_code (1 : Nat) (Option.some Jvm.ClassFile.FieldType.int)) ∈ tt := List.mem_of_getElem? (i := 895) (by rfl)
set_option maxRecDepth 20000 in
theorem m_1058 : (Jvm.Cond.methodLink "PrefixMillLaw" (94 : Nat) ({ cls := "PrefixMillModel", name := "byteAt", desc := "(I)I" } : Jvm.MethodName)) ∈ tt := List.mem_of_getElem? (i := 896) (by rfl)
set_option maxRecDepth 20000 in
theorem m_1059 : (Jvm.Cond.instanceMethod ({ cls := "PrefixMillModel", name := "byteAt", desc := "(I)I" } : Jvm.MethodName)) ∈ tt := List.mem_of_getElem? (i := 897) (by rfl)
set_option maxRecDepth 20000 in
theorem m_1060 : (Jvm.Cond.selects "PrefixMillModel" ({ cls := "PrefixMillModel", name := "byteAt", desc := "(I)I" } : Jvm.MethodName) ({ cls := "PrefixMillModel", name := "byteAt", desc := "(I)I" } : Jvm.MethodName)) ∈ tt := List.mem_of_getElem? (i := 898) (by rfl)
set_option maxRecDepth 20000 in
theorem m_1061 : (Jvm.Cond.code ({ cls := "PrefixMillModel", name := "byteAt", desc := "(I)I" } : Jvm.MethodName) prog_12_method_59_code (2 : Nat) (Option.some Jvm.ClassFile.FieldType.int)) ∈ tt := List.mem_of_getElem? (i := 899) (by rfl)
set_option maxRecDepth 20000 in
theorem m_1062 : (Jvm.Cond.constantLong "PrefixMillLaw" (13 : Nat) (4294967295 : Int64)) ∈ tt := List.mem_of_getElem? (i := 900) (by rfl)
