-- printed by a program: the methods
abbrev nM : Nat := 235
def y_M_init : MethodName := ⟨"LateBinderModel", "<init>", "()V"⟩
def y_M_thrown : MethodName := ⟨"LateBinderModel", "thrown", "()I"⟩
def y_M_within : MethodName := ⟨"LateBinderModel", "within", "(III)Z"⟩
def y_M_has : MethodName := ⟨"LateBinderModel", "has", "(II)Z"⟩
def y_M_count2 : MethodName := ⟨"LateBinderModel", "count", "(II)I"⟩
def y_M_begins : MethodName := ⟨"LateBinderModel", "begins", "()V"⟩
def y_M_devices : MethodName := ⟨"LateBinderModel", "devices", "()I"⟩
def y_M_drivers : MethodName := ⟨"LateBinderModel", "drivers", "()I"⟩
def y_M_supplies : MethodName := ⟨"LateBinderModel", "supplies", "()I"⟩
def y_M_isDevice : MethodName := ⟨"LateBinderModel", "isDevice", "(I)Z"⟩
def y_M_isDriver : MethodName := ⟨"LateBinderModel", "isDriver", "(I)Z"⟩
def y_M_eight : MethodName := ⟨"LateBinderModel", "eight", "(J)V"⟩
def y_M_feed : MethodName := ⟨"LateBinderModel", "feed", "(JJJ)I"⟩
def y_M_end : MethodName := ⟨"LateBinderModel", "end", "(I)I"⟩
def y_M_byteAt : MethodName := ⟨"LateBinderModel", "byteAt", "(I)I"⟩
def y_M_isLetter : MethodName := ⟨"LateBinderModel", "isLetter", "(I)Z"⟩
def y_M_isDigit : MethodName := ⟨"LateBinderModel", "isDigit", "(I)Z"⟩
def y_M_isSign : MethodName := ⟨"LateBinderModel", "isSign", "(I)Z"⟩
def y_M_next : MethodName := ⟨"LateBinderModel", "next", "()V"⟩
def y_M_runs : MethodName := ⟨"LateBinderModel", "runs", "(I)V"⟩
def y_M_wrong : MethodName := ⟨"LateBinderModel", "wrong", "(I)V"⟩
def y_M_isWord : MethodName := ⟨"LateBinderModel", "isWord", "(Ljava/lang/String;)Z"⟩
def y_M_isTold : MethodName := ⟨"LateBinderModel", "isTold", "()Z"⟩
def y_M_freeWord : MethodName := ⟨"LateBinderModel", "freeWord", "()J"⟩
def y_M_found : MethodName := ⟨"LateBinderModel", "found", "([JIIJ)I"⟩
def y_M_newName : MethodName := ⟨"LateBinderModel", "newName", "()J"⟩
def y_M_supplyTold : MethodName := ⟨"LateBinderModel", "supplyTold", "()I"⟩
def y_M_signsTold : MethodName := ⟨"LateBinderModel", "signsTold", "([IIZ)I"⟩
def y_M_numberTold : MethodName := ⟨"LateBinderModel", "numberTold", "(II)I"⟩
def y_M_deviceLine : MethodName := ⟨"LateBinderModel", "deviceLine", "()V"⟩
def y_M_stepWord : MethodName := ⟨"LateBinderModel", "stepWord", "()I"⟩
def y_M_driverLine : MethodName := ⟨"LateBinderModel", "driverLine", "()V"⟩
def y_M_patternTold : MethodName := ⟨"LateBinderModel", "patternTold", "(I)V"⟩
def y_M_stepTold : MethodName := ⟨"LateBinderModel", "stepTold", "(I)V"⟩
def y_M_board : MethodName := ⟨"LateBinderModel", "board", "()I"⟩
def y_M_find : MethodName := ⟨"LateBinderModel", "find", "(I)I"⟩
def y_M_dev : MethodName := ⟨"LateBinderModel", "dev", "(I)I"⟩
def y_M_drv : MethodName := ⟨"LateBinderModel", "drv", "(I)I"⟩
def y_M_matches : MethodName := ⟨"LateBinderModel", "matches", "(II)Z"⟩
def y_M_scoreOf : MethodName := ⟨"LateBinderModel", "scoreOf", "(II)I"⟩
def y_M_isLoaded : MethodName := ⟨"LateBinderModel", "isLoaded", "(I)Z"⟩
def y_M_inLine : MethodName := ⟨"LateBinderModel", "inLine", "(II)I"⟩
def y_M_parentOf : MethodName := ⟨"LateBinderModel", "parentOf", "(I)I"⟩
def y_M_above : MethodName := ⟨"LateBinderModel", "above", "(I)I"⟩
def y_M_over : MethodName := ⟨"LateBinderModel", "over", "(I)I"⟩
def y_M_logs : MethodName := ⟨"LateBinderModel", "logs", "(III)V"⟩
def y_M_takes : MethodName := ⟨"LateBinderModel", "takes", "(III)V"⟩
def y_M_releases : MethodName := ⟨"LateBinderModel", "releases", "(I)V"⟩
def y_M_gets : MethodName := ⟨"LateBinderModel", "gets", "(II)I"⟩
def y_M_does : MethodName := ⟨"LateBinderModel", "does", "(III)I"⟩
def y_M_wrongOf : MethodName := ⟨"LateBinderModel", "wrongOf", "(II)I"⟩
def y_M_probes : MethodName := ⟨"LateBinderModel", "probes", "(II)I"⟩
def y_M_inRow : MethodName := ⟨"LateBinderModel", "inRow", "(I)I"⟩
def y_M_leavesRow : MethodName := ⟨"LateBinderModel", "leavesRow", "(I)V"⟩
def y_M_defers : MethodName := ⟨"LateBinderModel", "defers", "(I)V"⟩
def y_M_idles : MethodName := ⟨"LateBinderModel", "idles", "(I)V"⟩
def y_M_endsBy : MethodName := ⟨"LateBinderModel", "endsBy", "(II)Z"⟩
def y_M_tries : MethodName := ⟨"LateBinderModel", "tries", "(I)V"⟩
def y_M_ends : MethodName := ⟨"LateBinderModel", "ends", "(I)V"⟩
def y_M_isNeeded : MethodName := ⟨"LateBinderModel", "isNeeded", "(II)Z"⟩
def y_M_givesAny : MethodName := ⟨"LateBinderModel", "givesAny", "(I)Z"⟩
def y_M_isAllBound : MethodName := ⟨"LateBinderModel", "isAllBound", "(I)Z"⟩
def y_M_syncs : MethodName := ⟨"LateBinderModel", "syncs", "()V"⟩
def y_M_latest : MethodName := ⟨"LateBinderModel", "latest", "(I)I"⟩
def y_M_hanging : MethodName := ⟨"LateBinderModel", "hanging", "(I)I"⟩
def y_M_letsGo : MethodName := ⟨"LateBinderModel", "letsGo", "(I)V"⟩
def y_M_goesAway : MethodName := ⟨"LateBinderModel", "goesAway", "(I)V"⟩
def y_M_add : MethodName := ⟨"LateBinderModel", "add", "(I)I"⟩
def y_M_isBelow : MethodName := ⟨"LateBinderModel", "isBelow", "(II)Z"⟩
def y_M_remove : MethodName := ⟨"LateBinderModel", "remove", "(I)I"⟩
def y_M_isOpen : MethodName := ⟨"LateBinderModel", "isOpen", "(I)Z"⟩
def y_M_loads : MethodName := ⟨"LateBinderModel", "loads", "(I)I"⟩
def y_M_load : MethodName := ⟨"LateBinderModel", "load", "(I)I"⟩
def y_M_boundTo : MethodName := ⟨"LateBinderModel", "boundTo", "(I)I"⟩
def y_M_unload : MethodName := ⟨"LateBinderModel", "unload", "(I)I"⟩
def y_M_unbind : MethodName := ⟨"LateBinderModel", "unbind", "(I)I"⟩
def y_M_bind : MethodName := ⟨"LateBinderModel", "bind", "(II)I"⟩
def y_M_rescan : MethodName := ⟨"LateBinderModel", "rescan", "()I"⟩
def y_M_forget : MethodName := ⟨"LateBinderModel", "forget", "(I)I"⟩
def y_M_lacksOf : MethodName := ⟨"LateBinderModel", "lacksOf", "(I)I"⟩
def y_M_givesOf : MethodName := ⟨"LateBinderModel", "givesOf", "(I)I"⟩
def y_M_waitsFor : MethodName := ⟨"LateBinderModel", "waitsFor", "(I)I"⟩
def y_M_highOf : MethodName := ⟨"LateBinderModel", "highOf", "(I)I"⟩
def y_M_hadOf : MethodName := ⟨"LateBinderModel", "hadOf", "(II)I"⟩
def y_M_device : MethodName := ⟨"LateBinderModel", "device", "(II)I"⟩
def y_M_consumers : MethodName := ⟨"LateBinderModel", "consumers", "(I)I"⟩
def y_M_linked : MethodName := ⟨"LateBinderModel", "linked", "(I)I"⟩
def y_M_keeps : MethodName := ⟨"LateBinderModel", "keeps", "()V"⟩
def y_M_comesBack : MethodName := ⟨"LateBinderModel", "comesBack", "()V"⟩
def y_M_laysGone : MethodName := ⟨"LateBinderModel", "laysGone", "(I)I"⟩
def y_M_goneSet : MethodName := ⟨"LateBinderModel", "goneSet", "(I)I"⟩
def y_M_links : MethodName := ⟨"LateBinderModel", "links", "(II)I"⟩
def y_M_driver : MethodName := ⟨"LateBinderModel", "driver", "(II)I"⟩
def y_M_score : MethodName := ⟨"LateBinderModel", "score", "(II)I"⟩
def y_M_line : MethodName := ⟨"LateBinderModel", "line", "(II)I"⟩
def y_M_would : MethodName := ⟨"LateBinderModel", "would", "(II)I"⟩
def y_M_order : MethodName := ⟨"LateBinderModel", "order", "(II)I"⟩
def y_M_laysFar : MethodName := ⟨"LateBinderModel", "laysFar", "(I)V"⟩
def y_M_onward : MethodName := ⟨"LateBinderModel", "onward", "(II)I"⟩
def y_M_ring : MethodName := ⟨"LateBinderModel", "ring", "(II)I"⟩
def y_M_isBoundBy : MethodName := ⟨"LateBinderModel", "isBoundBy", "(II)Z"⟩
def y_M_wanted : MethodName := ⟨"LateBinderModel", "wanted", "(II)I"⟩
def y_M_supply : MethodName := ⟨"LateBinderModel", "supply", "(II)I"⟩
def y_M_taken : MethodName := ⟨"LateBinderModel", "taken", "(I)I"⟩
def y_M_log : MethodName := ⟨"LateBinderModel", "log", "(II)I"⟩
def y_M_ones : MethodName := ⟨"LateBinderModel", "ones", "(II)I"⟩
def y_M_count1 : MethodName := ⟨"LateBinderModel", "count", "(I)I"⟩
def y_Row_init : MethodName := ⟨"LateBinder$Row", "<init>", "()V"⟩
def y_Row_clear : MethodName := ⟨"LateBinder$Row", "clear", "()V"⟩
def y_Row_append : MethodName := ⟨"LateBinder$Row", "append", "(I)V"⟩
def y_Row_drop : MethodName := ⟨"LateBinder$Row", "drop", "(I)V"⟩
def y_Row_at : MethodName := ⟨"LateBinder$Row", "at", "(I)I"⟩
def y_Row_placeOf : MethodName := ⟨"LateBinder$Row", "placeOf", "(I)I"⟩
def y_Row_bits : MethodName := ⟨"LateBinder$Row", "bits", "()I"⟩
def y_Row_copyFrom : MethodName := ⟨"LateBinder$Row", "copyFrom", "(LLateBinder$Row;)V"⟩
def y_Jou_init : MethodName := ⟨"LateBinder$Journal", "<init>", "(I)V"⟩
def y_Jou_clear : MethodName := ⟨"LateBinder$Journal", "clear", "()V"⟩
def y_Jou_write : MethodName := ⟨"LateBinder$Journal", "write", "(III)V"⟩
def y_Jou_cell : MethodName := ⟨"LateBinder$Journal", "cell", "(II)I"⟩
def y_Tap_init : MethodName := ⟨"LateBinder$Tape", "<init>", "()V"⟩
def y_Tap_push : MethodName := ⟨"LateBinder$Tape", "push", "(J)V"⟩
def y_Tap_at : MethodName := ⟨"LateBinder$Tape", "at", "(I)I"⟩
def y_Tap_wordCode : MethodName := ⟨"LateBinder$Tape", "wordCode", "(II)J"⟩
def y_Tap_behind : MethodName := ⟨"LateBinder$Tape", "behind", "(JI)J"⟩
def y_Pla_init : MethodName := ⟨"LateBinder$Plan", "<init>", "()V"⟩
def y_Pla_clear : MethodName := ⟨"LateBinder$Plan", "clear", "()V"⟩
def y_Pla_hasDevice : MethodName := ⟨"LateBinder$Plan", "hasDevice", "(I)Z"⟩
def y_Pla_hasDriver : MethodName := ⟨"LateBinder$Plan", "hasDriver", "(I)Z"⟩
def y_Pla_hasName : MethodName := ⟨"LateBinder$Plan", "hasName", "(J)Z"⟩
def y_Pla_putParent : MethodName := ⟨"LateBinder$Plan", "putParent", "(II)V"⟩
def y_Pla_putNeed : MethodName := ⟨"LateBinder$Plan", "putNeed", "(II)V"⟩
def y_Pla_putStep : MethodName := ⟨"LateBinder$Plan", "putStep", "(ILLateBinder$Key;I)V"⟩
def y_Pla_putScore : MethodName := ⟨"LateBinder$Plan", "putScore", "(III)V"⟩
def y_Key_isStep : MethodName := ⟨"LateBinder$Key", "isStep", "()Z"⟩
def y_Par_init : MethodName := ⟨"LateBinder$Parser", "<init>", "(LLateBinder$Tape;)V"⟩
def y_Par_parse : MethodName := ⟨"LateBinder$Parser", "parse", "(LLateBinder$Plan;)I"⟩
def y_Par_fail : MethodName := ⟨"LateBinder$Parser", "fail", "(I)Z"⟩
def y_Par_readDevice : MethodName := ⟨"LateBinder$Parser", "readDevice", "()Z"⟩
def y_Par_readParent : MethodName := ⟨"LateBinder$Parser", "readParent", "(I)Z"⟩
def y_Par_readNeeds : MethodName := ⟨"LateBinder$Parser", "readNeeds", "(I)Z"⟩
def y_Par_readDriver : MethodName := ⟨"LateBinder$Parser", "readDriver", "()Z"⟩
def y_Par_readPatterns : MethodName := ⟨"LateBinder$Parser", "readPatterns", "(I)Z"⟩
def y_Par_readSteps : MethodName := ⟨"LateBinder$Parser", "readSteps", "(I)Z"⟩
def y_Par_readNumber : MethodName := ⟨"LateBinder$Parser", "readNumber", "(LLateBinder$Key;)I"⟩
def y_Par_readSupply : MethodName := ⟨"LateBinder$Parser", "readSupply", "()I"⟩
def y_Par_isNewName : MethodName := ⟨"LateBinder$Parser", "isNewName", "()Z"⟩
def y_Par_isPlainWord : MethodName := ⟨"LateBinder$Parser", "isPlainWord", "()Z"⟩
def y_Par_step : MethodName := ⟨"LateBinder$Parser", "step", "()V"⟩
def y_Par_stepSigns : MethodName := ⟨"LateBinder$Parser", "stepSigns", "()V"⟩
def y_Par_stepPlain : MethodName := ⟨"LateBinder$Parser", "stepPlain", "()V"⟩
def y_Par_isPatternSign : MethodName := ⟨"LateBinder$Parser", "isPatternSign", "(I)Z"⟩
def y_Par_literals : MethodName := ⟨"LateBinder$Parser", "literals", "(II)I"⟩
def y_Par_scoreAll : MethodName := ⟨"LateBinder$Parser", "scoreAll", "()V"⟩
def y_Par_bestScore : MethodName := ⟨"LateBinder$Parser", "bestScore", "(II)I"⟩
def y_Par_matches : MethodName := ⟨"LateBinder$Parser", "matches", "(III)Z"⟩
def y_Par_placesOfSign : MethodName := ⟨"LateBinder$Parser", "placesOfSign", "(II)I"⟩
def y_Ben_init : MethodName := ⟨"LateBinder$Bench", "<init>", "(LLateBinder$Plan;LLateBinder$Journal;)V"⟩
def y_Ben_reset : MethodName := ⟨"LateBinder$Bench", "reset", "(LLateBinder$Plan;)V"⟩
def y_Ben_copyFrom : MethodName := ⟨"LateBinder$Bench", "copyFrom", "(LLateBinder$Bench;)V"⟩
def y_Ben_begin : MethodName := ⟨"LateBinder$Bench", "begin", "()V"⟩
def y_Ben_isLoaded : MethodName := ⟨"LateBinder$Bench", "isLoaded", "(I)Z"⟩
def y_Ben_install : MethodName := ⟨"LateBinder$Bench", "install", "(I)V"⟩
def y_Ben_attempt : MethodName := ⟨"LateBinder$Bench", "attempt", "(I)V"⟩
def y_Ben_endsWith : MethodName := ⟨"LateBinder$Bench", "endsWith", "(II)Z"⟩
def y_Ben_consume : MethodName := ⟨"LateBinder$Bench", "consume", "(II)I"⟩
def y_Ben_take : MethodName := ⟨"LateBinder$Bench", "take", "(ILLateBinder$Key;I)I"⟩
def y_Ben_hold : MethodName := ⟨"LateBinder$Bench", "hold", "(II)V"⟩
def y_Ben_heightOf : MethodName := ⟨"LateBinder$Bench", "heightOf", "(I)I"⟩
def y_Ben_defer : MethodName := ⟨"LateBinder$Bench", "defer", "(I)V"⟩
def y_Ben_makeIdle : MethodName := ⟨"LateBinder$Bench", "makeIdle", "(I)V"⟩
def y_Ben_settle : MethodName := ⟨"LateBinder$Bench", "settle", "()V"⟩
def y_Ben_sync : MethodName := ⟨"LateBinder$Bench", "sync", "()V"⟩
def y_Ben_allHaveCome : MethodName := ⟨"LateBinder$Bench", "allHaveCome", "(I)Z"⟩
def y_Ben_letGo : MethodName := ⟨"LateBinder$Bench", "letGo", "(II)V"⟩
def y_Ben_latestLeaningOn : MethodName := ⟨"LateBinder$Bench", "latestLeaningOn", "(I)I"⟩
def y_Ben_release : MethodName := ⟨"LateBinder$Bench", "release", "(III)V"⟩
def y_Ben_withdraw : MethodName := ⟨"LateBinder$Bench", "withdraw", "(I)V"⟩
def y_Ben_latestBoundTo : MethodName := ⟨"LateBinder$Bench", "latestBoundTo", "(I)I"⟩
def y_Ben_takeAway : MethodName := ⟨"LateBinder$Bench", "takeAway", "(I)I"⟩
def y_Ben_isUnder : MethodName := ⟨"LateBinder$Bench", "isUnder", "(II)Z"⟩
def y_Ben_makeAway : MethodName := ⟨"LateBinder$Bench", "makeAway", "(I)V"⟩
def y_Ben_above : MethodName := ⟨"LateBinder$Bench", "above", "(I)I"⟩
def y_Ben_inLine : MethodName := ⟨"LateBinder$Bench", "inLine", "(II)I"⟩
def y_Ben_givenBy : MethodName := ⟨"LateBinder$Bench", "givenBy", "(I)I"⟩
def y_Ben_poolOf : MethodName := ⟨"LateBinder$Bench", "poolOf", "(I)I"⟩
def y_Ben_boundTo : MethodName := ⟨"LateBinder$Bench", "boundTo", "(I)I"⟩
def y_Ben_linkCount : MethodName := ⟨"LateBinder$Bench", "linkCount", "()I"⟩
def y_Ben_lacks : MethodName := ⟨"LateBinder$Bench", "lacks", "(I)I"⟩
def y_Ben_waitsFor : MethodName := ⟨"LateBinder$Bench", "waitsFor", "(I)I"⟩
def y_Rin_init : MethodName := ⟨"LateBinder$Ring", "<init>", "()V"⟩
def y_Rin_seek : MethodName := ⟨"LateBinder$Ring", "seek", "(LLateBinder$Bench;I)LLateBinder$Row;"⟩
def y_Rin_shortestWay : MethodName := ⟨"LateBinder$Ring", "shortestWay", "(I)I"⟩
def y_B_init : MethodName := ⟨"LateBinder", "<init>", "()V"⟩
def y_B_feed : MethodName := ⟨"LateBinder", "feed", "(JJJ)I"⟩
def y_B_end : MethodName := ⟨"LateBinder", "end", "(I)I"⟩
def y_B_board : MethodName := ⟨"LateBinder", "board", "()I"⟩
def y_B_add : MethodName := ⟨"LateBinder", "add", "(I)I"⟩
def y_B_remove : MethodName := ⟨"LateBinder", "remove", "(I)I"⟩
def y_B_load : MethodName := ⟨"LateBinder", "load", "(I)I"⟩
def y_B_unload : MethodName := ⟨"LateBinder", "unload", "(I)I"⟩
def y_B_unbind : MethodName := ⟨"LateBinder", "unbind", "(I)I"⟩
def y_B_bind : MethodName := ⟨"LateBinder", "bind", "(II)I"⟩
def y_B_rescan : MethodName := ⟨"LateBinder", "rescan", "()I"⟩
def y_B_forget : MethodName := ⟨"LateBinder", "forget", "(I)I"⟩
def y_B_conclude : MethodName := ⟨"LateBinder", "conclude", "()V"⟩
def y_B_device : MethodName := ⟨"LateBinder", "device", "(II)I"⟩
def y_B_links : MethodName := ⟨"LateBinder", "links", "(II)I"⟩
def y_B_driver : MethodName := ⟨"LateBinder", "driver", "(II)I"⟩
def y_B_score : MethodName := ⟨"LateBinder", "score", "(II)I"⟩
def y_B_line : MethodName := ⟨"LateBinder", "line", "(II)I"⟩
def y_B_would : MethodName := ⟨"LateBinder", "would", "(II)I"⟩
def y_B_order : MethodName := ⟨"LateBinder", "order", "(II)I"⟩
def y_B_ring : MethodName := ⟨"LateBinder", "ring", "(II)I"⟩
def y_B_wanted : MethodName := ⟨"LateBinder", "wanted", "(II)I"⟩
def y_B_supply : MethodName := ⟨"LateBinder", "supply", "(II)I"⟩
def y_B_taken : MethodName := ⟨"LateBinder", "taken", "(I)I"⟩
def y_B_find : MethodName := ⟨"LateBinder", "find", "(I)I"⟩
def y_B_count : MethodName := ⟨"LateBinder", "count", "(I)I"⟩
def y_B_isWaiting : MethodName := ⟨"LateBinder", "isWaiting", "(I)Z"⟩
def y_B_lettingGo : MethodName := ⟨"LateBinder", "lettingGo", "(I)LLateBinder$Row;"⟩
def y_B_explore : MethodName := ⟨"LateBinder", "explore", "(LLateBinder$Bench;III)V"⟩
def y_B_rememberWanted : MethodName := ⟨"LateBinder", "rememberWanted", "(LLateBinder$Bench;I)V"⟩
def y_B_isBetter : MethodName := ⟨"LateBinder", "isBetter", "(II)Z"⟩
def y_B_isWaitingState : MethodName := ⟨"LateBinder", "isWaitingState", "(I)Z"⟩
def y_B_placesOf : MethodName := ⟨"LateBinder", "placesOf", "([III)I"⟩
def y_B_holdersOf : MethodName := ⟨"LateBinder", "holdersOf", "([III)I"⟩
def y_B_placeOfName : MethodName := ⟨"LateBinder", "placeOfName", "([JIJ)I"⟩
def y_B_isLetter : MethodName := ⟨"LateBinder", "isLetter", "(I)Z"⟩
def y_B_isDigit : MethodName := ⟨"LateBinder", "isDigit", "(I)Z"⟩
def y_Int_lowestOneBit : MethodName := ⟨"java/lang/Integer", "lowestOneBit", "(I)I"⟩
def y_Int_numberOfTrailingZeros : MethodName := ⟨"java/lang/Integer", "numberOfTrailingZeros", "(I)I"⟩
def y_Int_bitCount : MethodName := ⟨"java/lang/Integer", "bitCount", "(I)I"⟩
def y_Mat_max : MethodName := ⟨"java/lang/Math", "max", "(II)I"⟩
def y_Mat_min : MethodName := ⟨"java/lang/Math", "min", "(II)I"⟩
def y_Arr_fill : MethodName := ⟨"java/util/Arrays", "fill", "([II)V"⟩
def yM (k : Nat) : MethodName := bif Nat.blt k 117 then (bif Nat.blt k 58 then (bif Nat.blt k 29 then (bif Nat.blt k 14 then (bif Nat.blt k 7 then (bif Nat.blt k 3 then (bif Nat.blt k 1 then (y_M_init) else (bif Nat.blt k 2 then (y_M_thrown) else (y_M_within))) else (bif Nat.blt k 5 then (bif Nat.blt k 4 then (y_M_has) else (y_M_count2)) else (bif Nat.blt k 6 then (y_M_begins) else (y_M_devices)))) else (bif Nat.blt k 10 then (bif Nat.blt k 8 then (y_M_drivers) else (bif Nat.blt k 9 then (y_M_supplies) else (y_M_isDevice))) else (bif Nat.blt k 12 then (bif Nat.blt k 11 then (y_M_isDriver) else (y_M_eight)) else (bif Nat.blt k 13 then (y_M_feed) else (y_M_end))))) else (bif Nat.blt k 21 then (bif Nat.blt k 17 then (bif Nat.blt k 15 then (y_M_byteAt) else (bif Nat.blt k 16 then (y_M_isLetter) else (y_M_isDigit))) else (bif Nat.blt k 19 then (bif Nat.blt k 18 then (y_M_isSign) else (y_M_next)) else (bif Nat.blt k 20 then (y_M_runs) else (y_M_wrong)))) else (bif Nat.blt k 25 then (bif Nat.blt k 23 then (bif Nat.blt k 22 then (y_M_isWord) else (y_M_isTold)) else (bif Nat.blt k 24 then (y_M_freeWord) else (y_M_found))) else (bif Nat.blt k 27 then (bif Nat.blt k 26 then (y_M_newName) else (y_M_supplyTold)) else (bif Nat.blt k 28 then (y_M_signsTold) else (y_M_numberTold)))))) else (bif Nat.blt k 43 then (bif Nat.blt k 36 then (bif Nat.blt k 32 then (bif Nat.blt k 30 then (y_M_deviceLine) else (bif Nat.blt k 31 then (y_M_stepWord) else (y_M_driverLine))) else (bif Nat.blt k 34 then (bif Nat.blt k 33 then (y_M_patternTold) else (y_M_stepTold)) else (bif Nat.blt k 35 then (y_M_board) else (y_M_find)))) else (bif Nat.blt k 39 then (bif Nat.blt k 37 then (y_M_dev) else (bif Nat.blt k 38 then (y_M_drv) else (y_M_matches))) else (bif Nat.blt k 41 then (bif Nat.blt k 40 then (y_M_scoreOf) else (y_M_isLoaded)) else (bif Nat.blt k 42 then (y_M_inLine) else (y_M_parentOf))))) else (bif Nat.blt k 50 then (bif Nat.blt k 46 then (bif Nat.blt k 44 then (y_M_above) else (bif Nat.blt k 45 then (y_M_over) else (y_M_logs))) else (bif Nat.blt k 48 then (bif Nat.blt k 47 then (y_M_takes) else (y_M_releases)) else (bif Nat.blt k 49 then (y_M_gets) else (y_M_does)))) else (bif Nat.blt k 54 then (bif Nat.blt k 52 then (bif Nat.blt k 51 then (y_M_wrongOf) else (y_M_probes)) else (bif Nat.blt k 53 then (y_M_inRow) else (y_M_leavesRow))) else (bif Nat.blt k 56 then (bif Nat.blt k 55 then (y_M_defers) else (y_M_idles)) else (bif Nat.blt k 57 then (y_M_endsBy) else (y_M_tries))))))) else (bif Nat.blt k 87 then (bif Nat.blt k 72 then (bif Nat.blt k 65 then (bif Nat.blt k 61 then (bif Nat.blt k 59 then (y_M_ends) else (bif Nat.blt k 60 then (y_M_isNeeded) else (y_M_givesAny))) else (bif Nat.blt k 63 then (bif Nat.blt k 62 then (y_M_isAllBound) else (y_M_syncs)) else (bif Nat.blt k 64 then (y_M_latest) else (y_M_hanging)))) else (bif Nat.blt k 68 then (bif Nat.blt k 66 then (y_M_letsGo) else (bif Nat.blt k 67 then (y_M_goesAway) else (y_M_add))) else (bif Nat.blt k 70 then (bif Nat.blt k 69 then (y_M_isBelow) else (y_M_remove)) else (bif Nat.blt k 71 then (y_M_isOpen) else (y_M_loads))))) else (bif Nat.blt k 79 then (bif Nat.blt k 75 then (bif Nat.blt k 73 then (y_M_load) else (bif Nat.blt k 74 then (y_M_boundTo) else (y_M_unload))) else (bif Nat.blt k 77 then (bif Nat.blt k 76 then (y_M_unbind) else (y_M_bind)) else (bif Nat.blt k 78 then (y_M_rescan) else (y_M_forget)))) else (bif Nat.blt k 83 then (bif Nat.blt k 81 then (bif Nat.blt k 80 then (y_M_lacksOf) else (y_M_givesOf)) else (bif Nat.blt k 82 then (y_M_waitsFor) else (y_M_highOf))) else (bif Nat.blt k 85 then (bif Nat.blt k 84 then (y_M_hadOf) else (y_M_device)) else (bif Nat.blt k 86 then (y_M_consumers) else (y_M_linked)))))) else (bif Nat.blt k 102 then (bif Nat.blt k 94 then (bif Nat.blt k 90 then (bif Nat.blt k 88 then (y_M_keeps) else (bif Nat.blt k 89 then (y_M_comesBack) else (y_M_laysGone))) else (bif Nat.blt k 92 then (bif Nat.blt k 91 then (y_M_goneSet) else (y_M_links)) else (bif Nat.blt k 93 then (y_M_driver) else (y_M_score)))) else (bif Nat.blt k 98 then (bif Nat.blt k 96 then (bif Nat.blt k 95 then (y_M_line) else (y_M_would)) else (bif Nat.blt k 97 then (y_M_order) else (y_M_laysFar))) else (bif Nat.blt k 100 then (bif Nat.blt k 99 then (y_M_onward) else (y_M_ring)) else (bif Nat.blt k 101 then (y_M_isBoundBy) else (y_M_wanted))))) else (bif Nat.blt k 109 then (bif Nat.blt k 105 then (bif Nat.blt k 103 then (y_M_supply) else (bif Nat.blt k 104 then (y_M_taken) else (y_M_log))) else (bif Nat.blt k 107 then (bif Nat.blt k 106 then (y_M_ones) else (y_M_count1)) else (bif Nat.blt k 108 then (y_Row_init) else (y_Row_clear)))) else (bif Nat.blt k 113 then (bif Nat.blt k 111 then (bif Nat.blt k 110 then (y_Row_append) else (y_Row_drop)) else (bif Nat.blt k 112 then (y_Row_at) else (y_Row_placeOf))) else (bif Nat.blt k 115 then (bif Nat.blt k 114 then (y_Row_bits) else (y_Row_copyFrom)) else (bif Nat.blt k 116 then (y_Jou_init) else (y_Jou_clear)))))))) else (bif Nat.blt k 176 then (bif Nat.blt k 146 then (bif Nat.blt k 131 then (bif Nat.blt k 124 then (bif Nat.blt k 120 then (bif Nat.blt k 118 then (y_Jou_write) else (bif Nat.blt k 119 then (y_Jou_cell) else (y_Tap_init))) else (bif Nat.blt k 122 then (bif Nat.blt k 121 then (y_Tap_push) else (y_Tap_at)) else (bif Nat.blt k 123 then (y_Tap_wordCode) else (y_Tap_behind)))) else (bif Nat.blt k 127 then (bif Nat.blt k 125 then (y_Pla_init) else (bif Nat.blt k 126 then (y_Pla_clear) else (y_Pla_hasDevice))) else (bif Nat.blt k 129 then (bif Nat.blt k 128 then (y_Pla_hasDriver) else (y_Pla_hasName)) else (bif Nat.blt k 130 then (y_Pla_putParent) else (y_Pla_putNeed))))) else (bif Nat.blt k 138 then (bif Nat.blt k 134 then (bif Nat.blt k 132 then (y_Pla_putStep) else (bif Nat.blt k 133 then (y_Pla_putScore) else (y_Key_isStep))) else (bif Nat.blt k 136 then (bif Nat.blt k 135 then (y_Par_init) else (y_Par_parse)) else (bif Nat.blt k 137 then (y_Par_fail) else (y_Par_readDevice)))) else (bif Nat.blt k 142 then (bif Nat.blt k 140 then (bif Nat.blt k 139 then (y_Par_readParent) else (y_Par_readNeeds)) else (bif Nat.blt k 141 then (y_Par_readDriver) else (y_Par_readPatterns))) else (bif Nat.blt k 144 then (bif Nat.blt k 143 then (y_Par_readSteps) else (y_Par_readNumber)) else (bif Nat.blt k 145 then (y_Par_readSupply) else (y_Par_isNewName)))))) else (bif Nat.blt k 161 then (bif Nat.blt k 153 then (bif Nat.blt k 149 then (bif Nat.blt k 147 then (y_Par_isPlainWord) else (bif Nat.blt k 148 then (y_Par_step) else (y_Par_stepSigns))) else (bif Nat.blt k 151 then (bif Nat.blt k 150 then (y_Par_stepPlain) else (y_Par_isPatternSign)) else (bif Nat.blt k 152 then (y_Par_literals) else (y_Par_scoreAll)))) else (bif Nat.blt k 157 then (bif Nat.blt k 155 then (bif Nat.blt k 154 then (y_Par_bestScore) else (y_Par_matches)) else (bif Nat.blt k 156 then (y_Par_placesOfSign) else (y_Ben_init))) else (bif Nat.blt k 159 then (bif Nat.blt k 158 then (y_Ben_reset) else (y_Ben_copyFrom)) else (bif Nat.blt k 160 then (y_Ben_begin) else (y_Ben_isLoaded))))) else (bif Nat.blt k 168 then (bif Nat.blt k 164 then (bif Nat.blt k 162 then (y_Ben_install) else (bif Nat.blt k 163 then (y_Ben_attempt) else (y_Ben_endsWith))) else (bif Nat.blt k 166 then (bif Nat.blt k 165 then (y_Ben_consume) else (y_Ben_take)) else (bif Nat.blt k 167 then (y_Ben_hold) else (y_Ben_heightOf)))) else (bif Nat.blt k 172 then (bif Nat.blt k 170 then (bif Nat.blt k 169 then (y_Ben_defer) else (y_Ben_makeIdle)) else (bif Nat.blt k 171 then (y_Ben_settle) else (y_Ben_sync))) else (bif Nat.blt k 174 then (bif Nat.blt k 173 then (y_Ben_allHaveCome) else (y_Ben_letGo)) else (bif Nat.blt k 175 then (y_Ben_latestLeaningOn) else (y_Ben_release))))))) else (bif Nat.blt k 205 then (bif Nat.blt k 190 then (bif Nat.blt k 183 then (bif Nat.blt k 179 then (bif Nat.blt k 177 then (y_Ben_withdraw) else (bif Nat.blt k 178 then (y_Ben_latestBoundTo) else (y_Ben_takeAway))) else (bif Nat.blt k 181 then (bif Nat.blt k 180 then (y_Ben_isUnder) else (y_Ben_makeAway)) else (bif Nat.blt k 182 then (y_Ben_above) else (y_Ben_inLine)))) else (bif Nat.blt k 186 then (bif Nat.blt k 184 then (y_Ben_givenBy) else (bif Nat.blt k 185 then (y_Ben_poolOf) else (y_Ben_boundTo))) else (bif Nat.blt k 188 then (bif Nat.blt k 187 then (y_Ben_linkCount) else (y_Ben_lacks)) else (bif Nat.blt k 189 then (y_Ben_waitsFor) else (y_Rin_init))))) else (bif Nat.blt k 197 then (bif Nat.blt k 193 then (bif Nat.blt k 191 then (y_Rin_seek) else (bif Nat.blt k 192 then (y_Rin_shortestWay) else (y_B_init))) else (bif Nat.blt k 195 then (bif Nat.blt k 194 then (y_B_feed) else (y_B_end)) else (bif Nat.blt k 196 then (y_B_board) else (y_B_add)))) else (bif Nat.blt k 201 then (bif Nat.blt k 199 then (bif Nat.blt k 198 then (y_B_remove) else (y_B_load)) else (bif Nat.blt k 200 then (y_B_unload) else (y_B_unbind))) else (bif Nat.blt k 203 then (bif Nat.blt k 202 then (y_B_bind) else (y_B_rescan)) else (bif Nat.blt k 204 then (y_B_forget) else (y_B_conclude)))))) else (bif Nat.blt k 220 then (bif Nat.blt k 212 then (bif Nat.blt k 208 then (bif Nat.blt k 206 then (y_B_device) else (bif Nat.blt k 207 then (y_B_links) else (y_B_driver))) else (bif Nat.blt k 210 then (bif Nat.blt k 209 then (y_B_score) else (y_B_line)) else (bif Nat.blt k 211 then (y_B_would) else (y_B_order)))) else (bif Nat.blt k 216 then (bif Nat.blt k 214 then (bif Nat.blt k 213 then (y_B_ring) else (y_B_wanted)) else (bif Nat.blt k 215 then (y_B_supply) else (y_B_taken))) else (bif Nat.blt k 218 then (bif Nat.blt k 217 then (y_B_find) else (y_B_count)) else (bif Nat.blt k 219 then (y_B_isWaiting) else (y_B_lettingGo))))) else (bif Nat.blt k 227 then (bif Nat.blt k 223 then (bif Nat.blt k 221 then (y_B_explore) else (bif Nat.blt k 222 then (y_B_rememberWanted) else (y_B_isBetter))) else (bif Nat.blt k 225 then (bif Nat.blt k 224 then (y_B_isWaitingState) else (y_B_placesOf)) else (bif Nat.blt k 226 then (y_B_holdersOf) else (y_B_placeOfName)))) else (bif Nat.blt k 231 then (bif Nat.blt k 229 then (bif Nat.blt k 228 then (y_B_isLetter) else (y_B_isDigit)) else (bif Nat.blt k 230 then (y_Int_lowestOneBit) else (y_Int_numberOfTrailingZeros))) else (bif Nat.blt k 233 then (bif Nat.blt k 232 then (y_Int_bitCount) else (y_Mat_max)) else (bif Nat.blt k 234 then (y_Mat_min) else (y_Arr_fill))))))))
def cM (k : Nat) : ByteArray := bif Nat.blt k 117 then (bif Nat.blt k 58 then (bif Nat.blt k 29 then (bif Nat.blt k 14 then (bif Nat.blt k 7 then (bif Nat.blt k 3 then (bif Nat.blt k 1 then (prog_11_method_1_code) else (bif Nat.blt k 2 then (prog_11_method_2_code) else (prog_11_method_3_code))) else (bif Nat.blt k 5 then (bif Nat.blt k 4 then (prog_11_method_4_code) else (prog_11_method_5_code)) else (bif Nat.blt k 6 then (prog_11_method_6_code) else (prog_11_method_7_code)))) else (bif Nat.blt k 10 then (bif Nat.blt k 8 then (prog_11_method_8_code) else (bif Nat.blt k 9 then (prog_11_method_9_code) else (prog_11_method_10_code))) else (bif Nat.blt k 12 then (bif Nat.blt k 11 then (prog_11_method_11_code) else (prog_11_method_12_code)) else (bif Nat.blt k 13 then (prog_11_method_13_code) else (prog_11_method_14_code))))) else (bif Nat.blt k 21 then (bif Nat.blt k 17 then (bif Nat.blt k 15 then (prog_11_method_15_code) else (bif Nat.blt k 16 then (prog_11_method_16_code) else (prog_11_method_17_code))) else (bif Nat.blt k 19 then (bif Nat.blt k 18 then (prog_11_method_18_code) else (prog_11_method_19_code)) else (bif Nat.blt k 20 then (prog_11_method_20_code) else (prog_11_method_21_code)))) else (bif Nat.blt k 25 then (bif Nat.blt k 23 then (bif Nat.blt k 22 then (prog_11_method_23_code) else (prog_11_method_24_code)) else (bif Nat.blt k 24 then (prog_11_method_25_code) else (prog_11_method_26_code))) else (bif Nat.blt k 27 then (bif Nat.blt k 26 then (prog_11_method_27_code) else (prog_11_method_28_code)) else (bif Nat.blt k 28 then (prog_11_method_29_code) else (prog_11_method_30_code)))))) else (bif Nat.blt k 43 then (bif Nat.blt k 36 then (bif Nat.blt k 32 then (bif Nat.blt k 30 then (prog_11_method_31_code) else (bif Nat.blt k 31 then (prog_11_method_32_code) else (prog_11_method_33_code))) else (bif Nat.blt k 34 then (bif Nat.blt k 33 then (prog_11_method_34_code) else (prog_11_method_35_code)) else (bif Nat.blt k 35 then (prog_11_method_36_code) else (prog_11_method_37_code)))) else (bif Nat.blt k 39 then (bif Nat.blt k 37 then (prog_11_method_38_code) else (bif Nat.blt k 38 then (prog_11_method_39_code) else (prog_11_method_40_code))) else (bif Nat.blt k 41 then (bif Nat.blt k 40 then (prog_11_method_41_code) else (prog_11_method_42_code)) else (bif Nat.blt k 42 then (prog_11_method_43_code) else (prog_11_method_44_code))))) else (bif Nat.blt k 50 then (bif Nat.blt k 46 then (bif Nat.blt k 44 then (prog_11_method_45_code) else (bif Nat.blt k 45 then (prog_11_method_46_code) else (prog_11_method_47_code))) else (bif Nat.blt k 48 then (bif Nat.blt k 47 then (prog_11_method_48_code) else (prog_11_method_49_code)) else (bif Nat.blt k 49 then (prog_11_method_50_code) else (prog_11_method_51_code)))) else (bif Nat.blt k 54 then (bif Nat.blt k 52 then (bif Nat.blt k 51 then (prog_11_method_52_code) else (prog_11_method_53_code)) else (bif Nat.blt k 53 then (prog_11_method_54_code) else (prog_11_method_55_code))) else (bif Nat.blt k 56 then (bif Nat.blt k 55 then (prog_11_method_56_code) else (prog_11_method_57_code)) else (bif Nat.blt k 57 then (prog_11_method_58_code) else (prog_11_method_59_code))))))) else (bif Nat.blt k 87 then (bif Nat.blt k 72 then (bif Nat.blt k 65 then (bif Nat.blt k 61 then (bif Nat.blt k 59 then (prog_11_method_60_code) else (bif Nat.blt k 60 then (prog_11_method_61_code) else (prog_11_method_62_code))) else (bif Nat.blt k 63 then (bif Nat.blt k 62 then (prog_11_method_63_code) else (prog_11_method_64_code)) else (bif Nat.blt k 64 then (prog_11_method_65_code) else (prog_11_method_66_code)))) else (bif Nat.blt k 68 then (bif Nat.blt k 66 then (prog_11_method_67_code) else (bif Nat.blt k 67 then (prog_11_method_68_code) else (prog_11_method_69_code))) else (bif Nat.blt k 70 then (bif Nat.blt k 69 then (prog_11_method_70_code) else (prog_11_method_71_code)) else (bif Nat.blt k 71 then (prog_11_method_72_code) else (prog_11_method_73_code))))) else (bif Nat.blt k 79 then (bif Nat.blt k 75 then (bif Nat.blt k 73 then (prog_11_method_74_code) else (bif Nat.blt k 74 then (prog_11_method_75_code) else (prog_11_method_76_code))) else (bif Nat.blt k 77 then (bif Nat.blt k 76 then (prog_11_method_77_code) else (prog_11_method_78_code)) else (bif Nat.blt k 78 then (prog_11_method_79_code) else (prog_11_method_80_code)))) else (bif Nat.blt k 83 then (bif Nat.blt k 81 then (bif Nat.blt k 80 then (prog_11_method_81_code) else (prog_11_method_82_code)) else (bif Nat.blt k 82 then (prog_11_method_83_code) else (prog_11_method_84_code))) else (bif Nat.blt k 85 then (bif Nat.blt k 84 then (prog_11_method_85_code) else (prog_11_method_86_code)) else (bif Nat.blt k 86 then (prog_11_method_87_code) else (prog_11_method_88_code)))))) else (bif Nat.blt k 102 then (bif Nat.blt k 94 then (bif Nat.blt k 90 then (bif Nat.blt k 88 then (prog_11_method_89_code) else (bif Nat.blt k 89 then (prog_11_method_90_code) else (prog_11_method_91_code))) else (bif Nat.blt k 92 then (bif Nat.blt k 91 then (prog_11_method_92_code) else (prog_11_method_93_code)) else (bif Nat.blt k 93 then (prog_11_method_94_code) else (prog_11_method_95_code)))) else (bif Nat.blt k 98 then (bif Nat.blt k 96 then (bif Nat.blt k 95 then (prog_11_method_96_code) else (prog_11_method_97_code)) else (bif Nat.blt k 97 then (prog_11_method_98_code) else (prog_11_method_99_code))) else (bif Nat.blt k 100 then (bif Nat.blt k 99 then (prog_11_method_100_code) else (prog_11_method_101_code)) else (bif Nat.blt k 101 then (prog_11_method_102_code) else (prog_11_method_103_code))))) else (bif Nat.blt k 109 then (bif Nat.blt k 105 then (bif Nat.blt k 103 then (prog_11_method_104_code) else (bif Nat.blt k 104 then (prog_11_method_105_code) else (prog_11_method_106_code))) else (bif Nat.blt k 107 then (bif Nat.blt k 106 then (prog_11_method_107_code) else (prog_11_method_108_code)) else (bif Nat.blt k 108 then (prog_8_method_1_code) else (prog_8_method_2_code)))) else (bif Nat.blt k 113 then (bif Nat.blt k 111 then (bif Nat.blt k 110 then (prog_8_method_3_code) else (prog_8_method_4_code)) else (bif Nat.blt k 112 then (prog_8_method_5_code) else (prog_8_method_6_code))) else (bif Nat.blt k 115 then (bif Nat.blt k 114 then (prog_8_method_7_code) else (prog_8_method_8_code)) else (bif Nat.blt k 116 then (prog_3_method_1_code) else (prog_3_method_2_code)))))))) else (bif Nat.blt k 176 then (bif Nat.blt k 146 then (bif Nat.blt k 131 then (bif Nat.blt k 124 then (bif Nat.blt k 120 then (bif Nat.blt k 118 then (prog_3_method_3_code) else (bif Nat.blt k 119 then (prog_3_method_4_code) else (prog_9_method_1_code))) else (bif Nat.blt k 122 then (bif Nat.blt k 121 then (prog_9_method_2_code) else (prog_9_method_3_code)) else (bif Nat.blt k 123 then (prog_9_method_4_code) else (prog_9_method_5_code)))) else (bif Nat.blt k 127 then (bif Nat.blt k 125 then (prog_6_method_1_code) else (bif Nat.blt k 126 then (prog_6_method_2_code) else (prog_6_method_3_code))) else (bif Nat.blt k 129 then (bif Nat.blt k 128 then (prog_6_method_4_code) else (prog_6_method_5_code)) else (bif Nat.blt k 130 then (prog_6_method_6_code) else (prog_6_method_7_code))))) else (bif Nat.blt k 138 then (bif Nat.blt k 134 then (bif Nat.blt k 132 then (prog_6_method_8_code) else (bif Nat.blt k 133 then (prog_6_method_9_code) else (prog_4_method_5_code))) else (bif Nat.blt k 136 then (bif Nat.blt k 135 then (prog_5_method_1_code) else (prog_5_method_2_code)) else (bif Nat.blt k 137 then (prog_5_method_3_code) else (prog_5_method_4_code)))) else (bif Nat.blt k 142 then (bif Nat.blt k 140 then (bif Nat.blt k 139 then (prog_5_method_5_code) else (prog_5_method_6_code)) else (bif Nat.blt k 141 then (prog_5_method_7_code) else (prog_5_method_8_code))) else (bif Nat.blt k 144 then (bif Nat.blt k 143 then (prog_5_method_9_code) else (prog_5_method_10_code)) else (bif Nat.blt k 145 then (prog_5_method_11_code) else (prog_5_method_12_code)))))) else (bif Nat.blt k 161 then (bif Nat.blt k 153 then (bif Nat.blt k 149 then (bif Nat.blt k 147 then (prog_5_method_13_code) else (bif Nat.blt k 148 then (prog_5_method_14_code) else (prog_5_method_15_code))) else (bif Nat.blt k 151 then (bif Nat.blt k 150 then (prog_5_method_16_code) else (prog_5_method_17_code)) else (bif Nat.blt k 152 then (prog_5_method_18_code) else (prog_5_method_19_code)))) else (bif Nat.blt k 157 then (bif Nat.blt k 155 then (bif Nat.blt k 154 then (prog_5_method_20_code) else (prog_5_method_21_code)) else (bif Nat.blt k 156 then (prog_5_method_22_code) else (prog_2_method_1_code))) else (bif Nat.blt k 159 then (bif Nat.blt k 158 then (prog_2_method_2_code) else (prog_2_method_3_code)) else (bif Nat.blt k 160 then (prog_2_method_4_code) else (prog_2_method_5_code))))) else (bif Nat.blt k 168 then (bif Nat.blt k 164 then (bif Nat.blt k 162 then (prog_2_method_6_code) else (bif Nat.blt k 163 then (prog_2_method_7_code) else (prog_2_method_8_code))) else (bif Nat.blt k 166 then (bif Nat.blt k 165 then (prog_2_method_9_code) else (prog_2_method_10_code)) else (bif Nat.blt k 167 then (prog_2_method_11_code) else (prog_2_method_12_code)))) else (bif Nat.blt k 172 then (bif Nat.blt k 170 then (bif Nat.blt k 169 then (prog_2_method_13_code) else (prog_2_method_14_code)) else (bif Nat.blt k 171 then (prog_2_method_15_code) else (prog_2_method_16_code))) else (bif Nat.blt k 174 then (bif Nat.blt k 173 then (prog_2_method_17_code) else (prog_2_method_18_code)) else (bif Nat.blt k 175 then (prog_2_method_19_code) else (prog_2_method_20_code))))))) else (bif Nat.blt k 205 then (bif Nat.blt k 190 then (bif Nat.blt k 183 then (bif Nat.blt k 179 then (bif Nat.blt k 177 then (prog_2_method_21_code) else (bif Nat.blt k 178 then (prog_2_method_22_code) else (prog_2_method_23_code))) else (bif Nat.blt k 181 then (bif Nat.blt k 180 then (prog_2_method_24_code) else (prog_2_method_25_code)) else (bif Nat.blt k 182 then (prog_2_method_26_code) else (prog_2_method_27_code)))) else (bif Nat.blt k 186 then (bif Nat.blt k 184 then (prog_2_method_28_code) else (bif Nat.blt k 185 then (prog_2_method_29_code) else (prog_2_method_30_code))) else (bif Nat.blt k 188 then (bif Nat.blt k 187 then (prog_2_method_31_code) else (prog_2_method_32_code)) else (bif Nat.blt k 189 then (prog_2_method_33_code) else (prog_7_method_1_code))))) else (bif Nat.blt k 197 then (bif Nat.blt k 193 then (bif Nat.blt k 191 then (prog_7_method_2_code) else (bif Nat.blt k 192 then (prog_7_method_3_code) else (prog_1_method_1_code))) else (bif Nat.blt k 195 then (bif Nat.blt k 194 then (prog_1_method_2_code) else (prog_1_method_3_code)) else (bif Nat.blt k 196 then (prog_1_method_4_code) else (prog_1_method_5_code)))) else (bif Nat.blt k 201 then (bif Nat.blt k 199 then (bif Nat.blt k 198 then (prog_1_method_6_code) else (prog_1_method_7_code)) else (bif Nat.blt k 200 then (prog_1_method_8_code) else (prog_1_method_9_code))) else (bif Nat.blt k 203 then (bif Nat.blt k 202 then (prog_1_method_10_code) else (prog_1_method_11_code)) else (bif Nat.blt k 204 then (prog_1_method_12_code) else (prog_1_method_13_code)))))) else (bif Nat.blt k 220 then (bif Nat.blt k 212 then (bif Nat.blt k 208 then (bif Nat.blt k 206 then (prog_1_method_14_code) else (bif Nat.blt k 207 then (prog_1_method_15_code) else (prog_1_method_16_code))) else (bif Nat.blt k 210 then (bif Nat.blt k 209 then (prog_1_method_17_code) else (prog_1_method_18_code)) else (bif Nat.blt k 211 then (prog_1_method_19_code) else (prog_1_method_20_code)))) else (bif Nat.blt k 216 then (bif Nat.blt k 214 then (bif Nat.blt k 213 then (prog_1_method_21_code) else (prog_1_method_22_code)) else (bif Nat.blt k 215 then (prog_1_method_23_code) else (prog_1_method_24_code))) else (bif Nat.blt k 218 then (bif Nat.blt k 217 then (prog_1_method_26_code) else (prog_1_method_27_code)) else (bif Nat.blt k 219 then (prog_1_method_28_code) else (prog_1_method_29_code))))) else (bif Nat.blt k 227 then (bif Nat.blt k 223 then (bif Nat.blt k 221 then (prog_1_method_30_code) else (bif Nat.blt k 222 then (prog_1_method_31_code) else (prog_1_method_32_code))) else (bif Nat.blt k 225 then (bif Nat.blt k 224 then (prog_1_method_33_code) else (prog_1_method_34_code)) else (bif Nat.blt k 226 then (prog_1_method_35_code) else (prog_1_method_36_code)))) else (bif Nat.blt k 231 then (bif Nat.blt k 229 then (bif Nat.blt k 228 then (prog_1_method_37_code) else (prog_1_method_38_code)) else (bif Nat.blt k 230 then (prog_17_method_46_code) else (prog_17_method_48_code))) else (bif Nat.blt k 233 then (bif Nat.blt k 232 then (prog_17_method_49_code) else (prog_18_method_65_code)) else (bif Nat.blt k 234 then (prog_18_method_69_code) else (prog_27_method_103_code))))))))
def rM (k : Nat) : Option FieldType := bif Nat.blt k 121 then (bif Nat.blt k 45 then (bif Nat.blt k 23 then (bif Nat.blt k 9 then (bif Nat.blt k 4 then (bif Nat.blt k 1 then (none) else (bif Nat.blt k 2 then ((some .int)) else ((some .boolean)))) else (bif Nat.blt k 5 then ((some .int)) else (bif Nat.blt k 6 then (none) else ((some .int))))) else (bif Nat.blt k 15 then (bif Nat.blt k 11 then ((some .boolean)) else (bif Nat.blt k 12 then (none) else ((some .int)))) else (bif Nat.blt k 18 then ((some .boolean)) else (bif Nat.blt k 21 then (none) else ((some .boolean)))))) else (bif Nat.blt k 31 then (bif Nat.blt k 26 then (bif Nat.blt k 24 then ((some .long)) else (bif Nat.blt k 25 then ((some .int)) else ((some .long)))) else (bif Nat.blt k 29 then ((some .int)) else (bif Nat.blt k 30 then (none) else ((some .int))))) else (bif Nat.blt k 39 then (bif Nat.blt k 34 then (none) else (bif Nat.blt k 38 then ((some .int)) else ((some .boolean)))) else (bif Nat.blt k 40 then ((some .int)) else (bif Nat.blt k 41 then ((some .boolean)) else ((some .int))))))) else (bif Nat.blt k 70 then (bif Nat.blt k 62 then (bif Nat.blt k 56 then (bif Nat.blt k 48 then (none) else (bif Nat.blt k 53 then ((some .int)) else (none))) else (bif Nat.blt k 57 then ((some .boolean)) else (bif Nat.blt k 59 then (none) else ((some .boolean))))) else (bif Nat.blt k 67 then (bif Nat.blt k 63 then (none) else (bif Nat.blt k 65 then ((some .int)) else (none))) else (bif Nat.blt k 68 then ((some .int)) else (bif Nat.blt k 69 then ((some .boolean)) else ((some .int)))))) else (bif Nat.blt k 100 then (bif Nat.blt k 89 then (bif Nat.blt k 71 then ((some .boolean)) else (bif Nat.blt k 87 then ((some .int)) else (none))) else (bif Nat.blt k 97 then ((some .int)) else (bif Nat.blt k 98 then (none) else ((some .int))))) else (bif Nat.blt k 111 then (bif Nat.blt k 101 then ((some .boolean)) else (bif Nat.blt k 107 then ((some .int)) else (none))) else (bif Nat.blt k 118 then (bif Nat.blt k 114 then ((some .int)) else (none)) else (bif Nat.blt k 119 then ((some .int)) else (none))))))) else (bif Nat.blt k 167 then (bif Nat.blt k 150 then (bif Nat.blt k 134 then (bif Nat.blt k 126 then (bif Nat.blt k 122 then ((some .int)) else (bif Nat.blt k 124 then ((some .long)) else (none))) else (bif Nat.blt k 129 then ((some .boolean)) else (bif Nat.blt k 133 then (none) else ((some .boolean))))) else (bif Nat.blt k 143 then (bif Nat.blt k 135 then (none) else (bif Nat.blt k 136 then ((some .int)) else ((some .boolean)))) else (bif Nat.blt k 145 then ((some .int)) else (bif Nat.blt k 147 then ((some .boolean)) else (none))))) else (bif Nat.blt k 156 then (bif Nat.blt k 153 then (bif Nat.blt k 151 then ((some .boolean)) else (bif Nat.blt k 152 then ((some .int)) else (none))) else (bif Nat.blt k 154 then ((some .int)) else (bif Nat.blt k 155 then ((some .boolean)) else ((some .int))))) else (bif Nat.blt k 163 then (bif Nat.blt k 160 then (none) else (bif Nat.blt k 161 then ((some .boolean)) else (none))) else (bif Nat.blt k 164 then ((some .boolean)) else (bif Nat.blt k 166 then ((some .int)) else (none)))))) else (bif Nat.blt k 191 then (bif Nat.blt k 177 then (bif Nat.blt k 173 then (bif Nat.blt k 168 then ((some .int)) else (bif Nat.blt k 172 then (none) else ((some .boolean)))) else (bif Nat.blt k 174 then (none) else (bif Nat.blt k 175 then ((some .int)) else (none)))) else (bif Nat.blt k 181 then (bif Nat.blt k 179 then ((some .int)) else (bif Nat.blt k 180 then ((some .boolean)) else (none))) else (bif Nat.blt k 189 then ((some .int)) else (bif Nat.blt k 190 then (none) else ((some (.object "LateBinder$Row"))))))) else (bif Nat.blt k 219 then (bif Nat.blt k 204 then (bif Nat.blt k 192 then ((some .int)) else (bif Nat.blt k 193 then (none) else ((some .int)))) else (bif Nat.blt k 205 then (none) else (bif Nat.blt k 218 then ((some .int)) else ((some .boolean))))) else (bif Nat.blt k 224 then (bif Nat.blt k 220 then ((some (.object "LateBinder$Row"))) else (bif Nat.blt k 222 then (none) else ((some .boolean)))) else (bif Nat.blt k 229 then (bif Nat.blt k 227 then ((some .int)) else ((some .boolean))) else (bif Nat.blt k 234 then ((some .int)) else (none)))))))
def soM (k : Nat) : Nat := bif Nat.blt k 124 then (bif Nat.blt k 107 then (bif Nat.blt k 5 then (bif Nat.blt k 1 then (2) else (bif Nat.blt k 2 then (1) else (0))) else (bif Nat.blt k 15 then (1) else (bif Nat.blt k 18 then (0) else (1)))) else (bif Nat.blt k 116 then (bif Nat.blt k 108 then (2) else (bif Nat.blt k 115 then (1) else (2))) else (bif Nat.blt k 120 then (bif Nat.blt k 119 then (1) else (2)) else (bif Nat.blt k 123 then (1) else (0))))) else (bif Nat.blt k 156 then (bif Nat.blt k 135 then (bif Nat.blt k 125 then (2) else (bif Nat.blt k 134 then (1) else (2))) else (bif Nat.blt k 150 then (1) else (bif Nat.blt k 151 then (0) else (1)))) else (bif Nat.blt k 190 then (bif Nat.blt k 157 then (2) else (bif Nat.blt k 189 then (1) else (2))) else (bif Nat.blt k 193 then (bif Nat.blt k 192 then (1) else (2)) else (bif Nat.blt k 222 then (1) else (0)))))
def rkM (k : Nat) : Nat := bif Nat.blt k 125 then (bif Nat.blt k 107 then (bif Nat.blt k 5 then (bif Nat.blt k 1 then (0) else (bif Nat.blt k 2 then (12) else (0))) else (bif Nat.blt k 15 then (12) else (bif Nat.blt k 18 then (0) else (12)))) else (bif Nat.blt k 116 then (bif Nat.blt k 108 then (0) else (bif Nat.blt k 115 then (9) else (0))) else (bif Nat.blt k 120 then (bif Nat.blt k 119 then (5) else (0)) else (bif Nat.blt k 123 then (10) else (0))))) else (bif Nat.blt k 156 then (bif Nat.blt k 135 then (bif Nat.blt k 133 then (7) else (bif Nat.blt k 134 then (3) else (0))) else (bif Nat.blt k 150 then (6) else (bif Nat.blt k 151 then (0) else (6)))) else (bif Nat.blt k 190 then (bif Nat.blt k 157 then (0) else (bif Nat.blt k 189 then (4) else (0))) else (bif Nat.blt k 193 then (bif Nat.blt k 192 then (8) else (0)) else (bif Nat.blt k 222 then (11) else (0)))))
def wxM (k : Nat) : List Nat := bif Nat.blt k 117 then (bif Nat.blt k 58 then (bif Nat.blt k 29 then (bif Nat.blt k 14 then (bif Nat.blt k 7 then (bif Nat.blt k 3 then (bif Nat.blt k 1 then ([1085, 122, 1084, 0]) else (bif Nat.blt k 2 then ([1205, 122, 1203, 1204]) else ([1220, 122, 1219, 0]))) else (bif Nat.blt k 5 then (bif Nat.blt k 4 then ([1410, 122, 1409, 0]) else ([1565, 122, 1564, 0])) else (bif Nat.blt k 6 then ([1090, 122, 1089, 38]) else ([1371, 122, 1370, 57])))) else (bif Nat.blt k 10 then (bif Nat.blt k 8 then ([1375, 122, 1374, 58]) else (bif Nat.blt k 9 then ([1379, 122, 1378, 59]) else ([1387, 122, 1386, 60]))) else (bif Nat.blt k 12 then (bif Nat.blt k 11 then ([1530, 122, 1529, 93]) else ([1213, 122, 1212, 39])) else (bif Nat.blt k 13 then ([1209, 122, 1207, 1208]) else ([1217, 122, 1215, 1216]))))) else (bif Nat.blt k 21 then (bif Nat.blt k 17 then (bif Nat.blt k 15 then ([1232, 122, 1231, 41]) else (bif Nat.blt k 16 then ([1238, 122, 1237, 0]) else ([1241, 122, 1240, 0]))) else (bif Nat.blt k 19 then (bif Nat.blt k 18 then ([1235, 122, 1234, 0]) else ([1228, 122, 1227, 40])) else (bif Nat.blt k 20 then ([1245, 122, 1244, 42]) else ([1310, 122, 1309, 45])))) else (bif Nat.blt k 25 then (bif Nat.blt k 23 then (bif Nat.blt k 22 then ([1251, 122, 1250, 43]) else ([1322, 122, 1321, 48])) else (bif Nat.blt k 24 then ([1318, 122, 1317, 47]) else ([1335, 122, 1334, 49]))) else (bif Nat.blt k 27 then (bif Nat.blt k 26 then ([1314, 122, 1313, 46]) else ([1343, 122, 1342, 51])) else (bif Nat.blt k 28 then ([1339, 122, 1338, 50]) else ([1363, 122, 1362, 56])))))) else (bif Nat.blt k 43 then (bif Nat.blt k 36 then (bif Nat.blt k 32 then (bif Nat.blt k 30 then ([1306, 122, 1305, 44]) else (bif Nat.blt k 31 then ([1355, 122, 1354, 54]) else ([1347, 122, 1346, 52]))) else (bif Nat.blt k 34 then (bif Nat.blt k 33 then ([1351, 122, 1350, 53]) else ([1359, 122, 1358, 55])) else (bif Nat.blt k 35 then ([1224, 122, 1222, 1223]) else ([1367, 122, 1365, 1366])))) else (bif Nat.blt k 39 then (bif Nat.blt k 37 then ([1395, 122, 1394, 62]) else (bif Nat.blt k 38 then ([1418, 122, 1417, 67]) else ([1422, 122, 1421, 68]))) else (bif Nat.blt k 41 then (bif Nat.blt k 40 then ([1414, 122, 1413, 66]) else ([1407, 122, 1406, 65])) else (bif Nat.blt k 42 then ([1403, 122, 1402, 64]) else ([1391, 122, 1390, 61]))))) else (bif Nat.blt k 50 then (bif Nat.blt k 46 then (bif Nat.blt k 44 then ([1442, 122, 1441, 73]) else (bif Nat.blt k 45 then ([1446, 122, 1445, 74]) else ([1462, 122, 1461, 78]))) else (bif Nat.blt k 48 then (bif Nat.blt k 47 then ([1454, 122, 1453, 76]) else ([1458, 122, 1457, 77])) else (bif Nat.blt k 49 then ([1438, 122, 1437, 72]) else ([1450, 122, 1449, 75])))) else (bif Nat.blt k 54 then (bif Nat.blt k 52 then (bif Nat.blt k 51 then ([1434, 122, 1433, 71]) else ([1430, 122, 1429, 70])) else (bif Nat.blt k 53 then ([1470, 122, 1469, 80]) else ([1466, 122, 1465, 79]))) else (bif Nat.blt k 56 then (bif Nat.blt k 55 then ([1474, 122, 1473, 81]) else ([1478, 122, 1477, 82])) else (bif Nat.blt k 57 then ([1426, 122, 1425, 69]) else ([1399, 122, 1398, 63]))))))) else (bif Nat.blt k 87 then (bif Nat.blt k 72 then (bif Nat.blt k 65 then (bif Nat.blt k 61 then (bif Nat.blt k 59 then ([1482, 122, 1481, 83]) else (bif Nat.blt k 60 then ([1498, 122, 1497, 87]) else ([1490, 122, 1489, 85]))) else (bif Nat.blt k 63 then (bif Nat.blt k 62 then ([1494, 122, 1493, 86]) else ([1486, 122, 1485, 84])) else (bif Nat.blt k 64 then ([1522, 122, 1521, 92]) else ([1518, 122, 1517, 91])))) else (bif Nat.blt k 68 then (bif Nat.blt k 66 then ([1514, 122, 1513, 90]) else (bif Nat.blt k 67 then ([1510, 122, 1509, 89]) else ([1383, 122, 1381, 1382]))) else (bif Nat.blt k 70 then (bif Nat.blt k 69 then ([1506, 122, 1505, 88]) else ([1502, 122, 1500, 1501])) else (bif Nat.blt k 71 then ([1538, 122, 1537, 95]) else ([1534, 122, 1533, 94]))))) else (bif Nat.blt k 79 then (bif Nat.blt k 75 then (bif Nat.blt k 73 then ([1526, 122, 1524, 1525]) else (bif Nat.blt k 74 then ([1546, 122, 1545, 96]) else ([1542, 122, 1540, 1541]))) else (bif Nat.blt k 77 then (bif Nat.blt k 76 then ([1550, 122, 1548, 1549]) else ([1554, 122, 1552, 1553])) else (bif Nat.blt k 78 then ([1558, 122, 1556, 1557]) else ([1562, 122, 1560, 1561])))) else (bif Nat.blt k 83 then (bif Nat.blt k 81 then (bif Nat.blt k 80 then ([1581, 122, 1580, 99]) else ([1617, 122, 1616, 107])) else (bif Nat.blt k 82 then ([1613, 122, 1612, 106]) else ([1573, 122, 1572, 97]))) else (bif Nat.blt k 85 then (bif Nat.blt k 84 then ([1577, 122, 1576, 98]) else ([1569, 122, 1567, 1568])) else (bif Nat.blt k 86 then ([1589, 122, 1588, 100]) else ([1593, 122, 1592, 101])))))) else (bif Nat.blt k 102 then (bif Nat.blt k 94 then (bif Nat.blt k 90 then (bif Nat.blt k 88 then ([1605, 122, 1604, 104]) else (bif Nat.blt k 89 then ([1609, 122, 1608, 105]) else ([1601, 122, 1600, 103]))) else (bif Nat.blt k 92 then (bif Nat.blt k 91 then ([1597, 122, 1596, 102]) else ([1585, 122, 1583, 1584])) else (bif Nat.blt k 93 then ([1621, 122, 1619, 1620]) else ([1625, 122, 1623, 1624])))) else (bif Nat.blt k 98 then (bif Nat.blt k 96 then (bif Nat.blt k 95 then ([1629, 122, 1627, 1628]) else ([1633, 122, 1631, 1632])) else (bif Nat.blt k 97 then ([1637, 122, 1635, 1636]) else ([1645, 122, 1644, 108]))) else (bif Nat.blt k 100 then (bif Nat.blt k 99 then ([1649, 122, 1648, 109]) else ([1641, 122, 1639, 1640])) else (bif Nat.blt k 101 then ([1657, 122, 1656, 110]) else ([1653, 122, 1651, 1652]))))) else (bif Nat.blt k 109 then (bif Nat.blt k 105 then (bif Nat.blt k 103 then ([1661, 122, 1659, 1660]) else (bif Nat.blt k 104 then ([1665, 122, 1663, 1664]) else ([1669, 122, 1667, 1668]))) else (bif Nat.blt k 107 then (bif Nat.blt k 106 then ([1677, 122, 1676, 111]) else ([1673, 122, 1671, 1672])) else (bif Nat.blt k 108 then ([340, 119, 339, 0]) else ([362, 119, 360, 361])))) else (bif Nat.blt k 113 then (bif Nat.blt k 111 then (bif Nat.blt k 110 then ([733, 119, 731, 732]) else ([729, 119, 727, 728])) else (bif Nat.blt k 112 then ([948, 119, 946, 947]) else ([757, 119, 755, 756]))) else (bif Nat.blt k 115 then (bif Nat.blt k 114 then ([914, 119, 912, 913]) else ([773, 119, 771, 772])) else (bif Nat.blt k 116 then ([208, 116, 207, 0]) else ([684, 116, 682, 683])))))))) else (bif Nat.blt k 176 then (bif Nat.blt k 146 then (bif Nat.blt k 131 then (bif Nat.blt k 124 then (bif Nat.blt k 120 then (bif Nat.blt k 118 then ([742, 116, 740, 741]) else (bif Nat.blt k 119 then ([1080, 116, 1078, 1079]) else ([148, 114, 147, 0]))) else (bif Nat.blt k 122 then (bif Nat.blt k 121 then ([499, 114, 497, 498]) else ([524, 114, 522, 523])) else (bif Nat.blt k 123 then ([545, 114, 543, 544]) else ([550, 114, 549, 0])))) else (bif Nat.blt k 127 then (bif Nat.blt k 125 then ([228, 117, 227, 0]) else (bif Nat.blt k 126 then ([515, 117, 513, 514]) else ([692, 117, 690, 691]))) else (bif Nat.blt k 129 then (bif Nat.blt k 128 then ([827, 117, 825, 826]) else ([578, 117, 576, 577])) else (bif Nat.blt k 130 then ([596, 117, 594, 595]) else ([610, 117, 608, 609]))))) else (bif Nat.blt k 138 then (bif Nat.blt k 134 then (bif Nat.blt k 132 then ([651, 117, 649, 650]) else (bif Nat.blt k 133 then ([679, 117, 677, 678]) else ([630, 124, 628, 629]))) else (bif Nat.blt k 136 then (bif Nat.blt k 135 then ([164, 115, 163, 0]) else ([511, 115, 509, 510])) else (bif Nat.blt k 137 then ([566, 115, 565, 4]) else ([562, 115, 561, 3])))) else (bif Nat.blt k 142 then (bif Nat.blt k 140 then (bif Nat.blt k 139 then ([589, 115, 588, 8]) else ([600, 115, 599, 9])) else (bif Nat.blt k 141 then ([616, 115, 615, 11]) else ([620, 115, 619, 12]))) else (bif Nat.blt k 144 then (bif Nat.blt k 143 then ([626, 115, 625, 13]) else ([647, 115, 646, 14])) else (bif Nat.blt k 145 then ([606, 115, 605, 10]) else ([570, 115, 569, 5])))))) else (bif Nat.blt k 161 then (bif Nat.blt k 153 then (bif Nat.blt k 149 then (bif Nat.blt k 147 then ([574, 115, 573, 6]) else (bif Nat.blt k 148 then ([520, 115, 519, 0]) else ([528, 115, 527, 1]))) else (bif Nat.blt k 151 then (bif Nat.blt k 150 then ([541, 115, 540, 2]) else ([531, 115, 530, 0])) else (bif Nat.blt k 152 then ([585, 115, 584, 7]) else ([657, 115, 656, 15])))) else (bif Nat.blt k 157 then (bif Nat.blt k 155 then (bif Nat.blt k 154 then ([661, 115, 660, 16]) else ([665, 115, 664, 17])) else (bif Nat.blt k 156 then ([672, 115, 671, 18]) else ([334, 118, 333, 0]))) else (bif Nat.blt k 159 then (bif Nat.blt k 158 then ([355, 118, 353, 354]) else ([909, 118, 907, 908])) else (bif Nat.blt k 160 then ([366, 118, 364, 365]) else ([701, 118, 699, 700]))))) else (bif Nat.blt k 168 then (bif Nat.blt k 164 then (bif Nat.blt k 162 then ([832, 118, 830, 831]) else (bif Nat.blt k 163 then ([697, 118, 695, 696]) else ([705, 118, 703, 704]))) else (bif Nat.blt k 166 then (bif Nat.blt k 165 then ([709, 118, 708, 19]) else ([718, 118, 717, 20])) else (bif Nat.blt k 167 then ([725, 118, 724, 21]) else ([737, 118, 736, 22])))) else (bif Nat.blt k 172 then (bif Nat.blt k 170 then (bif Nat.blt k 169 then ([753, 118, 752, 24]) else ([761, 118, 759, 760])) else (bif Nat.blt k 171 then ([769, 118, 767, 768]) else ([781, 118, 779, 780]))) else (bif Nat.blt k 174 then (bif Nat.blt k 173 then ([792, 118, 791, 26]) else ([811, 118, 810, 28])) else (bif Nat.blt k 175 then ([815, 118, 814, 29]) else ([749, 118, 748, 23]))))))) else (bif Nat.blt k 205 then (bif Nat.blt k 190 then (bif Nat.blt k 183 then (bif Nat.blt k 179 then (bif Nat.blt k 177 then ([840, 118, 838, 839]) else (bif Nat.blt k 178 then ([844, 118, 843, 31]) else ([803, 118, 801, 802]))) else (bif Nat.blt k 181 then (bif Nat.blt k 180 then ([807, 118, 806, 27]) else ([819, 118, 818, 30])) else (bif Nat.blt k 182 then ([713, 118, 711, 712]) else ([893, 118, 891, 892])))) else (bif Nat.blt k 186 then (bif Nat.blt k 184 then ([785, 118, 783, 784]) else (bif Nat.blt k 185 then ([883, 118, 881, 882]) else ([927, 118, 925, 926]))) else (bif Nat.blt k 188 then (bif Nat.blt k 187 then ([1006, 118, 1004, 1005]) else ([889, 118, 887, 888])) else (bif Nat.blt k 189 then ([918, 118, 916, 917]) else ([447, 121, 446, 0]))))) else (bif Nat.blt k 197 then (bif Nat.blt k 193 then (bif Nat.blt k 191 then ([956, 121, 954, 955]) else (bif Nat.blt k 192 then ([962, 121, 961, 34]) else ([140, 113, 139, 0]))) else (bif Nat.blt k 195 then (bif Nat.blt k 194 then ([495, 113, 493, 494]) else ([503, 113, 501, 502])) else (bif Nat.blt k 196 then ([507, 113, 505, 506]) else ([688, 113, 686, 687])))) else (bif Nat.blt k 201 then (bif Nat.blt k 199 then (bif Nat.blt k 198 then ([799, 113, 797, 798]) else ([823, 113, 821, 822])) else (bif Nat.blt k 200 then ([836, 113, 834, 835]) else ([848, 113, 846, 847]))) else (bif Nat.blt k 203 then (bif Nat.blt k 202 then ([854, 113, 852, 853]) else ([864, 113, 862, 863])) else (bif Nat.blt k 204 then ([868, 113, 866, 867]) else ([765, 113, 764, 25])))))) else (bif Nat.blt k 220 then (bif Nat.blt k 212 then (bif Nat.blt k 208 then (bif Nat.blt k 206 then ([878, 113, 876, 877]) else (bif Nat.blt k 207 then ([897, 113, 895, 896]) else ([923, 113, 921, 922]))) else (bif Nat.blt k 210 then (bif Nat.blt k 209 then ([931, 113, 929, 930]) else ([935, 113, 933, 934])) else (bif Nat.blt k 211 then ([940, 113, 938, 939]) else ([944, 113, 942, 943])))) else (bif Nat.blt k 216 then (bif Nat.blt k 214 then (bif Nat.blt k 213 then ([952, 113, 950, 951]) else ([972, 113, 970, 971])) else (bif Nat.blt k 215 then ([988, 113, 986, 987]) else ([992, 113, 990, 991]))) else (bif Nat.blt k 218 then (bif Nat.blt k 217 then ([996, 113, 994, 995]) else ([1002, 113, 1000, 1001])) else (bif Nat.blt k 219 then ([858, 113, 857, 32]) else ([905, 113, 904, 33]))))) else (bif Nat.blt k 227 then (bif Nat.blt k 223 then (bif Nat.blt k 221 then ([977, 113, 976, 35]) else (bif Nat.blt k 222 then ([981, 113, 980, 36]) else ([984, 113, 983, 0]))) else (bif Nat.blt k 225 then (bif Nat.blt k 224 then ([795, 113, 794, 0]) else ([788, 113, 787, 0])) else (bif Nat.blt k 226 then ([900, 113, 899, 0]) else ([581, 113, 580, 0])))) else (bif Nat.blt k 231 then (bif Nat.blt k 229 then (bif Nat.blt k 228 then ([534, 113, 533, 0]) else ([537, 113, 536, 0])) else (bif Nat.blt k 230 then ([668, 125, 667, 0]) else ([967, 125, 966, 0]))) else (bif Nat.blt k 233 then (bif Nat.blt k 232 then ([871, 125, 870, 0]) else ([675, 126, 674, 0])) else (bif Nat.blt k 234 then ([745, 126, 744, 0]) else ([358, 120, 357, 0]))))))))
def nwx (k : Nat) : Nat × Nat := bif Nat.blt k 4 then (bif Nat.blt k 2 then (bif Nat.blt k 1 then ((331, 118)) else ((205, 116))) else (bif Nat.blt k 3 then ((161, 115)) else ((225, 117)))) else (bif Nat.blt k 6 then (bif Nat.blt k 5 then ((444, 121)) else ((337, 119))) else (bif Nat.blt k 7 then ((145, 114)) else (bif Nat.blt k 8 then ((137, 113)) else ((1082, 122)))))
def zsi (k : Nat) : Nat := [167, 173, 175, 177, 179, 181, 183, 185, 187, 189].getD k 0
-- THE CHECK of an instruction's row against the code and the Statement's words
def zkn : List String := ["DEVICE", "DRIVER", "IN", "NEEDS", "OR", "MAP", "LINE", "GET", "GIVE", "BREAK"]
def lwk (w : Nat) (c : Cond) : Bool := decide (lw_tbl[w]? = some c)
theorem lwk_m {w : Nat} {c : Cond} (h : lwk w c = true) : c ∈ lw_tbl := List.mem_of_getElem? (of_decide_eq_true h)
def j3k (pc : Nat) (off : Int) (n : Nat) (a : List Nat) : Bool := match a with
  | [t] => decide ((pc : Int) + off = (t : Int)) && decide (n = pc + 3)
  | _ => false
def gfk (own : String) (x : Nat) (a : List Nat) : Bool := match a with
  | [kd, c, j, w] => match clz[c]? with
    | some q => decide (j < q.2.2) && (decide (kd = fk c j) && (lwk w (.fieldLink own x q.1 (q.2.1 j).2.1 (q.2.1 j).2.2.1) || lwk w (.fieldLinkNest own x q.1 (q.2.1 j).2.1 (q.2.1 j).2.2.1 "LateBinder")))
    | none => false
  | _ => false
def pfk (own : String) (ini : Bool) (x : Nat) (a : List Nat) : Bool := match a with
  | [kd, c, j, w] => match clz[c]? with
    | some q => decide (j < q.2.2) && (decide (kd = fk c j) && (lwk w (.fieldLink own x q.1 (q.2.1 j).2.1 (q.2.1 j).2.2.1) && (!(q.2.1 j).2.2.2 || (ini && decide (q.1 = own)))))
    | none => false
  | _ => false
def npk (y : MethodName) (k : Nat) : Bool := decide ((parseMethodDescriptor y.desc).map (fun d => d.parameters.length) = some k)
/-- a call: sort 0 static, 1 of an object, 2 of a constructor -/
def cak (own : String) (so x : Nat) (a : List Nat) : Bool := match a with
  | kd :: mi :: w :: ks => match kd with
    | 4 => decide (so = 0) && (decide (ks = [0, 0, 2, 0, 2]) && lwk w (.methodLink own x arraycopyName))
    | 5 => decide (so = 0) && (decide (ks = [1]) && lwk w (.methodLink own x ⟨"LateBinder$Key", "withCode", "(J)LLateBinder$Key;"⟩))
    | 6 => decide (so = 0) && (decide (ks = [2]) && (decide (own = "LateBinderModel") && lwk w (.methodLink own x ⟨"LateBinderModel", "packed", "(Ljava/lang/String;)J"⟩)))
    | 7 => decide (so = 2) && (decide (ks = [2]) && lwk w (.methodLink own x objectInit))
    | 8 => decide (so = 0) && (decide (ks = [2, 0, 0, 2]) && (decide (mi = 118) && lwk w (.methodLink own x ⟨"LateBinderLaw", "log", "(LLateBinder;II[J)I"⟩)))
    | _ => decide (mi < nM) && (decide ((ks.map kw).sum ≤ mL mi) && (decide (soM mi = so) && (decide ((so = 1 → ks.getLast? = some (rkM mi)) ∧ (so = 2 → ks.getLast? = some 2)) && ((lwk w (.methodLink own x (yM mi)) || (decide (so ≤ 2) && lwk w (.methodLinkNest own x (yM mi) "LateBinder"))) && npk (yM mi) (if so = 0 then ks.length else ks.length - 1)))))
  | _ => false
def opk (own : String) (ini : Bool) (rt : Option FieldType) (cc : ByteArray) (pc : Nat) (op : Op) : Bool := match op.1 with
  | .nop => true
  | i => decide (decode cc pc = .ok (i, op.2.1 - pc)) && (match i with
    | .iconst x => decide (op.2.1 = pc + 1) && decide (Int32.ofInt x = op.2.2.2)
    | .bipush x => decide (op.2.1 = pc + 2) && decide ((Int8.ofInt x).toInt32 = op.2.2.2)
    | .sipush x => decide (op.2.1 = pc + 3) && decide ((Int16.ofInt x).toInt32 = op.2.2.2)
    | .ldc x => decide (op.2.1 = pc + 2) && (match op.2.2.1 with
      | [q, w] => bif Nat.beq q 0 then lwk w (.constant own x op.2.2.2) else Nat.ble 1020 q && (Nat.ble q 1029 && decide (own = "LateBinderModel" ∧ x = zsi (q - 1020)))
      | _ => false)
    | .ldc_w x => decide (op.2.1 = pc + 3) && (match op.2.2.1 with
      | [q, w] => Nat.beq q 0 && lwk w (.constant own x op.2.2.2)
      | _ => false)
    | .lconst x => decide (op.2.1 = pc + 1) && decide (op.2.2.1 = [x.val])
    | .ldc2_w x => decide (op.2.1 = pc + 3) && (match op.2.2.1 with
      | [q, w] => lwk w (.constantLong own x (lN q))
      | _ => false)
    | .getstatic x => decide (op.2.1 = pc + 3) && (match op.2.2.1 with
      | [q, w] => Nat.ble 1000 q && (Nat.ble q 1009 && lwk w (.fieldLink own x "LateBinder$Key" (zkn.getD (q - 1000) "") "LLateBinder$Key;"))
      | _ => false)
    | .iload x => decide (op.2.1 = pc + 2) && decide (op.2.2.1 = [x])
    | .lload x => decide (op.2.1 = pc + 2) && decide (op.2.2.1 = [x])
    | .aload x => decide (op.2.1 = pc + 2) && decide (op.2.2.1 = [x])
    | .istore x => decide (op.2.1 = pc + 2) && decide (op.2.2.1 = [x])
    | .lstore x => decide (op.2.1 = pc + 2) && decide (op.2.2.1 = [x])
    | .astore x => decide (op.2.1 = pc + 2) && decide (op.2.2.1 = [x])
    | .iload_n x => decide (op.2.1 = pc + 1) && decide (op.2.2.1 = [x.val])
    | .lload_n x => decide (op.2.1 = pc + 1) && decide (op.2.2.1 = [x.val])
    | .aload_n x => decide (op.2.1 = pc + 1) && decide (op.2.2.1 = [x.val])
    | .istore_n x => decide (op.2.1 = pc + 1) && decide (op.2.2.1 = [x.val])
    | .lstore_n x => decide (op.2.1 = pc + 1) && decide (op.2.2.1 = [x.val])
    | .astore_n x => decide (op.2.1 = pc + 1) && decide (op.2.2.1 = [x.val])
    | .iinc x y => decide (op.2.1 = pc + 3) && (decide (op.2.2.1 = [x]) && decide (Int32.ofInt y = op.2.2.2))
    | .goto o => j3k pc o op.2.1 op.2.2.1
    | .ifnull o => j3k pc o op.2.1 op.2.2.1
    | .ifnonnull o => j3k pc o op.2.1 op.2.2.1
    | .ifCond _ o => j3k pc o op.2.1 op.2.2.1
    | .if_icmp _ o => j3k pc o op.2.1 op.2.2.1
    | .if_acmp _ o => j3k pc o op.2.1 op.2.2.1
    | .tableswitch d lo hi offs => match op.2.2.1 with
      | t :: ts => decide ((pc : Int) + d = (t : Int)) && (decide (lo = 0) && (decide (hi + 1 = (ts.length : Int)) && (decide (ts.length < 100) && decide (offs.toList.map (fun o => (pc : Int) + o) = ts.map Int.ofNat))))
      | _ => false
    | .getfield x => decide (op.2.1 = pc + 3) && gfk own x op.2.2.1
    | .putfield x => decide (op.2.1 = pc + 3) && pfk own ini x op.2.2.1
    | .newarray .int => decide (op.2.1 = pc + 2) && decide (op.2.2.1 = [20])
    | .newarray .long => decide (op.2.1 = pc + 2) && decide (op.2.2.1 = [21])
    | .newarray .byte => decide (op.2.1 = pc + 2) && decide (op.2.2.1 = [22])
    | .newarray _ => false
    | .new x => decide (op.2.1 = pc + 3) && (match op.2.2.1 with
      | [c, m, w] => match clz[c]? with
        | some q => decide (q.2.2 = m) && (lwk w (.classLink own x q.1) && (lwk (nwx c).1 (.instantiable q.1 q.2.2) && lwk (nwx c).2 (.initialized q.1)))
        | none => false
      | _ => false)
    | .anewarray x => decide (op.2.1 = pc + 3) && (match op.2.2.1 with
      | [24, w] => lwk w (.classLink own x "LateBinder$Bench")
      | [25, w] => lwk w (.classLink own x "LateBinder$Key")
      | _ => false)
    | .multianewarray x dm => decide (op.2.1 = pc + 4) && (decide (dm = 2) && (match op.2.2.1 with
      | [w] => lwk w (.classLink own x "[[I")
      | _ => false))
    | .invokevirtual x => decide (op.2.1 = pc + 3) && cak own 1 x op.2.2.1
    | .invokestatic x => decide (op.2.1 = pc + 3) && cak own 0 x op.2.2.1
    | .invokespecial x => decide (op.2.1 = pc + 3) && cak own 2 x op.2.2.1
    | .ireturn => decide (op.2.1 = pc + 1) && (match op.2.2.1 with
      | [] => decide (rt = some .int)
      | _ => decide (rt = some .boolean))
    | .lreturn => decide (op.2.1 = pc + 1) && decide (rt = some .long)
    | .areturn => decide (op.2.1 = pc + 1) && (match rt with
      | some (.object _) => true
      | _ => false)
    | .return_ => decide (op.2.1 = pc + 1) && decide (rt = none)
    | _ => decide (op.2.1 = pc + 1))
