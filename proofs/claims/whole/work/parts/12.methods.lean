theorem cfX0 : vwCl[0]? = some (RX0, TX0, 1) ∧ ts_fN 0 = 1 ∧ 0 < 100 := ⟨rfl, rfl, by decide⟩
theorem cfX1 : vwCl[1]? = some (RX1, TX1, 13) ∧ ts_fN 1 = 13 ∧ 1 < 100 := ⟨rfl, rfl, by decide⟩
theorem cfX3 : vwCl[2]? = some (RX3, TX3, 1) ∧ ts_fN 2 = 1 ∧ 2 < 100 := ⟨rfl, rfl, by decide⟩
theorem cfX4 : vwCl[3]? = some (RX4, TX4, 1) ∧ ts_fN 3 = 1 ∧ 3 < 100 := ⟨rfl, rfl, by decide⟩
theorem cfX5 : vwCl[4]? = some (RX5, TX5, 1) ∧ ts_fN 4 = 1 ∧ 4 < 100 := ⟨rfl, rfl, by decide⟩
theorem cfX6 : vwCl[5]? = some (RX6, TX6, 4) ∧ ts_fN 5 = 4 ∧ 5 < 100 := ⟨rfl, rfl, by decide⟩
theorem cfX7 : vwCl[6]? = some (RX7, TX7, 8) ∧ ts_fN 6 = 8 ∧ 6 < 100 := ⟨rfl, rfl, by decide⟩
theorem cfX8 : vwCl[7]? = some (RX8, TX8, 1) ∧ ts_fN 7 = 1 ∧ 7 < 100 := ⟨rfl, rfl, by decide⟩
theorem cfX9 : vwCl[8]? = some (RX9, TX9, 5) ∧ ts_fN 8 = 5 ∧ 8 < 100 := ⟨rfl, rfl, by decide⟩
theorem cfX10 : vwCl[9]? = some (RX10, TX10, 2) ∧ ts_fN 9 = 2 ∧ 9 < 100 := ⟨rfl, rfl, by decide⟩
theorem cfX11 : vwCl[10]? = some (RX11, TX11, 13) ∧ ts_fN 10 = 13 ∧ 10 < 100 := ⟨rfl, rfl, by decide⟩
theorem cfX12 : vwCl[11]? = some (RX12, TX12, 25) ∧ ts_fN 11 = 25 ∧ 11 < 100 := ⟨rfl, rfl, by decide⟩
abbrev mX0_init : ts_M := (yX0_init, cX0_init, 2, none, wsX0_init)
theorem dsX0_init : yX0_init.cls ≠ "java/lang/invoke/MethodHandle" ∧ yX0_init.cls ≠ "java/lang/invoke/VarHandle" ∧ (parseMethodDescriptor yX0_init.desc).map (fun d => d.parameters.length) = some 1 := by decide +kernel
theorem plX0_init : plainName yX0_init.cls = true := by decide +kernel
abbrev mX0_gainIn : ts_M := (yX0_gainIn, cX0_gainIn, 4, (some .int), wsX0_gainIn)
theorem dvX0_gainIn : yX0_gainIn.cls = RX0 ∧ yX0_gainIn.cls ≠ "java/lang/invoke/MethodHandle" ∧ yX0_gainIn.cls ≠ "java/lang/invoke/VarHandle" ∧ (parseMethodDescriptor yX0_gainIn.desc).map (fun d => d.parameters.length) = some 3 := by decide +kernel
theorem dwX0_gainIn : yX0_gainIn.name ≠ "<init>" ∧ (parseMethodDescriptor yX0_gainIn.desc).map (fun d => d.parameters.length) = some 3 := by decide +kernel
theorem plX0_gainIn : plainName yX0_gainIn.cls = true := by decide +kernel
abbrev mX0_size : ts_M := (yX0_size, cX0_size, 4, (some .int), wsX0_size)
theorem dvX0_size : yX0_size.cls = RX0 ∧ yX0_size.cls ≠ "java/lang/invoke/MethodHandle" ∧ yX0_size.cls ≠ "java/lang/invoke/VarHandle" ∧ (parseMethodDescriptor yX0_size.desc).map (fun d => d.parameters.length) = some 3 := by decide +kernel
theorem dwX0_size : yX0_size.name ≠ "<init>" ∧ (parseMethodDescriptor yX0_size.desc).map (fun d => d.parameters.length) = some 3 := by decide +kernel
theorem plX0_size : plainName yX0_size.cls = true := by decide +kernel
abbrev mX0_mark : ts_M := (yX0_mark, cX0_mark, 5, (some .int), wsX0_mark)
theorem dvX0_mark : yX0_mark.cls = RX0 ∧ yX0_mark.cls ≠ "java/lang/invoke/MethodHandle" ∧ yX0_mark.cls ≠ "java/lang/invoke/VarHandle" ∧ (parseMethodDescriptor yX0_mark.desc).map (fun d => d.parameters.length) = some 3 := by decide +kernel
theorem dwX0_mark : yX0_mark.name ≠ "<init>" ∧ (parseMethodDescriptor yX0_mark.desc).map (fun d => d.parameters.length) = some 3 := by decide +kernel
theorem plX0_mark : plainName yX0_mark.cls = true := by decide +kernel
abbrev mX1_init : ts_M := (yX1_init, cX1_init, 3, none, wsX1_init)
theorem dsX1_init : yX1_init.cls ≠ "java/lang/invoke/MethodHandle" ∧ yX1_init.cls ≠ "java/lang/invoke/VarHandle" ∧ (parseMethodDescriptor yX1_init.desc).map (fun d => d.parameters.length) = some 1 := by decide +kernel
theorem plX1_init : plainName yX1_init.cls = true := by decide +kernel
abbrev mX1_begin : ts_M := (yX1_begin, cX1_begin, 2, none, wsX1_begin)
theorem dvX1_begin : yX1_begin.cls = RX1 ∧ yX1_begin.cls ≠ "java/lang/invoke/MethodHandle" ∧ yX1_begin.cls ≠ "java/lang/invoke/VarHandle" ∧ (parseMethodDescriptor yX1_begin.desc).map (fun d => d.parameters.length) = some 0 := by decide +kernel
theorem plX1_begin : plainName yX1_begin.cls = true := by decide +kernel
abbrev mX1_become : ts_M := (yX1_become, cX1_become, 3, none, wsX1_become)
theorem dvX1_become : yX1_become.cls = RX1 ∧ yX1_become.cls ≠ "java/lang/invoke/MethodHandle" ∧ yX1_become.cls ≠ "java/lang/invoke/VarHandle" ∧ (parseMethodDescriptor yX1_become.desc).map (fun d => d.parameters.length) = some 1 := by decide +kernel
theorem plX1_become : plainName yX1_become.cls = true := by decide +kernel
abbrev mX1_hasFrost : ts_M := (yX1_hasFrost, cX1_hasFrost, 1, (some .boolean), wsX1_hasFrost)
theorem dvX1_hasFrost : yX1_hasFrost.cls = RX1 ∧ yX1_hasFrost.cls ≠ "java/lang/invoke/MethodHandle" ∧ yX1_hasFrost.cls ≠ "java/lang/invoke/VarHandle" ∧ (parseMethodDescriptor yX1_hasFrost.desc).map (fun d => d.parameters.length) = some 0 := by decide +kernel
theorem plX1_hasFrost : plainName yX1_hasFrost.cls = true := by decide +kernel
abbrev mX1_pass : ts_M := (yX1_pass, cX1_pass, 5, none, wsX1_pass)
theorem dvX1_pass : yX1_pass.cls = RX1 ∧ yX1_pass.cls ≠ "java/lang/invoke/MethodHandle" ∧ yX1_pass.cls ≠ "java/lang/invoke/VarHandle" ∧ (parseMethodDescriptor yX1_pass.desc).map (fun d => d.parameters.length) = some 1 := by decide +kernel
theorem plX1_pass : plainName yX1_pass.cls = true := by decide +kernel
abbrev mX1_findGains : ts_M := (yX1_findGains, cX1_findGains, 5, none, wsX1_findGains)
theorem dvX1_findGains : yX1_findGains.cls = RX1 ∧ yX1_findGains.cls ≠ "java/lang/invoke/MethodHandle" ∧ yX1_findGains.cls ≠ "java/lang/invoke/VarHandle" ∧ (parseMethodDescriptor yX1_findGains.desc).map (fun d => d.parameters.length) = some 1 := by decide +kernel
theorem plX1_findGains : plainName yX1_findGains.cls = true := by decide +kernel
abbrev mX1_findHigher : ts_M := (yX1_findHigher, cX1_findHigher, 4, none, wsX1_findHigher)
theorem dvX1_findHigher : yX1_findHigher.cls = RX1 ∧ yX1_findHigher.cls ≠ "java/lang/invoke/MethodHandle" ∧ yX1_findHigher.cls ≠ "java/lang/invoke/VarHandle" ∧ (parseMethodDescriptor yX1_findHigher.desc).map (fun d => d.parameters.length) = some 0 := by decide +kernel
theorem plX1_findHigher : plainName yX1_findHigher.cls = true := by decide +kernel
abbrev mX1_exchange : ts_M := (yX1_exchange, cX1_exchange, 4, none, wsX1_exchange)
theorem dvX1_exchange : yX1_exchange.cls = RX1 ∧ yX1_exchange.cls ≠ "java/lang/invoke/MethodHandle" ∧ yX1_exchange.cls ≠ "java/lang/invoke/VarHandle" ∧ (parseMethodDescriptor yX1_exchange.desc).map (fun d => d.parameters.length) = some 2 := by decide +kernel
theorem plX1_exchange : plainName yX1_exchange.cls = true := by decide +kernel
abbrev mX1_allRanks : ts_M := (yX1_allRanks, cX1_allRanks, 1, (some .int), wsX1_allRanks)
theorem dvX1_allRanks : yX1_allRanks.cls = RX1 ∧ yX1_allRanks.cls ≠ "java/lang/invoke/MethodHandle" ∧ yX1_allRanks.cls ≠ "java/lang/invoke/VarHandle" ∧ (parseMethodDescriptor yX1_allRanks.desc).map (fun d => d.parameters.length) = some 0 := by decide +kernel
theorem plX1_allRanks : plainName yX1_allRanks.cls = true := by decide +kernel
abbrev mX1_allGrown : ts_M := (yX1_allGrown, cX1_allGrown, 3, (some .int), wsX1_allGrown)
theorem dvX1_allGrown : yX1_allGrown.cls = RX1 ∧ yX1_allGrown.cls ≠ "java/lang/invoke/MethodHandle" ∧ yX1_allGrown.cls ≠ "java/lang/invoke/VarHandle" ∧ (parseMethodDescriptor yX1_allGrown.desc).map (fun d => d.parameters.length) = some 0 := by decide +kernel
theorem plX1_allGrown : plainName yX1_allGrown.cls = true := by decide +kernel
abbrev mX1_allMarried : ts_M := (yX1_allMarried, cX1_allMarried, 3, (some .int), wsX1_allMarried)
theorem dvX1_allMarried : yX1_allMarried.cls = RX1 ∧ yX1_allMarried.cls ≠ "java/lang/invoke/MethodHandle" ∧ yX1_allMarried.cls ≠ "java/lang/invoke/VarHandle" ∧ (parseMethodDescriptor yX1_allMarried.desc).map (fun d => d.parameters.length) = some 0 := by decide +kernel
theorem plX1_allMarried : plainName yX1_allMarried.cls = true := by decide +kernel
abbrev mX1_votesOf : ts_M := (yX1_votesOf, cX1_votesOf, 4, (some .int), wsX1_votesOf)
theorem dvX1_votesOf : yX1_votesOf.cls = RX1 ∧ yX1_votesOf.cls ≠ "java/lang/invoke/MethodHandle" ∧ yX1_votesOf.cls ≠ "java/lang/invoke/VarHandle" ∧ (parseMethodDescriptor yX1_votesOf.desc).map (fun d => d.parameters.length) = some 1 := by decide +kernel
theorem plX1_votesOf : plainName yX1_votesOf.cls = true := by decide +kernel
abbrev mX1_turnedBy : ts_M := (yX1_turnedBy, cX1_turnedBy, 6, (some .int), wsX1_turnedBy)
theorem dvX1_turnedBy : yX1_turnedBy.cls = RX1 ∧ yX1_turnedBy.cls ≠ "java/lang/invoke/MethodHandle" ∧ yX1_turnedBy.cls ≠ "java/lang/invoke/VarHandle" ∧ (parseMethodDescriptor yX1_turnedBy.desc).map (fun d => d.parameters.length) = some 1 := by decide +kernel
theorem plX1_turnedBy : plainName yX1_turnedBy.cls = true := by decide +kernel
abbrev mX1_leastBloc : ts_M := (yX1_leastBloc, cX1_leastBloc, 5, (some .int), wsX1_leastBloc)
theorem dvX1_leastBloc : yX1_leastBloc.cls = RX1 ∧ yX1_leastBloc.cls ≠ "java/lang/invoke/MethodHandle" ∧ yX1_leastBloc.cls ≠ "java/lang/invoke/VarHandle" ∧ (parseMethodDescriptor yX1_leastBloc.desc).map (fun d => d.parameters.length) = some 0 := by decide +kernel
theorem plX1_leastBloc : plainName yX1_leastBloc.cls = true := by decide +kernel
abbrev mX2_init : ts_M := (yX2_init, cX2_init, 2, none, wsX2_init)
theorem dsX2_init : yX2_init.cls ≠ "java/lang/invoke/MethodHandle" ∧ yX2_init.cls ≠ "java/lang/invoke/VarHandle" ∧ (parseMethodDescriptor yX2_init.desc).map (fun d => d.parameters.length) = some 1 := by decide +kernel
theorem plX2_init : plainName yX2_init.cls = true := by decide +kernel
abbrev mX2_isA : ts_M := (yX2_isA, cX2_isA, 2, (some .boolean), wsX2_isA)
theorem dvX2_isA : yX2_isA.cls = RX2 ∧ yX2_isA.cls ≠ "java/lang/invoke/MethodHandle" ∧ yX2_isA.cls ≠ "java/lang/invoke/VarHandle" ∧ (parseMethodDescriptor yX2_isA.desc).map (fun d => d.parameters.length) = some 1 := by decide +kernel
theorem dwX2_isA : yX2_isA.name ≠ "<init>" ∧ (parseMethodDescriptor yX2_isA.desc).map (fun d => d.parameters.length) = some 1 := by decide +kernel
theorem plX2_isA : plainName yX2_isA.cls = true := by decide +kernel
abbrev mX2_size : ts_M := (yX2_size, cX2_size, 4, (some .int), wsX2_size)
theorem dvX2_size : yX2_size.cls = RX2 ∧ yX2_size.cls ≠ "java/lang/invoke/MethodHandle" ∧ yX2_size.cls ≠ "java/lang/invoke/VarHandle" ∧ (parseMethodDescriptor yX2_size.desc).map (fun d => d.parameters.length) = some 3 := by decide +kernel
theorem dwX2_size : yX2_size.name ≠ "<init>" ∧ (parseMethodDescriptor yX2_size.desc).map (fun d => d.parameters.length) = some 3 := by decide +kernel
theorem plX2_size : plainName yX2_size.cls = true := by decide +kernel
abbrev mX2_mark : ts_M := (yX2_mark, cX2_mark, 4, (some .int), wsX2_mark)
theorem dvX2_mark : yX2_mark.cls = RX2 ∧ yX2_mark.cls ≠ "java/lang/invoke/MethodHandle" ∧ yX2_mark.cls ≠ "java/lang/invoke/VarHandle" ∧ (parseMethodDescriptor yX2_mark.desc).map (fun d => d.parameters.length) = some 3 := by decide +kernel
theorem dwX2_mark : yX2_mark.name ≠ "<init>" ∧ (parseMethodDescriptor yX2_mark.desc).map (fun d => d.parameters.length) = some 3 := by decide +kernel
theorem plX2_mark : plainName yX2_mark.cls = true := by decide +kernel
abbrev mX3_init : ts_M := (yX3_init, cX3_init, 2, none, wsX3_init)
theorem dsX3_init : yX3_init.cls ≠ "java/lang/invoke/MethodHandle" ∧ yX3_init.cls ≠ "java/lang/invoke/VarHandle" ∧ (parseMethodDescriptor yX3_init.desc).map (fun d => d.parameters.length) = some 1 := by decide +kernel
theorem plX3_init : plainName yX3_init.cls = true := by decide +kernel
abbrev mX3_gainIn : ts_M := (yX3_gainIn, cX3_gainIn, 4, (some .int), wsX3_gainIn)
theorem dvX3_gainIn : yX3_gainIn.cls = RX3 ∧ yX3_gainIn.cls ≠ "java/lang/invoke/MethodHandle" ∧ yX3_gainIn.cls ≠ "java/lang/invoke/VarHandle" ∧ (parseMethodDescriptor yX3_gainIn.desc).map (fun d => d.parameters.length) = some 3 := by decide +kernel
theorem plX3_gainIn : plainName yX3_gainIn.cls = true := by decide +kernel
abbrev mX3_size : ts_M := (yX3_size, cX3_size, 4, (some .int), wsX3_size)
theorem dvX3_size : yX3_size.cls = RX3 ∧ yX3_size.cls ≠ "java/lang/invoke/MethodHandle" ∧ yX3_size.cls ≠ "java/lang/invoke/VarHandle" ∧ (parseMethodDescriptor yX3_size.desc).map (fun d => d.parameters.length) = some 3 := by decide +kernel
theorem plX3_size : plainName yX3_size.cls = true := by decide +kernel
abbrev mX3_mark : ts_M := (yX3_mark, cX3_mark, 4, (some .int), wsX3_mark)
theorem dvX3_mark : yX3_mark.cls = RX3 ∧ yX3_mark.cls ≠ "java/lang/invoke/MethodHandle" ∧ yX3_mark.cls ≠ "java/lang/invoke/VarHandle" ∧ (parseMethodDescriptor yX3_mark.desc).map (fun d => d.parameters.length) = some 3 := by decide +kernel
theorem plX3_mark : plainName yX3_mark.cls = true := by decide +kernel
abbrev mX4_init : ts_M := (yX4_init, cX4_init, 2, none, wsX4_init)
theorem dsX4_init : yX4_init.cls ≠ "java/lang/invoke/MethodHandle" ∧ yX4_init.cls ≠ "java/lang/invoke/VarHandle" ∧ (parseMethodDescriptor yX4_init.desc).map (fun d => d.parameters.length) = some 1 := by decide +kernel
theorem plX4_init : plainName yX4_init.cls = true := by decide +kernel
abbrev mX4_gainIn : ts_M := (yX4_gainIn, cX4_gainIn, 4, (some .int), wsX4_gainIn)
theorem dvX4_gainIn : yX4_gainIn.cls = RX4 ∧ yX4_gainIn.cls ≠ "java/lang/invoke/MethodHandle" ∧ yX4_gainIn.cls ≠ "java/lang/invoke/VarHandle" ∧ (parseMethodDescriptor yX4_gainIn.desc).map (fun d => d.parameters.length) = some 3 := by decide +kernel
theorem dwX4_gainIn : yX4_gainIn.name ≠ "<init>" ∧ (parseMethodDescriptor yX4_gainIn.desc).map (fun d => d.parameters.length) = some 3 := by decide +kernel
theorem plX4_gainIn : plainName yX4_gainIn.cls = true := by decide +kernel
abbrev mX4_size : ts_M := (yX4_size, cX4_size, 5, (some .int), wsX4_size)
theorem dvX4_size : yX4_size.cls = RX4 ∧ yX4_size.cls ≠ "java/lang/invoke/MethodHandle" ∧ yX4_size.cls ≠ "java/lang/invoke/VarHandle" ∧ (parseMethodDescriptor yX4_size.desc).map (fun d => d.parameters.length) = some 3 := by decide +kernel
theorem dwX4_size : yX4_size.name ≠ "<init>" ∧ (parseMethodDescriptor yX4_size.desc).map (fun d => d.parameters.length) = some 3 := by decide +kernel
theorem plX4_size : plainName yX4_size.cls = true := by decide +kernel
abbrev mX4_mark : ts_M := (yX4_mark, cX4_mark, 4, (some .int), wsX4_mark)
theorem dvX4_mark : yX4_mark.cls = RX4 ∧ yX4_mark.cls ≠ "java/lang/invoke/MethodHandle" ∧ yX4_mark.cls ≠ "java/lang/invoke/VarHandle" ∧ (parseMethodDescriptor yX4_mark.desc).map (fun d => d.parameters.length) = some 3 := by decide +kernel
theorem dwX4_mark : yX4_mark.name ≠ "<init>" ∧ (parseMethodDescriptor yX4_mark.desc).map (fun d => d.parameters.length) = some 3 := by decide +kernel
theorem plX4_mark : plainName yX4_mark.cls = true := by decide +kernel
abbrev mX5_init : ts_M := (yX5_init, cX5_init, 2, none, wsX5_init)
theorem dsX5_init : yX5_init.cls ≠ "java/lang/invoke/MethodHandle" ∧ yX5_init.cls ≠ "java/lang/invoke/VarHandle" ∧ (parseMethodDescriptor yX5_init.desc).map (fun d => d.parameters.length) = some 1 := by decide +kernel
theorem plX5_init : plainName yX5_init.cls = true := by decide +kernel
abbrev mX5_gainIn : ts_M := (yX5_gainIn, cX5_gainIn, 4, (some .int), wsX5_gainIn)
theorem dvX5_gainIn : yX5_gainIn.cls = RX5 ∧ yX5_gainIn.cls ≠ "java/lang/invoke/MethodHandle" ∧ yX5_gainIn.cls ≠ "java/lang/invoke/VarHandle" ∧ (parseMethodDescriptor yX5_gainIn.desc).map (fun d => d.parameters.length) = some 3 := by decide +kernel
theorem plX5_gainIn : plainName yX5_gainIn.cls = true := by decide +kernel
abbrev mX5_mark : ts_M := (yX5_mark, cX5_mark, 4, (some .int), wsX5_mark)
theorem dvX5_mark : yX5_mark.cls = RX5 ∧ yX5_mark.cls ≠ "java/lang/invoke/MethodHandle" ∧ yX5_mark.cls ≠ "java/lang/invoke/VarHandle" ∧ (parseMethodDescriptor yX5_mark.desc).map (fun d => d.parameters.length) = some 3 := by decide +kernel
theorem plX5_mark : plainName yX5_mark.cls = true := by decide +kernel
abbrev mX6_init : ts_M := (yX6_init, cX6_init, 1, none, wsX6_init)
theorem dsX6_init : yX6_init.cls ≠ "java/lang/invoke/MethodHandle" ∧ yX6_init.cls ≠ "java/lang/invoke/VarHandle" ∧ (parseMethodDescriptor yX6_init.desc).map (fun d => d.parameters.length) = some 0 := by decide +kernel
theorem plX6_init : plainName yX6_init.cls = true := by decide +kernel
abbrev mX6_begin : ts_M := (yX6_begin, cX6_begin, 3, none, wsX6_begin)
theorem dvX6_begin : yX6_begin.cls = RX6 ∧ yX6_begin.cls ≠ "java/lang/invoke/MethodHandle" ∧ yX6_begin.cls ≠ "java/lang/invoke/VarHandle" ∧ (parseMethodDescriptor yX6_begin.desc).map (fun d => d.parameters.length) = some 2 := by decide +kernel
theorem plX6_begin : plainName yX6_begin.cls = true := by decide +kernel
abbrev mX6_has : ts_M := (yX6_has, cX6_has, 3, (some .boolean), wsX6_has)
theorem dvX6_has : yX6_has.cls = RX6 ∧ yX6_has.cls ≠ "java/lang/invoke/MethodHandle" ∧ yX6_has.cls ≠ "java/lang/invoke/VarHandle" ∧ (parseMethodDescriptor yX6_has.desc).map (fun d => d.parameters.length) = some 2 := by decide +kernel
theorem plX6_has : plainName yX6_has.cls = true := by decide +kernel
abbrev mX6_narrowed : ts_M := (yX6_narrowed, cX6_narrowed, 2, (some .int), wsX6_narrowed)
theorem dvX6_narrowed : yX6_narrowed.cls = RX6 ∧ yX6_narrowed.cls ≠ "java/lang/invoke/MethodHandle" ∧ yX6_narrowed.cls ≠ "java/lang/invoke/VarHandle" ∧ (parseMethodDescriptor yX6_narrowed.desc).map (fun d => d.parameters.length) = some 1 := by decide +kernel
theorem plX6_narrowed : plainName yX6_narrowed.cls = true := by decide +kernel
abbrev mX7_init : ts_M := (yX7_init, cX7_init, 4, none, wsX7_init)
theorem dsX7_init : yX7_init.cls ≠ "java/lang/invoke/MethodHandle" ∧ yX7_init.cls ≠ "java/lang/invoke/VarHandle" ∧ (parseMethodDescriptor yX7_init.desc).map (fun d => d.parameters.length) = some 2 := by decide +kernel
theorem plX7_init : plainName yX7_init.cls = true := by decide +kernel
abbrev mX7_afterYears : ts_M := (yX7_afterYears, cX7_afterYears, 3, (some (.object "TurnipSquires$Field")), wsX7_afterYears)
theorem dvX7_afterYears : yX7_afterYears.cls = RX7 ∧ yX7_afterYears.cls ≠ "java/lang/invoke/MethodHandle" ∧ yX7_afterYears.cls ≠ "java/lang/invoke/VarHandle" ∧ (parseMethodDescriptor yX7_afterYears.desc).map (fun d => d.parameters.length) = some 1 := by decide +kernel
theorem plX7_afterYears : plainName yX7_afterYears.cls = true := by decide +kernel
abbrev mX7_yearsUntil : ts_M := (yX7_yearsUntil, cX7_yearsUntil, 4, (some .int), wsX7_yearsUntil)
theorem dvX7_yearsUntil : yX7_yearsUntil.cls = RX7 ∧ yX7_yearsUntil.cls ≠ "java/lang/invoke/MethodHandle" ∧ yX7_yearsUntil.cls ≠ "java/lang/invoke/VarHandle" ∧ (parseMethodDescriptor yX7_yearsUntil.desc).map (fun d => d.parameters.length) = some 2 := by decide +kernel
theorem plX7_yearsUntil : plainName yX7_yearsUntil.cls = true := by decide +kernel
abbrev mX7_firstSquire : ts_M := (yX7_firstSquire, cX7_firstSquire, 3, (some .int), wsX7_firstSquire)
theorem dvX7_firstSquire : yX7_firstSquire.cls = RX7 ∧ yX7_firstSquire.cls ≠ "java/lang/invoke/MethodHandle" ∧ yX7_firstSquire.cls ≠ "java/lang/invoke/VarHandle" ∧ (parseMethodDescriptor yX7_firstSquire.desc).map (fun d => d.parameters.length) = some 0 := by decide +kernel
theorem plX7_firstSquire : plainName yX7_firstSquire.cls = true := by decide +kernel
abbrev mX7_findBestPairs : ts_M := (yX7_findBestPairs, cX7_findBestPairs, 2, none, wsX7_findBestPairs)
theorem dvX7_findBestPairs : yX7_findBestPairs.cls = RX7 ∧ yX7_findBestPairs.cls ≠ "java/lang/invoke/MethodHandle" ∧ yX7_findBestPairs.cls ≠ "java/lang/invoke/VarHandle" ∧ (parseMethodDescriptor yX7_findBestPairs.desc).map (fun d => d.parameters.length) = some 1 := by decide +kernel
theorem plX7_findBestPairs : plainName yX7_findBestPairs.cls = true := by decide +kernel
abbrev mX7_tryPairs : ts_M := (yX7_tryPairs, cX7_tryPairs, 4, none, wsX7_tryPairs)
theorem dvX7_tryPairs : yX7_tryPairs.cls = RX7 ∧ yX7_tryPairs.cls ≠ "java/lang/invoke/MethodHandle" ∧ yX7_tryPairs.cls ≠ "java/lang/invoke/VarHandle" ∧ (parseMethodDescriptor yX7_tryPairs.desc).map (fun d => d.parameters.length) = some 2 := by decide +kernel
theorem plX7_tryPairs : plainName yX7_tryPairs.cls = true := by decide +kernel
abbrev mX7_weighPairs : ts_M := (yX7_weighPairs, cX7_weighPairs, 3, none, wsX7_weighPairs)
theorem dvX7_weighPairs : yX7_weighPairs.cls = RX7 ∧ yX7_weighPairs.cls ≠ "java/lang/invoke/MethodHandle" ∧ yX7_weighPairs.cls ≠ "java/lang/invoke/VarHandle" ∧ (parseMethodDescriptor yX7_weighPairs.desc).map (fun d => d.parameters.length) = some 1 := by decide +kernel
theorem plX7_weighPairs : plainName yX7_weighPairs.cls = true := by decide +kernel
abbrev mX7_bestChange : ts_M := (yX7_bestChange, cX7_bestChange, 6, (some .int), wsX7_bestChange)
theorem dvX7_bestChange : yX7_bestChange.cls = RX7 ∧ yX7_bestChange.cls ≠ "java/lang/invoke/MethodHandle" ∧ yX7_bestChange.cls ≠ "java/lang/invoke/VarHandle" ∧ (parseMethodDescriptor yX7_bestChange.desc).map (fun d => d.parameters.length) = some 1 := by decide +kernel
theorem plX7_bestChange : plainName yX7_bestChange.cls = true := by decide +kernel
abbrev mX7_allFitting : ts_M := (yX7_allFitting, cX7_allFitting, 10, (some .int), wsX7_allFitting)
theorem dvX7_allFitting : yX7_allFitting.cls = RX7 ∧ yX7_allFitting.cls ≠ "java/lang/invoke/MethodHandle" ∧ yX7_allFitting.cls ≠ "java/lang/invoke/VarHandle" ∧ (parseMethodDescriptor yX7_allFitting.desc).map (fun d => d.parameters.length) = some 5 := by decide +kernel
theorem plX7_allFitting : plainName yX7_allFitting.cls = true := by decide +kernel
abbrev mX7_suppose : ts_M := (yX7_suppose, cX7_suppose, 4, none, wsX7_suppose)
theorem dvX7_suppose : yX7_suppose.cls = RX7 ∧ yX7_suppose.cls ≠ "java/lang/invoke/MethodHandle" ∧ yX7_suppose.cls ≠ "java/lang/invoke/VarHandle" ∧ (parseMethodDescriptor yX7_suppose.desc).map (fun d => d.parameters.length) = some 3 := by decide +kernel
theorem plX7_suppose : plainName yX7_suppose.cls = true := by decide +kernel
abbrev mX7_isTold : ts_M := (yX7_isTold, cX7_isTold, 6, (some .boolean), wsX7_isTold)
theorem dvX7_isTold : yX7_isTold.cls = RX7 ∧ yX7_isTold.cls ≠ "java/lang/invoke/MethodHandle" ∧ yX7_isTold.cls ≠ "java/lang/invoke/VarHandle" ∧ (parseMethodDescriptor yX7_isTold.desc).map (fun d => d.parameters.length) = some 4 := by decide +kernel
theorem plX7_isTold : plainName yX7_isTold.cls = true := by decide +kernel
abbrev mX7_waysToRise : ts_M := (yX7_waysToRise, cX7_waysToRise, 5, (some .int), wsX7_waysToRise)
theorem dvX7_waysToRise : yX7_waysToRise.cls = RX7 ∧ yX7_waysToRise.cls ≠ "java/lang/invoke/MethodHandle" ∧ yX7_waysToRise.cls ≠ "java/lang/invoke/VarHandle" ∧ (parseMethodDescriptor yX7_waysToRise.desc).map (fun d => d.parameters.length) = some 4 := by decide +kernel
theorem plX7_waysToRise : plainName yX7_waysToRise.cls = true := by decide +kernel
abbrev mX7_waysFrom : ts_M := (yX7_waysFrom, cX7_waysFrom, 6, (some .int), wsX7_waysFrom)
theorem dvX7_waysFrom : yX7_waysFrom.cls = RX7 ∧ yX7_waysFrom.cls ≠ "java/lang/invoke/MethodHandle" ∧ yX7_waysFrom.cls ≠ "java/lang/invoke/VarHandle" ∧ (parseMethodDescriptor yX7_waysFrom.desc).map (fun d => d.parameters.length) = some 4 := by decide +kernel
theorem plX7_waysFrom : plainName yX7_waysFrom.cls = true := by decide +kernel
abbrev mX7_century : ts_M := (yX7_century, cX7_century, 9, (some (.object "TurnipSquires$Field")), wsX7_century)
theorem dvX7_century : yX7_century.cls = RX7 ∧ yX7_century.cls ≠ "java/lang/invoke/MethodHandle" ∧ yX7_century.cls ≠ "java/lang/invoke/VarHandle" ∧ (parseMethodDescriptor yX7_century.desc).map (fun d => d.parameters.length) = some 2 := by decide +kernel
theorem plX7_century : plainName yX7_century.cls = true := by decide +kernel
abbrev mX8_init : ts_M := (yX8_init, cX8_init, 2, none, wsX8_init)
theorem dsX8_init : yX8_init.cls ≠ "java/lang/invoke/MethodHandle" ∧ yX8_init.cls ≠ "java/lang/invoke/VarHandle" ∧ (parseMethodDescriptor yX8_init.desc).map (fun d => d.parameters.length) = some 1 := by decide +kernel
theorem plX8_init : plainName yX8_init.cls = true := by decide +kernel
abbrev mX8_gainIn : ts_M := (yX8_gainIn, cX8_gainIn, 4, (some .int), wsX8_gainIn)
theorem dvX8_gainIn : yX8_gainIn.cls = RX8 ∧ yX8_gainIn.cls ≠ "java/lang/invoke/MethodHandle" ∧ yX8_gainIn.cls ≠ "java/lang/invoke/VarHandle" ∧ (parseMethodDescriptor yX8_gainIn.desc).map (fun d => d.parameters.length) = some 3 := by decide +kernel
theorem plX8_gainIn : plainName yX8_gainIn.cls = true := by decide +kernel
abbrev mX8_size : ts_M := (yX8_size, cX8_size, 4, (some .int), wsX8_size)
theorem dvX8_size : yX8_size.cls = RX8 ∧ yX8_size.cls ≠ "java/lang/invoke/MethodHandle" ∧ yX8_size.cls ≠ "java/lang/invoke/VarHandle" ∧ (parseMethodDescriptor yX8_size.desc).map (fun d => d.parameters.length) = some 3 := by decide +kernel
theorem plX8_size : plainName yX8_size.cls = true := by decide +kernel
abbrev mX9_init : ts_M := (yX9_init, cX9_init, 1, none, wsX9_init)
theorem dsX9_init : yX9_init.cls ≠ "java/lang/invoke/MethodHandle" ∧ yX9_init.cls ≠ "java/lang/invoke/VarHandle" ∧ (parseMethodDescriptor yX9_init.desc).map (fun d => d.parameters.length) = some 0 := by decide +kernel
theorem plX9_init : plainName yX9_init.cls = true := by decide +kernel
abbrev mX9_add : ts_M := (yX9_add, cX9_add, 2, (some .boolean), wsX9_add)
theorem dvX9_add : yX9_add.cls = RX9 ∧ yX9_add.cls ≠ "java/lang/invoke/MethodHandle" ∧ yX9_add.cls ≠ "java/lang/invoke/VarHandle" ∧ (parseMethodDescriptor yX9_add.desc).map (fun d => d.parameters.length) = some 1 := by decide +kernel
theorem plX9_add : plainName yX9_add.cls = true := by decide +kernel
abbrev mX9_readInto : ts_M := (yX9_readInto, cX9_readInto, 5, (some .boolean), wsX9_readInto)
theorem dvX9_readInto : yX9_readInto.cls = RX9 ∧ yX9_readInto.cls ≠ "java/lang/invoke/MethodHandle" ∧ yX9_readInto.cls ≠ "java/lang/invoke/VarHandle" ∧ (parseMethodDescriptor yX9_readInto.desc).map (fun d => d.parameters.length) = some 2 := by decide +kernel
theorem plX9_readInto : plainName yX9_readInto.cls = true := by decide +kernel
abbrev mX9_readLaw : ts_M := (yX9_readLaw, cX9_readLaw, 2, (some .boolean), wsX9_readLaw)
theorem dvX9_readLaw : yX9_readLaw.cls = RX9 ∧ yX9_readLaw.cls ≠ "java/lang/invoke/MethodHandle" ∧ yX9_readLaw.cls ≠ "java/lang/invoke/VarHandle" ∧ (parseMethodDescriptor yX9_readLaw.desc).map (fun d => d.parameters.length) = some 1 := by decide +kernel
theorem plX9_readLaw : plainName yX9_readLaw.cls = true := by decide +kernel
abbrev mX9_readTurnip : ts_M := (yX9_readTurnip, cX9_readTurnip, 5, (some .boolean), wsX9_readTurnip)
theorem dvX9_readTurnip : yX9_readTurnip.cls = RX9 ∧ yX9_readTurnip.cls ≠ "java/lang/invoke/MethodHandle" ∧ yX9_readTurnip.cls ≠ "java/lang/invoke/VarHandle" ∧ (parseMethodDescriptor yX9_readTurnip.desc).map (fun d => d.parameters.length) = some 2 := by decide +kernel
theorem plX9_readTurnip : plainName yX9_readTurnip.cls = true := by decide +kernel
abbrev mX9_readSign : ts_M := (yX9_readSign, cX9_readSign, 2, (some .boolean), wsX9_readSign)
theorem dvX9_readSign : yX9_readSign.cls = RX9 ∧ yX9_readSign.cls ≠ "java/lang/invoke/MethodHandle" ∧ yX9_readSign.cls ≠ "java/lang/invoke/VarHandle" ∧ (parseMethodDescriptor yX9_readSign.desc).map (fun d => d.parameters.length) = some 1 := by decide +kernel
theorem plX9_readSign : plainName yX9_readSign.cls = true := by decide +kernel
abbrev mX9_readNumber : ts_M := (yX9_readNumber, cX9_readNumber, 5, (some .boolean), wsX9_readNumber)
theorem dvX9_readNumber : yX9_readNumber.cls = RX9 ∧ yX9_readNumber.cls ≠ "java/lang/invoke/MethodHandle" ∧ yX9_readNumber.cls ≠ "java/lang/invoke/VarHandle" ∧ (parseMethodDescriptor yX9_readNumber.desc).map (fun d => d.parameters.length) = some 2 := by decide +kernel
theorem plX9_readNumber : plainName yX9_readNumber.cls = true := by decide +kernel
abbrev mX9_failed : ts_M := (yX9_failed, cX9_failed, 2, (some .boolean), wsX9_failed)
theorem dvX9_failed : yX9_failed.cls = RX9 ∧ yX9_failed.cls ≠ "java/lang/invoke/MethodHandle" ∧ yX9_failed.cls ≠ "java/lang/invoke/VarHandle" ∧ (parseMethodDescriptor yX9_failed.desc).map (fun d => d.parameters.length) = some 1 := by decide +kernel
theorem plX9_failed : plainName yX9_failed.cls = true := by decide +kernel
abbrev mX9_byteAt : ts_M := (yX9_byteAt, cX9_byteAt, 2, (some .int), wsX9_byteAt)
theorem dvX9_byteAt : yX9_byteAt.cls = RX9 ∧ yX9_byteAt.cls ≠ "java/lang/invoke/MethodHandle" ∧ yX9_byteAt.cls ≠ "java/lang/invoke/VarHandle" ∧ (parseMethodDescriptor yX9_byteAt.desc).map (fun d => d.parameters.length) = some 1 := by decide +kernel
theorem plX9_byteAt : plainName yX9_byteAt.cls = true := by decide +kernel
abbrev mX9_isFigure : ts_M := (yX9_isFigure, cX9_isFigure, 1, (some .boolean), wsX9_isFigure)
theorem dsX9_isFigure : yX9_isFigure.cls ≠ "java/lang/invoke/MethodHandle" ∧ yX9_isFigure.cls ≠ "java/lang/invoke/VarHandle" ∧ (parseMethodDescriptor yX9_isFigure.desc).map (fun d => d.parameters.length) = some 1 := by decide +kernel
theorem plX9_isFigure : plainName yX9_isFigure.cls = true := by decide +kernel
abbrev mX9_sortOf : ts_M := (yX9_sortOf, cX9_sortOf, 1, (some .int), wsX9_sortOf)
theorem dsX9_sortOf : yX9_sortOf.cls ≠ "java/lang/invoke/MethodHandle" ∧ yX9_sortOf.cls ≠ "java/lang/invoke/VarHandle" ∧ (parseMethodDescriptor yX9_sortOf.desc).map (fun d => d.parameters.length) = some 1 := by decide +kernel
theorem plX9_sortOf : plainName yX9_sortOf.cls = true := by decide +kernel
abbrev mX10_init : ts_M := (yX10_init, cX10_init, 1, none, wsX10_init)
theorem dsX10_init : yX10_init.cls ≠ "java/lang/invoke/MethodHandle" ∧ yX10_init.cls ≠ "java/lang/invoke/VarHandle" ∧ (parseMethodDescriptor yX10_init.desc).map (fun d => d.parameters.length) = some 0 := by decide +kernel
theorem plX10_init : plainName yX10_init.cls = true := by decide +kernel
abbrev mX10_leave : ts_M := (yX10_leave, cX10_leave, 2, none, wsX10_leave)
theorem dvX10_leave : yX10_leave.cls = RX10 ∧ yX10_leave.cls ≠ "java/lang/invoke/MethodHandle" ∧ yX10_leave.cls ≠ "java/lang/invoke/VarHandle" ∧ (parseMethodDescriptor yX10_leave.desc).map (fun d => d.parameters.length) = some 1 := by decide +kernel
theorem plX10_leave : plainName yX10_leave.cls = true := by decide +kernel
abbrev mX11_init : ts_M := (yX11_init, cX11_init, 3, none, wsX11_init)
theorem dsX11_init : yX11_init.cls ≠ "java/lang/invoke/MethodHandle" ∧ yX11_init.cls ≠ "java/lang/invoke/VarHandle" ∧ (parseMethodDescriptor yX11_init.desc).map (fun d => d.parameters.length) = some 0 := by decide +kernel
theorem plX11_init : plainName yX11_init.cls = true := by decide +kernel
abbrev mX11_row : ts_M := (yX11_row, cX11_row, 4, (some .int), wsX11_row)
theorem dvX11_row : yX11_row.cls = RX11 ∧ yX11_row.cls ≠ "java/lang/invoke/MethodHandle" ∧ yX11_row.cls ≠ "java/lang/invoke/VarHandle" ∧ (parseMethodDescriptor yX11_row.desc).map (fun d => d.parameters.length) = some 3 := by decide +kernel
theorem plX11_row : plainName yX11_row.cls = true := by decide +kernel
abbrev mX11_set : ts_M := (yX11_set, cX11_set, 5, (some .int), wsX11_set)
theorem dvX11_set : yX11_set.cls = RX11 ∧ yX11_set.cls ≠ "java/lang/invoke/MethodHandle" ∧ yX11_set.cls ≠ "java/lang/invoke/VarHandle" ∧ (parseMethodDescriptor yX11_set.desc).map (fun d => d.parameters.length) = some 3 := by decide +kernel
theorem plX11_set : plainName yX11_set.cls = true := by decide +kernel
abbrev mX11_copy : ts_M := (yX11_copy, cX11_copy, 8, (some .int), wsX11_copy)
theorem dvX11_copy : yX11_copy.cls = RX11 ∧ yX11_copy.cls ≠ "java/lang/invoke/MethodHandle" ∧ yX11_copy.cls ≠ "java/lang/invoke/VarHandle" ∧ (parseMethodDescriptor yX11_copy.desc).map (fun d => d.parameters.length) = some 5 := by decide +kernel
theorem plX11_copy : plainName yX11_copy.cls = true := by decide +kernel
abbrev mX11_drop : ts_M := (yX11_drop, cX11_drop, 3, (some .int), wsX11_drop)
theorem dvX11_drop : yX11_drop.cls = RX11 ∧ yX11_drop.cls ≠ "java/lang/invoke/MethodHandle" ∧ yX11_drop.cls ≠ "java/lang/invoke/VarHandle" ∧ (parseMethodDescriptor yX11_drop.desc).map (fun d => d.parameters.length) = some 1 := by decide +kernel
theorem plX11_drop : plainName yX11_drop.cls = true := by decide +kernel
abbrev mX11_feed : ts_M := (yX11_feed, cX11_feed, 2, (some .int), wsX11_feed)
theorem dvX11_feed : yX11_feed.cls = RX11 ∧ yX11_feed.cls ≠ "java/lang/invoke/MethodHandle" ∧ yX11_feed.cls ≠ "java/lang/invoke/VarHandle" ∧ (parseMethodDescriptor yX11_feed.desc).map (fun d => d.parameters.length) = some 1 := by decide +kernel
theorem plX11_feed : plainName yX11_feed.cls = true := by decide +kernel
abbrev mX11_field : ts_M := (yX11_field, cX11_field, 2, (some .int), wsX11_field)
theorem dvX11_field : yX11_field.cls = RX11 ∧ yX11_field.cls ≠ "java/lang/invoke/MethodHandle" ∧ yX11_field.cls ≠ "java/lang/invoke/VarHandle" ∧ (parseMethodDescriptor yX11_field.desc).map (fun d => d.parameters.length) = some 0 := by decide +kernel
theorem plX11_field : plainName yX11_field.cls = true := by decide +kernel
abbrev mX11_fault : ts_M := (yX11_fault, cX11_fault, 1, (some .int), wsX11_fault)
theorem dvX11_fault : yX11_fault.cls = RX11 ∧ yX11_fault.cls ≠ "java/lang/invoke/MethodHandle" ∧ yX11_fault.cls ≠ "java/lang/invoke/VarHandle" ∧ (parseMethodDescriptor yX11_fault.desc).map (fun d => d.parameters.length) = some 0 := by decide +kernel
theorem plX11_fault : plainName yX11_fault.cls = true := by decide +kernel
abbrev mX11_years : ts_M := (yX11_years, cX11_years, 3, (some .int), wsX11_years)
theorem dvX11_years : yX11_years.cls = RX11 ∧ yX11_years.cls ≠ "java/lang/invoke/MethodHandle" ∧ yX11_years.cls ≠ "java/lang/invoke/VarHandle" ∧ (parseMethodDescriptor yX11_years.desc).map (fun d => d.parameters.length) = some 1 := by decide +kernel
theorem plX11_years : plainName yX11_years.cls = true := by decide +kernel
abbrev mX11_marry : ts_M := (yX11_marry, cX11_marry, 3, (some .int), wsX11_marry)
theorem dvX11_marry : yX11_marry.cls = RX11 ∧ yX11_marry.cls ≠ "java/lang/invoke/MethodHandle" ∧ yX11_marry.cls ≠ "java/lang/invoke/VarHandle" ∧ (parseMethodDescriptor yX11_marry.desc).map (fun d => d.parameters.length) = some 2 := by decide +kernel
theorem plX11_marry : plainName yX11_marry.cls = true := by decide +kernel
abbrev mX11_part : ts_M := (yX11_part, cX11_part, 3, (some .int), wsX11_part)
theorem dvX11_part : yX11_part.cls = RX11 ∧ yX11_part.cls ≠ "java/lang/invoke/MethodHandle" ∧ yX11_part.cls ≠ "java/lang/invoke/VarHandle" ∧ (parseMethodDescriptor yX11_part.desc).map (fun d => d.parameters.length) = some 1 := by decide +kernel
theorem plX11_part : plainName yX11_part.cls = true := by decide +kernel
abbrev mX11_swap : ts_M := (yX11_swap, cX11_swap, 3, (some .int), wsX11_swap)
theorem dvX11_swap : yX11_swap.cls = RX11 ∧ yX11_swap.cls ≠ "java/lang/invoke/MethodHandle" ∧ yX11_swap.cls ≠ "java/lang/invoke/VarHandle" ∧ (parseMethodDescriptor yX11_swap.desc).map (fun d => d.parameters.length) = some 2 := by decide +kernel
theorem plX11_swap : plainName yX11_swap.cls = true := by decide +kernel
abbrev mX11_lean : ts_M := (yX11_lean, cX11_lean, 2, (some .int), wsX11_lean)
theorem dvX11_lean : yX11_lean.cls = RX11 ∧ yX11_lean.cls ≠ "java/lang/invoke/MethodHandle" ∧ yX11_lean.cls ≠ "java/lang/invoke/VarHandle" ∧ (parseMethodDescriptor yX11_lean.desc).map (fun d => d.parameters.length) = some 1 := by decide +kernel
theorem plX11_lean : plainName yX11_lean.cls = true := by decide +kernel
abbrev mX11_ground : ts_M := (yX11_ground, cX11_ground, 3, (some .int), wsX11_ground)
theorem dvX11_ground : yX11_ground.cls = RX11 ∧ yX11_ground.cls ≠ "java/lang/invoke/MethodHandle" ∧ yX11_ground.cls ≠ "java/lang/invoke/VarHandle" ∧ (parseMethodDescriptor yX11_ground.desc).map (fun d => d.parameters.length) = some 1 := by decide +kernel
theorem plX11_ground : plainName yX11_ground.cls = true := by decide +kernel
abbrev mX11_undo : ts_M := (yX11_undo, cX11_undo, 1, (some .int), wsX11_undo)
theorem dvX11_undo : yX11_undo.cls = RX11 ∧ yX11_undo.cls ≠ "java/lang/invoke/MethodHandle" ∧ yX11_undo.cls ≠ "java/lang/invoke/VarHandle" ∧ (parseMethodDescriptor yX11_undo.desc).map (fun d => d.parameters.length) = some 0 := by decide +kernel
theorem plX11_undo : plainName yX11_undo.cls = true := by decide +kernel
abbrev mX11_turnip : ts_M := (yX11_turnip, cX11_turnip, 3, (some .int), wsX11_turnip)
theorem dvX11_turnip : yX11_turnip.cls = RX11 ∧ yX11_turnip.cls ≠ "java/lang/invoke/MethodHandle" ∧ yX11_turnip.cls ≠ "java/lang/invoke/VarHandle" ∧ (parseMethodDescriptor yX11_turnip.desc).map (fun d => d.parameters.length) = some 2 := by decide +kernel
theorem plX11_turnip : plainName yX11_turnip.cls = true := by decide +kernel
abbrev mX11_place : ts_M := (yX11_place, cX11_place, 2, (some .int), wsX11_place)
theorem dvX11_place : yX11_place.cls = RX11 ∧ yX11_place.cls ≠ "java/lang/invoke/MethodHandle" ∧ yX11_place.cls ≠ "java/lang/invoke/VarHandle" ∧ (parseMethodDescriptor yX11_place.desc).map (fun d => d.parameters.length) = some 1 := by decide +kernel
theorem plX11_place : plainName yX11_place.cls = true := by decide +kernel
abbrev mX11_ahead : ts_M := (yX11_ahead, cX11_ahead, 5, (some .int), wsX11_ahead)
theorem dvX11_ahead : yX11_ahead.cls = RX11 ∧ yX11_ahead.cls ≠ "java/lang/invoke/MethodHandle" ∧ yX11_ahead.cls ≠ "java/lang/invoke/VarHandle" ∧ (parseMethodDescriptor yX11_ahead.desc).map (fun d => d.parameters.length) = some 3 := by decide +kernel
theorem plX11_ahead : plainName yX11_ahead.cls = true := by decide +kernel
abbrev mX11_risen : ts_M := (yX11_risen, cX11_risen, 3, (some .int), wsX11_risen)
theorem dvX11_risen : yX11_risen.cls = RX11 ∧ yX11_risen.cls ≠ "java/lang/invoke/MethodHandle" ∧ yX11_risen.cls ≠ "java/lang/invoke/VarHandle" ∧ (parseMethodDescriptor yX11_risen.desc).map (fun d => d.parameters.length) = some 2 := by decide +kernel
theorem plX11_risen : plainName yX11_risen.cls = true := by decide +kernel
abbrev mX11_squire : ts_M := (yX11_squire, cX11_squire, 3, (some .int), wsX11_squire)
theorem dvX11_squire : yX11_squire.cls = RX11 ∧ yX11_squire.cls ≠ "java/lang/invoke/MethodHandle" ∧ yX11_squire.cls ≠ "java/lang/invoke/VarHandle" ∧ (parseMethodDescriptor yX11_squire.desc).map (fun d => d.parameters.length) = some 1 := by decide +kernel
theorem plX11_squire : plainName yX11_squire.cls = true := by decide +kernel
abbrev mX11_pairs : ts_M := (yX11_pairs, cX11_pairs, 3, (some .int), wsX11_pairs)
theorem dvX11_pairs : yX11_pairs.cls = RX11 ∧ yX11_pairs.cls ≠ "java/lang/invoke/MethodHandle" ∧ yX11_pairs.cls ≠ "java/lang/invoke/VarHandle" ∧ (parseMethodDescriptor yX11_pairs.desc).map (fun d => d.parameters.length) = some 2 := by decide +kernel
theorem plX11_pairs : plainName yX11_pairs.cls = true := by decide +kernel
abbrev mX11_change : ts_M := (yX11_change, cX11_change, 4, (some .int), wsX11_change)
theorem dvX11_change : yX11_change.cls = RX11 ∧ yX11_change.cls ≠ "java/lang/invoke/MethodHandle" ∧ yX11_change.cls ≠ "java/lang/invoke/VarHandle" ∧ (parseMethodDescriptor yX11_change.desc).map (fun d => d.parameters.length) = some 2 := by decide +kernel
theorem plX11_change : plainName yX11_change.cls = true := by decide +kernel
abbrev mX11_power : ts_M := (yX11_power, cX11_power, 2, (some .int), wsX11_power)
theorem dvX11_power : yX11_power.cls = RX11 ∧ yX11_power.cls ≠ "java/lang/invoke/MethodHandle" ∧ yX11_power.cls ≠ "java/lang/invoke/VarHandle" ∧ (parseMethodDescriptor yX11_power.desc).map (fun d => d.parameters.length) = some 1 := by decide +kernel
theorem plX11_power : plainName yX11_power.cls = true := by decide +kernel
abbrev mX11_blocs : ts_M := (yX11_blocs, cX11_blocs, 3, (some .int), wsX11_blocs)
theorem dvX11_blocs : yX11_blocs.cls = RX11 ∧ yX11_blocs.cls ≠ "java/lang/invoke/MethodHandle" ∧ yX11_blocs.cls ≠ "java/lang/invoke/VarHandle" ∧ (parseMethodDescriptor yX11_blocs.desc).map (fun d => d.parameters.length) = some 1 := by decide +kernel
theorem plX11_blocs : plainName yX11_blocs.cls = true := by decide +kernel
abbrev mX11_fits : ts_M := (yX11_fits, cX11_fits, 7, (some .int), wsX11_fits)
theorem dvX11_fits : yX11_fits.cls = RX11 ∧ yX11_fits.cls ≠ "java/lang/invoke/MethodHandle" ∧ yX11_fits.cls ≠ "java/lang/invoke/VarHandle" ∧ (parseMethodDescriptor yX11_fits.desc).map (fun d => d.parameters.length) = some 5 := by decide +kernel
theorem plX11_fits : plainName yX11_fits.cls = true := by decide +kernel
abbrev mX11_chance : ts_M := (yX11_chance, cX11_chance, 9, (some .int), wsX11_chance)
theorem dvX11_chance : yX11_chance.cls = RX11 ∧ yX11_chance.cls ≠ "java/lang/invoke/MethodHandle" ∧ yX11_chance.cls ≠ "java/lang/invoke/VarHandle" ∧ (parseMethodDescriptor yX11_chance.desc).map (fun d => d.parameters.length) = some 5 := by decide +kernel
theorem plX11_chance : plainName yX11_chance.cls = true := by decide +kernel
abbrev mX11_drawn : ts_M := (yX11_drawn, cX11_drawn, 5, (some .int), wsX11_drawn)
theorem dvX11_drawn : yX11_drawn.cls = RX11 ∧ yX11_drawn.cls ≠ "java/lang/invoke/MethodHandle" ∧ yX11_drawn.cls ≠ "java/lang/invoke/VarHandle" ∧ (parseMethodDescriptor yX11_drawn.desc).map (fun d => d.parameters.length) = some 3 := by decide +kernel
theorem plX11_drawn : plainName yX11_drawn.cls = true := by decide +kernel
abbrev mX11_image : ts_M := (yX11_image, cX11_image, 2, (some .int), wsX11_image)
theorem dvX11_image : yX11_image.cls = RX11 ∧ yX11_image.cls ≠ "java/lang/invoke/MethodHandle" ∧ yX11_image.cls ≠ "java/lang/invoke/VarHandle" ∧ (parseMethodDescriptor yX11_image.desc).map (fun d => d.parameters.length) = some 1 := by decide +kernel
theorem plX11_image : plainName yX11_image.cls = true := by decide +kernel
abbrev mX11_restore : ts_M := (yX11_restore, cX11_restore, 2, (some .int), wsX11_restore)
theorem dvX11_restore : yX11_restore.cls = RX11 ∧ yX11_restore.cls ≠ "java/lang/invoke/MethodHandle" ∧ yX11_restore.cls ≠ "java/lang/invoke/VarHandle" ∧ (parseMethodDescriptor yX11_restore.desc).map (fun d => d.parameters.length) = some 1 := by decide +kernel
theorem plX11_restore : plainName yX11_restore.cls = true := by decide +kernel
abbrev mX11_kind : ts_M := (yX11_kind, cX11_kind, 2, (some .int), wsX11_kind)
theorem dvX11_kind : yX11_kind.cls = RX11 ∧ yX11_kind.cls ≠ "java/lang/invoke/MethodHandle" ∧ yX11_kind.cls ≠ "java/lang/invoke/VarHandle" ∧ (parseMethodDescriptor yX11_kind.desc).map (fun d => d.parameters.length) = some 1 := by decide +kernel
theorem plX11_kind : plainName yX11_kind.cls = true := by decide +kernel
abbrev mX11_as : ts_M := (yX11_as, cX11_as, 3, (some .int), wsX11_as)
theorem dvX11_as : yX11_as.cls = RX11 ∧ yX11_as.cls ≠ "java/lang/invoke/MethodHandle" ∧ yX11_as.cls ≠ "java/lang/invoke/VarHandle" ∧ (parseMethodDescriptor yX11_as.desc).map (fun d => d.parameters.length) = some 2 := by decide +kernel
theorem plX11_as : plainName yX11_as.cls = true := by decide +kernel
abbrev mX11_ask : ts_M := (yX11_ask, cX11_ask, 4, (some .int), wsX11_ask)
theorem dvX11_ask : yX11_ask.cls = RX11 ∧ yX11_ask.cls ≠ "java/lang/invoke/MethodHandle" ∧ yX11_ask.cls ≠ "java/lang/invoke/VarHandle" ∧ (parseMethodDescriptor yX11_ask.desc).map (fun d => d.parameters.length) = some 2 := by decide +kernel
theorem plX11_ask : plainName yX11_ask.cls = true := by decide +kernel
abbrev mX11_trace : ts_M := (yX11_trace, cX11_trace, 2, (some .int), wsX11_trace)
theorem dvX11_trace : yX11_trace.cls = RX11 ∧ yX11_trace.cls ≠ "java/lang/invoke/MethodHandle" ∧ yX11_trace.cls ≠ "java/lang/invoke/VarHandle" ∧ (parseMethodDescriptor yX11_trace.desc).map (fun d => d.parameters.length) = some 1 := by decide +kernel
theorem plX11_trace : plainName yX11_trace.cls = true := by decide +kernel
abbrev mX11_count : ts_M := (yX11_count, cX11_count, 2, (some .int), wsX11_count)
theorem dvX11_count : yX11_count.cls = RX11 ∧ yX11_count.cls ≠ "java/lang/invoke/MethodHandle" ∧ yX11_count.cls ≠ "java/lang/invoke/VarHandle" ∧ (parseMethodDescriptor yX11_count.desc).map (fun d => d.parameters.length) = some 1 := by decide +kernel
theorem plX11_count : plainName yX11_count.cls = true := by decide +kernel
abbrev mX11_status : ts_M := (yX11_status, cX11_status, 1, (some .int), wsX11_status)
theorem dvX11_status : yX11_status.cls = RX11 ∧ yX11_status.cls ≠ "java/lang/invoke/MethodHandle" ∧ yX11_status.cls ≠ "java/lang/invoke/VarHandle" ∧ (parseMethodDescriptor yX11_status.desc).map (fun d => d.parameters.length) = some 0 := by decide +kernel
theorem plX11_status : plainName yX11_status.cls = true := by decide +kernel
abbrev mX11_outside : ts_M := (yX11_outside, cX11_outside, 3, (some .boolean), wsX11_outside)
theorem dsX11_outside : yX11_outside.cls ≠ "java/lang/invoke/MethodHandle" ∧ yX11_outside.cls ≠ "java/lang/invoke/VarHandle" ∧ (parseMethodDescriptor yX11_outside.desc).map (fun d => d.parameters.length) = some 3 := by decide +kernel
theorem plX11_outside : plainName yX11_outside.cls = true := by decide +kernel
abbrev mX11_mateToTell : ts_M := (yX11_mateToTell, cX11_mateToTell, 1, (some .int), wsX11_mateToTell)
theorem dsX11_mateToTell : yX11_mateToTell.cls ≠ "java/lang/invoke/MethodHandle" ∧ yX11_mateToTell.cls ≠ "java/lang/invoke/VarHandle" ∧ (parseMethodDescriptor yX11_mateToTell.desc).map (fun d => d.parameters.length) = some 1 := by decide +kernel
theorem plX11_mateToTell : plainName yX11_mateToTell.cls = true := by decide +kernel
abbrev mX11_isRow : ts_M := (yX11_isRow, cX11_isRow, 1, (some .boolean), wsX11_isRow)
theorem dsX11_isRow : yX11_isRow.cls ≠ "java/lang/invoke/MethodHandle" ∧ yX11_isRow.cls ≠ "java/lang/invoke/VarHandle" ∧ (parseMethodDescriptor yX11_isRow.desc).map (fun d => d.parameters.length) = some 1 := by decide +kernel
theorem plX11_isRow : plainName yX11_isRow.cls = true := by decide +kernel
abbrev mX11_isTurnip : ts_M := (yX11_isTurnip, cX11_isTurnip, 2, (some .boolean), wsX11_isTurnip)
theorem dvX11_isTurnip : yX11_isTurnip.cls = RX11 ∧ yX11_isTurnip.cls ≠ "java/lang/invoke/MethodHandle" ∧ yX11_isTurnip.cls ≠ "java/lang/invoke/VarHandle" ∧ (parseMethodDescriptor yX11_isTurnip.desc).map (fun d => d.parameters.length) = some 1 := by decide +kernel
theorem plX11_isTurnip : plainName yX11_isTurnip.cls = true := by decide +kernel
abbrev mX11_found : ts_M := (yX11_found, cX11_found, 2, (some .int), wsX11_found)
theorem dvX11_found : yX11_found.cls = RX11 ∧ yX11_found.cls ≠ "java/lang/invoke/MethodHandle" ∧ yX11_found.cls ≠ "java/lang/invoke/VarHandle" ∧ (parseMethodDescriptor yX11_found.desc).map (fun d => d.parameters.length) = some 1 := by decide +kernel
theorem plX11_found : plainName yX11_found.cls = true := by decide +kernel
abbrev mX11_fine : ts_M := (yX11_fine, cX11_fine, 2, (some .int), wsX11_fine)
theorem dvX11_fine : yX11_fine.cls = RX11 ∧ yX11_fine.cls ≠ "java/lang/invoke/MethodHandle" ∧ yX11_fine.cls ≠ "java/lang/invoke/VarHandle" ∧ (parseMethodDescriptor yX11_fine.desc).map (fun d => d.parameters.length) = some 1 := by decide +kernel
theorem plX11_fine : plainName yX11_fine.cls = true := by decide +kernel
abbrev mX11_rowsThere : ts_M := (yX11_rowsThere, cX11_rowsThere, 3, (some .int), wsX11_rowsThere)
theorem dvX11_rowsThere : yX11_rowsThere.cls = RX11 ∧ yX11_rowsThere.cls ≠ "java/lang/invoke/MethodHandle" ∧ yX11_rowsThere.cls ≠ "java/lang/invoke/VarHandle" ∧ (parseMethodDescriptor yX11_rowsThere.desc).map (fun d => d.parameters.length) = some 0 := by decide +kernel
theorem plX11_rowsThere : plainName yX11_rowsThere.cls = true := by decide +kernel
abbrev mX11_keepAct : ts_M := (yX11_keepAct, cX11_keepAct, 1, none, wsX11_keepAct)
theorem dvX11_keepAct : yX11_keepAct.cls = RX11 ∧ yX11_keepAct.cls ≠ "java/lang/invoke/MethodHandle" ∧ yX11_keepAct.cls ≠ "java/lang/invoke/VarHandle" ∧ (parseMethodDescriptor yX11_keepAct.desc).map (fun d => d.parameters.length) = some 0 := by decide +kernel
theorem plX11_keepAct : plainName yX11_keepAct.cls = true := by decide +kernel
abbrev mX12_init : ts_M := (yX12_init, cX12_init, 2, none, wsX12_init)
theorem dsX12_init : yX12_init.cls ≠ "java/lang/invoke/MethodHandle" ∧ yX12_init.cls ≠ "java/lang/invoke/VarHandle" ∧ (parseMethodDescriptor yX12_init.desc).map (fun d => d.parameters.length) = some 0 := by decide +kernel
theorem plX12_init : plainName yX12_init.cls = true := by decide +kernel
abbrev mX12_in : ts_M := (yX12_in, cX12_in, 3, (some .boolean), wsX12_in)
theorem dsX12_in : yX12_in.cls ≠ "java/lang/invoke/MethodHandle" ∧ yX12_in.cls ≠ "java/lang/invoke/VarHandle" ∧ (parseMethodDescriptor yX12_in.desc).map (fun d => d.parameters.length) = some 3 := by decide +kernel
theorem plX12_in : plainName yX12_in.cls = true := by decide +kernel
abbrev mX12_has : ts_M := (yX12_has, cX12_has, 2, (some .boolean), wsX12_has)
theorem dsX12_has : yX12_has.cls ≠ "java/lang/invoke/MethodHandle" ∧ yX12_has.cls ≠ "java/lang/invoke/VarHandle" ∧ (parseMethodDescriptor yX12_has.desc).map (fun d => d.parameters.length) = some 2 := by decide +kernel
theorem plX12_has : plainName yX12_has.cls = true := by decide +kernel
abbrev mX12_ones : ts_M := (yX12_ones, cX12_ones, 3, (some .int), wsX12_ones)
theorem dsX12_ones : yX12_ones.cls ≠ "java/lang/invoke/MethodHandle" ∧ yX12_ones.cls ≠ "java/lang/invoke/VarHandle" ∧ (parseMethodDescriptor yX12_ones.desc).map (fun d => d.parameters.length) = some 1 := by decide +kernel
theorem plX12_ones : plainName yX12_ones.cls = true := by decide +kernel
abbrev mX12_found : ts_M := (yX12_found, cX12_found, 2, (some .int), wsX12_found)
theorem dvX12_found : yX12_found.cls = RX12 ∧ yX12_found.cls ≠ "java/lang/invoke/MethodHandle" ∧ yX12_found.cls ≠ "java/lang/invoke/VarHandle" ∧ (parseMethodDescriptor yX12_found.desc).map (fun d => d.parameters.length) = some 1 := by decide +kernel
theorem plX12_found : plainName yX12_found.cls = true := by decide +kernel
abbrev mX12_well : ts_M := (yX12_well, cX12_well, 2, (some .int), wsX12_well)
theorem dvX12_well : yX12_well.cls = RX12 ∧ yX12_well.cls ≠ "java/lang/invoke/MethodHandle" ∧ yX12_well.cls ≠ "java/lang/invoke/VarHandle" ∧ (parseMethodDescriptor yX12_well.desc).map (fun d => d.parameters.length) = some 1 := by decide +kernel
theorem plX12_well : plainName yX12_well.cls = true := by decide +kernel
abbrev mX12_copies : ts_M := (yX12_copies, cX12_copies, 5, none, wsX12_copies)
theorem dsX12_copies : yX12_copies.cls ≠ "java/lang/invoke/MethodHandle" ∧ yX12_copies.cls ≠ "java/lang/invoke/VarHandle" ∧ (parseMethodDescriptor yX12_copies.desc).map (fun d => d.parameters.length) = some 4 := by decide +kernel
theorem plX12_copies : plainName yX12_copies.cls = true := by decide +kernel
abbrev mX12_isRow : ts_M := (yX12_isRow, cX12_isRow, 1, (some .boolean), wsX12_isRow)
theorem dsX12_isRow : yX12_isRow.cls ≠ "java/lang/invoke/MethodHandle" ∧ yX12_isRow.cls ≠ "java/lang/invoke/VarHandle" ∧ (parseMethodDescriptor yX12_isRow.desc).map (fun d => d.parameters.length) = some 1 := by decide +kernel
theorem plX12_isRow : plainName yX12_isRow.cls = true := by decide +kernel
abbrev mX12_isMissing : ts_M := (yX12_isMissing, cX12_isMissing, 2, (some .boolean), wsX12_isMissing)
theorem dvX12_isMissing : yX12_isMissing.cls = RX12 ∧ yX12_isMissing.cls ≠ "java/lang/invoke/MethodHandle" ∧ yX12_isMissing.cls ≠ "java/lang/invoke/VarHandle" ∧ (parseMethodDescriptor yX12_isMissing.desc).map (fun d => d.parameters.length) = some 1 := by decide +kernel
theorem plX12_isMissing : plainName yX12_isMissing.cls = true := by decide +kernel
abbrev mX12_cut : ts_M := (yX12_cut, cX12_cut, 2, (some .int), wsX12_cut)
theorem dsX12_cut : yX12_cut.cls ≠ "java/lang/invoke/MethodHandle" ∧ yX12_cut.cls ≠ "java/lang/invoke/VarHandle" ∧ (parseMethodDescriptor yX12_cut.desc).map (fun d => d.parameters.length) = some 2 := by decide +kernel
theorem plX12_cut : plainName yX12_cut.cls = true := by decide +kernel
abbrev mX12_row : ts_M := (yX12_row, cX12_row, 5, (some .int), wsX12_row)
theorem dvX12_row : yX12_row.cls = RX12 ∧ yX12_row.cls ≠ "java/lang/invoke/MethodHandle" ∧ yX12_row.cls ≠ "java/lang/invoke/VarHandle" ∧ (parseMethodDescriptor yX12_row.desc).map (fun d => d.parameters.length) = some 3 := by decide +kernel
theorem plX12_row : plainName yX12_row.cls = true := by decide +kernel
abbrev mX12_set : ts_M := (yX12_set, cX12_set, 4, (some .int), wsX12_set)
theorem dvX12_set : yX12_set.cls = RX12 ∧ yX12_set.cls ≠ "java/lang/invoke/MethodHandle" ∧ yX12_set.cls ≠ "java/lang/invoke/VarHandle" ∧ (parseMethodDescriptor yX12_set.desc).map (fun d => d.parameters.length) = some 3 := by decide +kernel
theorem plX12_set : plainName yX12_set.cls = true := by decide +kernel
abbrev mX12_isPart : ts_M := (yX12_isPart, cX12_isPart, 4, (some .boolean), wsX12_isPart)
theorem dvX12_isPart : yX12_isPart.cls = RX12 ∧ yX12_isPart.cls ≠ "java/lang/invoke/MethodHandle" ∧ yX12_isPart.cls ≠ "java/lang/invoke/VarHandle" ∧ (parseMethodDescriptor yX12_isPart.desc).map (fun d => d.parameters.length) = some 3 := by decide +kernel
theorem plX12_isPart : plainName yX12_isPart.cls = true := by decide +kernel
abbrev mX12_copy : ts_M := (yX12_copy, cX12_copy, 7, (some .int), wsX12_copy)
theorem dvX12_copy : yX12_copy.cls = RX12 ∧ yX12_copy.cls ≠ "java/lang/invoke/MethodHandle" ∧ yX12_copy.cls ≠ "java/lang/invoke/VarHandle" ∧ (parseMethodDescriptor yX12_copy.desc).map (fun d => d.parameters.length) = some 5 := by decide +kernel
theorem plX12_copy : plainName yX12_copy.cls = true := by decide +kernel
abbrev mX12_drop : ts_M := (yX12_drop, cX12_drop, 2, (some .int), wsX12_drop)
theorem dvX12_drop : yX12_drop.cls = RX12 ∧ yX12_drop.cls ≠ "java/lang/invoke/MethodHandle" ∧ yX12_drop.cls ≠ "java/lang/invoke/VarHandle" ∧ (parseMethodDescriptor yX12_drop.desc).map (fun d => d.parameters.length) = some 1 := by decide +kernel
theorem plX12_drop : plainName yX12_drop.cls = true := by decide +kernel
abbrev mX12_feed : ts_M := (yX12_feed, cX12_feed, 2, (some .int), wsX12_feed)
theorem dvX12_feed : yX12_feed.cls = RX12 ∧ yX12_feed.cls ≠ "java/lang/invoke/MethodHandle" ∧ yX12_feed.cls ≠ "java/lang/invoke/VarHandle" ∧ (parseMethodDescriptor yX12_feed.desc).map (fun d => d.parameters.length) = some 1 := by decide +kernel
theorem plX12_feed : plainName yX12_feed.cls = true := by decide +kernel
abbrev mX12_byteAt : ts_M := (yX12_byteAt, cX12_byteAt, 2, (some .int), wsX12_byteAt)
theorem dvX12_byteAt : yX12_byteAt.cls = RX12 ∧ yX12_byteAt.cls ≠ "java/lang/invoke/MethodHandle" ∧ yX12_byteAt.cls ≠ "java/lang/invoke/VarHandle" ∧ (parseMethodDescriptor yX12_byteAt.desc).map (fun d => d.parameters.length) = some 1 := by decide +kernel
theorem plX12_byteAt : plainName yX12_byteAt.cls = true := by decide +kernel
abbrev mX12_advances : ts_M := (yX12_advances, cX12_advances, 2, none, wsX12_advances)
theorem dvX12_advances : yX12_advances.cls = RX12 ∧ yX12_advances.cls ≠ "java/lang/invoke/MethodHandle" ∧ yX12_advances.cls ≠ "java/lang/invoke/VarHandle" ∧ (parseMethodDescriptor yX12_advances.desc).map (fun d => d.parameters.length) = some 0 := by decide +kernel
theorem plX12_advances : plainName yX12_advances.cls = true := by decide +kernel
abbrev mX12_isWell : ts_M := (yX12_isWell, cX12_isWell, 1, (some .boolean), wsX12_isWell)
theorem dvX12_isWell : yX12_isWell.cls = RX12 ∧ yX12_isWell.cls ≠ "java/lang/invoke/MethodHandle" ∧ yX12_isWell.cls ≠ "java/lang/invoke/VarHandle" ∧ (parseMethodDescriptor yX12_isWell.desc).map (fun d => d.parameters.length) = some 0 := by decide +kernel
theorem plX12_isWell : plainName yX12_isWell.cls = true := by decide +kernel
abbrev mX12_takes : ts_M := (yX12_takes, cX12_takes, 4, (some .int), wsX12_takes)
theorem dvX12_takes : yX12_takes.cls = RX12 ∧ yX12_takes.cls ≠ "java/lang/invoke/MethodHandle" ∧ yX12_takes.cls ≠ "java/lang/invoke/VarHandle" ∧ (parseMethodDescriptor yX12_takes.desc).map (fun d => d.parameters.length) = some 2 := by decide +kernel
theorem plX12_takes : plainName yX12_takes.cls = true := by decide +kernel
abbrev mX12_figure : ts_M := (yX12_figure, cX12_figure, 3, (some .int), wsX12_figure)
theorem dvX12_figure : yX12_figure.cls = RX12 ∧ yX12_figure.cls ≠ "java/lang/invoke/MethodHandle" ∧ yX12_figure.cls ≠ "java/lang/invoke/VarHandle" ∧ (parseMethodDescriptor yX12_figure.desc).map (fun d => d.parameters.length) = some 2 := by decide +kernel
theorem plX12_figure : plainName yX12_figure.cls = true := by decide +kernel
abbrev mX12_kindOf : ts_M := (yX12_kindOf, cX12_kindOf, 1, (some .int), wsX12_kindOf)
theorem dsX12_kindOf : yX12_kindOf.cls ≠ "java/lang/invoke/MethodHandle" ∧ yX12_kindOf.cls ≠ "java/lang/invoke/VarHandle" ∧ (parseMethodDescriptor yX12_kindOf.desc).map (fun d => d.parameters.length) = some 1 := by decide +kernel
theorem plX12_kindOf : plainName yX12_kindOf.cls = true := by decide +kernel
abbrev mX12_follows : ts_M := (yX12_follows, cX12_follows, 3, (some .int), wsX12_follows)
theorem dvX12_follows : yX12_follows.cls = RX12 ∧ yX12_follows.cls ≠ "java/lang/invoke/MethodHandle" ∧ yX12_follows.cls ≠ "java/lang/invoke/VarHandle" ∧ (parseMethodDescriptor yX12_follows.desc).map (fun d => d.parameters.length) = some 2 := by decide +kernel
theorem plX12_follows : plainName yX12_follows.cls = true := by decide +kernel
abbrev mX12_readsTurnip : ts_M := (yX12_readsTurnip, cX12_readsTurnip, 6, none, wsX12_readsTurnip)
theorem dvX12_readsTurnip : yX12_readsTurnip.cls = RX12 ∧ yX12_readsTurnip.cls ≠ "java/lang/invoke/MethodHandle" ∧ yX12_readsTurnip.cls ≠ "java/lang/invoke/VarHandle" ∧ (parseMethodDescriptor yX12_readsTurnip.desc).map (fun d => d.parameters.length) = some 0 := by decide +kernel
theorem plX12_readsTurnip : plainName yX12_readsTurnip.cls = true := by decide +kernel
abbrev mX12_must : ts_M := (yX12_must, cX12_must, 2, none, wsX12_must)
theorem dvX12_must : yX12_must.cls = RX12 ∧ yX12_must.cls ≠ "java/lang/invoke/MethodHandle" ∧ yX12_must.cls ≠ "java/lang/invoke/VarHandle" ∧ (parseMethodDescriptor yX12_must.desc).map (fun d => d.parameters.length) = some 1 := by decide +kernel
theorem plX12_must : plainName yX12_must.cls = true := by decide +kernel
abbrev mX12_field : ts_M := (yX12_field, cX12_field, 2, (some .int), wsX12_field)
theorem dvX12_field : yX12_field.cls = RX12 ∧ yX12_field.cls ≠ "java/lang/invoke/MethodHandle" ∧ yX12_field.cls ≠ "java/lang/invoke/VarHandle" ∧ (parseMethodDescriptor yX12_field.desc).map (fun d => d.parameters.length) = some 0 := by decide +kernel
theorem plX12_field : plainName yX12_field.cls = true := by decide +kernel
abbrev mX12_fault : ts_M := (yX12_fault, cX12_fault, 1, (some .int), wsX12_fault)
theorem dvX12_fault : yX12_fault.cls = RX12 ∧ yX12_fault.cls ≠ "java/lang/invoke/MethodHandle" ∧ yX12_fault.cls ≠ "java/lang/invoke/VarHandle" ∧ (parseMethodDescriptor yX12_fault.desc).map (fun d => d.parameters.length) = some 0 := by decide +kernel
theorem plX12_fault : plainName yX12_fault.cls = true := by decide +kernel
abbrev mX12_isField : ts_M := (yX12_isField, cX12_isField, 1, (some .boolean), wsX12_isField)
theorem dvX12_isField : yX12_isField.cls = RX12 ∧ yX12_isField.cls ≠ "java/lang/invoke/MethodHandle" ∧ yX12_isField.cls ≠ "java/lang/invoke/VarHandle" ∧ (parseMethodDescriptor yX12_isField.desc).map (fun d => d.parameters.length) = some 0 := by decide +kernel
theorem plX12_isField : plainName yX12_isField.cls = true := by decide +kernel
abbrev mX12_isTurnip : ts_M := (yX12_isTurnip, cX12_isTurnip, 2, (some .boolean), wsX12_isTurnip)
theorem dvX12_isTurnip : yX12_isTurnip.cls = RX12 ∧ yX12_isTurnip.cls ≠ "java/lang/invoke/MethodHandle" ∧ yX12_isTurnip.cls ≠ "java/lang/invoke/VarHandle" ∧ (parseMethodDescriptor yX12_isTurnip.desc).map (fun d => d.parameters.length) = some 1 := by decide +kernel
theorem plX12_isTurnip : plainName yX12_isTurnip.cls = true := by decide +kernel
abbrev mX12_inPlace : ts_M := (yX12_inPlace, cX12_inPlace, 3, (some .int), wsX12_inPlace)
theorem dsX12_inPlace : yX12_inPlace.cls ≠ "java/lang/invoke/MethodHandle" ∧ yX12_inPlace.cls ≠ "java/lang/invoke/VarHandle" ∧ (parseMethodDescriptor yX12_inPlace.desc).map (fun d => d.parameters.length) = some 2 := by decide +kernel
theorem plX12_inPlace : plainName yX12_inPlace.cls = true := by decide +kernel
abbrev mX12_isHigher : ts_M := (yX12_isHigher, cX12_isHigher, 4, (some .boolean), wsX12_isHigher)
theorem dsX12_isHigher : yX12_isHigher.cls ≠ "java/lang/invoke/MethodHandle" ∧ yX12_isHigher.cls ≠ "java/lang/invoke/VarHandle" ∧ (parseMethodDescriptor yX12_isHigher.desc).map (fun d => d.parameters.length) = some 3 := by decide +kernel
theorem plX12_isHigher : plainName yX12_isHigher.cls = true := by decide +kernel
abbrev mX12_higherBeside : ts_M := (yX12_higherBeside, cX12_higherBeside, 3, (some .int), wsX12_higherBeside)
theorem dsX12_higherBeside : yX12_higherBeside.cls ≠ "java/lang/invoke/MethodHandle" ∧ yX12_higherBeside.cls ≠ "java/lang/invoke/VarHandle" ∧ (parseMethodDescriptor yX12_higherBeside.desc).map (fun d => d.parameters.length) = some 2 := by decide +kernel
theorem plX12_higherBeside : plainName yX12_higherBeside.cls = true := by decide +kernel
abbrev mX12_gainOf : ts_M := (yX12_gainOf, cX12_gainOf, 4, (some .int), wsX12_gainOf)
theorem dsX12_gainOf : yX12_gainOf.cls ≠ "java/lang/invoke/MethodHandle" ∧ yX12_gainOf.cls ≠ "java/lang/invoke/VarHandle" ∧ (parseMethodDescriptor yX12_gainOf.desc).map (fun d => d.parameters.length) = some 2 := by decide +kernel
theorem plX12_gainOf : plainName yX12_gainOf.cls = true := by decide +kernel
abbrev mX12_gain : ts_M := (yX12_gain, cX12_gain, 4, (some .int), wsX12_gain)
theorem dsX12_gain : yX12_gain.cls ≠ "java/lang/invoke/MethodHandle" ∧ yX12_gain.cls ≠ "java/lang/invoke/VarHandle" ∧ (parseMethodDescriptor yX12_gain.desc).map (fun d => d.parameters.length) = some 2 := by decide +kernel
theorem plX12_gain : plainName yX12_gain.cls = true := by decide +kernel
abbrev mX12_grows : ts_M := (yX12_grows, cX12_grows, 4, none, wsX12_grows)
theorem dsX12_grows : yX12_grows.cls ≠ "java/lang/invoke/MethodHandle" ∧ yX12_grows.cls ≠ "java/lang/invoke/VarHandle" ∧ (parseMethodDescriptor yX12_grows.desc).map (fun d => d.parameters.length) = some 3 := by decide +kernel
theorem plX12_grows : plainName yX12_grows.cls = true := by decide +kernel
abbrev mX12_passes : ts_M := (yX12_passes, cX12_passes, 3, none, wsX12_passes)
theorem dvX12_passes : yX12_passes.cls = RX12 ∧ yX12_passes.cls ≠ "java/lang/invoke/MethodHandle" ∧ yX12_passes.cls ≠ "java/lang/invoke/VarHandle" ∧ (parseMethodDescriptor yX12_passes.desc).map (fun d => d.parameters.length) = some 1 := by decide +kernel
theorem plX12_passes : plainName yX12_passes.cls = true := by decide +kernel
abbrev mX12_sumOf : ts_M := (yX12_sumOf, cX12_sumOf, 4, (some .int), wsX12_sumOf)
theorem dsX12_sumOf : yX12_sumOf.cls ≠ "java/lang/invoke/MethodHandle" ∧ yX12_sumOf.cls ≠ "java/lang/invoke/VarHandle" ∧ (parseMethodDescriptor yX12_sumOf.desc).map (fun d => d.parameters.length) = some 2 := by decide +kernel
theorem plX12_sumOf : plainName yX12_sumOf.cls = true := by decide +kernel
abbrev mX12_changes : ts_M := (yX12_changes, cX12_changes, 4, none, wsX12_changes)
theorem dsX12_changes : yX12_changes.cls ≠ "java/lang/invoke/MethodHandle" ∧ yX12_changes.cls ≠ "java/lang/invoke/VarHandle" ∧ (parseMethodDescriptor yX12_changes.desc).map (fun d => d.parameters.length) = some 3 := by decide +kernel
theorem plX12_changes : plainName yX12_changes.cls = true := by decide +kernel
abbrev mX12_married : ts_M := (yX12_married, cX12_married, 3, (some .int), wsX12_married)
theorem dvX12_married : yX12_married.cls = RX12 ∧ yX12_married.cls ≠ "java/lang/invoke/MethodHandle" ∧ yX12_married.cls ≠ "java/lang/invoke/VarHandle" ∧ (parseMethodDescriptor yX12_married.desc).map (fun d => d.parameters.length) = some 0 := by decide +kernel
theorem plX12_married : plainName yX12_married.cls = true := by decide +kernel
abbrev mX12_notes : ts_M := (yX12_notes, cX12_notes, 2, none, wsX12_notes)
theorem dvX12_notes : yX12_notes.cls = RX12 ∧ yX12_notes.cls ≠ "java/lang/invoke/MethodHandle" ∧ yX12_notes.cls ≠ "java/lang/invoke/VarHandle" ∧ (parseMethodDescriptor yX12_notes.desc).map (fun d => d.parameters.length) = some 0 := by decide +kernel
theorem plX12_notes : plainName yX12_notes.cls = true := by decide +kernel
abbrev mX12_years : ts_M := (yX12_years, cX12_years, 3, (some .int), wsX12_years)
theorem dvX12_years : yX12_years.cls = RX12 ∧ yX12_years.cls ≠ "java/lang/invoke/MethodHandle" ∧ yX12_years.cls ≠ "java/lang/invoke/VarHandle" ∧ (parseMethodDescriptor yX12_years.desc).map (fun d => d.parameters.length) = some 1 := by decide +kernel
theorem plX12_years : plainName yX12_years.cls = true := by decide +kernel
abbrev mX12_marry : ts_M := (yX12_marry, cX12_marry, 3, (some .int), wsX12_marry)
theorem dvX12_marry : yX12_marry.cls = RX12 ∧ yX12_marry.cls ≠ "java/lang/invoke/MethodHandle" ∧ yX12_marry.cls ≠ "java/lang/invoke/VarHandle" ∧ (parseMethodDescriptor yX12_marry.desc).map (fun d => d.parameters.length) = some 2 := by decide +kernel
theorem plX12_marry : plainName yX12_marry.cls = true := by decide +kernel
abbrev mX12_part : ts_M := (yX12_part, cX12_part, 3, (some .int), wsX12_part)
theorem dvX12_part : yX12_part.cls = RX12 ∧ yX12_part.cls ≠ "java/lang/invoke/MethodHandle" ∧ yX12_part.cls ≠ "java/lang/invoke/VarHandle" ∧ (parseMethodDescriptor yX12_part.desc).map (fun d => d.parameters.length) = some 1 := by decide +kernel
theorem plX12_part : plainName yX12_part.cls = true := by decide +kernel
abbrev mX12_swap : ts_M := (yX12_swap, cX12_swap, 3, (some .int), wsX12_swap)
theorem dvX12_swap : yX12_swap.cls = RX12 ∧ yX12_swap.cls ≠ "java/lang/invoke/MethodHandle" ∧ yX12_swap.cls ≠ "java/lang/invoke/VarHandle" ∧ (parseMethodDescriptor yX12_swap.desc).map (fun d => d.parameters.length) = some 2 := by decide +kernel
theorem plX12_swap : plainName yX12_swap.cls = true := by decide +kernel
abbrev mX12_lean : ts_M := (yX12_lean, cX12_lean, 2, (some .int), wsX12_lean)
theorem dvX12_lean : yX12_lean.cls = RX12 ∧ yX12_lean.cls ≠ "java/lang/invoke/MethodHandle" ∧ yX12_lean.cls ≠ "java/lang/invoke/VarHandle" ∧ (parseMethodDescriptor yX12_lean.desc).map (fun d => d.parameters.length) = some 1 := by decide +kernel
theorem plX12_lean : plainName yX12_lean.cls = true := by decide +kernel
abbrev mX12_ground : ts_M := (yX12_ground, cX12_ground, 3, (some .int), wsX12_ground)
theorem dvX12_ground : yX12_ground.cls = RX12 ∧ yX12_ground.cls ≠ "java/lang/invoke/MethodHandle" ∧ yX12_ground.cls ≠ "java/lang/invoke/VarHandle" ∧ (parseMethodDescriptor yX12_ground.desc).map (fun d => d.parameters.length) = some 1 := by decide +kernel
theorem plX12_ground : plainName yX12_ground.cls = true := by decide +kernel
abbrev mX12_undo : ts_M := (yX12_undo, cX12_undo, 1, (some .int), wsX12_undo)
theorem dvX12_undo : yX12_undo.cls = RX12 ∧ yX12_undo.cls ≠ "java/lang/invoke/MethodHandle" ∧ yX12_undo.cls ≠ "java/lang/invoke/VarHandle" ∧ (parseMethodDescriptor yX12_undo.desc).map (fun d => d.parameters.length) = some 0 := by decide +kernel
theorem plX12_undo : plainName yX12_undo.cls = true := by decide +kernel
abbrev mX12_turnip : ts_M := (yX12_turnip, cX12_turnip, 3, (some .int), wsX12_turnip)
theorem dvX12_turnip : yX12_turnip.cls = RX12 ∧ yX12_turnip.cls ≠ "java/lang/invoke/MethodHandle" ∧ yX12_turnip.cls ≠ "java/lang/invoke/VarHandle" ∧ (parseMethodDescriptor yX12_turnip.desc).map (fun d => d.parameters.length) = some 2 := by decide +kernel
theorem plX12_turnip : plainName yX12_turnip.cls = true := by decide +kernel
abbrev mX12_place : ts_M := (yX12_place, cX12_place, 2, (some .int), wsX12_place)
theorem dvX12_place : yX12_place.cls = RX12 ∧ yX12_place.cls ≠ "java/lang/invoke/MethodHandle" ∧ yX12_place.cls ≠ "java/lang/invoke/VarHandle" ∧ (parseMethodDescriptor yX12_place.desc).map (fun d => d.parameters.length) = some 1 := by decide +kernel
theorem plX12_place : plainName yX12_place.cls = true := by decide +kernel
abbrev mX12_goesOn : ts_M := (yX12_goesOn, cX12_goesOn, 3, none, wsX12_goesOn)
theorem dvX12_goesOn : yX12_goesOn.cls = RX12 ∧ yX12_goesOn.cls ≠ "java/lang/invoke/MethodHandle" ∧ yX12_goesOn.cls ≠ "java/lang/invoke/VarHandle" ∧ (parseMethodDescriptor yX12_goesOn.desc).map (fun d => d.parameters.length) = some 1 := by decide +kernel
theorem plX12_goesOn : plainName yX12_goesOn.cls = true := by decide +kernel
abbrev mX12_ahead : ts_M := (yX12_ahead, cX12_ahead, 4, (some .int), wsX12_ahead)
theorem dvX12_ahead : yX12_ahead.cls = RX12 ∧ yX12_ahead.cls ≠ "java/lang/invoke/MethodHandle" ∧ yX12_ahead.cls ≠ "java/lang/invoke/VarHandle" ∧ (parseMethodDescriptor yX12_ahead.desc).map (fun d => d.parameters.length) = some 3 := by decide +kernel
theorem plX12_ahead : plainName yX12_ahead.cls = true := by decide +kernel
abbrev mX12_risen : ts_M := (yX12_risen, cX12_risen, 4, (some .int), wsX12_risen)
theorem dvX12_risen : yX12_risen.cls = RX12 ∧ yX12_risen.cls ≠ "java/lang/invoke/MethodHandle" ∧ yX12_risen.cls ≠ "java/lang/invoke/VarHandle" ∧ (parseMethodDescriptor yX12_risen.desc).map (fun d => d.parameters.length) = some 2 := by decide +kernel
theorem plX12_risen : plainName yX12_risen.cls = true := by decide +kernel
abbrev mX12_squire : ts_M := (yX12_squire, cX12_squire, 4, (some .int), wsX12_squire)
theorem dvX12_squire : yX12_squire.cls = RX12 ∧ yX12_squire.cls ≠ "java/lang/invoke/MethodHandle" ∧ yX12_squire.cls ≠ "java/lang/invoke/VarHandle" ∧ (parseMethodDescriptor yX12_squire.desc).map (fun d => d.parameters.length) = some 1 := by decide +kernel
theorem plX12_squire : plainName yX12_squire.cls = true := by decide +kernel
abbrev mX12_isFree : ts_M := (yX12_isFree, cX12_isFree, 5, (some .boolean), wsX12_isFree)
theorem dvX12_isFree : yX12_isFree.cls = RX12 ∧ yX12_isFree.cls ≠ "java/lang/invoke/MethodHandle" ∧ yX12_isFree.cls ≠ "java/lang/invoke/VarHandle" ∧ (parseMethodDescriptor yX12_isFree.desc).map (fun d => d.parameters.length) = some 2 := by decide +kernel
theorem plX12_isFree : plainName yX12_isFree.cls = true := by decide +kernel
abbrev mX12_marries : ts_M := (yX12_marries, cX12_marries, 5, (some .boolean), wsX12_marries)
theorem dvX12_marries : yX12_marries.cls = RX12 ∧ yX12_marries.cls ≠ "java/lang/invoke/MethodHandle" ∧ yX12_marries.cls ≠ "java/lang/invoke/VarHandle" ∧ (parseMethodDescriptor yX12_marries.desc).map (fun d => d.parameters.length) = some 0 := by decide +kernel
theorem plX12_marries : plainName yX12_marries.cls = true := by decide +kernel
abbrev mX12_pairs : ts_M := (yX12_pairs, cX12_pairs, 7, (some .int), wsX12_pairs)
theorem dvX12_pairs : yX12_pairs.cls = RX12 ∧ yX12_pairs.cls ≠ "java/lang/invoke/MethodHandle" ∧ yX12_pairs.cls ≠ "java/lang/invoke/VarHandle" ∧ (parseMethodDescriptor yX12_pairs.desc).map (fun d => d.parameters.length) = some 2 := by decide +kernel
theorem plX12_pairs : plainName yX12_pairs.cls = true := by decide +kernel
abbrev mX12_change : ts_M := (yX12_change, cX12_change, 8, (some .int), wsX12_change)
theorem dvX12_change : yX12_change.cls = RX12 ∧ yX12_change.cls ≠ "java/lang/invoke/MethodHandle" ∧ yX12_change.cls ≠ "java/lang/invoke/VarHandle" ∧ (parseMethodDescriptor yX12_change.desc).map (fun d => d.parameters.length) = some 2 := by decide +kernel
theorem plX12_change : plainName yX12_change.cls = true := by decide +kernel
abbrev mX12_wins : ts_M := (yX12_wins, cX12_wins, 4, (some .boolean), wsX12_wins)
theorem dvX12_wins : yX12_wins.cls = RX12 ∧ yX12_wins.cls ≠ "java/lang/invoke/MethodHandle" ∧ yX12_wins.cls ≠ "java/lang/invoke/VarHandle" ∧ (parseMethodDescriptor yX12_wins.desc).map (fun d => d.parameters.length) = some 1 := by decide +kernel
theorem plX12_wins : plainName yX12_wins.cls = true := by decide +kernel
abbrev mX12_power : ts_M := (yX12_power, cX12_power, 4, (some .int), wsX12_power)
theorem dvX12_power : yX12_power.cls = RX12 ∧ yX12_power.cls ≠ "java/lang/invoke/MethodHandle" ∧ yX12_power.cls ≠ "java/lang/invoke/VarHandle" ∧ (parseMethodDescriptor yX12_power.desc).map (fun d => d.parameters.length) = some 1 := by decide +kernel
theorem plX12_power : plainName yX12_power.cls = true := by decide +kernel
abbrev mX12_blocs : ts_M := (yX12_blocs, cX12_blocs, 4, (some .int), wsX12_blocs)
theorem dvX12_blocs : yX12_blocs.cls = RX12 ∧ yX12_blocs.cls ≠ "java/lang/invoke/MethodHandle" ∧ yX12_blocs.cls ≠ "java/lang/invoke/VarHandle" ∧ (parseMethodDescriptor yX12_blocs.desc).map (fun d => d.parameters.length) = some 1 := by decide +kernel
theorem plX12_blocs : plainName yX12_blocs.cls = true := by decide +kernel
abbrev mX12_risesSo : ts_M := (yX12_risesSo, cX12_risesSo, 8, (some .boolean), wsX12_risesSo)
theorem dvX12_risesSo : yX12_risesSo.cls = RX12 ∧ yX12_risesSo.cls ≠ "java/lang/invoke/MethodHandle" ∧ yX12_risesSo.cls ≠ "java/lang/invoke/VarHandle" ∧ (parseMethodDescriptor yX12_risesSo.desc).map (fun d => d.parameters.length) = some 5 := by decide +kernel
theorem plX12_risesSo : plainName yX12_risesSo.cls = true := by decide +kernel
abbrev mX12_fits : ts_M := (yX12_fits, cX12_fits, 11, (some .int), wsX12_fits)
theorem dvX12_fits : yX12_fits.cls = RX12 ∧ yX12_fits.cls ≠ "java/lang/invoke/MethodHandle" ∧ yX12_fits.cls ≠ "java/lang/invoke/VarHandle" ∧ (parseMethodDescriptor yX12_fits.desc).map (fun d => d.parameters.length) = some 5 := by decide +kernel
theorem plX12_fits : plainName yX12_fits.cls = true := by decide +kernel
abbrev mX12_chance : ts_M := (yX12_chance, cX12_chance, 11, (some .int), wsX12_chance)
theorem dvX12_chance : yX12_chance.cls = RX12 ∧ yX12_chance.cls ≠ "java/lang/invoke/MethodHandle" ∧ yX12_chance.cls ≠ "java/lang/invoke/VarHandle" ∧ (parseMethodDescriptor yX12_chance.desc).map (fun d => d.parameters.length) = some 5 := by decide +kernel
theorem plX12_chance : plainName yX12_chance.cls = true := by decide +kernel
abbrev mX12_drawn : ts_M := (yX12_drawn, cX12_drawn, 9, (some .int), wsX12_drawn)
theorem dvX12_drawn : yX12_drawn.cls = RX12 ∧ yX12_drawn.cls ≠ "java/lang/invoke/MethodHandle" ∧ yX12_drawn.cls ≠ "java/lang/invoke/VarHandle" ∧ (parseMethodDescriptor yX12_drawn.desc).map (fun d => d.parameters.length) = some 3 := by decide +kernel
theorem plX12_drawn : plainName yX12_drawn.cls = true := by decide +kernel
abbrev mX12_image : ts_M := (yX12_image, cX12_image, 2, (some .int), wsX12_image)
theorem dvX12_image : yX12_image.cls = RX12 ∧ yX12_image.cls ≠ "java/lang/invoke/MethodHandle" ∧ yX12_image.cls ≠ "java/lang/invoke/VarHandle" ∧ (parseMethodDescriptor yX12_image.desc).map (fun d => d.parameters.length) = some 1 := by decide +kernel
theorem plX12_image : plainName yX12_image.cls = true := by decide +kernel
abbrev mX12_restore : ts_M := (yX12_restore, cX12_restore, 2, (some .int), wsX12_restore)
theorem dvX12_restore : yX12_restore.cls = RX12 ∧ yX12_restore.cls ≠ "java/lang/invoke/MethodHandle" ∧ yX12_restore.cls ≠ "java/lang/invoke/VarHandle" ∧ (parseMethodDescriptor yX12_restore.desc).map (fun d => d.parameters.length) = some 1 := by decide +kernel
theorem plX12_restore : plainName yX12_restore.cls = true := by decide +kernel
abbrev mX12_kindIn : ts_M := (yX12_kindIn, cX12_kindIn, 2, (some .int), wsX12_kindIn)
theorem dvX12_kindIn : yX12_kindIn.cls = RX12 ∧ yX12_kindIn.cls ≠ "java/lang/invoke/MethodHandle" ∧ yX12_kindIn.cls ≠ "java/lang/invoke/VarHandle" ∧ (parseMethodDescriptor yX12_kindIn.desc).map (fun d => d.parameters.length) = some 1 := by decide +kernel
theorem plX12_kindIn : plainName yX12_kindIn.cls = true := by decide +kernel
abbrev mX12_kind : ts_M := (yX12_kind, cX12_kind, 2, (some .int), wsX12_kind)
theorem dvX12_kind : yX12_kind.cls = RX12 ∧ yX12_kind.cls ≠ "java/lang/invoke/MethodHandle" ∧ yX12_kind.cls ≠ "java/lang/invoke/VarHandle" ∧ (parseMethodDescriptor yX12_kind.desc).map (fun d => d.parameters.length) = some 1 := by decide +kernel
theorem plX12_kind : plainName yX12_kind.cls = true := by decide +kernel
abbrev mX12_as : ts_M := (yX12_as, cX12_as, 5, (some .int), wsX12_as)
theorem dvX12_as : yX12_as.cls = RX12 ∧ yX12_as.cls ≠ "java/lang/invoke/MethodHandle" ∧ yX12_as.cls ≠ "java/lang/invoke/VarHandle" ∧ (parseMethodDescriptor yX12_as.desc).map (fun d => d.parameters.length) = some 2 := by decide +kernel
theorem plX12_as : plainName yX12_as.cls = true := by decide +kernel
abbrev mX12_begins : ts_M := (yX12_begins, cX12_begins, 2, none, wsX12_begins)
theorem dvX12_begins : yX12_begins.cls = RX12 ∧ yX12_begins.cls ≠ "java/lang/invoke/MethodHandle" ∧ yX12_begins.cls ≠ "java/lang/invoke/VarHandle" ∧ (parseMethodDescriptor yX12_begins.desc).map (fun d => d.parameters.length) = some 1 := by decide +kernel
theorem plX12_begins : plainName yX12_begins.cls = true := by decide +kernel
abbrev mX12_plainMark : ts_M := (yX12_plainMark, cX12_plainMark, 4, (some .int), wsX12_plainMark)
theorem dvX12_plainMark : yX12_plainMark.cls = RX12 ∧ yX12_plainMark.cls ≠ "java/lang/invoke/MethodHandle" ∧ yX12_plainMark.cls ≠ "java/lang/invoke/VarHandle" ∧ (parseMethodDescriptor yX12_plainMark.desc).map (fun d => d.parameters.length) = some 1 := by decide +kernel
theorem plX12_plainMark : plainName yX12_plainMark.cls = true := by decide +kernel
abbrev mX12_fellowSize : ts_M := (yX12_fellowSize, cX12_fellowSize, 4, (some .int), wsX12_fellowSize)
theorem dvX12_fellowSize : yX12_fellowSize.cls = RX12 ∧ yX12_fellowSize.cls ≠ "java/lang/invoke/MethodHandle" ∧ yX12_fellowSize.cls ≠ "java/lang/invoke/VarHandle" ∧ (parseMethodDescriptor yX12_fellowSize.desc).map (fun d => d.parameters.length) = some 1 := by decide +kernel
theorem plX12_fellowSize : plainName yX12_fellowSize.cls = true := by decide +kernel
abbrev mX12_plainSize : ts_M := (yX12_plainSize, cX12_plainSize, 4, (some .int), wsX12_plainSize)
theorem dvX12_plainSize : yX12_plainSize.cls = RX12 ∧ yX12_plainSize.cls ≠ "java/lang/invoke/MethodHandle" ∧ yX12_plainSize.cls ≠ "java/lang/invoke/VarHandle" ∧ (parseMethodDescriptor yX12_plainSize.desc).map (fun d => d.parameters.length) = some 1 := by decide +kernel
theorem plX12_plainSize : plainName yX12_plainSize.cls = true := by decide +kernel
abbrev mX12_fellowMark : ts_M := (yX12_fellowMark, cX12_fellowMark, 2, (some .int), wsX12_fellowMark)
theorem dvX12_fellowMark : yX12_fellowMark.cls = RX12 ∧ yX12_fellowMark.cls ≠ "java/lang/invoke/MethodHandle" ∧ yX12_fellowMark.cls ≠ "java/lang/invoke/VarHandle" ∧ (parseMethodDescriptor yX12_fellowMark.desc).map (fun d => d.parameters.length) = some 1 := by decide +kernel
theorem plX12_fellowMark : plainName yX12_fellowMark.cls = true := by decide +kernel
abbrev mX12_ask : ts_M := (yX12_ask, cX12_ask, 4, (some .int), wsX12_ask)
theorem dvX12_ask : yX12_ask.cls = RX12 ∧ yX12_ask.cls ≠ "java/lang/invoke/MethodHandle" ∧ yX12_ask.cls ≠ "java/lang/invoke/VarHandle" ∧ (parseMethodDescriptor yX12_ask.desc).map (fun d => d.parameters.length) = some 2 := by decide +kernel
theorem plX12_ask : plainName yX12_ask.cls = true := by decide +kernel
abbrev mX12_trace : ts_M := (yX12_trace, cX12_trace, 2, (some .int), wsX12_trace)
theorem dvX12_trace : yX12_trace.cls = RX12 ∧ yX12_trace.cls ≠ "java/lang/invoke/MethodHandle" ∧ yX12_trace.cls ≠ "java/lang/invoke/VarHandle" ∧ (parseMethodDescriptor yX12_trace.desc).map (fun d => d.parameters.length) = some 1 := by decide +kernel
theorem plX12_trace : plainName yX12_trace.cls = true := by decide +kernel
abbrev mX12_count : ts_M := (yX12_count, cX12_count, 4, (some .int), wsX12_count)
theorem dvX12_count : yX12_count.cls = RX12 ∧ yX12_count.cls ≠ "java/lang/invoke/MethodHandle" ∧ yX12_count.cls ≠ "java/lang/invoke/VarHandle" ∧ (parseMethodDescriptor yX12_count.desc).map (fun d => d.parameters.length) = some 1 := by decide +kernel
theorem plX12_count : plainName yX12_count.cls = true := by decide +kernel
abbrev mX12_status : ts_M := (yX12_status, cX12_status, 1, (some .int), wsX12_status)
theorem dvX12_status : yX12_status.cls = RX12 ∧ yX12_status.cls ≠ "java/lang/invoke/MethodHandle" ∧ yX12_status.cls ≠ "java/lang/invoke/VarHandle" ∧ (parseMethodDescriptor yX12_status.desc).map (fun d => d.parameters.length) = some 0 := by decide +kernel
theorem plX12_status : plainName yX12_status.cls = true := by decide +kernel
abbrev mJ6_bitCount_0f7a4 : ts_M := (yJ6_bitCount_0f7a4, cJ6_bitCount_0f7a4, 1, (some .int), wsJ6_bitCount_0f7a4)
theorem dsJ6_bitCount_0f7a4 : yJ6_bitCount_0f7a4.cls ≠ "java/lang/invoke/MethodHandle" ∧ yJ6_bitCount_0f7a4.cls ≠ "java/lang/invoke/VarHandle" ∧ (parseMethodDescriptor yJ6_bitCount_0f7a4.desc).map (fun d => d.parameters.length) = some 1 := by decide +kernel
theorem plJ6_bitCount_0f7a4 : plainName yJ6_bitCount_0f7a4.cls = true := by decide +kernel
abbrev mJ9_min_7cf53 : ts_M := (yJ9_min_7cf53, cJ9_min_7cf53, 2, (some .int), wsJ9_min_7cf53)
theorem dvJ9_min_7cf53 : yJ9_min_7cf53.cls = RJ9 ∧ yJ9_min_7cf53.cls ≠ "java/lang/invoke/MethodHandle" ∧ yJ9_min_7cf53.cls ≠ "java/lang/invoke/VarHandle" ∧ (parseMethodDescriptor yJ9_min_7cf53.desc).map (fun d => d.parameters.length) = some 2 := by decide +kernel
abbrev mJ7_fill_53178 : ts_M := (yJ7_fill_53178, cJ7_fill_53178, 4, none, wsJ7_fill_53178)
theorem dsJ7_fill_53178 : yJ7_fill_53178.cls ≠ "java/lang/invoke/MethodHandle" ∧ yJ7_fill_53178.cls ≠ "java/lang/invoke/VarHandle" ∧ (parseMethodDescriptor yJ7_fill_53178.desc).map (fun d => d.parameters.length) = some 2 := by decide +kernel
theorem plJ7_fill_53178 : plainName yJ7_fill_53178.cls = true := by decide +kernel
theorem dxoX2_gainIn : "TurnipSquires$Kind" ≠ "java/lang/invoke/MethodHandle" ∧ "TurnipSquires$Kind" ≠ "java/lang/invoke/VarHandle" ∧ (parseMethodDescriptor (⟨"TurnipSquires$Kind", "gainIn", "(LTurnipSquires$Field;IZ)I"⟩ : MethodName).desc).map (fun d => d.parameters.length) = some 3 := by decide +kernel
theorem dxoX2_isA : "TurnipSquires$Kind" ≠ "java/lang/invoke/MethodHandle" ∧ "TurnipSquires$Kind" ≠ "java/lang/invoke/VarHandle" ∧ (parseMethodDescriptor (⟨"TurnipSquires$Kind", "isA", "(I)Z"⟩ : MethodName).desc).map (fun d => d.parameters.length) = some 1 := by decide +kernel
theorem dxoX2_size : "TurnipSquires$Kind" ≠ "java/lang/invoke/MethodHandle" ∧ "TurnipSquires$Kind" ≠ "java/lang/invoke/VarHandle" ∧ (parseMethodDescriptor (⟨"TurnipSquires$Kind", "size", "(LTurnipSquires$Field;ILTurnipSquires$Trace;)I"⟩ : MethodName).desc).map (fun d => d.parameters.length) = some 3 := by decide +kernel
theorem dxoX2_mark : "TurnipSquires$Kind" ≠ "java/lang/invoke/MethodHandle" ∧ "TurnipSquires$Kind" ≠ "java/lang/invoke/VarHandle" ∧ (parseMethodDescriptor (⟨"TurnipSquires$Kind", "mark", "(LTurnipSquires$Field;ILTurnipSquires$Trace;)I"⟩ : MethodName).desc).map (fun d => d.parameters.length) = some 3 := by decide +kernel
theorem dxoX4_mark : "TurnipSquires$Plain" ≠ "java/lang/invoke/MethodHandle" ∧ "TurnipSquires$Plain" ≠ "java/lang/invoke/VarHandle" ∧ (parseMethodDescriptor (⟨"TurnipSquires$Plain", "mark", "(LTurnipSquires$Field;ILTurnipSquires$Trace;)I"⟩ : MethodName).desc).map (fun d => d.parameters.length) = some 3 := by decide +kernel
theorem dxoX0_size : "TurnipSquires$Fellow" ≠ "java/lang/invoke/MethodHandle" ∧ "TurnipSquires$Fellow" ≠ "java/lang/invoke/VarHandle" ∧ (parseMethodDescriptor (⟨"TurnipSquires$Fellow", "size", "(LTurnipSquires$Field;ILTurnipSquires$Trace;)I"⟩ : MethodName).desc).map (fun d => d.parameters.length) = some 3 := by decide +kernel
