theorem xwn_1123 : Cond.methodLinkNest RX10 115 yX11_roundUp "AirMail" ∈ xNw := List.mem_append_left _ (List.mem_filter.mpr ⟨xin_5 _ (List.mem_of_getElem? (i := 46) (by decide +kernel)), rfl⟩)
theorem xwn_1192 : Cond.methodLinkNest RX8 43 yX11_within "AirMail" ∈ xNw := List.mem_append_left _ (List.mem_filter.mpr ⟨xin_5 _ (List.mem_of_getElem? (i := 115) (by decide +kernel)), rfl⟩)
theorem xwn_1248 : Cond.methodLinkNest RX3 44 yX11_within "AirMail" ∈ xNw := List.mem_append_left _ (List.mem_filter.mpr ⟨xin_5 _ (List.mem_of_getElem? (i := 171) (by decide +kernel)), rfl⟩)
theorem xwn_1432 : Cond.methodLinkNest RX7 31 yX11_roundUp "AirMail" ∈ xNw := List.mem_append_left _ (List.mem_filter.mpr ⟨xin_6 _ (List.mem_of_getElem? (i := 115) (by decide +kernel)), rfl⟩)
theorem xwo_159 : Cond.arrayOver (.object "AirMail$Leg") ∈ xNw := List.mem_append_left _ (List.mem_filter.mpr ⟨xin_1 _ (List.mem_of_getElem? (i := 42) (by decide +kernel)), rfl⟩)
theorem xwo_294 : Cond.arrayOver (.object "AirMail$Plane") ∈ xNw := List.mem_append_left _ (List.mem_filter.mpr ⟨xin_1 _ (List.mem_of_getElem? (i := 177) (by decide +kernel)), rfl⟩)
theorem xwo_296 : Cond.arrayOver (.object "AirMail$Pilot") ∈ xNw := List.mem_append_left _ (List.mem_filter.mpr ⟨xin_1 _ (List.mem_of_getElem? (i := 179) (by decide +kernel)), rfl⟩)
theorem xwo_298 : Cond.arrayOver (.object "AirMail$Bag") ∈ xNw := List.mem_append_left _ (List.mem_filter.mpr ⟨xin_1 _ (List.mem_of_getElem? (i := 181) (by decide +kernel)), rfl⟩)
theorem xwo_300 : Cond.arrayOver (.object "AirMail$Flight") ∈ xNw := List.mem_append_left _ (List.mem_filter.mpr ⟨xin_1 _ (List.mem_of_getElem? (i := 183) (by decide +kernel)), rfl⟩)
theorem xu_0 : ∀ w ∈ u_ws RX0 TX0 12, w ∈ xT := by
  show ∀ w ∈ [(.laysFinal RX0 RX0 "from" "I" : Cond), (.laysFinal RX0 RX0 "to" "I" : Cond), (.laysFinal RX0 RX0 "weight" "I" : Cond), (.laysFinal RX0 RX0 "kind" "I" : Cond), (.laysFinal RX0 RX0 "due" "I" : Cond), (.lays RX0 RX0 "field" "I" : Cond), (.lays RX0 RX0 "plane" "I" : Cond), (.lays RX0 RX0 "trainAt" "I" : Cond), (.lays RX0 RX0 "given" "I" : Cond), (.laysFinal RX0 RX0 "steps" "[I" : Cond), (.lays RX0 RX0 "stepCount" "I" : Cond), (.lays RX0 RX0 "kept" "LAirMail$Bag;" : Cond)], w ∈ xT
  exact List.forall_mem_cons.mpr ⟨xw_780, List.forall_mem_cons.mpr ⟨xw_782, List.forall_mem_cons.mpr ⟨xw_784, List.forall_mem_cons.mpr ⟨xw_786, List.forall_mem_cons.mpr ⟨xw_788, List.forall_mem_cons.mpr ⟨xw_790, List.forall_mem_cons.mpr ⟨xw_792, List.forall_mem_cons.mpr ⟨xw_794, List.forall_mem_cons.mpr ⟨xw_796, List.forall_mem_cons.mpr ⟨xw_798, List.forall_mem_cons.mpr ⟨xw_800, List.forall_mem_cons.mpr ⟨xw_802, (fun _ h => absurd h List.not_mem_nil)⟩⟩⟩⟩⟩⟩⟩⟩⟩⟩⟩⟩
theorem xcl_0 : xCl 0 RX0 TX0 12 tyX0 := ⟨rfl, xu_0, tyX0_ok, nmX0⟩
theorem xu_1 : ∀ w ∈ u_ws RX1 TX1 11, w ∈ xT := by
  show ∀ w ∈ [(.laysFinal RX1 RX1 "plane" "I" : Cond), (.laysFinal RX1 RX1 "pilot" "I" : Cond), (.laysFinal RX1 RX1 "leg" "I" : Cond), (.laysFinal RX1 RX1 "quarter" "I" : Cond), (.lays RX1 RX1 "state" "I" : Cond), (.lays RX1 RX1 "started" "I" : Cond), (.lays RX1 RX1 "ended" "I" : Cond), (.lays RX1 RX1 "from" "I" : Cond), (.lays RX1 RX1 "lineAtStart" "I" : Cond), (.lays RX1 RX1 "lineAloft" "I" : Cond), (.lays RX1 RX1 "kept" "LAirMail$Flight;" : Cond)], w ∈ xT
  exact List.forall_mem_cons.mpr ⟨xw_1072, List.forall_mem_cons.mpr ⟨xw_1074, List.forall_mem_cons.mpr ⟨xw_1076, List.forall_mem_cons.mpr ⟨xw_1078, List.forall_mem_cons.mpr ⟨xw_1080, List.forall_mem_cons.mpr ⟨xw_1082, List.forall_mem_cons.mpr ⟨xw_1084, List.forall_mem_cons.mpr ⟨xw_1086, List.forall_mem_cons.mpr ⟨xw_1088, List.forall_mem_cons.mpr ⟨xw_1090, List.forall_mem_cons.mpr ⟨xw_1092, (fun _ h => absurd h List.not_mem_nil)⟩⟩⟩⟩⟩⟩⟩⟩⟩⟩⟩
theorem xcl_1 : xCl 1 RX1 TX1 11 tyX1 := ⟨rfl, xu_1, tyX1_ok, nmX1⟩
theorem xu_2 : ∀ w ∈ u_ws RX2 TX2 12, w ∈ xT := by
  show ∀ w ∈ [(.laysFinal RX2 RX2 "heights" "[I" : Cond), (.laysFinal RX2 RX2 "lit" "[Z" : Cond), (.laysFinal RX2 RX2 "spares" "[I" : Cond), (.lays RX2 RX2 "fieldCount" "I" : Cond), (.laysFinal RX2 RX2 "legs" "[LAirMail$Leg;" : Cond), (.lays RX2 RX2 "legCount" "I" : Cond), (.lays RX2 RX2 "told" "I" : Cond), (.laysFinal RX2 RX2 "between" "[I" : Cond), (.laysFinal RX2 RX2 "toldLeg" "[I" : Cond), (.laysFinal RX2 RX2 "toldQuarter" "[I" : Cond), (.laysFinal RX2 RX2 "toldCloud" "[I" : Cond), (.laysFinal RX2 RX2 "toldWind" "[I" : Cond)], w ∈ xT
  exact List.forall_mem_cons.mpr ⟨xw_184, List.forall_mem_cons.mpr ⟨xw_186, List.forall_mem_cons.mpr ⟨xw_188, List.forall_mem_cons.mpr ⟨xw_190, List.forall_mem_cons.mpr ⟨xw_192, List.forall_mem_cons.mpr ⟨xw_194, List.forall_mem_cons.mpr ⟨xw_196, List.forall_mem_cons.mpr ⟨xw_198, List.forall_mem_cons.mpr ⟨xw_200, List.forall_mem_cons.mpr ⟨xw_202, List.forall_mem_cons.mpr ⟨xw_204, List.forall_mem_cons.mpr ⟨xw_206, (fun _ h => absurd h List.not_mem_nil)⟩⟩⟩⟩⟩⟩⟩⟩⟩⟩⟩⟩
theorem xcl_2 : xCl 2 RX2 TX2 12 tyX2 := ⟨rfl, xu_2, tyX2_ok, nmX2⟩
theorem xu_3 : ∀ w ∈ u_ws RX3 TX3 7, w ∈ xT := by
  show ∀ w ∈ [(.laysFinal RX3 RX3 "first" "I" : Cond), (.laysFinal RX3 RX3 "second" "I" : Cond), (.laysFinal RX3 RX3 "miles" "I" : Cond), (.laysFinal RX3 RX3 "pass" "I" : Cond), (.lays RX3 RX3 "groundCount" "I" : Cond), (.laysFinal RX3 RX3 "groundMile" "[I" : Cond), (.laysFinal RX3 RX3 "groundRough" "[I" : Cond)], w ∈ xT
  exact List.forall_mem_cons.mpr ⟨xw_521, List.forall_mem_cons.mpr ⟨xw_523, List.forall_mem_cons.mpr ⟨xw_525, List.forall_mem_cons.mpr ⟨xw_527, List.forall_mem_cons.mpr ⟨xw_529, List.forall_mem_cons.mpr ⟨xw_531, List.forall_mem_cons.mpr ⟨xw_533, (fun _ h => absurd h List.not_mem_nil)⟩⟩⟩⟩⟩⟩⟩
theorem xcl_3 : xCl 3 RX3 TX3 7 tyX3 := ⟨rfl, xu_3, tyX3_ok, nmX3⟩
theorem xu_4 : ∀ w ∈ u_ws RX4 TX4 10, w ∈ xT := by
  show ∀ w ∈ [(.laysFinal RX4 RX4 "code" "[I" : Cond), (.lays RX4 RX4 "length" "I" : Cond), (.laysFinal RX4 RX4 "held" "[I" : Cond), (.lays RX4 RX4 "heldCount" "I" : Cond), (.laysFinal RX4 RX4 "compared" "[Z" : Cond), (.lays RX4 RX4 "depth" "I" : Cond), (.lays RX4 RX4 "digits" "I" : Cond), (.lays RX4 RX4 "openChoices" "I" : Cond), (.lays RX4 RX4 "kind" "I" : Cond), (.lays RX4 RX4 "state" "I" : Cond)], w ∈ xT
  exact List.forall_mem_cons.mpr ⟨xw_425, List.forall_mem_cons.mpr ⟨xw_427, List.forall_mem_cons.mpr ⟨xw_429, List.forall_mem_cons.mpr ⟨xw_431, List.forall_mem_cons.mpr ⟨xw_433, List.forall_mem_cons.mpr ⟨xw_435, List.forall_mem_cons.mpr ⟨xw_437, List.forall_mem_cons.mpr ⟨xw_439, List.forall_mem_cons.mpr ⟨xw_441, List.forall_mem_cons.mpr ⟨xw_443, (fun _ h => absurd h List.not_mem_nil)⟩⟩⟩⟩⟩⟩⟩⟩⟩⟩
theorem xcl_4 : xCl 4 RX4 TX4 10 tyX4 := ⟨rfl, xu_4, tyX4_ok, nmX4⟩
theorem xu_5 : ∀ w ∈ u_ws RX5 TX5 5, w ∈ xT := by
  show ∀ w ∈ [(.lays RX5 RX5 "field" "I" : Cond), (.lays RX5 RX5 "plane" "I" : Cond), (.lays RX5 RX5 "flown" "I" : Cond), (.lays RX5 RX5 "knows" "I" : Cond), (.lays RX5 RX5 "kept" "LAirMail$Pilot;" : Cond)], w ∈ xT
  exact List.forall_mem_cons.mpr ⟨xw_724, List.forall_mem_cons.mpr ⟨xw_726, List.forall_mem_cons.mpr ⟨xw_728, List.forall_mem_cons.mpr ⟨xw_730, List.forall_mem_cons.mpr ⟨xw_732, (fun _ h => absurd h List.not_mem_nil)⟩⟩⟩⟩⟩
theorem xcl_5 : xCl 5 RX5 TX5 5 tyX5 := ⟨rfl, xu_5, tyX5_ok, nmX5⟩
theorem xu_6 : ∀ w ∈ u_ws RX6 TX6 21, w ∈ xT := by
  show ∀ w ∈ [(.laysFinal RX6 RX6 "speed" "I" : Cond), (.laysFinal RX6 RX6 "lift" "I" : Cond), (.laysFinal RX6 RX6 "top" "I" : Cond), (.laysFinal RX6 RX6 "tankSize" "I" : Cond), (.laysFinal RX6 RX6 "gear" "Z" : Cond), (.lays RX6 RX6 "used" "I" : Cond), (.lays RX6 RX6 "due" "I" : Cond), (.lays RX6 RX6 "fails" "I" : Cond), (.lays RX6 RX6 "field" "I" : Cond), (.lays RX6 RX6 "leg" "I" : Cond), (.lays RX6 RX6 "mile" "I" : Cond), (.lays RX6 RX6 "forward" "Z" : Cond), (.lays RX6 RX6 "down" "Z" : Cond), (.lays RX6 RX6 "hurt" "I" : Cond), (.lays RX6 RX6 "ready" "I" : Cond), (.lays RX6 RX6 "tank" "I" : Cond), (.lays RX6 RX6 "pilot" "I" : Cond), (.lays RX6 RX6 "flight" "I" : Cond), (.lays RX6 RX6 "lookCount" "I" : Cond), (.laysFinal RX6 RX6 "looks" "[I" : Cond), (.lays RX6 RX6 "kept" "LAirMail$Plane;" : Cond)], w ∈ xT
  exact List.forall_mem_cons.mpr ⟨xw_651, List.forall_mem_cons.mpr ⟨xw_653, List.forall_mem_cons.mpr ⟨xw_655, List.forall_mem_cons.mpr ⟨xw_657, List.forall_mem_cons.mpr ⟨xw_659, List.forall_mem_cons.mpr ⟨xw_661, List.forall_mem_cons.mpr ⟨xw_663, List.forall_mem_cons.mpr ⟨xw_665, List.forall_mem_cons.mpr ⟨xw_667, List.forall_mem_cons.mpr ⟨xw_669, List.forall_mem_cons.mpr ⟨xw_671, List.forall_mem_cons.mpr ⟨xw_673, List.forall_mem_cons.mpr ⟨xw_675, List.forall_mem_cons.mpr ⟨xw_677, List.forall_mem_cons.mpr ⟨xw_679, List.forall_mem_cons.mpr ⟨xw_681, List.forall_mem_cons.mpr ⟨xw_683, List.forall_mem_cons.mpr ⟨xw_685, List.forall_mem_cons.mpr ⟨xw_687, List.forall_mem_cons.mpr ⟨xw_689, List.forall_mem_cons.mpr ⟨xw_691, (fun _ h => absurd h List.not_mem_nil)⟩⟩⟩⟩⟩⟩⟩⟩⟩⟩⟩⟩⟩⟩⟩⟩⟩⟩⟩⟩⟩
theorem xcl_6 : xCl 6 RX6 TX6 21 tyX6 := ⟨rfl, xu_6, tyX6_ok, nmX6⟩
theorem xu_7 : ∀ w ∈ u_ws RX7 TX7 5, w ∈ xT := by
  show ∀ w ∈ [(.laysFinal RX7 RX7 "needing" "[I" : Cond), (.laysFinal RX7 RX7 "from" "[I" : Cond), (.lays RX7 RX7 "count" "I" : Cond), (.laysFinal RX7 RX7 "prices" "[J" : Cond), (.laysFinal RX7 RX7 "least" "[J" : Cond)], w ∈ xT
  exact List.forall_mem_cons.mpr ⟨xw_395, List.forall_mem_cons.mpr ⟨xw_397, List.forall_mem_cons.mpr ⟨xw_399, List.forall_mem_cons.mpr ⟨xw_401, List.forall_mem_cons.mpr ⟨xw_403, (fun _ h => absurd h List.not_mem_nil)⟩⟩⟩⟩⟩
theorem xcl_7 : xCl 7 RX7 TX7 5 tyX7 := ⟨rfl, xu_7, tyX7_ok, nmX7⟩
theorem xu_8 : ∀ w ∈ u_ws RX8 TX8 8, w ∈ xT := by
  show ∀ w ∈ [(.lays RX8 RX8 "count" "I" : Cond), (.lays RX8 RX8 "line" "I" : Cond), (.laysFinal RX8 RX8 "letters" "[I" : Cond), (.laysFinal RX8 RX8 "kinds" "[I" : Cond), (.laysFinal RX8 RX8 "froms" "[I" : Cond), (.laysFinal RX8 RX8 "lengths" "[I" : Cond), (.laysFinal RX8 RX8 "codes" "[I" : Cond), (.laysFinal RX8 RX8 "stack" "[I" : Cond)], w ∈ xT
  exact List.forall_mem_cons.mpr ⟨xw_276, List.forall_mem_cons.mpr ⟨xw_278, List.forall_mem_cons.mpr ⟨xw_280, List.forall_mem_cons.mpr ⟨xw_282, List.forall_mem_cons.mpr ⟨xw_284, List.forall_mem_cons.mpr ⟨xw_286, List.forall_mem_cons.mpr ⟨xw_288, List.forall_mem_cons.mpr ⟨xw_290, (fun _ h => absurd h List.not_mem_nil)⟩⟩⟩⟩⟩⟩⟩⟩
theorem xcl_8 : xCl 8 RX8 TX8 8 tyX8 := ⟨rfl, xu_8, tyX8_ok, nmX8⟩
theorem xu_9 : ∀ w ∈ u_ws RX9 TX9 9, w ∈ xT := by
  show ∀ w ∈ [(.lays RX9 RX9 "lag" "I" : Cond), (.lays RX9 RX9 "count" "I" : Cond), (.laysFinal RX9 RX9 "seen" "[I" : Cond), (.laysFinal RX9 RX9 "cloud" "[I" : Cond), (.laysFinal RX9 RX9 "wind" "[I" : Cond), (.laysFinal RX9 RX9 "legs" "[I" : Cond), (.laysFinal RX9 RX9 "fields" "[I" : Cond), (.laysFinal RX9 RX9 "cameAt" "[I" : Cond), (.laysFinal RX9 RX9 "elsewhereAt" "[I" : Cond)], w ∈ xT
  exact List.forall_mem_cons.mpr ⟨xw_241, List.forall_mem_cons.mpr ⟨xw_243, List.forall_mem_cons.mpr ⟨xw_245, List.forall_mem_cons.mpr ⟨xw_247, List.forall_mem_cons.mpr ⟨xw_249, List.forall_mem_cons.mpr ⟨xw_251, List.forall_mem_cons.mpr ⟨xw_253, List.forall_mem_cons.mpr ⟨xw_255, List.forall_mem_cons.mpr ⟨xw_257, (fun _ h => absurd h List.not_mem_nil)⟩⟩⟩⟩⟩⟩⟩⟩⟩
theorem xcl_9 : xCl 9 RX9 TX9 9 tyX9 := ⟨rfl, xu_9, tyX9_ok, nmX9⟩
theorem xu_10 : ∀ w ∈ u_ws RX10 TX10 20, w ∈ xT := by
  show ∀ w ∈ [(.laysFinal RX10 RX10 "land" "LAirMail$Land;" : Cond), (.laysFinal RX10 RX10 "words" "LAirMail$Words;" : Cond), (.laysFinal RX10 RX10 "rules" "LAirMail$Texts;" : Cond), (.laysFinal RX10 RX10 "laws" "LAirMail$Texts;" : Cond), (.laysFinal RX10 RX10 "planes" "[LAirMail$Plane;" : Cond), (.lays RX10 RX10 "planeCount" "I" : Cond), (.laysFinal RX10 RX10 "pilots" "[LAirMail$Pilot;" : Cond), (.lays RX10 RX10 "pilotCount" "I" : Cond), (.laysFinal RX10 RX10 "bags" "[LAirMail$Bag;" : Cond), (.lays RX10 RX10 "bagCount" "I" : Cond), (.laysFinal RX10 RX10 "order" "[I" : Cond), (.laysFinal RX10 RX10 "flights" "[LAirMail$Flight;" : Cond), (.lays RX10 RX10 "flightCount" "I" : Cond), (.lays RX10 RX10 "now" "I" : Cond), (.lays RX10 RX10 "spent" "I" : Cond), (.lays RX10 RX10 "glide" "I" : Cond), (.lays RX10 RX10 "rate" "I" : Cond), (.lays RX10 RX10 "keptNow" "I" : Cond), (.lays RX10 RX10 "keptSpent" "I" : Cond), (.lays RX10 RX10 "keptWords" "I" : Cond)], w ∈ xT
  exact List.forall_mem_cons.mpr ⟨xw_340, List.forall_mem_cons.mpr ⟨xw_342, List.forall_mem_cons.mpr ⟨xw_344, List.forall_mem_cons.mpr ⟨xw_346, List.forall_mem_cons.mpr ⟨xw_348, List.forall_mem_cons.mpr ⟨xw_350, List.forall_mem_cons.mpr ⟨xw_352, List.forall_mem_cons.mpr ⟨xw_354, List.forall_mem_cons.mpr ⟨xw_356, List.forall_mem_cons.mpr ⟨xw_358, List.forall_mem_cons.mpr ⟨xw_360, List.forall_mem_cons.mpr ⟨xw_362, List.forall_mem_cons.mpr ⟨xw_364, List.forall_mem_cons.mpr ⟨xw_366, List.forall_mem_cons.mpr ⟨xw_368, List.forall_mem_cons.mpr ⟨xw_370, List.forall_mem_cons.mpr ⟨xw_372, List.forall_mem_cons.mpr ⟨xw_374, List.forall_mem_cons.mpr ⟨xw_376, List.forall_mem_cons.mpr ⟨xw_378, (fun _ h => absurd h List.not_mem_nil)⟩⟩⟩⟩⟩⟩⟩⟩⟩⟩⟩⟩⟩⟩⟩⟩⟩⟩⟩⟩
theorem xcl_10 : xCl 10 RX10 TX10 20 tyX10 := ⟨rfl, xu_10, tyX10_ok, nmX10⟩
theorem xu_11 : ∀ w ∈ u_ws RX11 TX11 9, w ∈ xT := by
  show ∀ w ∈ [(.laysFinal RX11 RX11 "land" "LAirMail$Land;" : Cond), (.laysFinal RX11 RX11 "world" "LAirMail$World;" : Cond), (.laysFinal RX11 RX11 "depot" "LAirMail$Spares;" : Cond), (.laysFinal RX11 RX11 "parser" "LAirMail$Parser;" : Cond), (.laysFinal RX11 RX11 "weights" "[J" : Cond), (.laysFinal RX11 RX11 "signs" "[I" : Cond), (.lays RX11 RX11 "signCount" "I" : Cond), (.laysFinal RX11 RX11 "numbers" "[I" : Cond), (.lays RX11 RX11 "numberCount" "I" : Cond)], w ∈ xT
  exact List.forall_mem_cons.mpr ⟨xw_455, List.forall_mem_cons.mpr ⟨xw_457, List.forall_mem_cons.mpr ⟨xw_459, List.forall_mem_cons.mpr ⟨xw_461, List.forall_mem_cons.mpr ⟨xw_463, List.forall_mem_cons.mpr ⟨xw_465, List.forall_mem_cons.mpr ⟨xw_467, List.forall_mem_cons.mpr ⟨xw_469, List.forall_mem_cons.mpr ⟨xw_471, (fun _ h => absurd h List.not_mem_nil)⟩⟩⟩⟩⟩⟩⟩⟩⟩
theorem xcl_11 : xCl 11 RX11 TX11 9 tyX11 := ⟨rfl, xu_11, tyX11_ok, nmX11⟩
theorem xu_12 : ∀ w ∈ u_ws RX12 TX12 64, w ∈ xT := by
  show ∀ w ∈ [(.laysFinal RX12 RX12 "height" "[I" : Cond), (.lays RX12 RX12 "fields" "I" : Cond), (.laysFinal RX12 RX12 "legA" "[I" : Cond), (.laysFinal RX12 RX12 "legB" "[I" : Cond), (.laysFinal RX12 RX12 "miles" "[I" : Cond), (.laysFinal RX12 RX12 "pass" "[I" : Cond), (.laysFinal RX12 RX12 "groundMile" "[I" : Cond), (.laysFinal RX12 RX12 "groundRough" "[I" : Cond), (.laysFinal RX12 RX12 "groundMany" "[I" : Cond), (.lays RX12 RX12 "legs" "I" : Cond), (.laysFinal RX12 RX12 "far" "[I" : Cond), (.laysFinal RX12 RX12 "skyLeg" "[I" : Cond), (.laysFinal RX12 RX12 "skyFrom" "[I" : Cond), (.laysFinal RX12 RX12 "skyCloud" "[I" : Cond), (.laysFinal RX12 RX12 "skyWind" "[I" : Cond), (.lays RX12 RX12 "skies" "I" : Cond), (.laysFinal RX12 RX12 "speed" "[I" : Cond), (.laysFinal RX12 RX12 "lift" "[I" : Cond), (.laysFinal RX12 RX12 "top" "[I" : Cond), (.laysFinal RX12 RX12 "tanks" "[I" : Cond), (.laysFinal RX12 RX12 "gear" "[Z" : Cond), (.lays RX12 RX12 "planes" "I" : Cond), (.lays RX12 RX12 "pilots" "I" : Cond), (.laysFinal RX12 RX12 "bagFrom" "[I" : Cond), (.laysFinal RX12 RX12 "bagTo" "[I" : Cond), (.laysFinal RX12 RX12 "weight" "[I" : Cond), (.laysFinal RX12 RX12 "kind" "[I" : Cond), (.laysFinal RX12 RX12 "due" "[I" : Cond), (.lays RX12 RX12 "bags" "I" : Cond), (.laysFinal RX12 RX12 "flightPlane" "[I" : Cond), (.laysFinal RX12 RX12 "flightPilot" "[I" : Cond), (.laysFinal RX12 RX12 "flightLeg" "[I" : Cond), (.laysFinal RX12 RX12 "flightAt" "[I" : Cond), (.lays RX12 RX12 "flights" "I" : Cond), (.lays RX12 RX12 "lag" "I" : Cond), (.lays RX12 RX12 "glide" "I" : Cond), (.lays RX12 RX12 "rate" "I" : Cond), (.laysFinal RX12 RX12 "texts" "[B" : Cond), (.laysFinal RX12 RX12 "textSize" "[I" : Cond), (.laysFinal RX12 RX12 "textKind" "[I" : Cond), (.laysFinal RX12 RX12 "textFrom" "[I" : Cond), (.lays RX12 RX12 "rules" "I" : Cond), (.lays RX12 RX12 "laws" "I" : Cond), (.laysFinal RX12 RX12 "text" "[B" : Cond), (.lays RX12 RX12 "typed" "I" : Cond), (.laysFinal RX12 RX12 "row" "[I" : Cond), (.lays RX12 RX12 "rowMany" "I" : Cond), (.lays RX12 RX12 "thrown" "I" : Cond), (.laysFinal RX12 RX12 "w" "[I" : Cond), (.laysFinal RX12 RX12 "aside" "[I" : Cond), (.lays RX12 RX12 "signs" "[B" : Cond), (.lays RX12 RX12 "first" "I" : Cond), (.lays RX12 RX12 "size" "I" : Cond), (.lays RX12 RX12 "place" "I" : Cond), (.lays RX12 RX12 "wrong" "I" : Cond), (.lays RX12 RX12 "names" "Ljava/lang/String;" : Cond), (.laysFinal RX12 RX12 "numbers" "[I" : Cond), (.lays RX12 RX12 "line" "I" : Cond), (.laysFinal RX12 RX12 "needy" "[I" : Cond), (.lays RX12 RX12 "needMany" "I" : Cond), (.laysFinal RX12 RX12 "trySend" "[I" : Cond), (.laysFinal RX12 RX12 "bestSend" "[I" : Cond), (.lays RX12 RX12 "bestMany" "I" : Cond), (.lays RX12 RX12 "bestSum" "I" : Cond)], w ∈ xT
  exact List.forall_mem_cons.mpr ⟨xw_1773, List.forall_mem_cons.mpr ⟨xw_1775, List.forall_mem_cons.mpr ⟨xw_1777, List.forall_mem_cons.mpr ⟨xw_1779, List.forall_mem_cons.mpr ⟨xw_1781, List.forall_mem_cons.mpr ⟨xw_1783, List.forall_mem_cons.mpr ⟨xw_1785, List.forall_mem_cons.mpr ⟨xw_1787, List.forall_mem_cons.mpr ⟨xw_1789, List.forall_mem_cons.mpr ⟨xw_1791, List.forall_mem_cons.mpr ⟨xw_1793, List.forall_mem_cons.mpr ⟨xw_1795, List.forall_mem_cons.mpr ⟨xw_1797, List.forall_mem_cons.mpr ⟨xw_1799, List.forall_mem_cons.mpr ⟨xw_1801, List.forall_mem_cons.mpr ⟨xw_1803, List.forall_mem_cons.mpr ⟨xw_1805, List.forall_mem_cons.mpr ⟨xw_1807, List.forall_mem_cons.mpr ⟨xw_1809, List.forall_mem_cons.mpr ⟨xw_1811, List.forall_mem_cons.mpr ⟨xw_1813, List.forall_mem_cons.mpr ⟨xw_1815, List.forall_mem_cons.mpr ⟨xw_1817, List.forall_mem_cons.mpr ⟨xw_1819, List.forall_mem_cons.mpr ⟨xw_1821, List.forall_mem_cons.mpr ⟨xw_1823, List.forall_mem_cons.mpr ⟨xw_1825, List.forall_mem_cons.mpr ⟨xw_1827, List.forall_mem_cons.mpr ⟨xw_1829, List.forall_mem_cons.mpr ⟨xw_1831, List.forall_mem_cons.mpr ⟨xw_1833, List.forall_mem_cons.mpr ⟨xw_1835, List.forall_mem_cons.mpr ⟨xw_1837, List.forall_mem_cons.mpr ⟨xw_1839, List.forall_mem_cons.mpr ⟨xw_1841, List.forall_mem_cons.mpr ⟨xw_1843, List.forall_mem_cons.mpr ⟨xw_1845, List.forall_mem_cons.mpr ⟨xw_1847, List.forall_mem_cons.mpr ⟨xw_1849, List.forall_mem_cons.mpr ⟨xw_1851, List.forall_mem_cons.mpr ⟨xw_1853, List.forall_mem_cons.mpr ⟨xw_1855, List.forall_mem_cons.mpr ⟨xw_1857, List.forall_mem_cons.mpr ⟨xw_1859, List.forall_mem_cons.mpr ⟨xw_1861, List.forall_mem_cons.mpr ⟨xw_1863, List.forall_mem_cons.mpr ⟨xw_1865, List.forall_mem_cons.mpr ⟨xw_1867, List.forall_mem_cons.mpr ⟨xw_1869, List.forall_mem_cons.mpr ⟨xw_1871, List.forall_mem_cons.mpr ⟨xw_1873, List.forall_mem_cons.mpr ⟨xw_1875, List.forall_mem_cons.mpr ⟨xw_1877, List.forall_mem_cons.mpr ⟨xw_1879, List.forall_mem_cons.mpr ⟨xw_1881, List.forall_mem_cons.mpr ⟨xw_1883, List.forall_mem_cons.mpr ⟨xw_1885, List.forall_mem_cons.mpr ⟨xw_1887, List.forall_mem_cons.mpr ⟨xw_1889, List.forall_mem_cons.mpr ⟨xw_1891, List.forall_mem_cons.mpr ⟨xw_1893, List.forall_mem_cons.mpr ⟨xw_1895, List.forall_mem_cons.mpr ⟨xw_1897, List.forall_mem_cons.mpr ⟨xw_1899, (fun _ h => absurd h List.not_mem_nil)⟩⟩⟩⟩⟩⟩⟩⟩⟩⟩⟩⟩⟩⟩⟩⟩⟩⟩⟩⟩⟩⟩⟩⟩⟩⟩⟩⟩⟩⟩⟩⟩⟩⟩⟩⟩⟩⟩⟩⟩⟩⟩⟩⟩⟩⟩⟩⟩⟩⟩⟩⟩⟩⟩⟩⟩⟩⟩⟩⟩⟩⟩⟩⟩
theorem xcl_12 : xCl 12 RX12 TX12 64 tyX12 := ⟨rfl, xu_12, tyX12_ok, nmX12⟩
def xmi : xMi := fun j => match j with
  | 0 => (yX0_init, cX0_init, 6, none)
  | 1 => (yX0_isAheadOf, cX0_isAheadOf, 2, (some .boolean))
  | 2 => (yX0_late, cX0_late, 1, (some .int))
  | 3 => (yX0_putAt, cX0_putAt, 3, none)
  | 4 => (yX0_embark, cX0_embark, 3, none)
  | 5 => (yX0_entrain, cX0_entrain, 3, none)
  | 6 => (yX0_addStep, cX0_addStep, 3, none)
  | 7 => (yX0_keep, cX0_keep, 1, none)
  | 8 => (yX0_giveBack, cX0_giveBack, 1, none)
  | 9 => (yX0_copy, cX0_copy, 2, none)
  | 10 => (yX1_init, cX1_init, 5, none)
  | 11 => (yX1_waits, cX1_waits, 1, (some .boolean))
  | 12 => (yX1_begin, cX1_begin, 3, none)
  | 13 => (yX1_finish, cX1_finish, 3, none)
  | 14 => (yX1_keep, cX1_keep, 1, none)
  | 15 => (yX1_giveBack, cX1_giveBack, 1, none)
  | 16 => (yX1_copy, cX1_copy, 2, none)
  | 17 => (yX2_init, cX2_init, 2, none)
  | 18 => (yX2_addField, cX2_addField, 4, (some .int))
  | 19 => (yX2_addLeg, cX2_addLeg, 10, (some .int))
  | 20 => (yX2_milesBetween, cX2_milesBetween, 3, (some .int))
  | 21 => (yX2_tell, cX2_tell, 5, (some .int))
  | 22 => (yX2_cloudAt, cX2_cloudAt, 4, (some .int))
  | 23 => (yX2_windAt, cX2_windAt, 4, (some .int))
  | 24 => (yX2_toldFor, cX2_toldFor, 6, (some .int))
  | 25 => (yX2_bitOf, cX2_bitOf, 1, (some .int))
  | 26 => (yX2_darkFields, cX2_darkFields, 3, (some .int))
  | 27 => (yX2_light, cX2_light, 4, none)
  | 28 => (yX2_listFields, cX2_listFields, 5, (some .int))
  | 29 => (yX3_init, cX3_init, 5, none)
  | 30 => (yX3_addGround, cX3_addGround, 3, (some .int))
  | 31 => (yX3_bestGround, cX3_bestGround, 5, (some .int))
  | 32 => (yX3_isBetter, cX3_isBetter, 6, (some .boolean))
  | 33 => (yX3_mileOf, cX3_mileOf, 2, (some .int))
  | 34 => (yX3_roughOf, cX3_roughOf, 2, (some .int))
  | 35 => (yX3_touches, cX3_touches, 2, (some .boolean))
  | 36 => (yX3_goal, cX3_goal, 2, (some .int))
  | 37 => (yX3_nearer, cX3_nearer, 2, (some .int))
  | 38 => (yX3_toGo, cX3_toGo, 3, (some .int))
  | 39 => (yX3_cellCount, cX3_cellCount, 1, (some .int))
  | 40 => (yX3_cellAt, cX3_cellAt, 2, (some .int))
  | 41 => (yX4_init, cX4_init, 1, none)
  | 42 => (yX4_firstWrong, cX4_firstWrong, 6, (some .int))
  | 43 => (yX4_begin, cX4_begin, 2, none)
  | 44 => (yX4_mayEnd, cX4_mayEnd, 1, (some .boolean))
  | 45 => (yX4_takes, cX4_takes, 2, (some .boolean))
  | 46 => (yX4_takesEmptyCondition, cX4_takesEmptyCondition, 1, (some .boolean))
  | 47 => (yX4_takesThing, cX4_takesThing, 3, (some .boolean))
  | 48 => (yX4_takesBehindThing, cX4_takesBehindThing, 2, (some .boolean))
  | 49 => (yX4_takesNextDigit, cX4_takesNextDigit, 2, (some .boolean))
  | 50 => (yX4_takeNoDigits, cX4_takeNoDigits, 1, none)
  | 51 => (yX4_takesClose, cX4_takesClose, 1, (some .boolean))
  | 52 => (yX4_takesConditionEnd, cX4_takesConditionEnd, 2, (some .boolean))
  | 53 => (yX4_takesChoice, cX4_takesChoice, 2, (some .boolean))
  | 54 => (yX4_takesOperator, cX4_takesOperator, 4, (some .boolean))
  | 55 => (yX4_takesAct, cX4_takesAct, 3, (some .boolean))
  | 56 => (yX4_releaseDownTo, cX4_releaseDownTo, 3, none)
  | 57 => (yX4_closeChoices, cX4_closeChoices, 2, none)
  | 58 => (yX4_hold, cX4_hold, 2, none)
  | 59 => (yX4_drop, cX4_drop, 1, none)
  | 60 => (yX4_write, cX4_write, 2, none)
  | 61 => (yX4_isDigit, cX4_isDigit, 1, (some .boolean))
  | 62 => (yX4_strengthOf, cX4_strengthOf, 1, (some .int))
  | 63 => (yX5_init, cX5_init, 3, none)
  | 64 => (yX5_knowsLeg, cX5_knowsLeg, 2, (some .boolean))
  | 65 => (yX5_keep, cX5_keep, 1, none)
  | 66 => (yX5_giveBack, cX5_giveBack, 1, none)
  | 67 => (yX5_copy, cX5_copy, 2, none)
  | 68 => (yX6_init, cX6_init, 7, none)
  | 69 => (yX6_isAloft, cX6_isAloft, 1, (some .boolean))
  | 70 => (yX6_takeOff, cX6_takeOff, 4, none)
  | 71 => (yX6_putAt, cX6_putAt, 2, none)
  | 72 => (yX6_addLook, cX6_addLook, 3, (some .int))
  | 73 => (yX6_weigh, cX6_weigh, 10, none)
  | 74 => (yX6_keep, cX6_keep, 1, none)
  | 75 => (yX6_giveBack, cX6_giveBack, 1, none)
  | 76 => (yX6_copy, cX6_copy, 2, none)
  | 77 => (yX7_init, cX7_init, 1, none)
  | 78 => (yX7_quarters, cX7_quarters, 3, (some .int))
  | 79 => (yX7_listNeeding, cX7_listNeeding, 5, (some .int))
  | 80 => (yX7_share, cX7_share, 4, (some .int))
  | 81 => (yX7_price, cX7_price, 8, none)
  | 82 => (yX7_offer, cX7_offer, 3, none)
  | 83 => (yX7_leastOfAll, cX7_leastOfAll, 7, (some .long))
  | 84 => (yX8_init, cX8_init, 2, none)
  | 85 => (yX8_isFull, cX8_isFull, 1, (some .boolean))
  | 86 => (yX8_add, cX8_add, 5, (some .int))
  | 87 => (yX8_inForce, cX8_inForce, 6, (some .int))
  | 88 => (yX8_put, cX8_put, 4, none)
  | 89 => (yX8_run, cX8_run, 7, (some .int))
  | 90 => (yX8_work, cX8_work, 4, (some .int))
  | 91 => (yX8_join, cX8_join, 3, (some .int))
  | 92 => (yX9_init, cX9_init, 1, none)
  | 93 => (yX9_come, cX9_come, 7, none)
  | 94 => (yX9_latest, cX9_latest, 7, (some .int))
  | 95 => (yX10_init, cX10_init, 2, none)
  | 96 => (yX10_addBag, cX10_addBag, 3, (some .int))
  | 97 => (yX10_pass, cX10_pass, 5, none)
  | 98 => (yX10_nextBusy, cX10_nextBusy, 4, (some .int))
  | 99 => (yX10_beginQuarter, cX10_beginQuarter, 2, none)
  | 100 => (yX10_isNight, cX10_isNight, 2, (some .boolean))
  | 101 => (yX10_tryStart, cX10_tryStart, 4, none)
  | 102 => (yX10_hindrance, cX10_hindrance, 4, (some .int))
  | 103 => (yX10_carriedAtMost, cX10_carriedAtMost, 5, (some .int))
  | 104 => (yX10_startAct, cX10_startAct, 8, (some .int))
  | 105 => (yX10_putCommonLetters, cX10_putCommonLetters, 5, none)
  | 106 => (yX10_start, cX10_start, 7, none)
  | 107 => (yX10_takeBags, cX10_takeBags, 8, none)
  | 108 => (yX10_goesBy, cX10_goesBy, 5, (some .boolean))
  | 109 => (yX10_fly, cX10_fly, 9, none)
  | 110 => (yX10_aloftAct, cX10_aloftAct, 3, (some .int))
  | 111 => (yX10_windFor, cX10_windFor, 3, (some .int))
  | 112 => (yX10_reachesField, cX10_reachesField, 3, (some .boolean))
  | 113 => (yX10_comeIn, cX10_comeIn, 4, none)
  | 114 => (yX10_forceDown, cX10_forceDown, 4, none)
  | 115 => (yX10_unload, cX10_unload, 5, none)
  | 116 => (yX10_renew, cX10_renew, 4, none)
  | 117 => (yX10_bagsGiven, cX10_bagsGiven, 4, (some .int))
  | 118 => (yX10_planesDown, cX10_planesDown, 3, (some .int))
  | 119 => (yX10_weightOn, cX10_weightOn, 4, (some .int))
  | 120 => (yX10_coinNow, cX10_coinNow, 3, (some .int))
  | 121 => (yX10_payByDay, cX10_payByDay, 2, (some .int))
  | 122 => (yX10_payBy, cX10_payBy, 4, (some .int))
  | 123 => (yX10_listWaiting, cX10_listWaiting, 4, (some .int))
  | 124 => (yX10_giveUpOthers, cX10_giveUpOthers, 5, none)
  | 125 => (yX10_keep, cX10_keep, 2, none)
  | 126 => (yX10_giveBack, cX10_giveBack, 2, none)
  | 127 => (yX11_init, cX11_init, 1, none)
  | 128 => (yX11_field, cX11_field, 4, (some .int))
  | 129 => (yX11_lamp, cX11_lamp, 3, (some .boolean))
  | 130 => (yX11_leg, cX11_leg, 5, (some .int))
  | 131 => (yX11_ground, cX11_ground, 5, (some .int))
  | 132 => (yX11_far, cX11_far, 4, (some .int))
  | 133 => (yX11_weather, cX11_weather, 5, (some .int))
  | 134 => (yX11_sky, cX11_sky, 4, (some .int))
  | 135 => (yX11_word, cX11_word, 6, (some .int))
  | 136 => (yX11_heard, cX11_heard, 6, (some .int))
  | 137 => (yX11_plane, cX11_plane, 7, (some .int))
  | 138 => (yX11_engine, cX11_engine, 6, (some .boolean))
  | 139 => (yX11_pilot, cX11_pilot, 4, (some .int))
  | 140 => (yX11_learns, cX11_learns, 3, (some .boolean))
  | 141 => (yX11_bag, cX11_bag, 6, (some .int))
  | 142 => (yX11_train, cX11_train, 4, (some .int))
  | 143 => (yX11_set, cX11_set, 4, (some .int))
  | 144 => (yX11_sign, cX11_sign, 3, (some .int))
  | 145 => (yX11_end, cX11_end, 2, (some .boolean))
  | 146 => (yX11_force, cX11_force, 6, (some .int))
  | 147 => (yX11_mayForce, cX11_mayForce, 3, (some .boolean))
  | 148 => (yX11_flight, cX11_flight, 5, (some .int))
  | 149 => (yX11_cancel, cX11_cancel, 2, (some .boolean))
  | 150 => (yX11_step, cX11_step, 2, (some .int))
  | 151 => (yX11_may, cX11_may, 3, (some .int))
  | 152 => (yX11_why, cX11_why, 4, (some .int))
  | 153 => (yX11_count, cX11_count, 2, (some .int))
  | 154 => (yX11_of, cX11_of, 4, (some .int))
  | 155 => (yX11_who, cX11_who, 4, (some .int))
  | 156 => (yX11_where, cX11_where, 4, (some .int))
  | 157 => (yX11_flown, cX11_flown, 4, (some .int))
  | 158 => (yX11_lead, cX11_lead, 3, (some .int))
  | 159 => (yX11_judge, cX11_judge, 4, (some .int))
  | 160 => (yX11_coin, cX11_coin, 1, (some .int))
  | 161 => (yX11_find, cX11_find, 4, (some .int))
  | 162 => (yX11_look, cX11_look, 5, (some .int))
  | 163 => (yX11_chance, cX11_chance, 9, (some .long))
  | 164 => (yX11_lanes, cX11_lanes, 12, (some .int))
  | 165 => (yX11_weighCells, cX11_weighCells, 5, (some .int))
  | 166 => (yX11_needs, cX11_needs, 1, (some .int))
  | 167 => (yX11_send, cX11_send, 3, (some .int))
  | 168 => (yX11_plan, cX11_plan, 9, (some .int))
  | 169 => (yX11_lamps, cX11_lamps, 10, (some .int))
  | 170 => (yX11_tried, cX11_tried, 3, (some .int))
  | 171 => (yX11_row, cX11_row, 2, (some .int))
  | 172 => (yX11_mayTry, cX11_mayTry, 2, (some .boolean))
  | 173 => (yX11_isField, cX11_isField, 2, (some .boolean))
  | 174 => (yX11_isLeg, cX11_isLeg, 2, (some .boolean))
  | 175 => (yX11_isPlane, cX11_isPlane, 2, (some .boolean))
  | 176 => (yX11_isPilot, cX11_isPilot, 2, (some .boolean))
  | 177 => (yX11_isBag, cX11_isBag, 2, (some .boolean))
  | 178 => (yX11_isFlight, cX11_isFlight, 2, (some .boolean))
  | 179 => (yX11_isDown, cX11_isDown, 2, (some .boolean))
  | 180 => (yX11_isCell, cX11_isCell, 3, (some .boolean))
  | 181 => (yX11_isQuarter, cX11_isQuarter, 1, (some .boolean))
  | 182 => (yX11_isWeather, cX11_isWeather, 2, (some .boolean))
  | 183 => (yX11_within, cX11_within, 3, (some .boolean))
  | 184 => (yX11_roundUp, cX11_roundUp, 2, (some .int))
  | 185 => (yX11_commonDivisor, cX11_commonDivisor, 11, (some .long))
  | 186 => (yX12_init, cX12_init, 2, none)
  | 187 => (yX12_thrown, cX12_thrown, 1, (some .int))
  | 188 => (yX12_in, cX12_in, 3, (some .boolean))
  | 189 => (yX12_lost, cX12_lost, 1, (some .int))
  | 190 => (yX12_isField, cX12_isField, 2, (some .boolean))
  | 191 => (yX12_isLeg, cX12_isLeg, 2, (some .boolean))
  | 192 => (yX12_isPlane, cX12_isPlane, 2, (some .boolean))
  | 193 => (yX12_isPilot, cX12_isPilot, 2, (some .boolean))
  | 194 => (yX12_isBag, cX12_isBag, 2, (some .boolean))
  | 195 => (yX12_plane, cX12_plane, 3, (some .int))
  | 196 => (yX12_plane_, cX12_plane_, 4, none)
  | 197 => (yX12_pilotOf, cX12_pilotOf, 3, (some .int))
  | 198 => (yX12_setPilot, cX12_setPilot, 4, none)
  | 199 => (yX12_bagOf, cX12_bagOf, 3, (some .int))
  | 200 => (yX12_setBag, cX12_setBag, 4, none)
  | 201 => (yX12_flightOf, cX12_flightOf, 3, (some .int))
  | 202 => (yX12_setFlight, cX12_setFlight, 4, none)
  | 203 => (yX12_hasLamp, cX12_hasLamp, 2, (some .boolean))
  | 204 => (yX12_isDark, cX12_isDark, 2, (some .boolean))
  | 205 => (yX12_field, cX12_field, 4, (some .int))
  | 206 => (yX12_lamp, cX12_lamp, 3, (some .boolean))
  | 207 => (yX12_leg, cX12_leg, 8, (some .int))
  | 208 => (yX12_ground, cX12_ground, 4, (some .int))
  | 209 => (yX12_far, cX12_far, 3, (some .int))
  | 210 => (yX12_weather, cX12_weather, 5, (some .int))
  | 211 => (yX12_sky, cX12_sky, 5, (some .int))
  | 212 => (yX12_cloud, cX12_cloud, 4, (some .int))
  | 213 => (yX12_wind, cX12_wind, 4, (some .int))
  | 214 => (yX12_sky_, cX12_sky_, 4, (some .int))
  | 215 => (yX12_say, cX12_say, 7, none)
  | 216 => (yX12_word, cX12_word, 6, (some .int))
  | 217 => (yX12_wordAt, cX12_wordAt, 7, (some .int))
  | 218 => (yX12_heard, cX12_heard, 6, (some .int))
  | 219 => (yX12_plane__, cX12_plane__, 8, (some .int))
  | 220 => (yX12_engine, cX12_engine, 5, (some .boolean))
  | 221 => (yX12_pilot, cX12_pilot, 3, (some .int))
  | 222 => (yX12_learns, cX12_learns, 3, (some .boolean))
  | 223 => (yX12_led, cX12_led, 4, none)
  | 224 => (yX12_bag, cX12_bag, 6, (some .int))
  | 225 => (yX12_arrive, cX12_arrive, 3, none)
  | 226 => (yX12_up, cX12_up, 2, (some .int))
  | 227 => (yX12_train, cX12_train, 3, (some .int))
  | 228 => (yX12_set, cX12_set, 4, (some .int))
  | 229 => (yX12_sign, cX12_sign, 3, (some .int))
  | 230 => (yX12_end, cX12_end, 2, (some .boolean))
  | 231 => (yX12_here, cX12_here, 1, (some .int))
  | 232 => (yX12_comes, cX12_comes, 2, (some .boolean))
  | 233 => (yX12_isWrong, cX12_isWrong, 1, (some .int))
  | 234 => (yX12_isDigit, cX12_isDigit, 1, (some .boolean))
  | 235 => (yX12_any, cX12_any, 2, (some .int))
  | 236 => (yX12_both, cX12_both, 2, (some .int))
  | 237 => (yX12_held, cX12_held, 2, (some .int))
  | 238 => (yX12_sum, cX12_sum, 2, (some .int))
  | 239 => (yX12_product, cX12_product, 2, (some .int))
  | 240 => (yX12_ahead, cX12_ahead, 3, (some .int))
  | 241 => (yX12_choice, cX12_choice, 4, (some .int))
  | 242 => (yX12_lines, cX12_lines, 6, (some .int))
  | 243 => (yX12_actsOf, cX12_actsOf, 1, (some (.object "java/lang/String")))
  | 244 => (yX12_open, cX12_open, 5, none)
  | 245 => (yX12_force, cX12_force, 6, (some .int))
  | 246 => (yX12_textOf, cX12_textOf, 7, (some .int))
  | 247 => (yX12_act, cX12_act, 6, (some .int))
  | 248 => (yX12_flight, cX12_flight, 5, (some .int))
  | 249 => (yX12_waits, cX12_waits, 2, (some .boolean))
  | 250 => (yX12_endFlight, cX12_endFlight, 3, none)
  | 251 => (yX12_cancel, cX12_cancel, 2, (some .boolean))
  | 252 => (yX12_carries, cX12_carries, 4, (some .int))
  | 253 => (yX12_whyNot, cX12_whyNot, 9, (some .int))
  | 254 => (yX12_tell, cX12_tell, 7, none)
  | 255 => (yX12_start, cX12_start, 11, none)
  | 256 => (yX12_forced, cX12_forced, 10, none)
  | 257 => (yX12_comeTo, cX12_comeTo, 5, none)
  | 258 => (yX12_land, cX12_land, 4, none)
  | 259 => (yX12_isAloft, cX12_isAloft, 2, (some .boolean))
  | 260 => (yX12_fly, cX12_fly, 11, none)
  | 261 => (yX12_goQuarter, cX12_goQuarter, 3, none)
  | 262 => (yX12_step, cX12_step, 3, (some .int))
  | 263 => (yX12_may, cX12_may, 2, (some .int))
  | 264 => (yX12_why, cX12_why, 3, (some .int))
  | 265 => (yX12_given, cX12_given, 3, (some .int))
  | 266 => (yX12_count, cX12_count, 4, (some .int))
  | 267 => (yX12_of, cX12_of, 5, (some .int))
  | 268 => (yX12_who, cX12_who, 3, (some .int))
  | 269 => (yX12_payBy, cX12_payBy, 5, (some .int))
  | 270 => (yX12_payOf, cX12_payOf, 3, (some .int))
  | 271 => (yX12_where, cX12_where, 3, (some .int))
  | 272 => (yX12_flown, cX12_flown, 3, (some .int))
  | 273 => (yX12_lead, cX12_lead, 4, (some .int))
  | 274 => (yX12_judge, cX12_judge, 4, (some .int))
  | 275 => (yX12_coinNow, cX12_coinNow, 3, (some .int))
  | 276 => (yX12_coin, cX12_coin, 1, (some .int))
  | 277 => (yX12_isDown, cX12_isDown, 2, (some .boolean))
  | 278 => (yX12_find, cX12_find, 3, (some .int))
  | 279 => (yX12_cells, cX12_cells, 2, (some .int))
  | 280 => (yX12_look, cX12_look, 5, (some .int))
  | 281 => (yX12_share, cX12_share, 9, (some .long))
  | 282 => (yX12_common, cX12_common, 4, (some .long))
  | 283 => (yX12_chance, cX12_chance, 10, (some .long))
  | 284 => (yX12_lanes, cX12_lanes, 11, (some .int))
  | 285 => (yX12_needsOne, cX12_needsOne, 2, (some .boolean))
  | 286 => (yX12_findNeedy, cX12_findNeedy, 2, (some .int))
  | 287 => (yX12_needs, cX12_needs, 1, (some .int))
  | 288 => (yX12_quarters, cX12_quarters, 4, (some .int))
  | 289 => (yX12_sendFrom, cX12_sendFrom, 10, none)
  | 290 => (yX12_send, cX12_send, 4, (some .int))
  | 291 => (yX12_putAside, cX12_putAside, 2, none)
  | 292 => (yX12_putBack, cX12_putBack, 2, none)
  | 293 => (yX12_canTry, cX12_canTry, 2, (some .boolean))
  | 294 => (yX12_go, cX12_go, 3, none)
  | 295 => (yX12_plan, cX12_plan, 9, (some .int))
  | 296 => (yX12_onTime, cX12_onTime, 3, (some .int))
  | 297 => (yX12_lamps, cX12_lamps, 10, (some .int))
  | 298 => (yX12_tried, cX12_tried, 3, (some .int))
  | 299 => (yX12_row, cX12_row, 2, (some .int))
  | 300 => (yJ6_bitCount_0f7a4, cJ6_bitCount_0f7a4, 1, (some .int))
  | 301 => (yJ0_length_8abf5, cJ0_length_8abf5, 1, (some .int))
  | 302 => (yJ0_indexOf_0f7a4, cJ0_indexOf_0f7a4, 2, (some .int))
  | 303 => (yJ0_indexOf_7cf53, cJ0_indexOf_7cf53, 3, (some .int))
  | 304 => (yJ0_coder_7d493, cJ0_coder_7d493, 1, (some .byte))
  | 305 => (yJ0_isLatin1_aae02, cJ0_isLatin1_aae02, 1, (some .boolean))
  | 306 => (yJ1_canEncode_9a6ad, cJ1_canEncode_9a6ad, 1, (some .boolean))
  | 307 => (yJ1_indexOf_4cfef, cJ1_indexOf_4cfef, 4, (some .int))
  | 308 => (yJ1_indexOfChar_4cfef, cJ1_indexOfChar_4cfef, 6, (some .int))
  | 309 => (yJ7_fill_d0a16, cJ7_fill_d0a16, 5, none)
  | 310 => (yX7_readFields, cX7_readFields, 7, none)
  | _ => (objectInit, ⟨#[]⟩, 0, none)
theorem mi_0 : xmi 0 = (yX0_init, cX0_init, 6, none) := rfl
theorem mi_1 : xmi 1 = (yX0_isAheadOf, cX0_isAheadOf, 2, (some .boolean)) := rfl
theorem mi_2 : xmi 2 = (yX0_late, cX0_late, 1, (some .int)) := rfl
theorem mi_3 : xmi 3 = (yX0_putAt, cX0_putAt, 3, none) := rfl
theorem mi_4 : xmi 4 = (yX0_embark, cX0_embark, 3, none) := rfl
theorem mi_5 : xmi 5 = (yX0_entrain, cX0_entrain, 3, none) := rfl
theorem mi_6 : xmi 6 = (yX0_addStep, cX0_addStep, 3, none) := rfl
theorem mi_7 : xmi 7 = (yX0_keep, cX0_keep, 1, none) := rfl
theorem mi_8 : xmi 8 = (yX0_giveBack, cX0_giveBack, 1, none) := rfl
theorem mi_9 : xmi 9 = (yX0_copy, cX0_copy, 2, none) := rfl
theorem mi_10 : xmi 10 = (yX1_init, cX1_init, 5, none) := rfl
theorem mi_11 : xmi 11 = (yX1_waits, cX1_waits, 1, (some .boolean)) := rfl
theorem mi_12 : xmi 12 = (yX1_begin, cX1_begin, 3, none) := rfl
theorem mi_13 : xmi 13 = (yX1_finish, cX1_finish, 3, none) := rfl
theorem mi_14 : xmi 14 = (yX1_keep, cX1_keep, 1, none) := rfl
theorem mi_15 : xmi 15 = (yX1_giveBack, cX1_giveBack, 1, none) := rfl
theorem mi_16 : xmi 16 = (yX1_copy, cX1_copy, 2, none) := rfl
theorem mi_17 : xmi 17 = (yX2_init, cX2_init, 2, none) := rfl
theorem mi_18 : xmi 18 = (yX2_addField, cX2_addField, 4, (some .int)) := rfl
theorem mi_19 : xmi 19 = (yX2_addLeg, cX2_addLeg, 10, (some .int)) := rfl
theorem mi_20 : xmi 20 = (yX2_milesBetween, cX2_milesBetween, 3, (some .int)) := rfl
theorem mi_21 : xmi 21 = (yX2_tell, cX2_tell, 5, (some .int)) := rfl
theorem mi_22 : xmi 22 = (yX2_cloudAt, cX2_cloudAt, 4, (some .int)) := rfl
theorem mi_23 : xmi 23 = (yX2_windAt, cX2_windAt, 4, (some .int)) := rfl
theorem mi_24 : xmi 24 = (yX2_toldFor, cX2_toldFor, 6, (some .int)) := rfl
theorem mi_25 : xmi 25 = (yX2_bitOf, cX2_bitOf, 1, (some .int)) := rfl
theorem mi_26 : xmi 26 = (yX2_darkFields, cX2_darkFields, 3, (some .int)) := rfl
theorem mi_27 : xmi 27 = (yX2_light, cX2_light, 4, none) := rfl
theorem mi_28 : xmi 28 = (yX2_listFields, cX2_listFields, 5, (some .int)) := rfl
theorem mi_29 : xmi 29 = (yX3_init, cX3_init, 5, none) := rfl
theorem mi_30 : xmi 30 = (yX3_addGround, cX3_addGround, 3, (some .int)) := rfl
theorem mi_31 : xmi 31 = (yX3_bestGround, cX3_bestGround, 5, (some .int)) := rfl
theorem mi_32 : xmi 32 = (yX3_isBetter, cX3_isBetter, 6, (some .boolean)) := rfl
theorem mi_33 : xmi 33 = (yX3_mileOf, cX3_mileOf, 2, (some .int)) := rfl
theorem mi_34 : xmi 34 = (yX3_roughOf, cX3_roughOf, 2, (some .int)) := rfl
theorem mi_35 : xmi 35 = (yX3_touches, cX3_touches, 2, (some .boolean)) := rfl
theorem mi_36 : xmi 36 = (yX3_goal, cX3_goal, 2, (some .int)) := rfl
theorem mi_37 : xmi 37 = (yX3_nearer, cX3_nearer, 2, (some .int)) := rfl
theorem mi_38 : xmi 38 = (yX3_toGo, cX3_toGo, 3, (some .int)) := rfl
theorem mi_39 : xmi 39 = (yX3_cellCount, cX3_cellCount, 1, (some .int)) := rfl
theorem mi_40 : xmi 40 = (yX3_cellAt, cX3_cellAt, 2, (some .int)) := rfl
theorem mi_41 : xmi 41 = (yX4_init, cX4_init, 1, none) := rfl
theorem mi_42 : xmi 42 = (yX4_firstWrong, cX4_firstWrong, 6, (some .int)) := rfl
theorem mi_43 : xmi 43 = (yX4_begin, cX4_begin, 2, none) := rfl
theorem mi_44 : xmi 44 = (yX4_mayEnd, cX4_mayEnd, 1, (some .boolean)) := rfl
theorem mi_45 : xmi 45 = (yX4_takes, cX4_takes, 2, (some .boolean)) := rfl
theorem mi_46 : xmi 46 = (yX4_takesEmptyCondition, cX4_takesEmptyCondition, 1, (some .boolean)) := rfl
theorem mi_47 : xmi 47 = (yX4_takesThing, cX4_takesThing, 3, (some .boolean)) := rfl
theorem mi_48 : xmi 48 = (yX4_takesBehindThing, cX4_takesBehindThing, 2, (some .boolean)) := rfl
theorem mi_49 : xmi 49 = (yX4_takesNextDigit, cX4_takesNextDigit, 2, (some .boolean)) := rfl
theorem mi_50 : xmi 50 = (yX4_takeNoDigits, cX4_takeNoDigits, 1, none) := rfl
theorem mi_51 : xmi 51 = (yX4_takesClose, cX4_takesClose, 1, (some .boolean)) := rfl
theorem mi_52 : xmi 52 = (yX4_takesConditionEnd, cX4_takesConditionEnd, 2, (some .boolean)) := rfl
theorem mi_53 : xmi 53 = (yX4_takesChoice, cX4_takesChoice, 2, (some .boolean)) := rfl
theorem mi_54 : xmi 54 = (yX4_takesOperator, cX4_takesOperator, 4, (some .boolean)) := rfl
theorem mi_55 : xmi 55 = (yX4_takesAct, cX4_takesAct, 3, (some .boolean)) := rfl
theorem mi_56 : xmi 56 = (yX4_releaseDownTo, cX4_releaseDownTo, 3, none) := rfl
theorem mi_57 : xmi 57 = (yX4_closeChoices, cX4_closeChoices, 2, none) := rfl
theorem mi_58 : xmi 58 = (yX4_hold, cX4_hold, 2, none) := rfl
theorem mi_59 : xmi 59 = (yX4_drop, cX4_drop, 1, none) := rfl
theorem mi_60 : xmi 60 = (yX4_write, cX4_write, 2, none) := rfl
theorem mi_61 : xmi 61 = (yX4_isDigit, cX4_isDigit, 1, (some .boolean)) := rfl
theorem mi_62 : xmi 62 = (yX4_strengthOf, cX4_strengthOf, 1, (some .int)) := rfl
theorem mi_63 : xmi 63 = (yX5_init, cX5_init, 3, none) := rfl
theorem mi_64 : xmi 64 = (yX5_knowsLeg, cX5_knowsLeg, 2, (some .boolean)) := rfl
theorem mi_65 : xmi 65 = (yX5_keep, cX5_keep, 1, none) := rfl
theorem mi_66 : xmi 66 = (yX5_giveBack, cX5_giveBack, 1, none) := rfl
theorem mi_67 : xmi 67 = (yX5_copy, cX5_copy, 2, none) := rfl
theorem mi_68 : xmi 68 = (yX6_init, cX6_init, 7, none) := rfl
theorem mi_69 : xmi 69 = (yX6_isAloft, cX6_isAloft, 1, (some .boolean)) := rfl
theorem mi_70 : xmi 70 = (yX6_takeOff, cX6_takeOff, 4, none) := rfl
theorem mi_71 : xmi 71 = (yX6_putAt, cX6_putAt, 2, none) := rfl
theorem mi_72 : xmi 72 = (yX6_addLook, cX6_addLook, 3, (some .int)) := rfl
theorem mi_73 : xmi 73 = (yX6_weigh, cX6_weigh, 10, none) := rfl
theorem mi_74 : xmi 74 = (yX6_keep, cX6_keep, 1, none) := rfl
theorem mi_75 : xmi 75 = (yX6_giveBack, cX6_giveBack, 1, none) := rfl
theorem mi_76 : xmi 76 = (yX6_copy, cX6_copy, 2, none) := rfl
theorem mi_77 : xmi 77 = (yX7_init, cX7_init, 1, none) := rfl
theorem mi_78 : xmi 78 = (yX7_quarters, cX7_quarters, 3, (some .int)) := rfl
theorem mi_79 : xmi 79 = (yX7_listNeeding, cX7_listNeeding, 5, (some .int)) := rfl
theorem mi_80 : xmi 80 = (yX7_share, cX7_share, 4, (some .int)) := rfl
theorem mi_81 : xmi 81 = (yX7_price, cX7_price, 8, none) := rfl
theorem mi_82 : xmi 82 = (yX7_offer, cX7_offer, 3, none) := rfl
theorem mi_83 : xmi 83 = (yX7_leastOfAll, cX7_leastOfAll, 7, (some .long)) := rfl
theorem mi_84 : xmi 84 = (yX8_init, cX8_init, 2, none) := rfl
theorem mi_85 : xmi 85 = (yX8_isFull, cX8_isFull, 1, (some .boolean)) := rfl
theorem mi_86 : xmi 86 = (yX8_add, cX8_add, 5, (some .int)) := rfl
theorem mi_87 : xmi 87 = (yX8_inForce, cX8_inForce, 6, (some .int)) := rfl
theorem mi_88 : xmi 88 = (yX8_put, cX8_put, 4, none) := rfl
theorem mi_89 : xmi 89 = (yX8_run, cX8_run, 7, (some .int)) := rfl
theorem mi_90 : xmi 90 = (yX8_work, cX8_work, 4, (some .int)) := rfl
theorem mi_91 : xmi 91 = (yX8_join, cX8_join, 3, (some .int)) := rfl
theorem mi_92 : xmi 92 = (yX9_init, cX9_init, 1, none) := rfl
theorem mi_93 : xmi 93 = (yX9_come, cX9_come, 7, none) := rfl
theorem mi_94 : xmi 94 = (yX9_latest, cX9_latest, 7, (some .int)) := rfl
theorem mi_95 : xmi 95 = (yX10_init, cX10_init, 2, none) := rfl
theorem mi_96 : xmi 96 = (yX10_addBag, cX10_addBag, 3, (some .int)) := rfl
theorem mi_97 : xmi 97 = (yX10_pass, cX10_pass, 5, none) := rfl
theorem mi_98 : xmi 98 = (yX10_nextBusy, cX10_nextBusy, 4, (some .int)) := rfl
theorem mi_99 : xmi 99 = (yX10_beginQuarter, cX10_beginQuarter, 2, none) := rfl
theorem mi_100 : xmi 100 = (yX10_isNight, cX10_isNight, 2, (some .boolean)) := rfl
theorem mi_101 : xmi 101 = (yX10_tryStart, cX10_tryStart, 4, none) := rfl
theorem mi_102 : xmi 102 = (yX10_hindrance, cX10_hindrance, 4, (some .int)) := rfl
theorem mi_103 : xmi 103 = (yX10_carriedAtMost, cX10_carriedAtMost, 5, (some .int)) := rfl
theorem mi_104 : xmi 104 = (yX10_startAct, cX10_startAct, 8, (some .int)) := rfl
theorem mi_105 : xmi 105 = (yX10_putCommonLetters, cX10_putCommonLetters, 5, none) := rfl
theorem mi_106 : xmi 106 = (yX10_start, cX10_start, 7, none) := rfl
theorem mi_107 : xmi 107 = (yX10_takeBags, cX10_takeBags, 8, none) := rfl
theorem mi_108 : xmi 108 = (yX10_goesBy, cX10_goesBy, 5, (some .boolean)) := rfl
theorem mi_109 : xmi 109 = (yX10_fly, cX10_fly, 9, none) := rfl
theorem mi_110 : xmi 110 = (yX10_aloftAct, cX10_aloftAct, 3, (some .int)) := rfl
theorem mi_111 : xmi 111 = (yX10_windFor, cX10_windFor, 3, (some .int)) := rfl
theorem mi_112 : xmi 112 = (yX10_reachesField, cX10_reachesField, 3, (some .boolean)) := rfl
theorem mi_113 : xmi 113 = (yX10_comeIn, cX10_comeIn, 4, none) := rfl
theorem mi_114 : xmi 114 = (yX10_forceDown, cX10_forceDown, 4, none) := rfl
theorem mi_115 : xmi 115 = (yX10_unload, cX10_unload, 5, none) := rfl
theorem mi_116 : xmi 116 = (yX10_renew, cX10_renew, 4, none) := rfl
theorem mi_117 : xmi 117 = (yX10_bagsGiven, cX10_bagsGiven, 4, (some .int)) := rfl
theorem mi_118 : xmi 118 = (yX10_planesDown, cX10_planesDown, 3, (some .int)) := rfl
theorem mi_119 : xmi 119 = (yX10_weightOn, cX10_weightOn, 4, (some .int)) := rfl
theorem mi_120 : xmi 120 = (yX10_coinNow, cX10_coinNow, 3, (some .int)) := rfl
theorem mi_121 : xmi 121 = (yX10_payByDay, cX10_payByDay, 2, (some .int)) := rfl
theorem mi_122 : xmi 122 = (yX10_payBy, cX10_payBy, 4, (some .int)) := rfl
theorem mi_123 : xmi 123 = (yX10_listWaiting, cX10_listWaiting, 4, (some .int)) := rfl
theorem mi_124 : xmi 124 = (yX10_giveUpOthers, cX10_giveUpOthers, 5, none) := rfl
theorem mi_125 : xmi 125 = (yX10_keep, cX10_keep, 2, none) := rfl
theorem mi_126 : xmi 126 = (yX10_giveBack, cX10_giveBack, 2, none) := rfl
theorem mi_127 : xmi 127 = (yX11_init, cX11_init, 1, none) := rfl
theorem mi_128 : xmi 128 = (yX11_field, cX11_field, 4, (some .int)) := rfl
theorem mi_129 : xmi 129 = (yX11_lamp, cX11_lamp, 3, (some .boolean)) := rfl
theorem mi_130 : xmi 130 = (yX11_leg, cX11_leg, 5, (some .int)) := rfl
theorem mi_131 : xmi 131 = (yX11_ground, cX11_ground, 5, (some .int)) := rfl
theorem mi_132 : xmi 132 = (yX11_far, cX11_far, 4, (some .int)) := rfl
theorem mi_133 : xmi 133 = (yX11_weather, cX11_weather, 5, (some .int)) := rfl
theorem mi_134 : xmi 134 = (yX11_sky, cX11_sky, 4, (some .int)) := rfl
theorem mi_135 : xmi 135 = (yX11_word, cX11_word, 6, (some .int)) := rfl
theorem mi_136 : xmi 136 = (yX11_heard, cX11_heard, 6, (some .int)) := rfl
theorem mi_137 : xmi 137 = (yX11_plane, cX11_plane, 7, (some .int)) := rfl
theorem mi_138 : xmi 138 = (yX11_engine, cX11_engine, 6, (some .boolean)) := rfl
theorem mi_139 : xmi 139 = (yX11_pilot, cX11_pilot, 4, (some .int)) := rfl
theorem mi_140 : xmi 140 = (yX11_learns, cX11_learns, 3, (some .boolean)) := rfl
theorem mi_141 : xmi 141 = (yX11_bag, cX11_bag, 6, (some .int)) := rfl
theorem mi_142 : xmi 142 = (yX11_train, cX11_train, 4, (some .int)) := rfl
theorem mi_143 : xmi 143 = (yX11_set, cX11_set, 4, (some .int)) := rfl
theorem mi_144 : xmi 144 = (yX11_sign, cX11_sign, 3, (some .int)) := rfl
theorem mi_145 : xmi 145 = (yX11_end, cX11_end, 2, (some .boolean)) := rfl
theorem mi_146 : xmi 146 = (yX11_force, cX11_force, 6, (some .int)) := rfl
theorem mi_147 : xmi 147 = (yX11_mayForce, cX11_mayForce, 3, (some .boolean)) := rfl
theorem mi_148 : xmi 148 = (yX11_flight, cX11_flight, 5, (some .int)) := rfl
theorem mi_149 : xmi 149 = (yX11_cancel, cX11_cancel, 2, (some .boolean)) := rfl
theorem mi_150 : xmi 150 = (yX11_step, cX11_step, 2, (some .int)) := rfl
theorem mi_151 : xmi 151 = (yX11_may, cX11_may, 3, (some .int)) := rfl
theorem mi_152 : xmi 152 = (yX11_why, cX11_why, 4, (some .int)) := rfl
theorem mi_153 : xmi 153 = (yX11_count, cX11_count, 2, (some .int)) := rfl
theorem mi_154 : xmi 154 = (yX11_of, cX11_of, 4, (some .int)) := rfl
theorem mi_155 : xmi 155 = (yX11_who, cX11_who, 4, (some .int)) := rfl
theorem mi_156 : xmi 156 = (yX11_where, cX11_where, 4, (some .int)) := rfl
theorem mi_157 : xmi 157 = (yX11_flown, cX11_flown, 4, (some .int)) := rfl
theorem mi_158 : xmi 158 = (yX11_lead, cX11_lead, 3, (some .int)) := rfl
theorem mi_159 : xmi 159 = (yX11_judge, cX11_judge, 4, (some .int)) := rfl
theorem mi_160 : xmi 160 = (yX11_coin, cX11_coin, 1, (some .int)) := rfl
theorem mi_161 : xmi 161 = (yX11_find, cX11_find, 4, (some .int)) := rfl
theorem mi_162 : xmi 162 = (yX11_look, cX11_look, 5, (some .int)) := rfl
theorem mi_163 : xmi 163 = (yX11_chance, cX11_chance, 9, (some .long)) := rfl
theorem mi_164 : xmi 164 = (yX11_lanes, cX11_lanes, 12, (some .int)) := rfl
theorem mi_165 : xmi 165 = (yX11_weighCells, cX11_weighCells, 5, (some .int)) := rfl
theorem mi_166 : xmi 166 = (yX11_needs, cX11_needs, 1, (some .int)) := rfl
theorem mi_167 : xmi 167 = (yX11_send, cX11_send, 3, (some .int)) := rfl
theorem mi_168 : xmi 168 = (yX11_plan, cX11_plan, 9, (some .int)) := rfl
theorem mi_169 : xmi 169 = (yX11_lamps, cX11_lamps, 10, (some .int)) := rfl
theorem mi_170 : xmi 170 = (yX11_tried, cX11_tried, 3, (some .int)) := rfl
theorem mi_171 : xmi 171 = (yX11_row, cX11_row, 2, (some .int)) := rfl
theorem mi_172 : xmi 172 = (yX11_mayTry, cX11_mayTry, 2, (some .boolean)) := rfl
theorem mi_173 : xmi 173 = (yX11_isField, cX11_isField, 2, (some .boolean)) := rfl
theorem mi_174 : xmi 174 = (yX11_isLeg, cX11_isLeg, 2, (some .boolean)) := rfl
theorem mi_175 : xmi 175 = (yX11_isPlane, cX11_isPlane, 2, (some .boolean)) := rfl
theorem mi_176 : xmi 176 = (yX11_isPilot, cX11_isPilot, 2, (some .boolean)) := rfl
theorem mi_177 : xmi 177 = (yX11_isBag, cX11_isBag, 2, (some .boolean)) := rfl
theorem mi_178 : xmi 178 = (yX11_isFlight, cX11_isFlight, 2, (some .boolean)) := rfl
theorem mi_179 : xmi 179 = (yX11_isDown, cX11_isDown, 2, (some .boolean)) := rfl
theorem mi_180 : xmi 180 = (yX11_isCell, cX11_isCell, 3, (some .boolean)) := rfl
theorem mi_181 : xmi 181 = (yX11_isQuarter, cX11_isQuarter, 1, (some .boolean)) := rfl
theorem mi_182 : xmi 182 = (yX11_isWeather, cX11_isWeather, 2, (some .boolean)) := rfl
theorem mi_183 : xmi 183 = (yX11_within, cX11_within, 3, (some .boolean)) := rfl
theorem mi_184 : xmi 184 = (yX11_roundUp, cX11_roundUp, 2, (some .int)) := rfl
theorem mi_185 : xmi 185 = (yX11_commonDivisor, cX11_commonDivisor, 11, (some .long)) := rfl
theorem mi_186 : xmi 186 = (yX12_init, cX12_init, 2, none) := rfl
theorem mi_187 : xmi 187 = (yX12_thrown, cX12_thrown, 1, (some .int)) := rfl
theorem mi_188 : xmi 188 = (yX12_in, cX12_in, 3, (some .boolean)) := rfl
theorem mi_189 : xmi 189 = (yX12_lost, cX12_lost, 1, (some .int)) := rfl
theorem mi_190 : xmi 190 = (yX12_isField, cX12_isField, 2, (some .boolean)) := rfl
theorem mi_191 : xmi 191 = (yX12_isLeg, cX12_isLeg, 2, (some .boolean)) := rfl
theorem mi_192 : xmi 192 = (yX12_isPlane, cX12_isPlane, 2, (some .boolean)) := rfl
theorem mi_193 : xmi 193 = (yX12_isPilot, cX12_isPilot, 2, (some .boolean)) := rfl
theorem mi_194 : xmi 194 = (yX12_isBag, cX12_isBag, 2, (some .boolean)) := rfl
theorem mi_195 : xmi 195 = (yX12_plane, cX12_plane, 3, (some .int)) := rfl
theorem mi_196 : xmi 196 = (yX12_plane_, cX12_plane_, 4, none) := rfl
theorem mi_197 : xmi 197 = (yX12_pilotOf, cX12_pilotOf, 3, (some .int)) := rfl
theorem mi_198 : xmi 198 = (yX12_setPilot, cX12_setPilot, 4, none) := rfl
theorem mi_199 : xmi 199 = (yX12_bagOf, cX12_bagOf, 3, (some .int)) := rfl
theorem mi_200 : xmi 200 = (yX12_setBag, cX12_setBag, 4, none) := rfl
theorem mi_201 : xmi 201 = (yX12_flightOf, cX12_flightOf, 3, (some .int)) := rfl
theorem mi_202 : xmi 202 = (yX12_setFlight, cX12_setFlight, 4, none) := rfl
theorem mi_203 : xmi 203 = (yX12_hasLamp, cX12_hasLamp, 2, (some .boolean)) := rfl
theorem mi_204 : xmi 204 = (yX12_isDark, cX12_isDark, 2, (some .boolean)) := rfl
theorem mi_205 : xmi 205 = (yX12_field, cX12_field, 4, (some .int)) := rfl
theorem mi_206 : xmi 206 = (yX12_lamp, cX12_lamp, 3, (some .boolean)) := rfl
theorem mi_207 : xmi 207 = (yX12_leg, cX12_leg, 8, (some .int)) := rfl
theorem mi_208 : xmi 208 = (yX12_ground, cX12_ground, 4, (some .int)) := rfl
theorem mi_209 : xmi 209 = (yX12_far, cX12_far, 3, (some .int)) := rfl
theorem mi_210 : xmi 210 = (yX12_weather, cX12_weather, 5, (some .int)) := rfl
theorem mi_211 : xmi 211 = (yX12_sky, cX12_sky, 5, (some .int)) := rfl
theorem mi_212 : xmi 212 = (yX12_cloud, cX12_cloud, 4, (some .int)) := rfl
theorem mi_213 : xmi 213 = (yX12_wind, cX12_wind, 4, (some .int)) := rfl
theorem mi_214 : xmi 214 = (yX12_sky_, cX12_sky_, 4, (some .int)) := rfl
theorem mi_215 : xmi 215 = (yX12_say, cX12_say, 7, none) := rfl
theorem mi_216 : xmi 216 = (yX12_word, cX12_word, 6, (some .int)) := rfl
theorem mi_217 : xmi 217 = (yX12_wordAt, cX12_wordAt, 7, (some .int)) := rfl
theorem mi_218 : xmi 218 = (yX12_heard, cX12_heard, 6, (some .int)) := rfl
theorem mi_219 : xmi 219 = (yX12_plane__, cX12_plane__, 8, (some .int)) := rfl
theorem mi_220 : xmi 220 = (yX12_engine, cX12_engine, 5, (some .boolean)) := rfl
theorem mi_221 : xmi 221 = (yX12_pilot, cX12_pilot, 3, (some .int)) := rfl
theorem mi_222 : xmi 222 = (yX12_learns, cX12_learns, 3, (some .boolean)) := rfl
theorem mi_223 : xmi 223 = (yX12_led, cX12_led, 4, none) := rfl
theorem mi_224 : xmi 224 = (yX12_bag, cX12_bag, 6, (some .int)) := rfl
theorem mi_225 : xmi 225 = (yX12_arrive, cX12_arrive, 3, none) := rfl
theorem mi_226 : xmi 226 = (yX12_up, cX12_up, 2, (some .int)) := rfl
theorem mi_227 : xmi 227 = (yX12_train, cX12_train, 3, (some .int)) := rfl
theorem mi_228 : xmi 228 = (yX12_set, cX12_set, 4, (some .int)) := rfl
theorem mi_229 : xmi 229 = (yX12_sign, cX12_sign, 3, (some .int)) := rfl
theorem mi_230 : xmi 230 = (yX12_end, cX12_end, 2, (some .boolean)) := rfl
theorem mi_231 : xmi 231 = (yX12_here, cX12_here, 1, (some .int)) := rfl
theorem mi_232 : xmi 232 = (yX12_comes, cX12_comes, 2, (some .boolean)) := rfl
theorem mi_233 : xmi 233 = (yX12_isWrong, cX12_isWrong, 1, (some .int)) := rfl
theorem mi_234 : xmi 234 = (yX12_isDigit, cX12_isDigit, 1, (some .boolean)) := rfl
theorem mi_235 : xmi 235 = (yX12_any, cX12_any, 2, (some .int)) := rfl
theorem mi_236 : xmi 236 = (yX12_both, cX12_both, 2, (some .int)) := rfl
theorem mi_237 : xmi 237 = (yX12_held, cX12_held, 2, (some .int)) := rfl
theorem mi_238 : xmi 238 = (yX12_sum, cX12_sum, 2, (some .int)) := rfl
theorem mi_239 : xmi 239 = (yX12_product, cX12_product, 2, (some .int)) := rfl
theorem mi_240 : xmi 240 = (yX12_ahead, cX12_ahead, 3, (some .int)) := rfl
theorem mi_241 : xmi 241 = (yX12_choice, cX12_choice, 4, (some .int)) := rfl
theorem mi_242 : xmi 242 = (yX12_lines, cX12_lines, 6, (some .int)) := rfl
theorem mi_243 : xmi 243 = (yX12_actsOf, cX12_actsOf, 1, (some (.object "java/lang/String"))) := rfl
theorem mi_244 : xmi 244 = (yX12_open, cX12_open, 5, none) := rfl
theorem mi_245 : xmi 245 = (yX12_force, cX12_force, 6, (some .int)) := rfl
theorem mi_246 : xmi 246 = (yX12_textOf, cX12_textOf, 7, (some .int)) := rfl
theorem mi_247 : xmi 247 = (yX12_act, cX12_act, 6, (some .int)) := rfl
theorem mi_248 : xmi 248 = (yX12_flight, cX12_flight, 5, (some .int)) := rfl
theorem mi_249 : xmi 249 = (yX12_waits, cX12_waits, 2, (some .boolean)) := rfl
theorem mi_250 : xmi 250 = (yX12_endFlight, cX12_endFlight, 3, none) := rfl
theorem mi_251 : xmi 251 = (yX12_cancel, cX12_cancel, 2, (some .boolean)) := rfl
theorem mi_252 : xmi 252 = (yX12_carries, cX12_carries, 4, (some .int)) := rfl
theorem mi_253 : xmi 253 = (yX12_whyNot, cX12_whyNot, 9, (some .int)) := rfl
theorem mi_254 : xmi 254 = (yX12_tell, cX12_tell, 7, none) := rfl
theorem mi_255 : xmi 255 = (yX12_start, cX12_start, 11, none) := rfl
theorem mi_256 : xmi 256 = (yX12_forced, cX12_forced, 10, none) := rfl
theorem mi_257 : xmi 257 = (yX12_comeTo, cX12_comeTo, 5, none) := rfl
theorem mi_258 : xmi 258 = (yX12_land, cX12_land, 4, none) := rfl
theorem mi_259 : xmi 259 = (yX12_isAloft, cX12_isAloft, 2, (some .boolean)) := rfl
theorem mi_260 : xmi 260 = (yX12_fly, cX12_fly, 11, none) := rfl
theorem mi_261 : xmi 261 = (yX12_goQuarter, cX12_goQuarter, 3, none) := rfl
theorem mi_262 : xmi 262 = (yX12_step, cX12_step, 3, (some .int)) := rfl
theorem mi_263 : xmi 263 = (yX12_may, cX12_may, 2, (some .int)) := rfl
theorem mi_264 : xmi 264 = (yX12_why, cX12_why, 3, (some .int)) := rfl
theorem mi_265 : xmi 265 = (yX12_given, cX12_given, 3, (some .int)) := rfl
theorem mi_266 : xmi 266 = (yX12_count, cX12_count, 4, (some .int)) := rfl
theorem mi_267 : xmi 267 = (yX12_of, cX12_of, 5, (some .int)) := rfl
theorem mi_268 : xmi 268 = (yX12_who, cX12_who, 3, (some .int)) := rfl
theorem mi_269 : xmi 269 = (yX12_payBy, cX12_payBy, 5, (some .int)) := rfl
theorem mi_270 : xmi 270 = (yX12_payOf, cX12_payOf, 3, (some .int)) := rfl
theorem mi_271 : xmi 271 = (yX12_where, cX12_where, 3, (some .int)) := rfl
theorem mi_272 : xmi 272 = (yX12_flown, cX12_flown, 3, (some .int)) := rfl
theorem mi_273 : xmi 273 = (yX12_lead, cX12_lead, 4, (some .int)) := rfl
theorem mi_274 : xmi 274 = (yX12_judge, cX12_judge, 4, (some .int)) := rfl
theorem mi_275 : xmi 275 = (yX12_coinNow, cX12_coinNow, 3, (some .int)) := rfl
theorem mi_276 : xmi 276 = (yX12_coin, cX12_coin, 1, (some .int)) := rfl
theorem mi_277 : xmi 277 = (yX12_isDown, cX12_isDown, 2, (some .boolean)) := rfl
theorem mi_278 : xmi 278 = (yX12_find, cX12_find, 3, (some .int)) := rfl
theorem mi_279 : xmi 279 = (yX12_cells, cX12_cells, 2, (some .int)) := rfl
theorem mi_280 : xmi 280 = (yX12_look, cX12_look, 5, (some .int)) := rfl
theorem mi_281 : xmi 281 = (yX12_share, cX12_share, 9, (some .long)) := rfl
theorem mi_282 : xmi 282 = (yX12_common, cX12_common, 4, (some .long)) := rfl
theorem mi_283 : xmi 283 = (yX12_chance, cX12_chance, 10, (some .long)) := rfl
theorem mi_284 : xmi 284 = (yX12_lanes, cX12_lanes, 11, (some .int)) := rfl
theorem mi_285 : xmi 285 = (yX12_needsOne, cX12_needsOne, 2, (some .boolean)) := rfl
theorem mi_286 : xmi 286 = (yX12_findNeedy, cX12_findNeedy, 2, (some .int)) := rfl
theorem mi_287 : xmi 287 = (yX12_needs, cX12_needs, 1, (some .int)) := rfl
theorem mi_288 : xmi 288 = (yX12_quarters, cX12_quarters, 4, (some .int)) := rfl
theorem mi_289 : xmi 289 = (yX12_sendFrom, cX12_sendFrom, 10, none) := rfl
theorem mi_290 : xmi 290 = (yX12_send, cX12_send, 4, (some .int)) := rfl
theorem mi_291 : xmi 291 = (yX12_putAside, cX12_putAside, 2, none) := rfl
theorem mi_292 : xmi 292 = (yX12_putBack, cX12_putBack, 2, none) := rfl
theorem mi_293 : xmi 293 = (yX12_canTry, cX12_canTry, 2, (some .boolean)) := rfl
theorem mi_294 : xmi 294 = (yX12_go, cX12_go, 3, none) := rfl
theorem mi_295 : xmi 295 = (yX12_plan, cX12_plan, 9, (some .int)) := rfl
theorem mi_296 : xmi 296 = (yX12_onTime, cX12_onTime, 3, (some .int)) := rfl
theorem mi_297 : xmi 297 = (yX12_lamps, cX12_lamps, 10, (some .int)) := rfl
theorem mi_298 : xmi 298 = (yX12_tried, cX12_tried, 3, (some .int)) := rfl
theorem mi_299 : xmi 299 = (yX12_row, cX12_row, 2, (some .int)) := rfl
theorem mi_300 : xmi 300 = (yJ6_bitCount_0f7a4, cJ6_bitCount_0f7a4, 1, (some .int)) := rfl
theorem mi_301 : xmi 301 = (yJ0_length_8abf5, cJ0_length_8abf5, 1, (some .int)) := rfl
theorem mi_302 : xmi 302 = (yJ0_indexOf_0f7a4, cJ0_indexOf_0f7a4, 2, (some .int)) := rfl
theorem mi_303 : xmi 303 = (yJ0_indexOf_7cf53, cJ0_indexOf_7cf53, 3, (some .int)) := rfl
theorem mi_304 : xmi 304 = (yJ0_coder_7d493, cJ0_coder_7d493, 1, (some .byte)) := rfl
theorem mi_305 : xmi 305 = (yJ0_isLatin1_aae02, cJ0_isLatin1_aae02, 1, (some .boolean)) := rfl
theorem mi_306 : xmi 306 = (yJ1_canEncode_9a6ad, cJ1_canEncode_9a6ad, 1, (some .boolean)) := rfl
theorem mi_307 : xmi 307 = (yJ1_indexOf_4cfef, cJ1_indexOf_4cfef, 4, (some .int)) := rfl
theorem mi_308 : xmi 308 = (yJ1_indexOfChar_4cfef, cJ1_indexOfChar_4cfef, 6, (some .int)) := rfl
theorem mi_309 : xmi 309 = (yJ7_fill_d0a16, cJ7_fill_d0a16, 5, none) := rfl
theorem mi_310 : xmi 310 = (yX7_readFields, cX7_readFields, 7, none) := rfl
