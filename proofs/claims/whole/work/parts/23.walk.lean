/-! the table of all methods; a way to walk a run -/
def xAll (P : Nat → List (Nat × xEn) → Prop) : Nat → List (List (Nat × xEn)) → Prop
  | _, [] => True
  | k, a :: l => P k a ∧ xAll P (k + 1) l
theorem xAll_at {P : Nat → List (Nat × xEn) → Prop} : ∀ {l : List (List (Nat × xEn))} {k j : Nat} {q : List (Nat × xEn)}, xAll P k l → l[j]? = some q → P (k + j) q
  | [], k, j, q, _, h => by simp at h
  | a :: l, k, 0, q, h1, h => by
    have e : a = q := by simpa using h
    rw [← e]
    exact h1.1
  | a :: l, k, j + 1, q, h1, h => by
    have h2 : l[j]? = some q := by simpa using h
    have h3 := xAll_at h1.2 h2
    rw [show k + (j + 1) = k + 1 + j by omega]
    exact h3
theorem xAll_app {P : Nat → List (Nat × xEn) → Prop} {b : List (List (Nat × xEn))} : ∀ {a : List (List (Nat × xEn))} {k : Nat}, xAll P k a → xAll P (k + a.length) b → xAll P k (a ++ b)
  | [], k, _, h => by simpa using h
  | x :: a, k, h1, h => ⟨h1.1, xAll_app h1.2 (by rw [show k + 1 + a.length = k + (x :: a).length by simp; omega]; exact h)⟩
theorem xAll_to {P : Nat → List (Nat × xEn) → Prop} {a b : List (List (Nat × xEn))} {k k2 : Nat} (h1 : xAll P k a) (hk : k + a.length = k2) (h2 : xAll P k2 b) : xAll P k (a ++ b) := xAll_app h1 (by rw [hk]; exact h2)
abbrev xPok (ev : xEv) : Nat → List (Nat × xEn) → Prop := fun j q => ∃ own nm, xMethOK ev xmi own nm j q
def xpl_0 (ev : xEv) : List (List (Nat × xEn)) := [pX0_init ev, pX0_isAheadOf ev, pX0_late ev, pX0_putAt ev, pX0_embark ev, pX0_entrain ev, pX0_addStep ev, pX0_keep ev, pX0_giveBack ev, pX0_copy ev, pX1_init ev, pX1_waits ev, pX1_begin ev, pX1_finish ev, pX1_keep ev, pX1_giveBack ev, pX1_copy ev, pX2_init ev, pX2_addField ev, pX2_addLeg ev]
theorem xpo_0 (ev : xEv) : xAll (xPok ev) 0 (xpl_0 ev) := ⟨⟨_, _, omX0_init ev⟩, ⟨⟨_, _, omX0_isAheadOf ev⟩, ⟨⟨_, _, omX0_late ev⟩, ⟨⟨_, _, omX0_putAt ev⟩, ⟨⟨_, _, omX0_embark ev⟩, ⟨⟨_, _, omX0_entrain ev⟩, ⟨⟨_, _, omX0_addStep ev⟩, ⟨⟨_, _, omX0_keep ev⟩, ⟨⟨_, _, omX0_giveBack ev⟩, ⟨⟨_, _, omX0_copy ev⟩, ⟨⟨_, _, omX1_init ev⟩, ⟨⟨_, _, omX1_waits ev⟩, ⟨⟨_, _, omX1_begin ev⟩, ⟨⟨_, _, omX1_finish ev⟩, ⟨⟨_, _, omX1_keep ev⟩, ⟨⟨_, _, omX1_giveBack ev⟩, ⟨⟨_, _, omX1_copy ev⟩, ⟨⟨_, _, omX2_init ev⟩, ⟨⟨_, _, omX2_addField ev⟩, ⟨⟨_, _, omX2_addLeg ev⟩, trivial⟩⟩⟩⟩⟩⟩⟩⟩⟩⟩⟩⟩⟩⟩⟩⟩⟩⟩⟩⟩
def xpl_1 (ev : xEv) : List (List (Nat × xEn)) := [pX2_milesBetween ev, pX2_tell ev, pX2_cloudAt ev, pX2_windAt ev, pX2_toldFor ev, pX2_bitOf ev, pX2_darkFields ev, pX2_light ev, pX2_listFields ev, pX3_init ev, pX3_addGround ev, pX3_bestGround ev, pX3_isBetter ev, pX3_mileOf ev, pX3_roughOf ev, pX3_touches ev, pX3_goal ev, pX3_nearer ev, pX3_toGo ev, pX3_cellCount ev]
theorem xpo_1 (ev : xEv) : xAll (xPok ev) 20 (xpl_1 ev) := ⟨⟨_, _, omX2_milesBetween ev⟩, ⟨⟨_, _, omX2_tell ev⟩, ⟨⟨_, _, omX2_cloudAt ev⟩, ⟨⟨_, _, omX2_windAt ev⟩, ⟨⟨_, _, omX2_toldFor ev⟩, ⟨⟨_, _, omX2_bitOf ev⟩, ⟨⟨_, _, omX2_darkFields ev⟩, ⟨⟨_, _, omX2_light ev⟩, ⟨⟨_, _, omX2_listFields ev⟩, ⟨⟨_, _, omX3_init ev⟩, ⟨⟨_, _, omX3_addGround ev⟩, ⟨⟨_, _, omX3_bestGround ev⟩, ⟨⟨_, _, omX3_isBetter ev⟩, ⟨⟨_, _, omX3_mileOf ev⟩, ⟨⟨_, _, omX3_roughOf ev⟩, ⟨⟨_, _, omX3_touches ev⟩, ⟨⟨_, _, omX3_goal ev⟩, ⟨⟨_, _, omX3_nearer ev⟩, ⟨⟨_, _, omX3_toGo ev⟩, ⟨⟨_, _, omX3_cellCount ev⟩, trivial⟩⟩⟩⟩⟩⟩⟩⟩⟩⟩⟩⟩⟩⟩⟩⟩⟩⟩⟩⟩
def xpl_2 (ev : xEv) : List (List (Nat × xEn)) := [pX3_cellAt ev, pX4_init ev, pX4_firstWrong ev, pX4_begin ev, pX4_mayEnd ev, pX4_takes ev, pX4_takesEmptyCondition ev, pX4_takesThing ev, pX4_takesBehindThing ev, pX4_takesNextDigit ev, pX4_takeNoDigits ev, pX4_takesClose ev, pX4_takesConditionEnd ev, pX4_takesChoice ev, pX4_takesOperator ev, pX4_takesAct ev, pX4_releaseDownTo ev, pX4_closeChoices ev, pX4_hold ev, pX4_drop ev]
theorem xpo_2 (ev : xEv) : xAll (xPok ev) 40 (xpl_2 ev) := ⟨⟨_, _, omX3_cellAt ev⟩, ⟨⟨_, _, omX4_init ev⟩, ⟨⟨_, _, omX4_firstWrong ev⟩, ⟨⟨_, _, omX4_begin ev⟩, ⟨⟨_, _, omX4_mayEnd ev⟩, ⟨⟨_, _, omX4_takes ev⟩, ⟨⟨_, _, omX4_takesEmptyCondition ev⟩, ⟨⟨_, _, omX4_takesThing ev⟩, ⟨⟨_, _, omX4_takesBehindThing ev⟩, ⟨⟨_, _, omX4_takesNextDigit ev⟩, ⟨⟨_, _, omX4_takeNoDigits ev⟩, ⟨⟨_, _, omX4_takesClose ev⟩, ⟨⟨_, _, omX4_takesConditionEnd ev⟩, ⟨⟨_, _, omX4_takesChoice ev⟩, ⟨⟨_, _, omX4_takesOperator ev⟩, ⟨⟨_, _, omX4_takesAct ev⟩, ⟨⟨_, _, omX4_releaseDownTo ev⟩, ⟨⟨_, _, omX4_closeChoices ev⟩, ⟨⟨_, _, omX4_hold ev⟩, ⟨⟨_, _, omX4_drop ev⟩, trivial⟩⟩⟩⟩⟩⟩⟩⟩⟩⟩⟩⟩⟩⟩⟩⟩⟩⟩⟩⟩
def xpl_3 (ev : xEv) : List (List (Nat × xEn)) := [pX4_write ev, pX4_isDigit ev, pX4_strengthOf ev, pX5_init ev, pX5_knowsLeg ev, pX5_keep ev, pX5_giveBack ev, pX5_copy ev, pX6_init ev, pX6_isAloft ev, pX6_takeOff ev, pX6_putAt ev, pX6_addLook ev, pX6_weigh ev, pX6_keep ev, pX6_giveBack ev, pX6_copy ev, pX7_init ev, pX7_quarters ev, pX7_listNeeding ev]
theorem xpo_3 (ev : xEv) : xAll (xPok ev) 60 (xpl_3 ev) := ⟨⟨_, _, omX4_write ev⟩, ⟨⟨_, _, omX4_isDigit ev⟩, ⟨⟨_, _, omX4_strengthOf ev⟩, ⟨⟨_, _, omX5_init ev⟩, ⟨⟨_, _, omX5_knowsLeg ev⟩, ⟨⟨_, _, omX5_keep ev⟩, ⟨⟨_, _, omX5_giveBack ev⟩, ⟨⟨_, _, omX5_copy ev⟩, ⟨⟨_, _, omX6_init ev⟩, ⟨⟨_, _, omX6_isAloft ev⟩, ⟨⟨_, _, omX6_takeOff ev⟩, ⟨⟨_, _, omX6_putAt ev⟩, ⟨⟨_, _, omX6_addLook ev⟩, ⟨⟨_, _, omX6_weigh ev⟩, ⟨⟨_, _, omX6_keep ev⟩, ⟨⟨_, _, omX6_giveBack ev⟩, ⟨⟨_, _, omX6_copy ev⟩, ⟨⟨_, _, omX7_init ev⟩, ⟨⟨_, _, omX7_quarters ev⟩, ⟨⟨_, _, omX7_listNeeding ev⟩, trivial⟩⟩⟩⟩⟩⟩⟩⟩⟩⟩⟩⟩⟩⟩⟩⟩⟩⟩⟩⟩
def xpl_4 (ev : xEv) : List (List (Nat × xEn)) := [pX7_share ev, pX7_price ev, pX7_offer ev, pX7_leastOfAll ev, pX8_init ev, pX8_isFull ev, pX8_add ev, pX8_inForce ev, pX8_put ev, pX8_run ev, pX8_work ev, pX8_join ev, pX9_init ev, pX9_come ev, pX9_latest ev, pX10_init ev, pX10_addBag ev, pX10_pass ev, pX10_nextBusy ev, pX10_beginQuarter ev]
theorem xpo_4 (ev : xEv) : xAll (xPok ev) 80 (xpl_4 ev) := ⟨⟨_, _, omX7_share ev⟩, ⟨⟨_, _, omX7_price ev⟩, ⟨⟨_, _, omX7_offer ev⟩, ⟨⟨_, _, omX7_leastOfAll ev⟩, ⟨⟨_, _, omX8_init ev⟩, ⟨⟨_, _, omX8_isFull ev⟩, ⟨⟨_, _, omX8_add ev⟩, ⟨⟨_, _, omX8_inForce ev⟩, ⟨⟨_, _, omX8_put ev⟩, ⟨⟨_, _, omX8_run ev⟩, ⟨⟨_, _, omX8_work ev⟩, ⟨⟨_, _, omX8_join ev⟩, ⟨⟨_, _, omX9_init ev⟩, ⟨⟨_, _, omX9_come ev⟩, ⟨⟨_, _, omX9_latest ev⟩, ⟨⟨_, _, omX10_init ev⟩, ⟨⟨_, _, omX10_addBag ev⟩, ⟨⟨_, _, omX10_pass ev⟩, ⟨⟨_, _, omX10_nextBusy ev⟩, ⟨⟨_, _, omX10_beginQuarter ev⟩, trivial⟩⟩⟩⟩⟩⟩⟩⟩⟩⟩⟩⟩⟩⟩⟩⟩⟩⟩⟩⟩
def xpl_5 (ev : xEv) : List (List (Nat × xEn)) := [pX10_isNight ev, pX10_tryStart ev, pX10_hindrance ev, pX10_carriedAtMost ev, pX10_startAct ev, pX10_putCommonLetters ev, pX10_start ev, pX10_takeBags ev, pX10_goesBy ev, pX10_fly ev, pX10_aloftAct ev, pX10_windFor ev, pX10_reachesField ev, pX10_comeIn ev, pX10_forceDown ev, pX10_unload ev, pX10_renew ev, pX10_bagsGiven ev, pX10_planesDown ev, pX10_weightOn ev]
theorem xpo_5 (ev : xEv) : xAll (xPok ev) 100 (xpl_5 ev) := ⟨⟨_, _, omX10_isNight ev⟩, ⟨⟨_, _, omX10_tryStart ev⟩, ⟨⟨_, _, omX10_hindrance ev⟩, ⟨⟨_, _, omX10_carriedAtMost ev⟩, ⟨⟨_, _, omX10_startAct ev⟩, ⟨⟨_, _, omX10_putCommonLetters ev⟩, ⟨⟨_, _, omX10_start ev⟩, ⟨⟨_, _, omX10_takeBags ev⟩, ⟨⟨_, _, omX10_goesBy ev⟩, ⟨⟨_, _, omX10_fly ev⟩, ⟨⟨_, _, omX10_aloftAct ev⟩, ⟨⟨_, _, omX10_windFor ev⟩, ⟨⟨_, _, omX10_reachesField ev⟩, ⟨⟨_, _, omX10_comeIn ev⟩, ⟨⟨_, _, omX10_forceDown ev⟩, ⟨⟨_, _, omX10_unload ev⟩, ⟨⟨_, _, omX10_renew ev⟩, ⟨⟨_, _, omX10_bagsGiven ev⟩, ⟨⟨_, _, omX10_planesDown ev⟩, ⟨⟨_, _, omX10_weightOn ev⟩, trivial⟩⟩⟩⟩⟩⟩⟩⟩⟩⟩⟩⟩⟩⟩⟩⟩⟩⟩⟩⟩
def xpl_6 (ev : xEv) : List (List (Nat × xEn)) := [pX10_coinNow ev, pX10_payByDay ev, pX10_payBy ev, pX10_listWaiting ev, pX10_giveUpOthers ev, pX10_keep ev, pX10_giveBack ev, pX11_init ev, pX11_field ev, pX11_lamp ev, pX11_leg ev, pX11_ground ev, pX11_far ev, pX11_weather ev, pX11_sky ev, pX11_word ev, pX11_heard ev, pX11_plane ev, pX11_engine ev, pX11_pilot ev]
theorem xpo_6 (ev : xEv) : xAll (xPok ev) 120 (xpl_6 ev) := ⟨⟨_, _, omX10_coinNow ev⟩, ⟨⟨_, _, omX10_payByDay ev⟩, ⟨⟨_, _, omX10_payBy ev⟩, ⟨⟨_, _, omX10_listWaiting ev⟩, ⟨⟨_, _, omX10_giveUpOthers ev⟩, ⟨⟨_, _, omX10_keep ev⟩, ⟨⟨_, _, omX10_giveBack ev⟩, ⟨⟨_, _, omX11_init ev⟩, ⟨⟨_, _, omX11_field ev⟩, ⟨⟨_, _, omX11_lamp ev⟩, ⟨⟨_, _, omX11_leg ev⟩, ⟨⟨_, _, omX11_ground ev⟩, ⟨⟨_, _, omX11_far ev⟩, ⟨⟨_, _, omX11_weather ev⟩, ⟨⟨_, _, omX11_sky ev⟩, ⟨⟨_, _, omX11_word ev⟩, ⟨⟨_, _, omX11_heard ev⟩, ⟨⟨_, _, omX11_plane ev⟩, ⟨⟨_, _, omX11_engine ev⟩, ⟨⟨_, _, omX11_pilot ev⟩, trivial⟩⟩⟩⟩⟩⟩⟩⟩⟩⟩⟩⟩⟩⟩⟩⟩⟩⟩⟩⟩
def xpl_7 (ev : xEv) : List (List (Nat × xEn)) := [pX11_learns ev, pX11_bag ev, pX11_train ev, pX11_set ev, pX11_sign ev, pX11_end ev, pX11_force ev, pX11_mayForce ev, pX11_flight ev, pX11_cancel ev, pX11_step ev, pX11_may ev, pX11_why ev, pX11_count ev, pX11_of ev, pX11_who ev, pX11_where ev, pX11_flown ev, pX11_lead ev, pX11_judge ev]
theorem xpo_7 (ev : xEv) : xAll (xPok ev) 140 (xpl_7 ev) := ⟨⟨_, _, omX11_learns ev⟩, ⟨⟨_, _, omX11_bag ev⟩, ⟨⟨_, _, omX11_train ev⟩, ⟨⟨_, _, omX11_set ev⟩, ⟨⟨_, _, omX11_sign ev⟩, ⟨⟨_, _, omX11_end ev⟩, ⟨⟨_, _, omX11_force ev⟩, ⟨⟨_, _, omX11_mayForce ev⟩, ⟨⟨_, _, omX11_flight ev⟩, ⟨⟨_, _, omX11_cancel ev⟩, ⟨⟨_, _, omX11_step ev⟩, ⟨⟨_, _, omX11_may ev⟩, ⟨⟨_, _, omX11_why ev⟩, ⟨⟨_, _, omX11_count ev⟩, ⟨⟨_, _, omX11_of ev⟩, ⟨⟨_, _, omX11_who ev⟩, ⟨⟨_, _, omX11_where ev⟩, ⟨⟨_, _, omX11_flown ev⟩, ⟨⟨_, _, omX11_lead ev⟩, ⟨⟨_, _, omX11_judge ev⟩, trivial⟩⟩⟩⟩⟩⟩⟩⟩⟩⟩⟩⟩⟩⟩⟩⟩⟩⟩⟩⟩
def xpl_8 (ev : xEv) : List (List (Nat × xEn)) := [pX11_coin ev, pX11_find ev, pX11_look ev, pX11_chance ev, pX11_lanes ev, pX11_weighCells ev, pX11_needs ev, pX11_send ev, pX11_plan ev, pX11_lamps ev, pX11_tried ev, pX11_row ev, pX11_mayTry ev, pX11_isField ev, pX11_isLeg ev, pX11_isPlane ev, pX11_isPilot ev, pX11_isBag ev, pX11_isFlight ev, pX11_isDown ev]
theorem xpo_8 (ev : xEv) : xAll (xPok ev) 160 (xpl_8 ev) := ⟨⟨_, _, omX11_coin ev⟩, ⟨⟨_, _, omX11_find ev⟩, ⟨⟨_, _, omX11_look ev⟩, ⟨⟨_, _, omX11_chance ev⟩, ⟨⟨_, _, omX11_lanes ev⟩, ⟨⟨_, _, omX11_weighCells ev⟩, ⟨⟨_, _, omX11_needs ev⟩, ⟨⟨_, _, omX11_send ev⟩, ⟨⟨_, _, omX11_plan ev⟩, ⟨⟨_, _, omX11_lamps ev⟩, ⟨⟨_, _, omX11_tried ev⟩, ⟨⟨_, _, omX11_row ev⟩, ⟨⟨_, _, omX11_mayTry ev⟩, ⟨⟨_, _, omX11_isField ev⟩, ⟨⟨_, _, omX11_isLeg ev⟩, ⟨⟨_, _, omX11_isPlane ev⟩, ⟨⟨_, _, omX11_isPilot ev⟩, ⟨⟨_, _, omX11_isBag ev⟩, ⟨⟨_, _, omX11_isFlight ev⟩, ⟨⟨_, _, omX11_isDown ev⟩, trivial⟩⟩⟩⟩⟩⟩⟩⟩⟩⟩⟩⟩⟩⟩⟩⟩⟩⟩⟩⟩
def xpl_9 (ev : xEv) : List (List (Nat × xEn)) := [pX11_isCell ev, pX11_isQuarter ev, pX11_isWeather ev, pX11_within ev, pX11_roundUp ev, pX11_commonDivisor ev, pX12_init ev, pX12_thrown ev, pX12_in ev, pX12_lost ev, pX12_isField ev, pX12_isLeg ev, pX12_isPlane ev, pX12_isPilot ev, pX12_isBag ev, pX12_plane ev, pX12_plane_ ev, pX12_pilotOf ev, pX12_setPilot ev, pX12_bagOf ev]
theorem xpo_9 (ev : xEv) : xAll (xPok ev) 180 (xpl_9 ev) := ⟨⟨_, _, omX11_isCell ev⟩, ⟨⟨_, _, omX11_isQuarter ev⟩, ⟨⟨_, _, omX11_isWeather ev⟩, ⟨⟨_, _, omX11_within ev⟩, ⟨⟨_, _, omX11_roundUp ev⟩, ⟨⟨_, _, omX11_commonDivisor ev⟩, ⟨⟨_, _, omX12_init ev⟩, ⟨⟨_, _, omX12_thrown ev⟩, ⟨⟨_, _, omX12_in ev⟩, ⟨⟨_, _, omX12_lost ev⟩, ⟨⟨_, _, omX12_isField ev⟩, ⟨⟨_, _, omX12_isLeg ev⟩, ⟨⟨_, _, omX12_isPlane ev⟩, ⟨⟨_, _, omX12_isPilot ev⟩, ⟨⟨_, _, omX12_isBag ev⟩, ⟨⟨_, _, omX12_plane ev⟩, ⟨⟨_, _, omX12_plane_ ev⟩, ⟨⟨_, _, omX12_pilotOf ev⟩, ⟨⟨_, _, omX12_setPilot ev⟩, ⟨⟨_, _, omX12_bagOf ev⟩, trivial⟩⟩⟩⟩⟩⟩⟩⟩⟩⟩⟩⟩⟩⟩⟩⟩⟩⟩⟩⟩
def xpl_10 (ev : xEv) : List (List (Nat × xEn)) := [pX12_setBag ev, pX12_flightOf ev, pX12_setFlight ev, pX12_hasLamp ev, pX12_isDark ev, pX12_field ev, pX12_lamp ev, pX12_leg ev, pX12_ground ev, pX12_far ev, pX12_weather ev, pX12_sky ev, pX12_cloud ev, pX12_wind ev, pX12_sky_ ev, pX12_say ev, pX12_word ev, pX12_wordAt ev, pX12_heard ev, pX12_plane__ ev]
theorem xpo_10 (ev : xEv) : xAll (xPok ev) 200 (xpl_10 ev) := ⟨⟨_, _, omX12_setBag ev⟩, ⟨⟨_, _, omX12_flightOf ev⟩, ⟨⟨_, _, omX12_setFlight ev⟩, ⟨⟨_, _, omX12_hasLamp ev⟩, ⟨⟨_, _, omX12_isDark ev⟩, ⟨⟨_, _, omX12_field ev⟩, ⟨⟨_, _, omX12_lamp ev⟩, ⟨⟨_, _, omX12_leg ev⟩, ⟨⟨_, _, omX12_ground ev⟩, ⟨⟨_, _, omX12_far ev⟩, ⟨⟨_, _, omX12_weather ev⟩, ⟨⟨_, _, omX12_sky ev⟩, ⟨⟨_, _, omX12_cloud ev⟩, ⟨⟨_, _, omX12_wind ev⟩, ⟨⟨_, _, omX12_sky_ ev⟩, ⟨⟨_, _, omX12_say ev⟩, ⟨⟨_, _, omX12_word ev⟩, ⟨⟨_, _, omX12_wordAt ev⟩, ⟨⟨_, _, omX12_heard ev⟩, ⟨⟨_, _, omX12_plane__ ev⟩, trivial⟩⟩⟩⟩⟩⟩⟩⟩⟩⟩⟩⟩⟩⟩⟩⟩⟩⟩⟩⟩
def xpl_11 (ev : xEv) : List (List (Nat × xEn)) := [pX12_engine ev, pX12_pilot ev, pX12_learns ev, pX12_led ev, pX12_bag ev, pX12_arrive ev, pX12_up ev, pX12_train ev, pX12_set ev, pX12_sign ev, pX12_end ev, pX12_here ev, pX12_comes ev, pX12_isWrong ev, pX12_isDigit ev, pX12_any ev, pX12_both ev, pX12_held ev, pX12_sum ev, pX12_product ev]
theorem xpo_11 (ev : xEv) : xAll (xPok ev) 220 (xpl_11 ev) := ⟨⟨_, _, omX12_engine ev⟩, ⟨⟨_, _, omX12_pilot ev⟩, ⟨⟨_, _, omX12_learns ev⟩, ⟨⟨_, _, omX12_led ev⟩, ⟨⟨_, _, omX12_bag ev⟩, ⟨⟨_, _, omX12_arrive ev⟩, ⟨⟨_, _, omX12_up ev⟩, ⟨⟨_, _, omX12_train ev⟩, ⟨⟨_, _, omX12_set ev⟩, ⟨⟨_, _, omX12_sign ev⟩, ⟨⟨_, _, omX12_end ev⟩, ⟨⟨_, _, omX12_here ev⟩, ⟨⟨_, _, omX12_comes ev⟩, ⟨⟨_, _, omX12_isWrong ev⟩, ⟨⟨_, _, omX12_isDigit ev⟩, ⟨⟨_, _, omX12_any ev⟩, ⟨⟨_, _, omX12_both ev⟩, ⟨⟨_, _, omX12_held ev⟩, ⟨⟨_, _, omX12_sum ev⟩, ⟨⟨_, _, omX12_product ev⟩, trivial⟩⟩⟩⟩⟩⟩⟩⟩⟩⟩⟩⟩⟩⟩⟩⟩⟩⟩⟩⟩
def xpl_12 (ev : xEv) : List (List (Nat × xEn)) := [pX12_ahead ev, pX12_choice ev, pX12_lines ev, pX12_actsOf ev, pX12_open ev, pX12_force ev, pX12_textOf ev, pX12_act ev, pX12_flight ev, pX12_waits ev, pX12_endFlight ev, pX12_cancel ev, pX12_carries ev, pX12_whyNot ev, pX12_tell ev, pX12_start ev, pX12_forced ev, pX12_comeTo ev, pX12_land ev, pX12_isAloft ev]
theorem xpo_12 (ev : xEv) : xAll (xPok ev) 240 (xpl_12 ev) := ⟨⟨_, _, omX12_ahead ev⟩, ⟨⟨_, _, omX12_choice ev⟩, ⟨⟨_, _, omX12_lines ev⟩, ⟨⟨_, _, omX12_actsOf ev⟩, ⟨⟨_, _, omX12_open ev⟩, ⟨⟨_, _, omX12_force ev⟩, ⟨⟨_, _, omX12_textOf ev⟩, ⟨⟨_, _, omX12_act ev⟩, ⟨⟨_, _, omX12_flight ev⟩, ⟨⟨_, _, omX12_waits ev⟩, ⟨⟨_, _, omX12_endFlight ev⟩, ⟨⟨_, _, omX12_cancel ev⟩, ⟨⟨_, _, omX12_carries ev⟩, ⟨⟨_, _, omX12_whyNot ev⟩, ⟨⟨_, _, omX12_tell ev⟩, ⟨⟨_, _, omX12_start ev⟩, ⟨⟨_, _, omX12_forced ev⟩, ⟨⟨_, _, omX12_comeTo ev⟩, ⟨⟨_, _, omX12_land ev⟩, ⟨⟨_, _, omX12_isAloft ev⟩, trivial⟩⟩⟩⟩⟩⟩⟩⟩⟩⟩⟩⟩⟩⟩⟩⟩⟩⟩⟩⟩
def xpl_13 (ev : xEv) : List (List (Nat × xEn)) := [pX12_fly ev, pX12_goQuarter ev, pX12_step ev, pX12_may ev, pX12_why ev, pX12_given ev, pX12_count ev, pX12_of ev, pX12_who ev, pX12_payBy ev, pX12_payOf ev, pX12_where ev, pX12_flown ev, pX12_lead ev, pX12_judge ev, pX12_coinNow ev, pX12_coin ev, pX12_isDown ev, pX12_find ev, pX12_cells ev]
theorem xpo_13 (ev : xEv) : xAll (xPok ev) 260 (xpl_13 ev) := ⟨⟨_, _, omX12_fly ev⟩, ⟨⟨_, _, omX12_goQuarter ev⟩, ⟨⟨_, _, omX12_step ev⟩, ⟨⟨_, _, omX12_may ev⟩, ⟨⟨_, _, omX12_why ev⟩, ⟨⟨_, _, omX12_given ev⟩, ⟨⟨_, _, omX12_count ev⟩, ⟨⟨_, _, omX12_of ev⟩, ⟨⟨_, _, omX12_who ev⟩, ⟨⟨_, _, omX12_payBy ev⟩, ⟨⟨_, _, omX12_payOf ev⟩, ⟨⟨_, _, omX12_where ev⟩, ⟨⟨_, _, omX12_flown ev⟩, ⟨⟨_, _, omX12_lead ev⟩, ⟨⟨_, _, omX12_judge ev⟩, ⟨⟨_, _, omX12_coinNow ev⟩, ⟨⟨_, _, omX12_coin ev⟩, ⟨⟨_, _, omX12_isDown ev⟩, ⟨⟨_, _, omX12_find ev⟩, ⟨⟨_, _, omX12_cells ev⟩, trivial⟩⟩⟩⟩⟩⟩⟩⟩⟩⟩⟩⟩⟩⟩⟩⟩⟩⟩⟩⟩
def xpl_14 (ev : xEv) : List (List (Nat × xEn)) := [pX12_look ev, pX12_share ev, pX12_common ev, pX12_chance ev, pX12_lanes ev, pX12_needsOne ev, pX12_findNeedy ev, pX12_needs ev, pX12_quarters ev, pX12_sendFrom ev, pX12_send ev, pX12_putAside ev, pX12_putBack ev, pX12_canTry ev, pX12_go ev, pX12_plan ev, pX12_onTime ev, pX12_lamps ev, pX12_tried ev, pX12_row ev]
theorem xpo_14 (ev : xEv) : xAll (xPok ev) 280 (xpl_14 ev) := ⟨⟨_, _, omX12_look ev⟩, ⟨⟨_, _, omX12_share ev⟩, ⟨⟨_, _, omX12_common ev⟩, ⟨⟨_, _, omX12_chance ev⟩, ⟨⟨_, _, omX12_lanes ev⟩, ⟨⟨_, _, omX12_needsOne ev⟩, ⟨⟨_, _, omX12_findNeedy ev⟩, ⟨⟨_, _, omX12_needs ev⟩, ⟨⟨_, _, omX12_quarters ev⟩, ⟨⟨_, _, omX12_sendFrom ev⟩, ⟨⟨_, _, omX12_send ev⟩, ⟨⟨_, _, omX12_putAside ev⟩, ⟨⟨_, _, omX12_putBack ev⟩, ⟨⟨_, _, omX12_canTry ev⟩, ⟨⟨_, _, omX12_go ev⟩, ⟨⟨_, _, omX12_plan ev⟩, ⟨⟨_, _, omX12_onTime ev⟩, ⟨⟨_, _, omX12_lamps ev⟩, ⟨⟨_, _, omX12_tried ev⟩, ⟨⟨_, _, omX12_row ev⟩, trivial⟩⟩⟩⟩⟩⟩⟩⟩⟩⟩⟩⟩⟩⟩⟩⟩⟩⟩⟩⟩
def xpl_15 (ev : xEv) : List (List (Nat × xEn)) := [pJ6_bitCount_0f7a4 ev, pJ0_length_8abf5 ev, pJ0_indexOf_0f7a4 ev, pJ0_indexOf_7cf53 ev, pJ0_coder_7d493 ev, pJ0_isLatin1_aae02 ev, pJ1_canEncode_9a6ad ev, pJ1_indexOf_4cfef ev, pJ1_indexOfChar_4cfef ev, pJ7_fill_d0a16 ev, pX7_readFields ev]
theorem xpo_15 (ev : xEv) : xAll (xPok ev) 300 (xpl_15 ev) := ⟨⟨_, _, omJ6_bitCount_0f7a4 ev⟩, ⟨⟨_, _, omJ0_length_8abf5 ev⟩, ⟨⟨_, _, omJ0_indexOf_0f7a4 ev⟩, ⟨⟨_, _, omJ0_indexOf_7cf53 ev⟩, ⟨⟨_, _, omJ0_coder_7d493 ev⟩, ⟨⟨_, _, omJ0_isLatin1_aae02 ev⟩, ⟨⟨_, _, omJ1_canEncode_9a6ad ev⟩, ⟨⟨_, _, omJ1_indexOf_4cfef ev⟩, ⟨⟨_, _, omJ1_indexOfChar_4cfef ev⟩, ⟨⟨_, _, omJ7_fill_d0a16 ev⟩, ⟨⟨_, _, omX7_readFields ev⟩, trivial⟩⟩⟩⟩⟩⟩⟩⟩⟩⟩⟩
def xprogL (ev : xEv) : List (List (Nat × xEn)) := xpl_0 ev ++ (xpl_1 ev ++ (xpl_2 ev ++ (xpl_3 ev ++ (xpl_4 ev ++ (xpl_5 ev ++ (xpl_6 ev ++ (xpl_7 ev ++ (xpl_8 ev ++ (xpl_9 ev ++ (xpl_10 ev ++ (xpl_11 ev ++ (xpl_12 ev ++ (xpl_13 ev ++ (xpl_14 ev ++ (xpl_15 ev)))))))))))))))
theorem xpn_0 (ev : xEv) : 0 + (xpl_0 ev).length = 20 := rfl
theorem xpn_1 (ev : xEv) : 20 + (xpl_1 ev).length = 40 := rfl
theorem xpn_2 (ev : xEv) : 40 + (xpl_2 ev).length = 60 := rfl
theorem xpn_3 (ev : xEv) : 60 + (xpl_3 ev).length = 80 := rfl
theorem xpn_4 (ev : xEv) : 80 + (xpl_4 ev).length = 100 := rfl
theorem xpn_5 (ev : xEv) : 100 + (xpl_5 ev).length = 120 := rfl
theorem xpn_6 (ev : xEv) : 120 + (xpl_6 ev).length = 140 := rfl
theorem xpn_7 (ev : xEv) : 140 + (xpl_7 ev).length = 160 := rfl
theorem xpn_8 (ev : xEv) : 160 + (xpl_8 ev).length = 180 := rfl
theorem xpn_9 (ev : xEv) : 180 + (xpl_9 ev).length = 200 := rfl
theorem xpn_10 (ev : xEv) : 200 + (xpl_10 ev).length = 220 := rfl
theorem xpn_11 (ev : xEv) : 220 + (xpl_11 ev).length = 240 := rfl
theorem xpn_12 (ev : xEv) : 240 + (xpl_12 ev).length = 260 := rfl
theorem xpn_13 (ev : xEv) : 260 + (xpl_13 ev).length = 280 := rfl
theorem xpn_14 (ev : xEv) : 280 + (xpl_14 ev).length = 300 := rfl
theorem xpn_15 (ev : xEv) : 300 + (xpl_15 ev).length = 311 := rfl
set_option maxRecDepth 20000 in
theorem xprogL_ok (ev : xEv) : xAll (xPok ev) 0 (xprogL ev) := xAll_to (xpo_0 ev) (xpn_0 ev) (xAll_to (xpo_1 ev) (xpn_1 ev) (xAll_to (xpo_2 ev) (xpn_2 ev) (xAll_to (xpo_3 ev) (xpn_3 ev) (xAll_to (xpo_4 ev) (xpn_4 ev) (xAll_to (xpo_5 ev) (xpn_5 ev) (xAll_to (xpo_6 ev) (xpn_6 ev) (xAll_to (xpo_7 ev) (xpn_7 ev) (xAll_to (xpo_8 ev) (xpn_8 ev) (xAll_to (xpo_9 ev) (xpn_9 ev) (xAll_to (xpo_10 ev) (xpn_10 ev) (xAll_to (xpo_11 ev) (xpn_11 ev) (xAll_to (xpo_12 ev) (xpn_12 ev) (xAll_to (xpo_13 ev) (xpn_13 ev) (xAll_to (xpo_14 ev) (xpn_14 ev) (xpo_15 ev)))))))))))))))
def xprog (ev : xEv) : Nat → List (Nat × xEn) := fun j => ((xprogL ev)[j]?).getD []
theorem pg_0 (ev : xEv) : xprog ev 0 = pX0_init ev := rfl
theorem pg_1 (ev : xEv) : xprog ev 1 = pX0_isAheadOf ev := rfl
theorem pg_2 (ev : xEv) : xprog ev 2 = pX0_late ev := rfl
theorem pg_3 (ev : xEv) : xprog ev 3 = pX0_putAt ev := rfl
theorem pg_4 (ev : xEv) : xprog ev 4 = pX0_embark ev := rfl
theorem pg_5 (ev : xEv) : xprog ev 5 = pX0_entrain ev := rfl
theorem pg_6 (ev : xEv) : xprog ev 6 = pX0_addStep ev := rfl
theorem pg_7 (ev : xEv) : xprog ev 7 = pX0_keep ev := rfl
theorem pg_8 (ev : xEv) : xprog ev 8 = pX0_giveBack ev := rfl
theorem pg_9 (ev : xEv) : xprog ev 9 = pX0_copy ev := rfl
theorem pg_10 (ev : xEv) : xprog ev 10 = pX1_init ev := rfl
theorem pg_11 (ev : xEv) : xprog ev 11 = pX1_waits ev := rfl
theorem pg_12 (ev : xEv) : xprog ev 12 = pX1_begin ev := rfl
theorem pg_13 (ev : xEv) : xprog ev 13 = pX1_finish ev := rfl
theorem pg_14 (ev : xEv) : xprog ev 14 = pX1_keep ev := rfl
theorem pg_15 (ev : xEv) : xprog ev 15 = pX1_giveBack ev := rfl
theorem pg_16 (ev : xEv) : xprog ev 16 = pX1_copy ev := rfl
theorem pg_17 (ev : xEv) : xprog ev 17 = pX2_init ev := rfl
theorem pg_18 (ev : xEv) : xprog ev 18 = pX2_addField ev := rfl
theorem pg_19 (ev : xEv) : xprog ev 19 = pX2_addLeg ev := rfl
theorem pg_20 (ev : xEv) : xprog ev 20 = pX2_milesBetween ev := rfl
theorem pg_21 (ev : xEv) : xprog ev 21 = pX2_tell ev := rfl
theorem pg_22 (ev : xEv) : xprog ev 22 = pX2_cloudAt ev := rfl
theorem pg_23 (ev : xEv) : xprog ev 23 = pX2_windAt ev := rfl
theorem pg_24 (ev : xEv) : xprog ev 24 = pX2_toldFor ev := rfl
theorem pg_25 (ev : xEv) : xprog ev 25 = pX2_bitOf ev := rfl
theorem pg_26 (ev : xEv) : xprog ev 26 = pX2_darkFields ev := rfl
theorem pg_27 (ev : xEv) : xprog ev 27 = pX2_light ev := rfl
theorem pg_28 (ev : xEv) : xprog ev 28 = pX2_listFields ev := rfl
theorem pg_29 (ev : xEv) : xprog ev 29 = pX3_init ev := rfl
theorem pg_30 (ev : xEv) : xprog ev 30 = pX3_addGround ev := rfl
theorem pg_31 (ev : xEv) : xprog ev 31 = pX3_bestGround ev := rfl
theorem pg_32 (ev : xEv) : xprog ev 32 = pX3_isBetter ev := rfl
theorem pg_33 (ev : xEv) : xprog ev 33 = pX3_mileOf ev := rfl
theorem pg_34 (ev : xEv) : xprog ev 34 = pX3_roughOf ev := rfl
theorem pg_35 (ev : xEv) : xprog ev 35 = pX3_touches ev := rfl
theorem pg_36 (ev : xEv) : xprog ev 36 = pX3_goal ev := rfl
theorem pg_37 (ev : xEv) : xprog ev 37 = pX3_nearer ev := rfl
theorem pg_38 (ev : xEv) : xprog ev 38 = pX3_toGo ev := rfl
theorem pg_39 (ev : xEv) : xprog ev 39 = pX3_cellCount ev := rfl
theorem pg_40 (ev : xEv) : xprog ev 40 = pX3_cellAt ev := rfl
theorem pg_41 (ev : xEv) : xprog ev 41 = pX4_init ev := rfl
theorem pg_42 (ev : xEv) : xprog ev 42 = pX4_firstWrong ev := rfl
theorem pg_43 (ev : xEv) : xprog ev 43 = pX4_begin ev := rfl
theorem pg_44 (ev : xEv) : xprog ev 44 = pX4_mayEnd ev := rfl
theorem pg_45 (ev : xEv) : xprog ev 45 = pX4_takes ev := rfl
theorem pg_46 (ev : xEv) : xprog ev 46 = pX4_takesEmptyCondition ev := rfl
theorem pg_47 (ev : xEv) : xprog ev 47 = pX4_takesThing ev := rfl
theorem pg_48 (ev : xEv) : xprog ev 48 = pX4_takesBehindThing ev := rfl
theorem pg_49 (ev : xEv) : xprog ev 49 = pX4_takesNextDigit ev := rfl
theorem pg_50 (ev : xEv) : xprog ev 50 = pX4_takeNoDigits ev := rfl
theorem pg_51 (ev : xEv) : xprog ev 51 = pX4_takesClose ev := rfl
theorem pg_52 (ev : xEv) : xprog ev 52 = pX4_takesConditionEnd ev := rfl
theorem pg_53 (ev : xEv) : xprog ev 53 = pX4_takesChoice ev := rfl
theorem pg_54 (ev : xEv) : xprog ev 54 = pX4_takesOperator ev := rfl
theorem pg_55 (ev : xEv) : xprog ev 55 = pX4_takesAct ev := rfl
theorem pg_56 (ev : xEv) : xprog ev 56 = pX4_releaseDownTo ev := rfl
theorem pg_57 (ev : xEv) : xprog ev 57 = pX4_closeChoices ev := rfl
theorem pg_58 (ev : xEv) : xprog ev 58 = pX4_hold ev := rfl
theorem pg_59 (ev : xEv) : xprog ev 59 = pX4_drop ev := rfl
theorem pg_60 (ev : xEv) : xprog ev 60 = pX4_write ev := rfl
theorem pg_61 (ev : xEv) : xprog ev 61 = pX4_isDigit ev := rfl
theorem pg_62 (ev : xEv) : xprog ev 62 = pX4_strengthOf ev := rfl
theorem pg_63 (ev : xEv) : xprog ev 63 = pX5_init ev := rfl
theorem pg_64 (ev : xEv) : xprog ev 64 = pX5_knowsLeg ev := rfl
theorem pg_65 (ev : xEv) : xprog ev 65 = pX5_keep ev := rfl
theorem pg_66 (ev : xEv) : xprog ev 66 = pX5_giveBack ev := rfl
theorem pg_67 (ev : xEv) : xprog ev 67 = pX5_copy ev := rfl
theorem pg_68 (ev : xEv) : xprog ev 68 = pX6_init ev := rfl
theorem pg_69 (ev : xEv) : xprog ev 69 = pX6_isAloft ev := rfl
theorem pg_70 (ev : xEv) : xprog ev 70 = pX6_takeOff ev := rfl
theorem pg_71 (ev : xEv) : xprog ev 71 = pX6_putAt ev := rfl
theorem pg_72 (ev : xEv) : xprog ev 72 = pX6_addLook ev := rfl
theorem pg_73 (ev : xEv) : xprog ev 73 = pX6_weigh ev := rfl
theorem pg_74 (ev : xEv) : xprog ev 74 = pX6_keep ev := rfl
theorem pg_75 (ev : xEv) : xprog ev 75 = pX6_giveBack ev := rfl
theorem pg_76 (ev : xEv) : xprog ev 76 = pX6_copy ev := rfl
theorem pg_77 (ev : xEv) : xprog ev 77 = pX7_init ev := rfl
theorem pg_78 (ev : xEv) : xprog ev 78 = pX7_quarters ev := rfl
theorem pg_79 (ev : xEv) : xprog ev 79 = pX7_listNeeding ev := rfl
theorem pg_80 (ev : xEv) : xprog ev 80 = pX7_share ev := rfl
theorem pg_81 (ev : xEv) : xprog ev 81 = pX7_price ev := rfl
theorem pg_82 (ev : xEv) : xprog ev 82 = pX7_offer ev := rfl
theorem pg_83 (ev : xEv) : xprog ev 83 = pX7_leastOfAll ev := rfl
theorem pg_84 (ev : xEv) : xprog ev 84 = pX8_init ev := rfl
theorem pg_85 (ev : xEv) : xprog ev 85 = pX8_isFull ev := rfl
theorem pg_86 (ev : xEv) : xprog ev 86 = pX8_add ev := rfl
theorem pg_87 (ev : xEv) : xprog ev 87 = pX8_inForce ev := rfl
theorem pg_88 (ev : xEv) : xprog ev 88 = pX8_put ev := rfl
theorem pg_89 (ev : xEv) : xprog ev 89 = pX8_run ev := rfl
theorem pg_90 (ev : xEv) : xprog ev 90 = pX8_work ev := rfl
theorem pg_91 (ev : xEv) : xprog ev 91 = pX8_join ev := rfl
theorem pg_92 (ev : xEv) : xprog ev 92 = pX9_init ev := rfl
theorem pg_93 (ev : xEv) : xprog ev 93 = pX9_come ev := rfl
theorem pg_94 (ev : xEv) : xprog ev 94 = pX9_latest ev := rfl
theorem pg_95 (ev : xEv) : xprog ev 95 = pX10_init ev := rfl
theorem pg_96 (ev : xEv) : xprog ev 96 = pX10_addBag ev := rfl
theorem pg_97 (ev : xEv) : xprog ev 97 = pX10_pass ev := rfl
theorem pg_98 (ev : xEv) : xprog ev 98 = pX10_nextBusy ev := rfl
theorem pg_99 (ev : xEv) : xprog ev 99 = pX10_beginQuarter ev := rfl
theorem pg_100 (ev : xEv) : xprog ev 100 = pX10_isNight ev := rfl
theorem pg_101 (ev : xEv) : xprog ev 101 = pX10_tryStart ev := rfl
theorem pg_102 (ev : xEv) : xprog ev 102 = pX10_hindrance ev := rfl
theorem pg_103 (ev : xEv) : xprog ev 103 = pX10_carriedAtMost ev := rfl
theorem pg_104 (ev : xEv) : xprog ev 104 = pX10_startAct ev := rfl
theorem pg_105 (ev : xEv) : xprog ev 105 = pX10_putCommonLetters ev := rfl
theorem pg_106 (ev : xEv) : xprog ev 106 = pX10_start ev := rfl
theorem pg_107 (ev : xEv) : xprog ev 107 = pX10_takeBags ev := rfl
theorem pg_108 (ev : xEv) : xprog ev 108 = pX10_goesBy ev := rfl
theorem pg_109 (ev : xEv) : xprog ev 109 = pX10_fly ev := rfl
theorem pg_110 (ev : xEv) : xprog ev 110 = pX10_aloftAct ev := rfl
theorem pg_111 (ev : xEv) : xprog ev 111 = pX10_windFor ev := rfl
theorem pg_112 (ev : xEv) : xprog ev 112 = pX10_reachesField ev := rfl
theorem pg_113 (ev : xEv) : xprog ev 113 = pX10_comeIn ev := rfl
theorem pg_114 (ev : xEv) : xprog ev 114 = pX10_forceDown ev := rfl
theorem pg_115 (ev : xEv) : xprog ev 115 = pX10_unload ev := rfl
theorem pg_116 (ev : xEv) : xprog ev 116 = pX10_renew ev := rfl
theorem pg_117 (ev : xEv) : xprog ev 117 = pX10_bagsGiven ev := rfl
theorem pg_118 (ev : xEv) : xprog ev 118 = pX10_planesDown ev := rfl
theorem pg_119 (ev : xEv) : xprog ev 119 = pX10_weightOn ev := rfl
theorem pg_120 (ev : xEv) : xprog ev 120 = pX10_coinNow ev := rfl
theorem pg_121 (ev : xEv) : xprog ev 121 = pX10_payByDay ev := rfl
theorem pg_122 (ev : xEv) : xprog ev 122 = pX10_payBy ev := rfl
theorem pg_123 (ev : xEv) : xprog ev 123 = pX10_listWaiting ev := rfl
theorem pg_124 (ev : xEv) : xprog ev 124 = pX10_giveUpOthers ev := rfl
theorem pg_125 (ev : xEv) : xprog ev 125 = pX10_keep ev := rfl
theorem pg_126 (ev : xEv) : xprog ev 126 = pX10_giveBack ev := rfl
theorem pg_127 (ev : xEv) : xprog ev 127 = pX11_init ev := rfl
theorem pg_128 (ev : xEv) : xprog ev 128 = pX11_field ev := rfl
theorem pg_129 (ev : xEv) : xprog ev 129 = pX11_lamp ev := rfl
theorem pg_130 (ev : xEv) : xprog ev 130 = pX11_leg ev := rfl
theorem pg_131 (ev : xEv) : xprog ev 131 = pX11_ground ev := rfl
theorem pg_132 (ev : xEv) : xprog ev 132 = pX11_far ev := rfl
theorem pg_133 (ev : xEv) : xprog ev 133 = pX11_weather ev := rfl
theorem pg_134 (ev : xEv) : xprog ev 134 = pX11_sky ev := rfl
theorem pg_135 (ev : xEv) : xprog ev 135 = pX11_word ev := rfl
theorem pg_136 (ev : xEv) : xprog ev 136 = pX11_heard ev := rfl
theorem pg_137 (ev : xEv) : xprog ev 137 = pX11_plane ev := rfl
theorem pg_138 (ev : xEv) : xprog ev 138 = pX11_engine ev := rfl
theorem pg_139 (ev : xEv) : xprog ev 139 = pX11_pilot ev := rfl
theorem pg_140 (ev : xEv) : xprog ev 140 = pX11_learns ev := rfl
theorem pg_141 (ev : xEv) : xprog ev 141 = pX11_bag ev := rfl
theorem pg_142 (ev : xEv) : xprog ev 142 = pX11_train ev := rfl
theorem pg_143 (ev : xEv) : xprog ev 143 = pX11_set ev := rfl
theorem pg_144 (ev : xEv) : xprog ev 144 = pX11_sign ev := rfl
theorem pg_145 (ev : xEv) : xprog ev 145 = pX11_end ev := rfl
theorem pg_146 (ev : xEv) : xprog ev 146 = pX11_force ev := rfl
theorem pg_147 (ev : xEv) : xprog ev 147 = pX11_mayForce ev := rfl
theorem pg_148 (ev : xEv) : xprog ev 148 = pX11_flight ev := rfl
theorem pg_149 (ev : xEv) : xprog ev 149 = pX11_cancel ev := rfl
theorem pg_150 (ev : xEv) : xprog ev 150 = pX11_step ev := rfl
theorem pg_151 (ev : xEv) : xprog ev 151 = pX11_may ev := rfl
theorem pg_152 (ev : xEv) : xprog ev 152 = pX11_why ev := rfl
theorem pg_153 (ev : xEv) : xprog ev 153 = pX11_count ev := rfl
theorem pg_154 (ev : xEv) : xprog ev 154 = pX11_of ev := rfl
theorem pg_155 (ev : xEv) : xprog ev 155 = pX11_who ev := rfl
theorem pg_156 (ev : xEv) : xprog ev 156 = pX11_where ev := rfl
theorem pg_157 (ev : xEv) : xprog ev 157 = pX11_flown ev := rfl
theorem pg_158 (ev : xEv) : xprog ev 158 = pX11_lead ev := rfl
theorem pg_159 (ev : xEv) : xprog ev 159 = pX11_judge ev := rfl
theorem pg_160 (ev : xEv) : xprog ev 160 = pX11_coin ev := rfl
theorem pg_161 (ev : xEv) : xprog ev 161 = pX11_find ev := rfl
theorem pg_162 (ev : xEv) : xprog ev 162 = pX11_look ev := rfl
theorem pg_163 (ev : xEv) : xprog ev 163 = pX11_chance ev := rfl
theorem pg_164 (ev : xEv) : xprog ev 164 = pX11_lanes ev := rfl
theorem pg_165 (ev : xEv) : xprog ev 165 = pX11_weighCells ev := rfl
theorem pg_166 (ev : xEv) : xprog ev 166 = pX11_needs ev := rfl
theorem pg_167 (ev : xEv) : xprog ev 167 = pX11_send ev := rfl
theorem pg_168 (ev : xEv) : xprog ev 168 = pX11_plan ev := rfl
theorem pg_169 (ev : xEv) : xprog ev 169 = pX11_lamps ev := rfl
theorem pg_170 (ev : xEv) : xprog ev 170 = pX11_tried ev := rfl
theorem pg_171 (ev : xEv) : xprog ev 171 = pX11_row ev := rfl
theorem pg_172 (ev : xEv) : xprog ev 172 = pX11_mayTry ev := rfl
theorem pg_173 (ev : xEv) : xprog ev 173 = pX11_isField ev := rfl
theorem pg_174 (ev : xEv) : xprog ev 174 = pX11_isLeg ev := rfl
theorem pg_175 (ev : xEv) : xprog ev 175 = pX11_isPlane ev := rfl
theorem pg_176 (ev : xEv) : xprog ev 176 = pX11_isPilot ev := rfl
theorem pg_177 (ev : xEv) : xprog ev 177 = pX11_isBag ev := rfl
theorem pg_178 (ev : xEv) : xprog ev 178 = pX11_isFlight ev := rfl
theorem pg_179 (ev : xEv) : xprog ev 179 = pX11_isDown ev := rfl
theorem pg_180 (ev : xEv) : xprog ev 180 = pX11_isCell ev := rfl
theorem pg_181 (ev : xEv) : xprog ev 181 = pX11_isQuarter ev := rfl
theorem pg_182 (ev : xEv) : xprog ev 182 = pX11_isWeather ev := rfl
theorem pg_183 (ev : xEv) : xprog ev 183 = pX11_within ev := rfl
theorem pg_184 (ev : xEv) : xprog ev 184 = pX11_roundUp ev := rfl
theorem pg_185 (ev : xEv) : xprog ev 185 = pX11_commonDivisor ev := rfl
theorem pg_186 (ev : xEv) : xprog ev 186 = pX12_init ev := rfl
theorem pg_187 (ev : xEv) : xprog ev 187 = pX12_thrown ev := rfl
theorem pg_188 (ev : xEv) : xprog ev 188 = pX12_in ev := rfl
theorem pg_189 (ev : xEv) : xprog ev 189 = pX12_lost ev := rfl
theorem pg_190 (ev : xEv) : xprog ev 190 = pX12_isField ev := rfl
theorem pg_191 (ev : xEv) : xprog ev 191 = pX12_isLeg ev := rfl
theorem pg_192 (ev : xEv) : xprog ev 192 = pX12_isPlane ev := rfl
theorem pg_193 (ev : xEv) : xprog ev 193 = pX12_isPilot ev := rfl
theorem pg_194 (ev : xEv) : xprog ev 194 = pX12_isBag ev := rfl
theorem pg_195 (ev : xEv) : xprog ev 195 = pX12_plane ev := rfl
theorem pg_196 (ev : xEv) : xprog ev 196 = pX12_plane_ ev := rfl
theorem pg_197 (ev : xEv) : xprog ev 197 = pX12_pilotOf ev := rfl
theorem pg_198 (ev : xEv) : xprog ev 198 = pX12_setPilot ev := rfl
theorem pg_199 (ev : xEv) : xprog ev 199 = pX12_bagOf ev := rfl
theorem pg_200 (ev : xEv) : xprog ev 200 = pX12_setBag ev := rfl
theorem pg_201 (ev : xEv) : xprog ev 201 = pX12_flightOf ev := rfl
theorem pg_202 (ev : xEv) : xprog ev 202 = pX12_setFlight ev := rfl
theorem pg_203 (ev : xEv) : xprog ev 203 = pX12_hasLamp ev := rfl
theorem pg_204 (ev : xEv) : xprog ev 204 = pX12_isDark ev := rfl
theorem pg_205 (ev : xEv) : xprog ev 205 = pX12_field ev := rfl
theorem pg_206 (ev : xEv) : xprog ev 206 = pX12_lamp ev := rfl
theorem pg_207 (ev : xEv) : xprog ev 207 = pX12_leg ev := rfl
theorem pg_208 (ev : xEv) : xprog ev 208 = pX12_ground ev := rfl
theorem pg_209 (ev : xEv) : xprog ev 209 = pX12_far ev := rfl
theorem pg_210 (ev : xEv) : xprog ev 210 = pX12_weather ev := rfl
theorem pg_211 (ev : xEv) : xprog ev 211 = pX12_sky ev := rfl
theorem pg_212 (ev : xEv) : xprog ev 212 = pX12_cloud ev := rfl
theorem pg_213 (ev : xEv) : xprog ev 213 = pX12_wind ev := rfl
theorem pg_214 (ev : xEv) : xprog ev 214 = pX12_sky_ ev := rfl
theorem pg_215 (ev : xEv) : xprog ev 215 = pX12_say ev := rfl
theorem pg_216 (ev : xEv) : xprog ev 216 = pX12_word ev := rfl
theorem pg_217 (ev : xEv) : xprog ev 217 = pX12_wordAt ev := rfl
theorem pg_218 (ev : xEv) : xprog ev 218 = pX12_heard ev := rfl
theorem pg_219 (ev : xEv) : xprog ev 219 = pX12_plane__ ev := rfl
theorem pg_220 (ev : xEv) : xprog ev 220 = pX12_engine ev := rfl
theorem pg_221 (ev : xEv) : xprog ev 221 = pX12_pilot ev := rfl
theorem pg_222 (ev : xEv) : xprog ev 222 = pX12_learns ev := rfl
theorem pg_223 (ev : xEv) : xprog ev 223 = pX12_led ev := rfl
theorem pg_224 (ev : xEv) : xprog ev 224 = pX12_bag ev := rfl
theorem pg_225 (ev : xEv) : xprog ev 225 = pX12_arrive ev := rfl
theorem pg_226 (ev : xEv) : xprog ev 226 = pX12_up ev := rfl
theorem pg_227 (ev : xEv) : xprog ev 227 = pX12_train ev := rfl
theorem pg_228 (ev : xEv) : xprog ev 228 = pX12_set ev := rfl
theorem pg_229 (ev : xEv) : xprog ev 229 = pX12_sign ev := rfl
theorem pg_230 (ev : xEv) : xprog ev 230 = pX12_end ev := rfl
theorem pg_231 (ev : xEv) : xprog ev 231 = pX12_here ev := rfl
theorem pg_232 (ev : xEv) : xprog ev 232 = pX12_comes ev := rfl
theorem pg_233 (ev : xEv) : xprog ev 233 = pX12_isWrong ev := rfl
theorem pg_234 (ev : xEv) : xprog ev 234 = pX12_isDigit ev := rfl
theorem pg_235 (ev : xEv) : xprog ev 235 = pX12_any ev := rfl
theorem pg_236 (ev : xEv) : xprog ev 236 = pX12_both ev := rfl
theorem pg_237 (ev : xEv) : xprog ev 237 = pX12_held ev := rfl
theorem pg_238 (ev : xEv) : xprog ev 238 = pX12_sum ev := rfl
theorem pg_239 (ev : xEv) : xprog ev 239 = pX12_product ev := rfl
theorem pg_240 (ev : xEv) : xprog ev 240 = pX12_ahead ev := rfl
theorem pg_241 (ev : xEv) : xprog ev 241 = pX12_choice ev := rfl
theorem pg_242 (ev : xEv) : xprog ev 242 = pX12_lines ev := rfl
theorem pg_243 (ev : xEv) : xprog ev 243 = pX12_actsOf ev := rfl
theorem pg_244 (ev : xEv) : xprog ev 244 = pX12_open ev := rfl
theorem pg_245 (ev : xEv) : xprog ev 245 = pX12_force ev := rfl
theorem pg_246 (ev : xEv) : xprog ev 246 = pX12_textOf ev := rfl
theorem pg_247 (ev : xEv) : xprog ev 247 = pX12_act ev := rfl
theorem pg_248 (ev : xEv) : xprog ev 248 = pX12_flight ev := rfl
theorem pg_249 (ev : xEv) : xprog ev 249 = pX12_waits ev := rfl
theorem pg_250 (ev : xEv) : xprog ev 250 = pX12_endFlight ev := rfl
theorem pg_251 (ev : xEv) : xprog ev 251 = pX12_cancel ev := rfl
theorem pg_252 (ev : xEv) : xprog ev 252 = pX12_carries ev := rfl
theorem pg_253 (ev : xEv) : xprog ev 253 = pX12_whyNot ev := rfl
theorem pg_254 (ev : xEv) : xprog ev 254 = pX12_tell ev := rfl
theorem pg_255 (ev : xEv) : xprog ev 255 = pX12_start ev := rfl
theorem pg_256 (ev : xEv) : xprog ev 256 = pX12_forced ev := rfl
theorem pg_257 (ev : xEv) : xprog ev 257 = pX12_comeTo ev := rfl
theorem pg_258 (ev : xEv) : xprog ev 258 = pX12_land ev := rfl
theorem pg_259 (ev : xEv) : xprog ev 259 = pX12_isAloft ev := rfl
theorem pg_260 (ev : xEv) : xprog ev 260 = pX12_fly ev := rfl
theorem pg_261 (ev : xEv) : xprog ev 261 = pX12_goQuarter ev := rfl
theorem pg_262 (ev : xEv) : xprog ev 262 = pX12_step ev := rfl
theorem pg_263 (ev : xEv) : xprog ev 263 = pX12_may ev := rfl
theorem pg_264 (ev : xEv) : xprog ev 264 = pX12_why ev := rfl
theorem pg_265 (ev : xEv) : xprog ev 265 = pX12_given ev := rfl
theorem pg_266 (ev : xEv) : xprog ev 266 = pX12_count ev := rfl
theorem pg_267 (ev : xEv) : xprog ev 267 = pX12_of ev := rfl
theorem pg_268 (ev : xEv) : xprog ev 268 = pX12_who ev := rfl
theorem pg_269 (ev : xEv) : xprog ev 269 = pX12_payBy ev := rfl
theorem pg_270 (ev : xEv) : xprog ev 270 = pX12_payOf ev := rfl
theorem pg_271 (ev : xEv) : xprog ev 271 = pX12_where ev := rfl
theorem pg_272 (ev : xEv) : xprog ev 272 = pX12_flown ev := rfl
theorem pg_273 (ev : xEv) : xprog ev 273 = pX12_lead ev := rfl
theorem pg_274 (ev : xEv) : xprog ev 274 = pX12_judge ev := rfl
theorem pg_275 (ev : xEv) : xprog ev 275 = pX12_coinNow ev := rfl
theorem pg_276 (ev : xEv) : xprog ev 276 = pX12_coin ev := rfl
theorem pg_277 (ev : xEv) : xprog ev 277 = pX12_isDown ev := rfl
theorem pg_278 (ev : xEv) : xprog ev 278 = pX12_find ev := rfl
theorem pg_279 (ev : xEv) : xprog ev 279 = pX12_cells ev := rfl
theorem pg_280 (ev : xEv) : xprog ev 280 = pX12_look ev := rfl
theorem pg_281 (ev : xEv) : xprog ev 281 = pX12_share ev := rfl
theorem pg_282 (ev : xEv) : xprog ev 282 = pX12_common ev := rfl
theorem pg_283 (ev : xEv) : xprog ev 283 = pX12_chance ev := rfl
theorem pg_284 (ev : xEv) : xprog ev 284 = pX12_lanes ev := rfl
theorem pg_285 (ev : xEv) : xprog ev 285 = pX12_needsOne ev := rfl
theorem pg_286 (ev : xEv) : xprog ev 286 = pX12_findNeedy ev := rfl
theorem pg_287 (ev : xEv) : xprog ev 287 = pX12_needs ev := rfl
theorem pg_288 (ev : xEv) : xprog ev 288 = pX12_quarters ev := rfl
theorem pg_289 (ev : xEv) : xprog ev 289 = pX12_sendFrom ev := rfl
theorem pg_290 (ev : xEv) : xprog ev 290 = pX12_send ev := rfl
theorem pg_291 (ev : xEv) : xprog ev 291 = pX12_putAside ev := rfl
theorem pg_292 (ev : xEv) : xprog ev 292 = pX12_putBack ev := rfl
theorem pg_293 (ev : xEv) : xprog ev 293 = pX12_canTry ev := rfl
theorem pg_294 (ev : xEv) : xprog ev 294 = pX12_go ev := rfl
theorem pg_295 (ev : xEv) : xprog ev 295 = pX12_plan ev := rfl
theorem pg_296 (ev : xEv) : xprog ev 296 = pX12_onTime ev := rfl
theorem pg_297 (ev : xEv) : xprog ev 297 = pX12_lamps ev := rfl
theorem pg_298 (ev : xEv) : xprog ev 298 = pX12_tried ev := rfl
theorem pg_299 (ev : xEv) : xprog ev 299 = pX12_row ev := rfl
theorem pg_300 (ev : xEv) : xprog ev 300 = pJ6_bitCount_0f7a4 ev := rfl
theorem pg_301 (ev : xEv) : xprog ev 301 = pJ0_length_8abf5 ev := rfl
theorem pg_302 (ev : xEv) : xprog ev 302 = pJ0_indexOf_0f7a4 ev := rfl
theorem pg_303 (ev : xEv) : xprog ev 303 = pJ0_indexOf_7cf53 ev := rfl
theorem pg_304 (ev : xEv) : xprog ev 304 = pJ0_coder_7d493 ev := rfl
theorem pg_305 (ev : xEv) : xprog ev 305 = pJ0_isLatin1_aae02 ev := rfl
theorem pg_306 (ev : xEv) : xprog ev 306 = pJ1_canEncode_9a6ad ev := rfl
theorem pg_307 (ev : xEv) : xprog ev 307 = pJ1_indexOf_4cfef ev := rfl
theorem pg_308 (ev : xEv) : xprog ev 308 = pJ1_indexOfChar_4cfef ev := rfl
theorem pg_309 (ev : xEv) : xprog ev 309 = pJ7_fill_d0a16 ev := rfl
theorem pg_310 (ev : xEv) : xprog ev 310 = pX7_readFields ev := rfl
theorem xprog_ok (ev : xEv) : ∀ j, xprog ev j ≠ [] → ∃ own nm, xMethOK ev xmi own nm j (xprog ev j) := by
  intro j hj
  unfold xprog at hj ⊢
  cases h : (xprogL ev)[j]? with
  | none => rw [h] at hj; exact absurd rfl hj
  | some q =>
    have h2 := xAll_at (xprogL_ok ev) h
    rw [Nat.zero_add] at h2
    exact h2
/-- an entry by its pc -/
def xfind : List (Nat × xEn) → Nat → Option xEn
  | [], _ => none
  | q :: r, pc => bif Nat.beq q.1 pc then some q.2 else xfind r pc
theorem xfind_mem {pc : Nat} {en : xEn} : ∀ {code : List (Nat × xEn)}, xfind code pc = some en → (pc, en) ∈ code
  | [], h => by cases h
  | q :: r, h => by
    unfold xfind at h
    cases hb : Nat.beq q.1 pc with
    | true =>
      rw [hb] at h
      have h1 : q.1 = pc := Nat.eq_of_beq_eq_true hb
      have h2 : q.2 = en := Option.some.inj h
      rw [← h1, ← h2]
      exact List.mem_cons_self
    | false =>
      rw [hb] at h
      exact List.mem_cons_of_mem _ (xfind_mem h)
/-- some run from a state ends so -/
def xE (str : Nat → Nat) (fs : Nat → xS → xS → Prop) (call : xRel) (code : List (Nat × xEn)) (σ : xS) (r : xR → Prop) : Prop := ∃ n q, xrun str fs call code n σ q ∧ r q
section XE
variable {str : Nat → Nat} {fs : Nat → xS → xS → Prop} {call : xRel} {code : List (Nat × xEn)} {pc : Nat} {lv : xLv} {st : List Value} {hp : xH} {sz sl : Nat} {r : xR → Prop}
theorem xe_op {op : xS → Option xS} {σ' : xS} (hm : xfind code pc = some (.inl op)) (ho : op (pc, lv, st, hp, sz, sl) = some σ') (h : xE str fs call code σ' r) : xE str fs call code (pc, lv, st, hp, sz, sl) r := by
  obtain ⟨n, q, hn, hr⟩ := h
  exact ⟨n + 1, q, Or.inl ⟨op, σ', xfind_mem hm, ho, hn⟩, hr⟩
theorem xe_p {f : xF} {pc' : Nat} {lv' : xLv} {st' : List Value} (hm : xfind code pc = some (.inl (xop f))) (ho : f pc lv st hp = some (pc', lv', st')) (h : xE str fs call code (pc', lv', st', hp, sz, sl) r) : xE str fs call code (pc, lv, st, hp, sz, sl) r :=
  xe_op hm (by simp only [xop, ho]) h
theorem xe_callV {j k ci b : Nat} {As rest fl : List Value} {rv : Option Value} {hp' : xH} {sz' sl' : Nat} (kind : Nat) (hk : kind = 0 ∨ kind = 2) (hm : xfind code pc = some (.inr (.inl (kind, j, k, ci)))) (hA : As.length = k) (hst : st = As.reverse ++ .ref b :: rest) (hs : (rest.map fun v => v.category).sum ≤ 8) (hb : hp b = some (.inr (ci, fl))) (hc : call j (.ref b :: As) hp sz (rv, hp', sz', sl')) (h : xE str fs call code (pc + 3, lv, rv.toList ++ rest, hp', sz', sl + sl') r) : xE str fs call code (pc, lv, st, hp, sz, sl) r := by
  obtain ⟨n, q, hn, hr⟩ := h
  refine ⟨n + 1, q, Or.inr (Or.inl ⟨kind, j, k, ci, b, As, rest, fl, rv, hp', sz', sl', xfind_mem hm, hk.imp (fun h => h) Or.inl, hA, hst, hs, Or.inl ⟨?_, hb⟩, hc, hn⟩), hr⟩
  rcases hk with h | h <;> rw [h] <;> decide
theorem xe_callT {j k i : Nat} {As rest : List Value} {rv : Option Value} {hp' : xH} {sz' sl' : Nat} (hm : xfind code pc = some (.inr (.inl (4, j, k, 99)))) (hi : i < 4) (hA : As.length = k) (hst : st = As.reverse ++ .ref (str i) :: rest) (hs : (rest.map fun v => v.category).sum ≤ 8) (hc : call j (.ref (str i) :: As) hp sz (rv, hp', sz', sl')) (h : xE str fs call code (pc + 3, lv, rv.toList ++ rest, hp', sz', sl + sl') r) : xE str fs call code (pc, lv, st, hp, sz, sl) r := by
  obtain ⟨n, q, hn, hr⟩ := h
  exact ⟨n + 1, q, Or.inr (Or.inl ⟨4, j, k, 99, str i, As, rest, [], rv, hp', sz', sl', xfind_mem hm, Or.inr (Or.inr rfl), hA, hst, hs, Or.inr ⟨rfl, i, hi, rfl⟩, hc, hn⟩), hr⟩
theorem xe_callS {j k ci : Nat} {As rest : List Value} {rv : Option Value} {hp' : xH} {sz' sl' : Nat} (kind : Nat) (hk : kind = 1 ∨ kind = 3) (hm : xfind code pc = some (.inr (.inl (kind, j, k, ci)))) (hA : As.length = k) (hst : st = As.reverse ++ rest) (hs : (rest.map fun v => v.category).sum ≤ 8) (hc : call j As hp sz (rv, hp', sz', sl')) (h : xE str fs call code (pc + 3, lv, rv.toList ++ rest, hp', sz', sl + sl') r) : xE str fs call code (pc, lv, st, hp, sz, sl) r := by
  obtain ⟨n, q, hn, hr⟩ := h
  exact ⟨n + 1, q, Or.inr (Or.inr (Or.inl ⟨kind, j, k, ci, As, rest, rv, hp', sz', sl', xfind_mem hm, hk, hA, hst, hs, hc, hn⟩)), hr⟩
theorem xe_fs {j k ci : Nat} {σ' : xS} (hm : xfind code pc = some (.inr (.inl (5, j, k, ci)))) (ho : fs j (pc, lv, st, hp, sz, sl) σ') (h : xE str fs call code σ' r) : xE str fs call code (pc, lv, st, hp, sz, sl) r := by
  obtain ⟨n, q, hn, hr⟩ := h
  exact ⟨n + 1, q, Or.inr (Or.inr (Or.inr (Or.inr ⟨j, k, ci, σ', xfind_mem hm, ho, hn⟩))), hr⟩
theorem xe_ret {k : Nat} {rv : Option Value} (hm : xfind code pc = some (.inr (.inr k))) (hv : xretv k st = some rv) (h : r (rv, hp, sz, sl)) : xE str fs call code (pc, lv, st, hp, sz, sl) r :=
  ⟨1, (rv, hp, sz, sl), Or.inr (Or.inr (Or.inr (Or.inl ⟨k, rv, xfind_mem hm, hv, rfl⟩))), h⟩
theorem xe_getf {ci k a : Nat} {v : Value} {fl rest : List Value} (hm : xfind code pc = some (.inl (xop (xf_getf ci k)))) (ha : hp a = some (.inr (ci, fl))) (hv : fl[k]? = some v) (h : xE str fs call code (pc + 3, lv, v :: rest, hp, sz, sl) r) : xE str fs call code (pc, lv, .ref a :: rest, hp, sz, sl) r :=
  xe_op hm (by simp only [xop, xf_getf, ha, hv, if_true]) h
theorem xe_ald {cA : ClassId} {a n : Nat} {f : Nat → Int32} {i : Int32} {rest : List Value} (hm : xfind code pc = some (.inl (xop (xf_ald cA)))) (ha : hp a = some (.inl (cA, n, .inl f))) (hi : vp_in i n) (h : xE str fs call code (pc + 1, lv, .int (f i.toNatClampNeg) :: rest, hp, sz, sl) r) : xE str fs call code (pc, lv, .int i :: .ref a :: rest, hp, sz, sl) r :=
  xe_op hm (by
    have hi' : ¬ (i < 0 ∨ n ≤ i.toNatClampNeg) := hi
    simp only [xop, xf_ald, ha, if_true, if_neg hi']) h
theorem xe_lald {cA : ClassId} {a n : Nat} {f : Nat → Int64} {i : Int32} {rest : List Value} (hm : xfind code pc = some (.inl (xop (xf_lald cA)))) (ha : hp a = some (.inl (cA, n, .inr (.inl f)))) (hi : vp_in i n) (h : xE str fs call code (pc + 1, lv, .long (f i.toNatClampNeg) :: rest, hp, sz, sl) r) : xE str fs call code (pc, lv, .int i :: .ref a :: rest, hp, sz, sl) r :=
  xe_op hm (by
    have hi' : ¬ (i < 0 ∨ n ≤ i.toNatClampNeg) := hi
    simp only [xop, xf_lald, ha, if_true, if_neg hi']) h
theorem xe_aald {cA : ClassId} {a n : Nat} {f : Nat → Option Nat} {i : Int32} {rest : List Value} (hm : xfind code pc = some (.inl (xop (xf_aald cA)))) (ha : hp a = some (.inl (cA, n, .inr (.inr (.inr (.inr f)))))) (hi : vp_in i n) (h : xE str fs call code (pc + 1, lv, va_rf (f i.toNatClampNeg) :: rest, hp, sz, sl) r) : xE str fs call code (pc, lv, .int i :: .ref a :: rest, hp, sz, sl) r :=
  xe_op hm (by
    have hi' : ¬ (i < 0 ∨ n ≤ i.toNatClampNeg) := hi
    simp only [xop, xf_aald, ha, if_true, if_neg hi']) h
theorem xe_putf {ci k a : Nat} {ty : FieldType} {v : Value} {fl rest : List Value} (hm : xfind code pc = some (.inl (xo_putf ci k ty))) (ha : hp a = some (.inr (ci, fl))) (hk : k < fl.length) (hf : fits ty v = true) (hn : narrow ty v = v) (h : xE str fs call code (pc + 3, lv, rest, xU hp a (.inr (ci, fl.set k v)), sz, sl) r) : xE str fs call code (pc, lv, v :: .ref a :: rest, hp, sz, sl) r :=
  xe_op hm (by simp only [xo_putf, ha, hk, hf, hn, and_self, if_true]) h
theorem xe_ast {cA : ClassId} {g : Int32 → Int32} {a n : Nat} {f : Nat → Int32} {i x : Int32} {rest : List Value} (hm : xfind code pc = some (.inl (xo_ast cA g))) (ha : hp a = some (.inl (cA, n, .inl f))) (hi : vp_in i n) (h : xE str fs call code (pc + 1, lv, rest, xU hp a (.inl (cA, n, .inl (upd f i.toNatClampNeg (g x)))), sz, sl) r) : xE str fs call code (pc, lv, .int x :: .int i :: .ref a :: rest, hp, sz, sl) r :=
  xe_op hm (by
    have hi' : ¬ (i < 0 ∨ n ≤ i.toNatClampNeg) := hi
    simp only [xo_ast, ha, if_true, if_neg hi']) h
theorem xe_last {cA : ClassId} {a n : Nat} {f : Nat → Int64} {i : Int32} {x : Int64} {rest : List Value} (hm : xfind code pc = some (.inl (xo_last cA))) (ha : hp a = some (.inl (cA, n, .inr (.inl f)))) (hi : vp_in i n) (h : xE str fs call code (pc + 1, lv, rest, xU hp a (.inl (cA, n, .inr (.inl (vp_updL f i.toNatClampNeg x)))), sz, sl) r) : xE str fs call code (pc, lv, .long x :: .int i :: .ref a :: rest, hp, sz, sl) r :=
  xe_op hm (by
    have hi' : ¬ (i < 0 ∨ n ≤ i.toNatClampNeg) := hi
    simp only [xo_last, ha, if_true, if_neg hi']) h
theorem xe_if {c : Prop} (f : xF) (t e : Nat × xLv × List Value) (hm : xfind code pc = some (.inl (xop f))) (ht : c → f pc lv st hp = some t) (he : ¬ c → f pc lv st hp = some e) (h1 : c → xE str fs call code (t.1, t.2.1, t.2.2, hp, sz, sl) r) (h2 : ¬ c → xE str fs call code (e.1, e.2.1, e.2.2, hp, sz, sl) r) : xE str fs call code (pc, lv, st, hp, sz, sl) r := by
  by_cases h : c
  · exact xe_op hm (by simp only [xop, ht h]) (h1 h)
  · exact xe_op hm (by simp only [xop, he h]) (h2 h)
end XE
/-- a method's run out of a run of its entries -/
theorem xc_of {ev : xEv} {prim : xRel} {d j : Nat} {av : List Value} {hp : xH} {sz : Nat} {r : xR → Prop} {code : List (Nat × xEn)} {y : MethodName} {cc : ByteArray} {nL : Nat} {ret : Option FieldType} (hj : xprog ev j = code) (hn : xmi j = (y, cc, nL, ret)) (hlen : (lg_sl av).length ≤ nL) (h : xE ev.2.1 (xstr ev) (xCalls ev xmi (xprog ev) prim d) code (0, lv_args 0 av, [], hp, sz, 0) r) : ∃ q, xCalls ev xmi (xprog ev) prim (d + 1) j av hp sz q ∧ r q := by
  obtain ⟨n, q, hr, hq⟩ := h
  refine ⟨q, Or.inl ⟨by rw [hn]; exact hlen, n, ?_⟩, hq⟩
  rw [hj]
  exact hr
theorem xc_eq {ev : xEv} {prim : xRel} {d j : Nat} {av : List Value} {hp : xH} {sz : Nat} {r : xR} {code : List (Nat × xEn)} {y : MethodName} {cc : ByteArray} {nL : Nat} {ret : Option FieldType} (hj : xprog ev j = code) (hn : xmi j = (y, cc, nL, ret)) (hlen : (lg_sl av).length ≤ nL) (h : xE ev.2.1 (xstr ev) (xCalls ev xmi (xprog ev) prim d) code (0, lv_args 0 av, [], hp, sz, 0) (fun q => q = r)) : xCalls ev xmi (xprog ev) prim (d + 1) j av hp sz r := by
  obtain ⟨q, hq, rfl⟩ := xc_of hj hn hlen h
  exact hq
theorem xe_if_eq {str : Nat → Nat} {fs : Nat → xS → xS → Prop} {call : xRel} {code : List (Nat × xEn)} {pc tgt : Nat} {lv : xLv} {hp : xH} {sz sl : Nat} {r : xR → Prop} {x : Int32} {rest : List Value} (hm : xfind code pc = some (.inl (xop (xf_if_eq tgt)))) (h1 : x = 0 → xE str fs call code (tgt, lv, rest, hp, sz, sl) r) (h2 : ¬ (x = 0) → xE str fs call code (pc + 3, lv, rest, hp, sz, sl) r) : xE str fs call code (pc, lv, .int x :: rest, hp, sz, sl) r :=
  xe_if _ (tgt, lv, rest) (pc + 3, lv, rest) hm (fun h => by simp only [xf_if_eq, if_pos h]) (fun h => by simp only [xf_if_eq, if_neg h]) h1 h2
theorem xe_if_ne {str : Nat → Nat} {fs : Nat → xS → xS → Prop} {call : xRel} {code : List (Nat × xEn)} {pc tgt : Nat} {lv : xLv} {hp : xH} {sz sl : Nat} {r : xR → Prop} {x : Int32} {rest : List Value} (hm : xfind code pc = some (.inl (xop (xf_if_ne tgt)))) (h1 : ¬ x = 0 → xE str fs call code (tgt, lv, rest, hp, sz, sl) r) (h2 : ¬ (¬ x = 0) → xE str fs call code (pc + 3, lv, rest, hp, sz, sl) r) : xE str fs call code (pc, lv, .int x :: rest, hp, sz, sl) r :=
  xe_if _ (tgt, lv, rest) (pc + 3, lv, rest) hm (fun h => by simp only [xf_if_ne, if_pos h]) (fun h => by simp only [xf_if_ne, if_neg h]) h1 h2
theorem xe_if_lt {str : Nat → Nat} {fs : Nat → xS → xS → Prop} {call : xRel} {code : List (Nat × xEn)} {pc tgt : Nat} {lv : xLv} {hp : xH} {sz sl : Nat} {r : xR → Prop} {x : Int32} {rest : List Value} (hm : xfind code pc = some (.inl (xop (xf_if_lt tgt)))) (h1 : x < 0 → xE str fs call code (tgt, lv, rest, hp, sz, sl) r) (h2 : ¬ (x < 0) → xE str fs call code (pc + 3, lv, rest, hp, sz, sl) r) : xE str fs call code (pc, lv, .int x :: rest, hp, sz, sl) r :=
  xe_if _ (tgt, lv, rest) (pc + 3, lv, rest) hm (fun h => by simp only [xf_if_lt, if_pos h]) (fun h => by simp only [xf_if_lt, if_neg h]) h1 h2
theorem xe_if_ge {str : Nat → Nat} {fs : Nat → xS → xS → Prop} {call : xRel} {code : List (Nat × xEn)} {pc tgt : Nat} {lv : xLv} {hp : xH} {sz sl : Nat} {r : xR → Prop} {x : Int32} {rest : List Value} (hm : xfind code pc = some (.inl (xop (xf_if_ge tgt)))) (h1 : 0 ≤ x → xE str fs call code (tgt, lv, rest, hp, sz, sl) r) (h2 : ¬ (0 ≤ x) → xE str fs call code (pc + 3, lv, rest, hp, sz, sl) r) : xE str fs call code (pc, lv, .int x :: rest, hp, sz, sl) r :=
  xe_if _ (tgt, lv, rest) (pc + 3, lv, rest) hm (fun h => by simp only [xf_if_ge, if_pos h]) (fun h => by simp only [xf_if_ge, if_neg h]) h1 h2
theorem xe_if_gt {str : Nat → Nat} {fs : Nat → xS → xS → Prop} {call : xRel} {code : List (Nat × xEn)} {pc tgt : Nat} {lv : xLv} {hp : xH} {sz sl : Nat} {r : xR → Prop} {x : Int32} {rest : List Value} (hm : xfind code pc = some (.inl (xop (xf_if_gt tgt)))) (h1 : 0 < x → xE str fs call code (tgt, lv, rest, hp, sz, sl) r) (h2 : ¬ (0 < x) → xE str fs call code (pc + 3, lv, rest, hp, sz, sl) r) : xE str fs call code (pc, lv, .int x :: rest, hp, sz, sl) r :=
  xe_if _ (tgt, lv, rest) (pc + 3, lv, rest) hm (fun h => by simp only [xf_if_gt, if_pos h]) (fun h => by simp only [xf_if_gt, if_neg h]) h1 h2
theorem xe_if_le {str : Nat → Nat} {fs : Nat → xS → xS → Prop} {call : xRel} {code : List (Nat × xEn)} {pc tgt : Nat} {lv : xLv} {hp : xH} {sz sl : Nat} {r : xR → Prop} {x : Int32} {rest : List Value} (hm : xfind code pc = some (.inl (xop (xf_if_le tgt)))) (h1 : x ≤ 0 → xE str fs call code (tgt, lv, rest, hp, sz, sl) r) (h2 : ¬ (x ≤ 0) → xE str fs call code (pc + 3, lv, rest, hp, sz, sl) r) : xE str fs call code (pc, lv, .int x :: rest, hp, sz, sl) r :=
  xe_if _ (tgt, lv, rest) (pc + 3, lv, rest) hm (fun h => by simp only [xf_if_le, if_pos h]) (fun h => by simp only [xf_if_le, if_neg h]) h1 h2
theorem xe_icmp_eq {str : Nat → Nat} {fs : Nat → xS → xS → Prop} {call : xRel} {code : List (Nat × xEn)} {pc tgt : Nat} {lv : xLv} {hp : xH} {sz sl : Nat} {r : xR → Prop} {x y : Int32} {rest : List Value} (hm : xfind code pc = some (.inl (xop (xf_icmp_eq tgt)))) (h1 : x = y → xE str fs call code (tgt, lv, rest, hp, sz, sl) r) (h2 : ¬ (x = y) → xE str fs call code (pc + 3, lv, rest, hp, sz, sl) r) : xE str fs call code (pc, lv, .int y :: .int x :: rest, hp, sz, sl) r :=
  xe_if _ (tgt, lv, rest) (pc + 3, lv, rest) hm (fun h => by simp only [xf_icmp_eq, if_pos h]) (fun h => by simp only [xf_icmp_eq, if_neg h]) h1 h2
theorem xe_icmp_ne {str : Nat → Nat} {fs : Nat → xS → xS → Prop} {call : xRel} {code : List (Nat × xEn)} {pc tgt : Nat} {lv : xLv} {hp : xH} {sz sl : Nat} {r : xR → Prop} {x y : Int32} {rest : List Value} (hm : xfind code pc = some (.inl (xop (xf_icmp_ne tgt)))) (h1 : ¬ x = y → xE str fs call code (tgt, lv, rest, hp, sz, sl) r) (h2 : ¬ (¬ x = y) → xE str fs call code (pc + 3, lv, rest, hp, sz, sl) r) : xE str fs call code (pc, lv, .int y :: .int x :: rest, hp, sz, sl) r :=
  xe_if _ (tgt, lv, rest) (pc + 3, lv, rest) hm (fun h => by simp only [xf_icmp_ne, if_pos h]) (fun h => by simp only [xf_icmp_ne, if_neg h]) h1 h2
theorem xe_icmp_lt {str : Nat → Nat} {fs : Nat → xS → xS → Prop} {call : xRel} {code : List (Nat × xEn)} {pc tgt : Nat} {lv : xLv} {hp : xH} {sz sl : Nat} {r : xR → Prop} {x y : Int32} {rest : List Value} (hm : xfind code pc = some (.inl (xop (xf_icmp_lt tgt)))) (h1 : x < y → xE str fs call code (tgt, lv, rest, hp, sz, sl) r) (h2 : ¬ (x < y) → xE str fs call code (pc + 3, lv, rest, hp, sz, sl) r) : xE str fs call code (pc, lv, .int y :: .int x :: rest, hp, sz, sl) r :=
  xe_if _ (tgt, lv, rest) (pc + 3, lv, rest) hm (fun h => by simp only [xf_icmp_lt, if_pos h]) (fun h => by simp only [xf_icmp_lt, if_neg h]) h1 h2
theorem xe_icmp_ge {str : Nat → Nat} {fs : Nat → xS → xS → Prop} {call : xRel} {code : List (Nat × xEn)} {pc tgt : Nat} {lv : xLv} {hp : xH} {sz sl : Nat} {r : xR → Prop} {x y : Int32} {rest : List Value} (hm : xfind code pc = some (.inl (xop (xf_icmp_ge tgt)))) (h1 : y ≤ x → xE str fs call code (tgt, lv, rest, hp, sz, sl) r) (h2 : ¬ (y ≤ x) → xE str fs call code (pc + 3, lv, rest, hp, sz, sl) r) : xE str fs call code (pc, lv, .int y :: .int x :: rest, hp, sz, sl) r :=
  xe_if _ (tgt, lv, rest) (pc + 3, lv, rest) hm (fun h => by simp only [xf_icmp_ge, if_pos h]) (fun h => by simp only [xf_icmp_ge, if_neg h]) h1 h2
theorem xe_icmp_gt {str : Nat → Nat} {fs : Nat → xS → xS → Prop} {call : xRel} {code : List (Nat × xEn)} {pc tgt : Nat} {lv : xLv} {hp : xH} {sz sl : Nat} {r : xR → Prop} {x y : Int32} {rest : List Value} (hm : xfind code pc = some (.inl (xop (xf_icmp_gt tgt)))) (h1 : y < x → xE str fs call code (tgt, lv, rest, hp, sz, sl) r) (h2 : ¬ (y < x) → xE str fs call code (pc + 3, lv, rest, hp, sz, sl) r) : xE str fs call code (pc, lv, .int y :: .int x :: rest, hp, sz, sl) r :=
  xe_if _ (tgt, lv, rest) (pc + 3, lv, rest) hm (fun h => by simp only [xf_icmp_gt, if_pos h]) (fun h => by simp only [xf_icmp_gt, if_neg h]) h1 h2
theorem xe_icmp_le {str : Nat → Nat} {fs : Nat → xS → xS → Prop} {call : xRel} {code : List (Nat × xEn)} {pc tgt : Nat} {lv : xLv} {hp : xH} {sz sl : Nat} {r : xR → Prop} {x y : Int32} {rest : List Value} (hm : xfind code pc = some (.inl (xop (xf_icmp_le tgt)))) (h1 : x ≤ y → xE str fs call code (tgt, lv, rest, hp, sz, sl) r) (h2 : ¬ (x ≤ y) → xE str fs call code (pc + 3, lv, rest, hp, sz, sl) r) : xE str fs call code (pc, lv, .int y :: .int x :: rest, hp, sz, sl) r :=
  xe_if _ (tgt, lv, rest) (pc + 3, lv, rest) hm (fun h => by simp only [xf_icmp_le, if_pos h]) (fun h => by simp only [xf_icmp_le, if_neg h]) h1 h2
