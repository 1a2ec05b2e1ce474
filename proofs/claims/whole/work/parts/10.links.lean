/-! LINKS: which field, method, constant an instruction of a class means; each by its place in the tables. -/
abbrev MM : Type := MethodName × ByteArray × Nat × Option FieldType × Nat × Nat × Bool
def nth {α : Type} : List α → Nat → Option α
  | [], _ => none
  | a :: _, 0 => some a
  | _ :: l, n + 1 => nth l n
theorem nth_eq {α : Type} : ∀ (l : List α) (n : Nat), nth l n = l[n]?
  | [], _ => rfl
  | _ :: _, 0 => rfl
  | _ :: l, n + 1 => by rw [List.getElem?_cons_succ]; exact nth_eq l n
def ownS (oi : Nat) : String := match oi with | 0 => RX0 | 1 => RX1 | 2 => RX2 | 3 => RX3 | 4 => RX4 | 5 => RX5 | 6 => RX6 | 7 => RX7 | 8 => RX8 | _ => RL
def mil : List MM := [
  (yX0_keep, cX0_keep, 2, none, 1, 0, false),
  (yX0_takeBack, cX0_takeBack, 2, (some .boolean), 1, 0, false),
  (yX0_forget, cX0_forget, 1, none, 0, 0, false),
  (yX1_answer, cX1_answer, 4, (some .int), 3, 1, false),
  (yX1_sizeBody, cX1_sizeBody, 1, (some .int), 0, 1, false),
  (yX1_markBody, cX1_markBody, 1, (some .int), 0, 1, false),
  (yX1_run, cX1_run, 3, (some .int), 2, 1, false),
  (yX1_leave, cX1_leave, 2, none, 1, 1, false),
  (yX2_clear, cX2_clear, 2, none, 0, 2, false),
  (yX2_become, cX2_become, 2, none, 1, 2, false),
  (yX2_write, cX2_write, 3, none, 2, 2, false),
  (yX2_read, cX2_read, 3, none, 2, 2, false),
  (yX2_stands, cX2_stands, 1, (some .boolean), 0, 2, false),
  (yX2_has, cX2_has, 2, (some .boolean), 1, 2, false),
  (yX2_canHear, cX2_canHear, 3, (some .boolean), 2, 2, false),
  (yX2_weight, cX2_weight, 3, (some .int), 2, 2, false),
  (yX2_weigh, cX2_weigh, 4, none, 3, 2, false),
  (yX2_heardBy, cX2_heardBy, 4, (some .int), 1, 2, false),
  (yX2_barAt, cX2_barAt, 2, (some .int), 1, 2, false),
  (yX2_together, cX2_together, 3, (some .int), 0, 2, false),
  (yX2_quicken, cX2_quicken, 3, none, 1, 2, false),
  (yX2_leanAt, cX2_leanAt, 4, (some .int), 2, 2, false),
  (yX2_play, cX2_play, 3, none, 0, 2, false),
  (yX2_paceBehind, cX2_paceBehind, 5, (some .int), 2, 2, false),
  (yX2_pull, cX2_pull, 5, (some .int), 1, 2, false),
  (yX2_nearing, cX2_nearing, 4, (some .int), 2, 2, false),
  (yX3_findLeast, cX3_findLeast, 6, none, 2, 3, false),
  (yX3_changes, cX3_changes, 5, (some .int), 2, 3, false),
  (yX3_step, cX3_step, 6, (some .boolean), 1, 3, false),
  (yX3_swap, cX3_swap, 4, none, 2, 3, false),
  (yX4_isRow, cX4_isRow, 2, (some .boolean), 1, 4, false),
  (yX4_lacks, cX4_lacks, 2, (some .boolean), 1, 4, false),
  (yX4_laneOf, cX4_laneOf, 2, (some .int), 1, 4, false),
  (yX4_holds, cX4_holds, 4, (some .boolean), 3, 4, false),
  (yX4_make, cX4_make, 5, none, 3, 4, false),
  (yX4_put, cX4_put, 5, (some .int), 3, 4, false),
  (yX4_carry, cX4_carry, 6, none, 5, 4, false),
  (yX4_lend, cX4_lend, 4, none, 3, 4, false),
  (yX4_forget, cX4_forget, 2, (some .int), 1, 4, false),
  (yX4_howMany, cX4_howMany, 3, (some .int), 0, 4, false),
  (yX5_behind, cX5_behind, 4, (some (.object "BandPace$Band")), 2, 5, false),
  (yX5_driftOf, cX5_driftOf, 2, (some .int), 1, 5, false),
  (yX5_findRound, cX5_findRound, 4, (some .boolean), 1, 5, false),
  (yX5_remember, cX5_remember, 2, none, 1, 5, false),
  (yX5_isAs, cX5_isAs, 3, (some .boolean), 1, 5, false),
  (yX5_firstNoticed, cX5_firstNoticed, 6, (some .int), 3, 5, false),
  (yX5_findFallen, cX5_findFallen, 7, none, 4, 5, false),
  (yX5_fallenAt, cX5_fallenAt, 5, (some .int), 3, 5, true),
  (yX5_bestCountIn, cX5_bestCountIn, 8, (some .int), 3, 5, false),
  (yX5_findDeaf, cX5_findDeaf, 4, none, 1, 5, false),
  (yX5_findInEar, cX5_findInEar, 3, none, 1, 5, false),
  (yX5_keepNearest, cX5_keepNearest, 3, none, 2, 5, false),
  (yX5_blameOf, cX5_blameOf, 3, (some .int), 2, 5, false),
  (yX5_bestBack, cX5_bestBack, 10, (some .int), 5, 5, false),
  (yX5_passesUnnoticed, cX5_passesUnnoticed, 8, (some .boolean), 5, 5, false),
  (yX5_gainOfClaps, cX5_gainOfClaps, 5, (some .int), 3, 5, false),
  (yX5_findPushers, cX5_findPushers, 5, none, 2, 5, false),
  (yX5_leastPush, cX5_leastPush, 5, (some .int), 3, 5, false),
  (yX5_hasPaces, cX5_hasPaces, 3, (some .boolean), 1, 5, false),
  (yX5_findNight, cX5_findNight, 9, none, 3, 5, false),
  (yX6_takeIn, cX6_takeIn, 2, (some .boolean), 1, 6, false),
  (yX6_readInto, cX6_readInto, 2, (some .boolean), 1, 6, false),
  (yX6_readLaw, cX6_readLaw, 2, (some .boolean), 1, 6, false),
  (yX6_readSong, cX6_readSong, 2, (some .boolean), 1, 6, false),
  (yX6_readPlayers, cX6_readPlayers, 3, (some .boolean), 1, 6, false),
  (yX6_readPlayer, cX6_readPlayer, 3, (some .boolean), 1, 6, false),
  (yX6_readEars, cX6_readEars, 3, (some .boolean), 1, 6, false),
  (yX6_readEar, cX6_readEar, 4, (some .boolean), 1, 6, false),
  (yX6_takesHeard, cX6_takesHeard, 3, (some .boolean), 2, 6, false),
  (yX6_takesNumber, cX6_takesNumber, 3, (some .boolean), 2, 6, false),
  (yX6_seesNumber, cX6_seesNumber, 1, (some .boolean), 0, 6, false),
  (yX6_takes, cX6_takes, 2, (some .boolean), 1, 6, false),
  (yX6_fails, cX6_fails, 2, (some .boolean), 1, 6, false),
  (yX6_sign, cX6_sign, 1, (some .int), 0, 6, false),
  (yX6_signAt, cX6_signAt, 2, (some .int), 1, 6, false),
  (yX6_isFigure, cX6_isFigure, 1, (some .boolean), 1, 6, true),
  (yX6_barOf, cX6_barOf, 1, (some .int), 1, 6, true),
  (yX6_kindOf, cX6_kindOf, 1, (some .int), 1, 6, true),
  (yX7_row, cX7_row, 4, (some .int), 3, 7, false),
  (yX7_set, cX7_set, 4, (some .int), 3, 7, false),
  (yX7_copy, cX7_copy, 6, (some .int), 5, 7, false),
  (yX7_drop, cX7_drop, 2, (some .int), 1, 7, false),
  (yX7_feed, cX7_feed, 2, (some .int), 1, 7, false),
  (yX7_band, cX7_band, 2, (some .int), 0, 7, false),
  (yX7_fault, cX7_fault, 1, (some .int), 0, 7, false),
  (yX7_undo, cX7_undo, 1, (some .int), 0, 7, false),
  (yX7_bars, cX7_bars, 3, (some .int), 1, 7, false),
  (yX7_pace, cX7_pace, 4, (some .int), 2, 7, false),
  (yX7_hears, cX7_hears, 5, (some .int), 3, 7, false),
  (yX7_click, cX7_click, 3, (some .int), 1, 7, false),
  (yX7_claps, cX7_claps, 2, (some .int), 1, 7, false),
  (yX7_player, cX7_player, 3, (some .int), 2, 7, false),
  (yX7_ear, cX7_ear, 3, (some .int), 2, 7, false),
  (yX7_bar, cX7_bar, 2, (some .int), 1, 7, false),
  (yX7_ahead, cX7_ahead, 4, (some .int), 2, 7, false),
  (yX7_drift, cX7_drift, 1, (some .int), 0, 7, false),
  (yX7_round, cX7_round, 2, (some .int), 1, 7, false),
  (yX7_noticed, cX7_noticed, 3, (some .int), 2, 7, false),
  (yX7_dancers, cX7_dancers, 6, (some .int), 5, 7, false),
  (yX7_countIn, cX7_countIn, 3, (some .int), 2, 7, false),
  (yX7_deaf, cX7_deaf, 2, (some .int), 1, 7, false),
  (yX7_inEar, cX7_inEar, 2, (some .int), 1, 7, false),
  (yX7_blame, cX7_blame, 2, (some .int), 1, 7, false),
  (yX7_back, cX7_back, 5, (some .int), 4, 7, false),
  (yX7_songs, cX7_songs, 6, (some .int), 4, 7, false),
  (yX7_clapped, cX7_clapped, 3, (some .int), 2, 7, false),
  (yX7_whoPushed, cX7_whoPushed, 4, (some .int), 3, 7, false),
  (yX7_night, cX7_night, 4, (some .int), 3, 7, false),
  (yX7_image, cX7_image, 2, (some .int), 1, 7, false),
  (yX7_restore, cX7_restore, 2, (some .int), 1, 7, false),
  (yX7_kind, cX7_kind, 2, (some .int), 1, 7, false),
  (yX7_as, cX7_as, 3, (some .int), 2, 7, false),
  (yX7_ask, cX7_ask, 3, (some .int), 2, 7, false),
  (yX7_trace, cX7_trace, 2, (some .int), 1, 7, false),
  (yX7_count, cX7_count, 2, (some .int), 1, 7, false),
  (yX7_status, cX7_status, 1, (some .int), 0, 7, false),
  (yX7_found, cX7_found, 2, (some .int), 1, 7, false),
  (yX7_withoutFinding, cX7_withoutFinding, 2, (some .int), 1, 7, false),
  (yX7_within, cX7_within, 3, (some .boolean), 3, 7, true),
  (yX7_bounded, cX7_bounded, 1, (some .int), 1, 7, true),
  (yX7_isOf, cX7_isOf, 2, (some .boolean), 2, 7, true),
  (yX8_in, cX8_in, 6, (some .boolean), 3, 8, true),
  (yX8_plain, cX8_plain, 1, (some .int), 1, 8, true),
  (yX8_bound, cX8_bound, 1, (some .int), 1, 8, true),
  (yX8_found, cX8_found, 2, (some .int), 1, 8, false),
  (yX8_well, cX8_well, 2, (some .int), 1, 8, false),
  (yX8_isRow, cX8_isRow, 1, (some .boolean), 1, 8, true),
  (yX8_row, cX8_row, 5, (some .int), 3, 8, false),
  (yX8_cutTo, cX8_cutTo, 2, (some .int), 2, 8, true),
  (yX8_against, cX8_against, 4, (some .int), 3, 8, false),
  (yX8_set, cX8_set, 5, (some .int), 3, 8, false),
  (yX8_copy, cX8_copy, 7, (some .int), 5, 8, false),
  (yX8_drop, cX8_drop, 2, (some .int), 1, 8, false),
  (yX8_feed, cX8_feed, 2, (some .int), 1, 8, false),
  (yX8_byteAt, cX8_byteAt, 2, (some .int), 1, 8, false),
  (yX8_isFigure, cX8_isFigure, 2, (some .boolean), 1, 8, false),
  (yX8_takes, cX8_takes, 3, (some .boolean), 1, 8, false),
  (yX8_takesNumber, cX8_takesNumber, 4, (some .boolean), 2, 8, false),
  (yX8_isMore, cX8_isMore, 1, (some .boolean), 0, 8, false),
  (yX8_takesLaw, cX8_takesLaw, 2, (some .boolean), 0, 8, false),
  (yX8_barOf, cX8_barOf, 1, (some .int), 1, 8, true),
  (yX8_takesSong, cX8_takesSong, 1, (some .boolean), 0, 8, false),
  (yX8_sortOf, cX8_sortOf, 1, (some .int), 1, 8, true),
  (yX8_takesPlayer, cX8_takesPlayer, 3, (some .boolean), 0, 8, false),
  (yX8_takesEar, cX8_takesEar, 4, (some .boolean), 0, 8, false),
  (yX8_isBand, cX8_isBand, 2, (some .boolean), 0, 8, false),
  (yX8_band, cX8_band, 3, (some .int), 0, 8, false),
  (yX8_fault, cX8_fault, 1, (some .int), 0, 8, false),
  (yX8_layNow, cX8_layNow, 2, none, 0, 8, false),
  (yX8_leanAt, cX8_leanAt, 4, (some .int), 2, 8, false),
  (yX8_paceBehind, cX8_paceBehind, 6, (some .int), 2, 8, false),
  (yX8_plays, cX8_plays, 3, none, 0, 8, false),
  (yX8_mean, cX8_mean, 3, (some .int), 0, 8, false),
  (yX8_playsMany, cX8_playsMany, 3, none, 1, 8, false),
  (yX8_meanNow, cX8_meanNow, 3, (some .int), 0, 8, false),
  (yX8_driftBy, cX8_driftBy, 2, (some .int), 0, 8, false),
  (yX8_minds, cX8_minds, 2, none, 0, 8, false),
  (yX8_undo, cX8_undo, 2, (some .int), 0, 8, false),
  (yX8_isPlayer, cX8_isPlayer, 2, (some .boolean), 1, 8, false),
  (yX8_isNone, cX8_isNone, 1, (some .boolean), 0, 8, false),
  (yX8_bars, cX8_bars, 4, (some .int), 1, 8, false),
  (yX8_pace, cX8_pace, 4, (some .int), 2, 8, false),
  (yX8_hears, cX8_hears, 5, (some .int), 3, 8, false),
  (yX8_click, cX8_click, 3, (some .int), 1, 8, false),
  (yX8_claps, cX8_claps, 3, (some .int), 1, 8, false),
  (yX8_player, cX8_player, 5, (some .int), 2, 8, false),
  (yX8_ear, cX8_ear, 3, (some .int), 2, 8, false),
  (yX8_bar, cX8_bar, 2, (some .int), 1, 8, false),
  (yX8_ahead, cX8_ahead, 3, (some .int), 2, 8, false),
  (yX8_drift, cX8_drift, 1, (some .int), 0, 8, false),
  (yX8_round, cX8_round, 4, (some .int), 1, 8, false),
  (yX8_areAlike, cX8_areAlike, 5, (some .boolean), 2, 8, false),
  (yX8_noticed, cX8_noticed, 5, (some .int), 2, 8, false),
  (yX8_dancers, cX8_dancers, 12, (some .int), 5, 8, false),
  (yX8_countIn, cX8_countIn, 7, (some .int), 2, 8, false),
  (yX8_deaf, cX8_deaf, 7, (some .int), 1, 8, false),
  (yX8_inEar, cX8_inEar, 7, (some .int), 1, 8, false),
  (yX8_blame, cX8_blame, 3, (some .int), 1, 8, false),
  (yX8_farBy, cX8_farBy, 9, (some .int), 5, 8, false),
  (yX8_back, cX8_back, 9, (some .int), 4, 8, false),
  (yX8_between, cX8_between, 10, (some .int), 3, 8, false),
  (yX8_songs, cX8_songs, 12, (some .int), 4, 8, false),
  (yX8_clapped, cX8_clapped, 5, (some .int), 2, 8, false),
  (yX8_pushBy, cX8_pushBy, 7, (some .int), 2, 8, false),
  (yX8_whoPushed, cX8_whoPushed, 9, (some .int), 3, 8, false),
  (yX8_night, cX8_night, 10, (some .int), 3, 8, false),
  (yX8_image, cX8_image, 3, (some .int), 1, 8, false),
  (yX8_restore, cX8_restore, 3, (some .int), 1, 8, false),
  (yX8_leaves, cX8_leaves, 2, none, 1, 8, false),
  (yX8_kind, cX8_kind, 2, (some .int), 1, 8, false),
  (yX8_isOf, cX8_isOf, 2, (some .boolean), 2, 8, true),
  (yX8_as, cX8_as, 3, (some .int), 2, 8, false),
  (yX8_bareSize, cX8_bareSize, 2, (some .int), 1, 8, false),
  (yX8_bareMark, cX8_bareMark, 2, (some .int), 1, 8, false),
  (yX8_steadyMark, cX8_steadyMark, 2, (some .int), 1, 8, false),
  (yX8_markOfSteady, cX8_markOfSteady, 2, (some .int), 1, 8, false),
  (yX8_steadySize, cX8_steadySize, 3, (some .int), 1, 8, false),
  (yX8_clickedSize, cX8_clickedSize, 2, (some .int), 1, 8, false),
  (yX8_sizeOf, cX8_sizeOf, 2, (some .int), 1, 8, false),
  (yX8_markOf, cX8_markOf, 3, (some .int), 1, 8, false),
  (yX8_ask, cX8_ask, 3, (some .int), 2, 8, false),
  (yX8_trace, cX8_trace, 2, (some .int), 1, 8, false),
  (yX8_rowsMany, cX8_rowsMany, 3, (some .int), 0, 8, false),
  (yX8_count, cX8_count, 2, (some .int), 1, 8, false),
  (yX8_status, cX8_status, 1, (some .int), 0, 8, false)]
def MOK (q : MM) : Prop := MI q.1 q.2.1 q.2.2.1 q.2.2.2.1 q.2.2.2.2.1 ∧ (∃ (T : u_T) (N : Nat), vwCl[q.2.2.2.2.2.1]? = some (q.1.cls, T, N)) ∧ ((q.2.2.2.2.2.2 = true ∧ Cond.static q.1 ∈ gw) ∨ (q.2.2.2.2.2.2 = false ∧ Cond.instanceMethod q.1 ∈ gw ∧ Cond.selects q.1.cls q.1 q.1 ∈ gw))
set_option maxRecDepth 20000 in
theorem mk_0 : MOK (yX0_keep, cX0_keep, 2, none, 1, 0, false) := ⟨⟨gw_at 544 rfl rfl, gw_at 74 (by decide +kernel) rfl, by decide +kernel, ⟨by decide +kernel, by decide +kernel, by decide +kernel⟩, Nat.le_of_ble_eq_true rfl⟩, ⟨_, _, rfl⟩, Or.inr ⟨rfl, gw_at 542 (by decide +kernel) rfl, gw_at 543 (by decide +kernel) rfl⟩⟩
set_option maxRecDepth 20000 in
theorem mk_1 : MOK (yX0_takeBack, cX0_takeBack, 2, (some .boolean), 1, 0, false) := ⟨⟨gw_at 527 rfl rfl, gw_at 74 (by decide +kernel) rfl, by decide +kernel, ⟨by decide +kernel, by decide +kernel, by decide +kernel⟩, Nat.le_of_ble_eq_true rfl⟩, ⟨_, _, rfl⟩, Or.inr ⟨rfl, gw_at 525 (by decide +kernel) rfl, gw_at 526 (by decide +kernel) rfl⟩⟩
set_option maxRecDepth 20000 in
theorem mk_2 : MOK (yX0_forget, cX0_forget, 1, none, 0, 0, false) := ⟨⟨gw_at 515 rfl rfl, gw_at 74 (by decide +kernel) rfl, by decide +kernel, ⟨by decide +kernel, by decide +kernel, by decide +kernel⟩, Nat.le_of_ble_eq_true rfl⟩, ⟨_, _, rfl⟩, Or.inr ⟨rfl, gw_at 513 (by decide +kernel) rfl, gw_at 514 (by decide +kernel) rfl⟩⟩
set_option maxRecDepth 20000 in
theorem mk_3 : MOK (yX1_answer, cX1_answer, 4, (some .int), 3, 1, false) := ⟨⟨gw_at 828 rfl rfl, gw_at 77 (by decide +kernel) rfl, by decide +kernel, ⟨by decide +kernel, by decide +kernel, by decide +kernel⟩, Nat.le_of_ble_eq_true rfl⟩, ⟨_, _, rfl⟩, Or.inr ⟨rfl, gw_at 826 (by decide +kernel) rfl, gw_at 827 (by decide +kernel) rfl⟩⟩
set_option maxRecDepth 20000 in
theorem mk_4 : MOK (yX1_sizeBody, cX1_sizeBody, 1, (some .int), 0, 1, false) := ⟨⟨gw_at 832 rfl rfl, gw_at 77 (by decide +kernel) rfl, by decide +kernel, ⟨by decide +kernel, by decide +kernel, by decide +kernel⟩, Nat.le_of_ble_eq_true rfl⟩, ⟨_, _, rfl⟩, Or.inr ⟨rfl, gw_at 831 (by decide +kernel) rfl, gw_at 27 (by decide +kernel) rfl⟩⟩
set_option maxRecDepth 20000 in
theorem mk_5 : MOK (yX1_markBody, cX1_markBody, 1, (some .int), 0, 1, false) := ⟨⟨gw_at 839 rfl rfl, gw_at 77 (by decide +kernel) rfl, by decide +kernel, ⟨by decide +kernel, by decide +kernel, by decide +kernel⟩, Nat.le_of_ble_eq_true rfl⟩, ⟨_, _, rfl⟩, Or.inr ⟨rfl, gw_at 838 (by decide +kernel) rfl, gw_at 28 (by decide +kernel) rfl⟩⟩
set_option maxRecDepth 20000 in
theorem mk_6 : MOK (yX1_run, cX1_run, 3, (some .int), 2, 1, false) := ⟨⟨gw_at 845 rfl rfl, gw_at 77 (by decide +kernel) rfl, by decide +kernel, ⟨by decide +kernel, by decide +kernel, by decide +kernel⟩, Nat.le_of_ble_eq_true rfl⟩, ⟨_, _, rfl⟩, Or.inr ⟨rfl, gw_at 844 (by decide +kernel) rfl, gw_at 29 (by decide +kernel) rfl⟩⟩
set_option maxRecDepth 20000 in
theorem mk_7 : MOK (yX1_leave, cX1_leave, 2, none, 1, 1, false) := ⟨⟨gw_at 849 rfl rfl, gw_at 77 (by decide +kernel) rfl, by decide +kernel, ⟨by decide +kernel, by decide +kernel, by decide +kernel⟩, Nat.le_of_ble_eq_true rfl⟩, ⟨_, _, rfl⟩, Or.inr ⟨rfl, gw_at 848 (by decide +kernel) rfl, gw_at 30 (by decide +kernel) rfl⟩⟩
set_option maxRecDepth 20000 in
theorem mk_8 : MOK (yX2_clear, cX2_clear, 2, none, 0, 2, false) := ⟨⟨gw_at 427 rfl rfl, gw_at 73 (by decide +kernel) rfl, by decide +kernel, ⟨by decide +kernel, by decide +kernel, by decide +kernel⟩, Nat.le_of_ble_eq_true rfl⟩, ⟨_, _, rfl⟩, Or.inr ⟨rfl, gw_at 425 (by decide +kernel) rfl, gw_at 426 (by decide +kernel) rfl⟩⟩
set_option maxRecDepth 20000 in
theorem mk_9 : MOK (yX2_become, cX2_become, 2, none, 1, 2, false) := ⟨⟨gw_at 510 rfl rfl, gw_at 73 (by decide +kernel) rfl, by decide +kernel, ⟨by decide +kernel, by decide +kernel, by decide +kernel⟩, Nat.le_of_ble_eq_true rfl⟩, ⟨_, _, rfl⟩, Or.inr ⟨rfl, gw_at 508 (by decide +kernel) rfl, gw_at 509 (by decide +kernel) rfl⟩⟩
set_option maxRecDepth 20000 in
theorem mk_10 : MOK (yX2_write, cX2_write, 3, none, 2, 2, false) := ⟨⟨gw_at 548 rfl rfl, gw_at 73 (by decide +kernel) rfl, by decide +kernel, ⟨by decide +kernel, by decide +kernel, by decide +kernel⟩, Nat.le_of_ble_eq_true rfl⟩, ⟨_, _, rfl⟩, Or.inr ⟨rfl, gw_at 546 (by decide +kernel) rfl, gw_at 547 (by decide +kernel) rfl⟩⟩
set_option maxRecDepth 20000 in
theorem mk_11 : MOK (yX2_read, cX2_read, 3, none, 2, 2, false) := ⟨⟨gw_at 531 rfl rfl, gw_at 73 (by decide +kernel) rfl, by decide +kernel, ⟨by decide +kernel, by decide +kernel, by decide +kernel⟩, Nat.le_of_ble_eq_true rfl⟩, ⟨_, _, rfl⟩, Or.inr ⟨rfl, gw_at 529 (by decide +kernel) rfl, gw_at 530 (by decide +kernel) rfl⟩⟩
set_option maxRecDepth 20000 in
theorem mk_12 : MOK (yX2_stands, cX2_stands, 1, (some .boolean), 0, 2, false) := ⟨⟨gw_at 540 rfl rfl, gw_at 73 (by decide +kernel) rfl, by decide +kernel, ⟨by decide +kernel, by decide +kernel, by decide +kernel⟩, Nat.le_of_ble_eq_true rfl⟩, ⟨_, _, rfl⟩, Or.inr ⟨rfl, gw_at 538 (by decide +kernel) rfl, gw_at 539 (by decide +kernel) rfl⟩⟩
set_option maxRecDepth 20000 in
theorem mk_13 : MOK (yX2_has, cX2_has, 2, (some .boolean), 1, 2, false) := ⟨⟨gw_at 497 rfl rfl, gw_at 73 (by decide +kernel) rfl, by decide +kernel, ⟨by decide +kernel, by decide +kernel, by decide +kernel⟩, Nat.le_of_ble_eq_true rfl⟩, ⟨_, _, rfl⟩, Or.inr ⟨rfl, gw_at 495 (by decide +kernel) rfl, gw_at 496 (by decide +kernel) rfl⟩⟩
set_option maxRecDepth 20000 in
theorem mk_14 : MOK (yX2_canHear, cX2_canHear, 3, (some .boolean), 2, 2, false) := ⟨⟨gw_at 493 rfl rfl, gw_at 73 (by decide +kernel) rfl, by decide +kernel, ⟨by decide +kernel, by decide +kernel, by decide +kernel⟩, Nat.le_of_ble_eq_true rfl⟩, ⟨_, _, rfl⟩, Or.inr ⟨rfl, gw_at 491 (by decide +kernel) rfl, gw_at 492 (by decide +kernel) rfl⟩⟩
set_option maxRecDepth 20000 in
theorem mk_15 : MOK (yX2_weight, cX2_weight, 3, (some .int), 2, 2, false) := ⟨⟨gw_at 501 rfl rfl, gw_at 73 (by decide +kernel) rfl, by decide +kernel, ⟨by decide +kernel, by decide +kernel, by decide +kernel⟩, Nat.le_of_ble_eq_true rfl⟩, ⟨_, _, rfl⟩, Or.inr ⟨rfl, gw_at 499 (by decide +kernel) rfl, gw_at 500 (by decide +kernel) rfl⟩⟩
set_option maxRecDepth 20000 in
theorem mk_16 : MOK (yX2_weigh, cX2_weigh, 4, none, 3, 2, false) := ⟨⟨gw_at 505 rfl rfl, gw_at 73 (by decide +kernel) rfl, by decide +kernel, ⟨by decide +kernel, by decide +kernel, by decide +kernel⟩, Nat.le_of_ble_eq_true rfl⟩, ⟨_, _, rfl⟩, Or.inr ⟨rfl, gw_at 503 (by decide +kernel) rfl, gw_at 504 (by decide +kernel) rfl⟩⟩
set_option maxRecDepth 20000 in
theorem mk_17 : MOK (yX2_heardBy, cX2_heardBy, 4, (some .int), 1, 2, false) := ⟨⟨gw_at 613 rfl rfl, gw_at 73 (by decide +kernel) rfl, by decide +kernel, ⟨by decide +kernel, by decide +kernel, by decide +kernel⟩, Nat.le_of_ble_eq_true rfl⟩, ⟨_, _, rfl⟩, Or.inr ⟨rfl, gw_at 611 (by decide +kernel) rfl, gw_at 612 (by decide +kernel) rfl⟩⟩
set_option maxRecDepth 20000 in
theorem mk_18 : MOK (yX2_barAt, cX2_barAt, 2, (some .int), 1, 2, false) := ⟨⟨gw_at 556 rfl rfl, gw_at 73 (by decide +kernel) rfl, by decide +kernel, ⟨by decide +kernel, by decide +kernel, by decide +kernel⟩, Nat.le_of_ble_eq_true rfl⟩, ⟨_, _, rfl⟩, Or.inr ⟨rfl, gw_at 554 (by decide +kernel) rfl, gw_at 555 (by decide +kernel) rfl⟩⟩
set_option maxRecDepth 20000 in
theorem mk_19 : MOK (yX2_together, cX2_together, 3, (some .int), 0, 2, false) := ⟨⟨gw_at 579 rfl rfl, gw_at 73 (by decide +kernel) rfl, by decide +kernel, ⟨by decide +kernel, by decide +kernel, by decide +kernel⟩, Nat.le_of_ble_eq_true rfl⟩, ⟨_, _, rfl⟩, Or.inr ⟨rfl, gw_at 577 (by decide +kernel) rfl, gw_at 578 (by decide +kernel) rfl⟩⟩
set_option maxRecDepth 20000 in
theorem mk_20 : MOK (yX2_quicken, cX2_quicken, 3, none, 1, 2, false) := ⟨⟨gw_at 603 rfl rfl, gw_at 73 (by decide +kernel) rfl, by decide +kernel, ⟨by decide +kernel, by decide +kernel, by decide +kernel⟩, Nat.le_of_ble_eq_true rfl⟩, ⟨_, _, rfl⟩, Or.inr ⟨rfl, gw_at 601 (by decide +kernel) rfl, gw_at 602 (by decide +kernel) rfl⟩⟩
set_option maxRecDepth 20000 in
theorem mk_21 : MOK (yX2_leanAt, cX2_leanAt, 4, (some .int), 2, 2, false) := ⟨⟨gw_at 568 rfl rfl, gw_at 73 (by decide +kernel) rfl, by decide +kernel, ⟨by decide +kernel, by decide +kernel, by decide +kernel⟩, Nat.le_of_ble_eq_true rfl⟩, ⟨_, _, rfl⟩, Or.inr ⟨rfl, gw_at 566 (by decide +kernel) rfl, gw_at 567 (by decide +kernel) rfl⟩⟩
set_option maxRecDepth 20000 in
theorem mk_22 : MOK (yX2_play, cX2_play, 3, none, 0, 2, false) := ⟨⟨gw_at 552 rfl rfl, gw_at 73 (by decide +kernel) rfl, by decide +kernel, ⟨by decide +kernel, by decide +kernel, by decide +kernel⟩, Nat.le_of_ble_eq_true rfl⟩, ⟨_, _, rfl⟩, Or.inr ⟨rfl, gw_at 550 (by decide +kernel) rfl, gw_at 551 (by decide +kernel) rfl⟩⟩
set_option maxRecDepth 20000 in
theorem mk_23 : MOK (yX2_paceBehind, cX2_paceBehind, 5, (some .int), 2, 2, false) := ⟨⟨gw_at 560 rfl rfl, gw_at 73 (by decide +kernel) rfl, by decide +kernel, ⟨by decide +kernel, by decide +kernel, by decide +kernel⟩, Nat.le_of_ble_eq_true rfl⟩, ⟨_, _, rfl⟩, Or.inr ⟨rfl, gw_at 559 (by decide +kernel) rfl, gw_at 15 (by decide +kernel) rfl⟩⟩
set_option maxRecDepth 20000 in
theorem mk_24 : MOK (yX2_pull, cX2_pull, 5, (some .int), 1, 2, false) := ⟨⟨gw_at 564 rfl rfl, gw_at 73 (by decide +kernel) rfl, by decide +kernel, ⟨by decide +kernel, by decide +kernel, by decide +kernel⟩, Nat.le_of_ble_eq_true rfl⟩, ⟨_, _, rfl⟩, Or.inr ⟨rfl, gw_at 563 (by decide +kernel) rfl, gw_at 16 (by decide +kernel) rfl⟩⟩
set_option maxRecDepth 20000 in
theorem mk_25 : MOK (yX2_nearing, cX2_nearing, 4, (some .int), 2, 2, false) := ⟨⟨gw_at 572 rfl rfl, gw_at 73 (by decide +kernel) rfl, by decide +kernel, ⟨by decide +kernel, by decide +kernel, by decide +kernel⟩, Nat.le_of_ble_eq_true rfl⟩, ⟨_, _, rfl⟩, Or.inr ⟨rfl, gw_at 571 (by decide +kernel) rfl, gw_at 17 (by decide +kernel) rfl⟩⟩
set_option maxRecDepth 20000 in
theorem mk_26 : MOK (yX3_findLeast, cX3_findLeast, 6, none, 2, 3, false) := ⟨⟨gw_at 752 rfl rfl, gw_at 76 (by decide +kernel) rfl, by decide +kernel, ⟨by decide +kernel, by decide +kernel, by decide +kernel⟩, Nat.le_of_ble_eq_true rfl⟩, ⟨_, _, rfl⟩, Or.inr ⟨rfl, gw_at 750 (by decide +kernel) rfl, gw_at 751 (by decide +kernel) rfl⟩⟩
set_option maxRecDepth 20000 in
theorem mk_27 : MOK (yX3_changes, cX3_changes, 5, (some .int), 2, 3, false) := ⟨⟨gw_at 757 rfl rfl, gw_at 76 (by decide +kernel) rfl, by decide +kernel, ⟨by decide +kernel, by decide +kernel, by decide +kernel⟩, Nat.le_of_ble_eq_true rfl⟩, ⟨_, _, rfl⟩, Or.inr ⟨rfl, gw_at 756 (by decide +kernel) rfl, gw_at 22 (by decide +kernel) rfl⟩⟩
set_option maxRecDepth 20000 in
theorem mk_28 : MOK (yX3_step, cX3_step, 6, (some .boolean), 1, 3, false) := ⟨⟨gw_at 763 rfl rfl, gw_at 76 (by decide +kernel) rfl, by decide +kernel, ⟨by decide +kernel, by decide +kernel, by decide +kernel⟩, Nat.le_of_ble_eq_true rfl⟩, ⟨_, _, rfl⟩, Or.inr ⟨rfl, gw_at 762 (by decide +kernel) rfl, gw_at 23 (by decide +kernel) rfl⟩⟩
set_option maxRecDepth 20000 in
theorem mk_29 : MOK (yX3_swap, cX3_swap, 4, none, 2, 3, false) := ⟨⟨gw_at 767 rfl rfl, gw_at 76 (by decide +kernel) rfl, by decide +kernel, ⟨by decide +kernel, by decide +kernel, by decide +kernel⟩, Nat.le_of_ble_eq_true rfl⟩, ⟨_, _, rfl⟩, Or.inr ⟨rfl, gw_at 766 (by decide +kernel) rfl, gw_at 24 (by decide +kernel) rfl⟩⟩
set_option maxRecDepth 20000 in
theorem mk_30 : MOK (yX4_isRow, cX4_isRow, 2, (some .boolean), 1, 4, false) := ⟨⟨gw_at 350 rfl rfl, gw_at 71 (by decide +kernel) rfl, by decide +kernel, ⟨by decide +kernel, by decide +kernel, by decide +kernel⟩, Nat.le_of_ble_eq_true rfl⟩, ⟨_, _, rfl⟩, Or.inr ⟨rfl, gw_at 348 (by decide +kernel) rfl, gw_at 349 (by decide +kernel) rfl⟩⟩
set_option maxRecDepth 20000 in
theorem mk_31 : MOK (yX4_lacks, cX4_lacks, 2, (some .boolean), 1, 4, false) := ⟨⟨gw_at 375 rfl rfl, gw_at 71 (by decide +kernel) rfl, by decide +kernel, ⟨by decide +kernel, by decide +kernel, by decide +kernel⟩, Nat.le_of_ble_eq_true rfl⟩, ⟨_, _, rfl⟩, Or.inr ⟨rfl, gw_at 373 (by decide +kernel) rfl, gw_at 374 (by decide +kernel) rfl⟩⟩
set_option maxRecDepth 20000 in
theorem mk_32 : MOK (yX4_laneOf, cX4_laneOf, 2, (some .int), 1, 4, false) := ⟨⟨gw_at 391 rfl rfl, gw_at 71 (by decide +kernel) rfl, by decide +kernel, ⟨by decide +kernel, by decide +kernel, by decide +kernel⟩, Nat.le_of_ble_eq_true rfl⟩, ⟨_, _, rfl⟩, Or.inr ⟨rfl, gw_at 389 (by decide +kernel) rfl, gw_at 390 (by decide +kernel) rfl⟩⟩
set_option maxRecDepth 20000 in
theorem mk_33 : MOK (yX4_holds, cX4_holds, 4, (some .boolean), 3, 4, false) := ⟨⟨gw_at 379 rfl rfl, gw_at 71 (by decide +kernel) rfl, by decide +kernel, ⟨by decide +kernel, by decide +kernel, by decide +kernel⟩, Nat.le_of_ble_eq_true rfl⟩, ⟨_, _, rfl⟩, Or.inr ⟨rfl, gw_at 377 (by decide +kernel) rfl, gw_at 378 (by decide +kernel) rfl⟩⟩
set_option maxRecDepth 20000 in
theorem mk_34 : MOK (yX4_make, cX4_make, 5, none, 3, 4, false) := ⟨⟨gw_at 363 rfl rfl, gw_at 71 (by decide +kernel) rfl, by decide +kernel, ⟨by decide +kernel, by decide +kernel, by decide +kernel⟩, Nat.le_of_ble_eq_true rfl⟩, ⟨_, _, rfl⟩, Or.inr ⟨rfl, gw_at 361 (by decide +kernel) rfl, gw_at 362 (by decide +kernel) rfl⟩⟩
set_option maxRecDepth 20000 in
theorem mk_35 : MOK (yX4_put, cX4_put, 5, (some .int), 3, 4, false) := ⟨⟨gw_at 383 rfl rfl, gw_at 71 (by decide +kernel) rfl, by decide +kernel, ⟨by decide +kernel, by decide +kernel, by decide +kernel⟩, Nat.le_of_ble_eq_true rfl⟩, ⟨_, _, rfl⟩, Or.inr ⟨rfl, gw_at 381 (by decide +kernel) rfl, gw_at 382 (by decide +kernel) rfl⟩⟩
set_option maxRecDepth 20000 in
theorem mk_36 : MOK (yX4_carry, cX4_carry, 6, none, 5, 4, false) := ⟨⟨gw_at 395 rfl rfl, gw_at 71 (by decide +kernel) rfl, by decide +kernel, ⟨by decide +kernel, by decide +kernel, by decide +kernel⟩, Nat.le_of_ble_eq_true rfl⟩, ⟨_, _, rfl⟩, Or.inr ⟨rfl, gw_at 393 (by decide +kernel) rfl, gw_at 394 (by decide +kernel) rfl⟩⟩
set_option maxRecDepth 20000 in
theorem mk_37 : MOK (yX4_lend, cX4_lend, 4, none, 3, 4, false) := ⟨⟨gw_at 680 rfl rfl, gw_at 71 (by decide +kernel) rfl, by decide +kernel, ⟨by decide +kernel, by decide +kernel, by decide +kernel⟩, Nat.le_of_ble_eq_true rfl⟩, ⟨_, _, rfl⟩, Or.inr ⟨rfl, gw_at 678 (by decide +kernel) rfl, gw_at 679 (by decide +kernel) rfl⟩⟩
set_option maxRecDepth 20000 in
theorem mk_38 : MOK (yX4_forget, cX4_forget, 2, (some .int), 1, 4, false) := ⟨⟨gw_at 406 rfl rfl, gw_at 71 (by decide +kernel) rfl, by decide +kernel, ⟨by decide +kernel, by decide +kernel, by decide +kernel⟩, Nat.le_of_ble_eq_true rfl⟩, ⟨_, _, rfl⟩, Or.inr ⟨rfl, gw_at 404 (by decide +kernel) rfl, gw_at 405 (by decide +kernel) rfl⟩⟩
set_option maxRecDepth 20000 in
theorem mk_39 : MOK (yX4_howMany, cX4_howMany, 3, (some .int), 0, 4, false) := ⟨⟨gw_at 861 rfl rfl, gw_at 71 (by decide +kernel) rfl, by decide +kernel, ⟨by decide +kernel, by decide +kernel, by decide +kernel⟩, Nat.le_of_ble_eq_true rfl⟩, ⟨_, _, rfl⟩, Or.inr ⟨rfl, gw_at 859 (by decide +kernel) rfl, gw_at 860 (by decide +kernel) rfl⟩⟩
set_option maxRecDepth 20000 in
theorem mk_40 : MOK (yX5_behind, cX5_behind, 4, (some (.object "BandPace$Band")), 2, 5, false) := ⟨⟨gw_at 630 rfl rfl, gw_at 75 (by decide +kernel) rfl, by decide +kernel, ⟨by decide +kernel, by decide +kernel, by decide +kernel⟩, Nat.le_of_ble_eq_true rfl⟩, ⟨_, _, rfl⟩, Or.inr ⟨rfl, gw_at 628 (by decide +kernel) rfl, gw_at 629 (by decide +kernel) rfl⟩⟩
set_option maxRecDepth 20000 in
theorem mk_41 : MOK (yX5_driftOf, cX5_driftOf, 2, (some .int), 1, 5, false) := ⟨⟨gw_at 640 rfl rfl, gw_at 75 (by decide +kernel) rfl, by decide +kernel, ⟨by decide +kernel, by decide +kernel, by decide +kernel⟩, Nat.le_of_ble_eq_true rfl⟩, ⟨_, _, rfl⟩, Or.inr ⟨rfl, gw_at 638 (by decide +kernel) rfl, gw_at 639 (by decide +kernel) rfl⟩⟩
set_option maxRecDepth 20000 in
theorem mk_42 : MOK (yX5_findRound, cX5_findRound, 4, (some .boolean), 1, 5, false) := ⟨⟨gw_at 650 rfl rfl, gw_at 75 (by decide +kernel) rfl, by decide +kernel, ⟨by decide +kernel, by decide +kernel, by decide +kernel⟩, Nat.le_of_ble_eq_true rfl⟩, ⟨_, _, rfl⟩, Or.inr ⟨rfl, gw_at 648 (by decide +kernel) rfl, gw_at 649 (by decide +kernel) rfl⟩⟩
set_option maxRecDepth 20000 in
theorem mk_43 : MOK (yX5_remember, cX5_remember, 2, none, 1, 5, false) := ⟨⟨gw_at 654 rfl rfl, gw_at 75 (by decide +kernel) rfl, by decide +kernel, ⟨by decide +kernel, by decide +kernel, by decide +kernel⟩, Nat.le_of_ble_eq_true rfl⟩, ⟨_, _, rfl⟩, Or.inr ⟨rfl, gw_at 653 (by decide +kernel) rfl, gw_at 18 (by decide +kernel) rfl⟩⟩
set_option maxRecDepth 20000 in
theorem mk_44 : MOK (yX5_isAs, cX5_isAs, 3, (some .boolean), 1, 5, false) := ⟨⟨gw_at 659 rfl rfl, gw_at 75 (by decide +kernel) rfl, by decide +kernel, ⟨by decide +kernel, by decide +kernel, by decide +kernel⟩, Nat.le_of_ble_eq_true rfl⟩, ⟨_, _, rfl⟩, Or.inr ⟨rfl, gw_at 658 (by decide +kernel) rfl, gw_at 19 (by decide +kernel) rfl⟩⟩
set_option maxRecDepth 20000 in
theorem mk_45 : MOK (yX5_firstNoticed, cX5_firstNoticed, 6, (some .int), 3, 5, false) := ⟨⟨gw_at 668 rfl rfl, gw_at 75 (by decide +kernel) rfl, by decide +kernel, ⟨by decide +kernel, by decide +kernel, by decide +kernel⟩, Nat.le_of_ble_eq_true rfl⟩, ⟨_, _, rfl⟩, Or.inr ⟨rfl, gw_at 666 (by decide +kernel) rfl, gw_at 667 (by decide +kernel) rfl⟩⟩
set_option maxRecDepth 20000 in
theorem mk_46 : MOK (yX5_findFallen, cX5_findFallen, 7, none, 4, 5, false) := ⟨⟨gw_at 684 rfl rfl, gw_at 75 (by decide +kernel) rfl, by decide +kernel, ⟨by decide +kernel, by decide +kernel, by decide +kernel⟩, Nat.le_of_ble_eq_true rfl⟩, ⟨_, _, rfl⟩, Or.inr ⟨rfl, gw_at 682 (by decide +kernel) rfl, gw_at 683 (by decide +kernel) rfl⟩⟩
set_option maxRecDepth 20000 in
theorem mk_47 : MOK (yX5_fallenAt, cX5_fallenAt, 5, (some .int), 3, 5, true) := ⟨⟨gw_at 687 rfl rfl, gw_at 75 (by decide +kernel) rfl, by decide +kernel, ⟨by decide +kernel, by decide +kernel, by decide +kernel⟩, Nat.le_of_ble_eq_true rfl⟩, ⟨_, _, rfl⟩, Or.inl ⟨rfl, gw_at 686 (by decide +kernel) rfl⟩⟩
set_option maxRecDepth 20000 in
theorem mk_48 : MOK (yX5_bestCountIn, cX5_bestCountIn, 8, (some .int), 3, 5, false) := ⟨⟨gw_at 695 rfl rfl, gw_at 75 (by decide +kernel) rfl, by decide +kernel, ⟨by decide +kernel, by decide +kernel, by decide +kernel⟩, Nat.le_of_ble_eq_true rfl⟩, ⟨_, _, rfl⟩, Or.inr ⟨rfl, gw_at 693 (by decide +kernel) rfl, gw_at 694 (by decide +kernel) rfl⟩⟩
set_option maxRecDepth 20000 in
theorem mk_49 : MOK (yX5_findDeaf, cX5_findDeaf, 4, none, 1, 5, false) := ⟨⟨gw_at 704 rfl rfl, gw_at 75 (by decide +kernel) rfl, by decide +kernel, ⟨by decide +kernel, by decide +kernel, by decide +kernel⟩, Nat.le_of_ble_eq_true rfl⟩, ⟨_, _, rfl⟩, Or.inr ⟨rfl, gw_at 702 (by decide +kernel) rfl, gw_at 703 (by decide +kernel) rfl⟩⟩
set_option maxRecDepth 20000 in
theorem mk_50 : MOK (yX5_findInEar, cX5_findInEar, 3, none, 1, 5, false) := ⟨⟨gw_at 719 rfl rfl, gw_at 75 (by decide +kernel) rfl, by decide +kernel, ⟨by decide +kernel, by decide +kernel, by decide +kernel⟩, Nat.le_of_ble_eq_true rfl⟩, ⟨_, _, rfl⟩, Or.inr ⟨rfl, gw_at 717 (by decide +kernel) rfl, gw_at 718 (by decide +kernel) rfl⟩⟩
set_option maxRecDepth 20000 in
theorem mk_51 : MOK (yX5_keepNearest, cX5_keepNearest, 3, none, 2, 5, false) := ⟨⟨gw_at 711 rfl rfl, gw_at 75 (by decide +kernel) rfl, by decide +kernel, ⟨by decide +kernel, by decide +kernel, by decide +kernel⟩, Nat.le_of_ble_eq_true rfl⟩, ⟨_, _, rfl⟩, Or.inr ⟨rfl, gw_at 710 (by decide +kernel) rfl, gw_at 20 (by decide +kernel) rfl⟩⟩
set_option maxRecDepth 20000 in
theorem mk_52 : MOK (yX5_blameOf, cX5_blameOf, 3, (some .int), 2, 5, false) := ⟨⟨gw_at 727 rfl rfl, gw_at 75 (by decide +kernel) rfl, by decide +kernel, ⟨by decide +kernel, by decide +kernel, by decide +kernel⟩, Nat.le_of_ble_eq_true rfl⟩, ⟨_, _, rfl⟩, Or.inr ⟨rfl, gw_at 725 (by decide +kernel) rfl, gw_at 726 (by decide +kernel) rfl⟩⟩
set_option maxRecDepth 20000 in
theorem mk_53 : MOK (yX5_bestBack, cX5_bestBack, 10, (some .int), 5, 5, false) := ⟨⟨gw_at 739 rfl rfl, gw_at 75 (by decide +kernel) rfl, by decide +kernel, ⟨by decide +kernel, by decide +kernel, by decide +kernel⟩, Nat.le_of_ble_eq_true rfl⟩, ⟨_, _, rfl⟩, Or.inr ⟨rfl, gw_at 737 (by decide +kernel) rfl, gw_at 738 (by decide +kernel) rfl⟩⟩
set_option maxRecDepth 20000 in
theorem mk_54 : MOK (yX5_passesUnnoticed, cX5_passesUnnoticed, 8, (some .boolean), 5, 5, false) := ⟨⟨gw_at 743 rfl rfl, gw_at 75 (by decide +kernel) rfl, by decide +kernel, ⟨by decide +kernel, by decide +kernel, by decide +kernel⟩, Nat.le_of_ble_eq_true rfl⟩, ⟨_, _, rfl⟩, Or.inr ⟨rfl, gw_at 742 (by decide +kernel) rfl, gw_at 21 (by decide +kernel) rfl⟩⟩
set_option maxRecDepth 20000 in
theorem mk_55 : MOK (yX5_gainOfClaps, cX5_gainOfClaps, 5, (some .int), 3, 5, false) := ⟨⟨gw_at 775 rfl rfl, gw_at 75 (by decide +kernel) rfl, by decide +kernel, ⟨by decide +kernel, by decide +kernel, by decide +kernel⟩, Nat.le_of_ble_eq_true rfl⟩, ⟨_, _, rfl⟩, Or.inr ⟨rfl, gw_at 773 (by decide +kernel) rfl, gw_at 774 (by decide +kernel) rfl⟩⟩
set_option maxRecDepth 20000 in
theorem mk_56 : MOK (yX5_findPushers, cX5_findPushers, 5, none, 2, 5, false) := ⟨⟨gw_at 784 rfl rfl, gw_at 75 (by decide +kernel) rfl, by decide +kernel, ⟨by decide +kernel, by decide +kernel, by decide +kernel⟩, Nat.le_of_ble_eq_true rfl⟩, ⟨_, _, rfl⟩, Or.inr ⟨rfl, gw_at 782 (by decide +kernel) rfl, gw_at 783 (by decide +kernel) rfl⟩⟩
set_option maxRecDepth 20000 in
theorem mk_57 : MOK (yX5_leastPush, cX5_leastPush, 5, (some .int), 3, 5, false) := ⟨⟨gw_at 788 rfl rfl, gw_at 75 (by decide +kernel) rfl, by decide +kernel, ⟨by decide +kernel, by decide +kernel, by decide +kernel⟩, Nat.le_of_ble_eq_true rfl⟩, ⟨_, _, rfl⟩, Or.inr ⟨rfl, gw_at 787 (by decide +kernel) rfl, gw_at 25 (by decide +kernel) rfl⟩⟩
set_option maxRecDepth 20000 in
theorem mk_58 : MOK (yX5_hasPaces, cX5_hasPaces, 3, (some .boolean), 1, 5, false) := ⟨⟨gw_at 792 rfl rfl, gw_at 75 (by decide +kernel) rfl, by decide +kernel, ⟨by decide +kernel, by decide +kernel, by decide +kernel⟩, Nat.le_of_ble_eq_true rfl⟩, ⟨_, _, rfl⟩, Or.inr ⟨rfl, gw_at 791 (by decide +kernel) rfl, gw_at 26 (by decide +kernel) rfl⟩⟩
set_option maxRecDepth 20000 in
theorem mk_59 : MOK (yX5_findNight, cX5_findNight, 9, none, 3, 5, false) := ⟨⟨gw_at 801 rfl rfl, gw_at 75 (by decide +kernel) rfl, by decide +kernel, ⟨by decide +kernel, by decide +kernel, by decide +kernel⟩, Nat.le_of_ble_eq_true rfl⟩, ⟨_, _, rfl⟩, Or.inr ⟨rfl, gw_at 799 (by decide +kernel) rfl, gw_at 800 (by decide +kernel) rfl⟩⟩
set_option maxRecDepth 20000 in
theorem mk_60 : MOK (yX6_takeIn, cX6_takeIn, 2, (some .boolean), 1, 6, false) := ⟨⟨gw_at 414 rfl rfl, gw_at 72 (by decide +kernel) rfl, by decide +kernel, ⟨by decide +kernel, by decide +kernel, by decide +kernel⟩, Nat.le_of_ble_eq_true rfl⟩, ⟨_, _, rfl⟩, Or.inr ⟨rfl, gw_at 412 (by decide +kernel) rfl, gw_at 413 (by decide +kernel) rfl⟩⟩
set_option maxRecDepth 20000 in
theorem mk_61 : MOK (yX6_readInto, cX6_readInto, 2, (some .boolean), 1, 6, false) := ⟨⟨gw_at 423 rfl rfl, gw_at 72 (by decide +kernel) rfl, by decide +kernel, ⟨by decide +kernel, by decide +kernel, by decide +kernel⟩, Nat.le_of_ble_eq_true rfl⟩, ⟨_, _, rfl⟩, Or.inr ⟨rfl, gw_at 421 (by decide +kernel) rfl, gw_at 422 (by decide +kernel) rfl⟩⟩
set_option maxRecDepth 20000 in
theorem mk_62 : MOK (yX6_readLaw, cX6_readLaw, 2, (some .boolean), 1, 6, false) := ⟨⟨gw_at 431 rfl rfl, gw_at 72 (by decide +kernel) rfl, by decide +kernel, ⟨by decide +kernel, by decide +kernel, by decide +kernel⟩, Nat.le_of_ble_eq_true rfl⟩, ⟨_, _, rfl⟩, Or.inr ⟨rfl, gw_at 430 (by decide +kernel) rfl, gw_at 2 (by decide +kernel) rfl⟩⟩
set_option maxRecDepth 20000 in
theorem mk_63 : MOK (yX6_readSong, cX6_readSong, 2, (some .boolean), 1, 6, false) := ⟨⟨gw_at 463 rfl rfl, gw_at 72 (by decide +kernel) rfl, by decide +kernel, ⟨by decide +kernel, by decide +kernel, by decide +kernel⟩, Nat.le_of_ble_eq_true rfl⟩, ⟨_, _, rfl⟩, Or.inr ⟨rfl, gw_at 462 (by decide +kernel) rfl, gw_at 9 (by decide +kernel) rfl⟩⟩
set_option maxRecDepth 20000 in
theorem mk_64 : MOK (yX6_readPlayers, cX6_readPlayers, 3, (some .boolean), 1, 6, false) := ⟨⟨gw_at 470 rfl rfl, gw_at 72 (by decide +kernel) rfl, by decide +kernel, ⟨by decide +kernel, by decide +kernel, by decide +kernel⟩, Nat.le_of_ble_eq_true rfl⟩, ⟨_, _, rfl⟩, Or.inr ⟨rfl, gw_at 469 (by decide +kernel) rfl, gw_at 10 (by decide +kernel) rfl⟩⟩
set_option maxRecDepth 20000 in
theorem mk_65 : MOK (yX6_readPlayer, cX6_readPlayer, 3, (some .boolean), 1, 6, false) := ⟨⟨gw_at 477 rfl rfl, gw_at 72 (by decide +kernel) rfl, by decide +kernel, ⟨by decide +kernel, by decide +kernel, by decide +kernel⟩, Nat.le_of_ble_eq_true rfl⟩, ⟨_, _, rfl⟩, Or.inr ⟨rfl, gw_at 476 (by decide +kernel) rfl, gw_at 11 (by decide +kernel) rfl⟩⟩
set_option maxRecDepth 20000 in
theorem mk_66 : MOK (yX6_readEars, cX6_readEars, 3, (some .boolean), 1, 6, false) := ⟨⟨gw_at 481 rfl rfl, gw_at 72 (by decide +kernel) rfl, by decide +kernel, ⟨by decide +kernel, by decide +kernel, by decide +kernel⟩, Nat.le_of_ble_eq_true rfl⟩, ⟨_, _, rfl⟩, Or.inr ⟨rfl, gw_at 480 (by decide +kernel) rfl, gw_at 12 (by decide +kernel) rfl⟩⟩
set_option maxRecDepth 20000 in
theorem mk_67 : MOK (yX6_readEar, cX6_readEar, 4, (some .boolean), 1, 6, false) := ⟨⟨gw_at 485 rfl rfl, gw_at 72 (by decide +kernel) rfl, by decide +kernel, ⟨by decide +kernel, by decide +kernel, by decide +kernel⟩, Nat.le_of_ble_eq_true rfl⟩, ⟨_, _, rfl⟩, Or.inr ⟨rfl, gw_at 484 (by decide +kernel) rfl, gw_at 13 (by decide +kernel) rfl⟩⟩
set_option maxRecDepth 20000 in
theorem mk_68 : MOK (yX6_takesHeard, cX6_takesHeard, 3, (some .boolean), 2, 6, false) := ⟨⟨gw_at 489 rfl rfl, gw_at 72 (by decide +kernel) rfl, by decide +kernel, ⟨by decide +kernel, by decide +kernel, by decide +kernel⟩, Nat.le_of_ble_eq_true rfl⟩, ⟨_, _, rfl⟩, Or.inr ⟨rfl, gw_at 488 (by decide +kernel) rfl, gw_at 14 (by decide +kernel) rfl⟩⟩
set_option maxRecDepth 20000 in
theorem mk_69 : MOK (yX6_takesNumber, cX6_takesNumber, 3, (some .boolean), 2, 6, false) := ⟨⟨gw_at 451 rfl rfl, gw_at 72 (by decide +kernel) rfl, by decide +kernel, ⟨by decide +kernel, by decide +kernel, by decide +kernel⟩, Nat.le_of_ble_eq_true rfl⟩, ⟨_, _, rfl⟩, Or.inr ⟨rfl, gw_at 450 (by decide +kernel) rfl, gw_at 7 (by decide +kernel) rfl⟩⟩
set_option maxRecDepth 20000 in
theorem mk_70 : MOK (yX6_seesNumber, cX6_seesNumber, 1, (some .boolean), 0, 6, false) := ⟨⟨gw_at 455 rfl rfl, gw_at 72 (by decide +kernel) rfl, by decide +kernel, ⟨by decide +kernel, by decide +kernel, by decide +kernel⟩, Nat.le_of_ble_eq_true rfl⟩, ⟨_, _, rfl⟩, Or.inr ⟨rfl, gw_at 454 (by decide +kernel) rfl, gw_at 8 (by decide +kernel) rfl⟩⟩
set_option maxRecDepth 20000 in
theorem mk_71 : MOK (yX6_takes, cX6_takes, 2, (some .boolean), 1, 6, false) := ⟨⟨gw_at 435 rfl rfl, gw_at 72 (by decide +kernel) rfl, by decide +kernel, ⟨by decide +kernel, by decide +kernel, by decide +kernel⟩, Nat.le_of_ble_eq_true rfl⟩, ⟨_, _, rfl⟩, Or.inr ⟨rfl, gw_at 434 (by decide +kernel) rfl, gw_at 3 (by decide +kernel) rfl⟩⟩
set_option maxRecDepth 20000 in
theorem mk_72 : MOK (yX6_fails, cX6_fails, 2, (some .boolean), 1, 6, false) := ⟨⟨gw_at 447 rfl rfl, gw_at 72 (by decide +kernel) rfl, by decide +kernel, ⟨by decide +kernel, by decide +kernel, by decide +kernel⟩, Nat.le_of_ble_eq_true rfl⟩, ⟨_, _, rfl⟩, Or.inr ⟨rfl, gw_at 446 (by decide +kernel) rfl, gw_at 6 (by decide +kernel) rfl⟩⟩
set_option maxRecDepth 20000 in
theorem mk_73 : MOK (yX6_sign, cX6_sign, 1, (some .int), 0, 6, false) := ⟨⟨gw_at 439 rfl rfl, gw_at 72 (by decide +kernel) rfl, by decide +kernel, ⟨by decide +kernel, by decide +kernel, by decide +kernel⟩, Nat.le_of_ble_eq_true rfl⟩, ⟨_, _, rfl⟩, Or.inr ⟨rfl, gw_at 438 (by decide +kernel) rfl, gw_at 4 (by decide +kernel) rfl⟩⟩
set_option maxRecDepth 20000 in
theorem mk_74 : MOK (yX6_signAt, cX6_signAt, 2, (some .int), 1, 6, false) := ⟨⟨gw_at 443 rfl rfl, gw_at 72 (by decide +kernel) rfl, by decide +kernel, ⟨by decide +kernel, by decide +kernel, by decide +kernel⟩, Nat.le_of_ble_eq_true rfl⟩, ⟨_, _, rfl⟩, Or.inr ⟨rfl, gw_at 442 (by decide +kernel) rfl, gw_at 5 (by decide +kernel) rfl⟩⟩
set_option maxRecDepth 20000 in
theorem mk_75 : MOK (yX6_isFigure, cX6_isFigure, 1, (some .boolean), 1, 6, true) := ⟨⟨gw_at 458 rfl rfl, gw_at 72 (by decide +kernel) rfl, by decide +kernel, ⟨by decide +kernel, by decide +kernel, by decide +kernel⟩, Nat.le_of_ble_eq_true rfl⟩, ⟨_, _, rfl⟩, Or.inl ⟨rfl, gw_at 457 (by decide +kernel) rfl⟩⟩
set_option maxRecDepth 20000 in
theorem mk_76 : MOK (yX6_barOf, cX6_barOf, 1, (some .int), 1, 6, true) := ⟨⟨gw_at 466 rfl rfl, gw_at 72 (by decide +kernel) rfl, by decide +kernel, ⟨by decide +kernel, by decide +kernel, by decide +kernel⟩, Nat.le_of_ble_eq_true rfl⟩, ⟨_, _, rfl⟩, Or.inl ⟨rfl, gw_at 465 (by decide +kernel) rfl⟩⟩
set_option maxRecDepth 20000 in
theorem mk_77 : MOK (yX6_kindOf, cX6_kindOf, 1, (some .int), 1, 6, true) := ⟨⟨gw_at 473 rfl rfl, gw_at 72 (by decide +kernel) rfl, by decide +kernel, ⟨by decide +kernel, by decide +kernel, by decide +kernel⟩, Nat.le_of_ble_eq_true rfl⟩, ⟨_, _, rfl⟩, Or.inl ⟨rfl, gw_at 472 (by decide +kernel) rfl⟩⟩
set_option maxRecDepth 20000 in
theorem mk_78 : MOK (yX7_row, cX7_row, 4, (some .int), 3, 7, false) := ⟨⟨gw_at 346 rfl rfl, gw_at 70 (by decide +kernel) rfl, by decide +kernel, ⟨by decide +kernel, by decide +kernel, by decide +kernel⟩, Nat.le_of_ble_eq_true rfl⟩, ⟨_, _, rfl⟩, Or.inr ⟨rfl, gw_at 344 (by decide +kernel) rfl, gw_at 345 (by decide +kernel) rfl⟩⟩
set_option maxRecDepth 20000 in
theorem mk_79 : MOK (yX7_set, cX7_set, 4, (some .int), 3, 7, false) := ⟨⟨gw_at 371 rfl rfl, gw_at 70 (by decide +kernel) rfl, by decide +kernel, ⟨by decide +kernel, by decide +kernel, by decide +kernel⟩, Nat.le_of_ble_eq_true rfl⟩, ⟨_, _, rfl⟩, Or.inr ⟨rfl, gw_at 369 (by decide +kernel) rfl, gw_at 370 (by decide +kernel) rfl⟩⟩
set_option maxRecDepth 20000 in
theorem mk_80 : MOK (yX7_copy, cX7_copy, 6, (some .int), 5, 7, false) := ⟨⟨gw_at 387 rfl rfl, gw_at 70 (by decide +kernel) rfl, by decide +kernel, ⟨by decide +kernel, by decide +kernel, by decide +kernel⟩, Nat.le_of_ble_eq_true rfl⟩, ⟨_, _, rfl⟩, Or.inr ⟨rfl, gw_at 385 (by decide +kernel) rfl, gw_at 386 (by decide +kernel) rfl⟩⟩
set_option maxRecDepth 20000 in
theorem mk_81 : MOK (yX7_drop, cX7_drop, 2, (some .int), 1, 7, false) := ⟨⟨gw_at 402 rfl rfl, gw_at 70 (by decide +kernel) rfl, by decide +kernel, ⟨by decide +kernel, by decide +kernel, by decide +kernel⟩, Nat.le_of_ble_eq_true rfl⟩, ⟨_, _, rfl⟩, Or.inr ⟨rfl, gw_at 400 (by decide +kernel) rfl, gw_at 401 (by decide +kernel) rfl⟩⟩
set_option maxRecDepth 20000 in
theorem mk_82 : MOK (yX7_feed, cX7_feed, 2, (some .int), 1, 7, false) := ⟨⟨gw_at 410 rfl rfl, gw_at 70 (by decide +kernel) rfl, by decide +kernel, ⟨by decide +kernel, by decide +kernel, by decide +kernel⟩, Nat.le_of_ble_eq_true rfl⟩, ⟨_, _, rfl⟩, Or.inr ⟨rfl, gw_at 408 (by decide +kernel) rfl, gw_at 409 (by decide +kernel) rfl⟩⟩
set_option maxRecDepth 20000 in
theorem mk_83 : MOK (yX7_band, cX7_band, 2, (some .int), 0, 7, false) := ⟨⟨gw_at 419 rfl rfl, gw_at 70 (by decide +kernel) rfl, by decide +kernel, ⟨by decide +kernel, by decide +kernel, by decide +kernel⟩, Nat.le_of_ble_eq_true rfl⟩, ⟨_, _, rfl⟩, Or.inr ⟨rfl, gw_at 417 (by decide +kernel) rfl, gw_at 418 (by decide +kernel) rfl⟩⟩
set_option maxRecDepth 20000 in
theorem mk_84 : MOK (yX7_fault, cX7_fault, 1, (some .int), 0, 7, false) := ⟨⟨gw_at 519 rfl rfl, gw_at 70 (by decide +kernel) rfl, by decide +kernel, ⟨by decide +kernel, by decide +kernel, by decide +kernel⟩, Nat.le_of_ble_eq_true rfl⟩, ⟨_, _, rfl⟩, Or.inr ⟨rfl, gw_at 517 (by decide +kernel) rfl, gw_at 518 (by decide +kernel) rfl⟩⟩
set_option maxRecDepth 20000 in
theorem mk_85 : MOK (yX7_undo, cX7_undo, 1, (some .int), 0, 7, false) := ⟨⟨gw_at 523 rfl rfl, gw_at 70 (by decide +kernel) rfl, by decide +kernel, ⟨by decide +kernel, by decide +kernel, by decide +kernel⟩, Nat.le_of_ble_eq_true rfl⟩, ⟨_, _, rfl⟩, Or.inr ⟨rfl, gw_at 521 (by decide +kernel) rfl, gw_at 522 (by decide +kernel) rfl⟩⟩
set_option maxRecDepth 20000 in
theorem mk_86 : MOK (yX7_bars, cX7_bars, 3, (some .int), 1, 7, false) := ⟨⟨gw_at 536 rfl rfl, gw_at 70 (by decide +kernel) rfl, by decide +kernel, ⟨by decide +kernel, by decide +kernel, by decide +kernel⟩, Nat.le_of_ble_eq_true rfl⟩, ⟨_, _, rfl⟩, Or.inr ⟨rfl, gw_at 534 (by decide +kernel) rfl, gw_at 535 (by decide +kernel) rfl⟩⟩
set_option maxRecDepth 20000 in
theorem mk_87 : MOK (yX7_pace, cX7_pace, 4, (some .int), 2, 7, false) := ⟨⟨gw_at 583 rfl rfl, gw_at 70 (by decide +kernel) rfl, by decide +kernel, ⟨by decide +kernel, by decide +kernel, by decide +kernel⟩, Nat.le_of_ble_eq_true rfl⟩, ⟨_, _, rfl⟩, Or.inr ⟨rfl, gw_at 581 (by decide +kernel) rfl, gw_at 582 (by decide +kernel) rfl⟩⟩
set_option maxRecDepth 20000 in
theorem mk_88 : MOK (yX7_hears, cX7_hears, 5, (some .int), 3, 7, false) := ⟨⟨gw_at 588 rfl rfl, gw_at 70 (by decide +kernel) rfl, by decide +kernel, ⟨by decide +kernel, by decide +kernel, by decide +kernel⟩, Nat.le_of_ble_eq_true rfl⟩, ⟨_, _, rfl⟩, Or.inr ⟨rfl, gw_at 586 (by decide +kernel) rfl, gw_at 587 (by decide +kernel) rfl⟩⟩
set_option maxRecDepth 20000 in
theorem mk_89 : MOK (yX7_click, cX7_click, 3, (some .int), 1, 7, false) := ⟨⟨gw_at 595 rfl rfl, gw_at 70 (by decide +kernel) rfl, by decide +kernel, ⟨by decide +kernel, by decide +kernel, by decide +kernel⟩, Nat.le_of_ble_eq_true rfl⟩, ⟨_, _, rfl⟩, Or.inr ⟨rfl, gw_at 593 (by decide +kernel) rfl, gw_at 594 (by decide +kernel) rfl⟩⟩
set_option maxRecDepth 20000 in
theorem mk_90 : MOK (yX7_claps, cX7_claps, 2, (some .int), 1, 7, false) := ⟨⟨gw_at 599 rfl rfl, gw_at 70 (by decide +kernel) rfl, by decide +kernel, ⟨by decide +kernel, by decide +kernel, by decide +kernel⟩, Nat.le_of_ble_eq_true rfl⟩, ⟨_, _, rfl⟩, Or.inr ⟨rfl, gw_at 597 (by decide +kernel) rfl, gw_at 598 (by decide +kernel) rfl⟩⟩
set_option maxRecDepth 20000 in
theorem mk_91 : MOK (yX7_player, cX7_player, 3, (some .int), 2, 7, false) := ⟨⟨gw_at 607 rfl rfl, gw_at 70 (by decide +kernel) rfl, by decide +kernel, ⟨by decide +kernel, by decide +kernel, by decide +kernel⟩, Nat.le_of_ble_eq_true rfl⟩, ⟨_, _, rfl⟩, Or.inr ⟨rfl, gw_at 605 (by decide +kernel) rfl, gw_at 606 (by decide +kernel) rfl⟩⟩
set_option maxRecDepth 20000 in
theorem mk_92 : MOK (yX7_ear, cX7_ear, 3, (some .int), 2, 7, false) := ⟨⟨gw_at 618 rfl rfl, gw_at 70 (by decide +kernel) rfl, by decide +kernel, ⟨by decide +kernel, by decide +kernel, by decide +kernel⟩, Nat.le_of_ble_eq_true rfl⟩, ⟨_, _, rfl⟩, Or.inr ⟨rfl, gw_at 616 (by decide +kernel) rfl, gw_at 617 (by decide +kernel) rfl⟩⟩
set_option maxRecDepth 20000 in
theorem mk_93 : MOK (yX7_bar, cX7_bar, 2, (some .int), 1, 7, false) := ⟨⟨gw_at 622 rfl rfl, gw_at 70 (by decide +kernel) rfl, by decide +kernel, ⟨by decide +kernel, by decide +kernel, by decide +kernel⟩, Nat.le_of_ble_eq_true rfl⟩, ⟨_, _, rfl⟩, Or.inr ⟨rfl, gw_at 620 (by decide +kernel) rfl, gw_at 621 (by decide +kernel) rfl⟩⟩
set_option maxRecDepth 20000 in
theorem mk_94 : MOK (yX7_ahead, cX7_ahead, 4, (some .int), 2, 7, false) := ⟨⟨gw_at 626 rfl rfl, gw_at 70 (by decide +kernel) rfl, by decide +kernel, ⟨by decide +kernel, by decide +kernel, by decide +kernel⟩, Nat.le_of_ble_eq_true rfl⟩, ⟨_, _, rfl⟩, Or.inr ⟨rfl, gw_at 624 (by decide +kernel) rfl, gw_at 625 (by decide +kernel) rfl⟩⟩
set_option maxRecDepth 20000 in
theorem mk_95 : MOK (yX7_drift, cX7_drift, 1, (some .int), 0, 7, false) := ⟨⟨gw_at 636 rfl rfl, gw_at 70 (by decide +kernel) rfl, by decide +kernel, ⟨by decide +kernel, by decide +kernel, by decide +kernel⟩, Nat.le_of_ble_eq_true rfl⟩, ⟨_, _, rfl⟩, Or.inr ⟨rfl, gw_at 634 (by decide +kernel) rfl, gw_at 635 (by decide +kernel) rfl⟩⟩
set_option maxRecDepth 20000 in
theorem mk_96 : MOK (yX7_round, cX7_round, 2, (some .int), 1, 7, false) := ⟨⟨gw_at 646 rfl rfl, gw_at 70 (by decide +kernel) rfl, by decide +kernel, ⟨by decide +kernel, by decide +kernel, by decide +kernel⟩, Nat.le_of_ble_eq_true rfl⟩, ⟨_, _, rfl⟩, Or.inr ⟨rfl, gw_at 644 (by decide +kernel) rfl, gw_at 645 (by decide +kernel) rfl⟩⟩
set_option maxRecDepth 20000 in
theorem mk_97 : MOK (yX7_noticed, cX7_noticed, 3, (some .int), 2, 7, false) := ⟨⟨gw_at 664 rfl rfl, gw_at 70 (by decide +kernel) rfl, by decide +kernel, ⟨by decide +kernel, by decide +kernel, by decide +kernel⟩, Nat.le_of_ble_eq_true rfl⟩, ⟨_, _, rfl⟩, Or.inr ⟨rfl, gw_at 662 (by decide +kernel) rfl, gw_at 663 (by decide +kernel) rfl⟩⟩
set_option maxRecDepth 20000 in
theorem mk_98 : MOK (yX7_dancers, cX7_dancers, 6, (some .int), 5, 7, false) := ⟨⟨gw_at 676 rfl rfl, gw_at 70 (by decide +kernel) rfl, by decide +kernel, ⟨by decide +kernel, by decide +kernel, by decide +kernel⟩, Nat.le_of_ble_eq_true rfl⟩, ⟨_, _, rfl⟩, Or.inr ⟨rfl, gw_at 674 (by decide +kernel) rfl, gw_at 675 (by decide +kernel) rfl⟩⟩
set_option maxRecDepth 20000 in
theorem mk_99 : MOK (yX7_countIn, cX7_countIn, 3, (some .int), 2, 7, false) := ⟨⟨gw_at 691 rfl rfl, gw_at 70 (by decide +kernel) rfl, by decide +kernel, ⟨by decide +kernel, by decide +kernel, by decide +kernel⟩, Nat.le_of_ble_eq_true rfl⟩, ⟨_, _, rfl⟩, Or.inr ⟨rfl, gw_at 689 (by decide +kernel) rfl, gw_at 690 (by decide +kernel) rfl⟩⟩
set_option maxRecDepth 20000 in
theorem mk_100 : MOK (yX7_deaf, cX7_deaf, 2, (some .int), 1, 7, false) := ⟨⟨gw_at 700 rfl rfl, gw_at 70 (by decide +kernel) rfl, by decide +kernel, ⟨by decide +kernel, by decide +kernel, by decide +kernel⟩, Nat.le_of_ble_eq_true rfl⟩, ⟨_, _, rfl⟩, Or.inr ⟨rfl, gw_at 698 (by decide +kernel) rfl, gw_at 699 (by decide +kernel) rfl⟩⟩
set_option maxRecDepth 20000 in
theorem mk_101 : MOK (yX7_inEar, cX7_inEar, 2, (some .int), 1, 7, false) := ⟨⟨gw_at 715 rfl rfl, gw_at 70 (by decide +kernel) rfl, by decide +kernel, ⟨by decide +kernel, by decide +kernel, by decide +kernel⟩, Nat.le_of_ble_eq_true rfl⟩, ⟨_, _, rfl⟩, Or.inr ⟨rfl, gw_at 713 (by decide +kernel) rfl, gw_at 714 (by decide +kernel) rfl⟩⟩
set_option maxRecDepth 20000 in
theorem mk_102 : MOK (yX7_blame, cX7_blame, 2, (some .int), 1, 7, false) := ⟨⟨gw_at 723 rfl rfl, gw_at 70 (by decide +kernel) rfl, by decide +kernel, ⟨by decide +kernel, by decide +kernel, by decide +kernel⟩, Nat.le_of_ble_eq_true rfl⟩, ⟨_, _, rfl⟩, Or.inr ⟨rfl, gw_at 721 (by decide +kernel) rfl, gw_at 722 (by decide +kernel) rfl⟩⟩
set_option maxRecDepth 20000 in
theorem mk_103 : MOK (yX7_back, cX7_back, 5, (some .int), 4, 7, false) := ⟨⟨gw_at 734 rfl rfl, gw_at 70 (by decide +kernel) rfl, by decide +kernel, ⟨by decide +kernel, by decide +kernel, by decide +kernel⟩, Nat.le_of_ble_eq_true rfl⟩, ⟨_, _, rfl⟩, Or.inr ⟨rfl, gw_at 732 (by decide +kernel) rfl, gw_at 733 (by decide +kernel) rfl⟩⟩
set_option maxRecDepth 20000 in
theorem mk_104 : MOK (yX7_songs, cX7_songs, 6, (some .int), 4, 7, false) := ⟨⟨gw_at 748 rfl rfl, gw_at 70 (by decide +kernel) rfl, by decide +kernel, ⟨by decide +kernel, by decide +kernel, by decide +kernel⟩, Nat.le_of_ble_eq_true rfl⟩, ⟨_, _, rfl⟩, Or.inr ⟨rfl, gw_at 746 (by decide +kernel) rfl, gw_at 747 (by decide +kernel) rfl⟩⟩
set_option maxRecDepth 20000 in
theorem mk_105 : MOK (yX7_clapped, cX7_clapped, 3, (some .int), 2, 7, false) := ⟨⟨gw_at 771 rfl rfl, gw_at 70 (by decide +kernel) rfl, by decide +kernel, ⟨by decide +kernel, by decide +kernel, by decide +kernel⟩, Nat.le_of_ble_eq_true rfl⟩, ⟨_, _, rfl⟩, Or.inr ⟨rfl, gw_at 769 (by decide +kernel) rfl, gw_at 770 (by decide +kernel) rfl⟩⟩
set_option maxRecDepth 20000 in
theorem mk_106 : MOK (yX7_whoPushed, cX7_whoPushed, 4, (some .int), 3, 7, false) := ⟨⟨gw_at 780 rfl rfl, gw_at 70 (by decide +kernel) rfl, by decide +kernel, ⟨by decide +kernel, by decide +kernel, by decide +kernel⟩, Nat.le_of_ble_eq_true rfl⟩, ⟨_, _, rfl⟩, Or.inr ⟨rfl, gw_at 778 (by decide +kernel) rfl, gw_at 779 (by decide +kernel) rfl⟩⟩
set_option maxRecDepth 20000 in
theorem mk_107 : MOK (yX7_night, cX7_night, 4, (some .int), 3, 7, false) := ⟨⟨gw_at 796 rfl rfl, gw_at 70 (by decide +kernel) rfl, by decide +kernel, ⟨by decide +kernel, by decide +kernel, by decide +kernel⟩, Nat.le_of_ble_eq_true rfl⟩, ⟨_, _, rfl⟩, Or.inr ⟨rfl, gw_at 794 (by decide +kernel) rfl, gw_at 795 (by decide +kernel) rfl⟩⟩
set_option maxRecDepth 20000 in
theorem mk_108 : MOK (yX7_image, cX7_image, 2, (some .int), 1, 7, false) := ⟨⟨gw_at 808 rfl rfl, gw_at 70 (by decide +kernel) rfl, by decide +kernel, ⟨by decide +kernel, by decide +kernel, by decide +kernel⟩, Nat.le_of_ble_eq_true rfl⟩, ⟨_, _, rfl⟩, Or.inr ⟨rfl, gw_at 806 (by decide +kernel) rfl, gw_at 807 (by decide +kernel) rfl⟩⟩
set_option maxRecDepth 20000 in
theorem mk_109 : MOK (yX7_restore, cX7_restore, 2, (some .int), 1, 7, false) := ⟨⟨gw_at 812 rfl rfl, gw_at 70 (by decide +kernel) rfl, by decide +kernel, ⟨by decide +kernel, by decide +kernel, by decide +kernel⟩, Nat.le_of_ble_eq_true rfl⟩, ⟨_, _, rfl⟩, Or.inr ⟨rfl, gw_at 810 (by decide +kernel) rfl, gw_at 811 (by decide +kernel) rfl⟩⟩
set_option maxRecDepth 20000 in
theorem mk_110 : MOK (yX7_kind, cX7_kind, 2, (some .int), 1, 7, false) := ⟨⟨gw_at 816 rfl rfl, gw_at 70 (by decide +kernel) rfl, by decide +kernel, ⟨by decide +kernel, by decide +kernel, by decide +kernel⟩, Nat.le_of_ble_eq_true rfl⟩, ⟨_, _, rfl⟩, Or.inr ⟨rfl, gw_at 814 (by decide +kernel) rfl, gw_at 815 (by decide +kernel) rfl⟩⟩
set_option maxRecDepth 20000 in
theorem mk_111 : MOK (yX7_as, cX7_as, 3, (some .int), 2, 7, false) := ⟨⟨gw_at 820 rfl rfl, gw_at 70 (by decide +kernel) rfl, by decide +kernel, ⟨by decide +kernel, by decide +kernel, by decide +kernel⟩, Nat.le_of_ble_eq_true rfl⟩, ⟨_, _, rfl⟩, Or.inr ⟨rfl, gw_at 818 (by decide +kernel) rfl, gw_at 819 (by decide +kernel) rfl⟩⟩
set_option maxRecDepth 20000 in
theorem mk_112 : MOK (yX7_ask, cX7_ask, 3, (some .int), 2, 7, false) := ⟨⟨gw_at 824 rfl rfl, gw_at 70 (by decide +kernel) rfl, by decide +kernel, ⟨by decide +kernel, by decide +kernel, by decide +kernel⟩, Nat.le_of_ble_eq_true rfl⟩, ⟨_, _, rfl⟩, Or.inr ⟨rfl, gw_at 822 (by decide +kernel) rfl, gw_at 823 (by decide +kernel) rfl⟩⟩
set_option maxRecDepth 20000 in
theorem mk_113 : MOK (yX7_trace, cX7_trace, 2, (some .int), 1, 7, false) := ⟨⟨gw_at 853 rfl rfl, gw_at 70 (by decide +kernel) rfl, by decide +kernel, ⟨by decide +kernel, by decide +kernel, by decide +kernel⟩, Nat.le_of_ble_eq_true rfl⟩, ⟨_, _, rfl⟩, Or.inr ⟨rfl, gw_at 851 (by decide +kernel) rfl, gw_at 852 (by decide +kernel) rfl⟩⟩
set_option maxRecDepth 20000 in
theorem mk_114 : MOK (yX7_count, cX7_count, 2, (some .int), 1, 7, false) := ⟨⟨gw_at 857 rfl rfl, gw_at 70 (by decide +kernel) rfl, by decide +kernel, ⟨by decide +kernel, by decide +kernel, by decide +kernel⟩, Nat.le_of_ble_eq_true rfl⟩, ⟨_, _, rfl⟩, Or.inr ⟨rfl, gw_at 855 (by decide +kernel) rfl, gw_at 856 (by decide +kernel) rfl⟩⟩
set_option maxRecDepth 20000 in
theorem mk_115 : MOK (yX7_status, cX7_status, 1, (some .int), 0, 7, false) := ⟨⟨gw_at 866 rfl rfl, gw_at 70 (by decide +kernel) rfl, by decide +kernel, ⟨by decide +kernel, by decide +kernel, by decide +kernel⟩, Nat.le_of_ble_eq_true rfl⟩, ⟨_, _, rfl⟩, Or.inr ⟨rfl, gw_at 864 (by decide +kernel) rfl, gw_at 865 (by decide +kernel) rfl⟩⟩
set_option maxRecDepth 20000 in
theorem mk_116 : MOK (yX7_found, cX7_found, 2, (some .int), 1, 7, false) := ⟨⟨gw_at 358 rfl rfl, gw_at 70 (by decide +kernel) rfl, by decide +kernel, ⟨by decide +kernel, by decide +kernel, by decide +kernel⟩, Nat.le_of_ble_eq_true rfl⟩, ⟨_, _, rfl⟩, Or.inr ⟨rfl, gw_at 357 (by decide +kernel) rfl, gw_at 0 (by decide +kernel) rfl⟩⟩
set_option maxRecDepth 20000 in
theorem mk_117 : MOK (yX7_withoutFinding, cX7_withoutFinding, 2, (some .int), 1, 7, false) := ⟨⟨gw_at 367 rfl rfl, gw_at 70 (by decide +kernel) rfl, by decide +kernel, ⟨by decide +kernel, by decide +kernel, by decide +kernel⟩, Nat.le_of_ble_eq_true rfl⟩, ⟨_, _, rfl⟩, Or.inr ⟨rfl, gw_at 366 (by decide +kernel) rfl, gw_at 1 (by decide +kernel) rfl⟩⟩
set_option maxRecDepth 20000 in
theorem mk_118 : MOK (yX7_within, cX7_within, 3, (some .boolean), 3, 7, true) := ⟨⟨gw_at 353 rfl rfl, gw_at 70 (by decide +kernel) rfl, by decide +kernel, ⟨by decide +kernel, by decide +kernel, by decide +kernel⟩, Nat.le_of_ble_eq_true rfl⟩, ⟨_, _, rfl⟩, Or.inl ⟨rfl, gw_at 352 (by decide +kernel) rfl⟩⟩
set_option maxRecDepth 20000 in
theorem mk_119 : MOK (yX7_bounded, cX7_bounded, 1, (some .int), 1, 7, true) := ⟨⟨gw_at 575 rfl rfl, gw_at 70 (by decide +kernel) rfl, by decide +kernel, ⟨by decide +kernel, by decide +kernel, by decide +kernel⟩, Nat.le_of_ble_eq_true rfl⟩, ⟨_, _, rfl⟩, Or.inl ⟨rfl, gw_at 574 (by decide +kernel) rfl⟩⟩
set_option maxRecDepth 20000 in
theorem mk_120 : MOK (yX7_isOf, cX7_isOf, 2, (some .boolean), 2, 7, true) := ⟨⟨gw_at 730 rfl rfl, gw_at 70 (by decide +kernel) rfl, by decide +kernel, ⟨by decide +kernel, by decide +kernel, by decide +kernel⟩, Nat.le_of_ble_eq_true rfl⟩, ⟨_, _, rfl⟩, Or.inl ⟨rfl, gw_at 729 (by decide +kernel) rfl⟩⟩
set_option maxRecDepth 20000 in
theorem mk_121 : MOK (yX8_in, cX8_in, 6, (some .boolean), 3, 8, true) := ⟨⟨gw_at 963 rfl rfl, gw_at 78 (by decide +kernel) rfl, by decide +kernel, ⟨by decide +kernel, by decide +kernel, by decide +kernel⟩, Nat.le_of_ble_eq_true rfl⟩, ⟨_, _, rfl⟩, Or.inl ⟨rfl, gw_at 962 (by decide +kernel) rfl⟩⟩
set_option maxRecDepth 20000 in
theorem mk_122 : MOK (yX8_plain, cX8_plain, 1, (some .int), 1, 8, true) := ⟨⟨gw_at 1172 rfl rfl, gw_at 78 (by decide +kernel) rfl, by decide +kernel, ⟨by decide +kernel, by decide +kernel, by decide +kernel⟩, Nat.le_of_ble_eq_true rfl⟩, ⟨_, _, rfl⟩, Or.inl ⟨rfl, gw_at 1171 (by decide +kernel) rfl⟩⟩
set_option maxRecDepth 20000 in
theorem mk_123 : MOK (yX8_bound, cX8_bound, 1, (some .int), 1, 8, true) := ⟨⟨gw_at 1093 rfl rfl, gw_at 78 (by decide +kernel) rfl, by decide +kernel, ⟨by decide +kernel, by decide +kernel, by decide +kernel⟩, Nat.le_of_ble_eq_true rfl⟩, ⟨_, _, rfl⟩, Or.inl ⟨rfl, gw_at 1092 (by decide +kernel) rfl⟩⟩
set_option maxRecDepth 20000 in
theorem mk_124 : MOK (yX8_found, cX8_found, 2, (some .int), 1, 8, false) := ⟨⟨gw_at 969 rfl rfl, gw_at 78 (by decide +kernel) rfl, by decide +kernel, ⟨by decide +kernel, by decide +kernel, by decide +kernel⟩, Nat.le_of_ble_eq_true rfl⟩, ⟨_, _, rfl⟩, Or.inr ⟨rfl, gw_at 968 (by decide +kernel) rfl, gw_at 31 (by decide +kernel) rfl⟩⟩
set_option maxRecDepth 20000 in
theorem mk_125 : MOK (yX8_well, cX8_well, 2, (some .int), 1, 8, false) := ⟨⟨gw_at 974 rfl rfl, gw_at 78 (by decide +kernel) rfl, by decide +kernel, ⟨by decide +kernel, by decide +kernel, by decide +kernel⟩, Nat.le_of_ble_eq_true rfl⟩, ⟨_, _, rfl⟩, Or.inr ⟨rfl, gw_at 973 (by decide +kernel) rfl, gw_at 32 (by decide +kernel) rfl⟩⟩
set_option maxRecDepth 20000 in
theorem mk_126 : MOK (yX8_isRow, cX8_isRow, 1, (some .boolean), 1, 8, true) := ⟨⟨gw_at 959 rfl rfl, gw_at 78 (by decide +kernel) rfl, by decide +kernel, ⟨by decide +kernel, by decide +kernel, by decide +kernel⟩, Nat.le_of_ble_eq_true rfl⟩, ⟨_, _, rfl⟩, Or.inl ⟨rfl, gw_at 958 (by decide +kernel) rfl⟩⟩
set_option maxRecDepth 20000 in
theorem mk_127 : MOK (yX8_row, cX8_row, 5, (some .int), 3, 8, false) := ⟨⟨gw_at 956 rfl rfl, gw_at 78 (by decide +kernel) rfl, by decide +kernel, ⟨by decide +kernel, by decide +kernel, by decide +kernel⟩, Nat.le_of_ble_eq_true rfl⟩, ⟨_, _, rfl⟩, Or.inr ⟨rfl, gw_at 954 (by decide +kernel) rfl, gw_at 955 (by decide +kernel) rfl⟩⟩
set_option maxRecDepth 20000 in
theorem mk_128 : MOK (yX8_cutTo, cX8_cutTo, 2, (some .int), 2, 8, true) := ⟨⟨gw_at 985 rfl rfl, gw_at 78 (by decide +kernel) rfl, by decide +kernel, ⟨by decide +kernel, by decide +kernel, by decide +kernel⟩, Nat.le_of_ble_eq_true rfl⟩, ⟨_, _, rfl⟩, Or.inl ⟨rfl, gw_at 984 (by decide +kernel) rfl⟩⟩
set_option maxRecDepth 20000 in
theorem mk_129 : MOK (yX8_against, cX8_against, 4, (some .int), 3, 8, false) := ⟨⟨gw_at 982 rfl rfl, gw_at 78 (by decide +kernel) rfl, by decide +kernel, ⟨by decide +kernel, by decide +kernel, by decide +kernel⟩, Nat.le_of_ble_eq_true rfl⟩, ⟨_, _, rfl⟩, Or.inr ⟨rfl, gw_at 981 (by decide +kernel) rfl, gw_at 33 (by decide +kernel) rfl⟩⟩
set_option maxRecDepth 20000 in
theorem mk_130 : MOK (yX8_set, cX8_set, 5, (some .int), 3, 8, false) := ⟨⟨gw_at 978 rfl rfl, gw_at 78 (by decide +kernel) rfl, by decide +kernel, ⟨by decide +kernel, by decide +kernel, by decide +kernel⟩, Nat.le_of_ble_eq_true rfl⟩, ⟨_, _, rfl⟩, Or.inr ⟨rfl, gw_at 976 (by decide +kernel) rfl, gw_at 977 (by decide +kernel) rfl⟩⟩
set_option maxRecDepth 20000 in
theorem mk_131 : MOK (yX8_copy, cX8_copy, 7, (some .int), 5, 8, false) := ⟨⟨gw_at 989 rfl rfl, gw_at 78 (by decide +kernel) rfl, by decide +kernel, ⟨by decide +kernel, by decide +kernel, by decide +kernel⟩, Nat.le_of_ble_eq_true rfl⟩, ⟨_, _, rfl⟩, Or.inr ⟨rfl, gw_at 987 (by decide +kernel) rfl, gw_at 988 (by decide +kernel) rfl⟩⟩
set_option maxRecDepth 20000 in
theorem mk_132 : MOK (yX8_drop, cX8_drop, 2, (some .int), 1, 8, false) := ⟨⟨gw_at 993 rfl rfl, gw_at 78 (by decide +kernel) rfl, by decide +kernel, ⟨by decide +kernel, by decide +kernel, by decide +kernel⟩, Nat.le_of_ble_eq_true rfl⟩, ⟨_, _, rfl⟩, Or.inr ⟨rfl, gw_at 991 (by decide +kernel) rfl, gw_at 992 (by decide +kernel) rfl⟩⟩
set_option maxRecDepth 20000 in
theorem mk_133 : MOK (yX8_feed, cX8_feed, 2, (some .int), 1, 8, false) := ⟨⟨gw_at 997 rfl rfl, gw_at 78 (by decide +kernel) rfl, by decide +kernel, ⟨by decide +kernel, by decide +kernel, by decide +kernel⟩, Nat.le_of_ble_eq_true rfl⟩, ⟨_, _, rfl⟩, Or.inr ⟨rfl, gw_at 995 (by decide +kernel) rfl, gw_at 996 (by decide +kernel) rfl⟩⟩
set_option maxRecDepth 20000 in
theorem mk_134 : MOK (yX8_byteAt, cX8_byteAt, 2, (some .int), 1, 8, false) := ⟨⟨gw_at 1019 rfl rfl, gw_at 78 (by decide +kernel) rfl, by decide +kernel, ⟨by decide +kernel, by decide +kernel, by decide +kernel⟩, Nat.le_of_ble_eq_true rfl⟩, ⟨_, _, rfl⟩, Or.inr ⟨rfl, gw_at 1018 (by decide +kernel) rfl, gw_at 37 (by decide +kernel) rfl⟩⟩
set_option maxRecDepth 20000 in
theorem mk_135 : MOK (yX8_isFigure, cX8_isFigure, 2, (some .boolean), 1, 8, false) := ⟨⟨gw_at 1027 rfl rfl, gw_at 78 (by decide +kernel) rfl, by decide +kernel, ⟨by decide +kernel, by decide +kernel, by decide +kernel⟩, Nat.le_of_ble_eq_true rfl⟩, ⟨_, _, rfl⟩, Or.inr ⟨rfl, gw_at 1026 (by decide +kernel) rfl, gw_at 39 (by decide +kernel) rfl⟩⟩
set_option maxRecDepth 20000 in
theorem mk_136 : MOK (yX8_takes, cX8_takes, 3, (some .boolean), 1, 8, false) := ⟨⟨gw_at 1015 rfl rfl, gw_at 78 (by decide +kernel) rfl, by decide +kernel, ⟨by decide +kernel, by decide +kernel, by decide +kernel⟩, Nat.le_of_ble_eq_true rfl⟩, ⟨_, _, rfl⟩, Or.inr ⟨rfl, gw_at 1014 (by decide +kernel) rfl, gw_at 36 (by decide +kernel) rfl⟩⟩
set_option maxRecDepth 20000 in
theorem mk_137 : MOK (yX8_takesNumber, cX8_takesNumber, 4, (some .boolean), 2, 8, false) := ⟨⟨gw_at 1023 rfl rfl, gw_at 78 (by decide +kernel) rfl, by decide +kernel, ⟨by decide +kernel, by decide +kernel, by decide +kernel⟩, Nat.le_of_ble_eq_true rfl⟩, ⟨_, _, rfl⟩, Or.inr ⟨rfl, gw_at 1022 (by decide +kernel) rfl, gw_at 38 (by decide +kernel) rfl⟩⟩
set_option maxRecDepth 20000 in
theorem mk_138 : MOK (yX8_isMore, cX8_isMore, 1, (some .boolean), 0, 8, false) := ⟨⟨gw_at 1040 rfl rfl, gw_at 78 (by decide +kernel) rfl, by decide +kernel, ⟨by decide +kernel, by decide +kernel, by decide +kernel⟩, Nat.le_of_ble_eq_true rfl⟩, ⟨_, _, rfl⟩, Or.inr ⟨rfl, gw_at 1039 (by decide +kernel) rfl, gw_at 41 (by decide +kernel) rfl⟩⟩
set_option maxRecDepth 20000 in
theorem mk_139 : MOK (yX8_takesLaw, cX8_takesLaw, 2, (some .boolean), 0, 8, false) := ⟨⟨gw_at 1011 rfl rfl, gw_at 78 (by decide +kernel) rfl, by decide +kernel, ⟨by decide +kernel, by decide +kernel, by decide +kernel⟩, Nat.le_of_ble_eq_true rfl⟩, ⟨_, _, rfl⟩, Or.inr ⟨rfl, gw_at 1010 (by decide +kernel) rfl, gw_at 35 (by decide +kernel) rfl⟩⟩
set_option maxRecDepth 20000 in
theorem mk_140 : MOK (yX8_barOf, cX8_barOf, 1, (some .int), 1, 8, true) := ⟨⟨gw_at 1036 rfl rfl, gw_at 78 (by decide +kernel) rfl, by decide +kernel, ⟨by decide +kernel, by decide +kernel, by decide +kernel⟩, Nat.le_of_ble_eq_true rfl⟩, ⟨_, _, rfl⟩, Or.inl ⟨rfl, gw_at 1035 (by decide +kernel) rfl⟩⟩
set_option maxRecDepth 20000 in
theorem mk_141 : MOK (yX8_takesSong, cX8_takesSong, 1, (some .boolean), 0, 8, false) := ⟨⟨gw_at 1033 rfl rfl, gw_at 78 (by decide +kernel) rfl, by decide +kernel, ⟨by decide +kernel, by decide +kernel, by decide +kernel⟩, Nat.le_of_ble_eq_true rfl⟩, ⟨_, _, rfl⟩, Or.inr ⟨rfl, gw_at 1032 (by decide +kernel) rfl, gw_at 40 (by decide +kernel) rfl⟩⟩
set_option maxRecDepth 20000 in
theorem mk_142 : MOK (yX8_sortOf, cX8_sortOf, 1, (some .int), 1, 8, true) := ⟨⟨gw_at 1047 rfl rfl, gw_at 78 (by decide +kernel) rfl, by decide +kernel, ⟨by decide +kernel, by decide +kernel, by decide +kernel⟩, Nat.le_of_ble_eq_true rfl⟩, ⟨_, _, rfl⟩, Or.inl ⟨rfl, gw_at 1046 (by decide +kernel) rfl⟩⟩
set_option maxRecDepth 20000 in
theorem mk_143 : MOK (yX8_takesPlayer, cX8_takesPlayer, 3, (some .boolean), 0, 8, false) := ⟨⟨gw_at 1044 rfl rfl, gw_at 78 (by decide +kernel) rfl, by decide +kernel, ⟨by decide +kernel, by decide +kernel, by decide +kernel⟩, Nat.le_of_ble_eq_true rfl⟩, ⟨_, _, rfl⟩, Or.inr ⟨rfl, gw_at 1043 (by decide +kernel) rfl, gw_at 42 (by decide +kernel) rfl⟩⟩
set_option maxRecDepth 20000 in
theorem mk_144 : MOK (yX8_takesEar, cX8_takesEar, 4, (some .boolean), 0, 8, false) := ⟨⟨gw_at 1051 rfl rfl, gw_at 78 (by decide +kernel) rfl, by decide +kernel, ⟨by decide +kernel, by decide +kernel, by decide +kernel⟩, Nat.le_of_ble_eq_true rfl⟩, ⟨_, _, rfl⟩, Or.inr ⟨rfl, gw_at 1050 (by decide +kernel) rfl, gw_at 43 (by decide +kernel) rfl⟩⟩
set_option maxRecDepth 20000 in
theorem mk_145 : MOK (yX8_isBand, cX8_isBand, 2, (some .boolean), 0, 8, false) := ⟨⟨gw_at 1007 rfl rfl, gw_at 78 (by decide +kernel) rfl, by decide +kernel, ⟨by decide +kernel, by decide +kernel, by decide +kernel⟩, Nat.le_of_ble_eq_true rfl⟩, ⟨_, _, rfl⟩, Or.inr ⟨rfl, gw_at 1006 (by decide +kernel) rfl, gw_at 34 (by decide +kernel) rfl⟩⟩
set_option maxRecDepth 20000 in
theorem mk_146 : MOK (yX8_band, cX8_band, 3, (some .int), 0, 8, false) := ⟨⟨gw_at 1003 rfl rfl, gw_at 78 (by decide +kernel) rfl, by decide +kernel, ⟨by decide +kernel, by decide +kernel, by decide +kernel⟩, Nat.le_of_ble_eq_true rfl⟩, ⟨_, _, rfl⟩, Or.inr ⟨rfl, gw_at 1001 (by decide +kernel) rfl, gw_at 1002 (by decide +kernel) rfl⟩⟩
set_option maxRecDepth 20000 in
theorem mk_147 : MOK (yX8_fault, cX8_fault, 1, (some .int), 0, 8, false) := ⟨⟨gw_at 1056 rfl rfl, gw_at 78 (by decide +kernel) rfl, by decide +kernel, ⟨by decide +kernel, by decide +kernel, by decide +kernel⟩, Nat.le_of_ble_eq_true rfl⟩, ⟨_, _, rfl⟩, Or.inr ⟨rfl, gw_at 1054 (by decide +kernel) rfl, gw_at 1055 (by decide +kernel) rfl⟩⟩
set_option maxRecDepth 20000 in
theorem mk_148 : MOK (yX8_layNow, cX8_layNow, 2, none, 0, 8, false) := ⟨⟨gw_at 1078 rfl rfl, gw_at 78 (by decide +kernel) rfl, by decide +kernel, ⟨by decide +kernel, by decide +kernel, by decide +kernel⟩, Nat.le_of_ble_eq_true rfl⟩, ⟨_, _, rfl⟩, Or.inr ⟨rfl, gw_at 1077 (by decide +kernel) rfl, gw_at 46 (by decide +kernel) rfl⟩⟩
set_option maxRecDepth 20000 in
theorem mk_149 : MOK (yX8_leanAt, cX8_leanAt, 4, (some .int), 2, 8, false) := ⟨⟨gw_at 1090 rfl rfl, gw_at 78 (by decide +kernel) rfl, by decide +kernel, ⟨by decide +kernel, by decide +kernel, by decide +kernel⟩, Nat.le_of_ble_eq_true rfl⟩, ⟨_, _, rfl⟩, Or.inr ⟨rfl, gw_at 1089 (by decide +kernel) rfl, gw_at 49 (by decide +kernel) rfl⟩⟩
set_option maxRecDepth 20000 in
theorem mk_150 : MOK (yX8_paceBehind, cX8_paceBehind, 6, (some .int), 2, 8, false) := ⟨⟨gw_at 1086 rfl rfl, gw_at 78 (by decide +kernel) rfl, by decide +kernel, ⟨by decide +kernel, by decide +kernel, by decide +kernel⟩, Nat.le_of_ble_eq_true rfl⟩, ⟨_, _, rfl⟩, Or.inr ⟨rfl, gw_at 1085 (by decide +kernel) rfl, gw_at 48 (by decide +kernel) rfl⟩⟩
set_option maxRecDepth 20000 in
theorem mk_151 : MOK (yX8_plays, cX8_plays, 3, none, 0, 8, false) := ⟨⟨gw_at 1082 rfl rfl, gw_at 78 (by decide +kernel) rfl, by decide +kernel, ⟨by decide +kernel, by decide +kernel, by decide +kernel⟩, Nat.le_of_ble_eq_true rfl⟩, ⟨_, _, rfl⟩, Or.inr ⟨rfl, gw_at 1081 (by decide +kernel) rfl, gw_at 47 (by decide +kernel) rfl⟩⟩
set_option maxRecDepth 20000 in
theorem mk_152 : MOK (yX8_mean, cX8_mean, 3, (some .int), 0, 8, false) := ⟨⟨gw_at 1148 rfl rfl, gw_at 78 (by decide +kernel) rfl, by decide +kernel, ⟨by decide +kernel, by decide +kernel, by decide +kernel⟩, Nat.le_of_ble_eq_true rfl⟩, ⟨_, _, rfl⟩, Or.inr ⟨rfl, gw_at 1147 (by decide +kernel) rfl, gw_at 53 (by decide +kernel) rfl⟩⟩
set_option maxRecDepth 20000 in
theorem mk_153 : MOK (yX8_playsMany, cX8_playsMany, 3, none, 1, 8, false) := ⟨⟨gw_at 1144 rfl rfl, gw_at 78 (by decide +kernel) rfl, by decide +kernel, ⟨by decide +kernel, by decide +kernel, by decide +kernel⟩, Nat.le_of_ble_eq_true rfl⟩, ⟨_, _, rfl⟩, Or.inr ⟨rfl, gw_at 1143 (by decide +kernel) rfl, gw_at 52 (by decide +kernel) rfl⟩⟩
set_option maxRecDepth 20000 in
theorem mk_154 : MOK (yX8_meanNow, cX8_meanNow, 3, (some .int), 0, 8, false) := ⟨⟨gw_at 1097 rfl rfl, gw_at 78 (by decide +kernel) rfl, by decide +kernel, ⟨by decide +kernel, by decide +kernel, by decide +kernel⟩, Nat.le_of_ble_eq_true rfl⟩, ⟨_, _, rfl⟩, Or.inr ⟨rfl, gw_at 1096 (by decide +kernel) rfl, gw_at 50 (by decide +kernel) rfl⟩⟩
set_option maxRecDepth 20000 in
theorem mk_155 : MOK (yX8_driftBy, cX8_driftBy, 2, (some .int), 0, 8, false) := ⟨⟨gw_at 1156 rfl rfl, gw_at 78 (by decide +kernel) rfl, by decide +kernel, ⟨by decide +kernel, by decide +kernel, by decide +kernel⟩, Nat.le_of_ble_eq_true rfl⟩, ⟨_, _, rfl⟩, Or.inr ⟨rfl, gw_at 1155 (by decide +kernel) rfl, gw_at 54 (by decide +kernel) rfl⟩⟩
set_option maxRecDepth 20000 in
theorem mk_156 : MOK (yX8_minds, cX8_minds, 2, none, 0, 8, false) := ⟨⟨gw_at 1074 rfl rfl, gw_at 78 (by decide +kernel) rfl, by decide +kernel, ⟨by decide +kernel, by decide +kernel, by decide +kernel⟩, Nat.le_of_ble_eq_true rfl⟩, ⟨_, _, rfl⟩, Or.inr ⟨rfl, gw_at 1073 (by decide +kernel) rfl, gw_at 45 (by decide +kernel) rfl⟩⟩
set_option maxRecDepth 20000 in
theorem mk_157 : MOK (yX8_undo, cX8_undo, 2, (some .int), 0, 8, false) := ⟨⟨gw_at 1060 rfl rfl, gw_at 78 (by decide +kernel) rfl, by decide +kernel, ⟨by decide +kernel, by decide +kernel, by decide +kernel⟩, Nat.le_of_ble_eq_true rfl⟩, ⟨_, _, rfl⟩, Or.inr ⟨rfl, gw_at 1058 (by decide +kernel) rfl, gw_at 1059 (by decide +kernel) rfl⟩⟩
set_option maxRecDepth 20000 in
theorem mk_158 : MOK (yX8_isPlayer, cX8_isPlayer, 2, (some .boolean), 1, 8, false) := ⟨⟨gw_at 1105 rfl rfl, gw_at 78 (by decide +kernel) rfl, by decide +kernel, ⟨by decide +kernel, by decide +kernel, by decide +kernel⟩, Nat.le_of_ble_eq_true rfl⟩, ⟨_, _, rfl⟩, Or.inr ⟨rfl, gw_at 1104 (by decide +kernel) rfl, gw_at 51 (by decide +kernel) rfl⟩⟩
set_option maxRecDepth 20000 in
theorem mk_159 : MOK (yX8_isNone, cX8_isNone, 1, (some .boolean), 0, 8, false) := ⟨⟨gw_at 1069 rfl rfl, gw_at 78 (by decide +kernel) rfl, by decide +kernel, ⟨by decide +kernel, by decide +kernel, by decide +kernel⟩, Nat.le_of_ble_eq_true rfl⟩, ⟨_, _, rfl⟩, Or.inr ⟨rfl, gw_at 1068 (by decide +kernel) rfl, gw_at 44 (by decide +kernel) rfl⟩⟩
set_option maxRecDepth 20000 in
theorem mk_160 : MOK (yX8_bars, cX8_bars, 4, (some .int), 1, 8, false) := ⟨⟨gw_at 1065 rfl rfl, gw_at 78 (by decide +kernel) rfl, by decide +kernel, ⟨by decide +kernel, by decide +kernel, by decide +kernel⟩, Nat.le_of_ble_eq_true rfl⟩, ⟨_, _, rfl⟩, Or.inr ⟨rfl, gw_at 1063 (by decide +kernel) rfl, gw_at 1064 (by decide +kernel) rfl⟩⟩
set_option maxRecDepth 20000 in
theorem mk_161 : MOK (yX8_pace, cX8_pace, 4, (some .int), 2, 8, false) := ⟨⟨gw_at 1101 rfl rfl, gw_at 78 (by decide +kernel) rfl, by decide +kernel, ⟨by decide +kernel, by decide +kernel, by decide +kernel⟩, Nat.le_of_ble_eq_true rfl⟩, ⟨_, _, rfl⟩, Or.inr ⟨rfl, gw_at 1099 (by decide +kernel) rfl, gw_at 1100 (by decide +kernel) rfl⟩⟩
set_option maxRecDepth 20000 in
theorem mk_162 : MOK (yX8_hears, cX8_hears, 5, (some .int), 3, 8, false) := ⟨⟨gw_at 1111 rfl rfl, gw_at 78 (by decide +kernel) rfl, by decide +kernel, ⟨by decide +kernel, by decide +kernel, by decide +kernel⟩, Nat.le_of_ble_eq_true rfl⟩, ⟨_, _, rfl⟩, Or.inr ⟨rfl, gw_at 1109 (by decide +kernel) rfl, gw_at 1110 (by decide +kernel) rfl⟩⟩
set_option maxRecDepth 20000 in
theorem mk_163 : MOK (yX8_click, cX8_click, 3, (some .int), 1, 8, false) := ⟨⟨gw_at 1116 rfl rfl, gw_at 78 (by decide +kernel) rfl, by decide +kernel, ⟨by decide +kernel, by decide +kernel, by decide +kernel⟩, Nat.le_of_ble_eq_true rfl⟩, ⟨_, _, rfl⟩, Or.inr ⟨rfl, gw_at 1114 (by decide +kernel) rfl, gw_at 1115 (by decide +kernel) rfl⟩⟩
set_option maxRecDepth 20000 in
theorem mk_164 : MOK (yX8_claps, cX8_claps, 3, (some .int), 1, 8, false) := ⟨⟨gw_at 1122 rfl rfl, gw_at 78 (by decide +kernel) rfl, by decide +kernel, ⟨by decide +kernel, by decide +kernel, by decide +kernel⟩, Nat.le_of_ble_eq_true rfl⟩, ⟨_, _, rfl⟩, Or.inr ⟨rfl, gw_at 1120 (by decide +kernel) rfl, gw_at 1121 (by decide +kernel) rfl⟩⟩
set_option maxRecDepth 20000 in
theorem mk_165 : MOK (yX8_player, cX8_player, 5, (some .int), 2, 8, false) := ⟨⟨gw_at 1126 rfl rfl, gw_at 78 (by decide +kernel) rfl, by decide +kernel, ⟨by decide +kernel, by decide +kernel, by decide +kernel⟩, Nat.le_of_ble_eq_true rfl⟩, ⟨_, _, rfl⟩, Or.inr ⟨rfl, gw_at 1124 (by decide +kernel) rfl, gw_at 1125 (by decide +kernel) rfl⟩⟩
set_option maxRecDepth 20000 in
theorem mk_166 : MOK (yX8_ear, cX8_ear, 3, (some .int), 2, 8, false) := ⟨⟨gw_at 1131 rfl rfl, gw_at 78 (by decide +kernel) rfl, by decide +kernel, ⟨by decide +kernel, by decide +kernel, by decide +kernel⟩, Nat.le_of_ble_eq_true rfl⟩, ⟨_, _, rfl⟩, Or.inr ⟨rfl, gw_at 1129 (by decide +kernel) rfl, gw_at 1130 (by decide +kernel) rfl⟩⟩
set_option maxRecDepth 20000 in
theorem mk_167 : MOK (yX8_bar, cX8_bar, 2, (some .int), 1, 8, false) := ⟨⟨gw_at 1135 rfl rfl, gw_at 78 (by decide +kernel) rfl, by decide +kernel, ⟨by decide +kernel, by decide +kernel, by decide +kernel⟩, Nat.le_of_ble_eq_true rfl⟩, ⟨_, _, rfl⟩, Or.inr ⟨rfl, gw_at 1133 (by decide +kernel) rfl, gw_at 1134 (by decide +kernel) rfl⟩⟩
set_option maxRecDepth 20000 in
theorem mk_168 : MOK (yX8_ahead, cX8_ahead, 3, (some .int), 2, 8, false) := ⟨⟨gw_at 1139 rfl rfl, gw_at 78 (by decide +kernel) rfl, by decide +kernel, ⟨by decide +kernel, by decide +kernel, by decide +kernel⟩, Nat.le_of_ble_eq_true rfl⟩, ⟨_, _, rfl⟩, Or.inr ⟨rfl, gw_at 1137 (by decide +kernel) rfl, gw_at 1138 (by decide +kernel) rfl⟩⟩
set_option maxRecDepth 20000 in
theorem mk_169 : MOK (yX8_drift, cX8_drift, 1, (some .int), 0, 8, false) := ⟨⟨gw_at 1152 rfl rfl, gw_at 78 (by decide +kernel) rfl, by decide +kernel, ⟨by decide +kernel, by decide +kernel, by decide +kernel⟩, Nat.le_of_ble_eq_true rfl⟩, ⟨_, _, rfl⟩, Or.inr ⟨rfl, gw_at 1150 (by decide +kernel) rfl, gw_at 1151 (by decide +kernel) rfl⟩⟩
set_option maxRecDepth 20000 in
theorem mk_170 : MOK (yX8_round, cX8_round, 4, (some .int), 1, 8, false) := ⟨⟨gw_at 1160 rfl rfl, gw_at 78 (by decide +kernel) rfl, by decide +kernel, ⟨by decide +kernel, by decide +kernel, by decide +kernel⟩, Nat.le_of_ble_eq_true rfl⟩, ⟨_, _, rfl⟩, Or.inr ⟨rfl, gw_at 1158 (by decide +kernel) rfl, gw_at 1159 (by decide +kernel) rfl⟩⟩
set_option maxRecDepth 20000 in
theorem mk_171 : MOK (yX8_areAlike, cX8_areAlike, 5, (some .boolean), 2, 8, false) := ⟨⟨gw_at 1164 rfl rfl, gw_at 78 (by decide +kernel) rfl, by decide +kernel, ⟨by decide +kernel, by decide +kernel, by decide +kernel⟩, Nat.le_of_ble_eq_true rfl⟩, ⟨_, _, rfl⟩, Or.inr ⟨rfl, gw_at 1163 (by decide +kernel) rfl, gw_at 55 (by decide +kernel) rfl⟩⟩
set_option maxRecDepth 20000 in
theorem mk_172 : MOK (yX8_noticed, cX8_noticed, 5, (some .int), 2, 8, false) := ⟨⟨gw_at 1169 rfl rfl, gw_at 78 (by decide +kernel) rfl, by decide +kernel, ⟨by decide +kernel, by decide +kernel, by decide +kernel⟩, Nat.le_of_ble_eq_true rfl⟩, ⟨_, _, rfl⟩, Or.inr ⟨rfl, gw_at 1167 (by decide +kernel) rfl, gw_at 1168 (by decide +kernel) rfl⟩⟩
set_option maxRecDepth 20000 in
theorem mk_173 : MOK (yX8_dancers, cX8_dancers, 12, (some .int), 5, 8, false) := ⟨⟨gw_at 1176 rfl rfl, gw_at 78 (by decide +kernel) rfl, by decide +kernel, ⟨by decide +kernel, by decide +kernel, by decide +kernel⟩, Nat.le_of_ble_eq_true rfl⟩, ⟨_, _, rfl⟩, Or.inr ⟨rfl, gw_at 1174 (by decide +kernel) rfl, gw_at 1175 (by decide +kernel) rfl⟩⟩
set_option maxRecDepth 20000 in
theorem mk_174 : MOK (yX8_countIn, cX8_countIn, 7, (some .int), 2, 8, false) := ⟨⟨gw_at 1181 rfl rfl, gw_at 78 (by decide +kernel) rfl, by decide +kernel, ⟨by decide +kernel, by decide +kernel, by decide +kernel⟩, Nat.le_of_ble_eq_true rfl⟩, ⟨_, _, rfl⟩, Or.inr ⟨rfl, gw_at 1179 (by decide +kernel) rfl, gw_at 1180 (by decide +kernel) rfl⟩⟩
set_option maxRecDepth 20000 in
theorem mk_175 : MOK (yX8_deaf, cX8_deaf, 7, (some .int), 1, 8, false) := ⟨⟨gw_at 1186 rfl rfl, gw_at 78 (by decide +kernel) rfl, by decide +kernel, ⟨by decide +kernel, by decide +kernel, by decide +kernel⟩, Nat.le_of_ble_eq_true rfl⟩, ⟨_, _, rfl⟩, Or.inr ⟨rfl, gw_at 1184 (by decide +kernel) rfl, gw_at 1185 (by decide +kernel) rfl⟩⟩
set_option maxRecDepth 20000 in
theorem mk_176 : MOK (yX8_inEar, cX8_inEar, 7, (some .int), 1, 8, false) := ⟨⟨gw_at 1190 rfl rfl, gw_at 78 (by decide +kernel) rfl, by decide +kernel, ⟨by decide +kernel, by decide +kernel, by decide +kernel⟩, Nat.le_of_ble_eq_true rfl⟩, ⟨_, _, rfl⟩, Or.inr ⟨rfl, gw_at 1188 (by decide +kernel) rfl, gw_at 1189 (by decide +kernel) rfl⟩⟩
set_option maxRecDepth 20000 in
theorem mk_177 : MOK (yX8_blame, cX8_blame, 3, (some .int), 1, 8, false) := ⟨⟨gw_at 1194 rfl rfl, gw_at 78 (by decide +kernel) rfl, by decide +kernel, ⟨by decide +kernel, by decide +kernel, by decide +kernel⟩, Nat.le_of_ble_eq_true rfl⟩, ⟨_, _, rfl⟩, Or.inr ⟨rfl, gw_at 1192 (by decide +kernel) rfl, gw_at 1193 (by decide +kernel) rfl⟩⟩
set_option maxRecDepth 20000 in
theorem mk_178 : MOK (yX8_farBy, cX8_farBy, 9, (some .int), 5, 8, false) := ⟨⟨gw_at 1202 rfl rfl, gw_at 78 (by decide +kernel) rfl, by decide +kernel, ⟨by decide +kernel, by decide +kernel, by decide +kernel⟩, Nat.le_of_ble_eq_true rfl⟩, ⟨_, _, rfl⟩, Or.inr ⟨rfl, gw_at 1201 (by decide +kernel) rfl, gw_at 56 (by decide +kernel) rfl⟩⟩
set_option maxRecDepth 20000 in
theorem mk_179 : MOK (yX8_back, cX8_back, 9, (some .int), 4, 8, false) := ⟨⟨gw_at 1198 rfl rfl, gw_at 78 (by decide +kernel) rfl, by decide +kernel, ⟨by decide +kernel, by decide +kernel, by decide +kernel⟩, Nat.le_of_ble_eq_true rfl⟩, ⟨_, _, rfl⟩, Or.inr ⟨rfl, gw_at 1196 (by decide +kernel) rfl, gw_at 1197 (by decide +kernel) rfl⟩⟩
set_option maxRecDepth 20000 in
theorem mk_180 : MOK (yX8_between, cX8_between, 10, (some .int), 3, 8, false) := ⟨⟨gw_at 1212 rfl rfl, gw_at 78 (by decide +kernel) rfl, by decide +kernel, ⟨by decide +kernel, by decide +kernel, by decide +kernel⟩, Nat.le_of_ble_eq_true rfl⟩, ⟨_, _, rfl⟩, Or.inr ⟨rfl, gw_at 1211 (by decide +kernel) rfl, gw_at 57 (by decide +kernel) rfl⟩⟩
set_option maxRecDepth 20000 in
theorem mk_181 : MOK (yX8_songs, cX8_songs, 12, (some .int), 4, 8, false) := ⟨⟨gw_at 1206 rfl rfl, gw_at 78 (by decide +kernel) rfl, by decide +kernel, ⟨by decide +kernel, by decide +kernel, by decide +kernel⟩, Nat.le_of_ble_eq_true rfl⟩, ⟨_, _, rfl⟩, Or.inr ⟨rfl, gw_at 1204 (by decide +kernel) rfl, gw_at 1205 (by decide +kernel) rfl⟩⟩
set_option maxRecDepth 20000 in
theorem mk_182 : MOK (yX8_clapped, cX8_clapped, 5, (some .int), 2, 8, false) := ⟨⟨gw_at 1216 rfl rfl, gw_at 78 (by decide +kernel) rfl, by decide +kernel, ⟨by decide +kernel, by decide +kernel, by decide +kernel⟩, Nat.le_of_ble_eq_true rfl⟩, ⟨_, _, rfl⟩, Or.inr ⟨rfl, gw_at 1214 (by decide +kernel) rfl, gw_at 1215 (by decide +kernel) rfl⟩⟩
set_option maxRecDepth 20000 in
theorem mk_183 : MOK (yX8_pushBy, cX8_pushBy, 7, (some .int), 2, 8, false) := ⟨⟨gw_at 1224 rfl rfl, gw_at 78 (by decide +kernel) rfl, by decide +kernel, ⟨by decide +kernel, by decide +kernel, by decide +kernel⟩, Nat.le_of_ble_eq_true rfl⟩, ⟨_, _, rfl⟩, Or.inr ⟨rfl, gw_at 1223 (by decide +kernel) rfl, gw_at 58 (by decide +kernel) rfl⟩⟩
set_option maxRecDepth 20000 in
theorem mk_184 : MOK (yX8_whoPushed, cX8_whoPushed, 9, (some .int), 3, 8, false) := ⟨⟨gw_at 1220 rfl rfl, gw_at 78 (by decide +kernel) rfl, by decide +kernel, ⟨by decide +kernel, by decide +kernel, by decide +kernel⟩, Nat.le_of_ble_eq_true rfl⟩, ⟨_, _, rfl⟩, Or.inr ⟨rfl, gw_at 1218 (by decide +kernel) rfl, gw_at 1219 (by decide +kernel) rfl⟩⟩
set_option maxRecDepth 20000 in
theorem mk_185 : MOK (yX8_night, cX8_night, 10, (some .int), 3, 8, false) := ⟨⟨gw_at 1228 rfl rfl, gw_at 78 (by decide +kernel) rfl, by decide +kernel, ⟨by decide +kernel, by decide +kernel, by decide +kernel⟩, Nat.le_of_ble_eq_true rfl⟩, ⟨_, _, rfl⟩, Or.inr ⟨rfl, gw_at 1226 (by decide +kernel) rfl, gw_at 1227 (by decide +kernel) rfl⟩⟩
set_option maxRecDepth 20000 in
theorem mk_186 : MOK (yX8_image, cX8_image, 3, (some .int), 1, 8, false) := ⟨⟨gw_at 1237 rfl rfl, gw_at 78 (by decide +kernel) rfl, by decide +kernel, ⟨by decide +kernel, by decide +kernel, by decide +kernel⟩, Nat.le_of_ble_eq_true rfl⟩, ⟨_, _, rfl⟩, Or.inr ⟨rfl, gw_at 1235 (by decide +kernel) rfl, gw_at 1236 (by decide +kernel) rfl⟩⟩
set_option maxRecDepth 20000 in
theorem mk_187 : MOK (yX8_restore, cX8_restore, 3, (some .int), 1, 8, false) := ⟨⟨gw_at 1241 rfl rfl, gw_at 78 (by decide +kernel) rfl, by decide +kernel, ⟨by decide +kernel, by decide +kernel, by decide +kernel⟩, Nat.le_of_ble_eq_true rfl⟩, ⟨_, _, rfl⟩, Or.inr ⟨rfl, gw_at 1239 (by decide +kernel) rfl, gw_at 1240 (by decide +kernel) rfl⟩⟩
set_option maxRecDepth 20000 in
theorem mk_188 : MOK (yX8_leaves, cX8_leaves, 2, none, 1, 8, false) := ⟨⟨gw_at 1264 rfl rfl, gw_at 78 (by decide +kernel) rfl, by decide +kernel, ⟨by decide +kernel, by decide +kernel, by decide +kernel⟩, Nat.le_of_ble_eq_true rfl⟩, ⟨_, _, rfl⟩, Or.inr ⟨rfl, gw_at 1263 (by decide +kernel) rfl, gw_at 60 (by decide +kernel) rfl⟩⟩
set_option maxRecDepth 20000 in
theorem mk_189 : MOK (yX8_kind, cX8_kind, 2, (some .int), 1, 8, false) := ⟨⟨gw_at 1245 rfl rfl, gw_at 78 (by decide +kernel) rfl, by decide +kernel, ⟨by decide +kernel, by decide +kernel, by decide +kernel⟩, Nat.le_of_ble_eq_true rfl⟩, ⟨_, _, rfl⟩, Or.inr ⟨rfl, gw_at 1243 (by decide +kernel) rfl, gw_at 1244 (by decide +kernel) rfl⟩⟩
set_option maxRecDepth 20000 in
theorem mk_190 : MOK (yX8_isOf, cX8_isOf, 2, (some .boolean), 2, 8, true) := ⟨⟨gw_at 1252 rfl rfl, gw_at 78 (by decide +kernel) rfl, by decide +kernel, ⟨by decide +kernel, by decide +kernel, by decide +kernel⟩, Nat.le_of_ble_eq_true rfl⟩, ⟨_, _, rfl⟩, Or.inl ⟨rfl, gw_at 1251 (by decide +kernel) rfl⟩⟩
set_option maxRecDepth 20000 in
theorem mk_191 : MOK (yX8_as, cX8_as, 3, (some .int), 2, 8, false) := ⟨⟨gw_at 1249 rfl rfl, gw_at 78 (by decide +kernel) rfl, by decide +kernel, ⟨by decide +kernel, by decide +kernel, by decide +kernel⟩, Nat.le_of_ble_eq_true rfl⟩, ⟨_, _, rfl⟩, Or.inr ⟨rfl, gw_at 1247 (by decide +kernel) rfl, gw_at 1248 (by decide +kernel) rfl⟩⟩
set_option maxRecDepth 20000 in
theorem mk_192 : MOK (yX8_bareSize, cX8_bareSize, 2, (some .int), 1, 8, false) := ⟨⟨gw_at 1272 rfl rfl, gw_at 78 (by decide +kernel) rfl, by decide +kernel, ⟨by decide +kernel, by decide +kernel, by decide +kernel⟩, Nat.le_of_ble_eq_true rfl⟩, ⟨_, _, rfl⟩, Or.inr ⟨rfl, gw_at 1271 (by decide +kernel) rfl, gw_at 62 (by decide +kernel) rfl⟩⟩
set_option maxRecDepth 20000 in
theorem mk_193 : MOK (yX8_bareMark, cX8_bareMark, 2, (some .int), 1, 8, false) := ⟨⟨gw_at 1284 rfl rfl, gw_at 78 (by decide +kernel) rfl, by decide +kernel, ⟨by decide +kernel, by decide +kernel, by decide +kernel⟩, Nat.le_of_ble_eq_true rfl⟩, ⟨_, _, rfl⟩, Or.inr ⟨rfl, gw_at 1283 (by decide +kernel) rfl, gw_at 65 (by decide +kernel) rfl⟩⟩
set_option maxRecDepth 20000 in
theorem mk_194 : MOK (yX8_steadyMark, cX8_steadyMark, 2, (some .int), 1, 8, false) := ⟨⟨gw_at 1280 rfl rfl, gw_at 78 (by decide +kernel) rfl, by decide +kernel, ⟨by decide +kernel, by decide +kernel, by decide +kernel⟩, Nat.le_of_ble_eq_true rfl⟩, ⟨_, _, rfl⟩, Or.inr ⟨rfl, gw_at 1279 (by decide +kernel) rfl, gw_at 64 (by decide +kernel) rfl⟩⟩
set_option maxRecDepth 20000 in
theorem mk_195 : MOK (yX8_markOfSteady, cX8_markOfSteady, 2, (some .int), 1, 8, false) := ⟨⟨gw_at 1276 rfl rfl, gw_at 78 (by decide +kernel) rfl, by decide +kernel, ⟨by decide +kernel, by decide +kernel, by decide +kernel⟩, Nat.le_of_ble_eq_true rfl⟩, ⟨_, _, rfl⟩, Or.inr ⟨rfl, gw_at 1275 (by decide +kernel) rfl, gw_at 63 (by decide +kernel) rfl⟩⟩
set_option maxRecDepth 20000 in
theorem mk_196 : MOK (yX8_steadySize, cX8_steadySize, 3, (some .int), 1, 8, false) := ⟨⟨gw_at 1268 rfl rfl, gw_at 78 (by decide +kernel) rfl, by decide +kernel, ⟨by decide +kernel, by decide +kernel, by decide +kernel⟩, Nat.le_of_ble_eq_true rfl⟩, ⟨_, _, rfl⟩, Or.inr ⟨rfl, gw_at 1267 (by decide +kernel) rfl, gw_at 61 (by decide +kernel) rfl⟩⟩
set_option maxRecDepth 20000 in
theorem mk_197 : MOK (yX8_clickedSize, cX8_clickedSize, 2, (some .int), 1, 8, false) := ⟨⟨gw_at 1288 rfl rfl, gw_at 78 (by decide +kernel) rfl, by decide +kernel, ⟨by decide +kernel, by decide +kernel, by decide +kernel⟩, Nat.le_of_ble_eq_true rfl⟩, ⟨_, _, rfl⟩, Or.inr ⟨rfl, gw_at 1287 (by decide +kernel) rfl, gw_at 66 (by decide +kernel) rfl⟩⟩
set_option maxRecDepth 20000 in
theorem mk_198 : MOK (yX8_sizeOf, cX8_sizeOf, 2, (some .int), 1, 8, false) := ⟨⟨gw_at 1260 rfl rfl, gw_at 78 (by decide +kernel) rfl, by decide +kernel, ⟨by decide +kernel, by decide +kernel, by decide +kernel⟩, Nat.le_of_ble_eq_true rfl⟩, ⟨_, _, rfl⟩, Or.inr ⟨rfl, gw_at 1259 (by decide +kernel) rfl, gw_at 59 (by decide +kernel) rfl⟩⟩
set_option maxRecDepth 20000 in
theorem mk_199 : MOK (yX8_markOf, cX8_markOf, 3, (some .int), 1, 8, false) := ⟨⟨gw_at 1292 rfl rfl, gw_at 78 (by decide +kernel) rfl, by decide +kernel, ⟨by decide +kernel, by decide +kernel, by decide +kernel⟩, Nat.le_of_ble_eq_true rfl⟩, ⟨_, _, rfl⟩, Or.inr ⟨rfl, gw_at 1291 (by decide +kernel) rfl, gw_at 67 (by decide +kernel) rfl⟩⟩
set_option maxRecDepth 20000 in
theorem mk_200 : MOK (yX8_ask, cX8_ask, 3, (some .int), 2, 8, false) := ⟨⟨gw_at 1256 rfl rfl, gw_at 78 (by decide +kernel) rfl, by decide +kernel, ⟨by decide +kernel, by decide +kernel, by decide +kernel⟩, Nat.le_of_ble_eq_true rfl⟩, ⟨_, _, rfl⟩, Or.inr ⟨rfl, gw_at 1254 (by decide +kernel) rfl, gw_at 1255 (by decide +kernel) rfl⟩⟩
set_option maxRecDepth 20000 in
theorem mk_201 : MOK (yX8_trace, cX8_trace, 2, (some .int), 1, 8, false) := ⟨⟨gw_at 1296 rfl rfl, gw_at 78 (by decide +kernel) rfl, by decide +kernel, ⟨by decide +kernel, by decide +kernel, by decide +kernel⟩, Nat.le_of_ble_eq_true rfl⟩, ⟨_, _, rfl⟩, Or.inr ⟨rfl, gw_at 1294 (by decide +kernel) rfl, gw_at 1295 (by decide +kernel) rfl⟩⟩
set_option maxRecDepth 20000 in
theorem mk_202 : MOK (yX8_rowsMany, cX8_rowsMany, 3, (some .int), 0, 8, false) := ⟨⟨gw_at 1304 rfl rfl, gw_at 78 (by decide +kernel) rfl, by decide +kernel, ⟨by decide +kernel, by decide +kernel, by decide +kernel⟩, Nat.le_of_ble_eq_true rfl⟩, ⟨_, _, rfl⟩, Or.inr ⟨rfl, gw_at 1303 (by decide +kernel) rfl, gw_at 68 (by decide +kernel) rfl⟩⟩
set_option maxRecDepth 20000 in
theorem mk_203 : MOK (yX8_count, cX8_count, 2, (some .int), 1, 8, false) := ⟨⟨gw_at 1300 rfl rfl, gw_at 78 (by decide +kernel) rfl, by decide +kernel, ⟨by decide +kernel, by decide +kernel, by decide +kernel⟩, Nat.le_of_ble_eq_true rfl⟩, ⟨_, _, rfl⟩, Or.inr ⟨rfl, gw_at 1298 (by decide +kernel) rfl, gw_at 1299 (by decide +kernel) rfl⟩⟩
set_option maxRecDepth 20000 in
theorem mk_204 : MOK (yX8_status, cX8_status, 1, (some .int), 0, 8, false) := ⟨⟨gw_at 1308 rfl rfl, gw_at 78 (by decide +kernel) rfl, by decide +kernel, ⟨by decide +kernel, by decide +kernel, by decide +kernel⟩, Nat.le_of_ble_eq_true rfl⟩, ⟨_, _, rfl⟩, Or.inr ⟨rfl, gw_at 1306 (by decide +kernel) rfl, gw_at 1307 (by decide +kernel) rfl⟩⟩
set_option maxRecDepth 100000 in
theorem mil_ok : ∀ q ∈ mil, MOK q := List.forall_mem_cons.mpr ⟨mk_0, List.forall_mem_cons.mpr ⟨mk_1, List.forall_mem_cons.mpr ⟨mk_2, List.forall_mem_cons.mpr ⟨mk_3, List.forall_mem_cons.mpr ⟨mk_4, List.forall_mem_cons.mpr ⟨mk_5, List.forall_mem_cons.mpr ⟨mk_6, List.forall_mem_cons.mpr ⟨mk_7, List.forall_mem_cons.mpr ⟨mk_8, List.forall_mem_cons.mpr ⟨mk_9, List.forall_mem_cons.mpr ⟨mk_10, List.forall_mem_cons.mpr ⟨mk_11, List.forall_mem_cons.mpr ⟨mk_12, List.forall_mem_cons.mpr ⟨mk_13, List.forall_mem_cons.mpr ⟨mk_14, List.forall_mem_cons.mpr ⟨mk_15, List.forall_mem_cons.mpr ⟨mk_16, List.forall_mem_cons.mpr ⟨mk_17, List.forall_mem_cons.mpr ⟨mk_18, List.forall_mem_cons.mpr ⟨mk_19, List.forall_mem_cons.mpr ⟨mk_20, List.forall_mem_cons.mpr ⟨mk_21, List.forall_mem_cons.mpr ⟨mk_22, List.forall_mem_cons.mpr ⟨mk_23, List.forall_mem_cons.mpr ⟨mk_24, List.forall_mem_cons.mpr ⟨mk_25, List.forall_mem_cons.mpr ⟨mk_26, List.forall_mem_cons.mpr ⟨mk_27, List.forall_mem_cons.mpr ⟨mk_28, List.forall_mem_cons.mpr ⟨mk_29, List.forall_mem_cons.mpr ⟨mk_30, List.forall_mem_cons.mpr ⟨mk_31, List.forall_mem_cons.mpr ⟨mk_32, List.forall_mem_cons.mpr ⟨mk_33, List.forall_mem_cons.mpr ⟨mk_34, List.forall_mem_cons.mpr ⟨mk_35, List.forall_mem_cons.mpr ⟨mk_36, List.forall_mem_cons.mpr ⟨mk_37, List.forall_mem_cons.mpr ⟨mk_38, List.forall_mem_cons.mpr ⟨mk_39, List.forall_mem_cons.mpr ⟨mk_40, List.forall_mem_cons.mpr ⟨mk_41, List.forall_mem_cons.mpr ⟨mk_42, List.forall_mem_cons.mpr ⟨mk_43, List.forall_mem_cons.mpr ⟨mk_44, List.forall_mem_cons.mpr ⟨mk_45, List.forall_mem_cons.mpr ⟨mk_46, List.forall_mem_cons.mpr ⟨mk_47, List.forall_mem_cons.mpr ⟨mk_48, List.forall_mem_cons.mpr ⟨mk_49, List.forall_mem_cons.mpr ⟨mk_50, List.forall_mem_cons.mpr ⟨mk_51, List.forall_mem_cons.mpr ⟨mk_52, List.forall_mem_cons.mpr ⟨mk_53, List.forall_mem_cons.mpr ⟨mk_54, List.forall_mem_cons.mpr ⟨mk_55, List.forall_mem_cons.mpr ⟨mk_56, List.forall_mem_cons.mpr ⟨mk_57, List.forall_mem_cons.mpr ⟨mk_58, List.forall_mem_cons.mpr ⟨mk_59, List.forall_mem_cons.mpr ⟨mk_60, List.forall_mem_cons.mpr ⟨mk_61, List.forall_mem_cons.mpr ⟨mk_62, List.forall_mem_cons.mpr ⟨mk_63, List.forall_mem_cons.mpr ⟨mk_64, List.forall_mem_cons.mpr ⟨mk_65, List.forall_mem_cons.mpr ⟨mk_66, List.forall_mem_cons.mpr ⟨mk_67, List.forall_mem_cons.mpr ⟨mk_68, List.forall_mem_cons.mpr ⟨mk_69, List.forall_mem_cons.mpr ⟨mk_70, List.forall_mem_cons.mpr ⟨mk_71, List.forall_mem_cons.mpr ⟨mk_72, List.forall_mem_cons.mpr ⟨mk_73, List.forall_mem_cons.mpr ⟨mk_74, List.forall_mem_cons.mpr ⟨mk_75, List.forall_mem_cons.mpr ⟨mk_76, List.forall_mem_cons.mpr ⟨mk_77, List.forall_mem_cons.mpr ⟨mk_78, List.forall_mem_cons.mpr ⟨mk_79, List.forall_mem_cons.mpr ⟨mk_80, List.forall_mem_cons.mpr ⟨mk_81, List.forall_mem_cons.mpr ⟨mk_82, List.forall_mem_cons.mpr ⟨mk_83, List.forall_mem_cons.mpr ⟨mk_84, List.forall_mem_cons.mpr ⟨mk_85, List.forall_mem_cons.mpr ⟨mk_86, List.forall_mem_cons.mpr ⟨mk_87, List.forall_mem_cons.mpr ⟨mk_88, List.forall_mem_cons.mpr ⟨mk_89, List.forall_mem_cons.mpr ⟨mk_90, List.forall_mem_cons.mpr ⟨mk_91, List.forall_mem_cons.mpr ⟨mk_92, List.forall_mem_cons.mpr ⟨mk_93, List.forall_mem_cons.mpr ⟨mk_94, List.forall_mem_cons.mpr ⟨mk_95, List.forall_mem_cons.mpr ⟨mk_96, List.forall_mem_cons.mpr ⟨mk_97, List.forall_mem_cons.mpr ⟨mk_98, List.forall_mem_cons.mpr ⟨mk_99, List.forall_mem_cons.mpr ⟨mk_100, List.forall_mem_cons.mpr ⟨mk_101, List.forall_mem_cons.mpr ⟨mk_102, List.forall_mem_cons.mpr ⟨mk_103, List.forall_mem_cons.mpr ⟨mk_104, List.forall_mem_cons.mpr ⟨mk_105, List.forall_mem_cons.mpr ⟨mk_106, List.forall_mem_cons.mpr ⟨mk_107, List.forall_mem_cons.mpr ⟨mk_108, List.forall_mem_cons.mpr ⟨mk_109, List.forall_mem_cons.mpr ⟨mk_110, List.forall_mem_cons.mpr ⟨mk_111, List.forall_mem_cons.mpr ⟨mk_112, List.forall_mem_cons.mpr ⟨mk_113, List.forall_mem_cons.mpr ⟨mk_114, List.forall_mem_cons.mpr ⟨mk_115, List.forall_mem_cons.mpr ⟨mk_116, List.forall_mem_cons.mpr ⟨mk_117, List.forall_mem_cons.mpr ⟨mk_118, List.forall_mem_cons.mpr ⟨mk_119, List.forall_mem_cons.mpr ⟨mk_120, List.forall_mem_cons.mpr ⟨mk_121, List.forall_mem_cons.mpr ⟨mk_122, List.forall_mem_cons.mpr ⟨mk_123, List.forall_mem_cons.mpr ⟨mk_124, List.forall_mem_cons.mpr ⟨mk_125, List.forall_mem_cons.mpr ⟨mk_126, List.forall_mem_cons.mpr ⟨mk_127, List.forall_mem_cons.mpr ⟨mk_128, List.forall_mem_cons.mpr ⟨mk_129, List.forall_mem_cons.mpr ⟨mk_130, List.forall_mem_cons.mpr ⟨mk_131, List.forall_mem_cons.mpr ⟨mk_132, List.forall_mem_cons.mpr ⟨mk_133, List.forall_mem_cons.mpr ⟨mk_134, List.forall_mem_cons.mpr ⟨mk_135, List.forall_mem_cons.mpr ⟨mk_136, List.forall_mem_cons.mpr ⟨mk_137, List.forall_mem_cons.mpr ⟨mk_138, List.forall_mem_cons.mpr ⟨mk_139, List.forall_mem_cons.mpr ⟨mk_140, List.forall_mem_cons.mpr ⟨mk_141, List.forall_mem_cons.mpr ⟨mk_142, List.forall_mem_cons.mpr ⟨mk_143, List.forall_mem_cons.mpr ⟨mk_144, List.forall_mem_cons.mpr ⟨mk_145, List.forall_mem_cons.mpr ⟨mk_146, List.forall_mem_cons.mpr ⟨mk_147, List.forall_mem_cons.mpr ⟨mk_148, List.forall_mem_cons.mpr ⟨mk_149, List.forall_mem_cons.mpr ⟨mk_150, List.forall_mem_cons.mpr ⟨mk_151, List.forall_mem_cons.mpr ⟨mk_152, List.forall_mem_cons.mpr ⟨mk_153, List.forall_mem_cons.mpr ⟨mk_154, List.forall_mem_cons.mpr ⟨mk_155, List.forall_mem_cons.mpr ⟨mk_156, List.forall_mem_cons.mpr ⟨mk_157, List.forall_mem_cons.mpr ⟨mk_158, List.forall_mem_cons.mpr ⟨mk_159, List.forall_mem_cons.mpr ⟨mk_160, List.forall_mem_cons.mpr ⟨mk_161, List.forall_mem_cons.mpr ⟨mk_162, List.forall_mem_cons.mpr ⟨mk_163, List.forall_mem_cons.mpr ⟨mk_164, List.forall_mem_cons.mpr ⟨mk_165, List.forall_mem_cons.mpr ⟨mk_166, List.forall_mem_cons.mpr ⟨mk_167, List.forall_mem_cons.mpr ⟨mk_168, List.forall_mem_cons.mpr ⟨mk_169, List.forall_mem_cons.mpr ⟨mk_170, List.forall_mem_cons.mpr ⟨mk_171, List.forall_mem_cons.mpr ⟨mk_172, List.forall_mem_cons.mpr ⟨mk_173, List.forall_mem_cons.mpr ⟨mk_174, List.forall_mem_cons.mpr ⟨mk_175, List.forall_mem_cons.mpr ⟨mk_176, List.forall_mem_cons.mpr ⟨mk_177, List.forall_mem_cons.mpr ⟨mk_178, List.forall_mem_cons.mpr ⟨mk_179, List.forall_mem_cons.mpr ⟨mk_180, List.forall_mem_cons.mpr ⟨mk_181, List.forall_mem_cons.mpr ⟨mk_182, List.forall_mem_cons.mpr ⟨mk_183, List.forall_mem_cons.mpr ⟨mk_184, List.forall_mem_cons.mpr ⟨mk_185, List.forall_mem_cons.mpr ⟨mk_186, List.forall_mem_cons.mpr ⟨mk_187, List.forall_mem_cons.mpr ⟨mk_188, List.forall_mem_cons.mpr ⟨mk_189, List.forall_mem_cons.mpr ⟨mk_190, List.forall_mem_cons.mpr ⟨mk_191, List.forall_mem_cons.mpr ⟨mk_192, List.forall_mem_cons.mpr ⟨mk_193, List.forall_mem_cons.mpr ⟨mk_194, List.forall_mem_cons.mpr ⟨mk_195, List.forall_mem_cons.mpr ⟨mk_196, List.forall_mem_cons.mpr ⟨mk_197, List.forall_mem_cons.mpr ⟨mk_198, List.forall_mem_cons.mpr ⟨mk_199, List.forall_mem_cons.mpr ⟨mk_200, List.forall_mem_cons.mpr ⟨mk_201, List.forall_mem_cons.mpr ⟨mk_202, List.forall_mem_cons.mpr ⟨mk_203, List.forall_mem_cons.mpr ⟨mk_204, fun _ h => absurd h List.not_mem_nil⟩⟩⟩⟩⟩⟩⟩⟩⟩⟩⟩⟩⟩⟩⟩⟩⟩⟩⟩⟩⟩⟩⟩⟩⟩⟩⟩⟩⟩⟩⟩⟩⟩⟩⟩⟩⟩⟩⟩⟩⟩⟩⟩⟩⟩⟩⟩⟩⟩⟩⟩⟩⟩⟩⟩⟩⟩⟩⟩⟩⟩⟩⟩⟩⟩⟩⟩⟩⟩⟩⟩⟩⟩⟩⟩⟩⟩⟩⟩⟩⟩⟩⟩⟩⟩⟩⟩⟩⟩⟩⟩⟩⟩⟩⟩⟩⟩⟩⟩⟩⟩⟩⟩⟩⟩⟩⟩⟩⟩⟩⟩⟩⟩⟩⟩⟩⟩⟩⟩⟩⟩⟩⟩⟩⟩⟩⟩⟩⟩⟩⟩⟩⟩⟩⟩⟩⟩⟩⟩⟩⟩⟩⟩⟩⟩⟩⟩⟩⟩⟩⟩⟩⟩⟩⟩⟩⟩⟩⟩⟩⟩⟩⟩⟩⟩⟩⟩⟩⟩⟩⟩⟩⟩⟩⟩⟩⟩⟩⟩⟩⟩⟩⟩⟩⟩⟩⟩⟩⟩⟩⟩⟩⟩⟩⟩⟩⟩⟩⟩⟩⟩⟩⟩⟩⟩
theorem uw_0 : ∀ w ∈ u_ws RX0 TX0 3, w ∈ gw := fun w h => by
  have h1 : ∀ w ∈ u_ws RX0 TX0 3, w ∈ lw_tbl ∧ goodWord w = true := by decide +kernel
  exact gw_in (h1 w h).1 (h1 w h).2
theorem fc_0 : FC 0 := ⟨RX0, TX0, 3, tyX0, rfl, tyX0_ok, nmX0⟩
theorem uw_1 : ∀ w ∈ u_ws RX1 TX1 6, w ∈ gw := fun w h => by
  have h1 : ∀ w ∈ u_ws RX1 TX1 6, w ∈ lw_tbl ∧ goodWord w = true := by decide +kernel
  exact gw_in (h1 w h).1 (h1 w h).2
theorem fc_1 : FC 1 := ⟨RX1, TX1, 6, tyX1, rfl, tyX1_ok, nmX1⟩
theorem uw_2 : ∀ w ∈ u_ws RX2 TX2 14, w ∈ gw := fun w h => by
  have h1 : ∀ w ∈ u_ws RX2 TX2 14, w ∈ lw_tbl ∧ goodWord w = true := by decide +kernel
  exact gw_in (h1 w h).1 (h1 w h).2
theorem fc_2 : FC 2 := ⟨RX2, TX2, 14, tyX2, rfl, tyX2_ok, nmX2⟩
theorem uw_3 : ∀ w ∈ u_ws RX3 TX3 3, w ∈ gw := fun w h => by
  have h1 : ∀ w ∈ u_ws RX3 TX3 3, w ∈ lw_tbl ∧ goodWord w = true := by decide +kernel
  exact gw_in (h1 w h).1 (h1 w h).2
theorem fc_3 : FC 3 := ⟨RX3, TX3, 3, tyX3, rfl, tyX3_ok, nmX3⟩
theorem uw_4 : ∀ w ∈ u_ws RX4 TX4 4, w ∈ gw := fun w h => by
  have h1 : ∀ w ∈ u_ws RX4 TX4 4, w ∈ lw_tbl ∧ goodWord w = true := by decide +kernel
  exact gw_in (h1 w h).1 (h1 w h).2
theorem fc_4 : FC 4 := ⟨RX4, TX4, 4, tyX4, rfl, tyX4_ok, nmX4⟩
theorem uw_5 : ∀ w ∈ u_ws RX5 TX5 6, w ∈ gw := fun w h => by
  have h1 : ∀ w ∈ u_ws RX5 TX5 6, w ∈ lw_tbl ∧ goodWord w = true := by decide +kernel
  exact gw_in (h1 w h).1 (h1 w h).2
theorem fc_5 : FC 5 := ⟨RX5, TX5, 6, tyX5, rfl, tyX5_ok, nmX5⟩
theorem uw_6 : ∀ w ∈ u_ws RX6 TX6 7, w ∈ gw := fun w h => by
  have h1 : ∀ w ∈ u_ws RX6 TX6 7, w ∈ lw_tbl ∧ goodWord w = true := by decide +kernel
  exact gw_in (h1 w h).1 (h1 w h).2
theorem fc_6 : FC 6 := ⟨RX6, TX6, 7, tyX6, rfl, tyX6_ok, nmX6⟩
theorem uw_7 : ∀ w ∈ u_ws RX7 TX7 11, w ∈ gw := fun w h => by
  have h1 : ∀ w ∈ u_ws RX7 TX7 11, w ∈ lw_tbl ∧ goodWord w = true := by decide +kernel
  exact gw_in (h1 w h).1 (h1 w h).2
theorem fc_7 : FC 7 := ⟨RX7, TX7, 11, tyX7, rfl, tyX7_ok, nmX7⟩
theorem uw_8 : ∀ w ∈ u_ws RX8 TX8 26, w ∈ gw := fun w h => by
  have h1 : ∀ w ∈ u_ws RX8 TX8 26, w ∈ lw_tbl ∧ goodWord w = true := by decide +kernel
  exact gw_in (h1 w h).1 (h1 w h).2
theorem fc_8 : FC 8 := ⟨RX8, TX8, 26, tyX8, rfl, tyX8_ok, nmX8⟩
def FL0 : List (Nat × Nat) := [(11, 0), (17, 1), (21, 2)]
def FL1 : List (Nat × Nat) := [(22, 72), (36, 73), (30, 74), (9, 32), (15, 33), (19, 34), (27, 35), (33, 36), (39, 37)]
def FL2 : List (Nat × Nat) := [(30, 64), (34, 65), (37, 66), (40, 67), (43, 68), (46, 69), (49, 70), (52, 71), (9, 72), (15, 73), (18, 74), (21, 75), (24, 76), (27, 77)]
def FL3 : List (Nat × Nat) := [(9, 96), (15, 97), (21, 98)]
def FL4 : List (Nat × Nat) := [(11, 128), (15, 129), (18, 130), (21, 131)]
def FL5 : List (Nat × Nat) := [(73, 64), (35, 65), (61, 66), (106, 72), (109, 73), (64, 74), (12, 160), (18, 161), (21, 162), (25, 163), (55, 164), (58, 165)]
def FL6 : List (Nat × Nat) := [(9, 192), (15, 193), (131, 194), (134, 195), (19, 196), (48, 197), (118, 198), (84, 64), (63, 65), (51, 68), (54, 69), (57, 70), (60, 71), (87, 72), (93, 73), (90, 74), (72, 77)]
def FL7 : List (Nat × Nat) := [(226, 131), (108, 193), (117, 194), (124, 195), (133, 64), (200, 65), (188, 66), (147, 67), (178, 71), (246, 72), (185, 73), (163, 74), (139, 2), (213, 164), (216, 165), (263, 97), (260, 98), (284, 32), (281, 33), (10, 224), (19, 225), (26, 226), (30, 227), (36, 228), (43, 229), (50, 230), (57, 231), (61, 232), (120, 233), (290, 234)]
def FL8 : List (Nat × Nat) := [(7, 256), (153, 257), (13, 258), (17, 259), (20, 260), (23, 261), (26, 262), (53, 263), (29, 264), (88, 265), (149, 266), (99, 267), (102, 268), (105, 269), (108, 270), (131, 271), (32, 272), (35, 273), (38, 274), (41, 275), (44, 276), (156, 277), (159, 278), (47, 279), (50, 280), (251, 281)]
def FL9 : List (Nat × Nat) := []
def FL (oi : Nat) : List (Nat × Nat) := match oi with | 0 => FL0 | 1 => FL1 | 2 => FL2 | 3 => FL3 | 4 => FL4 | 5 => FL5 | 6 => FL6 | 7 => FL7 | 8 => FL8 | 9 => FL9 | _ => []
theorem FL0_ok : ∀ q ∈ FL0, FG (ownS 0) q.1 (q.2 / 32) (q.2 % 32) := List.forall_mem_cons.mpr ⟨⟨RX0, TX0, 3, rfl, Nat.le_of_ble_eq_true rfl, gw_at 223 (by decide +kernel) rfl, uw_0, rfl⟩, List.forall_mem_cons.mpr ⟨⟨RX0, TX0, 3, rfl, Nat.le_of_ble_eq_true rfl, gw_at 224 (by decide +kernel) rfl, uw_0, rfl⟩, List.forall_mem_cons.mpr ⟨⟨RX0, TX0, 3, rfl, Nat.le_of_ble_eq_true rfl, gw_at 225 (by decide +kernel) rfl, uw_0, rfl⟩, fun _ h => absurd h List.not_mem_nil⟩⟩⟩
theorem FL1_ok : ∀ q ∈ FL1, FG (ownS 1) q.1 (q.2 / 32) (q.2 % 32) := List.forall_mem_cons.mpr ⟨⟨RX2, TX2, 14, rfl, Nat.le_of_ble_eq_true rfl, gw_at 170 (by decide +kernel) rfl, uw_2, rfl⟩, List.forall_mem_cons.mpr ⟨⟨RX2, TX2, 14, rfl, Nat.le_of_ble_eq_true rfl, gw_at 175 (by decide +kernel) rfl, uw_2, rfl⟩, List.forall_mem_cons.mpr ⟨⟨RX2, TX2, 14, rfl, Nat.le_of_ble_eq_true rfl, gw_at 180 (by decide +kernel) rfl, uw_2, rfl⟩, List.forall_mem_cons.mpr ⟨⟨RX1, TX1, 6, rfl, Nat.le_of_ble_eq_true rfl, gw_at 287 (by decide +kernel) rfl, uw_1, rfl⟩, List.forall_mem_cons.mpr ⟨⟨RX1, TX1, 6, rfl, Nat.le_of_ble_eq_true rfl, gw_at 289 (by decide +kernel) rfl, uw_1, rfl⟩, List.forall_mem_cons.mpr ⟨⟨RX1, TX1, 6, rfl, Nat.le_of_ble_eq_true rfl, gw_at 291 (by decide +kernel) rfl, uw_1, rfl⟩, List.forall_mem_cons.mpr ⟨⟨RX1, TX1, 6, rfl, Nat.le_of_ble_eq_true rfl, gw_at 292 (by decide +kernel) rfl, uw_1, rfl⟩, List.forall_mem_cons.mpr ⟨⟨RX1, TX1, 6, rfl, Nat.le_of_ble_eq_true rfl, gw_at 293 (by decide +kernel) rfl, uw_1, rfl⟩, List.forall_mem_cons.mpr ⟨⟨RX1, TX1, 6, rfl, Nat.le_of_ble_eq_true rfl, gw_at 294 (by decide +kernel) rfl, uw_1, rfl⟩, fun _ h => absurd h List.not_mem_nil⟩⟩⟩⟩⟩⟩⟩⟩⟩
theorem FL2_ok : ∀ q ∈ FL2, FG (ownS 2) q.1 (q.2 / 32) (q.2 % 32) := List.forall_mem_cons.mpr ⟨⟨RX2, TX2, 14, rfl, Nat.le_of_ble_eq_true rfl, gw_at 147 (by decide +kernel) rfl, uw_2, rfl⟩, List.forall_mem_cons.mpr ⟨⟨RX2, TX2, 14, rfl, Nat.le_of_ble_eq_true rfl, gw_at 151 (by decide +kernel) rfl, uw_2, rfl⟩, List.forall_mem_cons.mpr ⟨⟨RX2, TX2, 14, rfl, Nat.le_of_ble_eq_true rfl, gw_at 155 (by decide +kernel) rfl, uw_2, rfl⟩, List.forall_mem_cons.mpr ⟨⟨RX2, TX2, 14, rfl, Nat.le_of_ble_eq_true rfl, gw_at 158 (by decide +kernel) rfl, uw_2, rfl⟩, List.forall_mem_cons.mpr ⟨⟨RX2, TX2, 14, rfl, Nat.le_of_ble_eq_true rfl, gw_at 160 (by decide +kernel) rfl, uw_2, rfl⟩, List.forall_mem_cons.mpr ⟨⟨RX2, TX2, 14, rfl, Nat.le_of_ble_eq_true rfl, gw_at 162 (by decide +kernel) rfl, uw_2, rfl⟩, List.forall_mem_cons.mpr ⟨⟨RX2, TX2, 14, rfl, Nat.le_of_ble_eq_true rfl, gw_at 164 (by decide +kernel) rfl, uw_2, rfl⟩, List.forall_mem_cons.mpr ⟨⟨RX2, TX2, 14, rfl, Nat.le_of_ble_eq_true rfl, gw_at 166 (by decide +kernel) rfl, uw_2, rfl⟩, List.forall_mem_cons.mpr ⟨⟨RX2, TX2, 14, rfl, Nat.le_of_ble_eq_true rfl, gw_at 169 (by decide +kernel) rfl, uw_2, rfl⟩, List.forall_mem_cons.mpr ⟨⟨RX2, TX2, 14, rfl, Nat.le_of_ble_eq_true rfl, gw_at 174 (by decide +kernel) rfl, uw_2, rfl⟩, List.forall_mem_cons.mpr ⟨⟨RX2, TX2, 14, rfl, Nat.le_of_ble_eq_true rfl, gw_at 179 (by decide +kernel) rfl, uw_2, rfl⟩, List.forall_mem_cons.mpr ⟨⟨RX2, TX2, 14, rfl, Nat.le_of_ble_eq_true rfl, gw_at 184 (by decide +kernel) rfl, uw_2, rfl⟩, List.forall_mem_cons.mpr ⟨⟨RX2, TX2, 14, rfl, Nat.le_of_ble_eq_true rfl, gw_at 185 (by decide +kernel) rfl, uw_2, rfl⟩, List.forall_mem_cons.mpr ⟨⟨RX2, TX2, 14, rfl, Nat.le_of_ble_eq_true rfl, gw_at 186 (by decide +kernel) rfl, uw_2, rfl⟩, fun _ h => absurd h List.not_mem_nil⟩⟩⟩⟩⟩⟩⟩⟩⟩⟩⟩⟩⟩⟩
theorem FL3_ok : ∀ q ∈ FL3, FG (ownS 3) q.1 (q.2 / 32) (q.2 % 32) := List.forall_mem_cons.mpr ⟨⟨RX3, TX3, 3, rfl, Nat.le_of_ble_eq_true rfl, gw_at 269 (by decide +kernel) rfl, uw_3, rfl⟩, List.forall_mem_cons.mpr ⟨⟨RX3, TX3, 3, rfl, Nat.le_of_ble_eq_true rfl, gw_at 270 (by decide +kernel) rfl, uw_3, rfl⟩, List.forall_mem_cons.mpr ⟨⟨RX3, TX3, 3, rfl, Nat.le_of_ble_eq_true rfl, gw_at 272 (by decide +kernel) rfl, uw_3, rfl⟩, fun _ h => absurd h List.not_mem_nil⟩⟩⟩
theorem FL4_ok : ∀ q ∈ FL4, FG (ownS 4) q.1 (q.2 / 32) (q.2 % 32) := List.forall_mem_cons.mpr ⟨⟨RX4, TX4, 4, rfl, Nat.le_of_ble_eq_true rfl, gw_at 95 (by decide +kernel) rfl, uw_4, rfl⟩, List.forall_mem_cons.mpr ⟨⟨RX4, TX4, 4, rfl, Nat.le_of_ble_eq_true rfl, gw_at 96 (by decide +kernel) rfl, uw_4, rfl⟩, List.forall_mem_cons.mpr ⟨⟨RX4, TX4, 4, rfl, Nat.le_of_ble_eq_true rfl, gw_at 97 (by decide +kernel) rfl, uw_4, rfl⟩, List.forall_mem_cons.mpr ⟨⟨RX4, TX4, 4, rfl, Nat.le_of_ble_eq_true rfl, gw_at 98 (by decide +kernel) rfl, uw_4, rfl⟩, fun _ h => absurd h List.not_mem_nil⟩⟩⟩⟩
theorem FL5_ok : ∀ q ∈ FL5, FG (ownS 5) q.1 (q.2 / 32) (q.2 % 32) := List.forall_mem_cons.mpr ⟨⟨RX2, TX2, 14, rfl, Nat.le_of_ble_eq_true rfl, gw_at 148 (by decide +kernel) rfl, uw_2, rfl⟩, List.forall_mem_cons.mpr ⟨⟨RX2, TX2, 14, rfl, Nat.le_of_ble_eq_true rfl, gw_at 152 (by decide +kernel) rfl, uw_2, rfl⟩, List.forall_mem_cons.mpr ⟨⟨RX2, TX2, 14, rfl, Nat.le_of_ble_eq_true rfl, gw_at 156 (by decide +kernel) rfl, uw_2, rfl⟩, List.forall_mem_cons.mpr ⟨⟨RX2, TX2, 14, rfl, Nat.le_of_ble_eq_true rfl, gw_at 172 (by decide +kernel) rfl, uw_2, rfl⟩, List.forall_mem_cons.mpr ⟨⟨RX2, TX2, 14, rfl, Nat.le_of_ble_eq_true rfl, gw_at 177 (by decide +kernel) rfl, uw_2, rfl⟩, List.forall_mem_cons.mpr ⟨⟨RX2, TX2, 14, rfl, Nat.le_of_ble_eq_true rfl, gw_at 181 (by decide +kernel) rfl, uw_2, rfl⟩, List.forall_mem_cons.mpr ⟨⟨RX5, TX5, 6, rfl, Nat.le_of_ble_eq_true rfl, gw_at 242 (by decide +kernel) rfl, uw_5, rfl⟩, List.forall_mem_cons.mpr ⟨⟨RX5, TX5, 6, rfl, Nat.le_of_ble_eq_true rfl, gw_at 243 (by decide +kernel) rfl, uw_5, rfl⟩, List.forall_mem_cons.mpr ⟨⟨RX5, TX5, 6, rfl, Nat.le_of_ble_eq_true rfl, gw_at 244 (by decide +kernel) rfl, uw_5, rfl⟩, List.forall_mem_cons.mpr ⟨⟨RX5, TX5, 6, rfl, Nat.le_of_ble_eq_true rfl, gw_at 245 (by decide +kernel) rfl, uw_5, rfl⟩, List.forall_mem_cons.mpr ⟨⟨RX5, TX5, 6, rfl, Nat.le_of_ble_eq_true rfl, gw_at 246 (by decide +kernel) rfl, uw_5, rfl⟩, List.forall_mem_cons.mpr ⟨⟨RX5, TX5, 6, rfl, Nat.le_of_ble_eq_true rfl, gw_at 248 (by decide +kernel) rfl, uw_5, rfl⟩, fun _ h => absurd h List.not_mem_nil⟩⟩⟩⟩⟩⟩⟩⟩⟩⟩⟩⟩
theorem FL6_ok : ∀ q ∈ FL6, FG (ownS 6) q.1 (q.2 / 32) (q.2 % 32) := List.forall_mem_cons.mpr ⟨⟨RX6, TX6, 7, rfl, Nat.le_of_ble_eq_true rfl, gw_at 116 (by decide +kernel) rfl, uw_6, rfl⟩, List.forall_mem_cons.mpr ⟨⟨RX6, TX6, 7, rfl, Nat.le_of_ble_eq_true rfl, gw_at 117 (by decide +kernel) rfl, uw_6, rfl⟩, List.forall_mem_cons.mpr ⟨⟨RX6, TX6, 7, rfl, Nat.le_of_ble_eq_true rfl, gw_at 120 (by decide +kernel) rfl, uw_6, rfl⟩, List.forall_mem_cons.mpr ⟨⟨RX6, TX6, 7, rfl, Nat.le_of_ble_eq_true rfl, gw_at 122 (by decide +kernel) rfl, uw_6, rfl⟩, List.forall_mem_cons.mpr ⟨⟨RX6, TX6, 7, rfl, Nat.le_of_ble_eq_true rfl, gw_at 123 (by decide +kernel) rfl, uw_6, rfl⟩, List.forall_mem_cons.mpr ⟨⟨RX6, TX6, 7, rfl, Nat.le_of_ble_eq_true rfl, gw_at 124 (by decide +kernel) rfl, uw_6, rfl⟩, List.forall_mem_cons.mpr ⟨⟨RX6, TX6, 7, rfl, Nat.le_of_ble_eq_true rfl, gw_at 125 (by decide +kernel) rfl, uw_6, rfl⟩, List.forall_mem_cons.mpr ⟨⟨RX2, TX2, 14, rfl, Nat.le_of_ble_eq_true rfl, gw_at 149 (by decide +kernel) rfl, uw_2, rfl⟩, List.forall_mem_cons.mpr ⟨⟨RX2, TX2, 14, rfl, Nat.le_of_ble_eq_true rfl, gw_at 153 (by decide +kernel) rfl, uw_2, rfl⟩, List.forall_mem_cons.mpr ⟨⟨RX2, TX2, 14, rfl, Nat.le_of_ble_eq_true rfl, gw_at 161 (by decide +kernel) rfl, uw_2, rfl⟩, List.forall_mem_cons.mpr ⟨⟨RX2, TX2, 14, rfl, Nat.le_of_ble_eq_true rfl, gw_at 163 (by decide +kernel) rfl, uw_2, rfl⟩, List.forall_mem_cons.mpr ⟨⟨RX2, TX2, 14, rfl, Nat.le_of_ble_eq_true rfl, gw_at 165 (by decide +kernel) rfl, uw_2, rfl⟩, List.forall_mem_cons.mpr ⟨⟨RX2, TX2, 14, rfl, Nat.le_of_ble_eq_true rfl, gw_at 167 (by decide +kernel) rfl, uw_2, rfl⟩, List.forall_mem_cons.mpr ⟨⟨RX2, TX2, 14, rfl, Nat.le_of_ble_eq_true rfl, gw_at 171 (by decide +kernel) rfl, uw_2, rfl⟩, List.forall_mem_cons.mpr ⟨⟨RX2, TX2, 14, rfl, Nat.le_of_ble_eq_true rfl, gw_at 176 (by decide +kernel) rfl, uw_2, rfl⟩, List.forall_mem_cons.mpr ⟨⟨RX2, TX2, 14, rfl, Nat.le_of_ble_eq_true rfl, gw_at 182 (by decide +kernel) rfl, uw_2, rfl⟩, List.forall_mem_cons.mpr ⟨⟨RX2, TX2, 14, rfl, Nat.le_of_ble_eq_true rfl, gw_at 187 (by decide +kernel) rfl, uw_2, rfl⟩, fun _ h => absurd h List.not_mem_nil⟩⟩⟩⟩⟩⟩⟩⟩⟩⟩⟩⟩⟩⟩⟩⟩⟩
theorem FL7_ok : ∀ q ∈ FL7, FG (ownS 7) q.1 (q.2 / 32) (q.2 % 32) := List.forall_mem_cons.mpr ⟨⟨RX4, TX4, 4, rfl, Nat.le_of_ble_eq_true rfl, gw_at 99 (by decide +kernel) rfl, uw_4, rfl⟩, List.forall_mem_cons.mpr ⟨⟨RX6, TX6, 7, rfl, Nat.le_of_ble_eq_true rfl, gw_at 118 (by decide +kernel) rfl, uw_6, rfl⟩, List.forall_mem_cons.mpr ⟨⟨RX6, TX6, 7, rfl, Nat.le_of_ble_eq_true rfl, gw_at 119 (by decide +kernel) rfl, uw_6, rfl⟩, List.forall_mem_cons.mpr ⟨⟨RX6, TX6, 7, rfl, Nat.le_of_ble_eq_true rfl, gw_at 121 (by decide +kernel) rfl, uw_6, rfl⟩, List.forall_mem_cons.mpr ⟨⟨RX2, TX2, 14, rfl, Nat.le_of_ble_eq_true rfl, gw_at 150 (by decide +kernel) rfl, uw_2, rfl⟩, List.forall_mem_cons.mpr ⟨⟨RX2, TX2, 14, rfl, Nat.le_of_ble_eq_true rfl, gw_at 154 (by decide +kernel) rfl, uw_2, rfl⟩, List.forall_mem_cons.mpr ⟨⟨RX2, TX2, 14, rfl, Nat.le_of_ble_eq_true rfl, gw_at 157 (by decide +kernel) rfl, uw_2, rfl⟩, List.forall_mem_cons.mpr ⟨⟨RX2, TX2, 14, rfl, Nat.le_of_ble_eq_true rfl, gw_at 159 (by decide +kernel) rfl, uw_2, rfl⟩, List.forall_mem_cons.mpr ⟨⟨RX2, TX2, 14, rfl, Nat.le_of_ble_eq_true rfl, gw_at 168 (by decide +kernel) rfl, uw_2, rfl⟩, List.forall_mem_cons.mpr ⟨⟨RX2, TX2, 14, rfl, Nat.le_of_ble_eq_true rfl, gw_at 173 (by decide +kernel) rfl, uw_2, rfl⟩, List.forall_mem_cons.mpr ⟨⟨RX2, TX2, 14, rfl, Nat.le_of_ble_eq_true rfl, gw_at 178 (by decide +kernel) rfl, uw_2, rfl⟩, List.forall_mem_cons.mpr ⟨⟨RX2, TX2, 14, rfl, Nat.le_of_ble_eq_true rfl, gw_at 183 (by decide +kernel) rfl, uw_2, rfl⟩, List.forall_mem_cons.mpr ⟨⟨RX0, TX0, 3, rfl, Nat.le_of_ble_eq_true rfl, gw_at 226 (by decide +kernel) rfl, uw_0, rfl⟩, List.forall_mem_cons.mpr ⟨⟨RX5, TX5, 6, rfl, Nat.le_of_ble_eq_true rfl, gw_at 247 (by decide +kernel) rfl, uw_5, rfl⟩, List.forall_mem_cons.mpr ⟨⟨RX5, TX5, 6, rfl, Nat.le_of_ble_eq_true rfl, gw_at 249 (by decide +kernel) rfl, uw_5, rfl⟩, List.forall_mem_cons.mpr ⟨⟨RX3, TX3, 3, rfl, Nat.le_of_ble_eq_true rfl, gw_at 271 (by decide +kernel) rfl, uw_3, rfl⟩, List.forall_mem_cons.mpr ⟨⟨RX3, TX3, 3, rfl, Nat.le_of_ble_eq_true rfl, gw_at 273 (by decide +kernel) rfl, uw_3, rfl⟩, List.forall_mem_cons.mpr ⟨⟨RX1, TX1, 6, rfl, Nat.le_of_ble_eq_true rfl, gw_at 288 (by decide +kernel) rfl, uw_1, rfl⟩, List.forall_mem_cons.mpr ⟨⟨RX1, TX1, 6, rfl, Nat.le_of_ble_eq_true rfl, gw_at 290 (by decide +kernel) rfl, uw_1, rfl⟩, List.forall_mem_cons.mpr ⟨⟨RX7, TX7, 11, rfl, Nat.le_of_ble_eq_true rfl, gw_at 309 (by decide +kernel) rfl, uw_7, rfl⟩, List.forall_mem_cons.mpr ⟨⟨RX7, TX7, 11, rfl, Nat.le_of_ble_eq_true rfl, gw_at 310 (by decide +kernel) rfl, uw_7, rfl⟩, List.forall_mem_cons.mpr ⟨⟨RX7, TX7, 11, rfl, Nat.le_of_ble_eq_true rfl, gw_at 311 (by decide +kernel) rfl, uw_7, rfl⟩, List.forall_mem_cons.mpr ⟨⟨RX7, TX7, 11, rfl, Nat.le_of_ble_eq_true rfl, gw_at 312 (by decide +kernel) rfl, uw_7, rfl⟩, List.forall_mem_cons.mpr ⟨⟨RX7, TX7, 11, rfl, Nat.le_of_ble_eq_true rfl, gw_at 313 (by decide +kernel) rfl, uw_7, rfl⟩, List.forall_mem_cons.mpr ⟨⟨RX7, TX7, 11, rfl, Nat.le_of_ble_eq_true rfl, gw_at 314 (by decide +kernel) rfl, uw_7, rfl⟩, List.forall_mem_cons.mpr ⟨⟨RX7, TX7, 11, rfl, Nat.le_of_ble_eq_true rfl, gw_at 315 (by decide +kernel) rfl, uw_7, rfl⟩, List.forall_mem_cons.mpr ⟨⟨RX7, TX7, 11, rfl, Nat.le_of_ble_eq_true rfl, gw_at 316 (by decide +kernel) rfl, uw_7, rfl⟩, List.forall_mem_cons.mpr ⟨⟨RX7, TX7, 11, rfl, Nat.le_of_ble_eq_true rfl, gw_at 317 (by decide +kernel) rfl, uw_7, rfl⟩, List.forall_mem_cons.mpr ⟨⟨RX7, TX7, 11, rfl, Nat.le_of_ble_eq_true rfl, gw_at 318 (by decide +kernel) rfl, uw_7, rfl⟩, List.forall_mem_cons.mpr ⟨⟨RX7, TX7, 11, rfl, Nat.le_of_ble_eq_true rfl, gw_at 319 (by decide +kernel) rfl, uw_7, rfl⟩, fun _ h => absurd h List.not_mem_nil⟩⟩⟩⟩⟩⟩⟩⟩⟩⟩⟩⟩⟩⟩⟩⟩⟩⟩⟩⟩⟩⟩⟩⟩⟩⟩⟩⟩⟩⟩
theorem FL8_ok : ∀ q ∈ FL8, FG (ownS 8) q.1 (q.2 / 32) (q.2 % 32) := List.forall_mem_cons.mpr ⟨⟨RX8, TX8, 26, rfl, Nat.le_of_ble_eq_true rfl, gw_at 873 (by decide +kernel) rfl, uw_8, rfl⟩, List.forall_mem_cons.mpr ⟨⟨RX8, TX8, 26, rfl, Nat.le_of_ble_eq_true rfl, gw_at 874 (by decide +kernel) rfl, uw_8, rfl⟩, List.forall_mem_cons.mpr ⟨⟨RX8, TX8, 26, rfl, Nat.le_of_ble_eq_true rfl, gw_at 875 (by decide +kernel) rfl, uw_8, rfl⟩, List.forall_mem_cons.mpr ⟨⟨RX8, TX8, 26, rfl, Nat.le_of_ble_eq_true rfl, gw_at 876 (by decide +kernel) rfl, uw_8, rfl⟩, List.forall_mem_cons.mpr ⟨⟨RX8, TX8, 26, rfl, Nat.le_of_ble_eq_true rfl, gw_at 877 (by decide +kernel) rfl, uw_8, rfl⟩, List.forall_mem_cons.mpr ⟨⟨RX8, TX8, 26, rfl, Nat.le_of_ble_eq_true rfl, gw_at 878 (by decide +kernel) rfl, uw_8, rfl⟩, List.forall_mem_cons.mpr ⟨⟨RX8, TX8, 26, rfl, Nat.le_of_ble_eq_true rfl, gw_at 879 (by decide +kernel) rfl, uw_8, rfl⟩, List.forall_mem_cons.mpr ⟨⟨RX8, TX8, 26, rfl, Nat.le_of_ble_eq_true rfl, gw_at 880 (by decide +kernel) rfl, uw_8, rfl⟩, List.forall_mem_cons.mpr ⟨⟨RX8, TX8, 26, rfl, Nat.le_of_ble_eq_true rfl, gw_at 881 (by decide +kernel) rfl, uw_8, rfl⟩, List.forall_mem_cons.mpr ⟨⟨RX8, TX8, 26, rfl, Nat.le_of_ble_eq_true rfl, gw_at 882 (by decide +kernel) rfl, uw_8, rfl⟩, List.forall_mem_cons.mpr ⟨⟨RX8, TX8, 26, rfl, Nat.le_of_ble_eq_true rfl, gw_at 883 (by decide +kernel) rfl, uw_8, rfl⟩, List.forall_mem_cons.mpr ⟨⟨RX8, TX8, 26, rfl, Nat.le_of_ble_eq_true rfl, gw_at 884 (by decide +kernel) rfl, uw_8, rfl⟩, List.forall_mem_cons.mpr ⟨⟨RX8, TX8, 26, rfl, Nat.le_of_ble_eq_true rfl, gw_at 885 (by decide +kernel) rfl, uw_8, rfl⟩, List.forall_mem_cons.mpr ⟨⟨RX8, TX8, 26, rfl, Nat.le_of_ble_eq_true rfl, gw_at 886 (by decide +kernel) rfl, uw_8, rfl⟩, List.forall_mem_cons.mpr ⟨⟨RX8, TX8, 26, rfl, Nat.le_of_ble_eq_true rfl, gw_at 887 (by decide +kernel) rfl, uw_8, rfl⟩, List.forall_mem_cons.mpr ⟨⟨RX8, TX8, 26, rfl, Nat.le_of_ble_eq_true rfl, gw_at 888 (by decide +kernel) rfl, uw_8, rfl⟩, List.forall_mem_cons.mpr ⟨⟨RX8, TX8, 26, rfl, Nat.le_of_ble_eq_true rfl, gw_at 889 (by decide +kernel) rfl, uw_8, rfl⟩, List.forall_mem_cons.mpr ⟨⟨RX8, TX8, 26, rfl, Nat.le_of_ble_eq_true rfl, gw_at 890 (by decide +kernel) rfl, uw_8, rfl⟩, List.forall_mem_cons.mpr ⟨⟨RX8, TX8, 26, rfl, Nat.le_of_ble_eq_true rfl, gw_at 891 (by decide +kernel) rfl, uw_8, rfl⟩, List.forall_mem_cons.mpr ⟨⟨RX8, TX8, 26, rfl, Nat.le_of_ble_eq_true rfl, gw_at 892 (by decide +kernel) rfl, uw_8, rfl⟩, List.forall_mem_cons.mpr ⟨⟨RX8, TX8, 26, rfl, Nat.le_of_ble_eq_true rfl, gw_at 893 (by decide +kernel) rfl, uw_8, rfl⟩, List.forall_mem_cons.mpr ⟨⟨RX8, TX8, 26, rfl, Nat.le_of_ble_eq_true rfl, gw_at 894 (by decide +kernel) rfl, uw_8, rfl⟩, List.forall_mem_cons.mpr ⟨⟨RX8, TX8, 26, rfl, Nat.le_of_ble_eq_true rfl, gw_at 895 (by decide +kernel) rfl, uw_8, rfl⟩, List.forall_mem_cons.mpr ⟨⟨RX8, TX8, 26, rfl, Nat.le_of_ble_eq_true rfl, gw_at 896 (by decide +kernel) rfl, uw_8, rfl⟩, List.forall_mem_cons.mpr ⟨⟨RX8, TX8, 26, rfl, Nat.le_of_ble_eq_true rfl, gw_at 897 (by decide +kernel) rfl, uw_8, rfl⟩, List.forall_mem_cons.mpr ⟨⟨RX8, TX8, 26, rfl, Nat.le_of_ble_eq_true rfl, gw_at 898 (by decide +kernel) rfl, uw_8, rfl⟩, fun _ h => absurd h List.not_mem_nil⟩⟩⟩⟩⟩⟩⟩⟩⟩⟩⟩⟩⟩⟩⟩⟩⟩⟩⟩⟩⟩⟩⟩⟩⟩⟩
theorem FL9_ok : ∀ q ∈ FL9, FG (ownS 9) q.1 (q.2 / 32) (q.2 % 32) := fun _ h => absurd h List.not_mem_nil
theorem FL_ok : ∀ (oi : Nat) (q), q ∈ FL oi → FG (ownS oi) q.1 (q.2 / 32) (q.2 % 32) := fun oi q h => by
  match oi, h with
  | 0, h => exact FL0_ok q h
  | 1, h => exact FL1_ok q h
  | 2, h => exact FL2_ok q h
  | 3, h => exact FL3_ok q h
  | 4, h => exact FL4_ok q h
  | 5, h => exact FL5_ok q h
  | 6, h => exact FL6_ok q h
  | 7, h => exact FL7_ok q h
  | 8, h => exact FL8_ok q h
  | 9, h => exact FL9_ok q h
  | _ + 10, h => cases h
def PL0 : List (Nat × Nat) := [(17, 1), (21, 2)]
def PL1 : List (Nat × Nat) := [(15, 33), (19, 34), (27, 35), (33, 36), (39, 37)]
def PL2 : List (Nat × Nat) := [(30, 64), (34, 65), (37, 66), (40, 67), (43, 68), (46, 69), (49, 70), (52, 71)]
def PL3 : List (Nat × Nat) := [(21, 98)]
def PL4 : List (Nat × Nat) := []
def PL5 : List (Nat × Nat) := [(73, 64), (35, 65), (61, 66), (55, 164), (58, 165)]
def PL6 : List (Nat × Nat) := [(15, 193), (131, 194), (134, 195), (19, 196), (48, 197), (118, 198), (84, 64), (63, 65), (51, 68), (54, 69), (57, 70), (60, 71)]
def PL7 : List (Nat × Nat) := [(108, 193), (117, 194), (124, 195), (133, 64), (200, 65), (188, 66), (147, 67), (178, 71), (139, 2), (213, 164), (216, 165), (260, 98), (281, 33), (120, 233), (290, 234)]
def PL8 : List (Nat × Nat) := [(153, 257), (53, 263), (88, 265), (149, 266), (99, 267), (102, 268), (105, 269), (108, 270), (131, 271), (156, 277), (159, 278), (251, 281)]
def PL9 : List (Nat × Nat) := []
def PL (oi : Nat) : List (Nat × Nat) := match oi with | 0 => PL0 | 1 => PL1 | 2 => PL2 | 3 => PL3 | 4 => PL4 | 5 => PL5 | 6 => PL6 | 7 => PL7 | 8 => PL8 | 9 => PL9 | _ => []
theorem PL0_ok : ∀ q ∈ PL0, FG (ownS 0) q.1 (q.2 / 32) (q.2 % 32) ∧ FI (q.2 / 32) (q.2 % 32) := List.forall_mem_cons.mpr ⟨⟨⟨RX0, TX0, 3, rfl, Nat.le_of_ble_eq_true rfl, gw_at 224 (by decide +kernel) rfl, uw_0, rfl⟩, fc_0, RX0, TX0, 3, rfl, rfl, rfl⟩, List.forall_mem_cons.mpr ⟨⟨⟨RX0, TX0, 3, rfl, Nat.le_of_ble_eq_true rfl, gw_at 225 (by decide +kernel) rfl, uw_0, rfl⟩, fc_0, RX0, TX0, 3, rfl, rfl, rfl⟩, fun _ h => absurd h List.not_mem_nil⟩⟩
theorem PL1_ok : ∀ q ∈ PL1, FG (ownS 1) q.1 (q.2 / 32) (q.2 % 32) ∧ FI (q.2 / 32) (q.2 % 32) := List.forall_mem_cons.mpr ⟨⟨⟨RX1, TX1, 6, rfl, Nat.le_of_ble_eq_true rfl, gw_at 289 (by decide +kernel) rfl, uw_1, rfl⟩, fc_1, RX1, TX1, 6, rfl, rfl, rfl⟩, List.forall_mem_cons.mpr ⟨⟨⟨RX1, TX1, 6, rfl, Nat.le_of_ble_eq_true rfl, gw_at 291 (by decide +kernel) rfl, uw_1, rfl⟩, fc_1, RX1, TX1, 6, rfl, rfl, rfl⟩, List.forall_mem_cons.mpr ⟨⟨⟨RX1, TX1, 6, rfl, Nat.le_of_ble_eq_true rfl, gw_at 292 (by decide +kernel) rfl, uw_1, rfl⟩, fc_1, RX1, TX1, 6, rfl, rfl, rfl⟩, List.forall_mem_cons.mpr ⟨⟨⟨RX1, TX1, 6, rfl, Nat.le_of_ble_eq_true rfl, gw_at 293 (by decide +kernel) rfl, uw_1, rfl⟩, fc_1, RX1, TX1, 6, rfl, rfl, rfl⟩, List.forall_mem_cons.mpr ⟨⟨⟨RX1, TX1, 6, rfl, Nat.le_of_ble_eq_true rfl, gw_at 294 (by decide +kernel) rfl, uw_1, rfl⟩, fc_1, RX1, TX1, 6, rfl, rfl, rfl⟩, fun _ h => absurd h List.not_mem_nil⟩⟩⟩⟩⟩
theorem PL2_ok : ∀ q ∈ PL2, FG (ownS 2) q.1 (q.2 / 32) (q.2 % 32) ∧ FI (q.2 / 32) (q.2 % 32) := List.forall_mem_cons.mpr ⟨⟨⟨RX2, TX2, 14, rfl, Nat.le_of_ble_eq_true rfl, gw_at 147 (by decide +kernel) rfl, uw_2, rfl⟩, fc_2, RX2, TX2, 14, rfl, rfl, rfl⟩, List.forall_mem_cons.mpr ⟨⟨⟨RX2, TX2, 14, rfl, Nat.le_of_ble_eq_true rfl, gw_at 151 (by decide +kernel) rfl, uw_2, rfl⟩, fc_2, RX2, TX2, 14, rfl, rfl, rfl⟩, List.forall_mem_cons.mpr ⟨⟨⟨RX2, TX2, 14, rfl, Nat.le_of_ble_eq_true rfl, gw_at 155 (by decide +kernel) rfl, uw_2, rfl⟩, fc_2, RX2, TX2, 14, rfl, rfl, rfl⟩, List.forall_mem_cons.mpr ⟨⟨⟨RX2, TX2, 14, rfl, Nat.le_of_ble_eq_true rfl, gw_at 158 (by decide +kernel) rfl, uw_2, rfl⟩, fc_2, RX2, TX2, 14, rfl, rfl, rfl⟩, List.forall_mem_cons.mpr ⟨⟨⟨RX2, TX2, 14, rfl, Nat.le_of_ble_eq_true rfl, gw_at 160 (by decide +kernel) rfl, uw_2, rfl⟩, fc_2, RX2, TX2, 14, rfl, rfl, rfl⟩, List.forall_mem_cons.mpr ⟨⟨⟨RX2, TX2, 14, rfl, Nat.le_of_ble_eq_true rfl, gw_at 162 (by decide +kernel) rfl, uw_2, rfl⟩, fc_2, RX2, TX2, 14, rfl, rfl, rfl⟩, List.forall_mem_cons.mpr ⟨⟨⟨RX2, TX2, 14, rfl, Nat.le_of_ble_eq_true rfl, gw_at 164 (by decide +kernel) rfl, uw_2, rfl⟩, fc_2, RX2, TX2, 14, rfl, rfl, rfl⟩, List.forall_mem_cons.mpr ⟨⟨⟨RX2, TX2, 14, rfl, Nat.le_of_ble_eq_true rfl, gw_at 166 (by decide +kernel) rfl, uw_2, rfl⟩, fc_2, RX2, TX2, 14, rfl, rfl, rfl⟩, fun _ h => absurd h List.not_mem_nil⟩⟩⟩⟩⟩⟩⟩⟩
theorem PL3_ok : ∀ q ∈ PL3, FG (ownS 3) q.1 (q.2 / 32) (q.2 % 32) ∧ FI (q.2 / 32) (q.2 % 32) := List.forall_mem_cons.mpr ⟨⟨⟨RX3, TX3, 3, rfl, Nat.le_of_ble_eq_true rfl, gw_at 272 (by decide +kernel) rfl, uw_3, rfl⟩, fc_3, RX3, TX3, 3, rfl, rfl, rfl⟩, fun _ h => absurd h List.not_mem_nil⟩
theorem PL4_ok : ∀ q ∈ PL4, FG (ownS 4) q.1 (q.2 / 32) (q.2 % 32) ∧ FI (q.2 / 32) (q.2 % 32) := fun _ h => absurd h List.not_mem_nil
theorem PL5_ok : ∀ q ∈ PL5, FG (ownS 5) q.1 (q.2 / 32) (q.2 % 32) ∧ FI (q.2 / 32) (q.2 % 32) := List.forall_mem_cons.mpr ⟨⟨⟨RX2, TX2, 14, rfl, Nat.le_of_ble_eq_true rfl, gw_at 148 (by decide +kernel) rfl, uw_2, rfl⟩, fc_2, RX2, TX2, 14, rfl, rfl, rfl⟩, List.forall_mem_cons.mpr ⟨⟨⟨RX2, TX2, 14, rfl, Nat.le_of_ble_eq_true rfl, gw_at 152 (by decide +kernel) rfl, uw_2, rfl⟩, fc_2, RX2, TX2, 14, rfl, rfl, rfl⟩, List.forall_mem_cons.mpr ⟨⟨⟨RX2, TX2, 14, rfl, Nat.le_of_ble_eq_true rfl, gw_at 156 (by decide +kernel) rfl, uw_2, rfl⟩, fc_2, RX2, TX2, 14, rfl, rfl, rfl⟩, List.forall_mem_cons.mpr ⟨⟨⟨RX5, TX5, 6, rfl, Nat.le_of_ble_eq_true rfl, gw_at 246 (by decide +kernel) rfl, uw_5, rfl⟩, fc_5, RX5, TX5, 6, rfl, rfl, rfl⟩, List.forall_mem_cons.mpr ⟨⟨⟨RX5, TX5, 6, rfl, Nat.le_of_ble_eq_true rfl, gw_at 248 (by decide +kernel) rfl, uw_5, rfl⟩, fc_5, RX5, TX5, 6, rfl, rfl, rfl⟩, fun _ h => absurd h List.not_mem_nil⟩⟩⟩⟩⟩
theorem PL6_ok : ∀ q ∈ PL6, FG (ownS 6) q.1 (q.2 / 32) (q.2 % 32) ∧ FI (q.2 / 32) (q.2 % 32) := List.forall_mem_cons.mpr ⟨⟨⟨RX6, TX6, 7, rfl, Nat.le_of_ble_eq_true rfl, gw_at 117 (by decide +kernel) rfl, uw_6, rfl⟩, fc_6, RX6, TX6, 7, rfl, rfl, rfl⟩, List.forall_mem_cons.mpr ⟨⟨⟨RX6, TX6, 7, rfl, Nat.le_of_ble_eq_true rfl, gw_at 120 (by decide +kernel) rfl, uw_6, rfl⟩, fc_6, RX6, TX6, 7, rfl, rfl, rfl⟩, List.forall_mem_cons.mpr ⟨⟨⟨RX6, TX6, 7, rfl, Nat.le_of_ble_eq_true rfl, gw_at 122 (by decide +kernel) rfl, uw_6, rfl⟩, fc_6, RX6, TX6, 7, rfl, rfl, rfl⟩, List.forall_mem_cons.mpr ⟨⟨⟨RX6, TX6, 7, rfl, Nat.le_of_ble_eq_true rfl, gw_at 123 (by decide +kernel) rfl, uw_6, rfl⟩, fc_6, RX6, TX6, 7, rfl, rfl, rfl⟩, List.forall_mem_cons.mpr ⟨⟨⟨RX6, TX6, 7, rfl, Nat.le_of_ble_eq_true rfl, gw_at 124 (by decide +kernel) rfl, uw_6, rfl⟩, fc_6, RX6, TX6, 7, rfl, rfl, rfl⟩, List.forall_mem_cons.mpr ⟨⟨⟨RX6, TX6, 7, rfl, Nat.le_of_ble_eq_true rfl, gw_at 125 (by decide +kernel) rfl, uw_6, rfl⟩, fc_6, RX6, TX6, 7, rfl, rfl, rfl⟩, List.forall_mem_cons.mpr ⟨⟨⟨RX2, TX2, 14, rfl, Nat.le_of_ble_eq_true rfl, gw_at 149 (by decide +kernel) rfl, uw_2, rfl⟩, fc_2, RX2, TX2, 14, rfl, rfl, rfl⟩, List.forall_mem_cons.mpr ⟨⟨⟨RX2, TX2, 14, rfl, Nat.le_of_ble_eq_true rfl, gw_at 153 (by decide +kernel) rfl, uw_2, rfl⟩, fc_2, RX2, TX2, 14, rfl, rfl, rfl⟩, List.forall_mem_cons.mpr ⟨⟨⟨RX2, TX2, 14, rfl, Nat.le_of_ble_eq_true rfl, gw_at 161 (by decide +kernel) rfl, uw_2, rfl⟩, fc_2, RX2, TX2, 14, rfl, rfl, rfl⟩, List.forall_mem_cons.mpr ⟨⟨⟨RX2, TX2, 14, rfl, Nat.le_of_ble_eq_true rfl, gw_at 163 (by decide +kernel) rfl, uw_2, rfl⟩, fc_2, RX2, TX2, 14, rfl, rfl, rfl⟩, List.forall_mem_cons.mpr ⟨⟨⟨RX2, TX2, 14, rfl, Nat.le_of_ble_eq_true rfl, gw_at 165 (by decide +kernel) rfl, uw_2, rfl⟩, fc_2, RX2, TX2, 14, rfl, rfl, rfl⟩, List.forall_mem_cons.mpr ⟨⟨⟨RX2, TX2, 14, rfl, Nat.le_of_ble_eq_true rfl, gw_at 167 (by decide +kernel) rfl, uw_2, rfl⟩, fc_2, RX2, TX2, 14, rfl, rfl, rfl⟩, fun _ h => absurd h List.not_mem_nil⟩⟩⟩⟩⟩⟩⟩⟩⟩⟩⟩⟩
theorem PL7_ok : ∀ q ∈ PL7, FG (ownS 7) q.1 (q.2 / 32) (q.2 % 32) ∧ FI (q.2 / 32) (q.2 % 32) := List.forall_mem_cons.mpr ⟨⟨⟨RX6, TX6, 7, rfl, Nat.le_of_ble_eq_true rfl, gw_at 118 (by decide +kernel) rfl, uw_6, rfl⟩, fc_6, RX6, TX6, 7, rfl, rfl, rfl⟩, List.forall_mem_cons.mpr ⟨⟨⟨RX6, TX6, 7, rfl, Nat.le_of_ble_eq_true rfl, gw_at 119 (by decide +kernel) rfl, uw_6, rfl⟩, fc_6, RX6, TX6, 7, rfl, rfl, rfl⟩, List.forall_mem_cons.mpr ⟨⟨⟨RX6, TX6, 7, rfl, Nat.le_of_ble_eq_true rfl, gw_at 121 (by decide +kernel) rfl, uw_6, rfl⟩, fc_6, RX6, TX6, 7, rfl, rfl, rfl⟩, List.forall_mem_cons.mpr ⟨⟨⟨RX2, TX2, 14, rfl, Nat.le_of_ble_eq_true rfl, gw_at 150 (by decide +kernel) rfl, uw_2, rfl⟩, fc_2, RX2, TX2, 14, rfl, rfl, rfl⟩, List.forall_mem_cons.mpr ⟨⟨⟨RX2, TX2, 14, rfl, Nat.le_of_ble_eq_true rfl, gw_at 154 (by decide +kernel) rfl, uw_2, rfl⟩, fc_2, RX2, TX2, 14, rfl, rfl, rfl⟩, List.forall_mem_cons.mpr ⟨⟨⟨RX2, TX2, 14, rfl, Nat.le_of_ble_eq_true rfl, gw_at 157 (by decide +kernel) rfl, uw_2, rfl⟩, fc_2, RX2, TX2, 14, rfl, rfl, rfl⟩, List.forall_mem_cons.mpr ⟨⟨⟨RX2, TX2, 14, rfl, Nat.le_of_ble_eq_true rfl, gw_at 159 (by decide +kernel) rfl, uw_2, rfl⟩, fc_2, RX2, TX2, 14, rfl, rfl, rfl⟩, List.forall_mem_cons.mpr ⟨⟨⟨RX2, TX2, 14, rfl, Nat.le_of_ble_eq_true rfl, gw_at 168 (by decide +kernel) rfl, uw_2, rfl⟩, fc_2, RX2, TX2, 14, rfl, rfl, rfl⟩, List.forall_mem_cons.mpr ⟨⟨⟨RX0, TX0, 3, rfl, Nat.le_of_ble_eq_true rfl, gw_at 226 (by decide +kernel) rfl, uw_0, rfl⟩, fc_0, RX0, TX0, 3, rfl, rfl, rfl⟩, List.forall_mem_cons.mpr ⟨⟨⟨RX5, TX5, 6, rfl, Nat.le_of_ble_eq_true rfl, gw_at 247 (by decide +kernel) rfl, uw_5, rfl⟩, fc_5, RX5, TX5, 6, rfl, rfl, rfl⟩, List.forall_mem_cons.mpr ⟨⟨⟨RX5, TX5, 6, rfl, Nat.le_of_ble_eq_true rfl, gw_at 249 (by decide +kernel) rfl, uw_5, rfl⟩, fc_5, RX5, TX5, 6, rfl, rfl, rfl⟩, List.forall_mem_cons.mpr ⟨⟨⟨RX3, TX3, 3, rfl, Nat.le_of_ble_eq_true rfl, gw_at 273 (by decide +kernel) rfl, uw_3, rfl⟩, fc_3, RX3, TX3, 3, rfl, rfl, rfl⟩, List.forall_mem_cons.mpr ⟨⟨⟨RX1, TX1, 6, rfl, Nat.le_of_ble_eq_true rfl, gw_at 290 (by decide +kernel) rfl, uw_1, rfl⟩, fc_1, RX1, TX1, 6, rfl, rfl, rfl⟩, List.forall_mem_cons.mpr ⟨⟨⟨RX7, TX7, 11, rfl, Nat.le_of_ble_eq_true rfl, gw_at 318 (by decide +kernel) rfl, uw_7, rfl⟩, fc_7, RX7, TX7, 11, rfl, rfl, rfl⟩, List.forall_mem_cons.mpr ⟨⟨⟨RX7, TX7, 11, rfl, Nat.le_of_ble_eq_true rfl, gw_at 319 (by decide +kernel) rfl, uw_7, rfl⟩, fc_7, RX7, TX7, 11, rfl, rfl, rfl⟩, fun _ h => absurd h List.not_mem_nil⟩⟩⟩⟩⟩⟩⟩⟩⟩⟩⟩⟩⟩⟩⟩
theorem PL8_ok : ∀ q ∈ PL8, FG (ownS 8) q.1 (q.2 / 32) (q.2 % 32) ∧ FI (q.2 / 32) (q.2 % 32) := List.forall_mem_cons.mpr ⟨⟨⟨RX8, TX8, 26, rfl, Nat.le_of_ble_eq_true rfl, gw_at 874 (by decide +kernel) rfl, uw_8, rfl⟩, fc_8, RX8, TX8, 26, rfl, rfl, rfl⟩, List.forall_mem_cons.mpr ⟨⟨⟨RX8, TX8, 26, rfl, Nat.le_of_ble_eq_true rfl, gw_at 880 (by decide +kernel) rfl, uw_8, rfl⟩, fc_8, RX8, TX8, 26, rfl, rfl, rfl⟩, List.forall_mem_cons.mpr ⟨⟨⟨RX8, TX8, 26, rfl, Nat.le_of_ble_eq_true rfl, gw_at 882 (by decide +kernel) rfl, uw_8, rfl⟩, fc_8, RX8, TX8, 26, rfl, rfl, rfl⟩, List.forall_mem_cons.mpr ⟨⟨⟨RX8, TX8, 26, rfl, Nat.le_of_ble_eq_true rfl, gw_at 883 (by decide +kernel) rfl, uw_8, rfl⟩, fc_8, RX8, TX8, 26, rfl, rfl, rfl⟩, List.forall_mem_cons.mpr ⟨⟨⟨RX8, TX8, 26, rfl, Nat.le_of_ble_eq_true rfl, gw_at 884 (by decide +kernel) rfl, uw_8, rfl⟩, fc_8, RX8, TX8, 26, rfl, rfl, rfl⟩, List.forall_mem_cons.mpr ⟨⟨⟨RX8, TX8, 26, rfl, Nat.le_of_ble_eq_true rfl, gw_at 885 (by decide +kernel) rfl, uw_8, rfl⟩, fc_8, RX8, TX8, 26, rfl, rfl, rfl⟩, List.forall_mem_cons.mpr ⟨⟨⟨RX8, TX8, 26, rfl, Nat.le_of_ble_eq_true rfl, gw_at 886 (by decide +kernel) rfl, uw_8, rfl⟩, fc_8, RX8, TX8, 26, rfl, rfl, rfl⟩, List.forall_mem_cons.mpr ⟨⟨⟨RX8, TX8, 26, rfl, Nat.le_of_ble_eq_true rfl, gw_at 887 (by decide +kernel) rfl, uw_8, rfl⟩, fc_8, RX8, TX8, 26, rfl, rfl, rfl⟩, List.forall_mem_cons.mpr ⟨⟨⟨RX8, TX8, 26, rfl, Nat.le_of_ble_eq_true rfl, gw_at 888 (by decide +kernel) rfl, uw_8, rfl⟩, fc_8, RX8, TX8, 26, rfl, rfl, rfl⟩, List.forall_mem_cons.mpr ⟨⟨⟨RX8, TX8, 26, rfl, Nat.le_of_ble_eq_true rfl, gw_at 894 (by decide +kernel) rfl, uw_8, rfl⟩, fc_8, RX8, TX8, 26, rfl, rfl, rfl⟩, List.forall_mem_cons.mpr ⟨⟨⟨RX8, TX8, 26, rfl, Nat.le_of_ble_eq_true rfl, gw_at 895 (by decide +kernel) rfl, uw_8, rfl⟩, fc_8, RX8, TX8, 26, rfl, rfl, rfl⟩, List.forall_mem_cons.mpr ⟨⟨⟨RX8, TX8, 26, rfl, Nat.le_of_ble_eq_true rfl, gw_at 898 (by decide +kernel) rfl, uw_8, rfl⟩, fc_8, RX8, TX8, 26, rfl, rfl, rfl⟩, fun _ h => absurd h List.not_mem_nil⟩⟩⟩⟩⟩⟩⟩⟩⟩⟩⟩⟩
theorem PL9_ok : ∀ q ∈ PL9, FG (ownS 9) q.1 (q.2 / 32) (q.2 % 32) ∧ FI (q.2 / 32) (q.2 % 32) := fun _ h => absurd h List.not_mem_nil
theorem PL_ok : ∀ (oi : Nat) (q), q ∈ PL oi → FG (ownS oi) q.1 (q.2 / 32) (q.2 % 32) ∧ FI (q.2 / 32) (q.2 % 32) := fun oi q h => by
  match oi, h with
  | 0, h => exact PL0_ok q h
  | 1, h => exact PL1_ok q h
  | 2, h => exact PL2_ok q h
  | 3, h => exact PL3_ok q h
  | 4, h => exact PL4_ok q h
  | 5, h => exact PL5_ok q h
  | 6, h => exact PL6_ok q h
  | 7, h => exact PL7_ok q h
  | 8, h => exact PL8_ok q h
  | 9, h => exact PL9_ok q h
  | _ + 10, h => cases h
def CL0 : List (Nat × Int32) := []
def CL1 : List (Nat × Int32) := []
def CL2 : List (Nat × Int32) := []
def CL3 : List (Nat × Int32) := [(20, 2147483647)]
def CL4 : List (Nat × Int32) := []
def CL5 : List (Nat × Int32) := [(82, -1000000), (89, 2147483647)]
def CL6 : List (Nat × Int32) := []
def CL7 : List (Nat × Int32) := [(73, -1000001), (293, -1000010), (112, -1000003), (123, -1000100), (142, -1000002), (212, -1000000), (273, 999999)]
def CL8 : List (Nat × Int32) := [(70, -1000001), (57, -1000010), (91, -1000003), (152, -1000100), (182, -1000002), (220, -1000000), (226, 1000000000)]
def CL9 : List (Nat × Int32) := []
def CL (oi : Nat) : List (Nat × Int32) := match oi with | 0 => CL0 | 1 => CL1 | 2 => CL2 | 3 => CL3 | 4 => CL4 | 5 => CL5 | 6 => CL6 | 7 => CL7 | 8 => CL8 | 9 => CL9 | _ => []
theorem CL0_ok : ∀ q ∈ CL0, Cond.constant (ownS 0) q.1 q.2 ∈ gw := fun _ h => absurd h List.not_mem_nil
theorem CL1_ok : ∀ q ∈ CL1, Cond.constant (ownS 1) q.1 q.2 ∈ gw := fun _ h => absurd h List.not_mem_nil
theorem CL2_ok : ∀ q ∈ CL2, Cond.constant (ownS 2) q.1 q.2 ∈ gw := fun _ h => absurd h List.not_mem_nil
theorem CL3_ok : ∀ q ∈ CL3, Cond.constant (ownS 3) q.1 q.2 ∈ gw := List.forall_mem_cons.mpr ⟨gw_at 753 (by decide +kernel) rfl, fun _ h => absurd h List.not_mem_nil⟩
theorem CL4_ok : ∀ q ∈ CL4, Cond.constant (ownS 4) q.1 q.2 ∈ gw := fun _ h => absurd h List.not_mem_nil
theorem CL5_ok : ∀ q ∈ CL5, Cond.constant (ownS 5) q.1 q.2 ∈ gw := List.forall_mem_cons.mpr ⟨gw_at 672 (by decide +kernel) rfl, List.forall_mem_cons.mpr ⟨gw_at 696 (by decide +kernel) rfl, fun _ h => absurd h List.not_mem_nil⟩⟩
theorem CL6_ok : ∀ q ∈ CL6, Cond.constant (ownS 6) q.1 q.2 ∈ gw := fun _ h => absurd h List.not_mem_nil
theorem CL7_ok : ∀ q ∈ CL7, Cond.constant (ownS 7) q.1 q.2 ∈ gw := List.forall_mem_cons.mpr ⟨gw_at 354 (by decide +kernel) rfl, List.forall_mem_cons.mpr ⟨gw_at 359 (by decide +kernel) rfl, List.forall_mem_cons.mpr ⟨gw_at 415 (by decide +kernel) rfl, List.forall_mem_cons.mpr ⟨gw_at 506 (by decide +kernel) rfl, List.forall_mem_cons.mpr ⟨gw_at 532 (by decide +kernel) rfl, List.forall_mem_cons.mpr ⟨gw_at 660 (by decide +kernel) rfl, List.forall_mem_cons.mpr ⟨gw_at 797 (by decide +kernel) rfl, fun _ h => absurd h List.not_mem_nil⟩⟩⟩⟩⟩⟩⟩
theorem CL8_ok : ∀ q ∈ CL8, Cond.constant (ownS 8) q.1 q.2 ∈ gw := List.forall_mem_cons.mpr ⟨gw_at 965 (by decide +kernel) rfl, List.forall_mem_cons.mpr ⟨gw_at 970 (by decide +kernel) rfl, List.forall_mem_cons.mpr ⟨gw_at 999 (by decide +kernel) rfl, List.forall_mem_cons.mpr ⟨gw_at 1052 (by decide +kernel) rfl, List.forall_mem_cons.mpr ⟨gw_at 1061 (by decide +kernel) rfl, List.forall_mem_cons.mpr ⟨gw_at 1165 (by decide +kernel) rfl, List.forall_mem_cons.mpr ⟨gw_at 1182 (by decide +kernel) rfl, fun _ h => absurd h List.not_mem_nil⟩⟩⟩⟩⟩⟩⟩
theorem CL9_ok : ∀ q ∈ CL9, Cond.constant (ownS 9) q.1 q.2 ∈ gw := fun _ h => absurd h List.not_mem_nil
theorem CL_ok : ∀ (oi : Nat) (q), q ∈ CL oi → Cond.constant (ownS oi) q.1 q.2 ∈ gw := fun oi q h => by
  match oi, h with
  | 0, h => exact CL0_ok q h
  | 1, h => exact CL1_ok q h
  | 2, h => exact CL2_ok q h
  | 3, h => exact CL3_ok q h
  | 4, h => exact CL4_ok q h
  | 5, h => exact CL5_ok q h
  | 6, h => exact CL6_ok q h
  | 7, h => exact CL7_ok q h
  | 8, h => exact CL8_ok q h
  | 9, h => exact CL9_ok q h
  | _ + 10, h => cases h
def JL0 : List (Nat × Int32) := []
def JL1 : List (Nat × Int32) := []
def JL2 : List (Nat × Int32) := []
def JL3 : List (Nat × Int32) := []
def JL4 : List (Nat × Int32) := []
def JL5 : List (Nat × Int32) := [(134, 16807), (136, 2147483647), (138, 5)]
def JL6 : List (Nat × Int32) := []
def JL7 : List (Nat × Int32) := []
def JL8 : List (Nat × Int32) := [(58, 7), (68, 2), (86, 255), (95, 48), (97, 57), (186, 24), (200, 300), (202, 2500), (204, 9), (206, 40), (208, 99), (210, 3), (212, 200), (224, 10), (231, 6), (233, -1), (241, 100), (243, 999999), (245, 16807), (247, 2147483647), (249, 5)]
def JL9 : List (Nat × Int32) := []
def JL (oi : Nat) : List (Nat × Int32) := match oi with | 0 => JL0 | 1 => JL1 | 2 => JL2 | 3 => JL3 | 4 => JL4 | 5 => JL5 | 6 => JL6 | 7 => JL7 | 8 => JL8 | 9 => JL9 | _ => []
theorem JL0_ok : ∀ q ∈ JL0, Cond.constantLong (ownS 0) q.1 q.2.toInt64 ∈ gw := fun _ h => absurd h List.not_mem_nil
theorem JL1_ok : ∀ q ∈ JL1, Cond.constantLong (ownS 1) q.1 q.2.toInt64 ∈ gw := fun _ h => absurd h List.not_mem_nil
theorem JL2_ok : ∀ q ∈ JL2, Cond.constantLong (ownS 2) q.1 q.2.toInt64 ∈ gw := fun _ h => absurd h List.not_mem_nil
theorem JL3_ok : ∀ q ∈ JL3, Cond.constantLong (ownS 3) q.1 q.2.toInt64 ∈ gw := fun _ h => absurd h List.not_mem_nil
theorem JL4_ok : ∀ q ∈ JL4, Cond.constantLong (ownS 4) q.1 q.2.toInt64 ∈ gw := fun _ h => absurd h List.not_mem_nil
theorem JL5_ok : ∀ q ∈ JL5, Cond.constantLong (ownS 5) q.1 q.2.toInt64 ∈ gw := List.forall_mem_cons.mpr ⟨gw_at 802 (by decide +kernel) rfl, List.forall_mem_cons.mpr ⟨gw_at 803 (by decide +kernel) rfl, List.forall_mem_cons.mpr ⟨gw_at 804 (by decide +kernel) rfl, fun _ h => absurd h List.not_mem_nil⟩⟩⟩
theorem JL6_ok : ∀ q ∈ JL6, Cond.constantLong (ownS 6) q.1 q.2.toInt64 ∈ gw := fun _ h => absurd h List.not_mem_nil
theorem JL7_ok : ∀ q ∈ JL7, Cond.constantLong (ownS 7) q.1 q.2.toInt64 ∈ gw := fun _ h => absurd h List.not_mem_nil
theorem JL8_ok : ∀ q ∈ JL8, Cond.constantLong (ownS 8) q.1 q.2.toInt64 ∈ gw := List.forall_mem_cons.mpr ⟨gw_at 960 (by decide +kernel) rfl, List.forall_mem_cons.mpr ⟨gw_at 964 (by decide +kernel) rfl, List.forall_mem_cons.mpr ⟨gw_at 998 (by decide +kernel) rfl, List.forall_mem_cons.mpr ⟨gw_at 1028 (by decide +kernel) rfl, List.forall_mem_cons.mpr ⟨gw_at 1029 (by decide +kernel) rfl, List.forall_mem_cons.mpr ⟨gw_at 1070 (by decide +kernel) rfl, List.forall_mem_cons.mpr ⟨gw_at 1106 (by decide +kernel) rfl, List.forall_mem_cons.mpr ⟨gw_at 1107 (by decide +kernel) rfl, List.forall_mem_cons.mpr ⟨gw_at 1112 (by decide +kernel) rfl, List.forall_mem_cons.mpr ⟨gw_at 1117 (by decide +kernel) rfl, List.forall_mem_cons.mpr ⟨gw_at 1118 (by decide +kernel) rfl, List.forall_mem_cons.mpr ⟨gw_at 1127 (by decide +kernel) rfl, List.forall_mem_cons.mpr ⟨gw_at 1140 (by decide +kernel) rfl, List.forall_mem_cons.mpr ⟨gw_at 1177 (by decide +kernel) rfl, List.forall_mem_cons.mpr ⟨gw_at 1207 (by decide +kernel) rfl, List.forall_mem_cons.mpr ⟨gw_at 1208 (by decide +kernel) rfl, List.forall_mem_cons.mpr ⟨gw_at 1229 (by decide +kernel) rfl, List.forall_mem_cons.mpr ⟨gw_at 1230 (by decide +kernel) rfl, List.forall_mem_cons.mpr ⟨gw_at 1231 (by decide +kernel) rfl, List.forall_mem_cons.mpr ⟨gw_at 1232 (by decide +kernel) rfl, List.forall_mem_cons.mpr ⟨gw_at 1233 (by decide +kernel) rfl, fun _ h => absurd h List.not_mem_nil⟩⟩⟩⟩⟩⟩⟩⟩⟩⟩⟩⟩⟩⟩⟩⟩⟩⟩⟩⟩⟩
theorem JL9_ok : ∀ q ∈ JL9, Cond.constantLong (ownS 9) q.1 q.2.toInt64 ∈ gw := fun _ h => absurd h List.not_mem_nil
theorem JL_ok : ∀ (oi : Nat) (q), q ∈ JL oi → Cond.constantLong (ownS oi) q.1 q.2.toInt64 ∈ gw := fun oi q h => by
  match oi, h with
  | 0, h => exact JL0_ok q h
  | 1, h => exact JL1_ok q h
  | 2, h => exact JL2_ok q h
  | 3, h => exact JL3_ok q h
  | 4, h => exact JL4_ok q h
  | 5, h => exact JL5_ok q h
  | 6, h => exact JL6_ok q h
  | 7, h => exact JL7_ok q h
  | 8, h => exact JL8_ok q h
  | 9, h => exact JL9_ok q h
  | _ + 10, h => cases h
def VOK (own : String) (ix m : Nat) : Prop := ∃ q : MM, nth mil m = some q ∧ Cond.methodLink own ix q.1 ∈ gw
def VL0 : List (Nat × Nat) := [(28, 11), (24, 10)]
def VL1 : List (Nat × Nat) := [(42, 4), (46, 5), (49, 6), (63, 7)]
def VL2 : List (Nat × Nat) := [(61, 13), (73, 18), (76, 23), (79, 24), (82, 21), (85, 25), (65, 15)]
def VL3 : List (Nat × Nat) := [(25, 27), (35, 28), (45, 29)]
def VL4 : List (Nat × Nat) := [(30, 31)]
def VL5 : List (Nat × Nat) := [(28, 9), (32, 22), (39, 40), (43, 19), (47, 43), (51, 44), (90, 15), (94, 16), (98, 41), (102, 51), (116, 54), (123, 20), (126, 57), (130, 58)]
def VL6 : List (Nat × Nat) := [(22, 8), (27, 62), (40, 71), (64, 73), (125, 74), (75, 72), (44, 69), (107, 70), (31, 63), (34, 64), (81, 65), (37, 66), (96, 67), (99, 68), (111, 14), (114, 15), (103, 16)]
def VL7 : List (Nat × Nat) := [(65, 30), (74, 116), (78, 34), (82, 117), (85, 31), (88, 33), (91, 35), (95, 32), (98, 36), (102, 38), (105, 60), (113, 61), (127, 9), (131, 2), (136, 1), (143, 12), (150, 0), (153, 22), (156, 19), (160, 13), (167, 14), (171, 15), (175, 16), (181, 20), (191, 18), (194, 21), (197, 17), (201, 40), (205, 41), (209, 42), (219, 45), (223, 37), (229, 46), (233, 48), (236, 49), (239, 50), (242, 52), (252, 53), (256, 26), (266, 55), (269, 56), (274, 59), (278, 3), (287, 39)]
def VL8 : List (Nat × Nat) := [(71, 124), (75, 125), (78, 129), (146, 145), (134, 139), (114, 136), (92, 134), (117, 137), (111, 135), (137, 141), (124, 138), (140, 143), (143, 144), (183, 159), (188, 156), (191, 148), (171, 151), (168, 150), (162, 149), (194, 154), (197, 158), (178, 153), (174, 152), (214, 155), (217, 171), (227, 178), (235, 180), (238, 183), (278, 198), (257, 188), (272, 196), (266, 192), (269, 195), (263, 194), (260, 193), (275, 197), (281, 199), (284, 202)]
def VL9 : List (Nat × Nat) := [(13, 78), (18, 79), (22, 80), (27, 81), (32, 82), (36, 83), (41, 84), (45, 85), (49, 86), (53, 87), (58, 88), (62, 89), (66, 90), (70, 91), (74, 92), (78, 93), (82, 94), (86, 95), (90, 96), (94, 97), (98, 98), (102, 99), (106, 100), (110, 101), (114, 102), (118, 103), (123, 104), (127, 105), (131, 106), (135, 107), (139, 108), (143, 109), (147, 110), (151, 111), (155, 112), (159, 113), (163, 114), (167, 115), (17, 127), (21, 130), (26, 131), (31, 132), (35, 133), (40, 146), (44, 147), (48, 157), (52, 160), (57, 161), (61, 162), (65, 163), (69, 164), (73, 165), (77, 166), (81, 167), (85, 168), (89, 169), (93, 170), (97, 172), (101, 173), (105, 174), (109, 175), (113, 176), (117, 177), (122, 179), (126, 181), (130, 182), (134, 184), (138, 185), (142, 186), (146, 187), (150, 189), (154, 191), (158, 200), (162, 201), (166, 203), (170, 204)]
def VL (oi : Nat) : List (Nat × Nat) := match oi with | 0 => VL0 | 1 => VL1 | 2 => VL2 | 3 => VL3 | 4 => VL4 | 5 => VL5 | 6 => VL6 | 7 => VL7 | 8 => VL8 | 9 => VL9 | _ => []
theorem VL0_ok : ∀ q ∈ VL0, VOK (ownS 0) q.1 q.2 := List.forall_mem_cons.mpr ⟨⟨_, rfl, gw_at 528 (by decide +kernel) rfl⟩, List.forall_mem_cons.mpr ⟨⟨_, rfl, gw_at 545 (by decide +kernel) rfl⟩, fun _ h => absurd h List.not_mem_nil⟩⟩
theorem VL1_ok : ∀ q ∈ VL1, VOK (ownS 1) q.1 q.2 := List.forall_mem_cons.mpr ⟨⟨_, rfl, gw_at 829 (by decide +kernel) rfl⟩, List.forall_mem_cons.mpr ⟨⟨_, rfl, gw_at 836 (by decide +kernel) rfl⟩, List.forall_mem_cons.mpr ⟨⟨_, rfl, gw_at 842 (by decide +kernel) rfl⟩, List.forall_mem_cons.mpr ⟨⟨_, rfl, gw_at 846 (by decide +kernel) rfl⟩, fun _ h => absurd h List.not_mem_nil⟩⟩⟩⟩
theorem VL2_ok : ∀ q ∈ VL2, VOK (ownS 2) q.1 q.2 := List.forall_mem_cons.mpr ⟨⟨_, rfl, gw_at 494 (by decide +kernel) rfl⟩, List.forall_mem_cons.mpr ⟨⟨_, rfl, gw_at 553 (by decide +kernel) rfl⟩, List.forall_mem_cons.mpr ⟨⟨_, rfl, gw_at 557 (by decide +kernel) rfl⟩, List.forall_mem_cons.mpr ⟨⟨_, rfl, gw_at 561 (by decide +kernel) rfl⟩, List.forall_mem_cons.mpr ⟨⟨_, rfl, gw_at 565 (by decide +kernel) rfl⟩, List.forall_mem_cons.mpr ⟨⟨_, rfl, gw_at 569 (by decide +kernel) rfl⟩, List.forall_mem_cons.mpr ⟨⟨_, rfl, gw_at 614 (by decide +kernel) rfl⟩, fun _ h => absurd h List.not_mem_nil⟩⟩⟩⟩⟩⟩⟩
theorem VL3_ok : ∀ q ∈ VL3, VOK (ownS 3) q.1 q.2 := List.forall_mem_cons.mpr ⟨⟨_, rfl, gw_at 754 (by decide +kernel) rfl⟩, List.forall_mem_cons.mpr ⟨⟨_, rfl, gw_at 760 (by decide +kernel) rfl⟩, List.forall_mem_cons.mpr ⟨⟨_, rfl, gw_at 764 (by decide +kernel) rfl⟩, fun _ h => absurd h List.not_mem_nil⟩⟩⟩
theorem VL4_ok : ∀ q ∈ VL4, VOK (ownS 4) q.1 q.2 := List.forall_mem_cons.mpr ⟨⟨_, rfl, gw_at 862 (by decide +kernel) rfl⟩, fun _ h => absurd h List.not_mem_nil⟩
theorem VL5_ok : ∀ q ∈ VL5, VOK (ownS 5) q.1 q.2 := List.forall_mem_cons.mpr ⟨⟨_, rfl, gw_at 631 (by decide +kernel) rfl⟩, List.forall_mem_cons.mpr ⟨⟨_, rfl, gw_at 632 (by decide +kernel) rfl⟩, List.forall_mem_cons.mpr ⟨⟨_, rfl, gw_at 641 (by decide +kernel) rfl⟩, List.forall_mem_cons.mpr ⟨⟨_, rfl, gw_at 642 (by decide +kernel) rfl⟩, List.forall_mem_cons.mpr ⟨⟨_, rfl, gw_at 651 (by decide +kernel) rfl⟩, List.forall_mem_cons.mpr ⟨⟨_, rfl, gw_at 656 (by decide +kernel) rfl⟩, List.forall_mem_cons.mpr ⟨⟨_, rfl, gw_at 705 (by decide +kernel) rfl⟩, List.forall_mem_cons.mpr ⟨⟨_, rfl, gw_at 706 (by decide +kernel) rfl⟩, List.forall_mem_cons.mpr ⟨⟨_, rfl, gw_at 707 (by decide +kernel) rfl⟩, List.forall_mem_cons.mpr ⟨⟨_, rfl, gw_at 708 (by decide +kernel) rfl⟩, List.forall_mem_cons.mpr ⟨⟨_, rfl, gw_at 740 (by decide +kernel) rfl⟩, List.forall_mem_cons.mpr ⟨⟨_, rfl, gw_at 776 (by decide +kernel) rfl⟩, List.forall_mem_cons.mpr ⟨⟨_, rfl, gw_at 785 (by decide +kernel) rfl⟩, List.forall_mem_cons.mpr ⟨⟨_, rfl, gw_at 789 (by decide +kernel) rfl⟩, fun _ h => absurd h List.not_mem_nil⟩⟩⟩⟩⟩⟩⟩⟩⟩⟩⟩⟩⟩⟩
theorem VL6_ok : ∀ q ∈ VL6, VOK (ownS 6) q.1 q.2 := List.forall_mem_cons.mpr ⟨⟨_, rfl, gw_at 424 (by decide +kernel) rfl⟩, List.forall_mem_cons.mpr ⟨⟨_, rfl, gw_at 428 (by decide +kernel) rfl⟩, List.forall_mem_cons.mpr ⟨⟨_, rfl, gw_at 432 (by decide +kernel) rfl⟩, List.forall_mem_cons.mpr ⟨⟨_, rfl, gw_at 436 (by decide +kernel) rfl⟩, List.forall_mem_cons.mpr ⟨⟨_, rfl, gw_at 440 (by decide +kernel) rfl⟩, List.forall_mem_cons.mpr ⟨⟨_, rfl, gw_at 444 (by decide +kernel) rfl⟩, List.forall_mem_cons.mpr ⟨⟨_, rfl, gw_at 448 (by decide +kernel) rfl⟩, List.forall_mem_cons.mpr ⟨⟨_, rfl, gw_at 452 (by decide +kernel) rfl⟩, List.forall_mem_cons.mpr ⟨⟨_, rfl, gw_at 460 (by decide +kernel) rfl⟩, List.forall_mem_cons.mpr ⟨⟨_, rfl, gw_at 467 (by decide +kernel) rfl⟩, List.forall_mem_cons.mpr ⟨⟨_, rfl, gw_at 474 (by decide +kernel) rfl⟩, List.forall_mem_cons.mpr ⟨⟨_, rfl, gw_at 478 (by decide +kernel) rfl⟩, List.forall_mem_cons.mpr ⟨⟨_, rfl, gw_at 482 (by decide +kernel) rfl⟩, List.forall_mem_cons.mpr ⟨⟨_, rfl, gw_at 486 (by decide +kernel) rfl⟩, List.forall_mem_cons.mpr ⟨⟨_, rfl, gw_at 490 (by decide +kernel) rfl⟩, List.forall_mem_cons.mpr ⟨⟨_, rfl, gw_at 498 (by decide +kernel) rfl⟩, List.forall_mem_cons.mpr ⟨⟨_, rfl, gw_at 502 (by decide +kernel) rfl⟩, fun _ h => absurd h List.not_mem_nil⟩⟩⟩⟩⟩⟩⟩⟩⟩⟩⟩⟩⟩⟩⟩⟩⟩
theorem VL7_ok : ∀ q ∈ VL7, VOK (ownS 7) q.1 q.2 := List.forall_mem_cons.mpr ⟨⟨_, rfl, gw_at 347 (by decide +kernel) rfl⟩, List.forall_mem_cons.mpr ⟨⟨_, rfl, gw_at 355 (by decide +kernel) rfl⟩, List.forall_mem_cons.mpr ⟨⟨_, rfl, gw_at 360 (by decide +kernel) rfl⟩, List.forall_mem_cons.mpr ⟨⟨_, rfl, gw_at 364 (by decide +kernel) rfl⟩, List.forall_mem_cons.mpr ⟨⟨_, rfl, gw_at 372 (by decide +kernel) rfl⟩, List.forall_mem_cons.mpr ⟨⟨_, rfl, gw_at 376 (by decide +kernel) rfl⟩, List.forall_mem_cons.mpr ⟨⟨_, rfl, gw_at 380 (by decide +kernel) rfl⟩, List.forall_mem_cons.mpr ⟨⟨_, rfl, gw_at 388 (by decide +kernel) rfl⟩, List.forall_mem_cons.mpr ⟨⟨_, rfl, gw_at 392 (by decide +kernel) rfl⟩, List.forall_mem_cons.mpr ⟨⟨_, rfl, gw_at 403 (by decide +kernel) rfl⟩, List.forall_mem_cons.mpr ⟨⟨_, rfl, gw_at 411 (by decide +kernel) rfl⟩, List.forall_mem_cons.mpr ⟨⟨_, rfl, gw_at 420 (by decide +kernel) rfl⟩, List.forall_mem_cons.mpr ⟨⟨_, rfl, gw_at 507 (by decide +kernel) rfl⟩, List.forall_mem_cons.mpr ⟨⟨_, rfl, gw_at 512 (by decide +kernel) rfl⟩, List.forall_mem_cons.mpr ⟨⟨_, rfl, gw_at 524 (by decide +kernel) rfl⟩, List.forall_mem_cons.mpr ⟨⟨_, rfl, gw_at 537 (by decide +kernel) rfl⟩, List.forall_mem_cons.mpr ⟨⟨_, rfl, gw_at 541 (by decide +kernel) rfl⟩, List.forall_mem_cons.mpr ⟨⟨_, rfl, gw_at 549 (by decide +kernel) rfl⟩, List.forall_mem_cons.mpr ⟨⟨_, rfl, gw_at 576 (by decide +kernel) rfl⟩, List.forall_mem_cons.mpr ⟨⟨_, rfl, gw_at 584 (by decide +kernel) rfl⟩, List.forall_mem_cons.mpr ⟨⟨_, rfl, gw_at 589 (by decide +kernel) rfl⟩, List.forall_mem_cons.mpr ⟨⟨_, rfl, gw_at 590 (by decide +kernel) rfl⟩, List.forall_mem_cons.mpr ⟨⟨_, rfl, gw_at 591 (by decide +kernel) rfl⟩, List.forall_mem_cons.mpr ⟨⟨_, rfl, gw_at 600 (by decide +kernel) rfl⟩, List.forall_mem_cons.mpr ⟨⟨_, rfl, gw_at 608 (by decide +kernel) rfl⟩, List.forall_mem_cons.mpr ⟨⟨_, rfl, gw_at 609 (by decide +kernel) rfl⟩, List.forall_mem_cons.mpr ⟨⟨_, rfl, gw_at 610 (by decide +kernel) rfl⟩, List.forall_mem_cons.mpr ⟨⟨_, rfl, gw_at 627 (by decide +kernel) rfl⟩, List.forall_mem_cons.mpr ⟨⟨_, rfl, gw_at 637 (by decide +kernel) rfl⟩, List.forall_mem_cons.mpr ⟨⟨_, rfl, gw_at 647 (by decide +kernel) rfl⟩, List.forall_mem_cons.mpr ⟨⟨_, rfl, gw_at 665 (by decide +kernel) rfl⟩, List.forall_mem_cons.mpr ⟨⟨_, rfl, gw_at 677 (by decide +kernel) rfl⟩, List.forall_mem_cons.mpr ⟨⟨_, rfl, gw_at 681 (by decide +kernel) rfl⟩, List.forall_mem_cons.mpr ⟨⟨_, rfl, gw_at 692 (by decide +kernel) rfl⟩, List.forall_mem_cons.mpr ⟨⟨_, rfl, gw_at 701 (by decide +kernel) rfl⟩, List.forall_mem_cons.mpr ⟨⟨_, rfl, gw_at 716 (by decide +kernel) rfl⟩, List.forall_mem_cons.mpr ⟨⟨_, rfl, gw_at 724 (by decide +kernel) rfl⟩, List.forall_mem_cons.mpr ⟨⟨_, rfl, gw_at 736 (by decide +kernel) rfl⟩, List.forall_mem_cons.mpr ⟨⟨_, rfl, gw_at 749 (by decide +kernel) rfl⟩, List.forall_mem_cons.mpr ⟨⟨_, rfl, gw_at 772 (by decide +kernel) rfl⟩, List.forall_mem_cons.mpr ⟨⟨_, rfl, gw_at 781 (by decide +kernel) rfl⟩, List.forall_mem_cons.mpr ⟨⟨_, rfl, gw_at 798 (by decide +kernel) rfl⟩, List.forall_mem_cons.mpr ⟨⟨_, rfl, gw_at 825 (by decide +kernel) rfl⟩, List.forall_mem_cons.mpr ⟨⟨_, rfl, gw_at 858 (by decide +kernel) rfl⟩, fun _ h => absurd h List.not_mem_nil⟩⟩⟩⟩⟩⟩⟩⟩⟩⟩⟩⟩⟩⟩⟩⟩⟩⟩⟩⟩⟩⟩⟩⟩⟩⟩⟩⟩⟩⟩⟩⟩⟩⟩⟩⟩⟩⟩⟩⟩⟩⟩⟩⟩
theorem VL8_ok : ∀ q ∈ VL8, VOK (ownS 8) q.1 q.2 := List.forall_mem_cons.mpr ⟨⟨_, rfl, gw_at 966 (by decide +kernel) rfl⟩, List.forall_mem_cons.mpr ⟨⟨_, rfl, gw_at 971 (by decide +kernel) rfl⟩, List.forall_mem_cons.mpr ⟨⟨_, rfl, gw_at 979 (by decide +kernel) rfl⟩, List.forall_mem_cons.mpr ⟨⟨_, rfl, gw_at 1004 (by decide +kernel) rfl⟩, List.forall_mem_cons.mpr ⟨⟨_, rfl, gw_at 1008 (by decide +kernel) rfl⟩, List.forall_mem_cons.mpr ⟨⟨_, rfl, gw_at 1012 (by decide +kernel) rfl⟩, List.forall_mem_cons.mpr ⟨⟨_, rfl, gw_at 1016 (by decide +kernel) rfl⟩, List.forall_mem_cons.mpr ⟨⟨_, rfl, gw_at 1020 (by decide +kernel) rfl⟩, List.forall_mem_cons.mpr ⟨⟨_, rfl, gw_at 1024 (by decide +kernel) rfl⟩, List.forall_mem_cons.mpr ⟨⟨_, rfl, gw_at 1030 (by decide +kernel) rfl⟩, List.forall_mem_cons.mpr ⟨⟨_, rfl, gw_at 1037 (by decide +kernel) rfl⟩, List.forall_mem_cons.mpr ⟨⟨_, rfl, gw_at 1041 (by decide +kernel) rfl⟩, List.forall_mem_cons.mpr ⟨⟨_, rfl, gw_at 1048 (by decide +kernel) rfl⟩, List.forall_mem_cons.mpr ⟨⟨_, rfl, gw_at 1066 (by decide +kernel) rfl⟩, List.forall_mem_cons.mpr ⟨⟨_, rfl, gw_at 1071 (by decide +kernel) rfl⟩, List.forall_mem_cons.mpr ⟨⟨_, rfl, gw_at 1075 (by decide +kernel) rfl⟩, List.forall_mem_cons.mpr ⟨⟨_, rfl, gw_at 1079 (by decide +kernel) rfl⟩, List.forall_mem_cons.mpr ⟨⟨_, rfl, gw_at 1083 (by decide +kernel) rfl⟩, List.forall_mem_cons.mpr ⟨⟨_, rfl, gw_at 1087 (by decide +kernel) rfl⟩, List.forall_mem_cons.mpr ⟨⟨_, rfl, gw_at 1094 (by decide +kernel) rfl⟩, List.forall_mem_cons.mpr ⟨⟨_, rfl, gw_at 1102 (by decide +kernel) rfl⟩, List.forall_mem_cons.mpr ⟨⟨_, rfl, gw_at 1141 (by decide +kernel) rfl⟩, List.forall_mem_cons.mpr ⟨⟨_, rfl, gw_at 1145 (by decide +kernel) rfl⟩, List.forall_mem_cons.mpr ⟨⟨_, rfl, gw_at 1153 (by decide +kernel) rfl⟩, List.forall_mem_cons.mpr ⟨⟨_, rfl, gw_at 1161 (by decide +kernel) rfl⟩, List.forall_mem_cons.mpr ⟨⟨_, rfl, gw_at 1199 (by decide +kernel) rfl⟩, List.forall_mem_cons.mpr ⟨⟨_, rfl, gw_at 1209 (by decide +kernel) rfl⟩, List.forall_mem_cons.mpr ⟨⟨_, rfl, gw_at 1221 (by decide +kernel) rfl⟩, List.forall_mem_cons.mpr ⟨⟨_, rfl, gw_at 1257 (by decide +kernel) rfl⟩, List.forall_mem_cons.mpr ⟨⟨_, rfl, gw_at 1261 (by decide +kernel) rfl⟩, List.forall_mem_cons.mpr ⟨⟨_, rfl, gw_at 1265 (by decide +kernel) rfl⟩, List.forall_mem_cons.mpr ⟨⟨_, rfl, gw_at 1269 (by decide +kernel) rfl⟩, List.forall_mem_cons.mpr ⟨⟨_, rfl, gw_at 1273 (by decide +kernel) rfl⟩, List.forall_mem_cons.mpr ⟨⟨_, rfl, gw_at 1277 (by decide +kernel) rfl⟩, List.forall_mem_cons.mpr ⟨⟨_, rfl, gw_at 1281 (by decide +kernel) rfl⟩, List.forall_mem_cons.mpr ⟨⟨_, rfl, gw_at 1285 (by decide +kernel) rfl⟩, List.forall_mem_cons.mpr ⟨⟨_, rfl, gw_at 1289 (by decide +kernel) rfl⟩, List.forall_mem_cons.mpr ⟨⟨_, rfl, gw_at 1301 (by decide +kernel) rfl⟩, fun _ h => absurd h List.not_mem_nil⟩⟩⟩⟩⟩⟩⟩⟩⟩⟩⟩⟩⟩⟩⟩⟩⟩⟩⟩⟩⟩⟩⟩⟩⟩⟩⟩⟩⟩⟩⟩⟩⟩⟩⟩⟩⟩⟩
theorem VL9_ok : ∀ q ∈ VL9, VOK (ownS 9) q.1 q.2 := List.forall_mem_cons.mpr ⟨⟨_, rfl, gw_at 343 (by decide +kernel) rfl⟩, List.forall_mem_cons.mpr ⟨⟨_, rfl, gw_at 368 (by decide +kernel) rfl⟩, List.forall_mem_cons.mpr ⟨⟨_, rfl, gw_at 384 (by decide +kernel) rfl⟩, List.forall_mem_cons.mpr ⟨⟨_, rfl, gw_at 399 (by decide +kernel) rfl⟩, List.forall_mem_cons.mpr ⟨⟨_, rfl, gw_at 407 (by decide +kernel) rfl⟩, List.forall_mem_cons.mpr ⟨⟨_, rfl, gw_at 416 (by decide +kernel) rfl⟩, List.forall_mem_cons.mpr ⟨⟨_, rfl, gw_at 516 (by decide +kernel) rfl⟩, List.forall_mem_cons.mpr ⟨⟨_, rfl, gw_at 520 (by decide +kernel) rfl⟩, List.forall_mem_cons.mpr ⟨⟨_, rfl, gw_at 533 (by decide +kernel) rfl⟩, List.forall_mem_cons.mpr ⟨⟨_, rfl, gw_at 580 (by decide +kernel) rfl⟩, List.forall_mem_cons.mpr ⟨⟨_, rfl, gw_at 585 (by decide +kernel) rfl⟩, List.forall_mem_cons.mpr ⟨⟨_, rfl, gw_at 592 (by decide +kernel) rfl⟩, List.forall_mem_cons.mpr ⟨⟨_, rfl, gw_at 596 (by decide +kernel) rfl⟩, List.forall_mem_cons.mpr ⟨⟨_, rfl, gw_at 604 (by decide +kernel) rfl⟩, List.forall_mem_cons.mpr ⟨⟨_, rfl, gw_at 615 (by decide +kernel) rfl⟩, List.forall_mem_cons.mpr ⟨⟨_, rfl, gw_at 619 (by decide +kernel) rfl⟩, List.forall_mem_cons.mpr ⟨⟨_, rfl, gw_at 623 (by decide +kernel) rfl⟩, List.forall_mem_cons.mpr ⟨⟨_, rfl, gw_at 633 (by decide +kernel) rfl⟩, List.forall_mem_cons.mpr ⟨⟨_, rfl, gw_at 643 (by decide +kernel) rfl⟩, List.forall_mem_cons.mpr ⟨⟨_, rfl, gw_at 661 (by decide +kernel) rfl⟩, List.forall_mem_cons.mpr ⟨⟨_, rfl, gw_at 673 (by decide +kernel) rfl⟩, List.forall_mem_cons.mpr ⟨⟨_, rfl, gw_at 688 (by decide +kernel) rfl⟩, List.forall_mem_cons.mpr ⟨⟨_, rfl, gw_at 697 (by decide +kernel) rfl⟩, List.forall_mem_cons.mpr ⟨⟨_, rfl, gw_at 712 (by decide +kernel) rfl⟩, List.forall_mem_cons.mpr ⟨⟨_, rfl, gw_at 720 (by decide +kernel) rfl⟩, List.forall_mem_cons.mpr ⟨⟨_, rfl, gw_at 731 (by decide +kernel) rfl⟩, List.forall_mem_cons.mpr ⟨⟨_, rfl, gw_at 745 (by decide +kernel) rfl⟩, List.forall_mem_cons.mpr ⟨⟨_, rfl, gw_at 768 (by decide +kernel) rfl⟩, List.forall_mem_cons.mpr ⟨⟨_, rfl, gw_at 777 (by decide +kernel) rfl⟩, List.forall_mem_cons.mpr ⟨⟨_, rfl, gw_at 793 (by decide +kernel) rfl⟩, List.forall_mem_cons.mpr ⟨⟨_, rfl, gw_at 805 (by decide +kernel) rfl⟩, List.forall_mem_cons.mpr ⟨⟨_, rfl, gw_at 809 (by decide +kernel) rfl⟩, List.forall_mem_cons.mpr ⟨⟨_, rfl, gw_at 813 (by decide +kernel) rfl⟩, List.forall_mem_cons.mpr ⟨⟨_, rfl, gw_at 817 (by decide +kernel) rfl⟩, List.forall_mem_cons.mpr ⟨⟨_, rfl, gw_at 821 (by decide +kernel) rfl⟩, List.forall_mem_cons.mpr ⟨⟨_, rfl, gw_at 850 (by decide +kernel) rfl⟩, List.forall_mem_cons.mpr ⟨⟨_, rfl, gw_at 854 (by decide +kernel) rfl⟩, List.forall_mem_cons.mpr ⟨⟨_, rfl, gw_at 863 (by decide +kernel) rfl⟩, List.forall_mem_cons.mpr ⟨⟨_, rfl, gw_at 953 (by decide +kernel) rfl⟩, List.forall_mem_cons.mpr ⟨⟨_, rfl, gw_at 975 (by decide +kernel) rfl⟩, List.forall_mem_cons.mpr ⟨⟨_, rfl, gw_at 986 (by decide +kernel) rfl⟩, List.forall_mem_cons.mpr ⟨⟨_, rfl, gw_at 990 (by decide +kernel) rfl⟩, List.forall_mem_cons.mpr ⟨⟨_, rfl, gw_at 994 (by decide +kernel) rfl⟩, List.forall_mem_cons.mpr ⟨⟨_, rfl, gw_at 1000 (by decide +kernel) rfl⟩, List.forall_mem_cons.mpr ⟨⟨_, rfl, gw_at 1053 (by decide +kernel) rfl⟩, List.forall_mem_cons.mpr ⟨⟨_, rfl, gw_at 1057 (by decide +kernel) rfl⟩, List.forall_mem_cons.mpr ⟨⟨_, rfl, gw_at 1062 (by decide +kernel) rfl⟩, List.forall_mem_cons.mpr ⟨⟨_, rfl, gw_at 1098 (by decide +kernel) rfl⟩, List.forall_mem_cons.mpr ⟨⟨_, rfl, gw_at 1108 (by decide +kernel) rfl⟩, List.forall_mem_cons.mpr ⟨⟨_, rfl, gw_at 1113 (by decide +kernel) rfl⟩, List.forall_mem_cons.mpr ⟨⟨_, rfl, gw_at 1119 (by decide +kernel) rfl⟩, List.forall_mem_cons.mpr ⟨⟨_, rfl, gw_at 1123 (by decide +kernel) rfl⟩, List.forall_mem_cons.mpr ⟨⟨_, rfl, gw_at 1128 (by decide +kernel) rfl⟩, List.forall_mem_cons.mpr ⟨⟨_, rfl, gw_at 1132 (by decide +kernel) rfl⟩, List.forall_mem_cons.mpr ⟨⟨_, rfl, gw_at 1136 (by decide +kernel) rfl⟩, List.forall_mem_cons.mpr ⟨⟨_, rfl, gw_at 1149 (by decide +kernel) rfl⟩, List.forall_mem_cons.mpr ⟨⟨_, rfl, gw_at 1157 (by decide +kernel) rfl⟩, List.forall_mem_cons.mpr ⟨⟨_, rfl, gw_at 1166 (by decide +kernel) rfl⟩, List.forall_mem_cons.mpr ⟨⟨_, rfl, gw_at 1173 (by decide +kernel) rfl⟩, List.forall_mem_cons.mpr ⟨⟨_, rfl, gw_at 1178 (by decide +kernel) rfl⟩, List.forall_mem_cons.mpr ⟨⟨_, rfl, gw_at 1183 (by decide +kernel) rfl⟩, List.forall_mem_cons.mpr ⟨⟨_, rfl, gw_at 1187 (by decide +kernel) rfl⟩, List.forall_mem_cons.mpr ⟨⟨_, rfl, gw_at 1191 (by decide +kernel) rfl⟩, List.forall_mem_cons.mpr ⟨⟨_, rfl, gw_at 1195 (by decide +kernel) rfl⟩, List.forall_mem_cons.mpr ⟨⟨_, rfl, gw_at 1203 (by decide +kernel) rfl⟩, List.forall_mem_cons.mpr ⟨⟨_, rfl, gw_at 1213 (by decide +kernel) rfl⟩, List.forall_mem_cons.mpr ⟨⟨_, rfl, gw_at 1217 (by decide +kernel) rfl⟩, List.forall_mem_cons.mpr ⟨⟨_, rfl, gw_at 1225 (by decide +kernel) rfl⟩, List.forall_mem_cons.mpr ⟨⟨_, rfl, gw_at 1234 (by decide +kernel) rfl⟩, List.forall_mem_cons.mpr ⟨⟨_, rfl, gw_at 1238 (by decide +kernel) rfl⟩, List.forall_mem_cons.mpr ⟨⟨_, rfl, gw_at 1242 (by decide +kernel) rfl⟩, List.forall_mem_cons.mpr ⟨⟨_, rfl, gw_at 1246 (by decide +kernel) rfl⟩, List.forall_mem_cons.mpr ⟨⟨_, rfl, gw_at 1253 (by decide +kernel) rfl⟩, List.forall_mem_cons.mpr ⟨⟨_, rfl, gw_at 1293 (by decide +kernel) rfl⟩, List.forall_mem_cons.mpr ⟨⟨_, rfl, gw_at 1297 (by decide +kernel) rfl⟩, List.forall_mem_cons.mpr ⟨⟨_, rfl, gw_at 1305 (by decide +kernel) rfl⟩, fun _ h => absurd h List.not_mem_nil⟩⟩⟩⟩⟩⟩⟩⟩⟩⟩⟩⟩⟩⟩⟩⟩⟩⟩⟩⟩⟩⟩⟩⟩⟩⟩⟩⟩⟩⟩⟩⟩⟩⟩⟩⟩⟩⟩⟩⟩⟩⟩⟩⟩⟩⟩⟩⟩⟩⟩⟩⟩⟩⟩⟩⟩⟩⟩⟩⟩⟩⟩⟩⟩⟩⟩⟩⟩⟩⟩⟩⟩⟩⟩⟩⟩
theorem VL_ok : ∀ (oi : Nat) (q), q ∈ VL oi → VOK (ownS oi) q.1 q.2 := fun oi q h => by
  match oi, h with
  | 0, h => exact VL0_ok q h
  | 1, h => exact VL1_ok q h
  | 2, h => exact VL2_ok q h
  | 3, h => exact VL3_ok q h
  | 4, h => exact VL4_ok q h
  | 5, h => exact VL5_ok q h
  | 6, h => exact VL6_ok q h
  | 7, h => exact VL7_ok q h
  | 8, h => exact VL8_ok q h
  | 9, h => exact VL9_ok q h
  | _ + 10, h => cases h
def SOK (own : String) (ix m : Nat) : Prop := ∃ q : MM, nth mil m = some q ∧ ((q.1.cls = own ∧ Cond.methodLink own ix q.1 ∈ gw) ∨ (own, ix, q.1, RX7) ∈ nestT)
def SL0 : List (Nat × Nat) := []
def SL1 : List (Nat × Nat) := [(53, 118)]
def SL2 : List (Nat × Nat) := [(69, 119)]
def SL3 : List (Nat × Nat) := []
def SL4 : List (Nat × Nat) := []
def SL5 : List (Nat × Nat) := [(83, 47), (112, 120), (120, 119)]
def SL6 : List (Nat × Nat) := [(128, 75), (121, 118), (68, 76), (78, 77)]
def SL7 : List (Nat × Nat) := [(69, 118), (249, 120)]
def SL8 : List (Nat × Nat) := [(64, 126), (60, 121), (82, 128), (121, 140), (128, 142), (165, 123), (221, 122), (254, 190)]
def SL9 : List (Nat × Nat) := []
def SL (oi : Nat) : List (Nat × Nat) := match oi with | 0 => SL0 | 1 => SL1 | 2 => SL2 | 3 => SL3 | 4 => SL4 | 5 => SL5 | 6 => SL6 | 7 => SL7 | 8 => SL8 | 9 => SL9 | _ => []
theorem SL0_ok : ∀ q ∈ SL0, SOK (ownS 0) q.1 q.2 := fun _ h => absurd h List.not_mem_nil
theorem SL1_ok : ∀ q ∈ SL1, SOK (ownS 1) q.1 q.2 := List.forall_mem_cons.mpr ⟨⟨_, rfl, Or.inr (List.mem_of_getElem? (i := 4) rfl)⟩, fun _ h => absurd h List.not_mem_nil⟩
theorem SL2_ok : ∀ q ∈ SL2, SOK (ownS 2) q.1 q.2 := List.forall_mem_cons.mpr ⟨⟨_, rfl, Or.inr (List.mem_of_getElem? (i := 1) rfl)⟩, fun _ h => absurd h List.not_mem_nil⟩
theorem SL3_ok : ∀ q ∈ SL3, SOK (ownS 3) q.1 q.2 := fun _ h => absurd h List.not_mem_nil
theorem SL4_ok : ∀ q ∈ SL4, SOK (ownS 4) q.1 q.2 := fun _ h => absurd h List.not_mem_nil
theorem SL5_ok : ∀ q ∈ SL5, SOK (ownS 5) q.1 q.2 := List.forall_mem_cons.mpr ⟨⟨_, rfl, Or.inl ⟨rfl, gw_at 685 (by decide +kernel) rfl⟩⟩, List.forall_mem_cons.mpr ⟨⟨_, rfl, Or.inr (List.mem_of_getElem? (i := 2) rfl)⟩, List.forall_mem_cons.mpr ⟨⟨_, rfl, Or.inr (List.mem_of_getElem? (i := 3) rfl)⟩, fun _ h => absurd h List.not_mem_nil⟩⟩⟩
theorem SL6_ok : ∀ q ∈ SL6, SOK (ownS 6) q.1 q.2 := List.forall_mem_cons.mpr ⟨⟨_, rfl, Or.inl ⟨rfl, gw_at 456 (by decide +kernel) rfl⟩⟩, List.forall_mem_cons.mpr ⟨⟨_, rfl, Or.inr (List.mem_of_getElem? (i := 0) rfl)⟩, List.forall_mem_cons.mpr ⟨⟨_, rfl, Or.inl ⟨rfl, gw_at 464 (by decide +kernel) rfl⟩⟩, List.forall_mem_cons.mpr ⟨⟨_, rfl, Or.inl ⟨rfl, gw_at 471 (by decide +kernel) rfl⟩⟩, fun _ h => absurd h List.not_mem_nil⟩⟩⟩⟩
theorem SL7_ok : ∀ q ∈ SL7, SOK (ownS 7) q.1 q.2 := List.forall_mem_cons.mpr ⟨⟨_, rfl, Or.inl ⟨rfl, gw_at 351 (by decide +kernel) rfl⟩⟩, List.forall_mem_cons.mpr ⟨⟨_, rfl, Or.inl ⟨rfl, gw_at 735 (by decide +kernel) rfl⟩⟩, fun _ h => absurd h List.not_mem_nil⟩⟩
theorem SL8_ok : ∀ q ∈ SL8, SOK (ownS 8) q.1 q.2 := List.forall_mem_cons.mpr ⟨⟨_, rfl, Or.inl ⟨rfl, gw_at 957 (by decide +kernel) rfl⟩⟩, List.forall_mem_cons.mpr ⟨⟨_, rfl, Or.inl ⟨rfl, gw_at 961 (by decide +kernel) rfl⟩⟩, List.forall_mem_cons.mpr ⟨⟨_, rfl, Or.inl ⟨rfl, gw_at 983 (by decide +kernel) rfl⟩⟩, List.forall_mem_cons.mpr ⟨⟨_, rfl, Or.inl ⟨rfl, gw_at 1034 (by decide +kernel) rfl⟩⟩, List.forall_mem_cons.mpr ⟨⟨_, rfl, Or.inl ⟨rfl, gw_at 1045 (by decide +kernel) rfl⟩⟩, List.forall_mem_cons.mpr ⟨⟨_, rfl, Or.inl ⟨rfl, gw_at 1091 (by decide +kernel) rfl⟩⟩, List.forall_mem_cons.mpr ⟨⟨_, rfl, Or.inl ⟨rfl, gw_at 1170 (by decide +kernel) rfl⟩⟩, List.forall_mem_cons.mpr ⟨⟨_, rfl, Or.inl ⟨rfl, gw_at 1250 (by decide +kernel) rfl⟩⟩, fun _ h => absurd h List.not_mem_nil⟩⟩⟩⟩⟩⟩⟩⟩
theorem SL9_ok : ∀ q ∈ SL9, SOK (ownS 9) q.1 q.2 := fun _ h => absurd h List.not_mem_nil
theorem SL_ok : ∀ (oi : Nat) (q), q ∈ SL oi → SOK (ownS oi) q.1 q.2 := fun oi q h => by
  match oi, h with
  | 0, h => exact SL0_ok q h
  | 1, h => exact SL1_ok q h
  | 2, h => exact SL2_ok q h
  | 3, h => exact SL3_ok q h
  | 4, h => exact SL4_ok q h
  | 5, h => exact SL5_ok q h
  | 6, h => exact SL6_ok q h
  | 7, h => exact SL7_ok q h
  | 8, h => exact SL8_ok q h
  | 9, h => exact SL9_ok q h
  | _ + 10, h => cases h
def YL0 : List (Nat) := []
def YL1 : List (Nat) := []
def YL2 : List (Nat) := [55]
def YL3 : List (Nat) := [29]
def YL4 : List (Nat) := [24]
def YL5 : List (Nat) := [67]
def YL6 : List (Nat) := []
def YL7 : List (Nat) := []
def YL8 : List (Nat) := []
def YL9 : List (Nat) := []
def YL (oi : Nat) : List (Nat) := match oi with | 0 => YL0 | 1 => YL1 | 2 => YL2 | 3 => YL3 | 4 => YL4 | 5 => YL5 | 6 => YL6 | 7 => YL7 | 8 => YL8 | 9 => YL9 | _ => []
theorem YL0_ok : ∀ q ∈ YL0, Cond.methodLink (ownS 0) q arraycopyName ∈ gw := fun _ h => absurd h List.not_mem_nil
theorem YL1_ok : ∀ q ∈ YL1, Cond.methodLink (ownS 1) q arraycopyName ∈ gw := fun _ h => absurd h List.not_mem_nil
theorem YL2_ok : ∀ q ∈ YL2, Cond.methodLink (ownS 2) q arraycopyName ∈ gw := List.forall_mem_cons.mpr ⟨gw_at 511 (by decide +kernel) rfl, fun _ h => absurd h List.not_mem_nil⟩
theorem YL3_ok : ∀ q ∈ YL3, Cond.methodLink (ownS 3) q arraycopyName ∈ gw := List.forall_mem_cons.mpr ⟨gw_at 759 (by decide +kernel) rfl, fun _ h => absurd h List.not_mem_nil⟩
theorem YL4_ok : ∀ q ∈ YL4, Cond.methodLink (ownS 4) q arraycopyName ∈ gw := List.forall_mem_cons.mpr ⟨gw_at 396 (by decide +kernel) rfl, fun _ h => absurd h List.not_mem_nil⟩
theorem YL5_ok : ∀ q ∈ YL5, Cond.methodLink (ownS 5) q arraycopyName ∈ gw := List.forall_mem_cons.mpr ⟨gw_at 655 (by decide +kernel) rfl, fun _ h => absurd h List.not_mem_nil⟩
theorem YL6_ok : ∀ q ∈ YL6, Cond.methodLink (ownS 6) q arraycopyName ∈ gw := fun _ h => absurd h List.not_mem_nil
theorem YL7_ok : ∀ q ∈ YL7, Cond.methodLink (ownS 7) q arraycopyName ∈ gw := fun _ h => absurd h List.not_mem_nil
theorem YL8_ok : ∀ q ∈ YL8, Cond.methodLink (ownS 8) q arraycopyName ∈ gw := fun _ h => absurd h List.not_mem_nil
theorem YL9_ok : ∀ q ∈ YL9, Cond.methodLink (ownS 9) q arraycopyName ∈ gw := fun _ h => absurd h List.not_mem_nil
theorem YL_ok : ∀ (oi : Nat) (q), q ∈ YL oi → Cond.methodLink (ownS oi) q arraycopyName ∈ gw := fun oi q h => by
  match oi, h with
  | 0, h => exact YL0_ok q h
  | 1, h => exact YL1_ok q h
  | 2, h => exact YL2_ok q h
  | 3, h => exact YL3_ok q h
  | 4, h => exact YL4_ok q h
  | 5, h => exact YL5_ok q h
  | 6, h => exact YL6_ok q h
  | 7, h => exact YL7_ok q h
  | 8, h => exact YL8_ok q h
  | 9, h => exact YL9_ok q h
  | _ + 10, h => cases h
def AL0 : List (Nat) := []
def AL1 : List (Nat) := []
def AL2 : List (Nat) := []
def AL3 : List (Nat) := [39]
def AL4 : List (Nat) := []
def AL5 : List (Nat) := [76]
def AL6 : List (Nat) := []
def AL7 : List (Nat) := []
def AL8 : List (Nat) := []
def AL9 : List (Nat) := []
def AL (oi : Nat) : List (Nat) := match oi with | 0 => AL0 | 1 => AL1 | 2 => AL2 | 3 => AL3 | 4 => AL4 | 5 => AL5 | 6 => AL6 | 7 => AL7 | 8 => AL8 | 9 => AL9 | _ => []
theorem AL0_ok : ∀ q ∈ AL0, Cond.methodLink (ownS 0) q Lib.Math.abs.name ∈ gw := fun _ h => absurd h List.not_mem_nil
theorem AL1_ok : ∀ q ∈ AL1, Cond.methodLink (ownS 1) q Lib.Math.abs.name ∈ gw := fun _ h => absurd h List.not_mem_nil
theorem AL2_ok : ∀ q ∈ AL2, Cond.methodLink (ownS 2) q Lib.Math.abs.name ∈ gw := fun _ h => absurd h List.not_mem_nil
theorem AL3_ok : ∀ q ∈ AL3, Cond.methodLink (ownS 3) q Lib.Math.abs.name ∈ gw := List.forall_mem_cons.mpr ⟨gw_at 758 (by decide +kernel) rfl, fun _ h => absurd h List.not_mem_nil⟩
theorem AL4_ok : ∀ q ∈ AL4, Cond.methodLink (ownS 4) q Lib.Math.abs.name ∈ gw := fun _ h => absurd h List.not_mem_nil
theorem AL5_ok : ∀ q ∈ AL5, Cond.methodLink (ownS 5) q Lib.Math.abs.name ∈ gw := List.forall_mem_cons.mpr ⟨gw_at 669 (by decide +kernel) rfl, fun _ h => absurd h List.not_mem_nil⟩
theorem AL6_ok : ∀ q ∈ AL6, Cond.methodLink (ownS 6) q Lib.Math.abs.name ∈ gw := fun _ h => absurd h List.not_mem_nil
theorem AL7_ok : ∀ q ∈ AL7, Cond.methodLink (ownS 7) q Lib.Math.abs.name ∈ gw := fun _ h => absurd h List.not_mem_nil
theorem AL8_ok : ∀ q ∈ AL8, Cond.methodLink (ownS 8) q Lib.Math.abs.name ∈ gw := fun _ h => absurd h List.not_mem_nil
theorem AL9_ok : ∀ q ∈ AL9, Cond.methodLink (ownS 9) q Lib.Math.abs.name ∈ gw := fun _ h => absurd h List.not_mem_nil
theorem AL_ok : ∀ (oi : Nat) (q), q ∈ AL oi → Cond.methodLink (ownS oi) q Lib.Math.abs.name ∈ gw := fun oi q h => by
  match oi, h with
  | 0, h => exact AL0_ok q h
  | 1, h => exact AL1_ok q h
  | 2, h => exact AL2_ok q h
  | 3, h => exact AL3_ok q h
  | 4, h => exact AL4_ok q h
  | 5, h => exact AL5_ok q h
  | 6, h => exact AL6_ok q h
  | 7, h => exact AL7_ok q h
  | 8, h => exact AL8_ok q h
  | 9, h => exact AL9_ok q h
  | _ + 10, h => cases h
theorem ac_nat : Cond.native arraycopyName ∈ gw := gw_at 398 (by decide +kernel) rfl
theorem ac_stat : Cond.static arraycopyName ∈ gw := gw_at 397 (by decide +kernel) rfl
theorem ac_ini : Cond.initialized "java/lang/System" ∈ gw := gw_at 79 (by decide +kernel) rfl
theorem ma_stat : Cond.static Lib.Math.abs.name ∈ gw := gw_at 670 (by decide +kernel) rfl
theorem ma_ini : Cond.initialized "java/lang/Math" ∈ gw := gw_at 80 (by decide +kernel) rfl
set_option maxRecDepth 20000 in
theorem ma_code : Cond.code Lib.Math.abs.name Lib.Math.abs.code 1 (some .int) ∈ gw := gw_at 671 rfl rfl
