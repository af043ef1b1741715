def FL0 : List (Nat × Nat × Nat) := [(9, 0, 0)]
theorem FL0_ok : fokb RX0 FL0 = true := by decide +kernel
theorem fk0 {Y : YD} (h : Y.1.cls = RX0) : fokb Y.1.cls FL0 = true := by rw [h]; exact FL0_ok
def FL1 : List (Nat × Nat × Nat) := [(11, 1, 0), (15, 1, 1)]
theorem FL1_ok : fokb RX1 FL1 = true := by decide +kernel
theorem fk1 {Y : YD} (h : Y.1.cls = RX1) : fokb Y.1.cls FL1 = true := by rw [h]; exact FL1_ok
def FL2 : List (Nat × Nat × Nat) := [(9, 2, 0), (15, 2, 1), (27, 2, 3), (35, 2, 2)]
theorem FL2_ok : fokb RX2 FL2 = true := by decide +kernel
theorem fk2 {Y : YD} (h : Y.1.cls = RX2) : fokb Y.1.cls FL2 = true := by rw [h]; exact FL2_ok
def FL3 : List (Nat × Nat × Nat) := [(9, 3, 4), (13, 3, 5), (16, 3, 6), (19, 3, 7), (22, 3, 8), (25, 3, 9), (29, 3, 10), (32, 3, 15), (35, 3, 16), (41, 3, 17), (48, 3, 18), (55, 3, 19), (66, 3, 0), (73, 3, 11), (77, 3, 1), (87, 3, 3), (90, 3, 2), (107, 3, 13), (110, 3, 12), (130, 3, 14)]
theorem FL3_ok : fokb RX3 FL3 = true := by decide +kernel
theorem fk3 {Y : YD} (h : Y.1.cls = RX3) : fokb Y.1.cls FL3 = true := by rw [h]; exact FL3_ok
def FL4 : List (Nat × Nat × Nat) := [(7, 4, 3), (13, 4, 4), (16, 4, 7), (19, 4, 11), (22, 4, 12), (26, 4, 13), (29, 4, 15), (32, 4, 16), (35, 4, 17), (38, 4, 18), (41, 4, 19), (44, 4, 20), (47, 4, 21), (50, 4, 23), (53, 4, 24), (63, 4, 14), (67, 4, 0), (70, 4, 1), (77, 4, 8), (81, 4, 2), (87, 4, 5), (90, 4, 6), (132, 4, 22), (145, 4, 10), (167, 4, 9)]
theorem FL4_ok : fokb RX4 FL4 = true := by decide +kernel
theorem fk4 {Y : YD} (h : Y.1.cls = RX4) : fokb Y.1.cls FL4 = true := by rw [h]; exact FL4_ok
theorem fkJ {Y : YD} {C : String} (_ : Y.1.cls = C) : fokb Y.1.cls [] = true := rfl
def SX : SH := [.inr (3, [none, none, none, none, some 1, some 2, some 3, some 4, some 5, some 6, some 7, none, none, none, none, some 8, some 9, some 10, some 12, some 15]), .inl (.inl 4), .inl (.inl 16), .inl (.inl 16), .inl (.inl 4), .inl (.inl 16), .inl (.inr 4), .inl (.inl 4), .inl (.inl 16), .inl (.inl 16), .inr (0, [some 11]), .inl (.inl 4), .inr (2, [some 13, some 14, none, none]), .inl (.inl 4), .inl (.inl 4), .inr (1, [some 16, some 17]), .inl (.inr 8), .inl (.inr 8)]
def SM : SH := [.inr (4, [none, none, none, some 1, some 2, none, none, some 3, none, none, none, some 4, some 5, some 6, none, some 7, some 8, some 9, some 10, some 11, some 12, some 13, none, some 14, some 15]), .inl (.inl 4), .inl (.inl 16), .inl (.inl 4), .inl (.inl 16), .inl (.inr 4), .inl (.inl 4), .inl (.inl 408), .inl (.inl 16), .inl (.inl 16), .inl (.inl 16), .inl (.inl 16), .inl (.inl 4), .inl (.inl 4), .inl (.inr 8), .inl (.inr 8)]
abbrev Y0_fill : YD := (yX0_fill, cX0_fill, 7, none)
abbrev Y0_takeRoom : YD := (yX0_takeRoom, cX0_takeRoom, 7, some .boolean)
abbrev Y0_isStronger : YD := (yX0_isStronger, cX0_isStronger, 4, some .boolean)
abbrev Y0_makeRoom : YD := (yX0_makeRoom, cX0_makeRoom, 7, some .boolean)
abbrev Y1_isReached : YD := (yX1_isReached, cX1_isReached, 2, some .boolean)
abbrev Y1_upper : YD := (yX1_upper, cX1_upper, 2, some .long)
abbrev Y1_lower : YD := (yX1_lower, cX1_lower, 2, some .long)
abbrev Y1_measure : YD := (yX1_measure, cX1_measure, 5, none)
abbrev Y1_goRound : YD := (yX1_goRound, cX1_goRound, 8, some .boolean)
abbrev Y1_goWay : YD := (yX1_goWay, cX1_goWay, 11, some .boolean)
abbrev Y1_isLess : YD := (yX1_isLess, cX1_isLess, 17, some .boolean)
abbrev Y1_greatestDivisor : YD := (yX1_greatestDivisor, cX1_greatestDivisor, 7, some .long)
abbrev Y2_climb : YD := (yX2_climb, cX2_climb, 5, none)
abbrev Y2_isFound : YD := (yX2_isFound, cX2_isFound, 5, some .boolean)
abbrev Y2_goAlong : YD := (yX2_goAlong, cX2_goAlong, 4, none)
abbrev Y2_leaves : YD := (yX2_leaves, cX2_leaves, 16, some .boolean)
abbrev Y2_arrives : YD := (yX2_arrives, cX2_arrives, 16, some .boolean)
abbrev Y2_closes : YD := (yX2_closes, cX2_closes, 14, some .boolean)
abbrev Y2_isWished : YD := (yX2_isWished, cX2_isWished, 3, some .boolean)
abbrev Y3_district : YD := (yX3_district, cX3_district, 2, some .int)
abbrev Y3_party : YD := (yX3_party, cX3_party, 1, some .int)
abbrev Y3_votes : YD := (yX3_votes, cX3_votes, 4, none)
abbrev Y3_weigh : YD := (yX3_weigh, cX3_weigh, 2, none)
abbrev Y3_threshold : YD := (yX3_threshold, cX3_threshold, 2, none)
abbrev Y3_lot : YD := (yX3_lot, cX3_lot, 4, none)
abbrev Y3_count : YD := (yX3_count, cX3_count, 2, some .int)
abbrev Y3_share : YD := (yX3_share, cX3_share, 2, some .int)
abbrev Y3_tied : YD := (yX3_tied, cX3_tied, 3, some .boolean)
abbrev Y3_solve : YD := (yX3_solve, cX3_solve, 1, some .boolean)
abbrev Y3_seats : YD := (yX3_seats, cX3_seats, 5, some .int)
abbrev Y3_unique : YD := (yX3_unique, cX3_unique, 2, some .boolean)
abbrev Y3_number : YD := (yX3_number, cX3_number, 5, some .long)
abbrev Y3_blocks : YD := (yX3_blocks, cX3_blocks, 3, some .boolean)
abbrev Y3_propose : YD := (yX3_propose, cX3_propose, 4, none)
abbrev Y3_judge : YD := (yX3_judge, cX3_judge, 1, some .int)
abbrev Y3_isThere : YD := (yX3_isThere, cX3_isThere, 3, some .boolean)
abbrev Y3_isIn : YD := (yX3_isIn, cX3_isIn, 2, some .boolean)
abbrev Y3_allSeats : YD := (yX3_allSeats, cX3_allSeats, 3, some .int)
abbrev Y3_shareOut : YD := (yX3_shareOut, cX3_shareOut, 3, some .boolean)
abbrev Y3_countVotes : YD := (yX3_countVotes, cX3_countVotes, 6, none)
abbrev Y3_weightOf : YD := (yX3_weightOf, cX3_weightOf, 7, some .long)
abbrev Y3_seatsOfOthersMultiplied : YD := (yX3_seatsOfOthersMultiplied, cX3_seatsOfOthersMultiplied, 5, some .long)
abbrev Y3_nextParty : YD := (yX3_nextParty, cX3_nextParty, 3, some .int)
abbrev Y3_goesBefore : YD := (yX3_goesBefore, cX3_goesBefore, 7, some .boolean)
abbrev Y3_couldHandOver : YD := (yX3_couldHandOver, cX3_couldHandOver, 3, some .boolean)
abbrev Y3_findBlock : YD := (yX3_findBlock, cX3_findBlock, 3, none)
abbrev Y3_partiesWithVotesIn : YD := (yX3_partiesWithVotesIn, cX3_partiesWithVotesIn, 4, some .int)
abbrev Y3_seatsOf : YD := (yX3_seatsOf, cX3_seatsOf, 4, some .int)
abbrev Y3_findTables : YD := (yX3_findTables, cX3_findTables, 1, none)
abbrev Y3_proposesSeatsWithoutVotes : YD := (yX3_proposesSeatsWithoutVotes, cX3_proposesSeatsWithoutVotes, 2, some .boolean)
abbrev Y3_proposesInAll : YD := (yX3_proposesInAll, cX3_proposesInAll, 7, some .boolean)
abbrev Y7_fill_53178 : YD := (yJ7_fill_53178, cJ7_fill_53178, 4, none)
abbrev Y4_thrown : YD := (yX4_thrown, cX4_thrown, 1, some .int)
abbrev Y4_differ : YD := (yX4_differ, cX4_differ, 5, some .boolean)
abbrev Y4_begins : YD := (yX4_begins, cX4_begins, 4, some .boolean)
abbrev Y4_total : YD := (yX4_total, cX4_total, 3, some .int)
abbrev Y4_district : YD := (yX4_district, cX4_district, 2, some .int)
abbrev Y4_party : YD := (yX4_party, cX4_party, 1, some .int)
abbrev Y4_isList : YD := (yX4_isList, cX4_isList, 3, some .boolean)
abbrev Y4_votes : YD := (yX4_votes, cX4_votes, 4, none)
abbrev Y4_weigh : YD := (yX4_weigh, cX4_weigh, 2, none)
abbrev Y4_threshold : YD := (yX4_threshold, cX4_threshold, 2, none)
abbrev Y4_lot : YD := (yX4_lot, cX4_lot, 4, none)
abbrev Y4_count : YD := (yX4_count, cX4_count, 2, some .int)
abbrev Y4_votesOf : YD := (yX4_votesOf, cX4_votesOf, 2, some .int)
abbrev Y4_weighAll : YD := (yX4_weighAll, cX4_weighAll, 10, some .boolean)
abbrev Y4_inOrder : YD := (yX4_inOrder, cX4_inOrder, 5, some .int)
abbrev Y4_shareAll : YD := (yX4_shareAll, cX4_shareAll, 6, some .boolean)
abbrev Y4_share : YD := (yX4_share, cX4_share, 2, some .int)
abbrev Y4_tied : YD := (yX4_tied, cX4_tied, 4, some .boolean)
abbrev Y4_homeOf : YD := (yX4_homeOf, cX4_homeOf, 2, some .int)
abbrev Y4_sideOf : YD := (yX4_sideOf, cX4_sideOf, 2, some .int)
abbrev Y4_moreOf : YD := (yX4_moreOf, cX4_moreOf, 2, some .int)
abbrev Y4_lessOf : YD := (yX4_lessOf, cX4_lessOf, 2, some .int)
abbrev Y4_gain : YD := (yX4_gain, cX4_gain, 10, some .int)
abbrev Y4_goAlong : YD := (yX4_goAlong, cX4_goAlong, 4, none)
abbrev Y4_obeys : YD := (yX4_obeys, cX4_obeys, 4, some .boolean)
abbrev Y4_better : YD := (yX4_better, cX4_better, 4, none)
abbrev Y4_turnsFirst : YD := (yX4_turnsFirst, cX4_turnsFirst, 5, some .boolean)
abbrev Y4_turn : YD := (yX4_turn, cX4_turn, 6, none)
abbrev Y4_isReached : YD := (yX4_isReached, cX4_isReached, 6, some .boolean)
abbrev Y4_tooMuch : YD := (yX4_tooMuch, cX4_tooMuch, 4, some .int)
abbrev Y4_openLists : YD := (yX4_openLists, cX4_openLists, 3, some .int)
abbrev Y4_give : YD := (yX4_give, cX4_give, 4, none)
abbrev Y4_fill : YD := (yX4_fill, cX4_fill, 4, some .boolean)
abbrev Y4_common : YD := (yX4_common, cX4_common, 10, some .long)
abbrev Y4_isMore : YD := (yX4_isMore, cX4_isMore, 21, some .boolean)
abbrev Y4_raise : YD := (yX4_raise, cX4_raise, 13, some .boolean)
abbrev Y4_numberAll : YD := (yX4_numberAll, cX4_numberAll, 6, none)
abbrev Y4_solve : YD := (yX4_solve, cX4_solve, 2, some .boolean)
abbrev Y4_hasTable : YD := (yX4_hasTable, cX4_hasTable, 1, some .boolean)
abbrev Y4_seats : YD := (yX4_seats, cX4_seats, 4, some .int)
abbrev Y4_unique : YD := (yX4_unique, cX4_unique, 3, some .boolean)
abbrev Y4_number : YD := (yX4_number, cX4_number, 5, some .long)
abbrev Y4_blocks : YD := (yX4_blocks, cX4_blocks, 3, some .boolean)
abbrev Y4_propose : YD := (yX4_propose, cX4_propose, 4, none)
abbrev Y4_judge : YD := (yX4_judge, cX4_judge, 5, some .int)
theorem lc_in {a b : Int} : in32 (lc a b) := by
  unfold lc in32
  split
  · omega
  · split <;> omega
theorem lc_eq {a b : Int} : lc a b = 0 ↔ a = b := by unfold lc; split <;> (try split) <;> omega
theorem lc_ne {a b : Int} : ¬ lc a b = 0 ↔ ¬ a = b := by rw [lc_eq]
theorem lc_lt {a b : Int} : lc a b < 0 ↔ a < b := by unfold lc; split <;> (try split) <;> omega
theorem lc_le {a b : Int} : lc a b ≤ 0 ↔ a ≤ b := by unfold lc; split <;> (try split) <;> omega
theorem lc_gt {a b : Int} : 0 < lc a b ↔ b < a := by unfold lc; split <;> (try split) <;> omega
theorem lc_ge {a b : Int} : 0 ≤ lc a b ↔ b ≤ a := by unfold lc; split <;> (try split) <;> omega
def qi (P : Int → HP → Prop) : MQt := fun v σ' => ∃ z, v = some (vi z) ∧ P z σ'
def ql (P : Int → HP → Prop) : MQt := fun v σ' => ∃ z, v = some (vl z) ∧ P z σ'
def qv (P : HP → Prop) : MQt := fun v σ' => v = none ∧ P σ'
section Special
variable {d : Nat} {Y : YD} {S : SH} {pc : Nat} {ls : ML} {st : List MV} {σ : HP} {Q : MQt} {X : MXt}
theorem Wp.ldc {ix : Nat} {z : Int} (hs : segb Y.2.1 pc [.ldc ix] = true) (hw : Cond.constant Y.1.cls ix (Int32.ofInt z) ∈ WA) (k : Wp d Y S (pc + 2) ls (vi z :: st) σ Q X) : Wp d Y S pc ls st σ Q X := by
  intro p l e R s m args below meth c H locs cells slots Fin D ad cI cJ A H0 lsA C hP hD hS hl kr kx
  exact lv_ldc C.1 C.2.1 C.2.2.2.1 (C.2.2.2.2.1 _ hw) (segb1 hs) (k p l e R s m args below meth c H locs cells slots Fin D ad cI cJ A H0 lsA C hP hD hS hl kr kx)
theorem Wp.alen {r n : Nat} (hs : segb Y.2.1 pc [.arraylength] = true) (hr : S[r]? = some (.inl (.inl n))) (k : Wp d Y S (pc + 1) ls (vi n :: st) σ Q X) : Wp d Y S pc ls (vr r :: st) σ Q X := by
  intro p l e R s m args below meth c H locs cells slots Fin D ad cI cJ A H0 lsA C hP hD hS hl kr kx
  exact va_alen C.1 C.2.1 C.2.2.2.2.2.1.1 hP r 0 (cw_get hr) (show ([(cI, FieldType.int), (cJ, .long)])[0]? = some (cI, .int) from rfl) (v := Int32.ofInt n) rfl (segb1 hs) (k p l e R s m args below meth c H locs cells slots Fin D ad cI cJ A H0 lsA C hP hD hS hl kr kx)
theorem Wp.lookup {dflt : Int} {ps : Array (Int × Int)} {len : Nat} {a off : Int} (tgt : Nat) (hs : decode Y.2.1 pc = .ok (.lookupswitch dflt ps, len)) (hp : (ps.toList.zip (ps.toList.drop 1)).all (fun (a, next) => a.1 < next.1) = true) (ha : in32 a) (ho : Op.lookupswitch.offset ps.toList dflt a = off) (ht : (pc : Int) + off = (tgt : Int)) (k : Wp d Y S tgt ls st σ Q X) : Wp d Y S pc ls (vi a :: st) σ Q X := by
  intro p l e R s m args below meth c H locs cells slots Fin D ad cI cJ A H0 lsA C hP hD hS hl kr kx
  exact lv_lookup C.1 C.2.1 hs hp (by rw [I_toInt ha]; exact ho) ht (k p l e R s m args below meth c H locs cells slots Fin D ad cI cJ A H0 lsA C hP hD hS hl kr kx)
end Special
