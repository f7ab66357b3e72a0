/-! the two sides of a call, as contracts -/
theorem P_fault {m : Mem} (h : Inv m) : ∃ v m1 m2, Mt M_OH_fault [.ref 0] m (qI v m1) ∧ Mt M_RM_fault [.ref 133] m1 (qI v m2) ∧ Inv m2 := by
  obtain ⟨m2, e2, i2⟩ := op_fault h 
  exact ⟨_, m, m2, K_OH_fault m  _ rfl, K_RM_fault m  _ e2, i2⟩
theorem P_wrong {m : Mem} (h : Inv m) : ∃ v m1 m2, Mt M_OH_wrong [.ref 0] m (qI v m1) ∧ Mt M_RM_wrong [.ref 133] m1 (qI v m2) ∧ Inv m2 := by
  obtain ⟨m2, e2, i2⟩ := op_wrong h 
  exact ⟨_, m, m2, K_OH_wrong m  _ rfl, K_RM_wrong m  _ e2, i2⟩
theorem P_ways {m : Mem} (h : Inv m) : ∃ v m1 m2, Mt M_OH_ways [.ref 0] m (qI v m1) ∧ Mt M_RM_ways [.ref 133] m1 (qI v m2) ∧ Inv m2 := by
  obtain ⟨m2, e2, i2⟩ := op_ways h 
  exact ⟨_, m, m2, K_OH_ways m  _ rfl, K_RM_ways m  _ e2, i2⟩
theorem P_count {m : Mem} (h : Inv m) (y0 : Int32) : ∃ v m1 m2, Mt M_OH_count [.ref 0, .int y0] m (qI v m1) ∧ Mt M_RM_count [.ref 133, .int y0] m1 (qI v m2) ∧ Inv m2 := by
  obtain ⟨m2, e2, i2⟩ := op_count h y0
  exact ⟨_, m, m2, K_OH_count m y0 _ rfl, K_RM_count m y0 _ e2, i2⟩
theorem P_side {m : Mem} (h : Inv m) (y0 : Int32) : ∃ v m1 m2, Mt M_OH_side [.ref 0, .int y0] m (qI v m1) ∧ Mt M_RM_side [.ref 133, .int y0] m1 (qI v m2) ∧ Inv m2 := by
  obtain ⟨v, m2, e1, e2, i2⟩ := op_side h y0
  exact ⟨v, m, m2, K_OH_side m y0 _ e1, K_RM_side m y0 _ e2, i2⟩
theorem P_walked {m : Mem} (h : Inv m) (y0 : Int32) : ∃ v m1 m2, Mt M_OH_walked [.ref 0, .int y0] m (qI v m1) ∧ Mt M_RM_walked [.ref 133, .int y0] m1 (qI v m2) ∧ Inv m2 := by
  obtain ⟨v, m2, e1, e2, i2⟩ := op_walked h y0
  exact ⟨v, m, m2, K_OH_walked m y0 _ e1, K_RM_walked m y0 _ e2, i2⟩
theorem P_paced {m : Mem} (h : Inv m) (y0 : Int32) : ∃ v m1 m2, Mt M_OH_paced [.ref 0, .int y0] m (qI v m1) ∧ Mt M_RM_paced [.ref 133, .int y0] m1 (qI v m2) ∧ Inv m2 := by
  obtain ⟨v, m2, e1, e2, i2⟩ := op_paced h y0
  exact ⟨v, m, m2, K_OH_paced m y0 _ e1, K_RM_paced m y0 _ e2, i2⟩
theorem P_way {m : Mem} (h : Inv m) (y0 y1 : Int32) : ∃ v m1 m2, Mt M_OH_way [.ref 0, .int y0, .int y1] m (qI v m1) ∧ Mt M_RM_way [.ref 133, .int y0, .int y1] m1 (qI v m2) ∧ Inv m2 := by
  obtain ⟨v, m2, e1, e2, i2⟩ := op_way h y0 y1
  exact ⟨v, m, m2, K_OH_way m y0 y1 _ e1, K_RM_way m y0 y1 _ e2, i2⟩
theorem P_end {m : Mem} (h : Inv m) (y0 : Int32) : ∃ v m1 m2, Mt M_OH_end [.ref 0, .int y0] m (qI v m1) ∧ Mt M_RM_end [.ref 133, .int y0] m1 (qI v m2) ∧ Inv m2 := by
  obtain ⟨v, m1, m2, e1, e2, i2⟩ := op_end h y0
  exact ⟨v, m1, m2, K_OH_end m y0 _ e1, K_RM_end m1 y0 _ e2, i2⟩
theorem P_feed {m : Mem} (h : Inv m) (y0 y1 y2 y3 y4 : Int32) : ∃ v m1 m2, Mt M_OH_feed [.ref 0, .int y0, .int y1, .int y2, .int y3, .int y4] m (qI v m1) ∧ Mt M_RM_feed [.ref 133, .int y0, .int y1, .int y2, .int y3, .int y4] m1 (qI v m2) ∧ Inv m2 := by
  obtain ⟨v, m1, m2, e1, e2, i2⟩ := op_feed h y0 y1 y2 y3 y4
  exact ⟨v, m1, m2, K_OH_feed m y0 y1 y2 y3 y4 _ e1, K_RM_feed m1 y0 y1 y2 y3 y4 _ e2, i2⟩
theorem P_whose {m : Mem} (h : Inv m) (y0 y1 y2 : Int32) : ∃ v m1 m2, Mt M_OH_whose [.ref 0, .int y0, .int y1, .int y2] m (qI v m1) ∧ Mt M_RM_whose [.ref 133, .int y0, .int y1, .int y2] m1 (qI v m2) ∧ Inv m2 := by
  obtain ⟨v, m2, e1, e2, i2⟩ := op_whose h y0 y1 y2
  exact ⟨v, m, m2, K_OH_whose m y0 y1 y2 _ e1, K_RM_whose m y0 y1 y2 _ e2, i2⟩
theorem P_within {m : Mem} (h : Inv m) (y0 y1 : Int32) : ∃ v m1 m2, Mt M_OH_within [.ref 0, .int y0, .int y1] m (qI v m1) ∧ Mt M_RM_within [.ref 133, .int y0, .int y1] m1 (qI v m2) ∧ Inv m2 := by
  obtain ⟨v, m2, e1, e2, i2⟩ := op_within h y0 y1
  exact ⟨v, m, m2, K_OH_within m y0 y1 _ e1, K_RM_within m y0 y1 _ e2, i2⟩
theorem P_square {m : Mem} (h : Inv m) (y0 y1 y2 : Int32) : ∃ v m1 m2, Mt M_OH_square [.ref 0, .int y0, .int y1, .int y2] m (qI v m1) ∧ Mt M_RM_square [.ref 133, .int y0, .int y1, .int y2] m1 (qI v m2) ∧ Inv m2 := by
  obtain ⟨v, m1, m2, e1, e2, i2⟩ := op_square h y0 y1 y2
  exact ⟨v, m1, m2, K_OH_square m y0 y1 y2 _ e1, K_RM_square m1 y0 y1 y2 _ e2, i2⟩
theorem P_acres {m : Mem} (h : Inv m) (y0 : Int32) : ∃ v m1 m2, Mt M_OH_acres [.ref 0, .int y0] m (qI v m1) ∧ Mt M_RM_acres [.ref 133, .int y0] m1 (qI v m2) ∧ Inv m2 := by
  obtain ⟨v, m1, m2, e1, e2, i2⟩ := op_acres h y0
  exact ⟨v, m1, m2, K_OH_acres m y0 _ e1, K_RM_acres m1 y0 _ e2, i2⟩
theorem P_border {m : Mem} (h : Inv m) (y0 : Int32) : ∃ v m1 m2, Mt M_OH_border [.ref 0, .int y0] m (qI v m1) ∧ Mt M_RM_border [.ref 133, .int y0] m1 (qI v m2) ∧ Inv m2 := by
  obtain ⟨v, m1, m2, e1, e2, i2⟩ := op_border h y0
  exact ⟨v, m1, m2, K_OH_border m y0 _ e1, K_RM_border m1 y0 _ e2, i2⟩
theorem P_loads {m : Mem} (h : Inv m) (y0 y1 : Int32) : ∃ v m1 m2, Mt M_OH_loads [.ref 0, .int y0, .int y1] m (qI v m1) ∧ Mt M_RM_loads [.ref 133, .int y0, .int y1] m1 (qI v m2) ∧ Inv m2 := by
  obtain ⟨v, m1, m2, e1, e2, i2⟩ := op_loads h y0 y1
  exact ⟨v, m1, m2, K_OH_loads m y0 y1 _ e1, K_RM_loads m1 y0 y1 _ e2, i2⟩
theorem P_heir {m : Mem} (h : Inv m) (y0 y1 : Int32) : ∃ v m1 m2, Mt M_OH_heir [.ref 0, .int y0, .int y1] m (qI v m1) ∧ Mt M_RM_heir [.ref 133, .int y0, .int y1] m1 (qI v m2) ∧ Inv m2 := by
  obtain ⟨v, m1, m2, e1, e2, i2⟩ := op_heir h y0 y1
  exact ⟨v, m1, m2, K_OH_heir m y0 y1 _ e1, K_RM_heir m1 y0 y1 _ e2, i2⟩
theorem P_estate {m : Mem} (h : Inv m) (y0 : Int32) : ∃ v m1 m2, Mt M_OH_estate [.ref 0, .int y0] m (qI v m1) ∧ Mt M_RM_estate [.ref 133, .int y0] m1 (qI v m2) ∧ Inv m2 := by
  obtain ⟨v, m1, m2, e1, e2, i2⟩ := op_estate h y0
  exact ⟨v, m1, m2, K_OH_estate m y0 _ e1, K_RM_estate m1 y0 _ e2, i2⟩
theorem P_crosses {m : Mem} (h : Inv m) (y0 y1 y2 y3 : Int32) : ∃ v m1 m2, Mt M_OH_crosses [.ref 0, .int y0, .int y1, .int y2, .int y3] m (qI v m1) ∧ Mt M_RM_crosses [.ref 133, .int y0, .int y1, .int y2, .int y3] m1 (qI v m2) ∧ Inv m2 := by
  obtain ⟨v, m1, m2, e1, e2, i2⟩ := op_crosses h y0 y1 y2 y3
  exact ⟨v, m1, m2, K_OH_crosses m y0 y1 y2 y3 _ e1, K_RM_crosses m1 y0 y1 y2 y3 _ e2, i2⟩
theorem P_line {m : Mem} (h : Inv m) (y0 y1 : Int32) : ∃ v m1 m2, Mt M_OH_line [.ref 0, .int y0, .int y1] m (qI v m1) ∧ Mt M_RM_line [.ref 133, .int y0, .int y1] m1 (qI v m2) ∧ Inv m2 := by
  obtain ⟨v, m2, e1, e2, i2⟩ := op_line h y0 y1
  exact ⟨v, m, m2, K_OH_line m y0 y1 _ e1, K_RM_line m y0 y1 _ e2, i2⟩
theorem P_moved {m : Mem} (h : Inv m) (y0 y1 y2 y3 y4 : Int32) : ∃ v m1 m2, Mt M_OH_moved [.ref 0, .int y0, .int y1, .int y2, .int y3, .int y4] m (qI v m1) ∧ Mt M_RM_moved [.ref 133, .int y0, .int y1, .int y2, .int y3, .int y4] m1 (qI v m2) ∧ Inv m2 := by
  obtain ⟨v, m1, m2, e1, e2, i2⟩ := op_moved h y0 y1 y2 y3 y4
  exact ⟨v, m1, m2, K_OH_moved m y0 y1 y2 y3 y4 _ e1, K_RM_moved m1 y0 y1 y2 y3 y4 _ e2, i2⟩
theorem P_move {m : Mem} (h : Inv m) (y0 y1 y2 y3 : Int32) : ∃ v m1 m2, Mt M_OH_move [.ref 0, .int y0, .int y1, .int y2, .int y3] m (qI v m1) ∧ Mt M_RM_move [.ref 133, .int y0, .int y1, .int y2, .int y3] m1 (qI v m2) ∧ Inv m2 := by
  obtain ⟨v, m1, m2, e1, e2, i2⟩ := op_move h y0 y1 y2 y3
  exact ⟨v, m1, m2, K_OH_move m y0 y1 y2 y3 _ e1, K_RM_move m1 y0 y1 y2 y3 _ e2, i2⟩
theorem P_shift {m : Mem} (h : Inv m) (y0 y1 y2 : Int32) : ∃ v m1 m2, Mt M_OH_shift [.ref 0, .int y0, .int y1, .int y2] m (qI v m1) ∧ Mt M_RM_shift [.ref 133, .int y0, .int y1, .int y2] m1 (qI v m2) ∧ Inv m2 := by
  obtain ⟨v, m1, m2, e1, e2, i2⟩ := op_shift h y0 y1 y2
  exact ⟨v, m1, m2, K_OH_shift m y0 y1 y2 _ e1, K_RM_shift m1 y0 y1 y2 _ e2, i2⟩
theorem P_undo {m : Mem} (h : Inv m) : ∃ v m1 m2, Mt M_OH_undo [.ref 0] m (qI v m1) ∧ Mt M_RM_undo [.ref 133] m1 (qI v m2) ∧ Inv m2 := by
  obtain ⟨v, m1, m2, e1, e2, i2⟩ := op_undo h 
  exact ⟨v, m1, m2, K_OH_undo m  _ e1, K_RM_undo m1  _ e2, i2⟩
theorem P_image {m : Mem} (h : Inv m) (y0 : Int32) : ∃ v m1 m2, Mt M_OH_image [.ref 0, .int y0] m (qI v m1) ∧ Mt M_RM_image [.ref 133, .int y0] m1 (qI v m2) ∧ Inv m2 := by
  obtain ⟨v, m1, m2, e1, e2, i2⟩ := op_image h y0
  exact ⟨v, m1, m2, K_OH_image m y0 _ e1, K_RM_image m1 y0 _ e2, i2⟩
theorem P_restore {m : Mem} (h : Inv m) (y0 : Int32) : ∃ v m1 m2, Mt M_OH_restore [.ref 0, .int y0] m (qI v m1) ∧ Mt M_RM_restore [.ref 133, .int y0] m1 (qI v m2) ∧ Inv m2 := by
  obtain ⟨v, m1, m2, e1, e2, i2⟩ := op_restore h y0
  exact ⟨v, m1, m2, K_OH_restore m y0 _ e1, K_RM_restore m1 y0 _ e2, i2⟩
theorem P_nights {m : Mem} (h : Inv m) (y0 y1 : Int32) : ∃ v m1 m2, Mt M_OH_nights [.ref 0, .int y0, .int y1] m (qI v m1) ∧ Mt M_RM_nights [.ref 133, .int y0, .int y1] m1 (qI v m2) ∧ Inv m2 := by
  obtain ⟨v, m1, m2, e1, e2, i2⟩ := op_nights h y0 y1
  exact ⟨v, m1, m2, K_OH_nights m y0 y1 _ e1, K_RM_nights m1 y0 y1 _ e2, i2⟩
theorem P_pieces {m : Mem} (h : Inv m) (y0 : Int32) : ∃ v m1 m2, Mt M_OH_pieces [.ref 0, .int y0] m (qI v m1) ∧ Mt M_RM_pieces [.ref 133, .int y0] m1 (qI v m2) ∧ Inv m2 := by
  obtain ⟨v, m1, m2, e1, e2, i2⟩ := op_pieces h y0
  exact ⟨v, m1, m2, K_OH_pieces m y0 _ e1, K_RM_pieces m1 y0 _ e2, i2⟩
theorem P_pieceAt {m : Mem} (h : Inv m) (y0 y1 y2 : Int32) : ∃ v m1 m2, Mt M_OH_pieceAt [.ref 0, .int y0, .int y1, .int y2] m (qI v m1) ∧ Mt M_RM_pieceAt [.ref 133, .int y0, .int y1, .int y2] m1 (qI v m2) ∧ Inv m2 := by
  obtain ⟨v, m1, m2, e1, e2, i2⟩ := op_pieceAt h y0 y1 y2
  exact ⟨v, m1, m2, K_OH_pieceAt m y0 y1 y2 _ e1, K_RM_pieceAt m1 y0 y1 y2 _ e2, i2⟩
theorem P_piece {m : Mem} (h : Inv m) (y0 y1 y2 : Int32) : ∃ v m1 m2, Mt M_OH_piece [.ref 0, .int y0, .int y1, .int y2] m (qI v m1) ∧ Mt M_RM_piece [.ref 133, .int y0, .int y1, .int y2] m1 (qI v m2) ∧ Inv m2 := by
  obtain ⟨v, m1, m2, e1, e2, i2⟩ := op_piece h y0 y1 y2
  exact ⟨v, m1, m2, K_OH_piece m y0 y1 y2 _ e1, K_RM_piece m1 y0 y1 y2 _ e2, i2⟩
theorem P_least {m : Mem} (h : Inv m) (y0 y1 y2 : Int32) : ∃ v m1 m2, Mt M_OH_least [.ref 0, .int y0, .int y1, .int y2] m (qI v m1) ∧ Mt M_RM_least [.ref 133, .int y0, .int y1, .int y2] m1 (qI v m2) ∧ Inv m2 := by
  obtain ⟨v, m1, m2, e1, e2, i2⟩ := op_least h y0 y1 y2
  exact ⟨v, m1, m2, K_OH_least m y0 y1 y2 _ e1, K_RM_least m1 y0 y1 y2 _ e2, i2⟩
theorem P_stiles {m : Mem} (h : Inv m) (y0 : Int32) : ∃ v m1 m2, Mt M_OH_stiles [.ref 0, .int y0] m (qI v m1) ∧ Mt M_RM_stiles [.ref 133, .int y0] m1 (qI v m2) ∧ Inv m2 := by
  obtain ⟨v, m1, m2, e1, e2, i2⟩ := op_stiles h y0
  exact ⟨v, m1, m2, K_OH_stiles m y0 _ e1, K_RM_stiles m1 y0 _ e2, i2⟩
theorem P_rectangle {m : Mem} (h : Inv m) : ∃ v m1 m2, Mt M_OH_rectangle [.ref 0] m (qI v m1) ∧ Mt M_RM_rectangle [.ref 133] m1 (qI v m2) ∧ Inv m2 := by
  obtain ⟨v, m1, m2, e1, e2, i2⟩ := op_rectangle h 
  exact ⟨v, m1, m2, K_OH_rectangle m  _ e1, K_RM_rectangle m1  _ e2, i2⟩
theorem P_walk {m : Mem} (h : Inv m) (y0 y1 : Int32) : ∃ v m1 m2, Mt M_OH_walk [.ref 0, .int y0, .int y1] m (qI v m1) ∧ Mt M_RM_walk [.ref 133, .int y0, .int y1] m1 (qI v m2) ∧ Inv m2 := by
  obtain ⟨v, m1, m2, e1, e2, i2⟩ := op_walk h y0 y1
  exact ⟨v, m1, m2, K_OH_walk m y0 y1 _ e1, K_RM_walk m1 y0 y1 _ e2, i2⟩
theorem P_claims {m : Mem} (h : Inv m) (y0 : Int32) : ∃ v m1 m2, Mt M_OH_claims [.ref 0, .int y0] m (qI v m1) ∧ Mt M_RM_claims [.ref 133, .int y0] m1 (qI v m2) ∧ Inv m2 := by
  obtain ⟨v, m1, m2, e1, e2, i2⟩ := op_claims h y0
  exact ⟨v, m1, m2, K_OH_claims m y0 _ e1, K_RM_claims m1 y0 _ e2, i2⟩
theorem P_paces {m : Mem} (h : Inv m) : ∃ v m1 m2, Mt M_OH_paces [.ref 0] m (qI v m1) ∧ Mt M_RM_paces [.ref 133] m1 (qI v m2) ∧ Inv m2 := by
  obtain ⟨v, m1, m2, e1, e2, i2⟩ := op_paces h 
  exact ⟨v, m1, m2, K_OH_paces m  _ e1, K_RM_paces m1  _ e2, i2⟩
theorem P_parish {m : Mem} (h : Inv m) : ∃ v m1 m2, Mt M_OH_parish [.ref 0] m (qI v m1) ∧ Mt M_RM_parish [.ref 133] m1 (qI v m2) ∧ Inv m2 := by
  obtain ⟨v, m1, m2, e1, e2, i2⟩ := op_parish h 
  exact ⟨v, m1, m2, K_OH_parish m  _ e1, K_RM_parish m1  _ e2, i2⟩
theorem P_byNight {m : Mem} (h : Inv m) (y0 y1 : Int32) : ∃ v m1 m2, Mt M_OH_byNight [.ref 0, .int y0, .int y1] m (qI v m1) ∧ Mt M_RM_byNight [.ref 133, .int y0, .int y1] m1 (qI v m2) ∧ Inv m2 := by
  obtain ⟨v, m1, m2, e1, e2, i2⟩ := op_byNight h y0 y1
  exact ⟨v, m1, m2, K_OH_byNight m y0 y1 _ e1, K_RM_byNight m1 y0 y1 _ e2, i2⟩
