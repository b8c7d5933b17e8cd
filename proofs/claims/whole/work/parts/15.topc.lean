def rm_X9_order : Room := { frames := 4, cells := 0, slots := 0, locals := 94 }
def P_X9_order (i_site_day : Int32) (i_site_wall_columns : Int32) (i_site_wall_rows : Int32) (i_site_plan_blocks : Int32) (f_site_plan_low : Nat → Int32) (f_site_plan_blockAt : Nat → Int32) (f_site_river_height : Nat → Int32) (i_site_yard_taken : Int32) (f_site_yard_takenOn : Nat → Int32) (i_site_order_places : Int32) (f_site_order_block : Nat → Int32) (f_foreman_press : Nat → Int32) (post : Int32 → Int32 → (Nat → Int32) → (Nat → Int32) → Prop) : Prop := ((i_site_plan_blocks = 0 → post (-1) i_site_order_places f_site_order_block f_foreman_press) ∧ (¬ i_site_plan_blocks = 0 → P_X0_arrange f_foreman_press i_site_day i_site_wall_columns i_site_wall_rows i_site_plan_blocks f_site_plan_low f_site_plan_blockAt f_site_river_height i_site_yard_taken f_site_yard_takenOn f_site_order_block (fun r_1 f_foreman_press_2 i_site_order_places_3 f_site_order_block_4 => post r_1 i_site_order_places_3 f_site_order_block_4 f_foreman_press_2)))
set_option maxRecDepth 100000 in
set_option maxHeartbeats 4000000 in
theorem c_X9_order (l : Launch) (D : va_G) (cI cB cS : ClassId) (a_this a_site a_site_wall a_site_plan a_site_plan_low a_site_plan_blockAt a_site_river a_site_river_height a_site_yard a_site_yard_takenOn a_site_order a_site_order_block a_foreman a_foreman_press a_sawyer a_images a_site_wall_weight a_site_wall_motif a_site_plan_left a_site_plan_columns a_site_plan_rows a_site_plan_turn a_site_yard_pileOf a_site_yard_placeOf a_site_yard_uppermost : Nat) (i_site_limit : Int32) (i_site_saw : Int32) (i_site_day : Int32) (i_site_wall_columns : Int32) (i_site_wall_rows : Int32) (i_site_plan_blocks : Int32) (i_site_plan_sawn : Int32) (f_site_plan_low : Nat → Int32) (f_site_plan_blockAt : Nat → Int32) (f_site_river_height : Nat → Int32) (i_site_yard_taken : Int32) (i_site_yard_piles : Int32) (f_site_yard_takenOn : Nat → Int32) (i_site_order_places : Int32) (f_site_order_block : Nat → Int32) (f_foreman_press : Nat → Int32) (post : Int32 → Int32 → (Nat → Int32) → (Nat → Int32) → Prop) (hV : P_X9_order i_site_day i_site_wall_columns i_site_wall_rows i_site_plan_blocks f_site_plan_low f_site_plan_blockAt f_site_river_height i_site_yard_taken f_site_yard_takenOn i_site_order_places f_site_order_block f_foreman_press post) : Ci l yX9_order cX9_order 1 (some .int) rm_X9_order D cI cB cS [.ref a_this] [oc a_this 8 [.ref a_site, .ref a_sawyer, .ref a_foreman, .ref a_images], oc a_site 5 [.int i_site_limit, .int i_site_saw, .int i_site_day, .ref a_site_wall, .ref a_site_plan, .ref a_site_river, .ref a_site_yard, .ref a_site_order], oc a_site_wall 6 [.int i_site_wall_columns, .int i_site_wall_rows, .ref a_site_wall_weight, .ref a_site_wall_motif], oc a_site_plan 2 [.int i_site_plan_blocks, .int i_site_plan_sawn, .ref a_site_plan_left, .ref a_site_plan_low, .ref a_site_plan_columns, .ref a_site_plan_rows, .ref a_site_plan_turn, .ref a_site_plan_blockAt], ai cI a_site_plan_low 64 f_site_plan_low, ai cI a_site_plan_blockAt 64 f_site_plan_blockAt, oc a_site_river 3 [.ref a_site_river_height], ai cI a_site_river_height 12 f_site_river_height, oc a_site_yard 7 [.int i_site_yard_taken, .int i_site_yard_piles, .ref a_site_yard_takenOn, .ref a_site_yard_pileOf, .ref a_site_yard_placeOf, .ref a_site_yard_uppermost], ai cI a_site_yard_takenOn 64 f_site_yard_takenOn, oc a_site_order 1 [.int i_site_order_places, .ref a_site_order_block], ai cI a_site_order_block 64 f_site_order_block, oc a_foreman 0 [.ref a_foreman_press], ai cI a_foreman_press 64 f_foreman_press] (fun r (u : Int32 × (Nat → Int32) × (Nat → Int32)) => post r u.1 u.2.1 u.2.2) (fun (u : Int32 × (Nat → Int32) × (Nat → Int32)) => [oc a_this 8 [.ref a_site, .ref a_sawyer, .ref a_foreman, .ref a_images], oc a_site 5 [.int i_site_limit, .int i_site_saw, .int i_site_day, .ref a_site_wall, .ref a_site_plan, .ref a_site_river, .ref a_site_yard, .ref a_site_order], oc a_site_wall 6 [.int i_site_wall_columns, .int i_site_wall_rows, .ref a_site_wall_weight, .ref a_site_wall_motif], oc a_site_plan 2 [.int i_site_plan_blocks, .int i_site_plan_sawn, .ref a_site_plan_left, .ref a_site_plan_low, .ref a_site_plan_columns, .ref a_site_plan_rows, .ref a_site_plan_turn, .ref a_site_plan_blockAt], ai cI a_site_plan_low 64 f_site_plan_low, ai cI a_site_plan_blockAt 64 f_site_plan_blockAt, oc a_site_river 3 [.ref a_site_river_height], ai cI a_site_river_height 12 f_site_river_height, oc a_site_yard 7 [.int i_site_yard_taken, .int i_site_yard_piles, .ref a_site_yard_takenOn, .ref a_site_yard_pileOf, .ref a_site_yard_placeOf, .ref a_site_yard_uppermost], ai cI a_site_yard_takenOn 64 f_site_yard_takenOn, oc a_site_order 1 [.int u.1, .ref a_site_order_block], ai cI a_site_order_block 64 (u.2.1), oc a_foreman 0 [.ref a_foreman_press], ai cI a_foreman_press 64 (u.2.2)]) := by
  refine Ci.of ok_X9_order (Nat.le_of_ble_eq_true rfl) ?_
  intro p e s m args below meth c A Q hx hb hml hown ht hnm hK hP hA hS hret ls hl
  have hown : s.vm.findClass RX9 = some m.cls := hown
  have FX : CallFix p m c cX9_order 1 s args tblG RX9 := ⟨hx, hb, hml, hown, ht⟩
  have hP : PD D A [oc a_this 8 [.ref a_site, .ref a_sawyer, .ref a_foreman, .ref a_images], oc a_site 5 [.int i_site_limit, .int i_site_saw, .int i_site_day, .ref a_site_wall, .ref a_site_plan, .ref a_site_river, .ref a_site_yard, .ref a_site_order], oc a_site_wall 6 [.int i_site_wall_columns, .int i_site_wall_rows, .ref a_site_wall_weight, .ref a_site_wall_motif], oc a_site_plan 2 [.int i_site_plan_blocks, .int i_site_plan_sawn, .ref a_site_plan_left, .ref a_site_plan_low, .ref a_site_plan_columns, .ref a_site_plan_rows, .ref a_site_plan_turn, .ref a_site_plan_blockAt], ai cI a_site_plan_low 64 f_site_plan_low, ai cI a_site_plan_blockAt 64 f_site_plan_blockAt, oc a_site_river 3 [.ref a_site_river_height], ai cI a_site_river_height 12 f_site_river_height, oc a_site_yard 7 [.int i_site_yard_taken, .int i_site_yard_piles, .ref a_site_yard_takenOn, .ref a_site_yard_pileOf, .ref a_site_yard_placeOf, .ref a_site_yard_uppermost], ai cI a_site_yard_takenOn 64 f_site_yard_takenOn, oc a_site_order 1 [.int i_site_order_places, .ref a_site_order_block], ai cI a_site_order_block 64 f_site_order_block, oc a_foreman 0 [.ref a_foreman_press], ai cI a_foreman_press 64 f_foreman_press] s.heap := hP
  have hl : lv_has ls 1 [(0, .ref a_this)] := hl
  unfold P_X9_order at hV
  refine lv_aload_n hx hb dX9_order_0 rfl (lv_at hl 0 rfl) ?_
  refine gX9 hx hb ht hown hK hP 0 rfl 0 (by decide) fl_X9_12 (fun _ h => h) rfl dX9_order_1 ?_
  refine gX5 hx hb ht hown hK hP 1 rfl 4 (by decide) fl_X9_87 (fun _ h => h) rfl dX9_order_4 ?_
  refine gX2 hx hb ht hown hK hP 3 rfl 0 (by decide) fl_X9_95 (fun _ h => h) rfl dX9_order_7 ?_
  refine lv_if_ne (tgt := 15) hx hb dX9_order_10 (by decide) (fun h => ?_) (fun h => ?_)
  · have hV := hV.2 h
    refine lv_aload_n hx hb dX9_order_15 rfl (lv_at hl 0 rfl) ?_
    refine gX9 hx hb ht hown hK hP 0 rfl 2 (by decide) fl_X9_26 (fun _ h => h) rfl dX9_order_16 ?_
    refine lv_aload_n hx hb dX9_order_19 rfl (lv_at hl 0 rfl) ?_
    refine gX9 hx hb ht hown hK hP 0 rfl 0 (by decide) fl_X9_12 (fun _ h => h) rfl dX9_order_20 ?_
    refine KVi (As := [.ref a_site]) (rest := []) FX (c_X0_arrange l D cI cB cS a_foreman a_foreman_press a_site a_site_wall a_site_plan a_site_plan_low a_site_plan_blockAt a_site_river a_site_river_height a_site_yard a_site_yard_takenOn a_site_order a_site_order_block a_site_wall_weight a_site_wall_motif a_site_plan_left a_site_plan_columns a_site_plan_rows a_site_plan_turn a_site_yard_pileOf a_site_yard_placeOf a_site_yard_uppermost f_foreman_press i_site_limit i_site_saw i_site_day i_site_wall_columns i_site_wall_rows i_site_plan_blocks i_site_plan_sawn f_site_plan_low f_site_plan_blockAt f_site_river_height i_site_yard_taken i_site_yard_piles f_site_yard_takenOn i_site_order_places f_site_order_block _ hV) ok_X0_arrange im_X0_arrange se_X0_arrange li_X9_169 dX9_order_23 hK hP hS hA [12, 13, 1, 2, 3, 4, 5, 6, 7, 8, 9, 10, 11] [0] 12 rfl rfl rfl (by decide) rfl rfl hl.1 (Nat.le_of_ble_eq_true rfl) ⟨Nat.le_of_ble_eq_true rfl, Nat.le_of_ble_eq_true rfl⟩ ⟨Nat.le_of_ble_eq_true rfl, Nat.le_of_ble_eq_true rfl⟩ (fun r_1 u H locs hV hP hS => ?_)
    obtain ⟨f_foreman_press_2, i_site_order_places_3, f_site_order_block_4⟩ := u
    try dsimp only at hV
    have hP : PD D A [oc a_this 8 [.ref a_site, .ref a_sawyer, .ref a_foreman, .ref a_images], oc a_foreman 0 [.ref a_foreman_press], ai cI a_foreman_press 64 f_foreman_press_2, oc a_site 5 [.int i_site_limit, .int i_site_saw, .int i_site_day, .ref a_site_wall, .ref a_site_plan, .ref a_site_river, .ref a_site_yard, .ref a_site_order], oc a_site_wall 6 [.int i_site_wall_columns, .int i_site_wall_rows, .ref a_site_wall_weight, .ref a_site_wall_motif], oc a_site_plan 2 [.int i_site_plan_blocks, .int i_site_plan_sawn, .ref a_site_plan_left, .ref a_site_plan_low, .ref a_site_plan_columns, .ref a_site_plan_rows, .ref a_site_plan_turn, .ref a_site_plan_blockAt], ai cI a_site_plan_low 64 f_site_plan_low, ai cI a_site_plan_blockAt 64 f_site_plan_blockAt, oc a_site_river 3 [.ref a_site_river_height], ai cI a_site_river_height 12 f_site_river_height, oc a_site_yard 7 [.int i_site_yard_taken, .int i_site_yard_piles, .ref a_site_yard_takenOn, .ref a_site_yard_pileOf, .ref a_site_yard_placeOf, .ref a_site_yard_uppermost], ai cI a_site_yard_takenOn 64 f_site_yard_takenOn, oc a_site_order 1 [.int i_site_order_places_3, .ref a_site_order_block], ai cI a_site_order_block 64 f_site_order_block_4] H := hP
    exact hret _ _ _ _ _ (i_site_order_places_3, f_site_order_block_4, f_foreman_press_2) hS dX9_order_26 (hP.sub [0, 3, 4, 5, 6, 7, 8, 9, 10, 11, 12, 13, 1, 2] rfl rfl) hV
  · have hV := hV.1 h
    refine lv_iconst (v := (-1)) hx hb dX9_order_13 (by decide) ?_
    exact hret _ _ _ _ _ (i_site_order_places, f_site_order_block, f_foreman_press) hS dX9_order_14 hP hV

def rm_X9_ordered : Room := { frames := 1, cells := 0, slots := 0, locals := 22 }
def P_X9_ordered (x1 : Int32) (i_site_order_places : Int32) (f_site_order_block : Nat → Int32) (post : Int32 → Prop) : Prop := P_X9_within x1 0 (i_site_order_places - 1) (fun r_1 => ((r_1 = 0 → post (-1)) ∧ (¬ r_1 = 0 → (vp_in x1 64 ∧ post (f_site_order_block x1.toNatClampNeg)))))
set_option maxRecDepth 100000 in
set_option maxHeartbeats 4000000 in
theorem c_X9_ordered (l : Launch) (D : va_G) (cI cB cS : ClassId) (a_this a_site a_site_order a_site_order_block a_sawyer a_foreman a_images a_site_wall a_site_plan a_site_river a_site_yard : Nat) (x1 : Int32) (i_site_limit : Int32) (i_site_saw : Int32) (i_site_day : Int32) (i_site_order_places : Int32) (f_site_order_block : Nat → Int32) (post : Int32 → Prop) (hV : P_X9_ordered x1 i_site_order_places f_site_order_block post) : Ci l yX9_ordered cX9_ordered 2 (some .int) rm_X9_ordered D cI cB cS [.ref a_this, .int x1] [oc a_this 8 [.ref a_site, .ref a_sawyer, .ref a_foreman, .ref a_images], oc a_site 5 [.int i_site_limit, .int i_site_saw, .int i_site_day, .ref a_site_wall, .ref a_site_plan, .ref a_site_river, .ref a_site_yard, .ref a_site_order], oc a_site_order 1 [.int i_site_order_places, .ref a_site_order_block], ai cI a_site_order_block 64 f_site_order_block] (fun r (_ : Unit) => post r) (fun (_ : Unit) => [oc a_this 8 [.ref a_site, .ref a_sawyer, .ref a_foreman, .ref a_images], oc a_site 5 [.int i_site_limit, .int i_site_saw, .int i_site_day, .ref a_site_wall, .ref a_site_plan, .ref a_site_river, .ref a_site_yard, .ref a_site_order], oc a_site_order 1 [.int i_site_order_places, .ref a_site_order_block], ai cI a_site_order_block 64 f_site_order_block]) := by
  refine Ci.of ok_X9_ordered (Nat.le_of_ble_eq_true rfl) ?_
  intro p e s m args below meth c A Q hx hb hml hown ht hnm hK hP hA hS hret ls hl
  have hown : s.vm.findClass RX9 = some m.cls := hown
  have FX : CallFix p m c cX9_ordered 2 s args tblG RX9 := ⟨hx, hb, hml, hown, ht⟩
  have hP : PD D A [oc a_this 8 [.ref a_site, .ref a_sawyer, .ref a_foreman, .ref a_images], oc a_site 5 [.int i_site_limit, .int i_site_saw, .int i_site_day, .ref a_site_wall, .ref a_site_plan, .ref a_site_river, .ref a_site_yard, .ref a_site_order], oc a_site_order 1 [.int i_site_order_places, .ref a_site_order_block], ai cI a_site_order_block 64 f_site_order_block] s.heap := hP
  have hl : lv_has ls 2 [(0, .ref a_this), (1, .int x1)] := hl
  unfold P_X9_ordered at hV
  refine lv_iload_n hx hb dX9_ordered_0 rfl (lv_at hl 1 rfl) ?_
  refine lv_iconst (v := 0) hx hb dX9_ordered_1 (by decide) ?_
  refine lv_aload_n hx hb dX9_ordered_2 rfl (lv_at hl 0 rfl) ?_
  refine gX9 hx hb ht hown hK hP 0 rfl 0 (by decide) fl_X9_12 (fun _ h => h) rfl dX9_ordered_3 ?_
  refine gX5 hx hb ht hown hK hP 1 rfl 7 (by decide) fl_X9_173 (fun _ h => h) rfl dX9_ordered_6 ?_
  refine gX1 hx hb ht hown hK hP 2 rfl 0 (by decide) fl_X9_177 (fun _ h => h) rfl dX9_ordered_9 ?_
  refine lv_iconst (v := 1) hx hb dX9_ordered_12 (by decide) ?_
  refine lv_isub hx hb dX9_ordered_13 ?_
  refine KSi (As := [.int x1, .int 0, .int (i_site_order_places - 1)]) (rest := []) FX (c_X9_within l D cI cB cS x1 0 (i_site_order_places - 1) _ hV) ok_X9_within is_X9_within li_X9_34 dX9_ordered_14 hK hP hS hA [] [0, 1, 2, 3] rfl rfl (by decide) rfl hl.1 (Nat.le_of_ble_eq_true rfl) ⟨Nat.le_of_ble_eq_true rfl, Nat.le_of_ble_eq_true rfl⟩ ⟨Nat.le_of_ble_eq_true rfl, Nat.le_of_ble_eq_true rfl⟩ (fun r_1 _ H locs hV hP hS => ?_)
  have hP : PD D A [oc a_this 8 [.ref a_site, .ref a_sawyer, .ref a_foreman, .ref a_images], oc a_site 5 [.int i_site_limit, .int i_site_saw, .int i_site_day, .ref a_site_wall, .ref a_site_plan, .ref a_site_river, .ref a_site_yard, .ref a_site_order], oc a_site_order 1 [.int i_site_order_places, .ref a_site_order_block], ai cI a_site_order_block 64 f_site_order_block] H := hP
  refine lv_if_ne (tgt := 22) hx hb dX9_ordered_17 (by decide) (fun h => ?_) (fun h => ?_)
  · have hV := hV.2 h
    refine lv_aload_n hx hb dX9_ordered_22 rfl (lv_at hl 0 rfl) ?_
    refine gX9 hx hb ht hown hK hP 0 rfl 0 (by decide) fl_X9_12 (fun _ h => h) rfl dX9_ordered_23 ?_
    refine gX5 hx hb ht hown hK hP 1 rfl 7 (by decide) fl_X9_173 (fun _ h => h) rfl dX9_ordered_26 ?_
    refine gX1 hx hb ht hown hK hP 2 rfl 1 (by decide) fl_X9_182 (fun _ h => h) rfl dX9_ordered_29 ?_
    refine lv_iload_n hx hb dX9_ordered_32 rfl (lv_at hl 1 rfl) ?_
    refine ild hx hb hK hP 3 rfl dX9_ordered_33 hV.1 ?_
    have hV := hV.2
    exact hret _ _ _ _ _ () hS dX9_ordered_34 hP hV
  · have hV := hV.1 h
    refine lv_iconst (v := (-1)) hx hb dX9_ordered_20 (by decide) ?_
    exact hret _ _ _ _ _ () hS dX9_ordered_21 hP hV

def rm_X9_piled : Room := { frames := 1, cells := 0, slots := 0, locals := 24 }
def P_X9_piled (x1 : Int32) (x2 : Int32) (i_site_plan_blocks : Int32) (i_site_yard_piles : Int32) (f_site_yard_pileOf : Nat → Int32) (f_site_yard_placeOf : Nat → Int32) (post : Int32 → Prop) : Prop := P_X9_within x1 0 (i_site_yard_piles - 1) (fun r_1 => ((r_1 = 0 → post (-1)) ∧ (¬ r_1 = 0 → P_X8_blockIn x1 x2 i_site_plan_blocks f_site_yard_pileOf f_site_yard_placeOf (fun r_2 => post r_2))))
set_option maxRecDepth 100000 in
set_option maxHeartbeats 4000000 in
theorem c_X9_piled (l : Launch) (D : va_G) (cI cB cS : ClassId) (a_this a_site a_site_plan a_site_yard a_site_yard_pileOf a_site_yard_placeOf a_sawyer a_foreman a_images a_site_wall a_site_river a_site_order a_site_plan_left a_site_plan_low a_site_plan_columns a_site_plan_rows a_site_plan_turn a_site_plan_blockAt a_site_yard_takenOn a_site_yard_uppermost : Nat) (x1 : Int32) (x2 : Int32) (i_site_limit : Int32) (i_site_saw : Int32) (i_site_day : Int32) (i_site_plan_blocks : Int32) (i_site_plan_sawn : Int32) (i_site_yard_taken : Int32) (i_site_yard_piles : Int32) (f_site_yard_pileOf : Nat → Int32) (f_site_yard_placeOf : Nat → Int32) (post : Int32 → Prop) (hV : P_X9_piled x1 x2 i_site_plan_blocks i_site_yard_piles f_site_yard_pileOf f_site_yard_placeOf post) : Ci l yX9_piled cX9_piled 3 (some .int) rm_X9_piled D cI cB cS [.ref a_this, .int x1, .int x2] [oc a_this 8 [.ref a_site, .ref a_sawyer, .ref a_foreman, .ref a_images], oc a_site 5 [.int i_site_limit, .int i_site_saw, .int i_site_day, .ref a_site_wall, .ref a_site_plan, .ref a_site_river, .ref a_site_yard, .ref a_site_order], oc a_site_plan 2 [.int i_site_plan_blocks, .int i_site_plan_sawn, .ref a_site_plan_left, .ref a_site_plan_low, .ref a_site_plan_columns, .ref a_site_plan_rows, .ref a_site_plan_turn, .ref a_site_plan_blockAt], oc a_site_yard 7 [.int i_site_yard_taken, .int i_site_yard_piles, .ref a_site_yard_takenOn, .ref a_site_yard_pileOf, .ref a_site_yard_placeOf, .ref a_site_yard_uppermost], ai cI a_site_yard_pileOf 64 f_site_yard_pileOf, ai cI a_site_yard_placeOf 64 f_site_yard_placeOf] (fun r (_ : Unit) => post r) (fun (_ : Unit) => [oc a_this 8 [.ref a_site, .ref a_sawyer, .ref a_foreman, .ref a_images], oc a_site 5 [.int i_site_limit, .int i_site_saw, .int i_site_day, .ref a_site_wall, .ref a_site_plan, .ref a_site_river, .ref a_site_yard, .ref a_site_order], oc a_site_plan 2 [.int i_site_plan_blocks, .int i_site_plan_sawn, .ref a_site_plan_left, .ref a_site_plan_low, .ref a_site_plan_columns, .ref a_site_plan_rows, .ref a_site_plan_turn, .ref a_site_plan_blockAt], oc a_site_yard 7 [.int i_site_yard_taken, .int i_site_yard_piles, .ref a_site_yard_takenOn, .ref a_site_yard_pileOf, .ref a_site_yard_placeOf, .ref a_site_yard_uppermost], ai cI a_site_yard_pileOf 64 f_site_yard_pileOf, ai cI a_site_yard_placeOf 64 f_site_yard_placeOf]) := by
  refine Ci.of ok_X9_piled (Nat.le_of_ble_eq_true rfl) ?_
  intro p e s m args below meth c A Q hx hb hml hown ht hnm hK hP hA hS hret ls hl
  have hown : s.vm.findClass RX9 = some m.cls := hown
  have FX : CallFix p m c cX9_piled 3 s args tblG RX9 := ⟨hx, hb, hml, hown, ht⟩
  have hP : PD D A [oc a_this 8 [.ref a_site, .ref a_sawyer, .ref a_foreman, .ref a_images], oc a_site 5 [.int i_site_limit, .int i_site_saw, .int i_site_day, .ref a_site_wall, .ref a_site_plan, .ref a_site_river, .ref a_site_yard, .ref a_site_order], oc a_site_plan 2 [.int i_site_plan_blocks, .int i_site_plan_sawn, .ref a_site_plan_left, .ref a_site_plan_low, .ref a_site_plan_columns, .ref a_site_plan_rows, .ref a_site_plan_turn, .ref a_site_plan_blockAt], oc a_site_yard 7 [.int i_site_yard_taken, .int i_site_yard_piles, .ref a_site_yard_takenOn, .ref a_site_yard_pileOf, .ref a_site_yard_placeOf, .ref a_site_yard_uppermost], ai cI a_site_yard_pileOf 64 f_site_yard_pileOf, ai cI a_site_yard_placeOf 64 f_site_yard_placeOf] s.heap := hP
  have hl : lv_has ls 3 [(0, .ref a_this), (1, .int x1), (2, .int x2)] := hl
  unfold P_X9_piled at hV
  refine lv_iload_n hx hb dX9_piled_0 rfl (lv_at hl 1 rfl) ?_
  refine lv_iconst (v := 0) hx hb dX9_piled_1 (by decide) ?_
  refine lv_aload_n hx hb dX9_piled_2 rfl (lv_at hl 0 rfl) ?_
  refine gX9 hx hb ht hown hK hP 0 rfl 0 (by decide) fl_X9_12 (fun _ h => h) rfl dX9_piled_3 ?_
  refine gX5 hx hb ht hown hK hP 1 rfl 6 (by decide) fl_X9_123 (fun _ h => h) rfl dX9_piled_6 ?_
  refine gX8 hx hb ht hown hK hP 3 rfl 1 (by decide) fl_X9_185 (fun _ h => h) rfl dX9_piled_9 ?_
  refine lv_iconst (v := 1) hx hb dX9_piled_12 (by decide) ?_
  refine lv_isub hx hb dX9_piled_13 ?_
  refine KSi (As := [.int x1, .int 0, .int (i_site_yard_piles - 1)]) (rest := []) FX (c_X9_within l D cI cB cS x1 0 (i_site_yard_piles - 1) _ hV) ok_X9_within is_X9_within li_X9_34 dX9_piled_14 hK hP hS hA [] [0, 1, 2, 3, 4, 5] rfl rfl (by decide) rfl hl.1 (Nat.le_of_ble_eq_true rfl) ⟨Nat.le_of_ble_eq_true rfl, Nat.le_of_ble_eq_true rfl⟩ ⟨Nat.le_of_ble_eq_true rfl, Nat.le_of_ble_eq_true rfl⟩ (fun r_1 _ H locs hV hP hS => ?_)
  have hP : PD D A [oc a_this 8 [.ref a_site, .ref a_sawyer, .ref a_foreman, .ref a_images], oc a_site 5 [.int i_site_limit, .int i_site_saw, .int i_site_day, .ref a_site_wall, .ref a_site_plan, .ref a_site_river, .ref a_site_yard, .ref a_site_order], oc a_site_plan 2 [.int i_site_plan_blocks, .int i_site_plan_sawn, .ref a_site_plan_left, .ref a_site_plan_low, .ref a_site_plan_columns, .ref a_site_plan_rows, .ref a_site_plan_turn, .ref a_site_plan_blockAt], oc a_site_yard 7 [.int i_site_yard_taken, .int i_site_yard_piles, .ref a_site_yard_takenOn, .ref a_site_yard_pileOf, .ref a_site_yard_placeOf, .ref a_site_yard_uppermost], ai cI a_site_yard_pileOf 64 f_site_yard_pileOf, ai cI a_site_yard_placeOf 64 f_site_yard_placeOf] H := hP
  refine lv_if_ne (tgt := 22) hx hb dX9_piled_17 (by decide) (fun h => ?_) (fun h => ?_)
  · have hV := hV.2 h
    refine lv_aload_n hx hb dX9_piled_22 rfl (lv_at hl 0 rfl) ?_
    refine gX9 hx hb ht hown hK hP 0 rfl 0 (by decide) fl_X9_12 (fun _ h => h) rfl dX9_piled_23 ?_
    refine gX5 hx hb ht hown hK hP 1 rfl 6 (by decide) fl_X9_123 (fun _ h => h) rfl dX9_piled_26 ?_
    refine lv_iload_n hx hb dX9_piled_29 rfl (lv_at hl 1 rfl) ?_
    refine lv_iload_n hx hb dX9_piled_30 rfl (lv_at hl 2 rfl) ?_
    refine lv_aload_n hx hb dX9_piled_31 rfl (lv_at hl 0 rfl) ?_
    refine gX9 hx hb ht hown hK hP 0 rfl 0 (by decide) fl_X9_12 (fun _ h => h) rfl dX9_piled_32 ?_
    refine gX5 hx hb ht hown hK hP 1 rfl 4 (by decide) fl_X9_87 (fun _ h => h) rfl dX9_piled_35 ?_
    refine gX2 hx hb ht hown hK hP 2 rfl 0 (by decide) fl_X9_95 (fun _ h => h) rfl dX9_piled_38 ?_
    refine KVi (As := [.int x1, .int x2, .int i_site_plan_blocks]) (rest := []) FX (c_X8_blockIn l D cI cB cS a_site_yard a_site_yard_pileOf a_site_yard_placeOf a_site_yard_takenOn a_site_yard_uppermost x1 x2 i_site_plan_blocks i_site_yard_taken i_site_yard_piles f_site_yard_pileOf f_site_yard_placeOf _ hV) ok_X8_blockIn im_X8_blockIn se_X8_blockIn li_X9_188 dX9_piled_41 hK hP hS hA [3, 4, 5] [0, 1, 2] 3 rfl rfl rfl (by decide) rfl rfl hl.1 (Nat.le_of_ble_eq_true rfl) ⟨Nat.le_of_ble_eq_true rfl, Nat.le_of_ble_eq_true rfl⟩ ⟨Nat.le_of_ble_eq_true rfl, Nat.le_of_ble_eq_true rfl⟩ (fun r_2 _ H locs hV hP hS => ?_)
    have hP : PD D A [oc a_this 8 [.ref a_site, .ref a_sawyer, .ref a_foreman, .ref a_images], oc a_site 5 [.int i_site_limit, .int i_site_saw, .int i_site_day, .ref a_site_wall, .ref a_site_plan, .ref a_site_river, .ref a_site_yard, .ref a_site_order], oc a_site_plan 2 [.int i_site_plan_blocks, .int i_site_plan_sawn, .ref a_site_plan_left, .ref a_site_plan_low, .ref a_site_plan_columns, .ref a_site_plan_rows, .ref a_site_plan_turn, .ref a_site_plan_blockAt], oc a_site_yard 7 [.int i_site_yard_taken, .int i_site_yard_piles, .ref a_site_yard_takenOn, .ref a_site_yard_pileOf, .ref a_site_yard_placeOf, .ref a_site_yard_uppermost], ai cI a_site_yard_pileOf 64 f_site_yard_pileOf, ai cI a_site_yard_placeOf 64 f_site_yard_placeOf] H := hP
    exact hret _ _ _ _ _ () hS dX9_piled_44 hP hV
  · have hV := hV.1 h
    refine lv_iconst (v := (-1)) hx hb dX9_piled_20 (by decide) ?_
    exact hret _ _ _ _ _ () hS dX9_piled_21 hP hV

def rm_X9_sun : Room := { frames := 2, cells := 0, slots := 0, locals := 33 }
def P_X9_sun (x1 : Int32) (post : Int32 → Prop) : Prop := P_X9_within x1 0 364 (fun r_1 => ((r_1 = 0 → post (-1000)) ∧ (¬ r_1 = 0 → P_X6_direction x1 (fun r_2 => post r_2))))
set_option maxRecDepth 100000 in
set_option maxHeartbeats 4000000 in
theorem c_X9_sun (l : Launch) (D : va_G) (cI cB cS : ClassId) (a_this : Nat) (x1 : Int32) (post : Int32 → Prop) (hV : P_X9_sun x1 post) : Ci l yX9_sun cX9_sun 2 (some .int) rm_X9_sun D cI cB cS [.ref a_this, .int x1] [] (fun r (_ : Unit) => post r) (fun (_ : Unit) => []) := by
  refine Ci.of ok_X9_sun (Nat.le_of_ble_eq_true rfl) ?_
  intro p e s m args below meth c A Q hx hb hml hown ht hnm hK hP hA hS hret ls hl
  have hown : s.vm.findClass RX9 = some m.cls := hown
  have FX : CallFix p m c cX9_sun 2 s args tblG RX9 := ⟨hx, hb, hml, hown, ht⟩
  have hP : PD D A [] s.heap := hP
  have hl : lv_has ls 2 [(0, .ref a_this), (1, .int x1)] := hl
  unfold P_X9_sun at hV
  refine lv_iload_n hx hb dX9_sun_0 rfl (lv_at hl 1 rfl) ?_
  refine lv_iconst (v := 0) hx hb dX9_sun_1 (by decide) ?_
  refine lv_sipush (v := 364) hx hb dX9_sun_2 (by decide) ?_
  refine KSi (As := [.int x1, .int 0, .int 364]) (rest := []) FX (c_X9_within l D cI cB cS x1 0 364 _ hV) ok_X9_within is_X9_within li_X9_34 dX9_sun_5 hK hP hS hA [] [] rfl rfl (by decide) rfl hl.1 (Nat.le_of_ble_eq_true rfl) ⟨Nat.le_of_ble_eq_true rfl, Nat.le_of_ble_eq_true rfl⟩ ⟨Nat.le_of_ble_eq_true rfl, Nat.le_of_ble_eq_true rfl⟩ (fun r_1 _ H locs hV hP hS => ?_)
  have hP : PD D A [] H := hP
  refine lv_if_ne (tgt := 15) hx hb dX9_sun_8 (by decide) (fun h => ?_) (fun h => ?_)
  · have hV := hV.2 h
    refine lv_iload_n hx hb dX9_sun_15 rfl (lv_at hl 1 rfl) ?_
    refine KSi (As := [.int x1]) (rest := []) FX (c_X6_direction l D cI cB cS x1 _ hV) ok_X6_direction is_X6_direction li_X9_192 dX9_sun_16 hK hP hS hA [] [] rfl rfl (by decide) rfl hl.1 (Nat.le_of_ble_eq_true rfl) ⟨Nat.le_of_ble_eq_true rfl, Nat.le_of_ble_eq_true rfl⟩ ⟨Nat.le_of_ble_eq_true rfl, Nat.le_of_ble_eq_true rfl⟩ (fun r_2 _ H locs hV hP hS => ?_)
    have hP : PD D A [] H := hP
    exact hret _ _ _ _ _ () hS dX9_sun_19 hP hV
  · have hV := hV.1 h
    refine lv_sipush (v := (-1000)) hx hb dX9_sun_11 (by decide) ?_
    exact hret _ _ _ _ _ () hS dX9_sun_14 hP hV

def rm_X9_strikes : Room := { frames := 2, cells := 0, slots := 0, locals := 43 }
def P_X9_strikes (x1 : Int32) (x2 : Int32) (post : Int32 → Prop) : Prop := P_X9_isPlace x1 x2 (fun r_1 => ((r_1 = 0 → post (-1)) ∧ (¬ r_1 = 0 → P_X6_daysBetween (x1 - x2) (x1 + x2) (fun r_2 => post r_2))))
set_option maxRecDepth 100000 in
set_option maxHeartbeats 4000000 in
theorem c_X9_strikes (l : Launch) (D : va_G) (cI cB cS : ClassId) (a_this : Nat) (x1 : Int32) (x2 : Int32) (post : Int32 → Prop) (hV : P_X9_strikes x1 x2 post) : Ci l yX9_strikes cX9_strikes 3 (some .int) rm_X9_strikes D cI cB cS [.ref a_this, .int x1, .int x2] [] (fun r (_ : Unit) => post r) (fun (_ : Unit) => []) := by
  refine Ci.of ok_X9_strikes (Nat.le_of_ble_eq_true rfl) ?_
  intro p e s m args below meth c A Q hx hb hml hown ht hnm hK hP hA hS hret ls hl
  have hown : s.vm.findClass RX9 = some m.cls := hown
  have FX : CallFix p m c cX9_strikes 3 s args tblG RX9 := ⟨hx, hb, hml, hown, ht⟩
  have hP : PD D A [] s.heap := hP
  have hl : lv_has ls 3 [(0, .ref a_this), (1, .int x1), (2, .int x2)] := hl
  unfold P_X9_strikes at hV
  refine lv_iload_n hx hb dX9_strikes_0 rfl (lv_at hl 1 rfl) ?_
  refine lv_iload_n hx hb dX9_strikes_1 rfl (lv_at hl 2 rfl) ?_
  refine KSi (As := [.int x1, .int x2]) (rest := []) FX (c_X9_isPlace l D cI cB cS x1 x2 _ hV) ok_X9_isPlace is_X9_isPlace li_X9_197 dX9_strikes_2 hK hP hS hA [] [] rfl rfl (by decide) rfl hl.1 (Nat.le_of_ble_eq_true rfl) ⟨Nat.le_of_ble_eq_true rfl, Nat.le_of_ble_eq_true rfl⟩ ⟨Nat.le_of_ble_eq_true rfl, Nat.le_of_ble_eq_true rfl⟩ (fun r_1 _ H locs hV hP hS => ?_)
  have hP : PD D A [] H := hP
  refine lv_if_ne (tgt := 10) hx hb dX9_strikes_5 (by decide) (fun h => ?_) (fun h => ?_)
  · have hV := hV.2 h
    refine lv_iload_n hx hb dX9_strikes_10 rfl (lv_at hl 1 rfl) ?_
    refine lv_iload_n hx hb dX9_strikes_11 rfl (lv_at hl 2 rfl) ?_
    refine lv_isub hx hb dX9_strikes_12 ?_
    refine lv_iload_n hx hb dX9_strikes_13 rfl (lv_at hl 1 rfl) ?_
    refine lv_iload_n hx hb dX9_strikes_14 rfl (lv_at hl 2 rfl) ?_
    refine lv_iadd hx hb dX9_strikes_15 ?_
    refine KSi (As := [.int (x1 - x2), .int (x1 + x2)]) (rest := []) FX (c_X6_daysBetween l D cI cB cS (x1 - x2) (x1 + x2) _ hV) ok_X6_daysBetween is_X6_daysBetween li_X9_200 dX9_strikes_16 hK hP hS hA [] [] rfl rfl (by decide) rfl hl.1 (Nat.le_of_ble_eq_true rfl) ⟨Nat.le_of_ble_eq_true rfl, Nat.le_of_ble_eq_true rfl⟩ ⟨Nat.le_of_ble_eq_true rfl, Nat.le_of_ble_eq_true rfl⟩ (fun r_2 _ H locs hV hP hS => ?_)
    have hP : PD D A [] H := hP
    exact hret _ _ _ _ _ () hS dX9_strikes_19 hP hV
  · have hV := hV.1 h
    refine lv_iconst (v := (-1)) hx hb dX9_strikes_8 (by decide) ?_
    exact hret _ _ _ _ _ () hS dX9_strikes_9 hP hV

def rm_X9_like : Room := { frames := 3, cells := 0, slots := 0, locals := 70 }
def P_X9_like (x1 : Int32) (x2 : Int32) (x3 : Int32) (post : Int32 → Prop) : Prop := P_X9_isPlace x1 x2 (fun r_1 => ((r_1 = 0 → post (-1000)) ∧ (¬ r_1 = 0 → P_X9_isPlace x1 x3 (fun r_2 => ((r_2 = 0 → post (-1000)) ∧ (¬ r_2 = 0 → P_X6_mostAlike x1 x2 x3 (fun r_3 => post r_3)))))))
set_option maxRecDepth 100000 in
set_option maxHeartbeats 4000000 in
theorem c_X9_like (l : Launch) (D : va_G) (cI cB cS : ClassId) (a_this : Nat) (x1 : Int32) (x2 : Int32) (x3 : Int32) (post : Int32 → Prop) (hV : P_X9_like x1 x2 x3 post) : Ci l yX9_like cX9_like 4 (some .int) rm_X9_like D cI cB cS [.ref a_this, .int x1, .int x2, .int x3] [] (fun r (_ : Unit) => post r) (fun (_ : Unit) => []) := by
  refine Ci.of ok_X9_like (Nat.le_of_ble_eq_true rfl) ?_
  intro p e s m args below meth c A Q hx hb hml hown ht hnm hK hP hA hS hret ls hl
  have hown : s.vm.findClass RX9 = some m.cls := hown
  have FX : CallFix p m c cX9_like 4 s args tblG RX9 := ⟨hx, hb, hml, hown, ht⟩
  have hP : PD D A [] s.heap := hP
  have hl : lv_has ls 4 [(0, .ref a_this), (1, .int x1), (2, .int x2), (3, .int x3)] := hl
  unfold P_X9_like at hV
  refine lv_iload_n hx hb dX9_like_0 rfl (lv_at hl 1 rfl) ?_
  refine lv_iload_n hx hb dX9_like_1 rfl (lv_at hl 2 rfl) ?_
  refine KSi (As := [.int x1, .int x2]) (rest := []) FX (c_X9_isPlace l D cI cB cS x1 x2 _ hV) ok_X9_isPlace is_X9_isPlace li_X9_197 dX9_like_2 hK hP hS hA [] [] rfl rfl (by decide) rfl hl.1 (Nat.le_of_ble_eq_true rfl) ⟨Nat.le_of_ble_eq_true rfl, Nat.le_of_ble_eq_true rfl⟩ ⟨Nat.le_of_ble_eq_true rfl, Nat.le_of_ble_eq_true rfl⟩ (fun r_1 _ H locs hV hP hS => ?_)
  have hP : PD D A [] H := hP
  refine lv_if_eq (tgt := 16) hx hb dX9_like_5 (by decide) (fun h => ?_) (fun h => ?_)
  · have hV := hV.1 h
    refine lv_sipush (v := (-1000)) hx hb dX9_like_16 (by decide) ?_
    exact hret _ _ _ _ _ () hS dX9_like_19 hP hV
  · have hV := hV.2 h
    refine lv_iload_n hx hb dX9_like_8 rfl (lv_at hl 1 rfl) ?_
    refine lv_iload_n hx hb dX9_like_9 rfl (lv_at hl 3 rfl) ?_
    refine KSi (As := [.int x1, .int x3]) (rest := []) FX (c_X9_isPlace l D cI cB cS x1 x3 _ hV) ok_X9_isPlace is_X9_isPlace li_X9_197 dX9_like_10 hK hP hS hA [] [] rfl rfl (by decide) rfl hl.1 (Nat.le_of_ble_eq_true rfl) ⟨Nat.le_of_ble_eq_true rfl, Nat.le_of_ble_eq_true rfl⟩ ⟨Nat.le_of_ble_eq_true rfl, Nat.le_of_ble_eq_true rfl⟩ (fun r_2 _ H locs hV hP hS => ?_)
    have hP : PD D A [] H := hP
    refine lv_if_ne (tgt := 20) hx hb dX9_like_13 (by decide) (fun h => ?_) (fun h => ?_)
    · have hV := hV.2 h
      refine lv_iload_n hx hb dX9_like_20 rfl (lv_at hl 1 rfl) ?_
      refine lv_iload_n hx hb dX9_like_21 rfl (lv_at hl 2 rfl) ?_
      refine lv_iload_n hx hb dX9_like_22 rfl (lv_at hl 3 rfl) ?_
      refine KSi (As := [.int x1, .int x2, .int x3]) (rest := []) FX (c_X6_mostAlike l D cI cB cS x1 x2 x3 _ hV) ok_X6_mostAlike is_X6_mostAlike li_X9_203 dX9_like_23 hK hP hS hA [] [] rfl rfl (by decide) rfl hl.1 (Nat.le_of_ble_eq_true rfl) ⟨Nat.le_of_ble_eq_true rfl, Nat.le_of_ble_eq_true rfl⟩ ⟨Nat.le_of_ble_eq_true rfl, Nat.le_of_ble_eq_true rfl⟩ (fun r_3 _ H locs hV hP hS => ?_)
      have hP : PD D A [] H := hP
      exact hret _ _ _ _ _ () hS dX9_like_26 hP hV
    · have hV := hV.1 h
      refine lv_sipush (v := (-1000)) hx hb dX9_like_16 (by decide) ?_
      exact hret _ _ _ _ _ () hS dX9_like_19 hP hV

def rm_X9_count : Room := { frames := 2, cells := 0, slots := 0, locals := 48 }
def P_X9_count (x1 : Int32) (i_site_limit : Int32) (i_site_saw : Int32) (i_site_day : Int32) (i_site_wall_columns : Int32) (i_site_wall_rows : Int32) (f_site_wall_weight : Nat → Int32) (i_site_plan_blocks : Int32) (i_site_plan_sawn : Int32) (i_site_yard_taken : Int32) (i_site_yard_piles : Int32) (i_site_order_places : Int32) (post : Int32 → Prop) : Prop := ((x1 = 0 → post i_site_wall_columns) ∧ (¬ x1 = 0 → ((x1 = 1 → post i_site_wall_rows) ∧ (¬ x1 = 1 → ((x1 = 2 → post i_site_plan_blocks) ∧ (¬ x1 = 2 → ((x1 = 3 → post i_site_yard_taken) ∧ (¬ x1 = 3 → ((x1 = 4 → post i_site_plan_sawn) ∧ (¬ x1 = 4 → ((x1 = 5 → post i_site_yard_piles) ∧ (¬ x1 = 5 → ((x1 = 6 → post i_site_day) ∧ (¬ x1 = 6 → ((x1 = 7 → P_X7_weightOf 0 i_site_wall_columns 0 i_site_wall_rows f_site_wall_weight (fun r_1 => post r_1)) ∧ (¬ x1 = 7 → ((x1 = 8 → post i_site_limit) ∧ (¬ x1 = 8 → ((x1 = 9 → post i_site_saw) ∧ (¬ x1 = 9 → ((x1 = 10 → post i_site_order_places) ∧ (¬ x1 = 10 → post (-1)))))))))))))))))))))))
set_option maxRecDepth 100000 in
set_option maxHeartbeats 4000000 in
theorem c_X9_count (l : Launch) (D : va_G) (cI cB cS : ClassId) (a_this a_site a_site_wall a_site_wall_weight a_site_plan a_site_yard a_site_order a_sawyer a_foreman a_images a_site_river a_site_wall_motif a_site_plan_left a_site_plan_low a_site_plan_columns a_site_plan_rows a_site_plan_turn a_site_plan_blockAt a_site_yard_takenOn a_site_yard_pileOf a_site_yard_placeOf a_site_yard_uppermost a_site_order_block : Nat) (x1 : Int32) (i_site_limit : Int32) (i_site_saw : Int32) (i_site_day : Int32) (i_site_wall_columns : Int32) (i_site_wall_rows : Int32) (f_site_wall_weight : Nat → Int32) (i_site_plan_blocks : Int32) (i_site_plan_sawn : Int32) (i_site_yard_taken : Int32) (i_site_yard_piles : Int32) (i_site_order_places : Int32) (post : Int32 → Prop) (hV : P_X9_count x1 i_site_limit i_site_saw i_site_day i_site_wall_columns i_site_wall_rows f_site_wall_weight i_site_plan_blocks i_site_plan_sawn i_site_yard_taken i_site_yard_piles i_site_order_places post) : Ci l yX9_count cX9_count 2 (some .int) rm_X9_count D cI cB cS [.ref a_this, .int x1] [oc a_this 8 [.ref a_site, .ref a_sawyer, .ref a_foreman, .ref a_images], oc a_site 5 [.int i_site_limit, .int i_site_saw, .int i_site_day, .ref a_site_wall, .ref a_site_plan, .ref a_site_river, .ref a_site_yard, .ref a_site_order], oc a_site_wall 6 [.int i_site_wall_columns, .int i_site_wall_rows, .ref a_site_wall_weight, .ref a_site_wall_motif], ai cI a_site_wall_weight 64 f_site_wall_weight, oc a_site_plan 2 [.int i_site_plan_blocks, .int i_site_plan_sawn, .ref a_site_plan_left, .ref a_site_plan_low, .ref a_site_plan_columns, .ref a_site_plan_rows, .ref a_site_plan_turn, .ref a_site_plan_blockAt], oc a_site_yard 7 [.int i_site_yard_taken, .int i_site_yard_piles, .ref a_site_yard_takenOn, .ref a_site_yard_pileOf, .ref a_site_yard_placeOf, .ref a_site_yard_uppermost], oc a_site_order 1 [.int i_site_order_places, .ref a_site_order_block]] (fun r (_ : Unit) => post r) (fun (_ : Unit) => [oc a_this 8 [.ref a_site, .ref a_sawyer, .ref a_foreman, .ref a_images], oc a_site 5 [.int i_site_limit, .int i_site_saw, .int i_site_day, .ref a_site_wall, .ref a_site_plan, .ref a_site_river, .ref a_site_yard, .ref a_site_order], oc a_site_wall 6 [.int i_site_wall_columns, .int i_site_wall_rows, .ref a_site_wall_weight, .ref a_site_wall_motif], ai cI a_site_wall_weight 64 f_site_wall_weight, oc a_site_plan 2 [.int i_site_plan_blocks, .int i_site_plan_sawn, .ref a_site_plan_left, .ref a_site_plan_low, .ref a_site_plan_columns, .ref a_site_plan_rows, .ref a_site_plan_turn, .ref a_site_plan_blockAt], oc a_site_yard 7 [.int i_site_yard_taken, .int i_site_yard_piles, .ref a_site_yard_takenOn, .ref a_site_yard_pileOf, .ref a_site_yard_placeOf, .ref a_site_yard_uppermost], oc a_site_order 1 [.int i_site_order_places, .ref a_site_order_block]]) := by
  refine Ci.of ok_X9_count (Nat.le_of_ble_eq_true rfl) ?_
  intro p e s m args below meth c A Q hx hb hml hown ht hnm hK hP hA hS hret ls hl
  have hown : s.vm.findClass RX9 = some m.cls := hown
  have FX : CallFix p m c cX9_count 2 s args tblG RX9 := ⟨hx, hb, hml, hown, ht⟩
  have hP : PD D A [oc a_this 8 [.ref a_site, .ref a_sawyer, .ref a_foreman, .ref a_images], oc a_site 5 [.int i_site_limit, .int i_site_saw, .int i_site_day, .ref a_site_wall, .ref a_site_plan, .ref a_site_river, .ref a_site_yard, .ref a_site_order], oc a_site_wall 6 [.int i_site_wall_columns, .int i_site_wall_rows, .ref a_site_wall_weight, .ref a_site_wall_motif], ai cI a_site_wall_weight 64 f_site_wall_weight, oc a_site_plan 2 [.int i_site_plan_blocks, .int i_site_plan_sawn, .ref a_site_plan_left, .ref a_site_plan_low, .ref a_site_plan_columns, .ref a_site_plan_rows, .ref a_site_plan_turn, .ref a_site_plan_blockAt], oc a_site_yard 7 [.int i_site_yard_taken, .int i_site_yard_piles, .ref a_site_yard_takenOn, .ref a_site_yard_pileOf, .ref a_site_yard_placeOf, .ref a_site_yard_uppermost], oc a_site_order 1 [.int i_site_order_places, .ref a_site_order_block]] s.heap := hP
  have hl : lv_has ls 2 [(0, .ref a_this), (1, .int x1)] := hl
  unfold P_X9_count at hV
  refine lv_iload_n hx hb dX9_count_0 rfl (lv_at hl 1 rfl) ?_
  by_cases h_c0 : x1 = 0
  · have hV := hV.1 h_c0
    refine lv_tableIn (off := 59) (tgt := 60) hx hb dX9_count_1 (by rw [h_c0]; decide) (by rw [h_c0]; decide) (by rw [h_c0]; rfl) (by decide) ?_
    refine lv_aload_n hx hb dX9_count_60 rfl (lv_at hl 0 rfl) ?_
    refine gX9 hx hb ht hown hK hP 0 rfl 0 (by decide) fl_X9_12 (fun _ h => h) rfl dX9_count_61 ?_
    refine gX5 hx hb ht hown hK hP 1 rfl 3 (by decide) fl_X9_38 (fun _ h => h) rfl dX9_count_64 ?_
    refine gX7 hx hb ht hown hK hP 2 rfl 0 (by decide) fl_X9_70 (fun _ h => h) rfl dX9_count_67 ?_
    exact hret _ _ _ _ _ () hS dX9_count_70 hP hV
  · have hV := hV.2 h_c0
    have h_c0 : ¬ x1 = nI 0 := h_c0
    by_cases h_c1 : x1 = 1
    · have hV := hV.1 h_c1
      refine lv_tableIn (off := 70) (tgt := 71) hx hb dX9_count_1 (by rw [h_c1]; decide) (by rw [h_c1]; decide) (by rw [h_c1]; rfl) (by decide) ?_
      refine lv_aload_n hx hb dX9_count_71 rfl (lv_at hl 0 rfl) ?_
      refine gX9 hx hb ht hown hK hP 0 rfl 0 (by decide) fl_X9_12 (fun _ h => h) rfl dX9_count_72 ?_
      refine gX5 hx hb ht hown hK hP 1 rfl 3 (by decide) fl_X9_38 (fun _ h => h) rfl dX9_count_75 ?_
      refine gX7 hx hb ht hown hK hP 2 rfl 1 (by decide) fl_X9_206 (fun _ h => h) rfl dX9_count_78 ?_
      exact hret _ _ _ _ _ () hS dX9_count_81 hP hV
    · have hV := hV.2 h_c1
      have h_c1 : ¬ x1 = nI 1 := h_c1
      by_cases h_c2 : x1 = 2
      · have hV := hV.1 h_c2
        refine lv_tableIn (off := 81) (tgt := 82) hx hb dX9_count_1 (by rw [h_c2]; decide) (by rw [h_c2]; decide) (by rw [h_c2]; rfl) (by decide) ?_
        refine lv_aload_n hx hb dX9_count_82 rfl (lv_at hl 0 rfl) ?_
        refine gX9 hx hb ht hown hK hP 0 rfl 0 (by decide) fl_X9_12 (fun _ h => h) rfl dX9_count_83 ?_
        refine gX5 hx hb ht hown hK hP 1 rfl 4 (by decide) fl_X9_87 (fun _ h => h) rfl dX9_count_86 ?_
        refine gX2 hx hb ht hown hK hP 4 rfl 0 (by decide) fl_X9_95 (fun _ h => h) rfl dX9_count_89 ?_
        exact hret _ _ _ _ _ () hS dX9_count_92 hP hV
      · have hV := hV.2 h_c2
        have h_c2 : ¬ x1 = nI 2 := h_c2
        by_cases h_c3 : x1 = 3
        · have hV := hV.1 h_c3
          refine lv_tableIn (off := 92) (tgt := 93) hx hb dX9_count_1 (by rw [h_c3]; decide) (by rw [h_c3]; decide) (by rw [h_c3]; rfl) (by decide) ?_
          refine lv_aload_n hx hb dX9_count_93 rfl (lv_at hl 0 rfl) ?_
          refine gX9 hx hb ht hown hK hP 0 rfl 0 (by decide) fl_X9_12 (fun _ h => h) rfl dX9_count_94 ?_
          refine gX5 hx hb ht hown hK hP 1 rfl 6 (by decide) fl_X9_123 (fun _ h => h) rfl dX9_count_97 ?_
          refine gX8 hx hb ht hown hK hP 5 rfl 0 (by decide) fl_X9_208 (fun _ h => h) rfl dX9_count_100 ?_
          exact hret _ _ _ _ _ () hS dX9_count_103 hP hV
        · have hV := hV.2 h_c3
          have h_c3 : ¬ x1 = nI 3 := h_c3
          by_cases h_c4 : x1 = 4
          · have hV := hV.1 h_c4
            refine lv_tableIn (off := 103) (tgt := 104) hx hb dX9_count_1 (by rw [h_c4]; decide) (by rw [h_c4]; decide) (by rw [h_c4]; rfl) (by decide) ?_
            refine lv_aload_n hx hb dX9_count_104 rfl (lv_at hl 0 rfl) ?_
            refine gX9 hx hb ht hown hK hP 0 rfl 0 (by decide) fl_X9_12 (fun _ h => h) rfl dX9_count_105 ?_
            refine gX5 hx hb ht hown hK hP 1 rfl 4 (by decide) fl_X9_87 (fun _ h => h) rfl dX9_count_108 ?_
            refine gX2 hx hb ht hown hK hP 4 rfl 1 (by decide) fl_X9_211 (fun _ h => h) rfl dX9_count_111 ?_
            exact hret _ _ _ _ _ () hS dX9_count_114 hP hV
          · have hV := hV.2 h_c4
            have h_c4 : ¬ x1 = nI 4 := h_c4
            by_cases h_c5 : x1 = 5
            · have hV := hV.1 h_c5
              refine lv_tableIn (off := 114) (tgt := 115) hx hb dX9_count_1 (by rw [h_c5]; decide) (by rw [h_c5]; decide) (by rw [h_c5]; rfl) (by decide) ?_
              refine lv_aload_n hx hb dX9_count_115 rfl (lv_at hl 0 rfl) ?_
              refine gX9 hx hb ht hown hK hP 0 rfl 0 (by decide) fl_X9_12 (fun _ h => h) rfl dX9_count_116 ?_
              refine gX5 hx hb ht hown hK hP 1 rfl 6 (by decide) fl_X9_123 (fun _ h => h) rfl dX9_count_119 ?_
              refine gX8 hx hb ht hown hK hP 5 rfl 1 (by decide) fl_X9_185 (fun _ h => h) rfl dX9_count_122 ?_
              exact hret _ _ _ _ _ () hS dX9_count_125 hP hV
            · have hV := hV.2 h_c5
              have h_c5 : ¬ x1 = nI 5 := h_c5
              by_cases h_c6 : x1 = 6
              · have hV := hV.1 h_c6
                refine lv_tableIn (off := 125) (tgt := 126) hx hb dX9_count_1 (by rw [h_c6]; decide) (by rw [h_c6]; decide) (by rw [h_c6]; rfl) (by decide) ?_
                refine lv_aload_n hx hb dX9_count_126 rfl (lv_at hl 0 rfl) ?_
                refine gX9 hx hb ht hown hK hP 0 rfl 0 (by decide) fl_X9_12 (fun _ h => h) rfl dX9_count_127 ?_
                refine gX5 hx hb ht hown hK hP 1 rfl 2 (by decide) fl_X9_159 (fun _ h => h) rfl dX9_count_130 ?_
                exact hret _ _ _ _ _ () hS dX9_count_133 hP hV
              · have hV := hV.2 h_c6
                have h_c6 : ¬ x1 = nI 6 := h_c6
                by_cases h_c7 : x1 = 7
                · have hV := hV.1 h_c7
                  refine lv_tableIn (off := 133) (tgt := 134) hx hb dX9_count_1 (by rw [h_c7]; decide) (by rw [h_c7]; decide) (by rw [h_c7]; rfl) (by decide) ?_
                  refine lv_aload_n hx hb dX9_count_134 rfl (lv_at hl 0 rfl) ?_
                  refine gX9 hx hb ht hown hK hP 0 rfl 0 (by decide) fl_X9_12 (fun _ h => h) rfl dX9_count_135 ?_
                  refine gX5 hx hb ht hown hK hP 1 rfl 3 (by decide) fl_X9_38 (fun _ h => h) rfl dX9_count_138 ?_
                  refine lv_iconst (v := 0) hx hb dX9_count_141 (by decide) ?_
                  refine lv_aload_n hx hb dX9_count_142 rfl (lv_at hl 0 rfl) ?_
                  refine gX9 hx hb ht hown hK hP 0 rfl 0 (by decide) fl_X9_12 (fun _ h => h) rfl dX9_count_143 ?_
                  refine gX5 hx hb ht hown hK hP 1 rfl 3 (by decide) fl_X9_38 (fun _ h => h) rfl dX9_count_146 ?_
                  refine gX7 hx hb ht hown hK hP 2 rfl 0 (by decide) fl_X9_70 (fun _ h => h) rfl dX9_count_149 ?_
                  refine lv_iconst (v := 0) hx hb dX9_count_152 (by decide) ?_
                  refine lv_aload_n hx hb dX9_count_153 rfl (lv_at hl 0 rfl) ?_
                  refine gX9 hx hb ht hown hK hP 0 rfl 0 (by decide) fl_X9_12 (fun _ h => h) rfl dX9_count_154 ?_
                  refine gX5 hx hb ht hown hK hP 1 rfl 3 (by decide) fl_X9_38 (fun _ h => h) rfl dX9_count_157 ?_
                  refine gX7 hx hb ht hown hK hP 2 rfl 1 (by decide) fl_X9_206 (fun _ h => h) rfl dX9_count_160 ?_
                  refine KVi (As := [.int 0, .int i_site_wall_columns, .int 0, .int i_site_wall_rows]) (rest := []) FX (c_X7_weightOf l D cI cB cS a_site_wall a_site_wall_weight a_site_wall_motif 0 i_site_wall_columns 0 i_site_wall_rows i_site_wall_columns i_site_wall_rows f_site_wall_weight _ hV) ok_X7_weightOf im_X7_weightOf se_X7_weightOf li_X9_214 dX9_count_163 hK hP hS hA [2, 3] [0, 1, 4, 5, 6] 2 rfl rfl rfl (by decide) rfl rfl hl.1 (Nat.le_of_ble_eq_true rfl) ⟨Nat.le_of_ble_eq_true rfl, Nat.le_of_ble_eq_true rfl⟩ ⟨Nat.le_of_ble_eq_true rfl, Nat.le_of_ble_eq_true rfl⟩ (fun r_1 _ H locs hV hP hS => ?_)
                  have hP : PD D A [oc a_this 8 [.ref a_site, .ref a_sawyer, .ref a_foreman, .ref a_images], oc a_site 5 [.int i_site_limit, .int i_site_saw, .int i_site_day, .ref a_site_wall, .ref a_site_plan, .ref a_site_river, .ref a_site_yard, .ref a_site_order], oc a_site_plan 2 [.int i_site_plan_blocks, .int i_site_plan_sawn, .ref a_site_plan_left, .ref a_site_plan_low, .ref a_site_plan_columns, .ref a_site_plan_rows, .ref a_site_plan_turn, .ref a_site_plan_blockAt], oc a_site_yard 7 [.int i_site_yard_taken, .int i_site_yard_piles, .ref a_site_yard_takenOn, .ref a_site_yard_pileOf, .ref a_site_yard_placeOf, .ref a_site_yard_uppermost], oc a_site_order 1 [.int i_site_order_places, .ref a_site_order_block], oc a_site_wall 6 [.int i_site_wall_columns, .int i_site_wall_rows, .ref a_site_wall_weight, .ref a_site_wall_motif], ai cI a_site_wall_weight 64 f_site_wall_weight] H := hP
                  exact hret _ _ _ _ _ () hS dX9_count_166 (hP.sub [0, 1, 5, 6, 2, 3, 4] rfl rfl) hV
                · have hV := hV.2 h_c7
                  have h_c7 : ¬ x1 = nI 7 := h_c7
                  by_cases h_c8 : x1 = 8
                  · have hV := hV.1 h_c8
                    refine lv_tableIn (off := 166) (tgt := 167) hx hb dX9_count_1 (by rw [h_c8]; decide) (by rw [h_c8]; decide) (by rw [h_c8]; rfl) (by decide) ?_
                    refine lv_aload_n hx hb dX9_count_167 rfl (lv_at hl 0 rfl) ?_
                    refine gX9 hx hb ht hown hK hP 0 rfl 0 (by decide) fl_X9_12 (fun _ h => h) rfl dX9_count_168 ?_
                    refine gX5 hx hb ht hown hK hP 1 rfl 0 (by decide) fl_X9_77 (fun _ h => h) rfl dX9_count_171 ?_
                    exact hret _ _ _ _ _ () hS dX9_count_174 hP hV
                  · have hV := hV.2 h_c8
                    have h_c8 : ¬ x1 = nI 8 := h_c8
                    by_cases h_c9 : x1 = 9
                    · have hV := hV.1 h_c9
                      refine lv_tableIn (off := 174) (tgt := 175) hx hb dX9_count_1 (by rw [h_c9]; decide) (by rw [h_c9]; decide) (by rw [h_c9]; rfl) (by decide) ?_
                      refine lv_aload_n hx hb dX9_count_175 rfl (lv_at hl 0 rfl) ?_
                      refine gX9 hx hb ht hown hK hP 0 rfl 0 (by decide) fl_X9_12 (fun _ h => h) rfl dX9_count_176 ?_
                      refine gX5 hx hb ht hown hK hP 1 rfl 1 (by decide) fl_X9_80 (fun _ h => h) rfl dX9_count_179 ?_
                      exact hret _ _ _ _ _ () hS dX9_count_182 hP hV
                    · have hV := hV.2 h_c9
                      have h_c9 : ¬ x1 = nI 9 := h_c9
                      by_cases h_c10 : x1 = 10
                      · have hV := hV.1 h_c10
                        refine lv_tableIn (off := 182) (tgt := 183) hx hb dX9_count_1 (by rw [h_c10]; decide) (by rw [h_c10]; decide) (by rw [h_c10]; rfl) (by decide) ?_
                        refine lv_aload_n hx hb dX9_count_183 rfl (lv_at hl 0 rfl) ?_
                        refine gX9 hx hb ht hown hK hP 0 rfl 0 (by decide) fl_X9_12 (fun _ h => h) rfl dX9_count_184 ?_
                        refine gX5 hx hb ht hown hK hP 1 rfl 7 (by decide) fl_X9_173 (fun _ h => h) rfl dX9_count_187 ?_
                        refine gX1 hx hb ht hown hK hP 6 rfl 0 (by decide) fl_X9_177 (fun _ h => h) rfl dX9_count_190 ?_
                        exact hret _ _ _ _ _ () hS dX9_count_193 hP hV
                      · have hV := hV.2 h_c10
                        have h_c10 : ¬ x1 = nI 10 := h_c10
                        refine lv_tableOut (tgt := 194) hx hb dX9_count_1 (sw_out x1 10 (by decide) (fun k hk => by rcases (show k = 0 ∨ k = 1 ∨ k = 2 ∨ k = 3 ∨ k = 4 ∨ k = 5 ∨ k = 6 ∨ k = 7 ∨ k = 8 ∨ k = 9 ∨ k = 10 by omega) with rfl | rfl | rfl | rfl | rfl | rfl | rfl | rfl | rfl | rfl | rfl <;> assumption)) (by decide) ?_
                        refine lv_iconst (v := (-1)) hx hb dX9_count_194 (by decide) ?_
                        exact hret _ _ _ _ _ () hS dX9_count_195 hP hV
