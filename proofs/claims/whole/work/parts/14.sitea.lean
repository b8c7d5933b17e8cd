def rm_X0_init : Room := { frames := 1, cells := 1, slots := 64, locals := 12 }
def P_X0_init (post : Nat → (Nat → Int32) → Prop) : Prop := (∀ q7 : Nat, post q7 (fun _ => 0))
set_option maxRecDepth 100000 in
set_option maxHeartbeats 4000000 in
theorem c_X0_init (l : Launch) (D : va_G) (cI cB cS : ClassId) (a_this : Nat) (post : Nat → (Nat → Int32) → Prop) (hV : P_X0_init post) : Cv l yX0_init cX0_init 1 none rm_X0_init D cI cB cS [.ref a_this] [oc a_this 0 [.null]] (fun (u : Nat × (Nat → Int32)) => post u.1 u.2) (fun (u : Nat × (Nat → Int32)) => [oc a_this 0 [.ref u.1], ai cI u.1 64 (u.2)]) := by
  refine Cv.of ok_X0_init (Nat.le_of_ble_eq_true rfl) ?_
  intro p e s m args below meth c A Q hx hb hml hown ht hnm hK hP hA hS hret ls hl
  have hown : s.vm.findClass RX0 = some m.cls := hown
  have FX : CallFix p m c cX0_init 1 s args tblG RX0 := ⟨hx, hb, hml, hown, ht⟩
  have hP : PD D A [oc a_this 0 [.null]] s.heap := hP
  have hl : lv_has ls 1 [(0, .ref a_this)] := hl
  unfold P_X0_init at hV
  refine lv_aload_n hx hb dX0_init_0 rfl (lv_at hl 0 rfl) ?_
  refine oin hx hb ht hown (hml.trans hl.1.symm) li_X0_5 (Nat.le_of_ble_eq_true rfl) (Nat.le_of_ble_eq_true rfl) dX0_init_1 ?_
  refine lv_aload_n hx hb dX0_init_4 rfl (lv_at hl 0 rfl) ?_
  refine lv_bipush (v := 64) hx hb dX0_init_5 (by decide) ?_
  refine nai hx hb ht hK hP hS hA 64 (by decide) (by decide) (by decide) (Nat.le_of_ble_eq_true rfl) (Nat.le_of_ble_eq_true rfl) dX0_init_7 (fun q7 H hP hS => ?_)
  have hV := hV q7
  have hP : PD D A [oc a_this 0 [.null], ai cI q7 64 (fun _ => 0)] H := hP
  refine qX0 hx hb ht hown hK hP hS 0 rfl 0 (by decide) fl_X0_11 (fun _ h => h) rfl hnm rfl (tyX0_ok 0 (by decide)) rfl rfl (Nat.le_of_ble_eq_true rfl) dX0_init_9 (fun H locs hP hS => ?_)
  have hP : PD D A [oc a_this 0 [.ref q7], ai cI q7 64 (fun _ => 0)] H := hP
  exact hret _ _ _ _ (q7, (fun _ => 0)) hS dX0_init_12 hP hV

def rm_X5_dueOf : Room := { frames := 1, cells := 0, slots := 0, locals := 22 }
def P_X5_dueOf (x1 : Int32) (f_plan_low : Nat → Int32) (f_river_height : Nat → Int32) (post : Int32 → Prop) : Prop := (vp_in x1 64 ∧ P_X3_firstDayOver (f_plan_low x1.toNatClampNeg) f_river_height (fun r_1 => post r_1))
set_option maxRecDepth 100000 in
set_option maxHeartbeats 4000000 in
theorem c_X5_dueOf (l : Launch) (D : va_G) (cI cB cS : ClassId) (a_this a_plan a_plan_low a_river a_river_height a_wall a_yard a_order a_plan_left a_plan_columns a_plan_rows a_plan_turn a_plan_blockAt : Nat) (x1 : Int32) (i_limit : Int32) (i_saw : Int32) (i_day : Int32) (i_plan_blocks : Int32) (i_plan_sawn : Int32) (f_plan_low : Nat → Int32) (f_river_height : Nat → Int32) (post : Int32 → Prop) (hV : P_X5_dueOf x1 f_plan_low f_river_height post) : Ci l yX5_dueOf cX5_dueOf 2 (some .int) rm_X5_dueOf D cI cB cS [.ref a_this, .int x1] [oc a_this 5 [.int i_limit, .int i_saw, .int i_day, .ref a_wall, .ref a_plan, .ref a_river, .ref a_yard, .ref a_order], oc a_plan 2 [.int i_plan_blocks, .int i_plan_sawn, .ref a_plan_left, .ref a_plan_low, .ref a_plan_columns, .ref a_plan_rows, .ref a_plan_turn, .ref a_plan_blockAt], ai cI a_plan_low 64 f_plan_low, oc a_river 3 [.ref a_river_height], ai cI a_river_height 12 f_river_height] (fun r (_ : Unit) => post r) (fun (_ : Unit) => [oc a_this 5 [.int i_limit, .int i_saw, .int i_day, .ref a_wall, .ref a_plan, .ref a_river, .ref a_yard, .ref a_order], oc a_plan 2 [.int i_plan_blocks, .int i_plan_sawn, .ref a_plan_left, .ref a_plan_low, .ref a_plan_columns, .ref a_plan_rows, .ref a_plan_turn, .ref a_plan_blockAt], ai cI a_plan_low 64 f_plan_low, oc a_river 3 [.ref a_river_height], ai cI a_river_height 12 f_river_height]) := by
  refine Ci.of ok_X5_dueOf (Nat.le_of_ble_eq_true rfl) ?_
  intro p e s m args below meth c A Q hx hb hml hown ht hnm hK hP hA hS hret ls hl
  have hown : s.vm.findClass RX5 = some m.cls := hown
  have FX : CallFix p m c cX5_dueOf 2 s args tblG RX5 := ⟨hx, hb, hml, hown, ht⟩
  have hP : PD D A [oc a_this 5 [.int i_limit, .int i_saw, .int i_day, .ref a_wall, .ref a_plan, .ref a_river, .ref a_yard, .ref a_order], oc a_plan 2 [.int i_plan_blocks, .int i_plan_sawn, .ref a_plan_left, .ref a_plan_low, .ref a_plan_columns, .ref a_plan_rows, .ref a_plan_turn, .ref a_plan_blockAt], ai cI a_plan_low 64 f_plan_low, oc a_river 3 [.ref a_river_height], ai cI a_river_height 12 f_river_height] s.heap := hP
  have hl : lv_has ls 2 [(0, .ref a_this), (1, .int x1)] := hl
  unfold P_X5_dueOf at hV
  refine lv_aload_n hx hb dX5_dueOf_0 rfl (lv_at hl 0 rfl) ?_
  refine gX5 hx hb ht hown hK hP 0 rfl 5 (by decide) fl_X5_38 (fun _ h => h) rfl dX5_dueOf_1 ?_
  refine lv_aload_n hx hb dX5_dueOf_4 rfl (lv_at hl 0 rfl) ?_
  refine gX5 hx hb ht hown hK hP 0 rfl 4 (by decide) fl_X5_31 (fun _ h => h) rfl dX5_dueOf_5 ?_
  refine gX2 hx hb ht hown hK hP 1 rfl 3 (by decide) fl_X5_70 (fun _ h => h) rfl dX5_dueOf_8 ?_
  refine lv_iload_n hx hb dX5_dueOf_11 rfl (lv_at hl 1 rfl) ?_
  refine ild hx hb hK hP 2 rfl dX5_dueOf_12 hV.1 ?_
  have hV := hV.2
  refine KVi (As := [.int (f_plan_low x1.toNatClampNeg)]) (rest := []) FX (c_X3_firstDayOver l D cI cB cS a_river a_river_height (f_plan_low x1.toNatClampNeg) f_river_height _ hV) ok_X3_firstDayOver im_X3_firstDayOver se_X3_firstDayOver li_X5_80 dX5_dueOf_13 hK hP hS hA [3, 4] [0, 1, 2] 3 rfl rfl rfl (by decide) rfl rfl hl.1 (Nat.le_of_ble_eq_true rfl) ⟨Nat.le_of_ble_eq_true rfl, Nat.le_of_ble_eq_true rfl⟩ ⟨Nat.le_of_ble_eq_true rfl, Nat.le_of_ble_eq_true rfl⟩ (fun r_1 _ H locs hV hP hS => ?_)
  have hP : PD D A [oc a_this 5 [.int i_limit, .int i_saw, .int i_day, .ref a_wall, .ref a_plan, .ref a_river, .ref a_yard, .ref a_order], oc a_plan 2 [.int i_plan_blocks, .int i_plan_sawn, .ref a_plan_left, .ref a_plan_low, .ref a_plan_columns, .ref a_plan_rows, .ref a_plan_turn, .ref a_plan_blockAt], ai cI a_plan_low 64 f_plan_low, oc a_river 3 [.ref a_river_height], ai cI a_river_height 12 f_river_height] H := hP
  exact hret _ _ _ _ _ () hS dX5_dueOf_16 hP hV

def rm_X0_findPress : Room := { frames := 2, cells := 0, slots := 0, locals := 43 }
def V_X0_findPress_63 (v3 : Int32) (i_p1_wall_columns : Int32) (f_p1_plan_blockAt : Nat → Int32) (K_49 : Int32 → (Nat → Int32) → Prop) : Nat → Int32 → (Nat → Int32) → Prop
  | 0, _, _ => False
  | n + 1, v4, f_press => ((i_p1_wall_columns ≤ v4 → (∀ v3_1 : Int32, v3_1 = (v3 + 1) → K_49 v3_1 f_press)) ∧ (¬ i_p1_wall_columns ≤ v4 → P_X9_place v4 v3 (fun r_2 => (vp_in r_2 64 ∧ (∀ v5_3 : Int32, v5_3 = (f_p1_plan_blockAt r_2.toNatClampNeg) → P_X9_place v4 (v3 - 1) (fun r_4 => (vp_in r_4 64 ∧ (∀ v6_5 : Int32, v6_5 = (f_p1_plan_blockAt r_4.toNatClampNeg) → ((v5_3 = v6_5 → (∀ v4_6 : Int32, v4_6 = (v4 + 1) → V_X0_findPress_63 v3 i_p1_wall_columns f_p1_plan_blockAt K_49 n v4_6 f_press)) ∧ (¬ v5_3 = v6_5 → (vp_in v5_3 64 ∧ (vp_in v6_5 64 ∧ (∀ m_7 : Int32, m_7 = (if ((f_press v6_5.toNatClampNeg) - 1) < (f_press v5_3.toNatClampNeg) then ((f_press v6_5.toNatClampNeg) - 1) else (f_press v5_3.toNatClampNeg)) → (vp_in v5_3 64 ∧ ∀ f_press_8 : Nat → Int32, f_press_8 = upd f_press v5_3.toNatClampNeg m_7 → (∀ v4_9 : Int32, v4_9 = (v4 + 1) → V_X0_findPress_63 v3 i_p1_wall_columns f_p1_plan_blockAt K_49 n v4_9 f_press_8)))))))))))))))
theorem V_X0_findPress_63_s (v3 : Int32) (i_p1_wall_columns : Int32) (f_p1_plan_blockAt : Nat → Int32) (K_49 : Int32 → (Nat → Int32) → Prop) (n : Nat) (v4 : Int32) (f_press : Nat → Int32) : V_X0_findPress_63 v3 i_p1_wall_columns f_p1_plan_blockAt K_49 (n + 1) v4 f_press = (((i_p1_wall_columns ≤ v4 → (∀ v3_1 : Int32, v3_1 = (v3 + 1) → K_49 v3_1 f_press)) ∧ (¬ i_p1_wall_columns ≤ v4 → P_X9_place v4 v3 (fun r_2 => (vp_in r_2 64 ∧ (∀ v5_3 : Int32, v5_3 = (f_p1_plan_blockAt r_2.toNatClampNeg) → P_X9_place v4 (v3 - 1) (fun r_4 => (vp_in r_4 64 ∧ (∀ v6_5 : Int32, v6_5 = (f_p1_plan_blockAt r_4.toNatClampNeg) → ((v5_3 = v6_5 → (∀ v4_6 : Int32, v4_6 = (v4 + 1) → V_X0_findPress_63 v3 i_p1_wall_columns f_p1_plan_blockAt K_49 n v4_6 f_press)) ∧ (¬ v5_3 = v6_5 → (vp_in v5_3 64 ∧ (vp_in v6_5 64 ∧ (∀ m_7 : Int32, m_7 = (if ((f_press v6_5.toNatClampNeg) - 1) < (f_press v5_3.toNatClampNeg) then ((f_press v6_5.toNatClampNeg) - 1) else (f_press v5_3.toNatClampNeg)) → (vp_in v5_3 64 ∧ ∀ f_press_8 : Nat → Int32, f_press_8 = upd f_press v5_3.toNatClampNeg m_7 → (∀ v4_9 : Int32, v4_9 = (v4 + 1) → V_X0_findPress_63 v3 i_p1_wall_columns f_p1_plan_blockAt K_49 n v4_9 f_press_8)))))))))))))))) := rfl
def V_X0_findPress_49 (i_p1_wall_columns : Int32) (i_p1_wall_rows : Int32) (f_p1_plan_blockAt : Nat → Int32) (post : (Nat → Int32) → Prop) : Nat → Int32 → (Nat → Int32) → Prop
  | 0, _, _ => False
  | n + 1, v3, f_press => ((i_p1_wall_rows ≤ v3 → post f_press) ∧ (¬ i_p1_wall_rows ≤ v3 → (∃ k : Nat, V_X0_findPress_63 v3 i_p1_wall_columns f_p1_plan_blockAt (V_X0_findPress_49 i_p1_wall_columns i_p1_wall_rows f_p1_plan_blockAt post n) k 0 f_press)))
theorem V_X0_findPress_49_s (i_p1_wall_columns : Int32) (i_p1_wall_rows : Int32) (f_p1_plan_blockAt : Nat → Int32) (post : (Nat → Int32) → Prop) (n : Nat) (v3 : Int32) (f_press : Nat → Int32) : V_X0_findPress_49 i_p1_wall_columns i_p1_wall_rows f_p1_plan_blockAt post (n + 1) v3 f_press = (((i_p1_wall_rows ≤ v3 → post f_press) ∧ (¬ i_p1_wall_rows ≤ v3 → (∃ k : Nat, V_X0_findPress_63 v3 i_p1_wall_columns f_p1_plan_blockAt (V_X0_findPress_49 i_p1_wall_columns i_p1_wall_rows f_p1_plan_blockAt post n) k 0 f_press)))) := rfl
def V_X0_findPress_7 (i_p1_wall_columns : Int32) (i_p1_wall_rows : Int32) (i_p1_plan_blocks : Int32) (f_p1_plan_low : Nat → Int32) (f_p1_plan_blockAt : Nat → Int32) (f_p1_river_height : Nat → Int32) (post : (Nat → Int32) → Prop) : Nat → Int32 → (Nat → Int32) → Prop
  | 0, _, _ => False
  | n + 1, v3, f_press => ((i_p1_plan_blocks ≤ v3 → (∃ k : Nat, V_X0_findPress_49 i_p1_wall_columns i_p1_wall_rows f_p1_plan_blockAt post k 1 f_press)) ∧ (¬ i_p1_plan_blocks ≤ v3 → P_X5_dueOf v3 f_p1_plan_low f_p1_river_height (fun r_10 => ((r_10 = (-1) → (vp_in v3 64 ∧ ∀ f_press_13 : Nat → Int32, f_press_13 = upd f_press v3.toNatClampNeg 100000 → (∀ v3_14 : Int32, v3_14 = (v3 + 1) → V_X0_findPress_7 i_p1_wall_columns i_p1_wall_rows i_p1_plan_blocks f_p1_plan_low f_p1_plan_blockAt f_p1_river_height post n v3_14 f_press_13))) ∧ (¬ r_10 = (-1) → (vp_in v3 64 ∧ ∀ f_press_11 : Nat → Int32, f_press_11 = upd f_press v3.toNatClampNeg r_10 → (∀ v3_12 : Int32, v3_12 = (v3 + 1) → V_X0_findPress_7 i_p1_wall_columns i_p1_wall_rows i_p1_plan_blocks f_p1_plan_low f_p1_plan_blockAt f_p1_river_height post n v3_12 f_press_11)))))))
theorem V_X0_findPress_7_s (i_p1_wall_columns : Int32) (i_p1_wall_rows : Int32) (i_p1_plan_blocks : Int32) (f_p1_plan_low : Nat → Int32) (f_p1_plan_blockAt : Nat → Int32) (f_p1_river_height : Nat → Int32) (post : (Nat → Int32) → Prop) (n : Nat) (v3 : Int32) (f_press : Nat → Int32) : V_X0_findPress_7 i_p1_wall_columns i_p1_wall_rows i_p1_plan_blocks f_p1_plan_low f_p1_plan_blockAt f_p1_river_height post (n + 1) v3 f_press = (((i_p1_plan_blocks ≤ v3 → (∃ k : Nat, V_X0_findPress_49 i_p1_wall_columns i_p1_wall_rows f_p1_plan_blockAt post k 1 f_press)) ∧ (¬ i_p1_plan_blocks ≤ v3 → P_X5_dueOf v3 f_p1_plan_low f_p1_river_height (fun r_10 => ((r_10 = (-1) → (vp_in v3 64 ∧ ∀ f_press_13 : Nat → Int32, f_press_13 = upd f_press v3.toNatClampNeg 100000 → (∀ v3_14 : Int32, v3_14 = (v3 + 1) → V_X0_findPress_7 i_p1_wall_columns i_p1_wall_rows i_p1_plan_blocks f_p1_plan_low f_p1_plan_blockAt f_p1_river_height post n v3_14 f_press_13))) ∧ (¬ r_10 = (-1) → (vp_in v3 64 ∧ ∀ f_press_11 : Nat → Int32, f_press_11 = upd f_press v3.toNatClampNeg r_10 → (∀ v3_12 : Int32, v3_12 = (v3 + 1) → V_X0_findPress_7 i_p1_wall_columns i_p1_wall_rows i_p1_plan_blocks f_p1_plan_low f_p1_plan_blockAt f_p1_river_height post n v3_12 f_press_11)))))))) := rfl
def P_X0_findPress (f_press : Nat → Int32) (i_p1_wall_columns : Int32) (i_p1_wall_rows : Int32) (i_p1_plan_blocks : Int32) (f_p1_plan_low : Nat → Int32) (f_p1_plan_blockAt : Nat → Int32) (f_p1_river_height : Nat → Int32) (post : (Nat → Int32) → Prop) : Prop := (∃ k : Nat, V_X0_findPress_7 i_p1_wall_columns i_p1_wall_rows i_p1_plan_blocks f_p1_plan_low f_p1_plan_blockAt f_p1_river_height post k 0 f_press)
set_option maxRecDepth 100000 in
set_option maxHeartbeats 4000000 in
theorem c_X0_findPress (l : Launch) (D : va_G) (cI cB cS : ClassId) (a_this a_press a_p1 a_p1_wall a_p1_plan a_p1_plan_low a_p1_plan_blockAt a_p1_river a_p1_river_height a_p1_yard a_p1_order a_p1_wall_weight a_p1_wall_motif a_p1_plan_left a_p1_plan_columns a_p1_plan_rows a_p1_plan_turn : Nat) (f_press : Nat → Int32) (i_p1_limit : Int32) (i_p1_saw : Int32) (i_p1_day : Int32) (i_p1_wall_columns : Int32) (i_p1_wall_rows : Int32) (i_p1_plan_blocks : Int32) (i_p1_plan_sawn : Int32) (f_p1_plan_low : Nat → Int32) (f_p1_plan_blockAt : Nat → Int32) (f_p1_river_height : Nat → Int32) (post : (Nat → Int32) → Prop) (hV : P_X0_findPress f_press i_p1_wall_columns i_p1_wall_rows i_p1_plan_blocks f_p1_plan_low f_p1_plan_blockAt f_p1_river_height post) : Cv l yX0_findPress cX0_findPress 7 none rm_X0_findPress D cI cB cS [.ref a_this, .ref a_p1] [oc a_this 0 [.ref a_press], ai cI a_press 64 f_press, oc a_p1 5 [.int i_p1_limit, .int i_p1_saw, .int i_p1_day, .ref a_p1_wall, .ref a_p1_plan, .ref a_p1_river, .ref a_p1_yard, .ref a_p1_order], oc a_p1_wall 6 [.int i_p1_wall_columns, .int i_p1_wall_rows, .ref a_p1_wall_weight, .ref a_p1_wall_motif], oc a_p1_plan 2 [.int i_p1_plan_blocks, .int i_p1_plan_sawn, .ref a_p1_plan_left, .ref a_p1_plan_low, .ref a_p1_plan_columns, .ref a_p1_plan_rows, .ref a_p1_plan_turn, .ref a_p1_plan_blockAt], ai cI a_p1_plan_low 64 f_p1_plan_low, ai cI a_p1_plan_blockAt 64 f_p1_plan_blockAt, oc a_p1_river 3 [.ref a_p1_river_height], ai cI a_p1_river_height 12 f_p1_river_height] (fun (u : (Nat → Int32)) => post u) (fun (u : (Nat → Int32)) => [oc a_this 0 [.ref a_press], ai cI a_press 64 u, oc a_p1 5 [.int i_p1_limit, .int i_p1_saw, .int i_p1_day, .ref a_p1_wall, .ref a_p1_plan, .ref a_p1_river, .ref a_p1_yard, .ref a_p1_order], oc a_p1_wall 6 [.int i_p1_wall_columns, .int i_p1_wall_rows, .ref a_p1_wall_weight, .ref a_p1_wall_motif], oc a_p1_plan 2 [.int i_p1_plan_blocks, .int i_p1_plan_sawn, .ref a_p1_plan_left, .ref a_p1_plan_low, .ref a_p1_plan_columns, .ref a_p1_plan_rows, .ref a_p1_plan_turn, .ref a_p1_plan_blockAt], ai cI a_p1_plan_low 64 f_p1_plan_low, ai cI a_p1_plan_blockAt 64 f_p1_plan_blockAt, oc a_p1_river 3 [.ref a_p1_river_height], ai cI a_p1_river_height 12 f_p1_river_height]) := by
  refine Cv.of ok_X0_findPress (Nat.le_of_ble_eq_true rfl) ?_
  intro p e s m args below meth c A Q hx hb hml hown ht hnm hK hP hA hS hret ls hl
  have hown : s.vm.findClass RX0 = some m.cls := hown
  have FX : CallFix p m c cX0_findPress 7 s args tblG RX0 := ⟨hx, hb, hml, hown, ht⟩
  have hP : PD D A [oc a_this 0 [.ref a_press], ai cI a_press 64 f_press, oc a_p1 5 [.int i_p1_limit, .int i_p1_saw, .int i_p1_day, .ref a_p1_wall, .ref a_p1_plan, .ref a_p1_river, .ref a_p1_yard, .ref a_p1_order], oc a_p1_wall 6 [.int i_p1_wall_columns, .int i_p1_wall_rows, .ref a_p1_wall_weight, .ref a_p1_wall_motif], oc a_p1_plan 2 [.int i_p1_plan_blocks, .int i_p1_plan_sawn, .ref a_p1_plan_left, .ref a_p1_plan_low, .ref a_p1_plan_columns, .ref a_p1_plan_rows, .ref a_p1_plan_turn, .ref a_p1_plan_blockAt], ai cI a_p1_plan_low 64 f_p1_plan_low, ai cI a_p1_plan_blockAt 64 f_p1_plan_blockAt, oc a_p1_river 3 [.ref a_p1_river_height], ai cI a_p1_river_height 12 f_p1_river_height] s.heap := hP
  have hl : lv_has ls 7 [(0, .ref a_this), (1, .ref a_p1)] := hl
  unfold P_X0_findPress at hV
  have b49 : ∀  (k49 : Nat) (v3 : Int32) (f_press : Nat → Int32) (H : Heap) (locs : List Loc) (ls : Array Slot), PD D A [oc a_this 0 [.ref a_press], ai cI a_press 64 f_press, oc a_p1 5 [.int i_p1_limit, .int i_p1_saw, .int i_p1_day, .ref a_p1_wall, .ref a_p1_plan, .ref a_p1_river, .ref a_p1_yard, .ref a_p1_order], oc a_p1_wall 6 [.int i_p1_wall_columns, .int i_p1_wall_rows, .ref a_p1_wall_weight, .ref a_p1_wall_motif], oc a_p1_plan 2 [.int i_p1_plan_blocks, .int i_p1_plan_sawn, .ref a_p1_plan_left, .ref a_p1_plan_low, .ref a_p1_plan_columns, .ref a_p1_plan_rows, .ref a_p1_plan_turn, .ref a_p1_plan_blockAt], ai cI a_p1_plan_low 64 f_p1_plan_low, ai cI a_p1_plan_blockAt 64 f_p1_plan_blockAt, oc a_p1_river 3 [.ref a_p1_river_height], ai cI a_p1_river_height 12 f_p1_river_height] H → va_S A s.heap H locs → lv_has ls 7 [(0, .ref a_this), (1, .ref a_p1), (2, .ref a_p1_plan), (3, .int v3)] → V_X0_findPress_49 i_p1_wall_columns i_p1_wall_rows f_p1_plan_blockAt post k49 v3 f_press → W p l e rm_X0_findPress s m args below meth c H locs 0 0 Q (F0 m 49 ls []) := by
    intro  k49
    induction k49 with
    | zero => intro v3 f_press H locs ls hP hS hl hV; exact False.elim hV
    | succ k49 ih49 =>
      intro v3 f_press H locs ls hP hS hl hV
      rw [V_X0_findPress_49_s] at hV
      have b63 : ∀ (v3 : Int32) (k63 : Nat) (v4 : Int32) (f_press : Nat → Int32) (H : Heap) (locs : List Loc) (ls : Array Slot), PD D A [oc a_this 0 [.ref a_press], ai cI a_press 64 f_press, oc a_p1 5 [.int i_p1_limit, .int i_p1_saw, .int i_p1_day, .ref a_p1_wall, .ref a_p1_plan, .ref a_p1_river, .ref a_p1_yard, .ref a_p1_order], oc a_p1_wall 6 [.int i_p1_wall_columns, .int i_p1_wall_rows, .ref a_p1_wall_weight, .ref a_p1_wall_motif], oc a_p1_plan 2 [.int i_p1_plan_blocks, .int i_p1_plan_sawn, .ref a_p1_plan_left, .ref a_p1_plan_low, .ref a_p1_plan_columns, .ref a_p1_plan_rows, .ref a_p1_plan_turn, .ref a_p1_plan_blockAt], ai cI a_p1_plan_low 64 f_p1_plan_low, ai cI a_p1_plan_blockAt 64 f_p1_plan_blockAt, oc a_p1_river 3 [.ref a_p1_river_height], ai cI a_p1_river_height 12 f_p1_river_height] H → va_S A s.heap H locs → lv_has ls 7 [(0, .ref a_this), (1, .ref a_p1), (2, .ref a_p1_plan), (3, .int v3), (4, .int v4)] → V_X0_findPress_63 v3 i_p1_wall_columns f_p1_plan_blockAt (V_X0_findPress_49 i_p1_wall_columns i_p1_wall_rows f_p1_plan_blockAt post k49) k63 v4 f_press → W p l e rm_X0_findPress s m args below meth c H locs 0 0 Q (F0 m 63 ls []) := by
        intro v3 k63
        induction k63 with
        | zero => intro v4 f_press H locs ls hP hS hl hV; exact False.elim hV
        | succ k63 ih63 =>
          intro v4 f_press H locs ls hP hS hl hV
          rw [V_X0_findPress_63_s] at hV
          refine lv_iload hx hb dX0_findPress_63 (lv_at hl 4 rfl) ?_
          refine lv_aload_n hx hb dX0_findPress_65 rfl (lv_at hl 1 rfl) ?_
          refine gX5 hx hb ht hown hK hP 2 rfl 3 (by decide) fl_X0_72 (fun _ h => h) rfl dX0_findPress_66 ?_
          refine gX7 hx hb ht hown hK hP 3 rfl 0 (by decide) fl_X0_81 (fun _ h => h) rfl dX0_findPress_69 ?_
          refine lv_icmp_ge (tgt := 142) hx hb dX0_findPress_72 (by decide) (fun h => ?_) (fun h => ?_)
          · have hV := hV.1 h
            obtain ⟨v3_1, e_v3_1⟩ : ∃ y : Int32, y = (v3 + 1) := ⟨_, rfl⟩
            have hV := hV v3_1 e_v3_1
            refine lv_iinc (v := v3_1) (lv' := [(3, .int v3_1), (0, .ref a_this), (1, .ref a_p1), (2, .ref a_p1_plan), (4, .int v4)]) hx hb dX0_findPress_142 hl (k := 3) rfl (by rw [e_v3_1]; rfl) (by decide) rfl (fun ls hl => ?_)
            refine lv_goto (tgt := 49) hx hb dX0_findPress_145 (by decide) ?_
            exact ih49 v3_1 f_press _ _ _ hP hS (lv_sub hl [1, 2, 3, 0] rfl) hV
          · have hV := hV.2 h
            refine lv_aload_n hx hb dX0_findPress_75 rfl (lv_at hl 2 rfl) ?_
            refine gX2 hx hb ht hown hK hP 4 rfl 7 (by decide) fl_X0_84 (fun _ h => h) rfl dX0_findPress_76 ?_
            refine lv_iload hx hb dX0_findPress_79 (lv_at hl 4 rfl) ?_
            refine lv_iload_n hx hb dX0_findPress_81 rfl (lv_at hl 3 rfl) ?_
            refine KNi (As := [.int v4, .int v3]) (rest := [.ref a_p1_plan_blockAt]) FX (c_X9_place l D cI cB cS v4 v3 _ hV) ok_X9_place is_X9_place nq_X0_87 dX0_findPress_82 hK hP hS hA [] [0, 1, 2, 3, 4, 5, 6, 7, 8] rfl rfl (by decide) rfl hl.1 (Nat.le_of_ble_eq_true rfl) ⟨Nat.le_of_ble_eq_true rfl, Nat.le_of_ble_eq_true rfl⟩ ⟨Nat.le_of_ble_eq_true rfl, Nat.le_of_ble_eq_true rfl⟩ (fun r_2 _ H locs hV hP hS => ?_)
            have hP : PD D A [oc a_this 0 [.ref a_press], ai cI a_press 64 f_press, oc a_p1 5 [.int i_p1_limit, .int i_p1_saw, .int i_p1_day, .ref a_p1_wall, .ref a_p1_plan, .ref a_p1_river, .ref a_p1_yard, .ref a_p1_order], oc a_p1_wall 6 [.int i_p1_wall_columns, .int i_p1_wall_rows, .ref a_p1_wall_weight, .ref a_p1_wall_motif], oc a_p1_plan 2 [.int i_p1_plan_blocks, .int i_p1_plan_sawn, .ref a_p1_plan_left, .ref a_p1_plan_low, .ref a_p1_plan_columns, .ref a_p1_plan_rows, .ref a_p1_plan_turn, .ref a_p1_plan_blockAt], ai cI a_p1_plan_low 64 f_p1_plan_low, ai cI a_p1_plan_blockAt 64 f_p1_plan_blockAt, oc a_p1_river 3 [.ref a_p1_river_height], ai cI a_p1_river_height 12 f_p1_river_height] H := hP
            refine ild hx hb hK hP 6 rfl dX0_findPress_85 hV.1 ?_
            have hV := hV.2
            refine lv_topi (fun v5_3 e_v5_3 => ?_)
            have hV := hV v5_3 e_v5_3
            refine lv_istore (lv' := [(5, .int v5_3), (0, .ref a_this), (1, .ref a_p1), (2, .ref a_p1_plan), (3, .int v3), (4, .int v4)]) hx hb dX0_findPress_86 hl (by decide) rfl (fun ls hl => ?_)
            refine lv_aload_n hx hb dX0_findPress_88 rfl (lv_at hl 3 rfl) ?_
            refine gX2 hx hb ht hown hK hP 4 rfl 7 (by decide) fl_X0_84 (fun _ h => h) rfl dX0_findPress_89 ?_
            refine lv_iload hx hb dX0_findPress_92 (lv_at hl 5 rfl) ?_
            refine lv_iload_n hx hb dX0_findPress_94 rfl (lv_at hl 4 rfl) ?_
            refine lv_iconst (v := 1) hx hb dX0_findPress_95 (by decide) ?_
            refine lv_isub hx hb dX0_findPress_96 ?_
            refine KNi (As := [.int v4, .int (v3 - 1)]) (rest := [.ref a_p1_plan_blockAt]) FX (c_X9_place l D cI cB cS v4 (v3 - 1) _ hV) ok_X9_place is_X9_place nq_X0_87 dX0_findPress_97 hK hP hS hA [] [0, 1, 2, 3, 4, 5, 6, 7, 8] rfl rfl (by decide) rfl hl.1 (Nat.le_of_ble_eq_true rfl) ⟨Nat.le_of_ble_eq_true rfl, Nat.le_of_ble_eq_true rfl⟩ ⟨Nat.le_of_ble_eq_true rfl, Nat.le_of_ble_eq_true rfl⟩ (fun r_4 _ H locs hV hP hS => ?_)
            have hP : PD D A [oc a_this 0 [.ref a_press], ai cI a_press 64 f_press, oc a_p1 5 [.int i_p1_limit, .int i_p1_saw, .int i_p1_day, .ref a_p1_wall, .ref a_p1_plan, .ref a_p1_river, .ref a_p1_yard, .ref a_p1_order], oc a_p1_wall 6 [.int i_p1_wall_columns, .int i_p1_wall_rows, .ref a_p1_wall_weight, .ref a_p1_wall_motif], oc a_p1_plan 2 [.int i_p1_plan_blocks, .int i_p1_plan_sawn, .ref a_p1_plan_left, .ref a_p1_plan_low, .ref a_p1_plan_columns, .ref a_p1_plan_rows, .ref a_p1_plan_turn, .ref a_p1_plan_blockAt], ai cI a_p1_plan_low 64 f_p1_plan_low, ai cI a_p1_plan_blockAt 64 f_p1_plan_blockAt, oc a_p1_river 3 [.ref a_p1_river_height], ai cI a_p1_river_height 12 f_p1_river_height] H := hP
            refine ild hx hb hK hP 6 rfl dX0_findPress_100 hV.1 ?_
            have hV := hV.2
            refine lv_topi (fun v6_5 e_v6_5 => ?_)
            have hV := hV v6_5 e_v6_5
            refine lv_istore (lv' := [(6, .int v6_5), (5, .int v5_3), (0, .ref a_this), (1, .ref a_p1), (2, .ref a_p1_plan), (3, .int v3), (4, .int v4)]) hx hb dX0_findPress_101 hl (by decide) rfl (fun ls hl => ?_)
            refine lv_iload hx hb dX0_findPress_103 (lv_at hl 1 rfl) ?_
            refine lv_iload hx hb dX0_findPress_105 (lv_at hl 0 rfl) ?_
            refine lv_icmp_eq (tgt := 136) hx hb dX0_findPress_107 (by decide) (fun h => ?_) (fun h => ?_)
            · have hV := hV.1 h
              obtain ⟨v4_6, e_v4_6⟩ : ∃ y : Int32, y = (v4 + 1) := ⟨_, rfl⟩
              have hV := hV v4_6 e_v4_6
              refine lv_iinc (v := v4_6) (lv' := [(4, .int v4_6), (6, .int v6_5), (5, .int v5_3), (0, .ref a_this), (1, .ref a_p1), (2, .ref a_p1_plan), (3, .int v3)]) hx hb dX0_findPress_136 hl (k := 6) rfl (by rw [e_v4_6]; rfl) (by decide) rfl (fun ls hl => ?_)
              refine lv_goto (tgt := 63) hx hb dX0_findPress_139 (by decide) ?_
              exact ih63 v4_6 f_press _ _ _ hP hS (lv_sub hl [3, 4, 5, 6, 0] rfl) hV
            · have hV := hV.2 h
              refine lv_aload_n hx hb dX0_findPress_110 rfl (lv_at hl 2 rfl) ?_
              refine gX0 hx hb ht hown hK hP 0 rfl 0 (by decide) fl_X0_11 (fun _ h => h) rfl dX0_findPress_111 ?_
              refine lv_iload hx hb dX0_findPress_114 (lv_at hl 1 rfl) ?_
              refine lv_aload_n hx hb dX0_findPress_116 rfl (lv_at hl 2 rfl) ?_
              refine gX0 hx hb ht hown hK hP 0 rfl 0 (by decide) fl_X0_11 (fun _ h => h) rfl dX0_findPress_117 ?_
              refine lv_iload hx hb dX0_findPress_120 (lv_at hl 1 rfl) ?_
              refine ild hx hb hK hP 1 rfl dX0_findPress_122 hV.1 ?_
              have hV := hV.2
              refine lv_aload_n hx hb dX0_findPress_123 rfl (lv_at hl 2 rfl) ?_
              refine gX0 hx hb ht hown hK hP 0 rfl 0 (by decide) fl_X0_11 (fun _ h => h) rfl dX0_findPress_124 ?_
              refine lv_iload hx hb dX0_findPress_127 (lv_at hl 0 rfl) ?_
              refine ild hx hb hK hP 1 rfl dX0_findPress_129 hV.1 ?_
              have hV := hV.2
              refine lv_iconst (v := 1) hx hb dX0_findPress_130 (by decide) ?_
              refine lv_isub hx hb dX0_findPress_131 ?_
              refine mmin hx hb (hml.trans hl.1.symm) ht hown li_X0_91 (Nat.le_of_ble_eq_true rfl) (Nat.le_of_ble_eq_true rfl) ⟨Nat.le_of_ble_eq_true rfl, Nat.le_of_ble_eq_true rfl⟩ dX0_findPress_132 ?_
              refine lv_topi (fun m_7 e_m_7 => ?_)
              have hV := hV m_7 e_m_7
              refine ist hx hb hK hP hS 1 rfl dX0_findPress_135 hV.1 (fun f_press_8 e_f_press_8 H locs hP hS => ?_)
              have hV := hV.2 f_press_8 e_f_press_8
              have hP : PD D A [oc a_this 0 [.ref a_press], ai cI a_press 64 f_press_8, oc a_p1 5 [.int i_p1_limit, .int i_p1_saw, .int i_p1_day, .ref a_p1_wall, .ref a_p1_plan, .ref a_p1_river, .ref a_p1_yard, .ref a_p1_order], oc a_p1_wall 6 [.int i_p1_wall_columns, .int i_p1_wall_rows, .ref a_p1_wall_weight, .ref a_p1_wall_motif], oc a_p1_plan 2 [.int i_p1_plan_blocks, .int i_p1_plan_sawn, .ref a_p1_plan_left, .ref a_p1_plan_low, .ref a_p1_plan_columns, .ref a_p1_plan_rows, .ref a_p1_plan_turn, .ref a_p1_plan_blockAt], ai cI a_p1_plan_low 64 f_p1_plan_low, ai cI a_p1_plan_blockAt 64 f_p1_plan_blockAt, oc a_p1_river 3 [.ref a_p1_river_height], ai cI a_p1_river_height 12 f_p1_river_height] H := hP
              obtain ⟨v4_9, e_v4_9⟩ : ∃ y : Int32, y = (v4 + 1) := ⟨_, rfl⟩
              have hV := hV v4_9 e_v4_9
              refine lv_iinc (v := v4_9) (lv' := [(4, .int v4_9), (6, .int v6_5), (5, .int v5_3), (0, .ref a_this), (1, .ref a_p1), (2, .ref a_p1_plan), (3, .int v3)]) hx hb dX0_findPress_136 hl (k := 6) rfl (by rw [e_v4_9]; rfl) (by decide) rfl (fun ls hl => ?_)
              refine lv_goto (tgt := 63) hx hb dX0_findPress_139 (by decide) ?_
              exact ih63 v4_9 f_press_8 _ _ _ hP hS (lv_sub hl [3, 4, 5, 6, 0] rfl) hV
      refine lv_iload_n hx hb dX0_findPress_49 rfl (lv_at hl 3 rfl) ?_
      refine lv_aload_n hx hb dX0_findPress_50 rfl (lv_at hl 1 rfl) ?_
      refine gX5 hx hb ht hown hK hP 2 rfl 3 (by decide) fl_X0_72 (fun _ h => h) rfl dX0_findPress_51 ?_
      refine gX7 hx hb ht hown hK hP 3 rfl 1 (by decide) fl_X0_76 (fun _ h => h) rfl dX0_findPress_54 ?_
      refine lv_icmp_ge (tgt := 148) hx hb dX0_findPress_57 (by decide) (fun h => ?_) (fun h => ?_)
      · have hV := hV.1 h
        exact hret _ _ _ _ f_press hS dX0_findPress_148 hP hV
      · have hV := hV.2 h
        refine lv_iconst (v := 0) hx hb dX0_findPress_60 (by decide) ?_
        refine lv_istore (lv' := [(4, .int 0), (0, .ref a_this), (1, .ref a_p1), (2, .ref a_p1_plan), (3, .int v3)]) hx hb dX0_findPress_61 hl (by decide) rfl (fun ls hl => ?_)
        obtain ⟨k, hV⟩ := hV
        exact b63 v3 k 0 f_press _ _ _ hP hS (lv_sub hl [1, 2, 3, 4, 0] rfl) hV
  have b7 : ∀  (k7 : Nat) (v3 : Int32) (f_press : Nat → Int32) (H : Heap) (locs : List Loc) (ls : Array Slot), PD D A [oc a_this 0 [.ref a_press], ai cI a_press 64 f_press, oc a_p1 5 [.int i_p1_limit, .int i_p1_saw, .int i_p1_day, .ref a_p1_wall, .ref a_p1_plan, .ref a_p1_river, .ref a_p1_yard, .ref a_p1_order], oc a_p1_wall 6 [.int i_p1_wall_columns, .int i_p1_wall_rows, .ref a_p1_wall_weight, .ref a_p1_wall_motif], oc a_p1_plan 2 [.int i_p1_plan_blocks, .int i_p1_plan_sawn, .ref a_p1_plan_left, .ref a_p1_plan_low, .ref a_p1_plan_columns, .ref a_p1_plan_rows, .ref a_p1_plan_turn, .ref a_p1_plan_blockAt], ai cI a_p1_plan_low 64 f_p1_plan_low, ai cI a_p1_plan_blockAt 64 f_p1_plan_blockAt, oc a_p1_river 3 [.ref a_p1_river_height], ai cI a_p1_river_height 12 f_p1_river_height] H → va_S A s.heap H locs → lv_has ls 7 [(0, .ref a_this), (1, .ref a_p1), (2, .ref a_p1_plan), (3, .int v3)] → V_X0_findPress_7 i_p1_wall_columns i_p1_wall_rows i_p1_plan_blocks f_p1_plan_low f_p1_plan_blockAt f_p1_river_height post k7 v3 f_press → W p l e rm_X0_findPress s m args below meth c H locs 0 0 Q (F0 m 7 ls []) := by
    intro  k7
    induction k7 with
    | zero => intro v3 f_press H locs ls hP hS hl hV; exact False.elim hV
    | succ k7 ih7 =>
      intro v3 f_press H locs ls hP hS hl hV
      rw [V_X0_findPress_7_s] at hV
      refine lv_iload_n hx hb dX0_findPress_7 rfl (lv_at hl 3 rfl) ?_
      refine lv_aload_n hx hb dX0_findPress_8 rfl (lv_at hl 2 rfl) ?_
      refine gX2 hx hb ht hown hK hP 4 rfl 0 (by decide) fl_X0_37 (fun _ h => h) rfl dX0_findPress_9 ?_
      refine lv_icmp_ge (tgt := 47) hx hb dX0_findPress_12 (by decide) (fun h => ?_) (fun h => ?_)
      · have hV := hV.1 h
        refine lv_iconst (v := 1) hx hb dX0_findPress_47 (by decide) ?_
        refine lv_istore_n (lv' := [(3, .int 1), (0, .ref a_this), (1, .ref a_p1), (2, .ref a_p1_plan)]) hx hb dX0_findPress_48 rfl hl (by decide) rfl (fun ls hl => ?_)
        obtain ⟨k, hV⟩ := hV
        exact b49 k 1 f_press _ _ _ hP hS (lv_sub hl [1, 2, 3, 0] rfl) hV
      · have hV := hV.2 h
        refine lv_aload_n hx hb dX0_findPress_15 rfl (lv_at hl 1 rfl) ?_
        refine lv_iload_n hx hb dX0_findPress_16 rfl (lv_at hl 3 rfl) ?_
        refine KVi (As := [.int v3]) (rest := []) FX (c_X5_dueOf l D cI cB cS a_p1 a_p1_plan a_p1_plan_low a_p1_river a_p1_river_height a_p1_wall a_p1_yard a_p1_order a_p1_plan_left a_p1_plan_columns a_p1_plan_rows a_p1_plan_turn a_p1_plan_blockAt v3 i_p1_limit i_p1_saw i_p1_day i_p1_plan_blocks i_p1_plan_sawn f_p1_plan_low f_p1_river_height _ hV) ok_X5_dueOf im_X5_dueOf se_X5_dueOf li_X0_68 dX0_findPress_17 hK hP hS hA [2, 4, 5, 7, 8] [0, 1, 3, 6] 2 rfl rfl rfl (by decide) rfl rfl hl.1 (Nat.le_of_ble_eq_true rfl) ⟨Nat.le_of_ble_eq_true rfl, Nat.le_of_ble_eq_true rfl⟩ ⟨Nat.le_of_ble_eq_true rfl, Nat.le_of_ble_eq_true rfl⟩ (fun r_10 _ H locs hV hP hS => ?_)
        have hP : PD D A [oc a_this 0 [.ref a_press], ai cI a_press 64 f_press, oc a_p1_wall 6 [.int i_p1_wall_columns, .int i_p1_wall_rows, .ref a_p1_wall_weight, .ref a_p1_wall_motif], ai cI a_p1_plan_blockAt 64 f_p1_plan_blockAt, oc a_p1 5 [.int i_p1_limit, .int i_p1_saw, .int i_p1_day, .ref a_p1_wall, .ref a_p1_plan, .ref a_p1_river, .ref a_p1_yard, .ref a_p1_order], oc a_p1_plan 2 [.int i_p1_plan_blocks, .int i_p1_plan_sawn, .ref a_p1_plan_left, .ref a_p1_plan_low, .ref a_p1_plan_columns, .ref a_p1_plan_rows, .ref a_p1_plan_turn, .ref a_p1_plan_blockAt], ai cI a_p1_plan_low 64 f_p1_plan_low, oc a_p1_river 3 [.ref a_p1_river_height], ai cI a_p1_river_height 12 f_p1_river_height] H := hP
        refine lv_istore (lv' := [(4, .int r_10), (0, .ref a_this), (1, .ref a_p1), (2, .ref a_p1_plan), (3, .int v3)]) hx hb dX0_findPress_20 hl (by decide) rfl (fun ls hl => ?_)
        refine lv_aload_n hx hb dX0_findPress_22 rfl (lv_at hl 1 rfl) ?_
        refine gX0 hx hb ht hown hK hP 0 rfl 0 (by decide) fl_X0_11 (fun _ h => h) rfl dX0_findPress_23 ?_
        refine lv_iload_n hx hb dX0_findPress_26 rfl (lv_at hl 4 rfl) ?_
        refine lv_iload hx hb dX0_findPress_27 (lv_at hl 0 rfl) ?_
        refine lv_iconst (v := (-1)) hx hb dX0_findPress_29 (by decide) ?_
        refine lv_icmp_ne (tgt := 38) hx hb dX0_findPress_30 (by decide) (fun h => ?_) (fun h => ?_)
        · have hV := hV.2 h
          refine lv_iload hx hb dX0_findPress_38 (lv_at hl 0 rfl) ?_
          refine ist hx hb hK hP hS 1 rfl dX0_findPress_40 hV.1 (fun f_press_11 e_f_press_11 H locs hP hS => ?_)
          have hV := hV.2 f_press_11 e_f_press_11
          have hP : PD D A [oc a_this 0 [.ref a_press], ai cI a_press 64 f_press_11, oc a_p1_wall 6 [.int i_p1_wall_columns, .int i_p1_wall_rows, .ref a_p1_wall_weight, .ref a_p1_wall_motif], ai cI a_p1_plan_blockAt 64 f_p1_plan_blockAt, oc a_p1 5 [.int i_p1_limit, .int i_p1_saw, .int i_p1_day, .ref a_p1_wall, .ref a_p1_plan, .ref a_p1_river, .ref a_p1_yard, .ref a_p1_order], oc a_p1_plan 2 [.int i_p1_plan_blocks, .int i_p1_plan_sawn, .ref a_p1_plan_left, .ref a_p1_plan_low, .ref a_p1_plan_columns, .ref a_p1_plan_rows, .ref a_p1_plan_turn, .ref a_p1_plan_blockAt], ai cI a_p1_plan_low 64 f_p1_plan_low, oc a_p1_river 3 [.ref a_p1_river_height], ai cI a_p1_river_height 12 f_p1_river_height] H := hP
          obtain ⟨v3_12, e_v3_12⟩ : ∃ y : Int32, y = (v3 + 1) := ⟨_, rfl⟩
          have hV := hV v3_12 e_v3_12
          refine lv_iinc (v := v3_12) (lv' := [(3, .int v3_12), (4, .int r_10), (0, .ref a_this), (1, .ref a_p1), (2, .ref a_p1_plan)]) hx hb dX0_findPress_41 hl (k := 4) rfl (by rw [e_v3_12]; rfl) (by decide) rfl (fun ls hl => ?_)
          refine lv_goto (tgt := 7) hx hb dX0_findPress_44 (by decide) ?_
          exact ih7 v3_12 f_press_11 _ _ _ (hP.sub [0, 1, 4, 2, 5, 6, 3, 7, 8] rfl rfl) hS (lv_sub hl [2, 3, 4, 0] rfl) hV
        · have hV := hV.1 h
          refine lv_ldc hx hb hown (ht _ co_X0_71) dX0_findPress_33 ?_
          refine lv_goto (tgt := 40) hx hb dX0_findPress_35 (by decide) ?_
          refine ist hx hb hK hP hS 1 rfl dX0_findPress_40 hV.1 (fun f_press_13 e_f_press_13 H locs hP hS => ?_)
          have hV := hV.2 f_press_13 e_f_press_13
          have hP : PD D A [oc a_this 0 [.ref a_press], ai cI a_press 64 f_press_13, oc a_p1_wall 6 [.int i_p1_wall_columns, .int i_p1_wall_rows, .ref a_p1_wall_weight, .ref a_p1_wall_motif], ai cI a_p1_plan_blockAt 64 f_p1_plan_blockAt, oc a_p1 5 [.int i_p1_limit, .int i_p1_saw, .int i_p1_day, .ref a_p1_wall, .ref a_p1_plan, .ref a_p1_river, .ref a_p1_yard, .ref a_p1_order], oc a_p1_plan 2 [.int i_p1_plan_blocks, .int i_p1_plan_sawn, .ref a_p1_plan_left, .ref a_p1_plan_low, .ref a_p1_plan_columns, .ref a_p1_plan_rows, .ref a_p1_plan_turn, .ref a_p1_plan_blockAt], ai cI a_p1_plan_low 64 f_p1_plan_low, oc a_p1_river 3 [.ref a_p1_river_height], ai cI a_p1_river_height 12 f_p1_river_height] H := hP
          obtain ⟨v3_14, e_v3_14⟩ : ∃ y : Int32, y = (v3 + 1) := ⟨_, rfl⟩
          have hV := hV v3_14 e_v3_14
          refine lv_iinc (v := v3_14) (lv' := [(3, .int v3_14), (4, .int r_10), (0, .ref a_this), (1, .ref a_p1), (2, .ref a_p1_plan)]) hx hb dX0_findPress_41 hl (k := 4) rfl (by rw [e_v3_14]; rfl) (by decide) rfl (fun ls hl => ?_)
          refine lv_goto (tgt := 7) hx hb dX0_findPress_44 (by decide) ?_
          exact ih7 v3_14 f_press_13 _ _ _ (hP.sub [0, 1, 4, 2, 5, 6, 3, 7, 8] rfl rfl) hS (lv_sub hl [2, 3, 4, 0] rfl) hV
  refine lv_aload_n hx hb dX0_findPress_0 rfl (lv_at hl 1 rfl) ?_
  refine gX5 hx hb ht hown hK hP 2 rfl 4 (by decide) fl_X0_33 (fun _ h => h) rfl dX0_findPress_1 ?_
  refine lv_astore_n (lv' := [(2, .ref a_p1_plan), (0, .ref a_this), (1, .ref a_p1)]) hx hb dX0_findPress_4 rfl hl (by decide) rfl (fun ls hl => ?_)
  refine lv_iconst (v := 0) hx hb dX0_findPress_5 (by decide) ?_
  refine lv_istore_n (lv' := [(3, .int 0), (2, .ref a_p1_plan), (0, .ref a_this), (1, .ref a_p1)]) hx hb dX0_findPress_6 rfl hl (by decide) rfl (fun ls hl => ?_)
  obtain ⟨k, hV⟩ := hV
  exact b7 k 0 f_press _ _ _ hP hS (lv_sub hl [2, 3, 1, 0] rfl) hV

def rm_X0_mostPressing : Room := { frames := 0, cells := 0, slots := 0, locals := 0 }
def V_X0_mostPressing_4 (x1 : Int32) (f_press : Nat → Int32) (post : Int32 → Prop) : Nat → Int32 → Int32 → Prop
  | 0, _, _ => False
  | n + 1, v2, v3 => ((x1 ≤ v3 → post v2) ∧ (¬ x1 ≤ v3 → (vp_in v3 64 ∧ (vp_in v2 64 ∧ (((f_press v2.toNatClampNeg) ≤ (f_press v3.toNatClampNeg) → (∀ v3_1 : Int32, v3_1 = (v3 + 1) → V_X0_mostPressing_4 x1 f_press post n v2 v3_1)) ∧ (¬ (f_press v2.toNatClampNeg) ≤ (f_press v3.toNatClampNeg) → (∀ v3_2 : Int32, v3_2 = (v3 + 1) → V_X0_mostPressing_4 x1 f_press post n v3 v3_2)))))))
theorem V_X0_mostPressing_4_s (x1 : Int32) (f_press : Nat → Int32) (post : Int32 → Prop) (n : Nat) (v2 : Int32) (v3 : Int32) : V_X0_mostPressing_4 x1 f_press post (n + 1) v2 v3 = (((x1 ≤ v3 → post v2) ∧ (¬ x1 ≤ v3 → (vp_in v3 64 ∧ (vp_in v2 64 ∧ (((f_press v2.toNatClampNeg) ≤ (f_press v3.toNatClampNeg) → (∀ v3_1 : Int32, v3_1 = (v3 + 1) → V_X0_mostPressing_4 x1 f_press post n v2 v3_1)) ∧ (¬ (f_press v2.toNatClampNeg) ≤ (f_press v3.toNatClampNeg) → (∀ v3_2 : Int32, v3_2 = (v3 + 1) → V_X0_mostPressing_4 x1 f_press post n v3 v3_2)))))))) := rfl
def P_X0_mostPressing (x1 : Int32) (f_press : Nat → Int32) (post : Int32 → Prop) : Prop := (∃ k : Nat, V_X0_mostPressing_4 x1 f_press post k 0 1)
set_option maxRecDepth 100000 in
set_option maxHeartbeats 4000000 in
theorem c_X0_mostPressing (l : Launch) (D : va_G) (cI cB cS : ClassId) (a_this a_press : Nat) (x1 : Int32) (f_press : Nat → Int32) (post : Int32 → Prop) (hV : P_X0_mostPressing x1 f_press post) : Ci l yX0_mostPressing cX0_mostPressing 4 (some .int) rm_X0_mostPressing D cI cB cS [.ref a_this, .int x1] [oc a_this 0 [.ref a_press], ai cI a_press 64 f_press] (fun r (_ : Unit) => post r) (fun (_ : Unit) => [oc a_this 0 [.ref a_press], ai cI a_press 64 f_press]) := by
  refine Ci.of ok_X0_mostPressing (Nat.le_of_ble_eq_true rfl) ?_
  intro p e s m args below meth c A Q hx hb hml hown ht hnm hK hP hA hS hret ls hl
  have hown : s.vm.findClass RX0 = some m.cls := hown
  have FX : CallFix p m c cX0_mostPressing 4 s args tblG RX0 := ⟨hx, hb, hml, hown, ht⟩
  have hP : PD D A [oc a_this 0 [.ref a_press], ai cI a_press 64 f_press] s.heap := hP
  have hl : lv_has ls 4 [(0, .ref a_this), (1, .int x1)] := hl
  unfold P_X0_mostPressing at hV
  have b4 : ∀  (k4 : Nat) (v2 : Int32) (v3 : Int32) (H : Heap) (locs : List Loc) (ls : Array Slot), PD D A [oc a_this 0 [.ref a_press], ai cI a_press 64 f_press] H → va_S A s.heap H locs → lv_has ls 4 [(0, .ref a_this), (1, .int x1), (2, .int v2), (3, .int v3)] → V_X0_mostPressing_4 x1 f_press post k4 v2 v3 → W p l e rm_X0_mostPressing s m args below meth c H locs 0 0 Q (F0 m 4 ls []) := by
    intro  k4
    induction k4 with
    | zero => intro v2 v3 H locs ls hP hS hl hV; exact False.elim hV
    | succ k4 ih4 =>
      intro v2 v3 H locs ls hP hS hl hV
      rw [V_X0_mostPressing_4_s] at hV
      refine lv_iload_n hx hb dX0_mostPressing_4 rfl (lv_at hl 3 rfl) ?_
      refine lv_iload_n hx hb dX0_mostPressing_5 rfl (lv_at hl 1 rfl) ?_
      refine lv_icmp_ge (tgt := 32) hx hb dX0_mostPressing_6 (by decide) (fun h => ?_) (fun h => ?_)
      · have hV := hV.1 h
        refine lv_iload_n hx hb dX0_mostPressing_32 rfl (lv_at hl 2 rfl) ?_
        exact hret _ _ _ _ _ () hS dX0_mostPressing_33 hP hV
      · have hV := hV.2 h
        refine lv_aload_n hx hb dX0_mostPressing_9 rfl (lv_at hl 0 rfl) ?_
        refine gX0 hx hb ht hown hK hP 0 rfl 0 (by decide) fl_X0_11 (fun _ h => h) rfl dX0_mostPressing_10 ?_
        refine lv_iload_n hx hb dX0_mostPressing_13 rfl (lv_at hl 3 rfl) ?_
        refine ild hx hb hK hP 1 rfl dX0_mostPressing_14 hV.1 ?_
        have hV := hV.2
        refine lv_aload_n hx hb dX0_mostPressing_15 rfl (lv_at hl 0 rfl) ?_
        refine gX0 hx hb ht hown hK hP 0 rfl 0 (by decide) fl_X0_11 (fun _ h => h) rfl dX0_mostPressing_16 ?_
        refine lv_iload_n hx hb dX0_mostPressing_19 rfl (lv_at hl 2 rfl) ?_
        refine ild hx hb hK hP 1 rfl dX0_mostPressing_20 hV.1 ?_
        have hV := hV.2
        refine lv_icmp_ge (tgt := 26) hx hb dX0_mostPressing_21 (by decide) (fun h => ?_) (fun h => ?_)
        · have hV := hV.1 h
          obtain ⟨v3_1, e_v3_1⟩ : ∃ y : Int32, y = (v3 + 1) := ⟨_, rfl⟩
          have hV := hV v3_1 e_v3_1
          refine lv_iinc (v := v3_1) (lv' := [(3, .int v3_1), (0, .ref a_this), (1, .int x1), (2, .int v2)]) hx hb dX0_mostPressing_26 hl (k := 3) rfl (by rw [e_v3_1]; rfl) (by decide) rfl (fun ls hl => ?_)
          refine lv_goto (tgt := 4) hx hb dX0_mostPressing_29 (by decide) ?_
          exact ih4 v2 v3_1 _ _ _ hP hS (lv_sub hl [1, 2, 3, 0] rfl) hV
        · have hV := hV.2 h
          refine lv_iload_n hx hb dX0_mostPressing_24 rfl (lv_at hl 3 rfl) ?_
          refine lv_istore_n (lv' := [(2, .int v3), (0, .ref a_this), (1, .int x1), (3, .int v3)]) hx hb dX0_mostPressing_25 rfl hl (by decide) rfl (fun ls hl => ?_)
          obtain ⟨v3_2, e_v3_2⟩ : ∃ y : Int32, y = (v3 + 1) := ⟨_, rfl⟩
          have hV := hV v3_2 e_v3_2
          refine lv_iinc (v := v3_2) (lv' := [(3, .int v3_2), (2, .int v3), (0, .ref a_this), (1, .int x1)]) hx hb dX0_mostPressing_26 hl (k := 3) rfl (by rw [e_v3_2]; rfl) (by decide) rfl (fun ls hl => ?_)
          refine lv_goto (tgt := 4) hx hb dX0_mostPressing_29 (by decide) ?_
          exact ih4 v3 v3_2 _ _ _ hP hS (lv_sub hl [2, 3, 1, 0] rfl) hV
  refine lv_iconst (v := 0) hx hb dX0_mostPressing_0 (by decide) ?_
  refine lv_istore_n (lv' := [(2, .int 0), (0, .ref a_this), (1, .int x1)]) hx hb dX0_mostPressing_1 rfl hl (by decide) rfl (fun ls hl => ?_)
  refine lv_iconst (v := 1) hx hb dX0_mostPressing_2 (by decide) ?_
  refine lv_istore_n (lv' := [(3, .int 1), (2, .int 0), (0, .ref a_this), (1, .int x1)]) hx hb dX0_mostPressing_3 rfl hl (by decide) rfl (fun ls hl => ?_)
  obtain ⟨k, hV⟩ := hV
  exact b4 k 0 1 _ _ _ hP hS (lv_sub hl [2, 3, 1, 0] rfl) hV

def rm_X0_passOverTaken : Room := { frames := 1, cells := 0, slots := 0, locals := 21 }
def V_X0_passOverTaken_2 (i_p1_plan_blocks : Int32) (f_p1_yard_takenOn : Nat → Int32) (post : (Nat → Int32) → Prop) : Nat → Int32 → (Nat → Int32) → Prop
  | 0, _, _ => False
  | n + 1, v2, f_press => ((i_p1_plan_blocks ≤ v2 → post f_press) ∧ (¬ i_p1_plan_blocks ≤ v2 → P_X8_isTaken v2 f_p1_yard_takenOn (fun r_1 => ((r_1 = 0 → (∀ v2_2 : Int32, v2_2 = (v2 + 1) → V_X0_passOverTaken_2 i_p1_plan_blocks f_p1_yard_takenOn post n v2_2 f_press)) ∧ (¬ r_1 = 0 → (vp_in v2 64 ∧ ∀ f_press_3 : Nat → Int32, f_press_3 = upd f_press v2.toNatClampNeg 100001 → (∀ v2_4 : Int32, v2_4 = (v2 + 1) → V_X0_passOverTaken_2 i_p1_plan_blocks f_p1_yard_takenOn post n v2_4 f_press_3)))))))
theorem V_X0_passOverTaken_2_s (i_p1_plan_blocks : Int32) (f_p1_yard_takenOn : Nat → Int32) (post : (Nat → Int32) → Prop) (n : Nat) (v2 : Int32) (f_press : Nat → Int32) : V_X0_passOverTaken_2 i_p1_plan_blocks f_p1_yard_takenOn post (n + 1) v2 f_press = (((i_p1_plan_blocks ≤ v2 → post f_press) ∧ (¬ i_p1_plan_blocks ≤ v2 → P_X8_isTaken v2 f_p1_yard_takenOn (fun r_1 => ((r_1 = 0 → (∀ v2_2 : Int32, v2_2 = (v2 + 1) → V_X0_passOverTaken_2 i_p1_plan_blocks f_p1_yard_takenOn post n v2_2 f_press)) ∧ (¬ r_1 = 0 → (vp_in v2 64 ∧ ∀ f_press_3 : Nat → Int32, f_press_3 = upd f_press v2.toNatClampNeg 100001 → (∀ v2_4 : Int32, v2_4 = (v2 + 1) → V_X0_passOverTaken_2 i_p1_plan_blocks f_p1_yard_takenOn post n v2_4 f_press_3)))))))) := rfl
def P_X0_passOverTaken (f_press : Nat → Int32) (i_p1_plan_blocks : Int32) (f_p1_yard_takenOn : Nat → Int32) (post : (Nat → Int32) → Prop) : Prop := (∃ k : Nat, V_X0_passOverTaken_2 i_p1_plan_blocks f_p1_yard_takenOn post k 0 f_press)
set_option maxRecDepth 100000 in
set_option maxHeartbeats 4000000 in
theorem c_X0_passOverTaken (l : Launch) (D : va_G) (cI cB cS : ClassId) (a_this a_press a_p1 a_p1_plan a_p1_yard a_p1_yard_takenOn a_p1_wall a_p1_river a_p1_order a_p1_plan_left a_p1_plan_low a_p1_plan_columns a_p1_plan_rows a_p1_plan_turn a_p1_plan_blockAt a_p1_yard_pileOf a_p1_yard_placeOf a_p1_yard_uppermost : Nat) (f_press : Nat → Int32) (i_p1_limit : Int32) (i_p1_saw : Int32) (i_p1_day : Int32) (i_p1_plan_blocks : Int32) (i_p1_plan_sawn : Int32) (i_p1_yard_taken : Int32) (i_p1_yard_piles : Int32) (f_p1_yard_takenOn : Nat → Int32) (post : (Nat → Int32) → Prop) (hV : P_X0_passOverTaken f_press i_p1_plan_blocks f_p1_yard_takenOn post) : Cv l yX0_passOverTaken cX0_passOverTaken 3 none rm_X0_passOverTaken D cI cB cS [.ref a_this, .ref a_p1] [oc a_this 0 [.ref a_press], ai cI a_press 64 f_press, oc a_p1 5 [.int i_p1_limit, .int i_p1_saw, .int i_p1_day, .ref a_p1_wall, .ref a_p1_plan, .ref a_p1_river, .ref a_p1_yard, .ref a_p1_order], oc a_p1_plan 2 [.int i_p1_plan_blocks, .int i_p1_plan_sawn, .ref a_p1_plan_left, .ref a_p1_plan_low, .ref a_p1_plan_columns, .ref a_p1_plan_rows, .ref a_p1_plan_turn, .ref a_p1_plan_blockAt], oc a_p1_yard 7 [.int i_p1_yard_taken, .int i_p1_yard_piles, .ref a_p1_yard_takenOn, .ref a_p1_yard_pileOf, .ref a_p1_yard_placeOf, .ref a_p1_yard_uppermost], ai cI a_p1_yard_takenOn 64 f_p1_yard_takenOn] (fun (u : (Nat → Int32)) => post u) (fun (u : (Nat → Int32)) => [oc a_this 0 [.ref a_press], ai cI a_press 64 u, oc a_p1 5 [.int i_p1_limit, .int i_p1_saw, .int i_p1_day, .ref a_p1_wall, .ref a_p1_plan, .ref a_p1_river, .ref a_p1_yard, .ref a_p1_order], oc a_p1_plan 2 [.int i_p1_plan_blocks, .int i_p1_plan_sawn, .ref a_p1_plan_left, .ref a_p1_plan_low, .ref a_p1_plan_columns, .ref a_p1_plan_rows, .ref a_p1_plan_turn, .ref a_p1_plan_blockAt], oc a_p1_yard 7 [.int i_p1_yard_taken, .int i_p1_yard_piles, .ref a_p1_yard_takenOn, .ref a_p1_yard_pileOf, .ref a_p1_yard_placeOf, .ref a_p1_yard_uppermost], ai cI a_p1_yard_takenOn 64 f_p1_yard_takenOn]) := by
  refine Cv.of ok_X0_passOverTaken (Nat.le_of_ble_eq_true rfl) ?_
  intro p e s m args below meth c A Q hx hb hml hown ht hnm hK hP hA hS hret ls hl
  have hown : s.vm.findClass RX0 = some m.cls := hown
  have FX : CallFix p m c cX0_passOverTaken 3 s args tblG RX0 := ⟨hx, hb, hml, hown, ht⟩
  have hP : PD D A [oc a_this 0 [.ref a_press], ai cI a_press 64 f_press, oc a_p1 5 [.int i_p1_limit, .int i_p1_saw, .int i_p1_day, .ref a_p1_wall, .ref a_p1_plan, .ref a_p1_river, .ref a_p1_yard, .ref a_p1_order], oc a_p1_plan 2 [.int i_p1_plan_blocks, .int i_p1_plan_sawn, .ref a_p1_plan_left, .ref a_p1_plan_low, .ref a_p1_plan_columns, .ref a_p1_plan_rows, .ref a_p1_plan_turn, .ref a_p1_plan_blockAt], oc a_p1_yard 7 [.int i_p1_yard_taken, .int i_p1_yard_piles, .ref a_p1_yard_takenOn, .ref a_p1_yard_pileOf, .ref a_p1_yard_placeOf, .ref a_p1_yard_uppermost], ai cI a_p1_yard_takenOn 64 f_p1_yard_takenOn] s.heap := hP
  have hl : lv_has ls 3 [(0, .ref a_this), (1, .ref a_p1)] := hl
  unfold P_X0_passOverTaken at hV
  have b2 : ∀  (k2 : Nat) (v2 : Int32) (f_press : Nat → Int32) (H : Heap) (locs : List Loc) (ls : Array Slot), PD D A [oc a_this 0 [.ref a_press], ai cI a_press 64 f_press, oc a_p1 5 [.int i_p1_limit, .int i_p1_saw, .int i_p1_day, .ref a_p1_wall, .ref a_p1_plan, .ref a_p1_river, .ref a_p1_yard, .ref a_p1_order], oc a_p1_plan 2 [.int i_p1_plan_blocks, .int i_p1_plan_sawn, .ref a_p1_plan_left, .ref a_p1_plan_low, .ref a_p1_plan_columns, .ref a_p1_plan_rows, .ref a_p1_plan_turn, .ref a_p1_plan_blockAt], oc a_p1_yard 7 [.int i_p1_yard_taken, .int i_p1_yard_piles, .ref a_p1_yard_takenOn, .ref a_p1_yard_pileOf, .ref a_p1_yard_placeOf, .ref a_p1_yard_uppermost], ai cI a_p1_yard_takenOn 64 f_p1_yard_takenOn] H → va_S A s.heap H locs → lv_has ls 3 [(0, .ref a_this), (1, .ref a_p1), (2, .int v2)] → V_X0_passOverTaken_2 i_p1_plan_blocks f_p1_yard_takenOn post k2 v2 f_press → W p l e rm_X0_passOverTaken s m args below meth c H locs 0 0 Q (F0 m 2 ls []) := by
    intro  k2
    induction k2 with
    | zero => intro v2 f_press H locs ls hP hS hl hV; exact False.elim hV
    | succ k2 ih2 =>
      intro v2 f_press H locs ls hP hS hl hV
      rw [V_X0_passOverTaken_2_s] at hV
      refine lv_iload_n hx hb dX0_passOverTaken_2 rfl (lv_at hl 2 rfl) ?_
      refine lv_aload_n hx hb dX0_passOverTaken_3 rfl (lv_at hl 1 rfl) ?_
      refine gX5 hx hb ht hown hK hP 2 rfl 4 (by decide) fl_X0_33 (fun _ h => h) rfl dX0_passOverTaken_4 ?_
      refine gX2 hx hb ht hown hK hP 3 rfl 0 (by decide) fl_X0_37 (fun _ h => h) rfl dX0_passOverTaken_7 ?_
      refine lv_icmp_ge (tgt := 38) hx hb dX0_passOverTaken_10 (by decide) (fun h => ?_) (fun h => ?_)
      · have hV := hV.1 h
        exact hret _ _ _ _ f_press hS dX0_passOverTaken_38 hP hV
      · have hV := hV.2 h
        refine lv_aload_n hx hb dX0_passOverTaken_13 rfl (lv_at hl 1 rfl) ?_
        refine gX5 hx hb ht hown hK hP 2 rfl 6 (by decide) fl_X0_43 (fun _ h => h) rfl dX0_passOverTaken_14 ?_
        refine lv_iload_n hx hb dX0_passOverTaken_17 rfl (lv_at hl 2 rfl) ?_
        refine KVi (As := [.int v2]) (rest := []) FX (c_X8_isTaken l D cI cB cS a_p1_yard a_p1_yard_takenOn a_p1_yard_pileOf a_p1_yard_placeOf a_p1_yard_uppermost v2 i_p1_yard_taken i_p1_yard_piles f_p1_yard_takenOn _ hV) ok_X8_isTaken im_X8_isTaken se_X8_isTaken li_X0_96 dX0_passOverTaken_18 hK hP hS hA [4, 5] [0, 1, 2, 3] 4 rfl rfl rfl (by decide) rfl rfl hl.1 (Nat.le_of_ble_eq_true rfl) ⟨Nat.le_of_ble_eq_true rfl, Nat.le_of_ble_eq_true rfl⟩ ⟨Nat.le_of_ble_eq_true rfl, Nat.le_of_ble_eq_true rfl⟩ (fun r_1 _ H locs hV hP hS => ?_)
        have hP : PD D A [oc a_this 0 [.ref a_press], ai cI a_press 64 f_press, oc a_p1 5 [.int i_p1_limit, .int i_p1_saw, .int i_p1_day, .ref a_p1_wall, .ref a_p1_plan, .ref a_p1_river, .ref a_p1_yard, .ref a_p1_order], oc a_p1_plan 2 [.int i_p1_plan_blocks, .int i_p1_plan_sawn, .ref a_p1_plan_left, .ref a_p1_plan_low, .ref a_p1_plan_columns, .ref a_p1_plan_rows, .ref a_p1_plan_turn, .ref a_p1_plan_blockAt], oc a_p1_yard 7 [.int i_p1_yard_taken, .int i_p1_yard_piles, .ref a_p1_yard_takenOn, .ref a_p1_yard_pileOf, .ref a_p1_yard_placeOf, .ref a_p1_yard_uppermost], ai cI a_p1_yard_takenOn 64 f_p1_yard_takenOn] H := hP
        refine lv_if_eq (tgt := 32) hx hb dX0_passOverTaken_21 (by decide) (fun h => ?_) (fun h => ?_)
        · have hV := hV.1 h
          obtain ⟨v2_2, e_v2_2⟩ : ∃ y : Int32, y = (v2 + 1) := ⟨_, rfl⟩
          have hV := hV v2_2 e_v2_2
          refine lv_iinc (v := v2_2) (lv' := [(2, .int v2_2), (0, .ref a_this), (1, .ref a_p1)]) hx hb dX0_passOverTaken_32 hl (k := 2) rfl (by rw [e_v2_2]; rfl) (by decide) rfl (fun ls hl => ?_)
          refine lv_goto (tgt := 2) hx hb dX0_passOverTaken_35 (by decide) ?_
          exact ih2 v2_2 f_press _ _ _ hP hS (lv_sub hl [1, 2, 0] rfl) hV
        · have hV := hV.2 h
          refine lv_aload_n hx hb dX0_passOverTaken_24 rfl (lv_at hl 0 rfl) ?_
          refine gX0 hx hb ht hown hK hP 0 rfl 0 (by decide) fl_X0_11 (fun _ h => h) rfl dX0_passOverTaken_25 ?_
          refine lv_iload_n hx hb dX0_passOverTaken_28 rfl (lv_at hl 2 rfl) ?_
          refine lv_ldc hx hb hown (ht _ co_X0_60) dX0_passOverTaken_29 ?_
          refine ist hx hb hK hP hS 1 rfl dX0_passOverTaken_31 hV.1 (fun f_press_3 e_f_press_3 H locs hP hS => ?_)
          have hV := hV.2 f_press_3 e_f_press_3
          have hP : PD D A [oc a_this 0 [.ref a_press], ai cI a_press 64 f_press_3, oc a_p1 5 [.int i_p1_limit, .int i_p1_saw, .int i_p1_day, .ref a_p1_wall, .ref a_p1_plan, .ref a_p1_river, .ref a_p1_yard, .ref a_p1_order], oc a_p1_plan 2 [.int i_p1_plan_blocks, .int i_p1_plan_sawn, .ref a_p1_plan_left, .ref a_p1_plan_low, .ref a_p1_plan_columns, .ref a_p1_plan_rows, .ref a_p1_plan_turn, .ref a_p1_plan_blockAt], oc a_p1_yard 7 [.int i_p1_yard_taken, .int i_p1_yard_piles, .ref a_p1_yard_takenOn, .ref a_p1_yard_pileOf, .ref a_p1_yard_placeOf, .ref a_p1_yard_uppermost], ai cI a_p1_yard_takenOn 64 f_p1_yard_takenOn] H := hP
          obtain ⟨v2_4, e_v2_4⟩ : ∃ y : Int32, y = (v2 + 1) := ⟨_, rfl⟩
          have hV := hV v2_4 e_v2_4
          refine lv_iinc (v := v2_4) (lv' := [(2, .int v2_4), (0, .ref a_this), (1, .ref a_p1)]) hx hb dX0_passOverTaken_32 hl (k := 2) rfl (by rw [e_v2_4]; rfl) (by decide) rfl (fun ls hl => ?_)
          refine lv_goto (tgt := 2) hx hb dX0_passOverTaken_35 (by decide) ?_
          exact ih2 v2_4 f_press_3 _ _ _ hP hS (lv_sub hl [1, 2, 0] rfl) hV
  refine lv_iconst (v := 0) hx hb dX0_passOverTaken_0 (by decide) ?_
  refine lv_istore_n (lv' := [(2, .int 0), (0, .ref a_this), (1, .ref a_p1)]) hx hb dX0_passOverTaken_1 rfl hl (by decide) rfl (fun ls hl => ?_)
  obtain ⟨k, hV⟩ := hV
  exact b2 k 0 f_press _ _ _ hP hS (lv_sub hl [1, 2, 0] rfl) hV

def rm_X5_isInTime : Room := { frames := 2, cells := 0, slots := 0, locals := 43 }
def P_X5_isInTime (x1 : Int32) (x2 : Int32) (f_plan_low : Nat → Int32) (f_river_height : Nat → Int32) (post : Int32 → Prop) : Prop := P_X5_dueOf x1 f_plan_low f_river_height (fun r_1 => ((r_1 = (-1) → post 1) ∧ (¬ r_1 = (-1) → ((r_1 ≤ x2 → post 0) ∧ (¬ r_1 ≤ x2 → post 1)))))
set_option maxRecDepth 100000 in
set_option maxHeartbeats 4000000 in
theorem c_X5_isInTime (l : Launch) (D : va_G) (cI cB cS : ClassId) (a_this a_plan a_plan_low a_river a_river_height a_wall a_yard a_order a_plan_left a_plan_columns a_plan_rows a_plan_turn a_plan_blockAt : Nat) (x1 : Int32) (x2 : Int32) (i_limit : Int32) (i_saw : Int32) (i_day : Int32) (i_plan_blocks : Int32) (i_plan_sawn : Int32) (f_plan_low : Nat → Int32) (f_river_height : Nat → Int32) (post : Int32 → Prop) (hV : P_X5_isInTime x1 x2 f_plan_low f_river_height post) : Ci l yX5_isInTime cX5_isInTime 4 (some .boolean) rm_X5_isInTime D cI cB cS [.ref a_this, .int x1, .int x2] [oc a_this 5 [.int i_limit, .int i_saw, .int i_day, .ref a_wall, .ref a_plan, .ref a_river, .ref a_yard, .ref a_order], oc a_plan 2 [.int i_plan_blocks, .int i_plan_sawn, .ref a_plan_left, .ref a_plan_low, .ref a_plan_columns, .ref a_plan_rows, .ref a_plan_turn, .ref a_plan_blockAt], ai cI a_plan_low 64 f_plan_low, oc a_river 3 [.ref a_river_height], ai cI a_river_height 12 f_river_height] (fun r (_ : Unit) => post r) (fun (_ : Unit) => [oc a_this 5 [.int i_limit, .int i_saw, .int i_day, .ref a_wall, .ref a_plan, .ref a_river, .ref a_yard, .ref a_order], oc a_plan 2 [.int i_plan_blocks, .int i_plan_sawn, .ref a_plan_left, .ref a_plan_low, .ref a_plan_columns, .ref a_plan_rows, .ref a_plan_turn, .ref a_plan_blockAt], ai cI a_plan_low 64 f_plan_low, oc a_river 3 [.ref a_river_height], ai cI a_river_height 12 f_river_height]) := by
  refine Cz.of ok_X5_isInTime (Nat.le_of_ble_eq_true rfl) ?_
  intro p e s m args below meth c A Q hx hb hml hown ht hnm hK hP hA hS hret ls hl
  have hown : s.vm.findClass RX5 = some m.cls := hown
  have FX : CallFix p m c cX5_isInTime 4 s args tblG RX5 := ⟨hx, hb, hml, hown, ht⟩
  have hP : PD D A [oc a_this 5 [.int i_limit, .int i_saw, .int i_day, .ref a_wall, .ref a_plan, .ref a_river, .ref a_yard, .ref a_order], oc a_plan 2 [.int i_plan_blocks, .int i_plan_sawn, .ref a_plan_left, .ref a_plan_low, .ref a_plan_columns, .ref a_plan_rows, .ref a_plan_turn, .ref a_plan_blockAt], ai cI a_plan_low 64 f_plan_low, oc a_river 3 [.ref a_river_height], ai cI a_river_height 12 f_river_height] s.heap := hP
  have hl : lv_has ls 4 [(0, .ref a_this), (1, .int x1), (2, .int x2)] := hl
  unfold P_X5_isInTime at hV
  refine lv_aload_n hx hb dX5_isInTime_0 rfl (lv_at hl 0 rfl) ?_
  refine lv_iload_n hx hb dX5_isInTime_1 rfl (lv_at hl 1 rfl) ?_
  refine KVi (As := [.int x1]) (rest := []) FX (c_X5_dueOf l D cI cB cS a_this a_plan a_plan_low a_river a_river_height a_wall a_yard a_order a_plan_left a_plan_columns a_plan_rows a_plan_turn a_plan_blockAt x1 i_limit i_saw i_day i_plan_blocks i_plan_sawn f_plan_low f_river_height _ hV) ok_X5_dueOf im_X5_dueOf se_X5_dueOf li_X5_84 dX5_isInTime_2 hK hP hS hA [0, 1, 2, 3, 4] [] 0 rfl rfl rfl (by decide) rfl rfl hl.1 (Nat.le_of_ble_eq_true rfl) ⟨Nat.le_of_ble_eq_true rfl, Nat.le_of_ble_eq_true rfl⟩ ⟨Nat.le_of_ble_eq_true rfl, Nat.le_of_ble_eq_true rfl⟩ (fun r_1 _ H locs hV hP hS => ?_)
  have hP : PD D A [oc a_this 5 [.int i_limit, .int i_saw, .int i_day, .ref a_wall, .ref a_plan, .ref a_river, .ref a_yard, .ref a_order], oc a_plan 2 [.int i_plan_blocks, .int i_plan_sawn, .ref a_plan_left, .ref a_plan_low, .ref a_plan_columns, .ref a_plan_rows, .ref a_plan_turn, .ref a_plan_blockAt], ai cI a_plan_low 64 f_plan_low, oc a_river 3 [.ref a_river_height], ai cI a_river_height 12 f_river_height] H := hP
  refine lv_istore_n (lv' := [(3, .int r_1), (0, .ref a_this), (1, .int x1), (2, .int x2)]) hx hb dX5_isInTime_5 rfl hl (by decide) rfl (fun ls hl => ?_)
  refine lv_iload_n hx hb dX5_isInTime_6 rfl (lv_at hl 0 rfl) ?_
  refine lv_iconst (v := (-1)) hx hb dX5_isInTime_7 (by decide) ?_
  refine lv_icmp_eq (tgt := 16) hx hb dX5_isInTime_8 (by decide) (fun h => ?_) (fun h => ?_)
  · have hV := hV.1 h
    refine lv_iconst (v := 1) hx hb dX5_isInTime_16 (by decide) ?_
    refine lv_goto (tgt := 21) hx hb dX5_isInTime_17 (by decide) ?_
    exact hret _ _ _ _ _ () hS dX5_isInTime_21 hP (by decide) hV
  · have hV := hV.2 h
    refine lv_iload_n hx hb dX5_isInTime_11 rfl (lv_at hl 3 rfl) ?_
    refine lv_iload_n hx hb dX5_isInTime_12 rfl (lv_at hl 0 rfl) ?_
    refine lv_icmp_ge (tgt := 20) hx hb dX5_isInTime_13 (by decide) (fun h => ?_) (fun h => ?_)
    · have hV := hV.1 h
      refine lv_iconst (v := 0) hx hb dX5_isInTime_20 (by decide) ?_
      exact hret _ _ _ _ _ () hS dX5_isInTime_21 hP (by decide) hV
    · have hV := hV.2 h
      refine lv_iconst (v := 1) hx hb dX5_isInTime_16 (by decide) ?_
      refine lv_goto (tgt := 21) hx hb dX5_isInTime_17 (by decide) ?_
      exact hret _ _ _ _ _ () hS dX5_isInTime_21 hP (by decide) hV

def rm_X0_arrange : Room := { frames := 3, cells := 0, slots := 0, locals := 69 }
def V_X0_arrange_38 (v3 : Int32) (i_p1_day : Int32) (i_p1_plan_blocks : Int32) (f_p1_plan_low : Nat → Int32) (f_p1_river_height : Nat → Int32) (post : Int32 → (Nat → Int32) → Int32 → (Nat → Int32) → Prop) : Nat → Int32 → Int32 → (Nat → Int32) → Int32 → (Nat → Int32) → Prop
  | 0, _, _, _, _, _ => False
  | n + 1, v2, v4, f_press, i_p1_order_places, f_p1_order_block => ((v3 ≤ v4 → post v2 f_press i_p1_order_places f_p1_order_block) ∧ (¬ v3 ≤ v4 → P_X0_mostPressing i_p1_plan_blocks f_press (fun r_1 => P_X1_add r_1 i_p1_order_places f_p1_order_block (fun i_p1_order_places_2 f_p1_order_block_3 => (vp_in r_1 64 ∧ ∀ f_press_4 : Nat → Int32, f_press_4 = upd f_press r_1.toNatClampNeg 100001 → P_X5_isInTime r_1 (i_p1_day + v4) f_p1_plan_low f_p1_river_height (fun r_5 => ((r_5 = 0 → (∀ v2_7 : Int32, v2_7 = (v2 + 1) → (∀ v4_8 : Int32, v4_8 = (v4 + 1) → V_X0_arrange_38 v3 i_p1_day i_p1_plan_blocks f_p1_plan_low f_p1_river_height post n v2_7 v4_8 f_press_4 i_p1_order_places_2 f_p1_order_block_3))) ∧ (¬ r_5 = 0 → (∀ v4_6 : Int32, v4_6 = (v4 + 1) → V_X0_arrange_38 v3 i_p1_day i_p1_plan_blocks f_p1_plan_low f_p1_river_height post n v2 v4_6 f_press_4 i_p1_order_places_2 f_p1_order_block_3)))))))))
theorem V_X0_arrange_38_s (v3 : Int32) (i_p1_day : Int32) (i_p1_plan_blocks : Int32) (f_p1_plan_low : Nat → Int32) (f_p1_river_height : Nat → Int32) (post : Int32 → (Nat → Int32) → Int32 → (Nat → Int32) → Prop) (n : Nat) (v2 : Int32) (v4 : Int32) (f_press : Nat → Int32) (i_p1_order_places : Int32) (f_p1_order_block : Nat → Int32) : V_X0_arrange_38 v3 i_p1_day i_p1_plan_blocks f_p1_plan_low f_p1_river_height post (n + 1) v2 v4 f_press i_p1_order_places f_p1_order_block = (((v3 ≤ v4 → post v2 f_press i_p1_order_places f_p1_order_block) ∧ (¬ v3 ≤ v4 → P_X0_mostPressing i_p1_plan_blocks f_press (fun r_1 => P_X1_add r_1 i_p1_order_places f_p1_order_block (fun i_p1_order_places_2 f_p1_order_block_3 => (vp_in r_1 64 ∧ ∀ f_press_4 : Nat → Int32, f_press_4 = upd f_press r_1.toNatClampNeg 100001 → P_X5_isInTime r_1 (i_p1_day + v4) f_p1_plan_low f_p1_river_height (fun r_5 => ((r_5 = 0 → (∀ v2_7 : Int32, v2_7 = (v2 + 1) → (∀ v4_8 : Int32, v4_8 = (v4 + 1) → V_X0_arrange_38 v3 i_p1_day i_p1_plan_blocks f_p1_plan_low f_p1_river_height post n v2_7 v4_8 f_press_4 i_p1_order_places_2 f_p1_order_block_3))) ∧ (¬ r_5 = 0 → (∀ v4_6 : Int32, v4_6 = (v4 + 1) → V_X0_arrange_38 v3 i_p1_day i_p1_plan_blocks f_p1_plan_low f_p1_river_height post n v2 v4_6 f_press_4 i_p1_order_places_2 f_p1_order_block_3)))))))))) := rfl
def P_X0_arrange (f_press : Nat → Int32) (i_p1_day : Int32) (i_p1_wall_columns : Int32) (i_p1_wall_rows : Int32) (i_p1_plan_blocks : Int32) (f_p1_plan_low : Nat → Int32) (f_p1_plan_blockAt : Nat → Int32) (f_p1_river_height : Nat → Int32) (i_p1_yard_taken : Int32) (f_p1_yard_takenOn : Nat → Int32) (f_p1_order_block : Nat → Int32) (post : Int32 → (Nat → Int32) → Int32 → (Nat → Int32) → Prop) : Prop := P_X0_findPress f_press i_p1_wall_columns i_p1_wall_rows i_p1_plan_blocks f_p1_plan_low f_p1_plan_blockAt f_p1_river_height (fun f_press_9 => P_X0_passOverTaken f_press_9 i_p1_plan_blocks f_p1_yard_takenOn (fun f_press_10 => P_X1_clear (fun i_p1_order_places_11 => (∀ v3_12 : Int32, v3_12 = (i_p1_plan_blocks - i_p1_yard_taken) → (∃ k : Nat, V_X0_arrange_38 v3_12 i_p1_day i_p1_plan_blocks f_p1_plan_low f_p1_river_height post k 0 0 f_press_10 i_p1_order_places_11 f_p1_order_block)))))
set_option maxRecDepth 100000 in
set_option maxHeartbeats 4000000 in
theorem c_X0_arrange (l : Launch) (D : va_G) (cI cB cS : ClassId) (a_this a_press a_p1 a_p1_wall a_p1_plan a_p1_plan_low a_p1_plan_blockAt a_p1_river a_p1_river_height a_p1_yard a_p1_yard_takenOn a_p1_order a_p1_order_block a_p1_wall_weight a_p1_wall_motif a_p1_plan_left a_p1_plan_columns a_p1_plan_rows a_p1_plan_turn a_p1_yard_pileOf a_p1_yard_placeOf a_p1_yard_uppermost : Nat) (f_press : Nat → Int32) (i_p1_limit : Int32) (i_p1_saw : Int32) (i_p1_day : Int32) (i_p1_wall_columns : Int32) (i_p1_wall_rows : Int32) (i_p1_plan_blocks : Int32) (i_p1_plan_sawn : Int32) (f_p1_plan_low : Nat → Int32) (f_p1_plan_blockAt : Nat → Int32) (f_p1_river_height : Nat → Int32) (i_p1_yard_taken : Int32) (i_p1_yard_piles : Int32) (f_p1_yard_takenOn : Nat → Int32) (i_p1_order_places : Int32) (f_p1_order_block : Nat → Int32) (post : Int32 → (Nat → Int32) → Int32 → (Nat → Int32) → Prop) (hV : P_X0_arrange f_press i_p1_day i_p1_wall_columns i_p1_wall_rows i_p1_plan_blocks f_p1_plan_low f_p1_plan_blockAt f_p1_river_height i_p1_yard_taken f_p1_yard_takenOn f_p1_order_block post) : Ci l yX0_arrange cX0_arrange 6 (some .int) rm_X0_arrange D cI cB cS [.ref a_this, .ref a_p1] [oc a_this 0 [.ref a_press], ai cI a_press 64 f_press, oc a_p1 5 [.int i_p1_limit, .int i_p1_saw, .int i_p1_day, .ref a_p1_wall, .ref a_p1_plan, .ref a_p1_river, .ref a_p1_yard, .ref a_p1_order], oc a_p1_wall 6 [.int i_p1_wall_columns, .int i_p1_wall_rows, .ref a_p1_wall_weight, .ref a_p1_wall_motif], oc a_p1_plan 2 [.int i_p1_plan_blocks, .int i_p1_plan_sawn, .ref a_p1_plan_left, .ref a_p1_plan_low, .ref a_p1_plan_columns, .ref a_p1_plan_rows, .ref a_p1_plan_turn, .ref a_p1_plan_blockAt], ai cI a_p1_plan_low 64 f_p1_plan_low, ai cI a_p1_plan_blockAt 64 f_p1_plan_blockAt, oc a_p1_river 3 [.ref a_p1_river_height], ai cI a_p1_river_height 12 f_p1_river_height, oc a_p1_yard 7 [.int i_p1_yard_taken, .int i_p1_yard_piles, .ref a_p1_yard_takenOn, .ref a_p1_yard_pileOf, .ref a_p1_yard_placeOf, .ref a_p1_yard_uppermost], ai cI a_p1_yard_takenOn 64 f_p1_yard_takenOn, oc a_p1_order 1 [.int i_p1_order_places, .ref a_p1_order_block], ai cI a_p1_order_block 64 f_p1_order_block] (fun r (u : (Nat → Int32) × Int32 × (Nat → Int32)) => post r u.1 u.2.1 u.2.2) (fun (u : (Nat → Int32) × Int32 × (Nat → Int32)) => [oc a_this 0 [.ref a_press], ai cI a_press 64 (u.1), oc a_p1 5 [.int i_p1_limit, .int i_p1_saw, .int i_p1_day, .ref a_p1_wall, .ref a_p1_plan, .ref a_p1_river, .ref a_p1_yard, .ref a_p1_order], oc a_p1_wall 6 [.int i_p1_wall_columns, .int i_p1_wall_rows, .ref a_p1_wall_weight, .ref a_p1_wall_motif], oc a_p1_plan 2 [.int i_p1_plan_blocks, .int i_p1_plan_sawn, .ref a_p1_plan_left, .ref a_p1_plan_low, .ref a_p1_plan_columns, .ref a_p1_plan_rows, .ref a_p1_plan_turn, .ref a_p1_plan_blockAt], ai cI a_p1_plan_low 64 f_p1_plan_low, ai cI a_p1_plan_blockAt 64 f_p1_plan_blockAt, oc a_p1_river 3 [.ref a_p1_river_height], ai cI a_p1_river_height 12 f_p1_river_height, oc a_p1_yard 7 [.int i_p1_yard_taken, .int i_p1_yard_piles, .ref a_p1_yard_takenOn, .ref a_p1_yard_pileOf, .ref a_p1_yard_placeOf, .ref a_p1_yard_uppermost], ai cI a_p1_yard_takenOn 64 f_p1_yard_takenOn, oc a_p1_order 1 [.int u.2.1, .ref a_p1_order_block], ai cI a_p1_order_block 64 (u.2.2)]) := by
  refine Ci.of ok_X0_arrange (Nat.le_of_ble_eq_true rfl) ?_
  intro p e s m args below meth c A Q hx hb hml hown ht hnm hK hP hA hS hret ls hl
  have hown : s.vm.findClass RX0 = some m.cls := hown
  have FX : CallFix p m c cX0_arrange 6 s args tblG RX0 := ⟨hx, hb, hml, hown, ht⟩
  have hP : PD D A [oc a_this 0 [.ref a_press], ai cI a_press 64 f_press, oc a_p1 5 [.int i_p1_limit, .int i_p1_saw, .int i_p1_day, .ref a_p1_wall, .ref a_p1_plan, .ref a_p1_river, .ref a_p1_yard, .ref a_p1_order], oc a_p1_wall 6 [.int i_p1_wall_columns, .int i_p1_wall_rows, .ref a_p1_wall_weight, .ref a_p1_wall_motif], oc a_p1_plan 2 [.int i_p1_plan_blocks, .int i_p1_plan_sawn, .ref a_p1_plan_left, .ref a_p1_plan_low, .ref a_p1_plan_columns, .ref a_p1_plan_rows, .ref a_p1_plan_turn, .ref a_p1_plan_blockAt], ai cI a_p1_plan_low 64 f_p1_plan_low, ai cI a_p1_plan_blockAt 64 f_p1_plan_blockAt, oc a_p1_river 3 [.ref a_p1_river_height], ai cI a_p1_river_height 12 f_p1_river_height, oc a_p1_yard 7 [.int i_p1_yard_taken, .int i_p1_yard_piles, .ref a_p1_yard_takenOn, .ref a_p1_yard_pileOf, .ref a_p1_yard_placeOf, .ref a_p1_yard_uppermost], ai cI a_p1_yard_takenOn 64 f_p1_yard_takenOn, oc a_p1_order 1 [.int i_p1_order_places, .ref a_p1_order_block], ai cI a_p1_order_block 64 f_p1_order_block] s.heap := hP
  have hl : lv_has ls 6 [(0, .ref a_this), (1, .ref a_p1)] := hl
  unfold P_X0_arrange at hV
  have b38 : ∀ (v3 : Int32) (k38 : Nat) (v2 : Int32) (v4 : Int32) (f_press : Nat → Int32) (i_p1_order_places : Int32) (f_p1_order_block : Nat → Int32) (H : Heap) (locs : List Loc) (ls : Array Slot), PD D A [oc a_this 0 [.ref a_press], ai cI a_press 64 f_press, oc a_p1 5 [.int i_p1_limit, .int i_p1_saw, .int i_p1_day, .ref a_p1_wall, .ref a_p1_plan, .ref a_p1_river, .ref a_p1_yard, .ref a_p1_order], oc a_p1_wall 6 [.int i_p1_wall_columns, .int i_p1_wall_rows, .ref a_p1_wall_weight, .ref a_p1_wall_motif], oc a_p1_plan 2 [.int i_p1_plan_blocks, .int i_p1_plan_sawn, .ref a_p1_plan_left, .ref a_p1_plan_low, .ref a_p1_plan_columns, .ref a_p1_plan_rows, .ref a_p1_plan_turn, .ref a_p1_plan_blockAt], ai cI a_p1_plan_low 64 f_p1_plan_low, ai cI a_p1_plan_blockAt 64 f_p1_plan_blockAt, oc a_p1_river 3 [.ref a_p1_river_height], ai cI a_p1_river_height 12 f_p1_river_height, oc a_p1_yard 7 [.int i_p1_yard_taken, .int i_p1_yard_piles, .ref a_p1_yard_takenOn, .ref a_p1_yard_pileOf, .ref a_p1_yard_placeOf, .ref a_p1_yard_uppermost], ai cI a_p1_yard_takenOn 64 f_p1_yard_takenOn, oc a_p1_order 1 [.int i_p1_order_places, .ref a_p1_order_block], ai cI a_p1_order_block 64 f_p1_order_block] H → va_S A s.heap H locs → lv_has ls 6 [(0, .ref a_this), (1, .ref a_p1), (2, .int v2), (3, .int v3), (4, .int v4)] → V_X0_arrange_38 v3 i_p1_day i_p1_plan_blocks f_p1_plan_low f_p1_river_height post k38 v2 v4 f_press i_p1_order_places f_p1_order_block → W p l e rm_X0_arrange s m args below meth c H locs 0 0 Q (F0 m 38 ls []) := by
    intro v3 k38
    induction k38 with
    | zero => intro v2 v4 f_press i_p1_order_places f_p1_order_block H locs ls hP hS hl hV; exact False.elim hV
    | succ k38 ih38 =>
      intro v2 v4 f_press i_p1_order_places f_p1_order_block H locs ls hP hS hl hV
      rw [V_X0_arrange_38_s] at hV
      refine lv_iload hx hb dX0_arrange_38 (lv_at hl 4 rfl) ?_
      refine lv_iload_n hx hb dX0_arrange_40 rfl (lv_at hl 3 rfl) ?_
      refine lv_icmp_ge (tgt := 100) hx hb dX0_arrange_41 (by decide) (fun h => ?_) (fun h => ?_)
      · have hV := hV.1 h
        refine lv_iload_n hx hb dX0_arrange_100 rfl (lv_at hl 2 rfl) ?_
        exact hret _ _ _ _ _ (f_press, i_p1_order_places, f_p1_order_block) hS dX0_arrange_101 hP hV
      · have hV := hV.2 h
        refine lv_aload_n hx hb dX0_arrange_44 rfl (lv_at hl 0 rfl) ?_
        refine lv_aload_n hx hb dX0_arrange_45 rfl (lv_at hl 1 rfl) ?_
        refine gX5 hx hb ht hown hK hP 2 rfl 4 (by decide) fl_X0_33 (fun _ h => h) rfl dX0_arrange_46 ?_
        refine gX2 hx hb ht hown hK hP 4 rfl 0 (by decide) fl_X0_37 (fun _ h => h) rfl dX0_arrange_49 ?_
        refine KVi (As := [.int i_p1_plan_blocks]) (rest := []) FX (c_X0_mostPressing l D cI cB cS a_this a_press i_p1_plan_blocks f_press _ hV) ok_X0_mostPressing im_X0_mostPressing se_X0_mostPressing li_X0_52 dX0_arrange_52 hK hP hS hA [0, 1] [2, 3, 4, 5, 6, 7, 8, 9, 10, 11, 12] 0 rfl rfl rfl (by decide) rfl rfl hl.1 (Nat.le_of_ble_eq_true rfl) ⟨Nat.le_of_ble_eq_true rfl, Nat.le_of_ble_eq_true rfl⟩ ⟨Nat.le_of_ble_eq_true rfl, Nat.le_of_ble_eq_true rfl⟩ (fun r_1 _ H locs hV hP hS => ?_)
        have hP : PD D A [oc a_p1 5 [.int i_p1_limit, .int i_p1_saw, .int i_p1_day, .ref a_p1_wall, .ref a_p1_plan, .ref a_p1_river, .ref a_p1_yard, .ref a_p1_order], oc a_p1_wall 6 [.int i_p1_wall_columns, .int i_p1_wall_rows, .ref a_p1_wall_weight, .ref a_p1_wall_motif], oc a_p1_plan 2 [.int i_p1_plan_blocks, .int i_p1_plan_sawn, .ref a_p1_plan_left, .ref a_p1_plan_low, .ref a_p1_plan_columns, .ref a_p1_plan_rows, .ref a_p1_plan_turn, .ref a_p1_plan_blockAt], ai cI a_p1_plan_low 64 f_p1_plan_low, ai cI a_p1_plan_blockAt 64 f_p1_plan_blockAt, oc a_p1_river 3 [.ref a_p1_river_height], ai cI a_p1_river_height 12 f_p1_river_height, oc a_p1_yard 7 [.int i_p1_yard_taken, .int i_p1_yard_piles, .ref a_p1_yard_takenOn, .ref a_p1_yard_pileOf, .ref a_p1_yard_placeOf, .ref a_p1_yard_uppermost], ai cI a_p1_yard_takenOn 64 f_p1_yard_takenOn, oc a_p1_order 1 [.int i_p1_order_places, .ref a_p1_order_block], ai cI a_p1_order_block 64 f_p1_order_block, oc a_this 0 [.ref a_press], ai cI a_press 64 f_press] H := hP
        refine lv_istore (lv' := [(5, .int r_1), (0, .ref a_this), (1, .ref a_p1), (2, .int v2), (3, .int v3), (4, .int v4)]) hx hb dX0_arrange_55 hl (by decide) rfl (fun ls hl => ?_)
        refine lv_aload_n hx hb dX0_arrange_57 rfl (lv_at hl 2 rfl) ?_
        refine gX5 hx hb ht hown hK hP 0 rfl 7 (by decide) fl_X0_22 (fun _ h => h) rfl dX0_arrange_58 ?_
        refine lv_iload hx hb dX0_arrange_61 (lv_at hl 0 rfl) ?_
        refine KVv (As := [.int r_1]) (rest := []) FX (c_X1_add l D cI cB cS a_p1_order a_p1_order_block r_1 i_p1_order_places f_p1_order_block _ hV) ok_X1_add im_X1_add se_X1_add li_X0_56 dX0_arrange_63 hK hP hS hA [9, 10] [0, 1, 2, 3, 4, 5, 6, 7, 8, 11, 12] 9 rfl rfl rfl (by decide) rfl rfl hl.1 (Nat.le_of_ble_eq_true rfl) ⟨Nat.le_of_ble_eq_true rfl, Nat.le_of_ble_eq_true rfl⟩ ⟨Nat.le_of_ble_eq_true rfl, Nat.le_of_ble_eq_true rfl⟩ (fun u H locs hV hP hS => ?_)
        obtain ⟨i_p1_order_places_2, f_p1_order_block_3⟩ := u
        try dsimp only at hV
        have hP : PD D A [oc a_p1 5 [.int i_p1_limit, .int i_p1_saw, .int i_p1_day, .ref a_p1_wall, .ref a_p1_plan, .ref a_p1_river, .ref a_p1_yard, .ref a_p1_order], oc a_p1_wall 6 [.int i_p1_wall_columns, .int i_p1_wall_rows, .ref a_p1_wall_weight, .ref a_p1_wall_motif], oc a_p1_plan 2 [.int i_p1_plan_blocks, .int i_p1_plan_sawn, .ref a_p1_plan_left, .ref a_p1_plan_low, .ref a_p1_plan_columns, .ref a_p1_plan_rows, .ref a_p1_plan_turn, .ref a_p1_plan_blockAt], ai cI a_p1_plan_low 64 f_p1_plan_low, ai cI a_p1_plan_blockAt 64 f_p1_plan_blockAt, oc a_p1_river 3 [.ref a_p1_river_height], ai cI a_p1_river_height 12 f_p1_river_height, oc a_p1_yard 7 [.int i_p1_yard_taken, .int i_p1_yard_piles, .ref a_p1_yard_takenOn, .ref a_p1_yard_pileOf, .ref a_p1_yard_placeOf, .ref a_p1_yard_uppermost], ai cI a_p1_yard_takenOn 64 f_p1_yard_takenOn, oc a_this 0 [.ref a_press], ai cI a_press 64 f_press, oc a_p1_order 1 [.int i_p1_order_places_2, .ref a_p1_order_block], ai cI a_p1_order_block 64 f_p1_order_block_3] H := hP
        refine lv_aload_n hx hb dX0_arrange_66 rfl (lv_at hl 1 rfl) ?_
        refine gX0 hx hb ht hown hK hP 9 rfl 0 (by decide) fl_X0_11 (fun _ h => h) rfl dX0_arrange_67 ?_
        refine lv_iload hx hb dX0_arrange_70 (lv_at hl 0 rfl) ?_
        refine lv_ldc hx hb hown (ht _ co_X0_60) dX0_arrange_72 ?_
        refine ist hx hb hK hP hS 10 rfl dX0_arrange_74 hV.1 (fun f_press_4 e_f_press_4 H locs hP hS => ?_)
        have hV := hV.2 f_press_4 e_f_press_4
        have hP : PD D A [oc a_p1 5 [.int i_p1_limit, .int i_p1_saw, .int i_p1_day, .ref a_p1_wall, .ref a_p1_plan, .ref a_p1_river, .ref a_p1_yard, .ref a_p1_order], oc a_p1_wall 6 [.int i_p1_wall_columns, .int i_p1_wall_rows, .ref a_p1_wall_weight, .ref a_p1_wall_motif], oc a_p1_plan 2 [.int i_p1_plan_blocks, .int i_p1_plan_sawn, .ref a_p1_plan_left, .ref a_p1_plan_low, .ref a_p1_plan_columns, .ref a_p1_plan_rows, .ref a_p1_plan_turn, .ref a_p1_plan_blockAt], ai cI a_p1_plan_low 64 f_p1_plan_low, ai cI a_p1_plan_blockAt 64 f_p1_plan_blockAt, oc a_p1_river 3 [.ref a_p1_river_height], ai cI a_p1_river_height 12 f_p1_river_height, oc a_p1_yard 7 [.int i_p1_yard_taken, .int i_p1_yard_piles, .ref a_p1_yard_takenOn, .ref a_p1_yard_pileOf, .ref a_p1_yard_placeOf, .ref a_p1_yard_uppermost], ai cI a_p1_yard_takenOn 64 f_p1_yard_takenOn, oc a_this 0 [.ref a_press], ai cI a_press 64 f_press_4, oc a_p1_order 1 [.int i_p1_order_places_2, .ref a_p1_order_block], ai cI a_p1_order_block 64 f_p1_order_block_3] H := hP
        refine lv_aload_n hx hb dX0_arrange_75 rfl (lv_at hl 2 rfl) ?_
        refine lv_iload hx hb dX0_arrange_76 (lv_at hl 0 rfl) ?_
        refine lv_aload_n hx hb dX0_arrange_78 rfl (lv_at hl 2 rfl) ?_
        refine gX5 hx hb ht hown hK hP 0 rfl 2 (by decide) fl_X0_61 (fun _ h => h) rfl dX0_arrange_79 ?_
        refine lv_iload hx hb dX0_arrange_82 (lv_at hl 5 rfl) ?_
        refine lv_iadd hx hb dX0_arrange_84 ?_
        refine KVi (As := [.int r_1, .int (i_p1_day + v4)]) (rest := []) FX (c_X5_isInTime l D cI cB cS a_p1 a_p1_plan a_p1_plan_low a_p1_river a_p1_river_height a_p1_wall a_p1_yard a_p1_order a_p1_plan_left a_p1_plan_columns a_p1_plan_rows a_p1_plan_turn a_p1_plan_blockAt r_1 (i_p1_day + v4) i_p1_limit i_p1_saw i_p1_day i_p1_plan_blocks i_p1_plan_sawn f_p1_plan_low f_p1_river_height _ hV) ok_X5_isInTime im_X5_isInTime se_X5_isInTime li_X0_64 dX0_arrange_85 hK hP hS hA [0, 2, 3, 5, 6] [1, 4, 7, 8, 9, 10, 11, 12] 0 rfl rfl rfl (by decide) rfl rfl hl.1 (Nat.le_of_ble_eq_true rfl) ⟨Nat.le_of_ble_eq_true rfl, Nat.le_of_ble_eq_true rfl⟩ ⟨Nat.le_of_ble_eq_true rfl, Nat.le_of_ble_eq_true rfl⟩ (fun r_5 _ H locs hV hP hS => ?_)
        have hP : PD D A [oc a_p1_wall 6 [.int i_p1_wall_columns, .int i_p1_wall_rows, .ref a_p1_wall_weight, .ref a_p1_wall_motif], ai cI a_p1_plan_blockAt 64 f_p1_plan_blockAt, oc a_p1_yard 7 [.int i_p1_yard_taken, .int i_p1_yard_piles, .ref a_p1_yard_takenOn, .ref a_p1_yard_pileOf, .ref a_p1_yard_placeOf, .ref a_p1_yard_uppermost], ai cI a_p1_yard_takenOn 64 f_p1_yard_takenOn, oc a_this 0 [.ref a_press], ai cI a_press 64 f_press_4, oc a_p1_order 1 [.int i_p1_order_places_2, .ref a_p1_order_block], ai cI a_p1_order_block 64 f_p1_order_block_3, oc a_p1 5 [.int i_p1_limit, .int i_p1_saw, .int i_p1_day, .ref a_p1_wall, .ref a_p1_plan, .ref a_p1_river, .ref a_p1_yard, .ref a_p1_order], oc a_p1_plan 2 [.int i_p1_plan_blocks, .int i_p1_plan_sawn, .ref a_p1_plan_left, .ref a_p1_plan_low, .ref a_p1_plan_columns, .ref a_p1_plan_rows, .ref a_p1_plan_turn, .ref a_p1_plan_blockAt], ai cI a_p1_plan_low 64 f_p1_plan_low, oc a_p1_river 3 [.ref a_p1_river_height], ai cI a_p1_river_height 12 f_p1_river_height] H := hP
        refine lv_if_ne (tgt := 94) hx hb dX0_arrange_88 (by decide) (fun h => ?_) (fun h => ?_)
        · have hV := hV.2 h
          obtain ⟨v4_6, e_v4_6⟩ : ∃ y : Int32, y = (v4 + 1) := ⟨_, rfl⟩
          have hV := hV v4_6 e_v4_6
          refine lv_iinc (v := v4_6) (lv' := [(4, .int v4_6), (5, .int r_1), (0, .ref a_this), (1, .ref a_p1), (2, .int v2), (3, .int v3)]) hx hb dX0_arrange_94 hl (k := 5) rfl (by rw [e_v4_6]; rfl) (by decide) rfl (fun ls hl => ?_)
          refine lv_goto (tgt := 38) hx hb dX0_arrange_97 (by decide) ?_
          exact ih38 v2 v4_6 f_press_4 i_p1_order_places_2 f_p1_order_block_3 _ _ _ (hP.sub [4, 5, 8, 0, 9, 10, 1, 11, 12, 2, 3, 6, 7] rfl rfl) hS (lv_sub hl [2, 3, 4, 5, 0] rfl) hV
        · have hV := hV.1 h
          obtain ⟨v2_7, e_v2_7⟩ : ∃ y : Int32, y = (v2 + 1) := ⟨_, rfl⟩
          have hV := hV v2_7 e_v2_7
          refine lv_iinc (v := v2_7) (lv' := [(2, .int v2_7), (5, .int r_1), (0, .ref a_this), (1, .ref a_p1), (3, .int v3), (4, .int v4)]) hx hb dX0_arrange_91 hl (k := 3) rfl (by rw [e_v2_7]; rfl) (by decide) rfl (fun ls hl => ?_)
          obtain ⟨v4_8, e_v4_8⟩ : ∃ y : Int32, y = (v4 + 1) := ⟨_, rfl⟩
          have hV := hV v4_8 e_v4_8
          refine lv_iinc (v := v4_8) (lv' := [(4, .int v4_8), (2, .int v2_7), (5, .int r_1), (0, .ref a_this), (1, .ref a_p1), (3, .int v3)]) hx hb dX0_arrange_94 hl (k := 5) rfl (by rw [e_v4_8]; rfl) (by decide) rfl (fun ls hl => ?_)
          refine lv_goto (tgt := 38) hx hb dX0_arrange_97 (by decide) ?_
          exact ih38 v2_7 v4_8 f_press_4 i_p1_order_places_2 f_p1_order_block_3 _ _ _ (hP.sub [4, 5, 8, 0, 9, 10, 1, 11, 12, 2, 3, 6, 7] rfl rfl) hS (lv_sub hl [3, 4, 1, 5, 0] rfl) hV
  refine lv_aload_n hx hb dX0_arrange_0 rfl (lv_at hl 0 rfl) ?_
  refine lv_aload_n hx hb dX0_arrange_1 rfl (lv_at hl 1 rfl) ?_
  refine KVv (As := [.ref a_p1]) (rest := []) FX (c_X0_findPress l D cI cB cS a_this a_press a_p1 a_p1_wall a_p1_plan a_p1_plan_low a_p1_plan_blockAt a_p1_river a_p1_river_height a_p1_yard a_p1_order a_p1_wall_weight a_p1_wall_motif a_p1_plan_left a_p1_plan_columns a_p1_plan_rows a_p1_plan_turn f_press i_p1_limit i_p1_saw i_p1_day i_p1_wall_columns i_p1_wall_rows i_p1_plan_blocks i_p1_plan_sawn f_p1_plan_low f_p1_plan_blockAt f_p1_river_height _ hV) ok_X0_findPress im_X0_findPress se_X0_findPress li_X0_15 dX0_arrange_2 hK hP hS hA [0, 1, 2, 3, 4, 5, 6, 7, 8] [9, 10, 11, 12] 0 rfl rfl rfl (by decide) rfl rfl hl.1 (Nat.le_of_ble_eq_true rfl) ⟨Nat.le_of_ble_eq_true rfl, Nat.le_of_ble_eq_true rfl⟩ ⟨Nat.le_of_ble_eq_true rfl, Nat.le_of_ble_eq_true rfl⟩ (fun f_press_9 H locs hV hP hS => ?_)
  have hP : PD D A [oc a_p1_yard 7 [.int i_p1_yard_taken, .int i_p1_yard_piles, .ref a_p1_yard_takenOn, .ref a_p1_yard_pileOf, .ref a_p1_yard_placeOf, .ref a_p1_yard_uppermost], ai cI a_p1_yard_takenOn 64 f_p1_yard_takenOn, oc a_p1_order 1 [.int i_p1_order_places, .ref a_p1_order_block], ai cI a_p1_order_block 64 f_p1_order_block, oc a_this 0 [.ref a_press], ai cI a_press 64 f_press_9, oc a_p1 5 [.int i_p1_limit, .int i_p1_saw, .int i_p1_day, .ref a_p1_wall, .ref a_p1_plan, .ref a_p1_river, .ref a_p1_yard, .ref a_p1_order], oc a_p1_wall 6 [.int i_p1_wall_columns, .int i_p1_wall_rows, .ref a_p1_wall_weight, .ref a_p1_wall_motif], oc a_p1_plan 2 [.int i_p1_plan_blocks, .int i_p1_plan_sawn, .ref a_p1_plan_left, .ref a_p1_plan_low, .ref a_p1_plan_columns, .ref a_p1_plan_rows, .ref a_p1_plan_turn, .ref a_p1_plan_blockAt], ai cI a_p1_plan_low 64 f_p1_plan_low, ai cI a_p1_plan_blockAt 64 f_p1_plan_blockAt, oc a_p1_river 3 [.ref a_p1_river_height], ai cI a_p1_river_height 12 f_p1_river_height] H := hP
  refine lv_aload_n hx hb dX0_arrange_5 rfl (lv_at hl 0 rfl) ?_
  refine lv_aload_n hx hb dX0_arrange_6 rfl (lv_at hl 1 rfl) ?_
  refine KVv (As := [.ref a_p1]) (rest := []) FX (c_X0_passOverTaken l D cI cB cS a_this a_press a_p1 a_p1_plan a_p1_yard a_p1_yard_takenOn a_p1_wall a_p1_river a_p1_order a_p1_plan_left a_p1_plan_low a_p1_plan_columns a_p1_plan_rows a_p1_plan_turn a_p1_plan_blockAt a_p1_yard_pileOf a_p1_yard_placeOf a_p1_yard_uppermost f_press_9 i_p1_limit i_p1_saw i_p1_day i_p1_plan_blocks i_p1_plan_sawn i_p1_yard_taken i_p1_yard_piles f_p1_yard_takenOn _ hV) ok_X0_passOverTaken im_X0_passOverTaken se_X0_passOverTaken li_X0_19 dX0_arrange_7 hK hP hS hA [4, 5, 6, 8, 0, 1] [2, 3, 7, 9, 10, 11, 12] 4 rfl rfl rfl (by decide) rfl rfl hl.1 (Nat.le_of_ble_eq_true rfl) ⟨Nat.le_of_ble_eq_true rfl, Nat.le_of_ble_eq_true rfl⟩ ⟨Nat.le_of_ble_eq_true rfl, Nat.le_of_ble_eq_true rfl⟩ (fun f_press_10 H locs hV hP hS => ?_)
  have hP : PD D A [oc a_p1_order 1 [.int i_p1_order_places, .ref a_p1_order_block], ai cI a_p1_order_block 64 f_p1_order_block, oc a_p1_wall 6 [.int i_p1_wall_columns, .int i_p1_wall_rows, .ref a_p1_wall_weight, .ref a_p1_wall_motif], ai cI a_p1_plan_low 64 f_p1_plan_low, ai cI a_p1_plan_blockAt 64 f_p1_plan_blockAt, oc a_p1_river 3 [.ref a_p1_river_height], ai cI a_p1_river_height 12 f_p1_river_height, oc a_this 0 [.ref a_press], ai cI a_press 64 f_press_10, oc a_p1 5 [.int i_p1_limit, .int i_p1_saw, .int i_p1_day, .ref a_p1_wall, .ref a_p1_plan, .ref a_p1_river, .ref a_p1_yard, .ref a_p1_order], oc a_p1_plan 2 [.int i_p1_plan_blocks, .int i_p1_plan_sawn, .ref a_p1_plan_left, .ref a_p1_plan_low, .ref a_p1_plan_columns, .ref a_p1_plan_rows, .ref a_p1_plan_turn, .ref a_p1_plan_blockAt], oc a_p1_yard 7 [.int i_p1_yard_taken, .int i_p1_yard_piles, .ref a_p1_yard_takenOn, .ref a_p1_yard_pileOf, .ref a_p1_yard_placeOf, .ref a_p1_yard_uppermost], ai cI a_p1_yard_takenOn 64 f_p1_yard_takenOn] H := hP
  refine lv_aload_n hx hb dX0_arrange_10 rfl (lv_at hl 1 rfl) ?_
  refine gX5 hx hb ht hown hK hP 9 rfl 7 (by decide) fl_X0_22 (fun _ h => h) rfl dX0_arrange_11 ?_
  refine KVv (As := []) (rest := []) FX (c_X1_clear l D cI cB cS a_p1_order a_p1_order_block i_p1_order_places _ hV) ok_X1_clear im_X1_clear se_X1_clear li_X0_28 dX0_arrange_14 hK hP hS hA [0] [1, 2, 3, 4, 5, 6, 7, 8, 9, 10, 11, 12] 0 rfl rfl rfl (by decide) rfl rfl hl.1 (Nat.le_of_ble_eq_true rfl) ⟨Nat.le_of_ble_eq_true rfl, Nat.le_of_ble_eq_true rfl⟩ ⟨Nat.le_of_ble_eq_true rfl, Nat.le_of_ble_eq_true rfl⟩ (fun i_p1_order_places_11 H locs hV hP hS => ?_)
  have hP : PD D A [ai cI a_p1_order_block 64 f_p1_order_block, oc a_p1_wall 6 [.int i_p1_wall_columns, .int i_p1_wall_rows, .ref a_p1_wall_weight, .ref a_p1_wall_motif], ai cI a_p1_plan_low 64 f_p1_plan_low, ai cI a_p1_plan_blockAt 64 f_p1_plan_blockAt, oc a_p1_river 3 [.ref a_p1_river_height], ai cI a_p1_river_height 12 f_p1_river_height, oc a_this 0 [.ref a_press], ai cI a_press 64 f_press_10, oc a_p1 5 [.int i_p1_limit, .int i_p1_saw, .int i_p1_day, .ref a_p1_wall, .ref a_p1_plan, .ref a_p1_river, .ref a_p1_yard, .ref a_p1_order], oc a_p1_plan 2 [.int i_p1_plan_blocks, .int i_p1_plan_sawn, .ref a_p1_plan_left, .ref a_p1_plan_low, .ref a_p1_plan_columns, .ref a_p1_plan_rows, .ref a_p1_plan_turn, .ref a_p1_plan_blockAt], oc a_p1_yard 7 [.int i_p1_yard_taken, .int i_p1_yard_piles, .ref a_p1_yard_takenOn, .ref a_p1_yard_pileOf, .ref a_p1_yard_placeOf, .ref a_p1_yard_uppermost], ai cI a_p1_yard_takenOn 64 f_p1_yard_takenOn, oc a_p1_order 1 [.int i_p1_order_places_11, .ref a_p1_order_block]] H := hP
  refine lv_iconst (v := 0) hx hb dX0_arrange_17 (by decide) ?_
  refine lv_istore_n (lv' := [(2, .int 0), (0, .ref a_this), (1, .ref a_p1)]) hx hb dX0_arrange_18 rfl hl (by decide) rfl (fun ls hl => ?_)
  refine lv_aload_n hx hb dX0_arrange_19 rfl (lv_at hl 2 rfl) ?_
  refine gX5 hx hb ht hown hK hP 8 rfl 4 (by decide) fl_X0_33 (fun _ h => h) rfl dX0_arrange_20 ?_
  refine gX2 hx hb ht hown hK hP 9 rfl 0 (by decide) fl_X0_37 (fun _ h => h) rfl dX0_arrange_23 ?_
  refine lv_aload_n hx hb dX0_arrange_26 rfl (lv_at hl 2 rfl) ?_
  refine gX5 hx hb ht hown hK hP 8 rfl 6 (by decide) fl_X0_43 (fun _ h => h) rfl dX0_arrange_27 ?_
  refine gX8 hx hb ht hown hK hP 10 rfl 0 (by decide) fl_X0_47 (fun _ h => h) rfl dX0_arrange_30 ?_
  refine lv_isub hx hb dX0_arrange_33 ?_
  refine lv_topi (fun v3_12 e_v3_12 => ?_)
  have hV := hV v3_12 e_v3_12
  refine lv_istore_n (lv' := [(3, .int v3_12), (2, .int 0), (0, .ref a_this), (1, .ref a_p1)]) hx hb dX0_arrange_34 rfl hl (by decide) rfl (fun ls hl => ?_)
  refine lv_iconst (v := 0) hx hb dX0_arrange_35 (by decide) ?_
  refine lv_istore (lv' := [(4, .int 0), (3, .int v3_12), (2, .int 0), (0, .ref a_this), (1, .ref a_p1)]) hx hb dX0_arrange_36 hl (by decide) rfl (fun ls hl => ?_)
  obtain ⟨k, hV⟩ := hV
  exact b38 v3_12 k 0 0 f_press_10 i_p1_order_places_11 f_p1_order_block _ _ _ (hP.sub [6, 7, 8, 1, 9, 2, 3, 4, 5, 10, 11, 12, 0] rfl rfl) hS (lv_sub hl [3, 4, 2, 1, 0] rfl) hV

def rm_X5_init : Room := { frames := 3, cells := 19, slots := 865, locals := 65 }
def P_X5_init (post : Nat → Nat → Nat → Nat → Nat → Nat → Nat → Nat → Nat → Nat → Nat → Nat → Nat → Nat → Nat → Nat → Nat → Nat → Nat → Int32 → Int32 → Int32 → Int32 → Int32 → (Nat → Int32) → (Nat → Int32) → Int32 → Int32 → (Nat → Int32) → (Nat → Int32) → (Nat → Int32) → (Nat → Int32) → (Nat → Int32) → (Nat → Int32) → (Nat → Int32) → Int32 → Int32 → (Nat → Int32) → (Nat → Int32) → (Nat → Int32) → (Nat → Int32) → Int32 → (Nat → Int32) → Prop) : Prop := (∀ q21 : Nat, P_X7_init (fun q_1 q_2 i_3 i_4 f_5 f_6 => (∀ q32 : Nat, P_X2_init (fun q_7 q_8 q_9 q_10 q_11 q_12 i_13 i_14 f_15 f_16 f_17 f_18 f_19 f_20 => (∀ q43 : Nat, P_X3_init (fun q_21 f_22 => (∀ q54 : Nat, P_X8_init (fun q_23 q_24 q_25 q_26 i_27 i_28 f_29 f_30 f_31 f_32 => (∀ q65 : Nat, P_X1_init (fun q_33 i_34 f_35 => post q21 q_1 q_2 q32 q_7 q_8 q_9 q_10 q_11 q_12 q43 q_21 q54 q_23 q_24 q_25 q_26 q65 q_33 40 1 0 i_3 i_4 f_5 f_6 i_13 i_14 f_15 f_16 f_17 f_18 f_19 f_20 f_22 i_27 i_28 f_29 f_30 f_31 f_32 i_34 f_35))))))))))
set_option maxRecDepth 100000 in
set_option maxHeartbeats 4000000 in
theorem c_X5_init (l : Launch) (D : va_G) (cI cB cS : ClassId) (a_this : Nat) (post : Nat → Nat → Nat → Nat → Nat → Nat → Nat → Nat → Nat → Nat → Nat → Nat → Nat → Nat → Nat → Nat → Nat → Nat → Nat → Int32 → Int32 → Int32 → Int32 → Int32 → (Nat → Int32) → (Nat → Int32) → Int32 → Int32 → (Nat → Int32) → (Nat → Int32) → (Nat → Int32) → (Nat → Int32) → (Nat → Int32) → (Nat → Int32) → (Nat → Int32) → Int32 → Int32 → (Nat → Int32) → (Nat → Int32) → (Nat → Int32) → (Nat → Int32) → Int32 → (Nat → Int32) → Prop) (hV : P_X5_init post) : Cv l yX5_init cX5_init 1 none rm_X5_init D cI cB cS [.ref a_this] [oc a_this 5 [.int 0, .int 0, .int 0, .null, .null, .null, .null, .null]] (fun (u : Nat × Nat × Nat × Nat × Nat × Nat × Nat × Nat × Nat × Nat × Nat × Nat × Nat × Nat × Nat × Nat × Nat × Nat × Nat × Int32 × Int32 × Int32 × Int32 × Int32 × (Nat → Int32) × (Nat → Int32) × Int32 × Int32 × (Nat → Int32) × (Nat → Int32) × (Nat → Int32) × (Nat → Int32) × (Nat → Int32) × (Nat → Int32) × (Nat → Int32) × Int32 × Int32 × (Nat → Int32) × (Nat → Int32) × (Nat → Int32) × (Nat → Int32) × Int32 × (Nat → Int32)) => post u.1 u.2.1 u.2.2.1 u.2.2.2.1 u.2.2.2.2.1 u.2.2.2.2.2.1 u.2.2.2.2.2.2.1 u.2.2.2.2.2.2.2.1 u.2.2.2.2.2.2.2.2.1 u.2.2.2.2.2.2.2.2.2.1 u.2.2.2.2.2.2.2.2.2.2.1 u.2.2.2.2.2.2.2.2.2.2.2.1 u.2.2.2.2.2.2.2.2.2.2.2.2.1 u.2.2.2.2.2.2.2.2.2.2.2.2.2.1 u.2.2.2.2.2.2.2.2.2.2.2.2.2.2.1 u.2.2.2.2.2.2.2.2.2.2.2.2.2.2.2.1 u.2.2.2.2.2.2.2.2.2.2.2.2.2.2.2.2.1 u.2.2.2.2.2.2.2.2.2.2.2.2.2.2.2.2.2.1 u.2.2.2.2.2.2.2.2.2.2.2.2.2.2.2.2.2.2.1 u.2.2.2.2.2.2.2.2.2.2.2.2.2.2.2.2.2.2.2.1 u.2.2.2.2.2.2.2.2.2.2.2.2.2.2.2.2.2.2.2.2.1 u.2.2.2.2.2.2.2.2.2.2.2.2.2.2.2.2.2.2.2.2.2.1 u.2.2.2.2.2.2.2.2.2.2.2.2.2.2.2.2.2.2.2.2.2.2.1 u.2.2.2.2.2.2.2.2.2.2.2.2.2.2.2.2.2.2.2.2.2.2.2.1 u.2.2.2.2.2.2.2.2.2.2.2.2.2.2.2.2.2.2.2.2.2.2.2.2.1 u.2.2.2.2.2.2.2.2.2.2.2.2.2.2.2.2.2.2.2.2.2.2.2.2.2.1 u.2.2.2.2.2.2.2.2.2.2.2.2.2.2.2.2.2.2.2.2.2.2.2.2.2.2.1 u.2.2.2.2.2.2.2.2.2.2.2.2.2.2.2.2.2.2.2.2.2.2.2.2.2.2.2.1 u.2.2.2.2.2.2.2.2.2.2.2.2.2.2.2.2.2.2.2.2.2.2.2.2.2.2.2.2.1 u.2.2.2.2.2.2.2.2.2.2.2.2.2.2.2.2.2.2.2.2.2.2.2.2.2.2.2.2.2.1 u.2.2.2.2.2.2.2.2.2.2.2.2.2.2.2.2.2.2.2.2.2.2.2.2.2.2.2.2.2.2.1 u.2.2.2.2.2.2.2.2.2.2.2.2.2.2.2.2.2.2.2.2.2.2.2.2.2.2.2.2.2.2.2.1 u.2.2.2.2.2.2.2.2.2.2.2.2.2.2.2.2.2.2.2.2.2.2.2.2.2.2.2.2.2.2.2.2.1 u.2.2.2.2.2.2.2.2.2.2.2.2.2.2.2.2.2.2.2.2.2.2.2.2.2.2.2.2.2.2.2.2.2.1 u.2.2.2.2.2.2.2.2.2.2.2.2.2.2.2.2.2.2.2.2.2.2.2.2.2.2.2.2.2.2.2.2.2.2.1 u.2.2.2.2.2.2.2.2.2.2.2.2.2.2.2.2.2.2.2.2.2.2.2.2.2.2.2.2.2.2.2.2.2.2.2.1 u.2.2.2.2.2.2.2.2.2.2.2.2.2.2.2.2.2.2.2.2.2.2.2.2.2.2.2.2.2.2.2.2.2.2.2.2.1 u.2.2.2.2.2.2.2.2.2.2.2.2.2.2.2.2.2.2.2.2.2.2.2.2.2.2.2.2.2.2.2.2.2.2.2.2.2.1 u.2.2.2.2.2.2.2.2.2.2.2.2.2.2.2.2.2.2.2.2.2.2.2.2.2.2.2.2.2.2.2.2.2.2.2.2.2.2.1 u.2.2.2.2.2.2.2.2.2.2.2.2.2.2.2.2.2.2.2.2.2.2.2.2.2.2.2.2.2.2.2.2.2.2.2.2.2.2.2.1 u.2.2.2.2.2.2.2.2.2.2.2.2.2.2.2.2.2.2.2.2.2.2.2.2.2.2.2.2.2.2.2.2.2.2.2.2.2.2.2.2.1 u.2.2.2.2.2.2.2.2.2.2.2.2.2.2.2.2.2.2.2.2.2.2.2.2.2.2.2.2.2.2.2.2.2.2.2.2.2.2.2.2.2.1 u.2.2.2.2.2.2.2.2.2.2.2.2.2.2.2.2.2.2.2.2.2.2.2.2.2.2.2.2.2.2.2.2.2.2.2.2.2.2.2.2.2.2) (fun (u : Nat × Nat × Nat × Nat × Nat × Nat × Nat × Nat × Nat × Nat × Nat × Nat × Nat × Nat × Nat × Nat × Nat × Nat × Nat × Int32 × Int32 × Int32 × Int32 × Int32 × (Nat → Int32) × (Nat → Int32) × Int32 × Int32 × (Nat → Int32) × (Nat → Int32) × (Nat → Int32) × (Nat → Int32) × (Nat → Int32) × (Nat → Int32) × (Nat → Int32) × Int32 × Int32 × (Nat → Int32) × (Nat → Int32) × (Nat → Int32) × (Nat → Int32) × Int32 × (Nat → Int32)) => [oc a_this 5 [.int u.2.2.2.2.2.2.2.2.2.2.2.2.2.2.2.2.2.2.2.1, .int u.2.2.2.2.2.2.2.2.2.2.2.2.2.2.2.2.2.2.2.2.1, .int u.2.2.2.2.2.2.2.2.2.2.2.2.2.2.2.2.2.2.2.2.2.1, .ref u.1, .ref u.2.2.2.1, .ref u.2.2.2.2.2.2.2.2.2.2.1, .ref u.2.2.2.2.2.2.2.2.2.2.2.2.1, .ref u.2.2.2.2.2.2.2.2.2.2.2.2.2.2.2.2.2.1], oc u.1 6 [.int u.2.2.2.2.2.2.2.2.2.2.2.2.2.2.2.2.2.2.2.2.2.2.1, .int u.2.2.2.2.2.2.2.2.2.2.2.2.2.2.2.2.2.2.2.2.2.2.2.1, .ref u.2.1, .ref u.2.2.1], ai cI u.2.1 64 (u.2.2.2.2.2.2.2.2.2.2.2.2.2.2.2.2.2.2.2.2.2.2.2.2.1), ai cI u.2.2.1 64 (u.2.2.2.2.2.2.2.2.2.2.2.2.2.2.2.2.2.2.2.2.2.2.2.2.2.1), oc u.2.2.2.1 2 [.int u.2.2.2.2.2.2.2.2.2.2.2.2.2.2.2.2.2.2.2.2.2.2.2.2.2.2.1, .int u.2.2.2.2.2.2.2.2.2.2.2.2.2.2.2.2.2.2.2.2.2.2.2.2.2.2.2.1, .ref u.2.2.2.2.1, .ref u.2.2.2.2.2.1, .ref u.2.2.2.2.2.2.1, .ref u.2.2.2.2.2.2.2.1, .ref u.2.2.2.2.2.2.2.2.1, .ref u.2.2.2.2.2.2.2.2.2.1], ai cI u.2.2.2.2.1 64 (u.2.2.2.2.2.2.2.2.2.2.2.2.2.2.2.2.2.2.2.2.2.2.2.2.2.2.2.2.1), ai cI u.2.2.2.2.2.1 64 (u.2.2.2.2.2.2.2.2.2.2.2.2.2.2.2.2.2.2.2.2.2.2.2.2.2.2.2.2.2.1), ai cI u.2.2.2.2.2.2.1 64 (u.2.2.2.2.2.2.2.2.2.2.2.2.2.2.2.2.2.2.2.2.2.2.2.2.2.2.2.2.2.2.1), ai cI u.2.2.2.2.2.2.2.1 64 (u.2.2.2.2.2.2.2.2.2.2.2.2.2.2.2.2.2.2.2.2.2.2.2.2.2.2.2.2.2.2.2.1), ai cI u.2.2.2.2.2.2.2.2.1 64 (u.2.2.2.2.2.2.2.2.2.2.2.2.2.2.2.2.2.2.2.2.2.2.2.2.2.2.2.2.2.2.2.2.1), ai cI u.2.2.2.2.2.2.2.2.2.1 64 (u.2.2.2.2.2.2.2.2.2.2.2.2.2.2.2.2.2.2.2.2.2.2.2.2.2.2.2.2.2.2.2.2.2.1), oc u.2.2.2.2.2.2.2.2.2.2.1 3 [.ref u.2.2.2.2.2.2.2.2.2.2.2.1], ai cI u.2.2.2.2.2.2.2.2.2.2.2.1 12 (u.2.2.2.2.2.2.2.2.2.2.2.2.2.2.2.2.2.2.2.2.2.2.2.2.2.2.2.2.2.2.2.2.2.2.1), oc u.2.2.2.2.2.2.2.2.2.2.2.2.1 7 [.int u.2.2.2.2.2.2.2.2.2.2.2.2.2.2.2.2.2.2.2.2.2.2.2.2.2.2.2.2.2.2.2.2.2.2.2.1, .int u.2.2.2.2.2.2.2.2.2.2.2.2.2.2.2.2.2.2.2.2.2.2.2.2.2.2.2.2.2.2.2.2.2.2.2.2.1, .ref u.2.2.2.2.2.2.2.2.2.2.2.2.2.2.2.1, .ref u.2.2.2.2.2.2.2.2.2.2.2.2.2.2.2.2.1, .ref u.2.2.2.2.2.2.2.2.2.2.2.2.2.1, .ref u.2.2.2.2.2.2.2.2.2.2.2.2.2.2.1], ai cI u.2.2.2.2.2.2.2.2.2.2.2.2.2.1 64 (u.2.2.2.2.2.2.2.2.2.2.2.2.2.2.2.2.2.2.2.2.2.2.2.2.2.2.2.2.2.2.2.2.2.2.2.2.2.1), ai cI u.2.2.2.2.2.2.2.2.2.2.2.2.2.2.1 64 (u.2.2.2.2.2.2.2.2.2.2.2.2.2.2.2.2.2.2.2.2.2.2.2.2.2.2.2.2.2.2.2.2.2.2.2.2.2.2.1), ai cI u.2.2.2.2.2.2.2.2.2.2.2.2.2.2.2.1 64 (u.2.2.2.2.2.2.2.2.2.2.2.2.2.2.2.2.2.2.2.2.2.2.2.2.2.2.2.2.2.2.2.2.2.2.2.2.2.2.2.1), ai cI u.2.2.2.2.2.2.2.2.2.2.2.2.2.2.2.2.1 64 (u.2.2.2.2.2.2.2.2.2.2.2.2.2.2.2.2.2.2.2.2.2.2.2.2.2.2.2.2.2.2.2.2.2.2.2.2.2.2.2.2.1), oc u.2.2.2.2.2.2.2.2.2.2.2.2.2.2.2.2.2.1 1 [.int u.2.2.2.2.2.2.2.2.2.2.2.2.2.2.2.2.2.2.2.2.2.2.2.2.2.2.2.2.2.2.2.2.2.2.2.2.2.2.2.2.2.1, .ref u.2.2.2.2.2.2.2.2.2.2.2.2.2.2.2.2.2.2.1], ai cI u.2.2.2.2.2.2.2.2.2.2.2.2.2.2.2.2.2.2.1 64 (u.2.2.2.2.2.2.2.2.2.2.2.2.2.2.2.2.2.2.2.2.2.2.2.2.2.2.2.2.2.2.2.2.2.2.2.2.2.2.2.2.2.2)]) := by
  refine Cv.of ok_X5_init (Nat.le_of_ble_eq_true rfl) ?_
  intro p e s m args below meth c A Q hx hb hml hown ht hnm hK hP hA hS hret ls hl
  have hown : s.vm.findClass RX5 = some m.cls := hown
  have FX : CallFix p m c cX5_init 1 s args tblG RX5 := ⟨hx, hb, hml, hown, ht⟩
  have hP : PD D A [oc a_this 5 [.int 0, .int 0, .int 0, .null, .null, .null, .null, .null]] s.heap := hP
  have hl : lv_has ls 1 [(0, .ref a_this)] := hl
  unfold P_X5_init at hV
  refine lv_aload_n hx hb dX5_init_0 rfl (lv_at hl 0 rfl) ?_
  refine oin hx hb ht hown (hml.trans hl.1.symm) li_X5_3 (Nat.le_of_ble_eq_true rfl) (Nat.le_of_ble_eq_true rfl) dX5_init_1 ?_
  refine lv_aload_n hx hb dX5_init_4 rfl (lv_at hl 0 rfl) ?_
  refine lv_bipush (v := 40) hx hb dX5_init_5 (by decide) ?_
  refine pX5 hx hb ht hown hK hP hS 0 rfl 0 (by decide) fl_X5_11 (fun _ h => h) rfl (tyX5_ok 0 (by decide)) rfl rfl (Nat.le_of_ble_eq_true rfl) dX5_init_7 (fun H locs hP hS => ?_)
  have hP : PD D A [oc a_this 5 [.int 40, .int 0, .int 0, .null, .null, .null, .null, .null]] H := hP
  refine lv_aload_n hx hb dX5_init_10 rfl (lv_at hl 0 rfl) ?_
  refine lv_iconst (v := 1) hx hb dX5_init_11 (by decide) ?_
  refine pX5 hx hb ht hown hK hP hS 0 rfl 1 (by decide) fl_X5_15 (fun _ h => h) rfl (tyX5_ok 1 (by decide)) rfl rfl (Nat.le_of_ble_eq_true rfl) dX5_init_12 (fun H locs hP hS => ?_)
  have hP : PD D A [oc a_this 5 [.int 40, .int 1, .int 0, .null, .null, .null, .null, .null]] H := hP
  refine lv_aload_n hx hb dX5_init_15 rfl (lv_at hl 0 rfl) ?_
  refine lv_iconst (v := 0) hx hb dX5_init_16 (by decide) ?_
  refine pX5 hx hb ht hown hK hP hS 0 rfl 2 (by decide) fl_X5_18 (fun _ h => h) rfl (tyX5_ok 2 (by decide)) rfl rfl (Nat.le_of_ble_eq_true rfl) dX5_init_17 (fun H locs hP hS => ?_)
  have hP : PD D A [oc a_this 5 [.int 40, .int 1, .int 0, .null, .null, .null, .null, .null]] H := hP
  refine lv_aload_n hx hb dX5_init_20 rfl (lv_at hl 0 rfl) ?_
  refine nX7 hx hb ht hown hK hP hS hA cl_X5_21 [.int 0, .int 0, .null, .null] (fun j hj => by rcases (show j = 0 ∨ j = 1 ∨ j = 2 ∨ j = 3 by omega) with rfl | rfl | rfl | rfl <;> rfl) (Nat.le_of_ble_eq_true rfl) (Nat.le_of_ble_eq_true rfl) dX5_init_21 (fun q21 H hP hS => ?_)
  have hV := hV q21
  have hP : PD D A [oc a_this 5 [.int 40, .int 1, .int 0, .null, .null, .null, .null, .null], oc q21 6 [.int 0, .int 0, .null, .null]] H := hP
  refine lv_dup hx hb dX5_init_24 rfl ?_
  refine KIv (As := []) (rest := [.ref q21, .ref a_this]) FX (c_X7_init l D cI cB cS q21 _ hV) ok_X7_init im_X7_init rfl li_X5_23 dX5_init_25 hK hP hS hA [1] [0] rfl rfl (by decide) rfl hl.1 (Nat.le_of_ble_eq_true rfl) ⟨Nat.le_of_ble_eq_true rfl, Nat.le_of_ble_eq_true rfl⟩ ⟨Nat.le_of_ble_eq_true rfl, Nat.le_of_ble_eq_true rfl⟩ (fun u H locs hV hP hS => ?_)
  obtain ⟨q_1, q_2, i_3, i_4, f_5, f_6⟩ := u
  try dsimp only at hV
  have hP : PD D A [oc a_this 5 [.int 40, .int 1, .int 0, .null, .null, .null, .null, .null], oc q21 6 [.int i_3, .int i_4, .ref q_1, .ref q_2], ai cI q_1 64 f_5, ai cI q_2 64 f_6] H := hP
  refine qX5 hx hb ht hown hK hP hS 0 rfl 3 (by decide) fl_X5_24 (fun _ h => h) rfl hnm rfl (tyX5_ok 3 (by decide)) rfl rfl (Nat.le_of_ble_eq_true rfl) dX5_init_28 (fun H locs hP hS => ?_)
  have hP : PD D A [oc a_this 5 [.int 40, .int 1, .int 0, .ref q21, .null, .null, .null, .null], oc q21 6 [.int i_3, .int i_4, .ref q_1, .ref q_2], ai cI q_1 64 f_5, ai cI q_2 64 f_6] H := hP
  refine lv_aload_n hx hb dX5_init_31 rfl (lv_at hl 0 rfl) ?_
  refine nX2 hx hb ht hown hK hP hS hA cl_X5_28 [.int 0, .int 0, .null, .null, .null, .null, .null, .null] (fun j hj => by rcases (show j = 0 ∨ j = 1 ∨ j = 2 ∨ j = 3 ∨ j = 4 ∨ j = 5 ∨ j = 6 ∨ j = 7 by omega) with rfl | rfl | rfl | rfl | rfl | rfl | rfl | rfl <;> rfl) (Nat.le_of_ble_eq_true rfl) (Nat.le_of_ble_eq_true rfl) dX5_init_32 (fun q32 H hP hS => ?_)
  have hV := hV q32
  have hP : PD D A [oc a_this 5 [.int 40, .int 1, .int 0, .ref q21, .null, .null, .null, .null], oc q21 6 [.int i_3, .int i_4, .ref q_1, .ref q_2], ai cI q_1 64 f_5, ai cI q_2 64 f_6, oc q32 2 [.int 0, .int 0, .null, .null, .null, .null, .null, .null]] H := hP
  refine lv_dup hx hb dX5_init_35 rfl ?_
  refine KMv (As := []) (rest := [.ref q32, .ref a_this]) FX (c_X2_init l D cI cB cS q32 _ hV) ok_X2_init im_X2_init rfl nq_X5_30 dX5_init_36 hK hP hS hA [4] [0, 1, 2, 3] rfl rfl (by decide) rfl hl.1 (Nat.le_of_ble_eq_true rfl) ⟨Nat.le_of_ble_eq_true rfl, Nat.le_of_ble_eq_true rfl⟩ ⟨Nat.le_of_ble_eq_true rfl, Nat.le_of_ble_eq_true rfl⟩ (fun u H locs hV hP hS => ?_)
  obtain ⟨q_7, q_8, q_9, q_10, q_11, q_12, i_13, i_14, f_15, f_16, f_17, f_18, f_19, f_20⟩ := u
  try dsimp only at hV
  have hP : PD D A [oc a_this 5 [.int 40, .int 1, .int 0, .ref q21, .null, .null, .null, .null], oc q21 6 [.int i_3, .int i_4, .ref q_1, .ref q_2], ai cI q_1 64 f_5, ai cI q_2 64 f_6, oc q32 2 [.int i_13, .int i_14, .ref q_7, .ref q_8, .ref q_9, .ref q_10, .ref q_11, .ref q_12], ai cI q_7 64 f_15, ai cI q_8 64 f_16, ai cI q_9 64 f_17, ai cI q_10 64 f_18, ai cI q_11 64 f_19, ai cI q_12 64 f_20] H := hP
  refine qX5 hx hb ht hown hK hP hS 0 rfl 4 (by decide) fl_X5_31 (fun _ h => h) rfl hnm rfl (tyX5_ok 4 (by decide)) rfl rfl (Nat.le_of_ble_eq_true rfl) dX5_init_39 (fun H locs hP hS => ?_)
  have hP : PD D A [oc a_this 5 [.int 40, .int 1, .int 0, .ref q21, .ref q32, .null, .null, .null], oc q21 6 [.int i_3, .int i_4, .ref q_1, .ref q_2], ai cI q_1 64 f_5, ai cI q_2 64 f_6, oc q32 2 [.int i_13, .int i_14, .ref q_7, .ref q_8, .ref q_9, .ref q_10, .ref q_11, .ref q_12], ai cI q_7 64 f_15, ai cI q_8 64 f_16, ai cI q_9 64 f_17, ai cI q_10 64 f_18, ai cI q_11 64 f_19, ai cI q_12 64 f_20] H := hP
  refine lv_aload_n hx hb dX5_init_42 rfl (lv_at hl 0 rfl) ?_
  refine nX3 hx hb ht hown hK hP hS hA cl_X5_35 [.null] (fun j hj => by rcases (show j = 0 by omega) with rfl <;> rfl) (Nat.le_of_ble_eq_true rfl) (Nat.le_of_ble_eq_true rfl) dX5_init_43 (fun q43 H hP hS => ?_)
  have hV := hV q43
  have hP : PD D A [oc a_this 5 [.int 40, .int 1, .int 0, .ref q21, .ref q32, .null, .null, .null], oc q21 6 [.int i_3, .int i_4, .ref q_1, .ref q_2], ai cI q_1 64 f_5, ai cI q_2 64 f_6, oc q32 2 [.int i_13, .int i_14, .ref q_7, .ref q_8, .ref q_9, .ref q_10, .ref q_11, .ref q_12], ai cI q_7 64 f_15, ai cI q_8 64 f_16, ai cI q_9 64 f_17, ai cI q_10 64 f_18, ai cI q_11 64 f_19, ai cI q_12 64 f_20, oc q43 3 [.null]] H := hP
  refine lv_dup hx hb dX5_init_46 rfl ?_
  refine KMv (As := []) (rest := [.ref q43, .ref a_this]) FX (c_X3_init l D cI cB cS q43 _ hV) ok_X3_init im_X3_init rfl nq_X5_37 dX5_init_47 hK hP hS hA [11] [0, 1, 2, 3, 4, 5, 6, 7, 8, 9, 10] rfl rfl (by decide) rfl hl.1 (Nat.le_of_ble_eq_true rfl) ⟨Nat.le_of_ble_eq_true rfl, Nat.le_of_ble_eq_true rfl⟩ ⟨Nat.le_of_ble_eq_true rfl, Nat.le_of_ble_eq_true rfl⟩ (fun u H locs hV hP hS => ?_)
  obtain ⟨q_21, f_22⟩ := u
  try dsimp only at hV
  have hP : PD D A [oc a_this 5 [.int 40, .int 1, .int 0, .ref q21, .ref q32, .null, .null, .null], oc q21 6 [.int i_3, .int i_4, .ref q_1, .ref q_2], ai cI q_1 64 f_5, ai cI q_2 64 f_6, oc q32 2 [.int i_13, .int i_14, .ref q_7, .ref q_8, .ref q_9, .ref q_10, .ref q_11, .ref q_12], ai cI q_7 64 f_15, ai cI q_8 64 f_16, ai cI q_9 64 f_17, ai cI q_10 64 f_18, ai cI q_11 64 f_19, ai cI q_12 64 f_20, oc q43 3 [.ref q_21], ai cI q_21 12 f_22] H := hP
  refine qX5 hx hb ht hown hK hP hS 0 rfl 5 (by decide) fl_X5_38 (fun _ h => h) rfl hnm rfl (tyX5_ok 5 (by decide)) rfl rfl (Nat.le_of_ble_eq_true rfl) dX5_init_50 (fun H locs hP hS => ?_)
  have hP : PD D A [oc a_this 5 [.int 40, .int 1, .int 0, .ref q21, .ref q32, .ref q43, .null, .null], oc q21 6 [.int i_3, .int i_4, .ref q_1, .ref q_2], ai cI q_1 64 f_5, ai cI q_2 64 f_6, oc q32 2 [.int i_13, .int i_14, .ref q_7, .ref q_8, .ref q_9, .ref q_10, .ref q_11, .ref q_12], ai cI q_7 64 f_15, ai cI q_8 64 f_16, ai cI q_9 64 f_17, ai cI q_10 64 f_18, ai cI q_11 64 f_19, ai cI q_12 64 f_20, oc q43 3 [.ref q_21], ai cI q_21 12 f_22] H := hP
  refine lv_aload_n hx hb dX5_init_53 rfl (lv_at hl 0 rfl) ?_
  refine nX8 hx hb ht hown hK hP hS hA cl_X5_42 [.int 0, .int 0, .null, .null, .null, .null] (fun j hj => by rcases (show j = 0 ∨ j = 1 ∨ j = 2 ∨ j = 3 ∨ j = 4 ∨ j = 5 by omega) with rfl | rfl | rfl | rfl | rfl | rfl <;> rfl) (Nat.le_of_ble_eq_true rfl) (Nat.le_of_ble_eq_true rfl) dX5_init_54 (fun q54 H hP hS => ?_)
  have hV := hV q54
  have hP : PD D A [oc a_this 5 [.int 40, .int 1, .int 0, .ref q21, .ref q32, .ref q43, .null, .null], oc q21 6 [.int i_3, .int i_4, .ref q_1, .ref q_2], ai cI q_1 64 f_5, ai cI q_2 64 f_6, oc q32 2 [.int i_13, .int i_14, .ref q_7, .ref q_8, .ref q_9, .ref q_10, .ref q_11, .ref q_12], ai cI q_7 64 f_15, ai cI q_8 64 f_16, ai cI q_9 64 f_17, ai cI q_10 64 f_18, ai cI q_11 64 f_19, ai cI q_12 64 f_20, oc q43 3 [.ref q_21], ai cI q_21 12 f_22, oc q54 7 [.int 0, .int 0, .null, .null, .null, .null]] H := hP
  refine lv_dup hx hb dX5_init_57 rfl ?_
  refine KIv (As := []) (rest := [.ref q54, .ref a_this]) FX (c_X8_init l D cI cB cS q54 _ hV) ok_X8_init im_X8_init rfl li_X5_44 dX5_init_58 hK hP hS hA [13] [0, 1, 2, 3, 4, 5, 6, 7, 8, 9, 10, 11, 12] rfl rfl (by decide) rfl hl.1 (Nat.le_of_ble_eq_true rfl) ⟨Nat.le_of_ble_eq_true rfl, Nat.le_of_ble_eq_true rfl⟩ ⟨Nat.le_of_ble_eq_true rfl, Nat.le_of_ble_eq_true rfl⟩ (fun u H locs hV hP hS => ?_)
  obtain ⟨q_23, q_24, q_25, q_26, i_27, i_28, f_29, f_30, f_31, f_32⟩ := u
  try dsimp only at hV
  have hP : PD D A [oc a_this 5 [.int 40, .int 1, .int 0, .ref q21, .ref q32, .ref q43, .null, .null], oc q21 6 [.int i_3, .int i_4, .ref q_1, .ref q_2], ai cI q_1 64 f_5, ai cI q_2 64 f_6, oc q32 2 [.int i_13, .int i_14, .ref q_7, .ref q_8, .ref q_9, .ref q_10, .ref q_11, .ref q_12], ai cI q_7 64 f_15, ai cI q_8 64 f_16, ai cI q_9 64 f_17, ai cI q_10 64 f_18, ai cI q_11 64 f_19, ai cI q_12 64 f_20, oc q43 3 [.ref q_21], ai cI q_21 12 f_22, oc q54 7 [.int i_27, .int i_28, .ref q_25, .ref q_26, .ref q_23, .ref q_24], ai cI q_23 64 f_29, ai cI q_24 64 f_30, ai cI q_25 64 f_31, ai cI q_26 64 f_32] H := hP
  refine qX5 hx hb ht hown hK hP hS 0 rfl 6 (by decide) fl_X5_45 (fun _ h => h) rfl hnm rfl (tyX5_ok 6 (by decide)) rfl rfl (Nat.le_of_ble_eq_true rfl) dX5_init_61 (fun H locs hP hS => ?_)
  have hP : PD D A [oc a_this 5 [.int 40, .int 1, .int 0, .ref q21, .ref q32, .ref q43, .ref q54, .null], oc q21 6 [.int i_3, .int i_4, .ref q_1, .ref q_2], ai cI q_1 64 f_5, ai cI q_2 64 f_6, oc q32 2 [.int i_13, .int i_14, .ref q_7, .ref q_8, .ref q_9, .ref q_10, .ref q_11, .ref q_12], ai cI q_7 64 f_15, ai cI q_8 64 f_16, ai cI q_9 64 f_17, ai cI q_10 64 f_18, ai cI q_11 64 f_19, ai cI q_12 64 f_20, oc q43 3 [.ref q_21], ai cI q_21 12 f_22, oc q54 7 [.int i_27, .int i_28, .ref q_25, .ref q_26, .ref q_23, .ref q_24], ai cI q_23 64 f_29, ai cI q_24 64 f_30, ai cI q_25 64 f_31, ai cI q_26 64 f_32] H := hP
  refine lv_aload_n hx hb dX5_init_64 rfl (lv_at hl 0 rfl) ?_
  refine nX1 hx hb ht hown hK hP hS hA cl_X5_49 [.int 0, .null] (fun j hj => by rcases (show j = 0 ∨ j = 1 by omega) with rfl | rfl <;> rfl) (Nat.le_of_ble_eq_true rfl) (Nat.le_of_ble_eq_true rfl) dX5_init_65 (fun q65 H hP hS => ?_)
  have hV := hV q65
  have hP : PD D A [oc a_this 5 [.int 40, .int 1, .int 0, .ref q21, .ref q32, .ref q43, .ref q54, .null], oc q21 6 [.int i_3, .int i_4, .ref q_1, .ref q_2], ai cI q_1 64 f_5, ai cI q_2 64 f_6, oc q32 2 [.int i_13, .int i_14, .ref q_7, .ref q_8, .ref q_9, .ref q_10, .ref q_11, .ref q_12], ai cI q_7 64 f_15, ai cI q_8 64 f_16, ai cI q_9 64 f_17, ai cI q_10 64 f_18, ai cI q_11 64 f_19, ai cI q_12 64 f_20, oc q43 3 [.ref q_21], ai cI q_21 12 f_22, oc q54 7 [.int i_27, .int i_28, .ref q_25, .ref q_26, .ref q_23, .ref q_24], ai cI q_23 64 f_29, ai cI q_24 64 f_30, ai cI q_25 64 f_31, ai cI q_26 64 f_32, oc q65 1 [.int 0, .null]] H := hP
  refine lv_dup hx hb dX5_init_68 rfl ?_
  refine KMv (As := []) (rest := [.ref q65, .ref a_this]) FX (c_X1_init l D cI cB cS q65 _ hV) ok_X1_init im_X1_init rfl nq_X5_51 dX5_init_69 hK hP hS hA [18] [0, 1, 2, 3, 4, 5, 6, 7, 8, 9, 10, 11, 12, 13, 14, 15, 16, 17] rfl rfl (by decide) rfl hl.1 (Nat.le_of_ble_eq_true rfl) ⟨Nat.le_of_ble_eq_true rfl, Nat.le_of_ble_eq_true rfl⟩ ⟨Nat.le_of_ble_eq_true rfl, Nat.le_of_ble_eq_true rfl⟩ (fun u H locs hV hP hS => ?_)
  obtain ⟨q_33, i_34, f_35⟩ := u
  try dsimp only at hV
  have hP : PD D A [oc a_this 5 [.int 40, .int 1, .int 0, .ref q21, .ref q32, .ref q43, .ref q54, .null], oc q21 6 [.int i_3, .int i_4, .ref q_1, .ref q_2], ai cI q_1 64 f_5, ai cI q_2 64 f_6, oc q32 2 [.int i_13, .int i_14, .ref q_7, .ref q_8, .ref q_9, .ref q_10, .ref q_11, .ref q_12], ai cI q_7 64 f_15, ai cI q_8 64 f_16, ai cI q_9 64 f_17, ai cI q_10 64 f_18, ai cI q_11 64 f_19, ai cI q_12 64 f_20, oc q43 3 [.ref q_21], ai cI q_21 12 f_22, oc q54 7 [.int i_27, .int i_28, .ref q_25, .ref q_26, .ref q_23, .ref q_24], ai cI q_23 64 f_29, ai cI q_24 64 f_30, ai cI q_25 64 f_31, ai cI q_26 64 f_32, oc q65 1 [.int i_34, .ref q_33], ai cI q_33 64 f_35] H := hP
  refine qX5 hx hb ht hown hK hP hS 0 rfl 7 (by decide) fl_X5_52 (fun _ h => h) rfl hnm rfl (tyX5_ok 7 (by decide)) rfl rfl (Nat.le_of_ble_eq_true rfl) dX5_init_72 (fun H locs hP hS => ?_)
  have hP : PD D A [oc a_this 5 [.int 40, .int 1, .int 0, .ref q21, .ref q32, .ref q43, .ref q54, .ref q65], oc q21 6 [.int i_3, .int i_4, .ref q_1, .ref q_2], ai cI q_1 64 f_5, ai cI q_2 64 f_6, oc q32 2 [.int i_13, .int i_14, .ref q_7, .ref q_8, .ref q_9, .ref q_10, .ref q_11, .ref q_12], ai cI q_7 64 f_15, ai cI q_8 64 f_16, ai cI q_9 64 f_17, ai cI q_10 64 f_18, ai cI q_11 64 f_19, ai cI q_12 64 f_20, oc q43 3 [.ref q_21], ai cI q_21 12 f_22, oc q54 7 [.int i_27, .int i_28, .ref q_25, .ref q_26, .ref q_23, .ref q_24], ai cI q_23 64 f_29, ai cI q_24 64 f_30, ai cI q_25 64 f_31, ai cI q_26 64 f_32, oc q65 1 [.int i_34, .ref q_33], ai cI q_33 64 f_35] H := hP
  exact hret _ _ _ _ (q21, q_1, q_2, q32, q_7, q_8, q_9, q_10, q_11, q_12, q43, q_21, q54, q_23, q_24, q_25, q_26, q65, q_33, 40, 1, 0, i_3, i_4, f_5, f_6, i_13, i_14, f_15, f_16, f_17, f_18, f_19, f_20, f_22, i_27, i_28, f_29, f_30, f_31, f_32, i_34, f_35) hS dX5_init_75 hP hV
