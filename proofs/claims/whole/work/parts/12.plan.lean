def rm_X2_init : Room := { frames := 1, cells := 6, slots := 384, locals := 12 }
def P_X2_init (post : Nat → Nat → Nat → Nat → Nat → Nat → Int32 → Int32 → (Nat → Int32) → (Nat → Int32) → (Nat → Int32) → (Nat → Int32) → (Nat → Int32) → (Nat → Int32) → Prop) : Prop := (∀ q7 : Nat, (∀ q15 : Nat, (∀ q23 : Nat, (∀ q31 : Nat, (∀ q39 : Nat, (∀ q47 : Nat, post q7 q15 q23 q31 q39 q47 0 0 (fun _ => 0) (fun _ => 0) (fun _ => 0) (fun _ => 0) (fun _ => 0) (fun _ => 0)))))))
set_option maxRecDepth 100000 in
set_option maxHeartbeats 4000000 in
theorem c_X2_init (l : Launch) (D : va_G) (cI cB cS : ClassId) (a_this : Nat) (post : Nat → Nat → Nat → Nat → Nat → Nat → Int32 → Int32 → (Nat → Int32) → (Nat → Int32) → (Nat → Int32) → (Nat → Int32) → (Nat → Int32) → (Nat → Int32) → Prop) (hV : P_X2_init post) : Cv l yX2_init cX2_init 1 none rm_X2_init D cI cB cS [.ref a_this] [oc a_this 2 [.int 0, .int 0, .null, .null, .null, .null, .null, .null]] (fun (u : Nat × Nat × Nat × Nat × Nat × Nat × Int32 × Int32 × (Nat → Int32) × (Nat → Int32) × (Nat → Int32) × (Nat → Int32) × (Nat → Int32) × (Nat → Int32)) => post u.1 u.2.1 u.2.2.1 u.2.2.2.1 u.2.2.2.2.1 u.2.2.2.2.2.1 u.2.2.2.2.2.2.1 u.2.2.2.2.2.2.2.1 u.2.2.2.2.2.2.2.2.1 u.2.2.2.2.2.2.2.2.2.1 u.2.2.2.2.2.2.2.2.2.2.1 u.2.2.2.2.2.2.2.2.2.2.2.1 u.2.2.2.2.2.2.2.2.2.2.2.2.1 u.2.2.2.2.2.2.2.2.2.2.2.2.2) (fun (u : Nat × Nat × Nat × Nat × Nat × Nat × Int32 × Int32 × (Nat → Int32) × (Nat → Int32) × (Nat → Int32) × (Nat → Int32) × (Nat → Int32) × (Nat → Int32)) => [oc a_this 2 [.int u.2.2.2.2.2.2.1, .int u.2.2.2.2.2.2.2.1, .ref u.1, .ref u.2.1, .ref u.2.2.1, .ref u.2.2.2.1, .ref u.2.2.2.2.1, .ref u.2.2.2.2.2.1], ai cI u.1 64 (u.2.2.2.2.2.2.2.2.1), ai cI u.2.1 64 (u.2.2.2.2.2.2.2.2.2.1), ai cI u.2.2.1 64 (u.2.2.2.2.2.2.2.2.2.2.1), ai cI u.2.2.2.1 64 (u.2.2.2.2.2.2.2.2.2.2.2.1), ai cI u.2.2.2.2.1 64 (u.2.2.2.2.2.2.2.2.2.2.2.2.1), ai cI u.2.2.2.2.2.1 64 (u.2.2.2.2.2.2.2.2.2.2.2.2.2)]) := by
  refine Cv.of ok_X2_init (Nat.le_of_ble_eq_true rfl) ?_
  intro p e s m args below meth c A Q hx hb hml hown ht hnm hK hP hA hS hret ls hl
  have hown : s.vm.findClass RX2 = some m.cls := hown
  have FX : CallFix p m c cX2_init 1 s args tblG RX2 := ⟨hx, hb, hml, hown, ht⟩
  have hP : PD D A [oc a_this 2 [.int 0, .int 0, .null, .null, .null, .null, .null, .null]] s.heap := hP
  have hl : lv_has ls 1 [(0, .ref a_this)] := hl
  unfold P_X2_init at hV
  refine lv_aload_n hx hb dX2_init_0 rfl (lv_at hl 0 rfl) ?_
  refine oin hx hb ht hown (hml.trans hl.1.symm) li_X2_3 (Nat.le_of_ble_eq_true rfl) (Nat.le_of_ble_eq_true rfl) dX2_init_1 ?_
  refine lv_aload_n hx hb dX2_init_4 rfl (lv_at hl 0 rfl) ?_
  refine lv_bipush (v := 64) hx hb dX2_init_5 (by decide) ?_
  refine nai hx hb ht hK hP hS hA 64 (by decide) (by decide) (by decide) (Nat.le_of_ble_eq_true rfl) (Nat.le_of_ble_eq_true rfl) dX2_init_7 (fun q7 H hP hS => ?_)
  have hV := hV q7
  have hP : PD D A [oc a_this 2 [.int 0, .int 0, .null, .null, .null, .null, .null, .null], ai cI q7 64 (fun _ => 0)] H := hP
  refine qX2 hx hb ht hown hK hP hS 0 rfl 2 (by decide) fl_X2_9 (fun _ h => h) rfl hnm rfl (tyX2_ok 2 (by decide)) rfl rfl (Nat.le_of_ble_eq_true rfl) dX2_init_9 (fun H locs hP hS => ?_)
  have hP : PD D A [oc a_this 2 [.int 0, .int 0, .ref q7, .null, .null, .null, .null, .null], ai cI q7 64 (fun _ => 0)] H := hP
  refine lv_aload_n hx hb dX2_init_12 rfl (lv_at hl 0 rfl) ?_
  refine lv_bipush (v := 64) hx hb dX2_init_13 (by decide) ?_
  refine nai hx hb ht hK hP hS hA 64 (by decide) (by decide) (by decide) (Nat.le_of_ble_eq_true rfl) (Nat.le_of_ble_eq_true rfl) dX2_init_15 (fun q15 H hP hS => ?_)
  have hV := hV q15
  have hP : PD D A [oc a_this 2 [.int 0, .int 0, .ref q7, .null, .null, .null, .null, .null], ai cI q7 64 (fun _ => 0), ai cI q15 64 (fun _ => 0)] H := hP
  refine qX2 hx hb ht hown hK hP hS 0 rfl 3 (by decide) fl_X2_15 (fun _ h => h) rfl hnm rfl (tyX2_ok 3 (by decide)) rfl rfl (Nat.le_of_ble_eq_true rfl) dX2_init_17 (fun H locs hP hS => ?_)
  have hP : PD D A [oc a_this 2 [.int 0, .int 0, .ref q7, .ref q15, .null, .null, .null, .null], ai cI q7 64 (fun _ => 0), ai cI q15 64 (fun _ => 0)] H := hP
  refine lv_aload_n hx hb dX2_init_20 rfl (lv_at hl 0 rfl) ?_
  refine lv_bipush (v := 64) hx hb dX2_init_21 (by decide) ?_
  refine nai hx hb ht hK hP hS hA 64 (by decide) (by decide) (by decide) (Nat.le_of_ble_eq_true rfl) (Nat.le_of_ble_eq_true rfl) dX2_init_23 (fun q23 H hP hS => ?_)
  have hV := hV q23
  have hP : PD D A [oc a_this 2 [.int 0, .int 0, .ref q7, .ref q15, .null, .null, .null, .null], ai cI q7 64 (fun _ => 0), ai cI q15 64 (fun _ => 0), ai cI q23 64 (fun _ => 0)] H := hP
  refine qX2 hx hb ht hown hK hP hS 0 rfl 4 (by decide) fl_X2_18 (fun _ h => h) rfl hnm rfl (tyX2_ok 4 (by decide)) rfl rfl (Nat.le_of_ble_eq_true rfl) dX2_init_25 (fun H locs hP hS => ?_)
  have hP : PD D A [oc a_this 2 [.int 0, .int 0, .ref q7, .ref q15, .ref q23, .null, .null, .null], ai cI q7 64 (fun _ => 0), ai cI q15 64 (fun _ => 0), ai cI q23 64 (fun _ => 0)] H := hP
  refine lv_aload_n hx hb dX2_init_28 rfl (lv_at hl 0 rfl) ?_
  refine lv_bipush (v := 64) hx hb dX2_init_29 (by decide) ?_
  refine nai hx hb ht hK hP hS hA 64 (by decide) (by decide) (by decide) (Nat.le_of_ble_eq_true rfl) (Nat.le_of_ble_eq_true rfl) dX2_init_31 (fun q31 H hP hS => ?_)
  have hV := hV q31
  have hP : PD D A [oc a_this 2 [.int 0, .int 0, .ref q7, .ref q15, .ref q23, .null, .null, .null], ai cI q7 64 (fun _ => 0), ai cI q15 64 (fun _ => 0), ai cI q23 64 (fun _ => 0), ai cI q31 64 (fun _ => 0)] H := hP
  refine qX2 hx hb ht hown hK hP hS 0 rfl 5 (by decide) fl_X2_21 (fun _ h => h) rfl hnm rfl (tyX2_ok 5 (by decide)) rfl rfl (Nat.le_of_ble_eq_true rfl) dX2_init_33 (fun H locs hP hS => ?_)
  have hP : PD D A [oc a_this 2 [.int 0, .int 0, .ref q7, .ref q15, .ref q23, .ref q31, .null, .null], ai cI q7 64 (fun _ => 0), ai cI q15 64 (fun _ => 0), ai cI q23 64 (fun _ => 0), ai cI q31 64 (fun _ => 0)] H := hP
  refine lv_aload_n hx hb dX2_init_36 rfl (lv_at hl 0 rfl) ?_
  refine lv_bipush (v := 64) hx hb dX2_init_37 (by decide) ?_
  refine nai hx hb ht hK hP hS hA 64 (by decide) (by decide) (by decide) (Nat.le_of_ble_eq_true rfl) (Nat.le_of_ble_eq_true rfl) dX2_init_39 (fun q39 H hP hS => ?_)
  have hV := hV q39
  have hP : PD D A [oc a_this 2 [.int 0, .int 0, .ref q7, .ref q15, .ref q23, .ref q31, .null, .null], ai cI q7 64 (fun _ => 0), ai cI q15 64 (fun _ => 0), ai cI q23 64 (fun _ => 0), ai cI q31 64 (fun _ => 0), ai cI q39 64 (fun _ => 0)] H := hP
  refine qX2 hx hb ht hown hK hP hS 0 rfl 6 (by decide) fl_X2_24 (fun _ h => h) rfl hnm rfl (tyX2_ok 6 (by decide)) rfl rfl (Nat.le_of_ble_eq_true rfl) dX2_init_41 (fun H locs hP hS => ?_)
  have hP : PD D A [oc a_this 2 [.int 0, .int 0, .ref q7, .ref q15, .ref q23, .ref q31, .ref q39, .null], ai cI q7 64 (fun _ => 0), ai cI q15 64 (fun _ => 0), ai cI q23 64 (fun _ => 0), ai cI q31 64 (fun _ => 0), ai cI q39 64 (fun _ => 0)] H := hP
  refine lv_aload_n hx hb dX2_init_44 rfl (lv_at hl 0 rfl) ?_
  refine lv_bipush (v := 64) hx hb dX2_init_45 (by decide) ?_
  refine nai hx hb ht hK hP hS hA 64 (by decide) (by decide) (by decide) (Nat.le_of_ble_eq_true rfl) (Nat.le_of_ble_eq_true rfl) dX2_init_47 (fun q47 H hP hS => ?_)
  have hV := hV q47
  have hP : PD D A [oc a_this 2 [.int 0, .int 0, .ref q7, .ref q15, .ref q23, .ref q31, .ref q39, .null], ai cI q7 64 (fun _ => 0), ai cI q15 64 (fun _ => 0), ai cI q23 64 (fun _ => 0), ai cI q31 64 (fun _ => 0), ai cI q39 64 (fun _ => 0), ai cI q47 64 (fun _ => 0)] H := hP
  refine qX2 hx hb ht hown hK hP hS 0 rfl 7 (by decide) fl_X2_27 (fun _ h => h) rfl hnm rfl (tyX2_ok 7 (by decide)) rfl rfl (Nat.le_of_ble_eq_true rfl) dX2_init_49 (fun H locs hP hS => ?_)
  have hP : PD D A [oc a_this 2 [.int 0, .int 0, .ref q7, .ref q15, .ref q23, .ref q31, .ref q39, .ref q47], ai cI q7 64 (fun _ => 0), ai cI q15 64 (fun _ => 0), ai cI q23 64 (fun _ => 0), ai cI q31 64 (fun _ => 0), ai cI q39 64 (fun _ => 0), ai cI q47 64 (fun _ => 0)] H := hP
  exact hret _ _ _ _ (q7, q15, q23, q31, q39, q47, 0, 0, (fun _ => 0), (fun _ => 0), (fun _ => 0), (fun _ => 0), (fun _ => 0), (fun _ => 0)) hS dX2_init_52 hP hV

def rm_X2_drop : Room := { frames := 0, cells := 0, slots := 0, locals := 0 }
def P_X2_drop (post : Int32 → Int32 → Prop) : Prop := post 0 0
set_option maxRecDepth 100000 in
set_option maxHeartbeats 4000000 in
theorem c_X2_drop (l : Launch) (D : va_G) (cI cB cS : ClassId) (a_this a_left a_low a_columns a_rows a_turn a_blockAt : Nat) (i_blocks : Int32) (i_sawn : Int32) (post : Int32 → Int32 → Prop) (hV : P_X2_drop post) : Cv l yX2_drop cX2_drop 1 none rm_X2_drop D cI cB cS [.ref a_this] [oc a_this 2 [.int i_blocks, .int i_sawn, .ref a_left, .ref a_low, .ref a_columns, .ref a_rows, .ref a_turn, .ref a_blockAt]] (fun (u : Int32 × Int32) => post u.1 u.2) (fun (u : Int32 × Int32) => [oc a_this 2 [.int u.1, .int u.2, .ref a_left, .ref a_low, .ref a_columns, .ref a_rows, .ref a_turn, .ref a_blockAt]]) := by
  refine Cv.of ok_X2_drop (Nat.le_of_ble_eq_true rfl) ?_
  intro p e s m args below meth c A Q hx hb hml hown ht hnm hK hP hA hS hret ls hl
  have hown : s.vm.findClass RX2 = some m.cls := hown
  have FX : CallFix p m c cX2_drop 1 s args tblG RX2 := ⟨hx, hb, hml, hown, ht⟩
  have hP : PD D A [oc a_this 2 [.int i_blocks, .int i_sawn, .ref a_left, .ref a_low, .ref a_columns, .ref a_rows, .ref a_turn, .ref a_blockAt]] s.heap := hP
  have hl : lv_has ls 1 [(0, .ref a_this)] := hl
  unfold P_X2_drop at hV
  refine lv_aload_n hx hb dX2_drop_0 rfl (lv_at hl 0 rfl) ?_
  refine lv_iconst (v := 0) hx hb dX2_drop_1 (by decide) ?_
  refine pX2 hx hb ht hown hK hP hS 0 rfl 0 (by decide) fl_X2_30 (fun _ h => h) rfl (tyX2_ok 0 (by decide)) rfl rfl (Nat.le_of_ble_eq_true rfl) dX2_drop_2 (fun H locs hP hS => ?_)
  have hP : PD D A [oc a_this 2 [.int 0, .int i_sawn, .ref a_left, .ref a_low, .ref a_columns, .ref a_rows, .ref a_turn, .ref a_blockAt]] H := hP
  refine lv_aload_n hx hb dX2_drop_5 rfl (lv_at hl 0 rfl) ?_
  refine lv_iconst (v := 0) hx hb dX2_drop_6 (by decide) ?_
  refine pX2 hx hb ht hown hK hP hS 0 rfl 1 (by decide) fl_X2_34 (fun _ h => h) rfl (tyX2_ok 1 (by decide)) rfl rfl (Nat.le_of_ble_eq_true rfl) dX2_drop_7 (fun H locs hP hS => ?_)
  have hP : PD D A [oc a_this 2 [.int 0, .int 0, .ref a_left, .ref a_low, .ref a_columns, .ref a_rows, .ref a_turn, .ref a_blockAt]] H := hP
  exact hret _ _ _ _ (0, 0) hS dX2_drop_10 hP hV

def rm_X2_startWith : Room := { frames := 0, cells := 0, slots := 0, locals := 0 }
def P_X2_startWith (x1 : Int32) (x2 : Int32) (f_left : Nat → Int32) (f_low : Nat → Int32) (f_columns : Nat → Int32) (f_rows : Nat → Int32) (post : Int32 → Int32 → (Nat → Int32) → (Nat → Int32) → (Nat → Int32) → (Nat → Int32) → Prop) : Prop := (vp_in 0 64 ∧ ∀ f_left_1 : Nat → Int32, f_left_1 = upd f_left (0 : Int32).toNatClampNeg 0 → (vp_in 0 64 ∧ ∀ f_low_2 : Nat → Int32, f_low_2 = upd f_low (0 : Int32).toNatClampNeg 0 → (vp_in 0 64 ∧ ∀ f_columns_3 : Nat → Int32, f_columns_3 = upd f_columns (0 : Int32).toNatClampNeg x1 → (vp_in 0 64 ∧ ∀ f_rows_4 : Nat → Int32, f_rows_4 = upd f_rows (0 : Int32).toNatClampNeg x2 → post 1 0 f_left_1 f_low_2 f_columns_3 f_rows_4))))
set_option maxRecDepth 100000 in
set_option maxHeartbeats 4000000 in
theorem c_X2_startWith (l : Launch) (D : va_G) (cI cB cS : ClassId) (a_this a_left a_low a_columns a_rows a_turn a_blockAt : Nat) (x1 : Int32) (x2 : Int32) (i_blocks : Int32) (i_sawn : Int32) (f_left : Nat → Int32) (f_low : Nat → Int32) (f_columns : Nat → Int32) (f_rows : Nat → Int32) (post : Int32 → Int32 → (Nat → Int32) → (Nat → Int32) → (Nat → Int32) → (Nat → Int32) → Prop) (hV : P_X2_startWith x1 x2 f_left f_low f_columns f_rows post) : Cv l yX2_startWith cX2_startWith 3 none rm_X2_startWith D cI cB cS [.ref a_this, .int x1, .int x2] [oc a_this 2 [.int i_blocks, .int i_sawn, .ref a_left, .ref a_low, .ref a_columns, .ref a_rows, .ref a_turn, .ref a_blockAt], ai cI a_left 64 f_left, ai cI a_low 64 f_low, ai cI a_columns 64 f_columns, ai cI a_rows 64 f_rows] (fun (u : Int32 × Int32 × (Nat → Int32) × (Nat → Int32) × (Nat → Int32) × (Nat → Int32)) => post u.1 u.2.1 u.2.2.1 u.2.2.2.1 u.2.2.2.2.1 u.2.2.2.2.2) (fun (u : Int32 × Int32 × (Nat → Int32) × (Nat → Int32) × (Nat → Int32) × (Nat → Int32)) => [oc a_this 2 [.int u.1, .int u.2.1, .ref a_left, .ref a_low, .ref a_columns, .ref a_rows, .ref a_turn, .ref a_blockAt], ai cI a_left 64 (u.2.2.1), ai cI a_low 64 (u.2.2.2.1), ai cI a_columns 64 (u.2.2.2.2.1), ai cI a_rows 64 (u.2.2.2.2.2)]) := by
  refine Cv.of ok_X2_startWith (Nat.le_of_ble_eq_true rfl) ?_
  intro p e s m args below meth c A Q hx hb hml hown ht hnm hK hP hA hS hret ls hl
  have hown : s.vm.findClass RX2 = some m.cls := hown
  have FX : CallFix p m c cX2_startWith 3 s args tblG RX2 := ⟨hx, hb, hml, hown, ht⟩
  have hP : PD D A [oc a_this 2 [.int i_blocks, .int i_sawn, .ref a_left, .ref a_low, .ref a_columns, .ref a_rows, .ref a_turn, .ref a_blockAt], ai cI a_left 64 f_left, ai cI a_low 64 f_low, ai cI a_columns 64 f_columns, ai cI a_rows 64 f_rows] s.heap := hP
  have hl : lv_has ls 3 [(0, .ref a_this), (1, .int x1), (2, .int x2)] := hl
  unfold P_X2_startWith at hV
  refine lv_aload_n hx hb dX2_startWith_0 rfl (lv_at hl 0 rfl) ?_
  refine lv_iconst (v := 1) hx hb dX2_startWith_1 (by decide) ?_
  refine pX2 hx hb ht hown hK hP hS 0 rfl 0 (by decide) fl_X2_30 (fun _ h => h) rfl (tyX2_ok 0 (by decide)) rfl rfl (Nat.le_of_ble_eq_true rfl) dX2_startWith_2 (fun H locs hP hS => ?_)
  have hP : PD D A [oc a_this 2 [.int 1, .int i_sawn, .ref a_left, .ref a_low, .ref a_columns, .ref a_rows, .ref a_turn, .ref a_blockAt], ai cI a_left 64 f_left, ai cI a_low 64 f_low, ai cI a_columns 64 f_columns, ai cI a_rows 64 f_rows] H := hP
  refine lv_aload_n hx hb dX2_startWith_5 rfl (lv_at hl 0 rfl) ?_
  refine lv_iconst (v := 0) hx hb dX2_startWith_6 (by decide) ?_
  refine pX2 hx hb ht hown hK hP hS 0 rfl 1 (by decide) fl_X2_34 (fun _ h => h) rfl (tyX2_ok 1 (by decide)) rfl rfl (Nat.le_of_ble_eq_true rfl) dX2_startWith_7 (fun H locs hP hS => ?_)
  have hP : PD D A [oc a_this 2 [.int 1, .int 0, .ref a_left, .ref a_low, .ref a_columns, .ref a_rows, .ref a_turn, .ref a_blockAt], ai cI a_left 64 f_left, ai cI a_low 64 f_low, ai cI a_columns 64 f_columns, ai cI a_rows 64 f_rows] H := hP
  refine lv_aload_n hx hb dX2_startWith_10 rfl (lv_at hl 0 rfl) ?_
  refine gX2 hx hb ht hown hK hP 0 rfl 2 (by decide) fl_X2_9 (fun _ h => h) rfl dX2_startWith_11 ?_
  refine lv_iconst (v := 0) hx hb dX2_startWith_14 (by decide) ?_
  refine lv_iconst (v := 0) hx hb dX2_startWith_15 (by decide) ?_
  refine ist hx hb hK hP hS 1 rfl dX2_startWith_16 hV.1 (fun f_left_1 e_f_left_1 H locs hP hS => ?_)
  have hV := hV.2 f_left_1 e_f_left_1
  have hP : PD D A [oc a_this 2 [.int 1, .int 0, .ref a_left, .ref a_low, .ref a_columns, .ref a_rows, .ref a_turn, .ref a_blockAt], ai cI a_left 64 f_left_1, ai cI a_low 64 f_low, ai cI a_columns 64 f_columns, ai cI a_rows 64 f_rows] H := hP
  refine lv_aload_n hx hb dX2_startWith_17 rfl (lv_at hl 0 rfl) ?_
  refine gX2 hx hb ht hown hK hP 0 rfl 3 (by decide) fl_X2_15 (fun _ h => h) rfl dX2_startWith_18 ?_
  refine lv_iconst (v := 0) hx hb dX2_startWith_21 (by decide) ?_
  refine lv_iconst (v := 0) hx hb dX2_startWith_22 (by decide) ?_
  refine ist hx hb hK hP hS 2 rfl dX2_startWith_23 hV.1 (fun f_low_2 e_f_low_2 H locs hP hS => ?_)
  have hV := hV.2 f_low_2 e_f_low_2
  have hP : PD D A [oc a_this 2 [.int 1, .int 0, .ref a_left, .ref a_low, .ref a_columns, .ref a_rows, .ref a_turn, .ref a_blockAt], ai cI a_left 64 f_left_1, ai cI a_low 64 f_low_2, ai cI a_columns 64 f_columns, ai cI a_rows 64 f_rows] H := hP
  refine lv_aload_n hx hb dX2_startWith_24 rfl (lv_at hl 0 rfl) ?_
  refine gX2 hx hb ht hown hK hP 0 rfl 4 (by decide) fl_X2_18 (fun _ h => h) rfl dX2_startWith_25 ?_
  refine lv_iconst (v := 0) hx hb dX2_startWith_28 (by decide) ?_
  refine lv_iload_n hx hb dX2_startWith_29 rfl (lv_at hl 1 rfl) ?_
  refine ist hx hb hK hP hS 3 rfl dX2_startWith_30 hV.1 (fun f_columns_3 e_f_columns_3 H locs hP hS => ?_)
  have hV := hV.2 f_columns_3 e_f_columns_3
  have hP : PD D A [oc a_this 2 [.int 1, .int 0, .ref a_left, .ref a_low, .ref a_columns, .ref a_rows, .ref a_turn, .ref a_blockAt], ai cI a_left 64 f_left_1, ai cI a_low 64 f_low_2, ai cI a_columns 64 f_columns_3, ai cI a_rows 64 f_rows] H := hP
  refine lv_aload_n hx hb dX2_startWith_31 rfl (lv_at hl 0 rfl) ?_
  refine gX2 hx hb ht hown hK hP 0 rfl 5 (by decide) fl_X2_21 (fun _ h => h) rfl dX2_startWith_32 ?_
  refine lv_iconst (v := 0) hx hb dX2_startWith_35 (by decide) ?_
  refine lv_iload_n hx hb dX2_startWith_36 rfl (lv_at hl 2 rfl) ?_
  refine ist hx hb hK hP hS 4 rfl dX2_startWith_37 hV.1 (fun f_rows_4 e_f_rows_4 H locs hP hS => ?_)
  have hV := hV.2 f_rows_4 e_f_rows_4
  have hP : PD D A [oc a_this 2 [.int 1, .int 0, .ref a_left, .ref a_low, .ref a_columns, .ref a_rows, .ref a_turn, .ref a_blockAt], ai cI a_left 64 f_left_1, ai cI a_low 64 f_low_2, ai cI a_columns 64 f_columns_3, ai cI a_rows 64 f_rows_4] H := hP
  exact hret _ _ _ _ (1, 0, f_left_1, f_low_2, f_columns_3, f_rows_4) hS dX2_startWith_38 hP hV

def rm_X2_moveUp : Room := { frames := 1, cells := 0, slots := 0, locals := 18 }
def P_X2_moveUp (n_p1 : Nat) (x2 : Int32) (i_blocks : Int32) (f_p1 : Nat → Int32) (post : (Nat → Int32) → Prop) : Prop := (((¬ x2 < 0 ∧ ¬ ((x2 + 1) : Int32) < 0 ∧ ¬ ((i_blocks - x2) : Int32) < 0) ∧ x2.toNatClampNeg + ((i_blocks - x2) : Int32).toNatClampNeg ≤ n_p1 ∧ ((x2 + 1) : Int32).toNatClampNeg + ((i_blocks - x2) : Int32).toNatClampNeg ≤ n_p1) ∧ ∀ f_p1_1 : Nat → Int32, f_p1_1 = va_cpy f_p1 f_p1 x2.toNatClampNeg ((x2 + 1) : Int32).toNatClampNeg ((i_blocks - x2) : Int32).toNatClampNeg → post f_p1_1)
set_option maxRecDepth 100000 in
set_option maxHeartbeats 4000000 in
theorem c_X2_moveUp (l : Launch) (D : va_G) (cI cB cS : ClassId) (a_this a_p1 a_left a_low a_columns a_rows a_turn a_blockAt : Nat) (n_p1 : Nat) (x2 : Int32) (i_blocks : Int32) (i_sawn : Int32) (f_p1 : Nat → Int32) (post : (Nat → Int32) → Prop) (hV : P_X2_moveUp n_p1 x2 i_blocks f_p1 post) : Cv l yX2_moveUp cX2_moveUp 3 none rm_X2_moveUp D cI cB cS [.ref a_this, .ref a_p1, .int x2] [oc a_this 2 [.int i_blocks, .int i_sawn, .ref a_left, .ref a_low, .ref a_columns, .ref a_rows, .ref a_turn, .ref a_blockAt], ai cI a_p1 n_p1 f_p1] (fun (u : (Nat → Int32)) => post u) (fun (u : (Nat → Int32)) => [oc a_this 2 [.int i_blocks, .int i_sawn, .ref a_left, .ref a_low, .ref a_columns, .ref a_rows, .ref a_turn, .ref a_blockAt], ai cI a_p1 n_p1 u]) := by
  refine Cv.of ok_X2_moveUp (Nat.le_of_ble_eq_true rfl) ?_
  intro p e s m args below meth c A Q hx hb hml hown ht hnm hK hP hA hS hret ls hl
  have hown : s.vm.findClass RX2 = some m.cls := hown
  have FX : CallFix p m c cX2_moveUp 3 s args tblG RX2 := ⟨hx, hb, hml, hown, ht⟩
  have hP : PD D A [oc a_this 2 [.int i_blocks, .int i_sawn, .ref a_left, .ref a_low, .ref a_columns, .ref a_rows, .ref a_turn, .ref a_blockAt], ai cI a_p1 n_p1 f_p1] s.heap := hP
  have hl : lv_has ls 3 [(0, .ref a_this), (1, .ref a_p1), (2, .int x2)] := hl
  unfold P_X2_moveUp at hV
  refine lv_aload_n hx hb dX2_moveUp_0 rfl (lv_at hl 1 rfl) ?_
  refine lv_iload_n hx hb dX2_moveUp_1 rfl (lv_at hl 2 rfl) ?_
  refine lv_aload_n hx hb dX2_moveUp_2 rfl (lv_at hl 1 rfl) ?_
  refine lv_iload_n hx hb dX2_moveUp_3 rfl (lv_at hl 2 rfl) ?_
  refine lv_iconst (v := 1) hx hb dX2_moveUp_4 (by decide) ?_
  refine lv_iadd hx hb dX2_moveUp_5 ?_
  refine lv_aload_n hx hb dX2_moveUp_6 rfl (lv_at hl 0 rfl) ?_
  refine gX2 hx hb ht hown hK hP 0 rfl 0 (by decide) fl_X2_30 (fun _ h => h) rfl dX2_moveUp_7 ?_
  refine lv_iload_n hx hb dX2_moveUp_10 rfl (lv_at hl 2 rfl) ?_
  refine lv_isub hx hb dX2_moveUp_11 ?_
  refine cpi (rest := []) hx hb (hml.trans hl.1.symm) ht hown hK hP hS 1 1 li_X2_49 rfl rfl (Nat.le_of_ble_eq_true rfl) (Nat.le_of_ble_eq_true rfl) dX2_moveUp_12 hV.1 (fun f_p1_1 e_f_p1_1 H locs hP hS => ?_)
  have hV := hV.2 f_p1_1 e_f_p1_1
  have hP : PD D A [oc a_this 2 [.int i_blocks, .int i_sawn, .ref a_left, .ref a_low, .ref a_columns, .ref a_rows, .ref a_turn, .ref a_blockAt], ai cI a_p1 n_p1 f_p1_1] H := hP
  exact hret _ _ _ _ f_p1_1 hS dX2_moveUp_15 hP hV

def rm_X2_makeTwo : Room := { frames := 2, cells := 0, slots := 0, locals := 40 }
def P_X2_makeTwo (x1 : Int32) (i_blocks : Int32) (f_left : Nat → Int32) (f_low : Nat → Int32) (f_columns : Nat → Int32) (f_rows : Nat → Int32) (post : Int32 → (Nat → Int32) → (Nat → Int32) → (Nat → Int32) → (Nat → Int32) → Prop) : Prop := P_X2_moveUp 64 x1 i_blocks f_left (fun f_left_1 => P_X2_moveUp 64 x1 i_blocks f_low (fun f_low_2 => P_X2_moveUp 64 x1 i_blocks f_columns (fun f_columns_3 => P_X2_moveUp 64 x1 i_blocks f_rows (fun f_rows_4 => (∀ i_blocks_5 : Int32, i_blocks_5 = (i_blocks + 1) → post i_blocks_5 f_left_1 f_low_2 f_columns_3 f_rows_4)))))
set_option maxRecDepth 100000 in
set_option maxHeartbeats 4000000 in
theorem c_X2_makeTwo (l : Launch) (D : va_G) (cI cB cS : ClassId) (a_this a_left a_low a_columns a_rows a_turn a_blockAt : Nat) (x1 : Int32) (i_blocks : Int32) (i_sawn : Int32) (f_left : Nat → Int32) (f_low : Nat → Int32) (f_columns : Nat → Int32) (f_rows : Nat → Int32) (post : Int32 → (Nat → Int32) → (Nat → Int32) → (Nat → Int32) → (Nat → Int32) → Prop) (hV : P_X2_makeTwo x1 i_blocks f_left f_low f_columns f_rows post) : Cv l yX2_makeTwo cX2_makeTwo 2 none rm_X2_makeTwo D cI cB cS [.ref a_this, .int x1] [oc a_this 2 [.int i_blocks, .int i_sawn, .ref a_left, .ref a_low, .ref a_columns, .ref a_rows, .ref a_turn, .ref a_blockAt], ai cI a_left 64 f_left, ai cI a_low 64 f_low, ai cI a_columns 64 f_columns, ai cI a_rows 64 f_rows] (fun (u : Int32 × (Nat → Int32) × (Nat → Int32) × (Nat → Int32) × (Nat → Int32)) => post u.1 u.2.1 u.2.2.1 u.2.2.2.1 u.2.2.2.2) (fun (u : Int32 × (Nat → Int32) × (Nat → Int32) × (Nat → Int32) × (Nat → Int32)) => [oc a_this 2 [.int u.1, .int i_sawn, .ref a_left, .ref a_low, .ref a_columns, .ref a_rows, .ref a_turn, .ref a_blockAt], ai cI a_left 64 (u.2.1), ai cI a_low 64 (u.2.2.1), ai cI a_columns 64 (u.2.2.2.1), ai cI a_rows 64 (u.2.2.2.2)]) := by
  refine Cv.of ok_X2_makeTwo (Nat.le_of_ble_eq_true rfl) ?_
  intro p e s m args below meth c A Q hx hb hml hown ht hnm hK hP hA hS hret ls hl
  have hown : s.vm.findClass RX2 = some m.cls := hown
  have FX : CallFix p m c cX2_makeTwo 2 s args tblG RX2 := ⟨hx, hb, hml, hown, ht⟩
  have hP : PD D A [oc a_this 2 [.int i_blocks, .int i_sawn, .ref a_left, .ref a_low, .ref a_columns, .ref a_rows, .ref a_turn, .ref a_blockAt], ai cI a_left 64 f_left, ai cI a_low 64 f_low, ai cI a_columns 64 f_columns, ai cI a_rows 64 f_rows] s.heap := hP
  have hl : lv_has ls 2 [(0, .ref a_this), (1, .int x1)] := hl
  unfold P_X2_makeTwo at hV
  refine lv_aload_n hx hb dX2_makeTwo_0 rfl (lv_at hl 0 rfl) ?_
  refine lv_aload_n hx hb dX2_makeTwo_1 rfl (lv_at hl 0 rfl) ?_
  refine gX2 hx hb ht hown hK hP 0 rfl 2 (by decide) fl_X2_9 (fun _ h => h) rfl dX2_makeTwo_2 ?_
  refine lv_iload_n hx hb dX2_makeTwo_5 rfl (lv_at hl 1 rfl) ?_
  refine KVv (As := [.ref a_left, .int x1]) (rest := []) FX (c_X2_moveUp l D cI cB cS a_this a_left a_left a_low a_columns a_rows a_turn a_blockAt 64 x1 i_blocks i_sawn f_left _ hV) ok_X2_moveUp im_X2_moveUp se_X2_moveUp li_X2_45 dX2_makeTwo_6 hK hP hS hA [0, 1] [2, 3, 4] 0 rfl rfl rfl (by decide) rfl rfl hl.1 (Nat.le_of_ble_eq_true rfl) ⟨Nat.le_of_ble_eq_true rfl, Nat.le_of_ble_eq_true rfl⟩ ⟨Nat.le_of_ble_eq_true rfl, Nat.le_of_ble_eq_true rfl⟩ (fun f_left_1 H locs hV hP hS => ?_)
  have hP : PD D A [ai cI a_low 64 f_low, ai cI a_columns 64 f_columns, ai cI a_rows 64 f_rows, oc a_this 2 [.int i_blocks, .int i_sawn, .ref a_left, .ref a_low, .ref a_columns, .ref a_rows, .ref a_turn, .ref a_blockAt], ai cI a_left 64 f_left_1] H := hP
  refine lv_aload_n hx hb dX2_makeTwo_9 rfl (lv_at hl 0 rfl) ?_
  refine lv_aload_n hx hb dX2_makeTwo_10 rfl (lv_at hl 0 rfl) ?_
  refine gX2 hx hb ht hown hK hP 3 rfl 3 (by decide) fl_X2_15 (fun _ h => h) rfl dX2_makeTwo_11 ?_
  refine lv_iload_n hx hb dX2_makeTwo_14 rfl (lv_at hl 1 rfl) ?_
  refine KVv (As := [.ref a_low, .int x1]) (rest := []) FX (c_X2_moveUp l D cI cB cS a_this a_low a_left a_low a_columns a_rows a_turn a_blockAt 64 x1 i_blocks i_sawn f_low _ hV) ok_X2_moveUp im_X2_moveUp se_X2_moveUp li_X2_45 dX2_makeTwo_15 hK hP hS hA [3, 0] [1, 2, 4] 3 rfl rfl rfl (by decide) rfl rfl hl.1 (Nat.le_of_ble_eq_true rfl) ⟨Nat.le_of_ble_eq_true rfl, Nat.le_of_ble_eq_true rfl⟩ ⟨Nat.le_of_ble_eq_true rfl, Nat.le_of_ble_eq_true rfl⟩ (fun f_low_2 H locs hV hP hS => ?_)
  have hP : PD D A [ai cI a_columns 64 f_columns, ai cI a_rows 64 f_rows, ai cI a_left 64 f_left_1, oc a_this 2 [.int i_blocks, .int i_sawn, .ref a_left, .ref a_low, .ref a_columns, .ref a_rows, .ref a_turn, .ref a_blockAt], ai cI a_low 64 f_low_2] H := hP
  refine lv_aload_n hx hb dX2_makeTwo_18 rfl (lv_at hl 0 rfl) ?_
  refine lv_aload_n hx hb dX2_makeTwo_19 rfl (lv_at hl 0 rfl) ?_
  refine gX2 hx hb ht hown hK hP 3 rfl 4 (by decide) fl_X2_18 (fun _ h => h) rfl dX2_makeTwo_20 ?_
  refine lv_iload_n hx hb dX2_makeTwo_23 rfl (lv_at hl 1 rfl) ?_
  refine KVv (As := [.ref a_columns, .int x1]) (rest := []) FX (c_X2_moveUp l D cI cB cS a_this a_columns a_left a_low a_columns a_rows a_turn a_blockAt 64 x1 i_blocks i_sawn f_columns _ hV) ok_X2_moveUp im_X2_moveUp se_X2_moveUp li_X2_45 dX2_makeTwo_24 hK hP hS hA [3, 0] [1, 2, 4] 3 rfl rfl rfl (by decide) rfl rfl hl.1 (Nat.le_of_ble_eq_true rfl) ⟨Nat.le_of_ble_eq_true rfl, Nat.le_of_ble_eq_true rfl⟩ ⟨Nat.le_of_ble_eq_true rfl, Nat.le_of_ble_eq_true rfl⟩ (fun f_columns_3 H locs hV hP hS => ?_)
  have hP : PD D A [ai cI a_rows 64 f_rows, ai cI a_left 64 f_left_1, ai cI a_low 64 f_low_2, oc a_this 2 [.int i_blocks, .int i_sawn, .ref a_left, .ref a_low, .ref a_columns, .ref a_rows, .ref a_turn, .ref a_blockAt], ai cI a_columns 64 f_columns_3] H := hP
  refine lv_aload_n hx hb dX2_makeTwo_27 rfl (lv_at hl 0 rfl) ?_
  refine lv_aload_n hx hb dX2_makeTwo_28 rfl (lv_at hl 0 rfl) ?_
  refine gX2 hx hb ht hown hK hP 3 rfl 5 (by decide) fl_X2_21 (fun _ h => h) rfl dX2_makeTwo_29 ?_
  refine lv_iload_n hx hb dX2_makeTwo_32 rfl (lv_at hl 1 rfl) ?_
  refine KVv (As := [.ref a_rows, .int x1]) (rest := []) FX (c_X2_moveUp l D cI cB cS a_this a_rows a_left a_low a_columns a_rows a_turn a_blockAt 64 x1 i_blocks i_sawn f_rows _ hV) ok_X2_moveUp im_X2_moveUp se_X2_moveUp li_X2_45 dX2_makeTwo_33 hK hP hS hA [3, 0] [1, 2, 4] 3 rfl rfl rfl (by decide) rfl rfl hl.1 (Nat.le_of_ble_eq_true rfl) ⟨Nat.le_of_ble_eq_true rfl, Nat.le_of_ble_eq_true rfl⟩ ⟨Nat.le_of_ble_eq_true rfl, Nat.le_of_ble_eq_true rfl⟩ (fun f_rows_4 H locs hV hP hS => ?_)
  have hP : PD D A [ai cI a_left 64 f_left_1, ai cI a_low 64 f_low_2, ai cI a_columns 64 f_columns_3, oc a_this 2 [.int i_blocks, .int i_sawn, .ref a_left, .ref a_low, .ref a_columns, .ref a_rows, .ref a_turn, .ref a_blockAt], ai cI a_rows 64 f_rows_4] H := hP
  refine lv_aload_n hx hb dX2_makeTwo_36 rfl (lv_at hl 0 rfl) ?_
  refine lv_dup hx hb dX2_makeTwo_37 rfl ?_
  refine gX2 hx hb ht hown hK hP 3 rfl 0 (by decide) fl_X2_30 (fun _ h => h) rfl dX2_makeTwo_38 ?_
  refine lv_iconst (v := 1) hx hb dX2_makeTwo_41 (by decide) ?_
  refine lv_iadd hx hb dX2_makeTwo_42 ?_
  refine lv_topi (fun i_blocks_5 e_i_blocks_5 => ?_)
  have hV := hV i_blocks_5 e_i_blocks_5
  refine pX2 hx hb ht hown hK hP hS 3 rfl 0 (by decide) fl_X2_30 (fun _ h => h) rfl (tyX2_ok 0 (by decide)) rfl rfl (Nat.le_of_ble_eq_true rfl) dX2_makeTwo_43 (fun H locs hP hS => ?_)
  have hP : PD D A [ai cI a_left 64 f_left_1, ai cI a_low 64 f_low_2, ai cI a_columns 64 f_columns_3, oc a_this 2 [.int i_blocks_5, .int i_sawn, .ref a_left, .ref a_low, .ref a_columns, .ref a_rows, .ref a_turn, .ref a_blockAt], ai cI a_rows 64 f_rows_4] H := hP
  exact hret _ _ _ _ (i_blocks_5, f_left_1, f_low_2, f_columns_3, f_rows_4) hS dX2_makeTwo_46 (hP.sub [3, 0, 1, 2, 4] rfl rfl) hV

def rm_X2_cutUpright : Room := { frames := 3, cells := 0, slots := 0, locals := 61 }
def P_X2_cutUpright (x1 : Int32) (x2 : Int32) (i_blocks : Int32) (i_sawn : Int32) (f_left : Nat → Int32) (f_low : Nat → Int32) (f_columns : Nat → Int32) (f_rows : Nat → Int32) (post : Int32 → Int32 → (Nat → Int32) → (Nat → Int32) → (Nat → Int32) → (Nat → Int32) → Prop) : Prop := P_X2_makeTwo x1 i_blocks f_left f_low f_columns f_rows (fun i_blocks_1 f_left_2 f_low_3 f_columns_4 f_rows_5 => (vp_in x1 64 ∧ (vp_in x1 64 ∧ ∀ f_columns_6 : Nat → Int32, f_columns_6 = upd f_columns_4 x1.toNatClampNeg ((x2 + 1) - (f_left_2 x1.toNatClampNeg)) → (vp_in (x1 + 1) 64 ∧ ∀ f_left_7 : Nat → Int32, f_left_7 = upd f_left_2 (x1 + 1).toNatClampNeg (x2 + 1) → (vp_in (x1 + 1) 64 ∧ (vp_in x1 64 ∧ (vp_in (x1 + 1) 64 ∧ ∀ f_columns_8 : Nat → Int32, f_columns_8 = upd f_columns_6 (x1 + 1).toNatClampNeg ((f_columns_6 (x1 + 1).toNatClampNeg) - (f_columns_6 x1.toNatClampNeg)) → (vp_in x1 64 ∧ (∀ i_sawn_9 : Int32, i_sawn_9 = (i_sawn + (f_rows_5 x1.toNatClampNeg)) → post i_blocks_1 i_sawn_9 f_left_7 f_low_3 f_columns_8 f_rows_5)))))))))
set_option maxRecDepth 100000 in
set_option maxHeartbeats 4000000 in
theorem c_X2_cutUpright (l : Launch) (D : va_G) (cI cB cS : ClassId) (a_this a_left a_low a_columns a_rows a_turn a_blockAt : Nat) (x1 : Int32) (x2 : Int32) (i_blocks : Int32) (i_sawn : Int32) (f_left : Nat → Int32) (f_low : Nat → Int32) (f_columns : Nat → Int32) (f_rows : Nat → Int32) (post : Int32 → Int32 → (Nat → Int32) → (Nat → Int32) → (Nat → Int32) → (Nat → Int32) → Prop) (hV : P_X2_cutUpright x1 x2 i_blocks i_sawn f_left f_low f_columns f_rows post) : Cv l yX2_cutUpright cX2_cutUpright 3 none rm_X2_cutUpright D cI cB cS [.ref a_this, .int x1, .int x2] [oc a_this 2 [.int i_blocks, .int i_sawn, .ref a_left, .ref a_low, .ref a_columns, .ref a_rows, .ref a_turn, .ref a_blockAt], ai cI a_left 64 f_left, ai cI a_low 64 f_low, ai cI a_columns 64 f_columns, ai cI a_rows 64 f_rows] (fun (u : Int32 × Int32 × (Nat → Int32) × (Nat → Int32) × (Nat → Int32) × (Nat → Int32)) => post u.1 u.2.1 u.2.2.1 u.2.2.2.1 u.2.2.2.2.1 u.2.2.2.2.2) (fun (u : Int32 × Int32 × (Nat → Int32) × (Nat → Int32) × (Nat → Int32) × (Nat → Int32)) => [oc a_this 2 [.int u.1, .int u.2.1, .ref a_left, .ref a_low, .ref a_columns, .ref a_rows, .ref a_turn, .ref a_blockAt], ai cI a_left 64 (u.2.2.1), ai cI a_low 64 (u.2.2.2.1), ai cI a_columns 64 (u.2.2.2.2.1), ai cI a_rows 64 (u.2.2.2.2.2)]) := by
  refine Cv.of ok_X2_cutUpright (Nat.le_of_ble_eq_true rfl) ?_
  intro p e s m args below meth c A Q hx hb hml hown ht hnm hK hP hA hS hret ls hl
  have hown : s.vm.findClass RX2 = some m.cls := hown
  have FX : CallFix p m c cX2_cutUpright 3 s args tblG RX2 := ⟨hx, hb, hml, hown, ht⟩
  have hP : PD D A [oc a_this 2 [.int i_blocks, .int i_sawn, .ref a_left, .ref a_low, .ref a_columns, .ref a_rows, .ref a_turn, .ref a_blockAt], ai cI a_left 64 f_left, ai cI a_low 64 f_low, ai cI a_columns 64 f_columns, ai cI a_rows 64 f_rows] s.heap := hP
  have hl : lv_has ls 3 [(0, .ref a_this), (1, .int x1), (2, .int x2)] := hl
  unfold P_X2_cutUpright at hV
  refine lv_aload_n hx hb dX2_cutUpright_0 rfl (lv_at hl 0 rfl) ?_
  refine lv_iload_n hx hb dX2_cutUpright_1 rfl (lv_at hl 1 rfl) ?_
  refine KVv (As := [.int x1]) (rest := []) FX (c_X2_makeTwo l D cI cB cS a_this a_left a_low a_columns a_rows a_turn a_blockAt x1 i_blocks i_sawn f_left f_low f_columns f_rows _ hV) ok_X2_makeTwo im_X2_makeTwo se_X2_makeTwo li_X2_41 dX2_cutUpright_2 hK hP hS hA [0, 1, 2, 3, 4] [] 0 rfl rfl rfl (by decide) rfl rfl hl.1 (Nat.le_of_ble_eq_true rfl) ⟨Nat.le_of_ble_eq_true rfl, Nat.le_of_ble_eq_true rfl⟩ ⟨Nat.le_of_ble_eq_true rfl, Nat.le_of_ble_eq_true rfl⟩ (fun u H locs hV hP hS => ?_)
  obtain ⟨i_blocks_1, f_left_2, f_low_3, f_columns_4, f_rows_5⟩ := u
  try dsimp only at hV
  have hP : PD D A [oc a_this 2 [.int i_blocks_1, .int i_sawn, .ref a_left, .ref a_low, .ref a_columns, .ref a_rows, .ref a_turn, .ref a_blockAt], ai cI a_left 64 f_left_2, ai cI a_low 64 f_low_3, ai cI a_columns 64 f_columns_4, ai cI a_rows 64 f_rows_5] H := hP
  refine lv_aload_n hx hb dX2_cutUpright_5 rfl (lv_at hl 0 rfl) ?_
  refine gX2 hx hb ht hown hK hP 0 rfl 4 (by decide) fl_X2_18 (fun _ h => h) rfl dX2_cutUpright_6 ?_
  refine lv_iload_n hx hb dX2_cutUpright_9 rfl (lv_at hl 1 rfl) ?_
  refine lv_iload_n hx hb dX2_cutUpright_10 rfl (lv_at hl 2 rfl) ?_
  refine lv_iconst (v := 1) hx hb dX2_cutUpright_11 (by decide) ?_
  refine lv_iadd hx hb dX2_cutUpright_12 ?_
  refine lv_aload_n hx hb dX2_cutUpright_13 rfl (lv_at hl 0 rfl) ?_
  refine gX2 hx hb ht hown hK hP 0 rfl 2 (by decide) fl_X2_9 (fun _ h => h) rfl dX2_cutUpright_14 ?_
  refine lv_iload_n hx hb dX2_cutUpright_17 rfl (lv_at hl 1 rfl) ?_
  refine ild hx hb hK hP 1 rfl dX2_cutUpright_18 hV.1 ?_
  have hV := hV.2
  refine lv_isub hx hb dX2_cutUpright_19 ?_
  refine ist hx hb hK hP hS 3 rfl dX2_cutUpright_20 hV.1 (fun f_columns_6 e_f_columns_6 H locs hP hS => ?_)
  have hV := hV.2 f_columns_6 e_f_columns_6
  have hP : PD D A [oc a_this 2 [.int i_blocks_1, .int i_sawn, .ref a_left, .ref a_low, .ref a_columns, .ref a_rows, .ref a_turn, .ref a_blockAt], ai cI a_left 64 f_left_2, ai cI a_low 64 f_low_3, ai cI a_columns 64 f_columns_6, ai cI a_rows 64 f_rows_5] H := hP
  refine lv_aload_n hx hb dX2_cutUpright_21 rfl (lv_at hl 0 rfl) ?_
  refine gX2 hx hb ht hown hK hP 0 rfl 2 (by decide) fl_X2_9 (fun _ h => h) rfl dX2_cutUpright_22 ?_
  refine lv_iload_n hx hb dX2_cutUpright_25 rfl (lv_at hl 1 rfl) ?_
  refine lv_iconst (v := 1) hx hb dX2_cutUpright_26 (by decide) ?_
  refine lv_iadd hx hb dX2_cutUpright_27 ?_
  refine lv_iload_n hx hb dX2_cutUpright_28 rfl (lv_at hl 2 rfl) ?_
  refine lv_iconst (v := 1) hx hb dX2_cutUpright_29 (by decide) ?_
  refine lv_iadd hx hb dX2_cutUpright_30 ?_
  refine ist hx hb hK hP hS 1 rfl dX2_cutUpright_31 hV.1 (fun f_left_7 e_f_left_7 H locs hP hS => ?_)
  have hV := hV.2 f_left_7 e_f_left_7
  have hP : PD D A [oc a_this 2 [.int i_blocks_1, .int i_sawn, .ref a_left, .ref a_low, .ref a_columns, .ref a_rows, .ref a_turn, .ref a_blockAt], ai cI a_left 64 f_left_7, ai cI a_low 64 f_low_3, ai cI a_columns 64 f_columns_6, ai cI a_rows 64 f_rows_5] H := hP
  refine lv_aload_n hx hb dX2_cutUpright_32 rfl (lv_at hl 0 rfl) ?_
  refine gX2 hx hb ht hown hK hP 0 rfl 4 (by decide) fl_X2_18 (fun _ h => h) rfl dX2_cutUpright_33 ?_
  refine lv_iload_n hx hb dX2_cutUpright_36 rfl (lv_at hl 1 rfl) ?_
  refine lv_iconst (v := 1) hx hb dX2_cutUpright_37 (by decide) ?_
  refine lv_iadd hx hb dX2_cutUpright_38 ?_
  refine lv_dup2_11 hx hb dX2_cutUpright_39 rfl rfl ?_
  refine ild hx hb hK hP 3 rfl dX2_cutUpright_40 hV.1 ?_
  have hV := hV.2
  refine lv_aload_n hx hb dX2_cutUpright_41 rfl (lv_at hl 0 rfl) ?_
  refine gX2 hx hb ht hown hK hP 0 rfl 4 (by decide) fl_X2_18 (fun _ h => h) rfl dX2_cutUpright_42 ?_
  refine lv_iload_n hx hb dX2_cutUpright_45 rfl (lv_at hl 1 rfl) ?_
  refine ild hx hb hK hP 3 rfl dX2_cutUpright_46 hV.1 ?_
  have hV := hV.2
  refine lv_isub hx hb dX2_cutUpright_47 ?_
  refine ist hx hb hK hP hS 3 rfl dX2_cutUpright_48 hV.1 (fun f_columns_8 e_f_columns_8 H locs hP hS => ?_)
  have hV := hV.2 f_columns_8 e_f_columns_8
  have hP : PD D A [oc a_this 2 [.int i_blocks_1, .int i_sawn, .ref a_left, .ref a_low, .ref a_columns, .ref a_rows, .ref a_turn, .ref a_blockAt], ai cI a_left 64 f_left_7, ai cI a_low 64 f_low_3, ai cI a_columns 64 f_columns_8, ai cI a_rows 64 f_rows_5] H := hP
  refine lv_aload_n hx hb dX2_cutUpright_49 rfl (lv_at hl 0 rfl) ?_
  refine lv_dup hx hb dX2_cutUpright_50 rfl ?_
  refine gX2 hx hb ht hown hK hP 0 rfl 1 (by decide) fl_X2_34 (fun _ h => h) rfl dX2_cutUpright_51 ?_
  refine lv_aload_n hx hb dX2_cutUpright_54 rfl (lv_at hl 0 rfl) ?_
  refine gX2 hx hb ht hown hK hP 0 rfl 5 (by decide) fl_X2_21 (fun _ h => h) rfl dX2_cutUpright_55 ?_
  refine lv_iload_n hx hb dX2_cutUpright_58 rfl (lv_at hl 1 rfl) ?_
  refine ild hx hb hK hP 4 rfl dX2_cutUpright_59 hV.1 ?_
  have hV := hV.2
  refine lv_iadd hx hb dX2_cutUpright_60 ?_
  refine lv_topi (fun i_sawn_9 e_i_sawn_9 => ?_)
  have hV := hV i_sawn_9 e_i_sawn_9
  refine pX2 hx hb ht hown hK hP hS 0 rfl 1 (by decide) fl_X2_34 (fun _ h => h) rfl (tyX2_ok 1 (by decide)) rfl rfl (Nat.le_of_ble_eq_true rfl) dX2_cutUpright_61 (fun H locs hP hS => ?_)
  have hP : PD D A [oc a_this 2 [.int i_blocks_1, .int i_sawn_9, .ref a_left, .ref a_low, .ref a_columns, .ref a_rows, .ref a_turn, .ref a_blockAt], ai cI a_left 64 f_left_7, ai cI a_low 64 f_low_3, ai cI a_columns 64 f_columns_8, ai cI a_rows 64 f_rows_5] H := hP
  exact hret _ _ _ _ (i_blocks_1, i_sawn_9, f_left_7, f_low_3, f_columns_8, f_rows_5) hS dX2_cutUpright_64 hP hV

def rm_X2_cutLevel : Room := { frames := 3, cells := 0, slots := 0, locals := 61 }
def P_X2_cutLevel (x1 : Int32) (x2 : Int32) (i_blocks : Int32) (i_sawn : Int32) (f_left : Nat → Int32) (f_low : Nat → Int32) (f_columns : Nat → Int32) (f_rows : Nat → Int32) (post : Int32 → Int32 → (Nat → Int32) → (Nat → Int32) → (Nat → Int32) → (Nat → Int32) → Prop) : Prop := P_X2_makeTwo x1 i_blocks f_left f_low f_columns f_rows (fun i_blocks_1 f_left_2 f_low_3 f_columns_4 f_rows_5 => (vp_in x1 64 ∧ (vp_in x1 64 ∧ ∀ f_rows_6 : Nat → Int32, f_rows_6 = upd f_rows_5 x1.toNatClampNeg ((x2 + 1) - (f_low_3 x1.toNatClampNeg)) → (vp_in (x1 + 1) 64 ∧ ∀ f_low_7 : Nat → Int32, f_low_7 = upd f_low_3 (x1 + 1).toNatClampNeg (x2 + 1) → (vp_in (x1 + 1) 64 ∧ (vp_in x1 64 ∧ (vp_in (x1 + 1) 64 ∧ ∀ f_rows_8 : Nat → Int32, f_rows_8 = upd f_rows_6 (x1 + 1).toNatClampNeg ((f_rows_6 (x1 + 1).toNatClampNeg) - (f_rows_6 x1.toNatClampNeg)) → (vp_in x1 64 ∧ (∀ i_sawn_9 : Int32, i_sawn_9 = (i_sawn + (f_columns_4 x1.toNatClampNeg)) → post i_blocks_1 i_sawn_9 f_left_2 f_low_7 f_columns_4 f_rows_8)))))))))
set_option maxRecDepth 100000 in
set_option maxHeartbeats 4000000 in
theorem c_X2_cutLevel (l : Launch) (D : va_G) (cI cB cS : ClassId) (a_this a_left a_low a_columns a_rows a_turn a_blockAt : Nat) (x1 : Int32) (x2 : Int32) (i_blocks : Int32) (i_sawn : Int32) (f_left : Nat → Int32) (f_low : Nat → Int32) (f_columns : Nat → Int32) (f_rows : Nat → Int32) (post : Int32 → Int32 → (Nat → Int32) → (Nat → Int32) → (Nat → Int32) → (Nat → Int32) → Prop) (hV : P_X2_cutLevel x1 x2 i_blocks i_sawn f_left f_low f_columns f_rows post) : Cv l yX2_cutLevel cX2_cutLevel 3 none rm_X2_cutLevel D cI cB cS [.ref a_this, .int x1, .int x2] [oc a_this 2 [.int i_blocks, .int i_sawn, .ref a_left, .ref a_low, .ref a_columns, .ref a_rows, .ref a_turn, .ref a_blockAt], ai cI a_left 64 f_left, ai cI a_low 64 f_low, ai cI a_columns 64 f_columns, ai cI a_rows 64 f_rows] (fun (u : Int32 × Int32 × (Nat → Int32) × (Nat → Int32) × (Nat → Int32) × (Nat → Int32)) => post u.1 u.2.1 u.2.2.1 u.2.2.2.1 u.2.2.2.2.1 u.2.2.2.2.2) (fun (u : Int32 × Int32 × (Nat → Int32) × (Nat → Int32) × (Nat → Int32) × (Nat → Int32)) => [oc a_this 2 [.int u.1, .int u.2.1, .ref a_left, .ref a_low, .ref a_columns, .ref a_rows, .ref a_turn, .ref a_blockAt], ai cI a_left 64 (u.2.2.1), ai cI a_low 64 (u.2.2.2.1), ai cI a_columns 64 (u.2.2.2.2.1), ai cI a_rows 64 (u.2.2.2.2.2)]) := by
  refine Cv.of ok_X2_cutLevel (Nat.le_of_ble_eq_true rfl) ?_
  intro p e s m args below meth c A Q hx hb hml hown ht hnm hK hP hA hS hret ls hl
  have hown : s.vm.findClass RX2 = some m.cls := hown
  have FX : CallFix p m c cX2_cutLevel 3 s args tblG RX2 := ⟨hx, hb, hml, hown, ht⟩
  have hP : PD D A [oc a_this 2 [.int i_blocks, .int i_sawn, .ref a_left, .ref a_low, .ref a_columns, .ref a_rows, .ref a_turn, .ref a_blockAt], ai cI a_left 64 f_left, ai cI a_low 64 f_low, ai cI a_columns 64 f_columns, ai cI a_rows 64 f_rows] s.heap := hP
  have hl : lv_has ls 3 [(0, .ref a_this), (1, .int x1), (2, .int x2)] := hl
  unfold P_X2_cutLevel at hV
  refine lv_aload_n hx hb dX2_cutLevel_0 rfl (lv_at hl 0 rfl) ?_
  refine lv_iload_n hx hb dX2_cutLevel_1 rfl (lv_at hl 1 rfl) ?_
  refine KVv (As := [.int x1]) (rest := []) FX (c_X2_makeTwo l D cI cB cS a_this a_left a_low a_columns a_rows a_turn a_blockAt x1 i_blocks i_sawn f_left f_low f_columns f_rows _ hV) ok_X2_makeTwo im_X2_makeTwo se_X2_makeTwo li_X2_41 dX2_cutLevel_2 hK hP hS hA [0, 1, 2, 3, 4] [] 0 rfl rfl rfl (by decide) rfl rfl hl.1 (Nat.le_of_ble_eq_true rfl) ⟨Nat.le_of_ble_eq_true rfl, Nat.le_of_ble_eq_true rfl⟩ ⟨Nat.le_of_ble_eq_true rfl, Nat.le_of_ble_eq_true rfl⟩ (fun u H locs hV hP hS => ?_)
  obtain ⟨i_blocks_1, f_left_2, f_low_3, f_columns_4, f_rows_5⟩ := u
  try dsimp only at hV
  have hP : PD D A [oc a_this 2 [.int i_blocks_1, .int i_sawn, .ref a_left, .ref a_low, .ref a_columns, .ref a_rows, .ref a_turn, .ref a_blockAt], ai cI a_left 64 f_left_2, ai cI a_low 64 f_low_3, ai cI a_columns 64 f_columns_4, ai cI a_rows 64 f_rows_5] H := hP
  refine lv_aload_n hx hb dX2_cutLevel_5 rfl (lv_at hl 0 rfl) ?_
  refine gX2 hx hb ht hown hK hP 0 rfl 5 (by decide) fl_X2_21 (fun _ h => h) rfl dX2_cutLevel_6 ?_
  refine lv_iload_n hx hb dX2_cutLevel_9 rfl (lv_at hl 1 rfl) ?_
  refine lv_iload_n hx hb dX2_cutLevel_10 rfl (lv_at hl 2 rfl) ?_
  refine lv_iconst (v := 1) hx hb dX2_cutLevel_11 (by decide) ?_
  refine lv_iadd hx hb dX2_cutLevel_12 ?_
  refine lv_aload_n hx hb dX2_cutLevel_13 rfl (lv_at hl 0 rfl) ?_
  refine gX2 hx hb ht hown hK hP 0 rfl 3 (by decide) fl_X2_15 (fun _ h => h) rfl dX2_cutLevel_14 ?_
  refine lv_iload_n hx hb dX2_cutLevel_17 rfl (lv_at hl 1 rfl) ?_
  refine ild hx hb hK hP 2 rfl dX2_cutLevel_18 hV.1 ?_
  have hV := hV.2
  refine lv_isub hx hb dX2_cutLevel_19 ?_
  refine ist hx hb hK hP hS 4 rfl dX2_cutLevel_20 hV.1 (fun f_rows_6 e_f_rows_6 H locs hP hS => ?_)
  have hV := hV.2 f_rows_6 e_f_rows_6
  have hP : PD D A [oc a_this 2 [.int i_blocks_1, .int i_sawn, .ref a_left, .ref a_low, .ref a_columns, .ref a_rows, .ref a_turn, .ref a_blockAt], ai cI a_left 64 f_left_2, ai cI a_low 64 f_low_3, ai cI a_columns 64 f_columns_4, ai cI a_rows 64 f_rows_6] H := hP
  refine lv_aload_n hx hb dX2_cutLevel_21 rfl (lv_at hl 0 rfl) ?_
  refine gX2 hx hb ht hown hK hP 0 rfl 3 (by decide) fl_X2_15 (fun _ h => h) rfl dX2_cutLevel_22 ?_
  refine lv_iload_n hx hb dX2_cutLevel_25 rfl (lv_at hl 1 rfl) ?_
  refine lv_iconst (v := 1) hx hb dX2_cutLevel_26 (by decide) ?_
  refine lv_iadd hx hb dX2_cutLevel_27 ?_
  refine lv_iload_n hx hb dX2_cutLevel_28 rfl (lv_at hl 2 rfl) ?_
  refine lv_iconst (v := 1) hx hb dX2_cutLevel_29 (by decide) ?_
  refine lv_iadd hx hb dX2_cutLevel_30 ?_
  refine ist hx hb hK hP hS 2 rfl dX2_cutLevel_31 hV.1 (fun f_low_7 e_f_low_7 H locs hP hS => ?_)
  have hV := hV.2 f_low_7 e_f_low_7
  have hP : PD D A [oc a_this 2 [.int i_blocks_1, .int i_sawn, .ref a_left, .ref a_low, .ref a_columns, .ref a_rows, .ref a_turn, .ref a_blockAt], ai cI a_left 64 f_left_2, ai cI a_low 64 f_low_7, ai cI a_columns 64 f_columns_4, ai cI a_rows 64 f_rows_6] H := hP
  refine lv_aload_n hx hb dX2_cutLevel_32 rfl (lv_at hl 0 rfl) ?_
  refine gX2 hx hb ht hown hK hP 0 rfl 5 (by decide) fl_X2_21 (fun _ h => h) rfl dX2_cutLevel_33 ?_
  refine lv_iload_n hx hb dX2_cutLevel_36 rfl (lv_at hl 1 rfl) ?_
  refine lv_iconst (v := 1) hx hb dX2_cutLevel_37 (by decide) ?_
  refine lv_iadd hx hb dX2_cutLevel_38 ?_
  refine lv_dup2_11 hx hb dX2_cutLevel_39 rfl rfl ?_
  refine ild hx hb hK hP 4 rfl dX2_cutLevel_40 hV.1 ?_
  have hV := hV.2
  refine lv_aload_n hx hb dX2_cutLevel_41 rfl (lv_at hl 0 rfl) ?_
  refine gX2 hx hb ht hown hK hP 0 rfl 5 (by decide) fl_X2_21 (fun _ h => h) rfl dX2_cutLevel_42 ?_
  refine lv_iload_n hx hb dX2_cutLevel_45 rfl (lv_at hl 1 rfl) ?_
  refine ild hx hb hK hP 4 rfl dX2_cutLevel_46 hV.1 ?_
  have hV := hV.2
  refine lv_isub hx hb dX2_cutLevel_47 ?_
  refine ist hx hb hK hP hS 4 rfl dX2_cutLevel_48 hV.1 (fun f_rows_8 e_f_rows_8 H locs hP hS => ?_)
  have hV := hV.2 f_rows_8 e_f_rows_8
  have hP : PD D A [oc a_this 2 [.int i_blocks_1, .int i_sawn, .ref a_left, .ref a_low, .ref a_columns, .ref a_rows, .ref a_turn, .ref a_blockAt], ai cI a_left 64 f_left_2, ai cI a_low 64 f_low_7, ai cI a_columns 64 f_columns_4, ai cI a_rows 64 f_rows_8] H := hP
  refine lv_aload_n hx hb dX2_cutLevel_49 rfl (lv_at hl 0 rfl) ?_
  refine lv_dup hx hb dX2_cutLevel_50 rfl ?_
  refine gX2 hx hb ht hown hK hP 0 rfl 1 (by decide) fl_X2_34 (fun _ h => h) rfl dX2_cutLevel_51 ?_
  refine lv_aload_n hx hb dX2_cutLevel_54 rfl (lv_at hl 0 rfl) ?_
  refine gX2 hx hb ht hown hK hP 0 rfl 4 (by decide) fl_X2_18 (fun _ h => h) rfl dX2_cutLevel_55 ?_
  refine lv_iload_n hx hb dX2_cutLevel_58 rfl (lv_at hl 1 rfl) ?_
  refine ild hx hb hK hP 3 rfl dX2_cutLevel_59 hV.1 ?_
  have hV := hV.2
  refine lv_iadd hx hb dX2_cutLevel_60 ?_
  refine lv_topi (fun i_sawn_9 e_i_sawn_9 => ?_)
  have hV := hV i_sawn_9 e_i_sawn_9
  refine pX2 hx hb ht hown hK hP hS 0 rfl 1 (by decide) fl_X2_34 (fun _ h => h) rfl (tyX2_ok 1 (by decide)) rfl rfl (Nat.le_of_ble_eq_true rfl) dX2_cutLevel_61 (fun H locs hP hS => ?_)
  have hP : PD D A [oc a_this 2 [.int i_blocks_1, .int i_sawn_9, .ref a_left, .ref a_low, .ref a_columns, .ref a_rows, .ref a_turn, .ref a_blockAt], ai cI a_left 64 f_left_2, ai cI a_low 64 f_low_7, ai cI a_columns 64 f_columns_4, ai cI a_rows 64 f_rows_8] H := hP
  exact hret _ _ _ _ (i_blocks_1, i_sawn_9, f_left_2, f_low_7, f_columns_4, f_rows_8) hS dX2_cutLevel_64 hP hV

def rm_X2_numberCellsOf : Room := { frames := 1, cells := 0, slots := 0, locals := 21 }
def V_X2_numberCellsOf_31 (x1 : Int32) (v2 : Int32) (f_left : Nat → Int32) (f_columns : Nat → Int32) (K_7 : Int32 → (Nat → Int32) → Prop) : Nat → Int32 → (Nat → Int32) → Prop
  | 0, _, _ => False
  | n + 1, v3, f_blockAt => (vp_in x1 64 ∧ (vp_in x1 64 ∧ ((((f_left x1.toNatClampNeg) + (f_columns x1.toNatClampNeg)) ≤ v3 → (∀ v2_1 : Int32, v2_1 = (v2 + 1) → K_7 v2_1 f_blockAt)) ∧ (¬ ((f_left x1.toNatClampNeg) + (f_columns x1.toNatClampNeg)) ≤ v3 → P_X9_place v3 v2 (fun r_2 => (vp_in r_2 64 ∧ ∀ f_blockAt_3 : Nat → Int32, f_blockAt_3 = upd f_blockAt r_2.toNatClampNeg x1 → (∀ v3_4 : Int32, v3_4 = (v3 + 1) → V_X2_numberCellsOf_31 x1 v2 f_left f_columns K_7 n v3_4 f_blockAt_3)))))))
theorem V_X2_numberCellsOf_31_s (x1 : Int32) (v2 : Int32) (f_left : Nat → Int32) (f_columns : Nat → Int32) (K_7 : Int32 → (Nat → Int32) → Prop) (n : Nat) (v3 : Int32) (f_blockAt : Nat → Int32) : V_X2_numberCellsOf_31 x1 v2 f_left f_columns K_7 (n + 1) v3 f_blockAt = ((vp_in x1 64 ∧ (vp_in x1 64 ∧ ((((f_left x1.toNatClampNeg) + (f_columns x1.toNatClampNeg)) ≤ v3 → (∀ v2_1 : Int32, v2_1 = (v2 + 1) → K_7 v2_1 f_blockAt)) ∧ (¬ ((f_left x1.toNatClampNeg) + (f_columns x1.toNatClampNeg)) ≤ v3 → P_X9_place v3 v2 (fun r_2 => (vp_in r_2 64 ∧ ∀ f_blockAt_3 : Nat → Int32, f_blockAt_3 = upd f_blockAt r_2.toNatClampNeg x1 → (∀ v3_4 : Int32, v3_4 = (v3 + 1) → V_X2_numberCellsOf_31 x1 v2 f_left f_columns K_7 n v3_4 f_blockAt_3)))))))) := rfl
def V_X2_numberCellsOf_7 (x1 : Int32) (f_left : Nat → Int32) (f_low : Nat → Int32) (f_columns : Nat → Int32) (f_rows : Nat → Int32) (post : (Nat → Int32) → Prop) : Nat → Int32 → (Nat → Int32) → Prop
  | 0, _, _ => False
  | n + 1, v2, f_blockAt => (vp_in x1 64 ∧ (vp_in x1 64 ∧ ((((f_low x1.toNatClampNeg) + (f_rows x1.toNatClampNeg)) ≤ v2 → post f_blockAt) ∧ (¬ ((f_low x1.toNatClampNeg) + (f_rows x1.toNatClampNeg)) ≤ v2 → (vp_in x1 64 ∧ (∀ v3_5 : Int32, v3_5 = (f_left x1.toNatClampNeg) → (∃ k : Nat, V_X2_numberCellsOf_31 x1 v2 f_left f_columns (V_X2_numberCellsOf_7 x1 f_left f_low f_columns f_rows post n) k v3_5 f_blockAt)))))))
theorem V_X2_numberCellsOf_7_s (x1 : Int32) (f_left : Nat → Int32) (f_low : Nat → Int32) (f_columns : Nat → Int32) (f_rows : Nat → Int32) (post : (Nat → Int32) → Prop) (n : Nat) (v2 : Int32) (f_blockAt : Nat → Int32) : V_X2_numberCellsOf_7 x1 f_left f_low f_columns f_rows post (n + 1) v2 f_blockAt = ((vp_in x1 64 ∧ (vp_in x1 64 ∧ ((((f_low x1.toNatClampNeg) + (f_rows x1.toNatClampNeg)) ≤ v2 → post f_blockAt) ∧ (¬ ((f_low x1.toNatClampNeg) + (f_rows x1.toNatClampNeg)) ≤ v2 → (vp_in x1 64 ∧ (∀ v3_5 : Int32, v3_5 = (f_left x1.toNatClampNeg) → (∃ k : Nat, V_X2_numberCellsOf_31 x1 v2 f_left f_columns (V_X2_numberCellsOf_7 x1 f_left f_low f_columns f_rows post n) k v3_5 f_blockAt)))))))) := rfl
def P_X2_numberCellsOf (x1 : Int32) (f_left : Nat → Int32) (f_low : Nat → Int32) (f_columns : Nat → Int32) (f_rows : Nat → Int32) (f_blockAt : Nat → Int32) (post : (Nat → Int32) → Prop) : Prop := (vp_in x1 64 ∧ (∀ v2_6 : Int32, v2_6 = (f_low x1.toNatClampNeg) → (∃ k : Nat, V_X2_numberCellsOf_7 x1 f_left f_low f_columns f_rows post k v2_6 f_blockAt)))
set_option maxRecDepth 100000 in
set_option maxHeartbeats 4000000 in
theorem c_X2_numberCellsOf (l : Launch) (D : va_G) (cI cB cS : ClassId) (a_this a_left a_low a_columns a_rows a_blockAt a_turn : Nat) (x1 : Int32) (i_blocks : Int32) (i_sawn : Int32) (f_left : Nat → Int32) (f_low : Nat → Int32) (f_columns : Nat → Int32) (f_rows : Nat → Int32) (f_blockAt : Nat → Int32) (post : (Nat → Int32) → Prop) (hV : P_X2_numberCellsOf x1 f_left f_low f_columns f_rows f_blockAt post) : Cv l yX2_numberCellsOf cX2_numberCellsOf 4 none rm_X2_numberCellsOf D cI cB cS [.ref a_this, .int x1] [oc a_this 2 [.int i_blocks, .int i_sawn, .ref a_left, .ref a_low, .ref a_columns, .ref a_rows, .ref a_turn, .ref a_blockAt], ai cI a_left 64 f_left, ai cI a_low 64 f_low, ai cI a_columns 64 f_columns, ai cI a_rows 64 f_rows, ai cI a_blockAt 64 f_blockAt] (fun (u : (Nat → Int32)) => post u) (fun (u : (Nat → Int32)) => [oc a_this 2 [.int i_blocks, .int i_sawn, .ref a_left, .ref a_low, .ref a_columns, .ref a_rows, .ref a_turn, .ref a_blockAt], ai cI a_left 64 f_left, ai cI a_low 64 f_low, ai cI a_columns 64 f_columns, ai cI a_rows 64 f_rows, ai cI a_blockAt 64 u]) := by
  refine Cv.of ok_X2_numberCellsOf (Nat.le_of_ble_eq_true rfl) ?_
  intro p e s m args below meth c A Q hx hb hml hown ht hnm hK hP hA hS hret ls hl
  have hown : s.vm.findClass RX2 = some m.cls := hown
  have FX : CallFix p m c cX2_numberCellsOf 4 s args tblG RX2 := ⟨hx, hb, hml, hown, ht⟩
  have hP : PD D A [oc a_this 2 [.int i_blocks, .int i_sawn, .ref a_left, .ref a_low, .ref a_columns, .ref a_rows, .ref a_turn, .ref a_blockAt], ai cI a_left 64 f_left, ai cI a_low 64 f_low, ai cI a_columns 64 f_columns, ai cI a_rows 64 f_rows, ai cI a_blockAt 64 f_blockAt] s.heap := hP
  have hl : lv_has ls 4 [(0, .ref a_this), (1, .int x1)] := hl
  unfold P_X2_numberCellsOf at hV
  have b7 : ∀  (k7 : Nat) (v2 : Int32) (f_blockAt : Nat → Int32) (H : Heap) (locs : List Loc) (ls : Array Slot), PD D A [oc a_this 2 [.int i_blocks, .int i_sawn, .ref a_left, .ref a_low, .ref a_columns, .ref a_rows, .ref a_turn, .ref a_blockAt], ai cI a_left 64 f_left, ai cI a_low 64 f_low, ai cI a_columns 64 f_columns, ai cI a_rows 64 f_rows, ai cI a_blockAt 64 f_blockAt] H → va_S A s.heap H locs → lv_has ls 4 [(0, .ref a_this), (1, .int x1), (2, .int v2)] → V_X2_numberCellsOf_7 x1 f_left f_low f_columns f_rows post k7 v2 f_blockAt → W p l e rm_X2_numberCellsOf s m args below meth c H locs 0 0 Q (F0 m 7 ls []) := by
    intro  k7
    induction k7 with
    | zero => intro v2 f_blockAt H locs ls hP hS hl hV; exact False.elim hV
    | succ k7 ih7 =>
      intro v2 f_blockAt H locs ls hP hS hl hV
      rw [V_X2_numberCellsOf_7_s] at hV
      have b31 : ∀ (v2 : Int32) (k31 : Nat) (v3 : Int32) (f_blockAt : Nat → Int32) (H : Heap) (locs : List Loc) (ls : Array Slot), PD D A [oc a_this 2 [.int i_blocks, .int i_sawn, .ref a_left, .ref a_low, .ref a_columns, .ref a_rows, .ref a_turn, .ref a_blockAt], ai cI a_left 64 f_left, ai cI a_low 64 f_low, ai cI a_columns 64 f_columns, ai cI a_rows 64 f_rows, ai cI a_blockAt 64 f_blockAt] H → va_S A s.heap H locs → lv_has ls 4 [(0, .ref a_this), (1, .int x1), (2, .int v2), (3, .int v3)] → V_X2_numberCellsOf_31 x1 v2 f_left f_columns (V_X2_numberCellsOf_7 x1 f_left f_low f_columns f_rows post k7) k31 v3 f_blockAt → W p l e rm_X2_numberCellsOf s m args below meth c H locs 0 0 Q (F0 m 31 ls []) := by
        intro v2 k31
        induction k31 with
        | zero => intro v3 f_blockAt H locs ls hP hS hl hV; exact False.elim hV
        | succ k31 ih31 =>
          intro v3 f_blockAt H locs ls hP hS hl hV
          rw [V_X2_numberCellsOf_31_s] at hV
          refine lv_iload_n hx hb dX2_numberCellsOf_31 rfl (lv_at hl 3 rfl) ?_
          refine lv_aload_n hx hb dX2_numberCellsOf_32 rfl (lv_at hl 0 rfl) ?_
          refine gX2 hx hb ht hown hK hP 0 rfl 2 (by decide) fl_X2_9 (fun _ h => h) rfl dX2_numberCellsOf_33 ?_
          refine lv_iload_n hx hb dX2_numberCellsOf_36 rfl (lv_at hl 1 rfl) ?_
          refine ild hx hb hK hP 1 rfl dX2_numberCellsOf_37 hV.1 ?_
          have hV := hV.2
          refine lv_aload_n hx hb dX2_numberCellsOf_38 rfl (lv_at hl 0 rfl) ?_
          refine gX2 hx hb ht hown hK hP 0 rfl 4 (by decide) fl_X2_18 (fun _ h => h) rfl dX2_numberCellsOf_39 ?_
          refine lv_iload_n hx hb dX2_numberCellsOf_42 rfl (lv_at hl 1 rfl) ?_
          refine ild hx hb hK hP 3 rfl dX2_numberCellsOf_43 hV.1 ?_
          have hV := hV.2
          refine lv_iadd hx hb dX2_numberCellsOf_44 ?_
          refine lv_icmp_ge (tgt := 65) hx hb dX2_numberCellsOf_45 (by decide) (fun h => ?_) (fun h => ?_)
          · have hV := hV.1 h
            obtain ⟨v2_1, e_v2_1⟩ : ∃ y : Int32, y = (v2 + 1) := ⟨_, rfl⟩
            have hV := hV v2_1 e_v2_1
            refine lv_iinc (v := v2_1) (lv' := [(2, .int v2_1), (0, .ref a_this), (1, .int x1), (3, .int v3)]) hx hb dX2_numberCellsOf_65 hl (k := 2) rfl (by rw [e_v2_1]; rfl) (by decide) rfl (fun ls hl => ?_)
            refine lv_goto (tgt := 7) hx hb dX2_numberCellsOf_68 (by decide) ?_
            exact ih7 v2_1 f_blockAt _ _ _ hP hS (lv_sub hl [1, 2, 0] rfl) hV
          · have hV := hV.2 h
            refine lv_aload_n hx hb dX2_numberCellsOf_48 rfl (lv_at hl 0 rfl) ?_
            refine gX2 hx hb ht hown hK hP 0 rfl 7 (by decide) fl_X2_27 (fun _ h => h) rfl dX2_numberCellsOf_49 ?_
            refine lv_iload_n hx hb dX2_numberCellsOf_52 rfl (lv_at hl 3 rfl) ?_
            refine lv_iload_n hx hb dX2_numberCellsOf_53 rfl (lv_at hl 2 rfl) ?_
            refine KNi (As := [.int v3, .int v2]) (rest := [.ref a_blockAt]) FX (c_X9_place l D cI cB cS v3 v2 _ hV) ok_X9_place is_X9_place nq_X2_58 dX2_numberCellsOf_54 hK hP hS hA [] [0, 1, 2, 3, 4, 5] rfl rfl (by decide) rfl hl.1 (Nat.le_of_ble_eq_true rfl) ⟨Nat.le_of_ble_eq_true rfl, Nat.le_of_ble_eq_true rfl⟩ ⟨Nat.le_of_ble_eq_true rfl, Nat.le_of_ble_eq_true rfl⟩ (fun r_2 _ H locs hV hP hS => ?_)
            have hP : PD D A [oc a_this 2 [.int i_blocks, .int i_sawn, .ref a_left, .ref a_low, .ref a_columns, .ref a_rows, .ref a_turn, .ref a_blockAt], ai cI a_left 64 f_left, ai cI a_low 64 f_low, ai cI a_columns 64 f_columns, ai cI a_rows 64 f_rows, ai cI a_blockAt 64 f_blockAt] H := hP
            refine lv_iload_n hx hb dX2_numberCellsOf_57 rfl (lv_at hl 1 rfl) ?_
            refine ist hx hb hK hP hS 5 rfl dX2_numberCellsOf_58 hV.1 (fun f_blockAt_3 e_f_blockAt_3 H locs hP hS => ?_)
            have hV := hV.2 f_blockAt_3 e_f_blockAt_3
            have hP : PD D A [oc a_this 2 [.int i_blocks, .int i_sawn, .ref a_left, .ref a_low, .ref a_columns, .ref a_rows, .ref a_turn, .ref a_blockAt], ai cI a_left 64 f_left, ai cI a_low 64 f_low, ai cI a_columns 64 f_columns, ai cI a_rows 64 f_rows, ai cI a_blockAt 64 f_blockAt_3] H := hP
            obtain ⟨v3_4, e_v3_4⟩ : ∃ y : Int32, y = (v3 + 1) := ⟨_, rfl⟩
            have hV := hV v3_4 e_v3_4
            refine lv_iinc (v := v3_4) (lv' := [(3, .int v3_4), (0, .ref a_this), (1, .int x1), (2, .int v2)]) hx hb dX2_numberCellsOf_59 hl (k := 3) rfl (by rw [e_v3_4]; rfl) (by decide) rfl (fun ls hl => ?_)
            refine lv_goto (tgt := 31) hx hb dX2_numberCellsOf_62 (by decide) ?_
            exact ih31 v3_4 f_blockAt_3 _ _ _ hP hS (lv_sub hl [1, 2, 3, 0] rfl) hV
      refine lv_iload_n hx hb dX2_numberCellsOf_7 rfl (lv_at hl 2 rfl) ?_
      refine lv_aload_n hx hb dX2_numberCellsOf_8 rfl (lv_at hl 0 rfl) ?_
      refine gX2 hx hb ht hown hK hP 0 rfl 3 (by decide) fl_X2_15 (fun _ h => h) rfl dX2_numberCellsOf_9 ?_
      refine lv_iload_n hx hb dX2_numberCellsOf_12 rfl (lv_at hl 1 rfl) ?_
      refine ild hx hb hK hP 2 rfl dX2_numberCellsOf_13 hV.1 ?_
      have hV := hV.2
      refine lv_aload_n hx hb dX2_numberCellsOf_14 rfl (lv_at hl 0 rfl) ?_
      refine gX2 hx hb ht hown hK hP 0 rfl 5 (by decide) fl_X2_21 (fun _ h => h) rfl dX2_numberCellsOf_15 ?_
      refine lv_iload_n hx hb dX2_numberCellsOf_18 rfl (lv_at hl 1 rfl) ?_
      refine ild hx hb hK hP 4 rfl dX2_numberCellsOf_19 hV.1 ?_
      have hV := hV.2
      refine lv_iadd hx hb dX2_numberCellsOf_20 ?_
      refine lv_icmp_ge (tgt := 71) hx hb dX2_numberCellsOf_21 (by decide) (fun h => ?_) (fun h => ?_)
      · have hV := hV.1 h
        exact hret _ _ _ _ f_blockAt hS dX2_numberCellsOf_71 hP hV
      · have hV := hV.2 h
        refine lv_aload_n hx hb dX2_numberCellsOf_24 rfl (lv_at hl 0 rfl) ?_
        refine gX2 hx hb ht hown hK hP 0 rfl 2 (by decide) fl_X2_9 (fun _ h => h) rfl dX2_numberCellsOf_25 ?_
        refine lv_iload_n hx hb dX2_numberCellsOf_28 rfl (lv_at hl 1 rfl) ?_
        refine ild hx hb hK hP 1 rfl dX2_numberCellsOf_29 hV.1 ?_
        have hV := hV.2
        refine lv_topi (fun v3_5 e_v3_5 => ?_)
        have hV := hV v3_5 e_v3_5
        refine lv_istore_n (lv' := [(3, .int v3_5), (0, .ref a_this), (1, .int x1), (2, .int v2)]) hx hb dX2_numberCellsOf_30 rfl hl (by decide) rfl (fun ls hl => ?_)
        obtain ⟨k, hV⟩ := hV
        exact b31 v2 k v3_5 f_blockAt _ _ _ hP hS (lv_sub hl [1, 2, 3, 0] rfl) hV
  refine lv_aload_n hx hb dX2_numberCellsOf_0 rfl (lv_at hl 0 rfl) ?_
  refine gX2 hx hb ht hown hK hP 0 rfl 3 (by decide) fl_X2_15 (fun _ h => h) rfl dX2_numberCellsOf_1 ?_
  refine lv_iload_n hx hb dX2_numberCellsOf_4 rfl (lv_at hl 1 rfl) ?_
  refine ild hx hb hK hP 2 rfl dX2_numberCellsOf_5 hV.1 ?_
  have hV := hV.2
  refine lv_topi (fun v2_6 e_v2_6 => ?_)
  have hV := hV v2_6 e_v2_6
  refine lv_istore_n (lv' := [(2, .int v2_6), (0, .ref a_this), (1, .int x1)]) hx hb dX2_numberCellsOf_6 rfl hl (by decide) rfl (fun ls hl => ?_)
  obtain ⟨k, hV⟩ := hV
  exact b7 k v2_6 f_blockAt _ _ _ hP hS (lv_sub hl [1, 2, 0] rfl) hV

def rm_X2_numberCells : Room := { frames := 2, cells := 0, slots := 0, locals := 44 }
def V_X2_numberCells_2 (i_blocks : Int32) (f_left : Nat → Int32) (f_low : Nat → Int32) (f_columns : Nat → Int32) (f_rows : Nat → Int32) (post : (Nat → Int32) → Prop) : Nat → Int32 → (Nat → Int32) → Prop
  | 0, _, _ => False
  | n + 1, v1, f_blockAt => ((i_blocks ≤ v1 → post f_blockAt) ∧ (¬ i_blocks ≤ v1 → P_X2_numberCellsOf v1 f_left f_low f_columns f_rows f_blockAt (fun f_blockAt_1 => (∀ v1_2 : Int32, v1_2 = (v1 + 1) → V_X2_numberCells_2 i_blocks f_left f_low f_columns f_rows post n v1_2 f_blockAt_1))))
theorem V_X2_numberCells_2_s (i_blocks : Int32) (f_left : Nat → Int32) (f_low : Nat → Int32) (f_columns : Nat → Int32) (f_rows : Nat → Int32) (post : (Nat → Int32) → Prop) (n : Nat) (v1 : Int32) (f_blockAt : Nat → Int32) : V_X2_numberCells_2 i_blocks f_left f_low f_columns f_rows post (n + 1) v1 f_blockAt = (((i_blocks ≤ v1 → post f_blockAt) ∧ (¬ i_blocks ≤ v1 → P_X2_numberCellsOf v1 f_left f_low f_columns f_rows f_blockAt (fun f_blockAt_1 => (∀ v1_2 : Int32, v1_2 = (v1 + 1) → V_X2_numberCells_2 i_blocks f_left f_low f_columns f_rows post n v1_2 f_blockAt_1))))) := rfl
def P_X2_numberCells (i_blocks : Int32) (f_left : Nat → Int32) (f_low : Nat → Int32) (f_columns : Nat → Int32) (f_rows : Nat → Int32) (f_blockAt : Nat → Int32) (post : (Nat → Int32) → Prop) : Prop := (∃ k : Nat, V_X2_numberCells_2 i_blocks f_left f_low f_columns f_rows post k 0 f_blockAt)
set_option maxRecDepth 100000 in
set_option maxHeartbeats 4000000 in
theorem c_X2_numberCells (l : Launch) (D : va_G) (cI cB cS : ClassId) (a_this a_left a_low a_columns a_rows a_blockAt a_turn : Nat) (i_blocks : Int32) (i_sawn : Int32) (f_left : Nat → Int32) (f_low : Nat → Int32) (f_columns : Nat → Int32) (f_rows : Nat → Int32) (f_blockAt : Nat → Int32) (post : (Nat → Int32) → Prop) (hV : P_X2_numberCells i_blocks f_left f_low f_columns f_rows f_blockAt post) : Cv l yX2_numberCells cX2_numberCells 2 none rm_X2_numberCells D cI cB cS [.ref a_this] [oc a_this 2 [.int i_blocks, .int i_sawn, .ref a_left, .ref a_low, .ref a_columns, .ref a_rows, .ref a_turn, .ref a_blockAt], ai cI a_left 64 f_left, ai cI a_low 64 f_low, ai cI a_columns 64 f_columns, ai cI a_rows 64 f_rows, ai cI a_blockAt 64 f_blockAt] (fun (u : (Nat → Int32)) => post u) (fun (u : (Nat → Int32)) => [oc a_this 2 [.int i_blocks, .int i_sawn, .ref a_left, .ref a_low, .ref a_columns, .ref a_rows, .ref a_turn, .ref a_blockAt], ai cI a_left 64 f_left, ai cI a_low 64 f_low, ai cI a_columns 64 f_columns, ai cI a_rows 64 f_rows, ai cI a_blockAt 64 u]) := by
  refine Cv.of ok_X2_numberCells (Nat.le_of_ble_eq_true rfl) ?_
  intro p e s m args below meth c A Q hx hb hml hown ht hnm hK hP hA hS hret ls hl
  have hown : s.vm.findClass RX2 = some m.cls := hown
  have FX : CallFix p m c cX2_numberCells 2 s args tblG RX2 := ⟨hx, hb, hml, hown, ht⟩
  have hP : PD D A [oc a_this 2 [.int i_blocks, .int i_sawn, .ref a_left, .ref a_low, .ref a_columns, .ref a_rows, .ref a_turn, .ref a_blockAt], ai cI a_left 64 f_left, ai cI a_low 64 f_low, ai cI a_columns 64 f_columns, ai cI a_rows 64 f_rows, ai cI a_blockAt 64 f_blockAt] s.heap := hP
  have hl : lv_has ls 2 [(0, .ref a_this)] := hl
  unfold P_X2_numberCells at hV
  have b2 : ∀  (k2 : Nat) (v1 : Int32) (f_blockAt : Nat → Int32) (H : Heap) (locs : List Loc) (ls : Array Slot), PD D A [oc a_this 2 [.int i_blocks, .int i_sawn, .ref a_left, .ref a_low, .ref a_columns, .ref a_rows, .ref a_turn, .ref a_blockAt], ai cI a_left 64 f_left, ai cI a_low 64 f_low, ai cI a_columns 64 f_columns, ai cI a_rows 64 f_rows, ai cI a_blockAt 64 f_blockAt] H → va_S A s.heap H locs → lv_has ls 2 [(0, .ref a_this), (1, .int v1)] → V_X2_numberCells_2 i_blocks f_left f_low f_columns f_rows post k2 v1 f_blockAt → W p l e rm_X2_numberCells s m args below meth c H locs 0 0 Q (F0 m 2 ls []) := by
    intro  k2
    induction k2 with
    | zero => intro v1 f_blockAt H locs ls hP hS hl hV; exact False.elim hV
    | succ k2 ih2 =>
      intro v1 f_blockAt H locs ls hP hS hl hV
      rw [V_X2_numberCells_2_s] at hV
      refine lv_iload_n hx hb dX2_numberCells_2 rfl (lv_at hl 1 rfl) ?_
      refine lv_aload_n hx hb dX2_numberCells_3 rfl (lv_at hl 0 rfl) ?_
      refine gX2 hx hb ht hown hK hP 0 rfl 0 (by decide) fl_X2_30 (fun _ h => h) rfl dX2_numberCells_4 ?_
      refine lv_icmp_ge (tgt := 21) hx hb dX2_numberCells_7 (by decide) (fun h => ?_) (fun h => ?_)
      · have hV := hV.1 h
        exact hret _ _ _ _ f_blockAt hS dX2_numberCells_21 hP hV
      · have hV := hV.2 h
        refine lv_aload_n hx hb dX2_numberCells_10 rfl (lv_at hl 0 rfl) ?_
        refine lv_iload_n hx hb dX2_numberCells_11 rfl (lv_at hl 1 rfl) ?_
        refine KVv (As := [.int v1]) (rest := []) FX (c_X2_numberCellsOf l D cI cB cS a_this a_left a_low a_columns a_rows a_blockAt a_turn v1 i_blocks i_sawn f_left f_low f_columns f_rows f_blockAt _ hV) ok_X2_numberCellsOf im_X2_numberCellsOf se_X2_numberCellsOf li_X2_55 dX2_numberCells_12 hK hP hS hA [0, 1, 2, 3, 4, 5] [] 0 rfl rfl rfl (by decide) rfl rfl hl.1 (Nat.le_of_ble_eq_true rfl) ⟨Nat.le_of_ble_eq_true rfl, Nat.le_of_ble_eq_true rfl⟩ ⟨Nat.le_of_ble_eq_true rfl, Nat.le_of_ble_eq_true rfl⟩ (fun f_blockAt_1 H locs hV hP hS => ?_)
        have hP : PD D A [oc a_this 2 [.int i_blocks, .int i_sawn, .ref a_left, .ref a_low, .ref a_columns, .ref a_rows, .ref a_turn, .ref a_blockAt], ai cI a_left 64 f_left, ai cI a_low 64 f_low, ai cI a_columns 64 f_columns, ai cI a_rows 64 f_rows, ai cI a_blockAt 64 f_blockAt_1] H := hP
        obtain ⟨v1_2, e_v1_2⟩ : ∃ y : Int32, y = (v1 + 1) := ⟨_, rfl⟩
        have hV := hV v1_2 e_v1_2
        refine lv_iinc (v := v1_2) (lv' := [(1, .int v1_2), (0, .ref a_this)]) hx hb dX2_numberCells_15 hl (k := 1) rfl (by rw [e_v1_2]; rfl) (by decide) rfl (fun ls hl => ?_)
        refine lv_goto (tgt := 2) hx hb dX2_numberCells_18 (by decide) ?_
        exact ih2 v1_2 f_blockAt_1 _ _ _ hP hS (lv_sub hl [1, 0] rfl) hV
  refine lv_iconst (v := 0) hx hb dX2_numberCells_0 (by decide) ?_
  refine lv_istore_n (lv' := [(1, .int 0), (0, .ref a_this)]) hx hb dX2_numberCells_1 rfl hl (by decide) rfl (fun ls hl => ?_)
  obtain ⟨k, hV⟩ := hV
  exact b2 k 0 f_blockAt _ _ _ hP hS (lv_sub hl [1, 0] rfl) hV

def rm_X2_findTurns : Room := { frames := 1, cells := 0, slots := 0, locals := 21 }
def V_X2_findTurns_14 (x1 : Int32) (v4 : Int32) (f_left : Nat → Int32) (f_low : Nat → Int32) (f_blockAt : Nat → Int32) (K_5 : Int32 → Int32 → (Nat → Int32) → Prop) : Nat → Int32 → Int32 → (Nat → Int32) → Prop
  | 0, _, _, _ => False
  | n + 1, v3, v5, f_turn => ((x1 ≤ v5 → (∀ v4_1 : Int32, v4_1 = (v4 + 1) → K_5 v3 v4_1 f_turn)) ∧ (¬ x1 ≤ v5 → P_X9_place v5 v4 (fun r_2 => (vp_in r_2 64 ∧ (∀ v6_3 : Int32, v6_3 = (f_blockAt r_2.toNatClampNeg) → (vp_in v6_3 64 ∧ (((f_low v6_3.toNatClampNeg) = v4 → (vp_in v6_3 64 ∧ (((f_left v6_3.toNatClampNeg) = v5 → (vp_in v6_3 64 ∧ ∀ f_turn_6 : Nat → Int32, f_turn_6 = upd f_turn v6_3.toNatClampNeg v3 → (∀ v3_7 : Int32, v3_7 = (v3 + 1) → (∀ v5_8 : Int32, v5_8 = (v5 + 1) → V_X2_findTurns_14 x1 v4 f_left f_low f_blockAt K_5 n v3_7 v5_8 f_turn_6)))) ∧ (¬ (f_left v6_3.toNatClampNeg) = v5 → (∀ v5_5 : Int32, v5_5 = (v5 + 1) → V_X2_findTurns_14 x1 v4 f_left f_low f_blockAt K_5 n v3 v5_5 f_turn))))) ∧ (¬ (f_low v6_3.toNatClampNeg) = v4 → (∀ v5_4 : Int32, v5_4 = (v5 + 1) → V_X2_findTurns_14 x1 v4 f_left f_low f_blockAt K_5 n v3 v5_4 f_turn)))))))))
theorem V_X2_findTurns_14_s (x1 : Int32) (v4 : Int32) (f_left : Nat → Int32) (f_low : Nat → Int32) (f_blockAt : Nat → Int32) (K_5 : Int32 → Int32 → (Nat → Int32) → Prop) (n : Nat) (v3 : Int32) (v5 : Int32) (f_turn : Nat → Int32) : V_X2_findTurns_14 x1 v4 f_left f_low f_blockAt K_5 (n + 1) v3 v5 f_turn = (((x1 ≤ v5 → (∀ v4_1 : Int32, v4_1 = (v4 + 1) → K_5 v3 v4_1 f_turn)) ∧ (¬ x1 ≤ v5 → P_X9_place v5 v4 (fun r_2 => (vp_in r_2 64 ∧ (∀ v6_3 : Int32, v6_3 = (f_blockAt r_2.toNatClampNeg) → (vp_in v6_3 64 ∧ (((f_low v6_3.toNatClampNeg) = v4 → (vp_in v6_3 64 ∧ (((f_left v6_3.toNatClampNeg) = v5 → (vp_in v6_3 64 ∧ ∀ f_turn_6 : Nat → Int32, f_turn_6 = upd f_turn v6_3.toNatClampNeg v3 → (∀ v3_7 : Int32, v3_7 = (v3 + 1) → (∀ v5_8 : Int32, v5_8 = (v5 + 1) → V_X2_findTurns_14 x1 v4 f_left f_low f_blockAt K_5 n v3_7 v5_8 f_turn_6)))) ∧ (¬ (f_left v6_3.toNatClampNeg) = v5 → (∀ v5_5 : Int32, v5_5 = (v5 + 1) → V_X2_findTurns_14 x1 v4 f_left f_low f_blockAt K_5 n v3 v5_5 f_turn))))) ∧ (¬ (f_low v6_3.toNatClampNeg) = v4 → (∀ v5_4 : Int32, v5_4 = (v5 + 1) → V_X2_findTurns_14 x1 v4 f_left f_low f_blockAt K_5 n v3 v5_4 f_turn)))))))))) := rfl
def V_X2_findTurns_5 (x1 : Int32) (x2 : Int32) (f_left : Nat → Int32) (f_low : Nat → Int32) (f_blockAt : Nat → Int32) (post : (Nat → Int32) → Prop) : Nat → Int32 → Int32 → (Nat → Int32) → Prop
  | 0, _, _, _ => False
  | n + 1, v3, v4, f_turn => ((x2 ≤ v4 → post f_turn) ∧ (¬ x2 ≤ v4 → (∃ k : Nat, V_X2_findTurns_14 x1 v4 f_left f_low f_blockAt (V_X2_findTurns_5 x1 x2 f_left f_low f_blockAt post n) k v3 0 f_turn)))
theorem V_X2_findTurns_5_s (x1 : Int32) (x2 : Int32) (f_left : Nat → Int32) (f_low : Nat → Int32) (f_blockAt : Nat → Int32) (post : (Nat → Int32) → Prop) (n : Nat) (v3 : Int32) (v4 : Int32) (f_turn : Nat → Int32) : V_X2_findTurns_5 x1 x2 f_left f_low f_blockAt post (n + 1) v3 v4 f_turn = (((x2 ≤ v4 → post f_turn) ∧ (¬ x2 ≤ v4 → (∃ k : Nat, V_X2_findTurns_14 x1 v4 f_left f_low f_blockAt (V_X2_findTurns_5 x1 x2 f_left f_low f_blockAt post n) k v3 0 f_turn)))) := rfl
def P_X2_findTurns (x1 : Int32) (x2 : Int32) (f_left : Nat → Int32) (f_low : Nat → Int32) (f_turn : Nat → Int32) (f_blockAt : Nat → Int32) (post : (Nat → Int32) → Prop) : Prop := (∃ k : Nat, V_X2_findTurns_5 x1 x2 f_left f_low f_blockAt post k 0 0 f_turn)
set_option maxRecDepth 100000 in
set_option maxHeartbeats 4000000 in
theorem c_X2_findTurns (l : Launch) (D : va_G) (cI cB cS : ClassId) (a_this a_left a_low a_turn a_blockAt a_columns a_rows : Nat) (x1 : Int32) (x2 : Int32) (i_blocks : Int32) (i_sawn : Int32) (f_left : Nat → Int32) (f_low : Nat → Int32) (f_turn : Nat → Int32) (f_blockAt : Nat → Int32) (post : (Nat → Int32) → Prop) (hV : P_X2_findTurns x1 x2 f_left f_low f_turn f_blockAt post) : Cv l yX2_findTurns cX2_findTurns 7 none rm_X2_findTurns D cI cB cS [.ref a_this, .int x1, .int x2] [oc a_this 2 [.int i_blocks, .int i_sawn, .ref a_left, .ref a_low, .ref a_columns, .ref a_rows, .ref a_turn, .ref a_blockAt], ai cI a_left 64 f_left, ai cI a_low 64 f_low, ai cI a_turn 64 f_turn, ai cI a_blockAt 64 f_blockAt] (fun (u : (Nat → Int32)) => post u) (fun (u : (Nat → Int32)) => [oc a_this 2 [.int i_blocks, .int i_sawn, .ref a_left, .ref a_low, .ref a_columns, .ref a_rows, .ref a_turn, .ref a_blockAt], ai cI a_left 64 f_left, ai cI a_low 64 f_low, ai cI a_turn 64 u, ai cI a_blockAt 64 f_blockAt]) := by
  refine Cv.of ok_X2_findTurns (Nat.le_of_ble_eq_true rfl) ?_
  intro p e s m args below meth c A Q hx hb hml hown ht hnm hK hP hA hS hret ls hl
  have hown : s.vm.findClass RX2 = some m.cls := hown
  have FX : CallFix p m c cX2_findTurns 7 s args tblG RX2 := ⟨hx, hb, hml, hown, ht⟩
  have hP : PD D A [oc a_this 2 [.int i_blocks, .int i_sawn, .ref a_left, .ref a_low, .ref a_columns, .ref a_rows, .ref a_turn, .ref a_blockAt], ai cI a_left 64 f_left, ai cI a_low 64 f_low, ai cI a_turn 64 f_turn, ai cI a_blockAt 64 f_blockAt] s.heap := hP
  have hl : lv_has ls 7 [(0, .ref a_this), (1, .int x1), (2, .int x2)] := hl
  unfold P_X2_findTurns at hV
  have b5 : ∀  (k5 : Nat) (v3 : Int32) (v4 : Int32) (f_turn : Nat → Int32) (H : Heap) (locs : List Loc) (ls : Array Slot), PD D A [oc a_this 2 [.int i_blocks, .int i_sawn, .ref a_left, .ref a_low, .ref a_columns, .ref a_rows, .ref a_turn, .ref a_blockAt], ai cI a_left 64 f_left, ai cI a_low 64 f_low, ai cI a_turn 64 f_turn, ai cI a_blockAt 64 f_blockAt] H → va_S A s.heap H locs → lv_has ls 7 [(0, .ref a_this), (1, .int x1), (2, .int x2), (3, .int v3), (4, .int v4)] → V_X2_findTurns_5 x1 x2 f_left f_low f_blockAt post k5 v3 v4 f_turn → W p l e rm_X2_findTurns s m args below meth c H locs 0 0 Q (F0 m 5 ls []) := by
    intro  k5
    induction k5 with
    | zero => intro v3 v4 f_turn H locs ls hP hS hl hV; exact False.elim hV
    | succ k5 ih5 =>
      intro v3 v4 f_turn H locs ls hP hS hl hV
      rw [V_X2_findTurns_5_s] at hV
      have b14 : ∀ (v4 : Int32) (k14 : Nat) (v3 : Int32) (v5 : Int32) (f_turn : Nat → Int32) (H : Heap) (locs : List Loc) (ls : Array Slot), PD D A [oc a_this 2 [.int i_blocks, .int i_sawn, .ref a_left, .ref a_low, .ref a_columns, .ref a_rows, .ref a_turn, .ref a_blockAt], ai cI a_left 64 f_left, ai cI a_low 64 f_low, ai cI a_turn 64 f_turn, ai cI a_blockAt 64 f_blockAt] H → va_S A s.heap H locs → lv_has ls 7 [(0, .ref a_this), (1, .int x1), (2, .int x2), (3, .int v3), (4, .int v4), (5, .int v5)] → V_X2_findTurns_14 x1 v4 f_left f_low f_blockAt (V_X2_findTurns_5 x1 x2 f_left f_low f_blockAt post k5) k14 v3 v5 f_turn → W p l e rm_X2_findTurns s m args below meth c H locs 0 0 Q (F0 m 14 ls []) := by
        intro v4 k14
        induction k14 with
        | zero => intro v3 v5 f_turn H locs ls hP hS hl hV; exact False.elim hV
        | succ k14 ih14 =>
          intro v3 v5 f_turn H locs ls hP hS hl hV
          rw [V_X2_findTurns_14_s] at hV
          refine lv_iload hx hb dX2_findTurns_14 (lv_at hl 5 rfl) ?_
          refine lv_iload_n hx hb dX2_findTurns_16 rfl (lv_at hl 1 rfl) ?_
          refine lv_icmp_ge (tgt := 75) hx hb dX2_findTurns_17 (by decide) (fun h => ?_) (fun h => ?_)
          · have hV := hV.1 h
            obtain ⟨v4_1, e_v4_1⟩ : ∃ y : Int32, y = (v4 + 1) := ⟨_, rfl⟩
            have hV := hV v4_1 e_v4_1
            refine lv_iinc (v := v4_1) (lv' := [(4, .int v4_1), (0, .ref a_this), (1, .int x1), (2, .int x2), (3, .int v3), (5, .int v5)]) hx hb dX2_findTurns_75 hl (k := 4) rfl (by rw [e_v4_1]; rfl) (by decide) rfl (fun ls hl => ?_)
            refine lv_goto (tgt := 5) hx hb dX2_findTurns_78 (by decide) ?_
            exact ih5 v3 v4_1 f_turn _ _ _ hP hS (lv_sub hl [1, 2, 3, 4, 0] rfl) hV
          · have hV := hV.2 h
            refine lv_aload_n hx hb dX2_findTurns_20 rfl (lv_at hl 0 rfl) ?_
            refine gX2 hx hb ht hown hK hP 0 rfl 7 (by decide) fl_X2_27 (fun _ h => h) rfl dX2_findTurns_21 ?_
            refine lv_iload hx hb dX2_findTurns_24 (lv_at hl 5 rfl) ?_
            refine lv_iload hx hb dX2_findTurns_26 (lv_at hl 4 rfl) ?_
            refine KNi (As := [.int v5, .int v4]) (rest := [.ref a_blockAt]) FX (c_X9_place l D cI cB cS v5 v4 _ hV) ok_X9_place is_X9_place nq_X2_58 dX2_findTurns_28 hK hP hS hA [] [0, 1, 2, 3, 4] rfl rfl (by decide) rfl hl.1 (Nat.le_of_ble_eq_true rfl) ⟨Nat.le_of_ble_eq_true rfl, Nat.le_of_ble_eq_true rfl⟩ ⟨Nat.le_of_ble_eq_true rfl, Nat.le_of_ble_eq_true rfl⟩ (fun r_2 _ H locs hV hP hS => ?_)
            have hP : PD D A [oc a_this 2 [.int i_blocks, .int i_sawn, .ref a_left, .ref a_low, .ref a_columns, .ref a_rows, .ref a_turn, .ref a_blockAt], ai cI a_left 64 f_left, ai cI a_low 64 f_low, ai cI a_turn 64 f_turn, ai cI a_blockAt 64 f_blockAt] H := hP
            refine ild hx hb hK hP 4 rfl dX2_findTurns_31 hV.1 ?_
            have hV := hV.2
            refine lv_topi (fun v6_3 e_v6_3 => ?_)
            have hV := hV v6_3 e_v6_3
            refine lv_istore (lv' := [(6, .int v6_3), (0, .ref a_this), (1, .int x1), (2, .int x2), (3, .int v3), (4, .int v4), (5, .int v5)]) hx hb dX2_findTurns_32 hl (by decide) rfl (fun ls hl => ?_)
            refine lv_aload_n hx hb dX2_findTurns_34 rfl (lv_at hl 1 rfl) ?_
            refine gX2 hx hb ht hown hK hP 0 rfl 3 (by decide) fl_X2_15 (fun _ h => h) rfl dX2_findTurns_35 ?_
            refine lv_iload hx hb dX2_findTurns_38 (lv_at hl 0 rfl) ?_
            refine ild hx hb hK hP 2 rfl dX2_findTurns_40 hV.1 ?_
            have hV := hV.2
            refine lv_iload hx hb dX2_findTurns_41 (lv_at hl 5 rfl) ?_
            refine lv_icmp_ne (tgt := 69) hx hb dX2_findTurns_43 (by decide) (fun h => ?_) (fun h => ?_)
            · have hV := hV.2 h
              obtain ⟨v5_4, e_v5_4⟩ : ∃ y : Int32, y = (v5 + 1) := ⟨_, rfl⟩
              have hV := hV v5_4 e_v5_4
              refine lv_iinc (v := v5_4) (lv' := [(5, .int v5_4), (6, .int v6_3), (0, .ref a_this), (1, .int x1), (2, .int x2), (3, .int v3), (4, .int v4)]) hx hb dX2_findTurns_69 hl (k := 6) rfl (by rw [e_v5_4]; rfl) (by decide) rfl (fun ls hl => ?_)
              refine lv_goto (tgt := 14) hx hb dX2_findTurns_72 (by decide) ?_
              exact ih14 v3 v5_4 f_turn _ _ _ hP hS (lv_sub hl [2, 3, 4, 5, 6, 0] rfl) hV
            · have hV := hV.1 h
              refine lv_aload_n hx hb dX2_findTurns_46 rfl (lv_at hl 1 rfl) ?_
              refine gX2 hx hb ht hown hK hP 0 rfl 2 (by decide) fl_X2_9 (fun _ h => h) rfl dX2_findTurns_47 ?_
              refine lv_iload hx hb dX2_findTurns_50 (lv_at hl 0 rfl) ?_
              refine ild hx hb hK hP 1 rfl dX2_findTurns_52 hV.1 ?_
              have hV := hV.2
              refine lv_iload hx hb dX2_findTurns_53 (lv_at hl 6 rfl) ?_
              refine lv_icmp_ne (tgt := 69) hx hb dX2_findTurns_55 (by decide) (fun h => ?_) (fun h => ?_)
              · have hV := hV.2 h
                obtain ⟨v5_5, e_v5_5⟩ : ∃ y : Int32, y = (v5 + 1) := ⟨_, rfl⟩
                have hV := hV v5_5 e_v5_5
                refine lv_iinc (v := v5_5) (lv' := [(5, .int v5_5), (6, .int v6_3), (0, .ref a_this), (1, .int x1), (2, .int x2), (3, .int v3), (4, .int v4)]) hx hb dX2_findTurns_69 hl (k := 6) rfl (by rw [e_v5_5]; rfl) (by decide) rfl (fun ls hl => ?_)
                refine lv_goto (tgt := 14) hx hb dX2_findTurns_72 (by decide) ?_
                exact ih14 v3 v5_5 f_turn _ _ _ hP hS (lv_sub hl [2, 3, 4, 5, 6, 0] rfl) hV
              · have hV := hV.1 h
                refine lv_aload_n hx hb dX2_findTurns_58 rfl (lv_at hl 1 rfl) ?_
                refine gX2 hx hb ht hown hK hP 0 rfl 6 (by decide) fl_X2_24 (fun _ h => h) rfl dX2_findTurns_59 ?_
                refine lv_iload hx hb dX2_findTurns_62 (lv_at hl 0 rfl) ?_
                refine lv_iload_n hx hb dX2_findTurns_64 rfl (lv_at hl 4 rfl) ?_
                refine ist hx hb hK hP hS 3 rfl dX2_findTurns_65 hV.1 (fun f_turn_6 e_f_turn_6 H locs hP hS => ?_)
                have hV := hV.2 f_turn_6 e_f_turn_6
                have hP : PD D A [oc a_this 2 [.int i_blocks, .int i_sawn, .ref a_left, .ref a_low, .ref a_columns, .ref a_rows, .ref a_turn, .ref a_blockAt], ai cI a_left 64 f_left, ai cI a_low 64 f_low, ai cI a_turn 64 f_turn_6, ai cI a_blockAt 64 f_blockAt] H := hP
                obtain ⟨v3_7, e_v3_7⟩ : ∃ y : Int32, y = (v3 + 1) := ⟨_, rfl⟩
                have hV := hV v3_7 e_v3_7
                refine lv_iinc (v := v3_7) (lv' := [(3, .int v3_7), (6, .int v6_3), (0, .ref a_this), (1, .int x1), (2, .int x2), (4, .int v4), (5, .int v5)]) hx hb dX2_findTurns_66 hl (k := 4) rfl (by rw [e_v3_7]; rfl) (by decide) rfl (fun ls hl => ?_)
                obtain ⟨v5_8, e_v5_8⟩ : ∃ y : Int32, y = (v5 + 1) := ⟨_, rfl⟩
                have hV := hV v5_8 e_v5_8
                refine lv_iinc (v := v5_8) (lv' := [(5, .int v5_8), (3, .int v3_7), (6, .int v6_3), (0, .ref a_this), (1, .int x1), (2, .int x2), (4, .int v4)]) hx hb dX2_findTurns_69 hl (k := 6) rfl (by rw [e_v5_8]; rfl) (by decide) rfl (fun ls hl => ?_)
                refine lv_goto (tgt := 14) hx hb dX2_findTurns_72 (by decide) ?_
                exact ih14 v3_7 v5_8 f_turn_6 _ _ _ hP hS (lv_sub hl [3, 4, 5, 1, 6, 0] rfl) hV
      refine lv_iload hx hb dX2_findTurns_5 (lv_at hl 4 rfl) ?_
      refine lv_iload_n hx hb dX2_findTurns_7 rfl (lv_at hl 2 rfl) ?_
      refine lv_icmp_ge (tgt := 81) hx hb dX2_findTurns_8 (by decide) (fun h => ?_) (fun h => ?_)
      · have hV := hV.1 h
        exact hret _ _ _ _ f_turn hS dX2_findTurns_81 hP hV
      · have hV := hV.2 h
        refine lv_iconst (v := 0) hx hb dX2_findTurns_11 (by decide) ?_
        refine lv_istore (lv' := [(5, .int 0), (0, .ref a_this), (1, .int x1), (2, .int x2), (3, .int v3), (4, .int v4)]) hx hb dX2_findTurns_12 hl (by decide) rfl (fun ls hl => ?_)
        obtain ⟨k, hV⟩ := hV
        exact b14 v4 k v3 0 f_turn _ _ _ hP hS (lv_sub hl [1, 2, 3, 4, 5, 0] rfl) hV
  refine lv_iconst (v := 0) hx hb dX2_findTurns_0 (by decide) ?_
  refine lv_istore_n (lv' := [(3, .int 0), (0, .ref a_this), (1, .int x1), (2, .int x2)]) hx hb dX2_findTurns_1 rfl hl (by decide) rfl (fun ls hl => ?_)
  refine lv_iconst (v := 0) hx hb dX2_findTurns_2 (by decide) ?_
  refine lv_istore (lv' := [(4, .int 0), (3, .int 0), (0, .ref a_this), (1, .int x1), (2, .int x2)]) hx hb dX2_findTurns_3 hl (by decide) rfl (fun ls hl => ?_)
  obtain ⟨k, hV⟩ := hV
  exact b5 k 0 0 f_turn _ _ _ hP hS (lv_sub hl [2, 3, 4, 1, 0] rfl) hV

def rm_X2_has : Room := { frames := 1, cells := 0, slots := 0, locals := 22 }
def P_X2_has (x1 : Int32) (i_blocks : Int32) (post : Int32 → Prop) : Prop := P_X9_within x1 0 (i_blocks - 1) (fun r_1 => ((r_1 = 0 ∨ r_1 = 1) ∧ post r_1))
set_option maxRecDepth 100000 in
set_option maxHeartbeats 4000000 in
theorem c_X2_has (l : Launch) (D : va_G) (cI cB cS : ClassId) (a_this a_left a_low a_columns a_rows a_turn a_blockAt : Nat) (x1 : Int32) (i_blocks : Int32) (i_sawn : Int32) (post : Int32 → Prop) (hV : P_X2_has x1 i_blocks post) : Ci l yX2_has cX2_has 2 (some .boolean) rm_X2_has D cI cB cS [.ref a_this, .int x1] [oc a_this 2 [.int i_blocks, .int i_sawn, .ref a_left, .ref a_low, .ref a_columns, .ref a_rows, .ref a_turn, .ref a_blockAt]] (fun r (_ : Unit) => post r) (fun (_ : Unit) => [oc a_this 2 [.int i_blocks, .int i_sawn, .ref a_left, .ref a_low, .ref a_columns, .ref a_rows, .ref a_turn, .ref a_blockAt]]) := by
  refine Cz.of ok_X2_has (Nat.le_of_ble_eq_true rfl) ?_
  intro p e s m args below meth c A Q hx hb hml hown ht hnm hK hP hA hS hret ls hl
  have hown : s.vm.findClass RX2 = some m.cls := hown
  have FX : CallFix p m c cX2_has 2 s args tblG RX2 := ⟨hx, hb, hml, hown, ht⟩
  have hP : PD D A [oc a_this 2 [.int i_blocks, .int i_sawn, .ref a_left, .ref a_low, .ref a_columns, .ref a_rows, .ref a_turn, .ref a_blockAt]] s.heap := hP
  have hl : lv_has ls 2 [(0, .ref a_this), (1, .int x1)] := hl
  unfold P_X2_has at hV
  refine lv_iload_n hx hb dX2_has_0 rfl (lv_at hl 1 rfl) ?_
  refine lv_iconst (v := 0) hx hb dX2_has_1 (by decide) ?_
  refine lv_aload_n hx hb dX2_has_2 rfl (lv_at hl 0 rfl) ?_
  refine gX2 hx hb ht hown hK hP 0 rfl 0 (by decide) fl_X2_30 (fun _ h => h) rfl dX2_has_3 ?_
  refine lv_iconst (v := 1) hx hb dX2_has_6 (by decide) ?_
  refine lv_isub hx hb dX2_has_7 ?_
  refine KNi (As := [.int x1, .int 0, .int (i_blocks - 1)]) (rest := []) FX (c_X9_within l D cI cB cS x1 0 (i_blocks - 1) _ hV) ok_X9_within is_X9_within nq_X2_37 dX2_has_8 hK hP hS hA [] [0] rfl rfl (by decide) rfl hl.1 (Nat.le_of_ble_eq_true rfl) ⟨Nat.le_of_ble_eq_true rfl, Nat.le_of_ble_eq_true rfl⟩ ⟨Nat.le_of_ble_eq_true rfl, Nat.le_of_ble_eq_true rfl⟩ (fun r_1 _ H locs hV hP hS => ?_)
  have hP : PD D A [oc a_this 2 [.int i_blocks, .int i_sawn, .ref a_left, .ref a_low, .ref a_columns, .ref a_rows, .ref a_turn, .ref a_blockAt]] H := hP
  exact hret _ _ _ _ _ () hS dX2_has_11 hP hV.1 hV.2

def rm_X2_isAbove : Room := { frames := 0, cells := 0, slots := 0, locals := 0 }
def P_X2_isAbove (x1 : Int32) (x2 : Int32) (f_left : Nat → Int32) (f_low : Nat → Int32) (f_columns : Nat → Int32) (f_rows : Nat → Int32) (post : Int32 → Prop) : Prop := (vp_in x1 64 ∧ (vp_in x2 64 ∧ (vp_in x2 64 ∧ (((f_low x1.toNatClampNeg) = ((f_low x2.toNatClampNeg) + (f_rows x2.toNatClampNeg)) → (vp_in x1 64 ∧ (vp_in x2 64 ∧ (vp_in x2 64 ∧ ((((f_left x2.toNatClampNeg) + (f_columns x2.toNatClampNeg)) ≤ (f_left x1.toNatClampNeg) → post 0) ∧ (¬ ((f_left x2.toNatClampNeg) + (f_columns x2.toNatClampNeg)) ≤ (f_left x1.toNatClampNeg) → (vp_in x2 64 ∧ (vp_in x1 64 ∧ (vp_in x1 64 ∧ ((((f_left x1.toNatClampNeg) + (f_columns x1.toNatClampNeg)) ≤ (f_left x2.toNatClampNeg) → post 0) ∧ (¬ ((f_left x1.toNatClampNeg) + (f_columns x1.toNatClampNeg)) ≤ (f_left x2.toNatClampNeg) → post 1))))))))))) ∧ (¬ (f_low x1.toNatClampNeg) = ((f_low x2.toNatClampNeg) + (f_rows x2.toNatClampNeg)) → post 0)))))
set_option maxRecDepth 100000 in
set_option maxHeartbeats 4000000 in
theorem c_X2_isAbove (l : Launch) (D : va_G) (cI cB cS : ClassId) (a_this a_left a_low a_columns a_rows a_turn a_blockAt : Nat) (x1 : Int32) (x2 : Int32) (i_blocks : Int32) (i_sawn : Int32) (f_left : Nat → Int32) (f_low : Nat → Int32) (f_columns : Nat → Int32) (f_rows : Nat → Int32) (post : Int32 → Prop) (hV : P_X2_isAbove x1 x2 f_left f_low f_columns f_rows post) : Ci l yX2_isAbove cX2_isAbove 3 (some .boolean) rm_X2_isAbove D cI cB cS [.ref a_this, .int x1, .int x2] [oc a_this 2 [.int i_blocks, .int i_sawn, .ref a_left, .ref a_low, .ref a_columns, .ref a_rows, .ref a_turn, .ref a_blockAt], ai cI a_left 64 f_left, ai cI a_low 64 f_low, ai cI a_columns 64 f_columns, ai cI a_rows 64 f_rows] (fun r (_ : Unit) => post r) (fun (_ : Unit) => [oc a_this 2 [.int i_blocks, .int i_sawn, .ref a_left, .ref a_low, .ref a_columns, .ref a_rows, .ref a_turn, .ref a_blockAt], ai cI a_left 64 f_left, ai cI a_low 64 f_low, ai cI a_columns 64 f_columns, ai cI a_rows 64 f_rows]) := by
  refine Cz.of ok_X2_isAbove (Nat.le_of_ble_eq_true rfl) ?_
  intro p e s m args below meth c A Q hx hb hml hown ht hnm hK hP hA hS hret ls hl
  have hown : s.vm.findClass RX2 = some m.cls := hown
  have FX : CallFix p m c cX2_isAbove 3 s args tblG RX2 := ⟨hx, hb, hml, hown, ht⟩
  have hP : PD D A [oc a_this 2 [.int i_blocks, .int i_sawn, .ref a_left, .ref a_low, .ref a_columns, .ref a_rows, .ref a_turn, .ref a_blockAt], ai cI a_left 64 f_left, ai cI a_low 64 f_low, ai cI a_columns 64 f_columns, ai cI a_rows 64 f_rows] s.heap := hP
  have hl : lv_has ls 3 [(0, .ref a_this), (1, .int x1), (2, .int x2)] := hl
  unfold P_X2_isAbove at hV
  refine lv_aload_n hx hb dX2_isAbove_0 rfl (lv_at hl 0 rfl) ?_
  refine gX2 hx hb ht hown hK hP 0 rfl 3 (by decide) fl_X2_15 (fun _ h => h) rfl dX2_isAbove_1 ?_
  refine lv_iload_n hx hb dX2_isAbove_4 rfl (lv_at hl 1 rfl) ?_
  refine ild hx hb hK hP 2 rfl dX2_isAbove_5 hV.1 ?_
  have hV := hV.2
  refine lv_aload_n hx hb dX2_isAbove_6 rfl (lv_at hl 0 rfl) ?_
  refine gX2 hx hb ht hown hK hP 0 rfl 3 (by decide) fl_X2_15 (fun _ h => h) rfl dX2_isAbove_7 ?_
  refine lv_iload_n hx hb dX2_isAbove_10 rfl (lv_at hl 2 rfl) ?_
  refine ild hx hb hK hP 2 rfl dX2_isAbove_11 hV.1 ?_
  have hV := hV.2
  refine lv_aload_n hx hb dX2_isAbove_12 rfl (lv_at hl 0 rfl) ?_
  refine gX2 hx hb ht hown hK hP 0 rfl 5 (by decide) fl_X2_21 (fun _ h => h) rfl dX2_isAbove_13 ?_
  refine lv_iload_n hx hb dX2_isAbove_16 rfl (lv_at hl 2 rfl) ?_
  refine ild hx hb hK hP 4 rfl dX2_isAbove_17 hV.1 ?_
  have hV := hV.2
  refine lv_iadd hx hb dX2_isAbove_18 ?_
  refine lv_icmp_ne (tgt := 70) hx hb dX2_isAbove_19 (by decide) (fun h => ?_) (fun h => ?_)
  · have hV := hV.2 h
    refine lv_iconst (v := 0) hx hb dX2_isAbove_70 (by decide) ?_
    exact hret _ _ _ _ _ () hS dX2_isAbove_71 hP (by decide) hV
  · have hV := hV.1 h
    refine lv_aload_n hx hb dX2_isAbove_22 rfl (lv_at hl 0 rfl) ?_
    refine gX2 hx hb ht hown hK hP 0 rfl 2 (by decide) fl_X2_9 (fun _ h => h) rfl dX2_isAbove_23 ?_
    refine lv_iload_n hx hb dX2_isAbove_26 rfl (lv_at hl 1 rfl) ?_
    refine ild hx hb hK hP 1 rfl dX2_isAbove_27 hV.1 ?_
    have hV := hV.2
    refine lv_aload_n hx hb dX2_isAbove_28 rfl (lv_at hl 0 rfl) ?_
    refine gX2 hx hb ht hown hK hP 0 rfl 2 (by decide) fl_X2_9 (fun _ h => h) rfl dX2_isAbove_29 ?_
    refine lv_iload_n hx hb dX2_isAbove_32 rfl (lv_at hl 2 rfl) ?_
    refine ild hx hb hK hP 1 rfl dX2_isAbove_33 hV.1 ?_
    have hV := hV.2
    refine lv_aload_n hx hb dX2_isAbove_34 rfl (lv_at hl 0 rfl) ?_
    refine gX2 hx hb ht hown hK hP 0 rfl 4 (by decide) fl_X2_18 (fun _ h => h) rfl dX2_isAbove_35 ?_
    refine lv_iload_n hx hb dX2_isAbove_38 rfl (lv_at hl 2 rfl) ?_
    refine ild hx hb hK hP 3 rfl dX2_isAbove_39 hV.1 ?_
    have hV := hV.2
    refine lv_iadd hx hb dX2_isAbove_40 ?_
    refine lv_icmp_ge (tgt := 70) hx hb dX2_isAbove_41 (by decide) (fun h => ?_) (fun h => ?_)
    · have hV := hV.1 h
      refine lv_iconst (v := 0) hx hb dX2_isAbove_70 (by decide) ?_
      exact hret _ _ _ _ _ () hS dX2_isAbove_71 hP (by decide) hV
    · have hV := hV.2 h
      refine lv_aload_n hx hb dX2_isAbove_44 rfl (lv_at hl 0 rfl) ?_
      refine gX2 hx hb ht hown hK hP 0 rfl 2 (by decide) fl_X2_9 (fun _ h => h) rfl dX2_isAbove_45 ?_
      refine lv_iload_n hx hb dX2_isAbove_48 rfl (lv_at hl 2 rfl) ?_
      refine ild hx hb hK hP 1 rfl dX2_isAbove_49 hV.1 ?_
      have hV := hV.2
      refine lv_aload_n hx hb dX2_isAbove_50 rfl (lv_at hl 0 rfl) ?_
      refine gX2 hx hb ht hown hK hP 0 rfl 2 (by decide) fl_X2_9 (fun _ h => h) rfl dX2_isAbove_51 ?_
      refine lv_iload_n hx hb dX2_isAbove_54 rfl (lv_at hl 1 rfl) ?_
      refine ild hx hb hK hP 1 rfl dX2_isAbove_55 hV.1 ?_
      have hV := hV.2
      refine lv_aload_n hx hb dX2_isAbove_56 rfl (lv_at hl 0 rfl) ?_
      refine gX2 hx hb ht hown hK hP 0 rfl 4 (by decide) fl_X2_18 (fun _ h => h) rfl dX2_isAbove_57 ?_
      refine lv_iload_n hx hb dX2_isAbove_60 rfl (lv_at hl 1 rfl) ?_
      refine ild hx hb hK hP 3 rfl dX2_isAbove_61 hV.1 ?_
      have hV := hV.2
      refine lv_iadd hx hb dX2_isAbove_62 ?_
      refine lv_icmp_ge (tgt := 70) hx hb dX2_isAbove_63 (by decide) (fun h => ?_) (fun h => ?_)
      · have hV := hV.1 h
        refine lv_iconst (v := 0) hx hb dX2_isAbove_70 (by decide) ?_
        exact hret _ _ _ _ _ () hS dX2_isAbove_71 hP (by decide) hV
      · have hV := hV.2 h
        refine lv_iconst (v := 1) hx hb dX2_isAbove_66 (by decide) ?_
        refine lv_goto (tgt := 71) hx hb dX2_isAbove_67 (by decide) ?_
        exact hret _ _ _ _ _ () hS dX2_isAbove_71 hP (by decide) hV

def rm_X2_become : Room := { frames := 2, cells := 0, slots := 0, locals := 39 }
def P_X2_become (f_left : Nat → Int32) (f_low : Nat → Int32) (f_columns : Nat → Int32) (f_rows : Nat → Int32) (f_turn : Nat → Int32) (f_blockAt : Nat → Int32) (i_p1_blocks : Int32) (i_p1_sawn : Int32) (f_p1_left : Nat → Int32) (f_p1_low : Nat → Int32) (f_p1_columns : Nat → Int32) (f_p1_rows : Nat → Int32) (f_p1_turn : Nat → Int32) (f_p1_blockAt : Nat → Int32) (post : Int32 → Int32 → (Nat → Int32) → (Nat → Int32) → (Nat → Int32) → (Nat → Int32) → (Nat → Int32) → (Nat → Int32) → Prop) : Prop := P_X9_copyRow 64 64 f_p1_left f_left (fun f_left_1 => P_X9_copyRow 64 64 f_p1_low f_low (fun f_low_2 => P_X9_copyRow 64 64 f_p1_columns f_columns (fun f_columns_3 => P_X9_copyRow 64 64 f_p1_rows f_rows (fun f_rows_4 => P_X9_copyRow 64 64 f_p1_turn f_turn (fun f_turn_5 => P_X9_copyRow 64 64 f_p1_blockAt f_blockAt (fun f_blockAt_6 => post i_p1_blocks i_p1_sawn f_left_1 f_low_2 f_columns_3 f_rows_4 f_turn_5 f_blockAt_6))))))
set_option maxRecDepth 100000 in
set_option maxHeartbeats 4000000 in
theorem c_X2_become (l : Launch) (D : va_G) (cI cB cS : ClassId) (a_this a_left a_low a_columns a_rows a_turn a_blockAt a_p1 a_p1_left a_p1_low a_p1_columns a_p1_rows a_p1_turn a_p1_blockAt : Nat) (i_blocks : Int32) (i_sawn : Int32) (f_left : Nat → Int32) (f_low : Nat → Int32) (f_columns : Nat → Int32) (f_rows : Nat → Int32) (f_turn : Nat → Int32) (f_blockAt : Nat → Int32) (i_p1_blocks : Int32) (i_p1_sawn : Int32) (f_p1_left : Nat → Int32) (f_p1_low : Nat → Int32) (f_p1_columns : Nat → Int32) (f_p1_rows : Nat → Int32) (f_p1_turn : Nat → Int32) (f_p1_blockAt : Nat → Int32) (post : Int32 → Int32 → (Nat → Int32) → (Nat → Int32) → (Nat → Int32) → (Nat → Int32) → (Nat → Int32) → (Nat → Int32) → Prop) (hV : P_X2_become f_left f_low f_columns f_rows f_turn f_blockAt i_p1_blocks i_p1_sawn f_p1_left f_p1_low f_p1_columns f_p1_rows f_p1_turn f_p1_blockAt post) : Cv l yX2_become cX2_become 2 none rm_X2_become D cI cB cS [.ref a_this, .ref a_p1] [oc a_this 2 [.int i_blocks, .int i_sawn, .ref a_left, .ref a_low, .ref a_columns, .ref a_rows, .ref a_turn, .ref a_blockAt], ai cI a_left 64 f_left, ai cI a_low 64 f_low, ai cI a_columns 64 f_columns, ai cI a_rows 64 f_rows, ai cI a_turn 64 f_turn, ai cI a_blockAt 64 f_blockAt, oc a_p1 2 [.int i_p1_blocks, .int i_p1_sawn, .ref a_p1_left, .ref a_p1_low, .ref a_p1_columns, .ref a_p1_rows, .ref a_p1_turn, .ref a_p1_blockAt], ai cI a_p1_left 64 f_p1_left, ai cI a_p1_low 64 f_p1_low, ai cI a_p1_columns 64 f_p1_columns, ai cI a_p1_rows 64 f_p1_rows, ai cI a_p1_turn 64 f_p1_turn, ai cI a_p1_blockAt 64 f_p1_blockAt] (fun (u : Int32 × Int32 × (Nat → Int32) × (Nat → Int32) × (Nat → Int32) × (Nat → Int32) × (Nat → Int32) × (Nat → Int32)) => post u.1 u.2.1 u.2.2.1 u.2.2.2.1 u.2.2.2.2.1 u.2.2.2.2.2.1 u.2.2.2.2.2.2.1 u.2.2.2.2.2.2.2) (fun (u : Int32 × Int32 × (Nat → Int32) × (Nat → Int32) × (Nat → Int32) × (Nat → Int32) × (Nat → Int32) × (Nat → Int32)) => [oc a_this 2 [.int u.1, .int u.2.1, .ref a_left, .ref a_low, .ref a_columns, .ref a_rows, .ref a_turn, .ref a_blockAt], ai cI a_left 64 (u.2.2.1), ai cI a_low 64 (u.2.2.2.1), ai cI a_columns 64 (u.2.2.2.2.1), ai cI a_rows 64 (u.2.2.2.2.2.1), ai cI a_turn 64 (u.2.2.2.2.2.2.1), ai cI a_blockAt 64 (u.2.2.2.2.2.2.2), oc a_p1 2 [.int i_p1_blocks, .int i_p1_sawn, .ref a_p1_left, .ref a_p1_low, .ref a_p1_columns, .ref a_p1_rows, .ref a_p1_turn, .ref a_p1_blockAt], ai cI a_p1_left 64 f_p1_left, ai cI a_p1_low 64 f_p1_low, ai cI a_p1_columns 64 f_p1_columns, ai cI a_p1_rows 64 f_p1_rows, ai cI a_p1_turn 64 f_p1_turn, ai cI a_p1_blockAt 64 f_p1_blockAt]) := by
  refine Cv.of ok_X2_become (Nat.le_of_ble_eq_true rfl) ?_
  intro p e s m args below meth c A Q hx hb hml hown ht hnm hK hP hA hS hret ls hl
  have hown : s.vm.findClass RX2 = some m.cls := hown
  have FX : CallFix p m c cX2_become 2 s args tblG RX2 := ⟨hx, hb, hml, hown, ht⟩
  have hP : PD D A [oc a_this 2 [.int i_blocks, .int i_sawn, .ref a_left, .ref a_low, .ref a_columns, .ref a_rows, .ref a_turn, .ref a_blockAt], ai cI a_left 64 f_left, ai cI a_low 64 f_low, ai cI a_columns 64 f_columns, ai cI a_rows 64 f_rows, ai cI a_turn 64 f_turn, ai cI a_blockAt 64 f_blockAt, oc a_p1 2 [.int i_p1_blocks, .int i_p1_sawn, .ref a_p1_left, .ref a_p1_low, .ref a_p1_columns, .ref a_p1_rows, .ref a_p1_turn, .ref a_p1_blockAt], ai cI a_p1_left 64 f_p1_left, ai cI a_p1_low 64 f_p1_low, ai cI a_p1_columns 64 f_p1_columns, ai cI a_p1_rows 64 f_p1_rows, ai cI a_p1_turn 64 f_p1_turn, ai cI a_p1_blockAt 64 f_p1_blockAt] s.heap := hP
  have hl : lv_has ls 2 [(0, .ref a_this), (1, .ref a_p1)] := hl
  unfold P_X2_become at hV
  refine lv_aload_n hx hb dX2_become_0 rfl (lv_at hl 0 rfl) ?_
  refine lv_aload_n hx hb dX2_become_1 rfl (lv_at hl 1 rfl) ?_
  refine gX2 hx hb ht hown hK hP 7 rfl 0 (by decide) fl_X2_30 (fun _ h => h) rfl dX2_become_2 ?_
  refine pX2 hx hb ht hown hK hP hS 0 rfl 0 (by decide) fl_X2_30 (fun _ h => h) rfl (tyX2_ok 0 (by decide)) rfl rfl (Nat.le_of_ble_eq_true rfl) dX2_become_5 (fun H locs hP hS => ?_)
  have hP : PD D A [oc a_this 2 [.int i_p1_blocks, .int i_sawn, .ref a_left, .ref a_low, .ref a_columns, .ref a_rows, .ref a_turn, .ref a_blockAt], ai cI a_left 64 f_left, ai cI a_low 64 f_low, ai cI a_columns 64 f_columns, ai cI a_rows 64 f_rows, ai cI a_turn 64 f_turn, ai cI a_blockAt 64 f_blockAt, oc a_p1 2 [.int i_p1_blocks, .int i_p1_sawn, .ref a_p1_left, .ref a_p1_low, .ref a_p1_columns, .ref a_p1_rows, .ref a_p1_turn, .ref a_p1_blockAt], ai cI a_p1_left 64 f_p1_left, ai cI a_p1_low 64 f_p1_low, ai cI a_p1_columns 64 f_p1_columns, ai cI a_p1_rows 64 f_p1_rows, ai cI a_p1_turn 64 f_p1_turn, ai cI a_p1_blockAt 64 f_p1_blockAt] H := hP
  refine lv_aload_n hx hb dX2_become_8 rfl (lv_at hl 0 rfl) ?_
  refine lv_aload_n hx hb dX2_become_9 rfl (lv_at hl 1 rfl) ?_
  refine gX2 hx hb ht hown hK hP 7 rfl 1 (by decide) fl_X2_34 (fun _ h => h) rfl dX2_become_10 ?_
  refine pX2 hx hb ht hown hK hP hS 0 rfl 1 (by decide) fl_X2_34 (fun _ h => h) rfl (tyX2_ok 1 (by decide)) rfl rfl (Nat.le_of_ble_eq_true rfl) dX2_become_13 (fun H locs hP hS => ?_)
  have hP : PD D A [oc a_this 2 [.int i_p1_blocks, .int i_p1_sawn, .ref a_left, .ref a_low, .ref a_columns, .ref a_rows, .ref a_turn, .ref a_blockAt], ai cI a_left 64 f_left, ai cI a_low 64 f_low, ai cI a_columns 64 f_columns, ai cI a_rows 64 f_rows, ai cI a_turn 64 f_turn, ai cI a_blockAt 64 f_blockAt, oc a_p1 2 [.int i_p1_blocks, .int i_p1_sawn, .ref a_p1_left, .ref a_p1_low, .ref a_p1_columns, .ref a_p1_rows, .ref a_p1_turn, .ref a_p1_blockAt], ai cI a_p1_left 64 f_p1_left, ai cI a_p1_low 64 f_p1_low, ai cI a_p1_columns 64 f_p1_columns, ai cI a_p1_rows 64 f_p1_rows, ai cI a_p1_turn 64 f_p1_turn, ai cI a_p1_blockAt 64 f_p1_blockAt] H := hP
  refine lv_aload_n hx hb dX2_become_16 rfl (lv_at hl 1 rfl) ?_
  refine gX2 hx hb ht hown hK hP 7 rfl 2 (by decide) fl_X2_9 (fun _ h => h) rfl dX2_become_17 ?_
  refine lv_aload_n hx hb dX2_become_20 rfl (lv_at hl 0 rfl) ?_
  refine gX2 hx hb ht hown hK hP 0 rfl 2 (by decide) fl_X2_9 (fun _ h => h) rfl dX2_become_21 ?_
  refine KNv (As := [.ref a_p1_left, .ref a_left]) (rest := []) FX (c_X9_copyRow l D cI cB cS a_p1_left a_left 64 64 f_p1_left f_left _ hV) ok_X9_copyRow is_X9_copyRow nq_X2_62 dX2_become_24 hK hP hS hA [8, 1] [0, 2, 3, 4, 5, 6, 7, 9, 10, 11, 12, 13] rfl rfl (by decide) rfl hl.1 (Nat.le_of_ble_eq_true rfl) ⟨Nat.le_of_ble_eq_true rfl, Nat.le_of_ble_eq_true rfl⟩ ⟨Nat.le_of_ble_eq_true rfl, Nat.le_of_ble_eq_true rfl⟩ (fun f_left_1 H locs hV hP hS => ?_)
  have hP : PD D A [oc a_this 2 [.int i_p1_blocks, .int i_p1_sawn, .ref a_left, .ref a_low, .ref a_columns, .ref a_rows, .ref a_turn, .ref a_blockAt], ai cI a_low 64 f_low, ai cI a_columns 64 f_columns, ai cI a_rows 64 f_rows, ai cI a_turn 64 f_turn, ai cI a_blockAt 64 f_blockAt, oc a_p1 2 [.int i_p1_blocks, .int i_p1_sawn, .ref a_p1_left, .ref a_p1_low, .ref a_p1_columns, .ref a_p1_rows, .ref a_p1_turn, .ref a_p1_blockAt], ai cI a_p1_low 64 f_p1_low, ai cI a_p1_columns 64 f_p1_columns, ai cI a_p1_rows 64 f_p1_rows, ai cI a_p1_turn 64 f_p1_turn, ai cI a_p1_blockAt 64 f_p1_blockAt, ai cI a_p1_left 64 f_p1_left, ai cI a_left 64 f_left_1] H := hP
  refine lv_aload_n hx hb dX2_become_27 rfl (lv_at hl 1 rfl) ?_
  refine gX2 hx hb ht hown hK hP 6 rfl 3 (by decide) fl_X2_15 (fun _ h => h) rfl dX2_become_28 ?_
  refine lv_aload_n hx hb dX2_become_31 rfl (lv_at hl 0 rfl) ?_
  refine gX2 hx hb ht hown hK hP 0 rfl 3 (by decide) fl_X2_15 (fun _ h => h) rfl dX2_become_32 ?_
  refine KNv (As := [.ref a_p1_low, .ref a_low]) (rest := []) FX (c_X9_copyRow l D cI cB cS a_p1_low a_low 64 64 f_p1_low f_low _ hV) ok_X9_copyRow is_X9_copyRow nq_X2_62 dX2_become_35 hK hP hS hA [7, 1] [0, 2, 3, 4, 5, 6, 8, 9, 10, 11, 12, 13] rfl rfl (by decide) rfl hl.1 (Nat.le_of_ble_eq_true rfl) ⟨Nat.le_of_ble_eq_true rfl, Nat.le_of_ble_eq_true rfl⟩ ⟨Nat.le_of_ble_eq_true rfl, Nat.le_of_ble_eq_true rfl⟩ (fun f_low_2 H locs hV hP hS => ?_)
  have hP : PD D A [oc a_this 2 [.int i_p1_blocks, .int i_p1_sawn, .ref a_left, .ref a_low, .ref a_columns, .ref a_rows, .ref a_turn, .ref a_blockAt], ai cI a_columns 64 f_columns, ai cI a_rows 64 f_rows, ai cI a_turn 64 f_turn, ai cI a_blockAt 64 f_blockAt, oc a_p1 2 [.int i_p1_blocks, .int i_p1_sawn, .ref a_p1_left, .ref a_p1_low, .ref a_p1_columns, .ref a_p1_rows, .ref a_p1_turn, .ref a_p1_blockAt], ai cI a_p1_columns 64 f_p1_columns, ai cI a_p1_rows 64 f_p1_rows, ai cI a_p1_turn 64 f_p1_turn, ai cI a_p1_blockAt 64 f_p1_blockAt, ai cI a_p1_left 64 f_p1_left, ai cI a_left 64 f_left_1, ai cI a_p1_low 64 f_p1_low, ai cI a_low 64 f_low_2] H := hP
  refine lv_aload_n hx hb dX2_become_38 rfl (lv_at hl 1 rfl) ?_
  refine gX2 hx hb ht hown hK hP 5 rfl 4 (by decide) fl_X2_18 (fun _ h => h) rfl dX2_become_39 ?_
  refine lv_aload_n hx hb dX2_become_42 rfl (lv_at hl 0 rfl) ?_
  refine gX2 hx hb ht hown hK hP 0 rfl 4 (by decide) fl_X2_18 (fun _ h => h) rfl dX2_become_43 ?_
  refine KNv (As := [.ref a_p1_columns, .ref a_columns]) (rest := []) FX (c_X9_copyRow l D cI cB cS a_p1_columns a_columns 64 64 f_p1_columns f_columns _ hV) ok_X9_copyRow is_X9_copyRow nq_X2_62 dX2_become_46 hK hP hS hA [6, 1] [0, 2, 3, 4, 5, 7, 8, 9, 10, 11, 12, 13] rfl rfl (by decide) rfl hl.1 (Nat.le_of_ble_eq_true rfl) ⟨Nat.le_of_ble_eq_true rfl, Nat.le_of_ble_eq_true rfl⟩ ⟨Nat.le_of_ble_eq_true rfl, Nat.le_of_ble_eq_true rfl⟩ (fun f_columns_3 H locs hV hP hS => ?_)
  have hP : PD D A [oc a_this 2 [.int i_p1_blocks, .int i_p1_sawn, .ref a_left, .ref a_low, .ref a_columns, .ref a_rows, .ref a_turn, .ref a_blockAt], ai cI a_rows 64 f_rows, ai cI a_turn 64 f_turn, ai cI a_blockAt 64 f_blockAt, oc a_p1 2 [.int i_p1_blocks, .int i_p1_sawn, .ref a_p1_left, .ref a_p1_low, .ref a_p1_columns, .ref a_p1_rows, .ref a_p1_turn, .ref a_p1_blockAt], ai cI a_p1_rows 64 f_p1_rows, ai cI a_p1_turn 64 f_p1_turn, ai cI a_p1_blockAt 64 f_p1_blockAt, ai cI a_p1_left 64 f_p1_left, ai cI a_left 64 f_left_1, ai cI a_p1_low 64 f_p1_low, ai cI a_low 64 f_low_2, ai cI a_p1_columns 64 f_p1_columns, ai cI a_columns 64 f_columns_3] H := hP
  refine lv_aload_n hx hb dX2_become_49 rfl (lv_at hl 1 rfl) ?_
  refine gX2 hx hb ht hown hK hP 4 rfl 5 (by decide) fl_X2_21 (fun _ h => h) rfl dX2_become_50 ?_
  refine lv_aload_n hx hb dX2_become_53 rfl (lv_at hl 0 rfl) ?_
  refine gX2 hx hb ht hown hK hP 0 rfl 5 (by decide) fl_X2_21 (fun _ h => h) rfl dX2_become_54 ?_
  refine KNv (As := [.ref a_p1_rows, .ref a_rows]) (rest := []) FX (c_X9_copyRow l D cI cB cS a_p1_rows a_rows 64 64 f_p1_rows f_rows _ hV) ok_X9_copyRow is_X9_copyRow nq_X2_62 dX2_become_57 hK hP hS hA [5, 1] [0, 2, 3, 4, 6, 7, 8, 9, 10, 11, 12, 13] rfl rfl (by decide) rfl hl.1 (Nat.le_of_ble_eq_true rfl) ⟨Nat.le_of_ble_eq_true rfl, Nat.le_of_ble_eq_true rfl⟩ ⟨Nat.le_of_ble_eq_true rfl, Nat.le_of_ble_eq_true rfl⟩ (fun f_rows_4 H locs hV hP hS => ?_)
  have hP : PD D A [oc a_this 2 [.int i_p1_blocks, .int i_p1_sawn, .ref a_left, .ref a_low, .ref a_columns, .ref a_rows, .ref a_turn, .ref a_blockAt], ai cI a_turn 64 f_turn, ai cI a_blockAt 64 f_blockAt, oc a_p1 2 [.int i_p1_blocks, .int i_p1_sawn, .ref a_p1_left, .ref a_p1_low, .ref a_p1_columns, .ref a_p1_rows, .ref a_p1_turn, .ref a_p1_blockAt], ai cI a_p1_turn 64 f_p1_turn, ai cI a_p1_blockAt 64 f_p1_blockAt, ai cI a_p1_left 64 f_p1_left, ai cI a_left 64 f_left_1, ai cI a_p1_low 64 f_p1_low, ai cI a_low 64 f_low_2, ai cI a_p1_columns 64 f_p1_columns, ai cI a_columns 64 f_columns_3, ai cI a_p1_rows 64 f_p1_rows, ai cI a_rows 64 f_rows_4] H := hP
  refine lv_aload_n hx hb dX2_become_60 rfl (lv_at hl 1 rfl) ?_
  refine gX2 hx hb ht hown hK hP 3 rfl 6 (by decide) fl_X2_24 (fun _ h => h) rfl dX2_become_61 ?_
  refine lv_aload_n hx hb dX2_become_64 rfl (lv_at hl 0 rfl) ?_
  refine gX2 hx hb ht hown hK hP 0 rfl 6 (by decide) fl_X2_24 (fun _ h => h) rfl dX2_become_65 ?_
  refine KNv (As := [.ref a_p1_turn, .ref a_turn]) (rest := []) FX (c_X9_copyRow l D cI cB cS a_p1_turn a_turn 64 64 f_p1_turn f_turn _ hV) ok_X9_copyRow is_X9_copyRow nq_X2_62 dX2_become_68 hK hP hS hA [4, 1] [0, 2, 3, 5, 6, 7, 8, 9, 10, 11, 12, 13] rfl rfl (by decide) rfl hl.1 (Nat.le_of_ble_eq_true rfl) ⟨Nat.le_of_ble_eq_true rfl, Nat.le_of_ble_eq_true rfl⟩ ⟨Nat.le_of_ble_eq_true rfl, Nat.le_of_ble_eq_true rfl⟩ (fun f_turn_5 H locs hV hP hS => ?_)
  have hP : PD D A [oc a_this 2 [.int i_p1_blocks, .int i_p1_sawn, .ref a_left, .ref a_low, .ref a_columns, .ref a_rows, .ref a_turn, .ref a_blockAt], ai cI a_blockAt 64 f_blockAt, oc a_p1 2 [.int i_p1_blocks, .int i_p1_sawn, .ref a_p1_left, .ref a_p1_low, .ref a_p1_columns, .ref a_p1_rows, .ref a_p1_turn, .ref a_p1_blockAt], ai cI a_p1_blockAt 64 f_p1_blockAt, ai cI a_p1_left 64 f_p1_left, ai cI a_left 64 f_left_1, ai cI a_p1_low 64 f_p1_low, ai cI a_low 64 f_low_2, ai cI a_p1_columns 64 f_p1_columns, ai cI a_columns 64 f_columns_3, ai cI a_p1_rows 64 f_p1_rows, ai cI a_rows 64 f_rows_4, ai cI a_p1_turn 64 f_p1_turn, ai cI a_turn 64 f_turn_5] H := hP
  refine lv_aload_n hx hb dX2_become_71 rfl (lv_at hl 1 rfl) ?_
  refine gX2 hx hb ht hown hK hP 2 rfl 7 (by decide) fl_X2_27 (fun _ h => h) rfl dX2_become_72 ?_
  refine lv_aload_n hx hb dX2_become_75 rfl (lv_at hl 0 rfl) ?_
  refine gX2 hx hb ht hown hK hP 0 rfl 7 (by decide) fl_X2_27 (fun _ h => h) rfl dX2_become_76 ?_
  refine KNv (As := [.ref a_p1_blockAt, .ref a_blockAt]) (rest := []) FX (c_X9_copyRow l D cI cB cS a_p1_blockAt a_blockAt 64 64 f_p1_blockAt f_blockAt _ hV) ok_X9_copyRow is_X9_copyRow nq_X2_62 dX2_become_79 hK hP hS hA [3, 1] [0, 2, 4, 5, 6, 7, 8, 9, 10, 11, 12, 13] rfl rfl (by decide) rfl hl.1 (Nat.le_of_ble_eq_true rfl) ⟨Nat.le_of_ble_eq_true rfl, Nat.le_of_ble_eq_true rfl⟩ ⟨Nat.le_of_ble_eq_true rfl, Nat.le_of_ble_eq_true rfl⟩ (fun f_blockAt_6 H locs hV hP hS => ?_)
  have hP : PD D A [oc a_this 2 [.int i_p1_blocks, .int i_p1_sawn, .ref a_left, .ref a_low, .ref a_columns, .ref a_rows, .ref a_turn, .ref a_blockAt], oc a_p1 2 [.int i_p1_blocks, .int i_p1_sawn, .ref a_p1_left, .ref a_p1_low, .ref a_p1_columns, .ref a_p1_rows, .ref a_p1_turn, .ref a_p1_blockAt], ai cI a_p1_left 64 f_p1_left, ai cI a_left 64 f_left_1, ai cI a_p1_low 64 f_p1_low, ai cI a_low 64 f_low_2, ai cI a_p1_columns 64 f_p1_columns, ai cI a_columns 64 f_columns_3, ai cI a_p1_rows 64 f_p1_rows, ai cI a_rows 64 f_rows_4, ai cI a_p1_turn 64 f_p1_turn, ai cI a_turn 64 f_turn_5, ai cI a_p1_blockAt 64 f_p1_blockAt, ai cI a_blockAt 64 f_blockAt_6] H := hP
  exact hret _ _ _ _ (i_p1_blocks, i_p1_sawn, f_left_1, f_low_2, f_columns_3, f_rows_4, f_turn_5, f_blockAt_6) hS dX2_become_82 (hP.sub [0, 3, 5, 7, 9, 11, 13, 1, 2, 4, 6, 8, 10, 12] rfl rfl) hV
