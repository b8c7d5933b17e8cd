def rm_X8_isTaken : Room := { frames := 0, cells := 0, slots := 0, locals := 0 }
def P_X8_isTaken (x1 : Int32) (f_takenOn : Nat → Int32) (post : Int32 → Prop) : Prop := (vp_in x1 64 ∧ (((f_takenOn x1.toNatClampNeg) = (-1) → post 0) ∧ (¬ (f_takenOn x1.toNatClampNeg) = (-1) → post 1)))
set_option maxRecDepth 100000 in
set_option maxHeartbeats 4000000 in
theorem c_X8_isTaken (l : Launch) (D : va_G) (cI cB cS : ClassId) (a_this a_takenOn a_pileOf a_placeOf a_uppermost : Nat) (x1 : Int32) (i_taken : Int32) (i_piles : Int32) (f_takenOn : Nat → Int32) (post : Int32 → Prop) (hV : P_X8_isTaken x1 f_takenOn post) : Ci l yX8_isTaken cX8_isTaken 2 (some .boolean) rm_X8_isTaken D cI cB cS [.ref a_this, .int x1] [oc a_this 7 [.int i_taken, .int i_piles, .ref a_takenOn, .ref a_pileOf, .ref a_placeOf, .ref a_uppermost], ai cI a_takenOn 64 f_takenOn] (fun r (_ : Unit) => post r) (fun (_ : Unit) => [oc a_this 7 [.int i_taken, .int i_piles, .ref a_takenOn, .ref a_pileOf, .ref a_placeOf, .ref a_uppermost], ai cI a_takenOn 64 f_takenOn]) := by
  refine Cz.of ok_X8_isTaken (Nat.le_of_ble_eq_true rfl) ?_
  intro p e s m args below meth c A Q hx hb hml hown ht hnm hK hP hA hS hret ls hl
  have hown : s.vm.findClass RX8 = some m.cls := hown
  have FX : CallFix p m c cX8_isTaken 2 s args tblG RX8 := ⟨hx, hb, hml, hown, ht⟩
  have hP : PD D A [oc a_this 7 [.int i_taken, .int i_piles, .ref a_takenOn, .ref a_pileOf, .ref a_placeOf, .ref a_uppermost], ai cI a_takenOn 64 f_takenOn] s.heap := hP
  have hl : lv_has ls 2 [(0, .ref a_this), (1, .int x1)] := hl
  unfold P_X8_isTaken at hV
  refine lv_aload_n hx hb dX8_isTaken_0 rfl (lv_at hl 0 rfl) ?_
  refine gX8 hx hb ht hown hK hP 0 rfl 2 (by decide) fl_X8_9 (fun _ h => h) rfl dX8_isTaken_1 ?_
  refine lv_iload_n hx hb dX8_isTaken_4 rfl (lv_at hl 1 rfl) ?_
  refine ild hx hb hK hP 1 rfl dX8_isTaken_5 hV.1 ?_
  have hV := hV.2
  refine lv_iconst (v := (-1)) hx hb dX8_isTaken_6 (by decide) ?_
  refine lv_icmp_eq (tgt := 14) hx hb dX8_isTaken_7 (by decide) (fun h => ?_) (fun h => ?_)
  · have hV := hV.1 h
    refine lv_iconst (v := 0) hx hb dX8_isTaken_14 (by decide) ?_
    exact hret _ _ _ _ _ () hS dX8_isTaken_15 hP (by decide) hV
  · have hV := hV.2 h
    refine lv_iconst (v := 1) hx hb dX8_isTaken_10 (by decide) ?_
    refine lv_goto (tgt := 15) hx hb dX8_isTaken_11 (by decide) ?_
    exact hret _ _ _ _ _ () hS dX8_isTaken_15 hP (by decide) hV

def rm_X7_has : Room := { frames := 1, cells := 0, slots := 0, locals := 22 }
def P_X7_has (x1 : Int32) (x2 : Int32) (i_columns : Int32) (i_rows : Int32) (post : Int32 → Prop) : Prop := P_X9_within x1 0 (i_columns - 1) (fun r_1 => ((r_1 = 0 → post 0) ∧ (¬ r_1 = 0 → P_X9_within x2 0 (i_rows - 1) (fun r_2 => ((r_2 = 0 → post 0) ∧ (¬ r_2 = 0 → post 1))))))
set_option maxRecDepth 100000 in
set_option maxHeartbeats 4000000 in
theorem c_X7_has (l : Launch) (D : va_G) (cI cB cS : ClassId) (a_this a_weight a_motif : Nat) (x1 : Int32) (x2 : Int32) (i_columns : Int32) (i_rows : Int32) (post : Int32 → Prop) (hV : P_X7_has x1 x2 i_columns i_rows post) : Ci l yX7_has cX7_has 3 (some .boolean) rm_X7_has D cI cB cS [.ref a_this, .int x1, .int x2] [oc a_this 6 [.int i_columns, .int i_rows, .ref a_weight, .ref a_motif]] (fun r (_ : Unit) => post r) (fun (_ : Unit) => [oc a_this 6 [.int i_columns, .int i_rows, .ref a_weight, .ref a_motif]]) := by
  refine Cz.of ok_X7_has (Nat.le_of_ble_eq_true rfl) ?_
  intro p e s m args below meth c A Q hx hb hml hown ht hnm hK hP hA hS hret ls hl
  have hown : s.vm.findClass RX7 = some m.cls := hown
  have FX : CallFix p m c cX7_has 3 s args tblG RX7 := ⟨hx, hb, hml, hown, ht⟩
  have hP : PD D A [oc a_this 6 [.int i_columns, .int i_rows, .ref a_weight, .ref a_motif]] s.heap := hP
  have hl : lv_has ls 3 [(0, .ref a_this), (1, .int x1), (2, .int x2)] := hl
  unfold P_X7_has at hV
  refine lv_iload_n hx hb dX7_has_0 rfl (lv_at hl 1 rfl) ?_
  refine lv_iconst (v := 0) hx hb dX7_has_1 (by decide) ?_
  refine lv_aload_n hx hb dX7_has_2 rfl (lv_at hl 0 rfl) ?_
  refine gX7 hx hb ht hown hK hP 0 rfl 0 (by decide) fl_X7_22 (fun _ h => h) rfl dX7_has_3 ?_
  refine lv_iconst (v := 1) hx hb dX7_has_6 (by decide) ?_
  refine lv_isub hx hb dX7_has_7 ?_
  refine KNi (As := [.int x1, .int 0, .int (i_columns - 1)]) (rest := []) FX (c_X9_within l D cI cB cS x1 0 (i_columns - 1) _ hV) ok_X9_within is_X9_within nq_X7_35 dX7_has_8 hK hP hS hA [] [0] rfl rfl (by decide) rfl hl.1 (Nat.le_of_ble_eq_true rfl) ⟨Nat.le_of_ble_eq_true rfl, Nat.le_of_ble_eq_true rfl⟩ ⟨Nat.le_of_ble_eq_true rfl, Nat.le_of_ble_eq_true rfl⟩ (fun r_1 _ H locs hV hP hS => ?_)
  have hP : PD D A [oc a_this 6 [.int i_columns, .int i_rows, .ref a_weight, .ref a_motif]] H := hP
  refine lv_if_eq (tgt := 32) hx hb dX7_has_11 (by decide) (fun h => ?_) (fun h => ?_)
  · have hV := hV.1 h
    refine lv_iconst (v := 0) hx hb dX7_has_32 (by decide) ?_
    exact hret _ _ _ _ _ () hS dX7_has_33 hP (by decide) hV
  · have hV := hV.2 h
    refine lv_iload_n hx hb dX7_has_14 rfl (lv_at hl 2 rfl) ?_
    refine lv_iconst (v := 0) hx hb dX7_has_15 (by decide) ?_
    refine lv_aload_n hx hb dX7_has_16 rfl (lv_at hl 0 rfl) ?_
    refine gX7 hx hb ht hown hK hP 0 rfl 1 (by decide) fl_X7_26 (fun _ h => h) rfl dX7_has_17 ?_
    refine lv_iconst (v := 1) hx hb dX7_has_20 (by decide) ?_
    refine lv_isub hx hb dX7_has_21 ?_
    refine KNi (As := [.int x2, .int 0, .int (i_rows - 1)]) (rest := []) FX (c_X9_within l D cI cB cS x2 0 (i_rows - 1) _ hV) ok_X9_within is_X9_within nq_X7_35 dX7_has_22 hK hP hS hA [] [0] rfl rfl (by decide) rfl hl.1 (Nat.le_of_ble_eq_true rfl) ⟨Nat.le_of_ble_eq_true rfl, Nat.le_of_ble_eq_true rfl⟩ ⟨Nat.le_of_ble_eq_true rfl, Nat.le_of_ble_eq_true rfl⟩ (fun r_2 _ H locs hV hP hS => ?_)
    have hP : PD D A [oc a_this 6 [.int i_columns, .int i_rows, .ref a_weight, .ref a_motif]] H := hP
    refine lv_if_eq (tgt := 32) hx hb dX7_has_25 (by decide) (fun h => ?_) (fun h => ?_)
    · have hV := hV.1 h
      refine lv_iconst (v := 0) hx hb dX7_has_32 (by decide) ?_
      exact hret _ _ _ _ _ () hS dX7_has_33 hP (by decide) hV
    · have hV := hV.2 h
      refine lv_iconst (v := 1) hx hb dX7_has_28 (by decide) ?_
      refine lv_goto (tgt := 33) hx hb dX7_has_29 (by decide) ?_
      exact hret _ _ _ _ _ () hS dX7_has_33 hP (by decide) hV

def rm_X7_isOneCarving : Room := { frames := 0, cells := 0, slots := 0, locals := 0 }
def P_X7_isOneCarving (x1 : Int32) (x2 : Int32) (f_motif : Nat → Int32) (post : Int32 → Prop) : Prop := (vp_in x1 64 ∧ (((f_motif x1.toNatClampNeg) = 0 → post 0) ∧ (¬ (f_motif x1.toNatClampNeg) = 0 → (vp_in x1 64 ∧ (vp_in x2 64 ∧ (((f_motif x1.toNatClampNeg) = (f_motif x2.toNatClampNeg) → post 1) ∧ (¬ (f_motif x1.toNatClampNeg) = (f_motif x2.toNatClampNeg) → post 0)))))))
set_option maxRecDepth 100000 in
set_option maxHeartbeats 4000000 in
theorem c_X7_isOneCarving (l : Launch) (D : va_G) (cI cB cS : ClassId) (a_this a_motif a_weight : Nat) (x1 : Int32) (x2 : Int32) (i_columns : Int32) (i_rows : Int32) (f_motif : Nat → Int32) (post : Int32 → Prop) (hV : P_X7_isOneCarving x1 x2 f_motif post) : Ci l yX7_isOneCarving cX7_isOneCarving 3 (some .boolean) rm_X7_isOneCarving D cI cB cS [.ref a_this, .int x1, .int x2] [oc a_this 6 [.int i_columns, .int i_rows, .ref a_weight, .ref a_motif], ai cI a_motif 64 f_motif] (fun r (_ : Unit) => post r) (fun (_ : Unit) => [oc a_this 6 [.int i_columns, .int i_rows, .ref a_weight, .ref a_motif], ai cI a_motif 64 f_motif]) := by
  refine Cz.of ok_X7_isOneCarving (Nat.le_of_ble_eq_true rfl) ?_
  intro p e s m args below meth c A Q hx hb hml hown ht hnm hK hP hA hS hret ls hl
  have hown : s.vm.findClass RX7 = some m.cls := hown
  have FX : CallFix p m c cX7_isOneCarving 3 s args tblG RX7 := ⟨hx, hb, hml, hown, ht⟩
  have hP : PD D A [oc a_this 6 [.int i_columns, .int i_rows, .ref a_weight, .ref a_motif], ai cI a_motif 64 f_motif] s.heap := hP
  have hl : lv_has ls 3 [(0, .ref a_this), (1, .int x1), (2, .int x2)] := hl
  unfold P_X7_isOneCarving at hV
  refine lv_aload_n hx hb dX7_isOneCarving_0 rfl (lv_at hl 0 rfl) ?_
  refine gX7 hx hb ht hown hK hP 0 rfl 3 (by decide) fl_X7_15 (fun _ h => h) rfl dX7_isOneCarving_1 ?_
  refine lv_iload_n hx hb dX7_isOneCarving_4 rfl (lv_at hl 1 rfl) ?_
  refine ild hx hb hK hP 1 rfl dX7_isOneCarving_5 hV.1 ?_
  have hV := hV.2
  refine lv_if_eq (tgt := 28) hx hb dX7_isOneCarving_6 (by decide) (fun h => ?_) (fun h => ?_)
  · have hV := hV.1 h
    refine lv_iconst (v := 0) hx hb dX7_isOneCarving_28 (by decide) ?_
    exact hret _ _ _ _ _ () hS dX7_isOneCarving_29 hP (by decide) hV
  · have hV := hV.2 h
    refine lv_aload_n hx hb dX7_isOneCarving_9 rfl (lv_at hl 0 rfl) ?_
    refine gX7 hx hb ht hown hK hP 0 rfl 3 (by decide) fl_X7_15 (fun _ h => h) rfl dX7_isOneCarving_10 ?_
    refine lv_iload_n hx hb dX7_isOneCarving_13 rfl (lv_at hl 1 rfl) ?_
    refine ild hx hb hK hP 1 rfl dX7_isOneCarving_14 hV.1 ?_
    have hV := hV.2
    refine lv_aload_n hx hb dX7_isOneCarving_15 rfl (lv_at hl 0 rfl) ?_
    refine gX7 hx hb ht hown hK hP 0 rfl 3 (by decide) fl_X7_15 (fun _ h => h) rfl dX7_isOneCarving_16 ?_
    refine lv_iload_n hx hb dX7_isOneCarving_19 rfl (lv_at hl 2 rfl) ?_
    refine ild hx hb hK hP 1 rfl dX7_isOneCarving_20 hV.1 ?_
    have hV := hV.2
    refine lv_icmp_ne (tgt := 28) hx hb dX7_isOneCarving_21 (by decide) (fun h => ?_) (fun h => ?_)
    · have hV := hV.2 h
      refine lv_iconst (v := 0) hx hb dX7_isOneCarving_28 (by decide) ?_
      exact hret _ _ _ _ _ () hS dX7_isOneCarving_29 hP (by decide) hV
    · have hV := hV.1 h
      refine lv_iconst (v := 1) hx hb dX7_isOneCarving_24 (by decide) ?_
      refine lv_goto (tgt := 29) hx hb dX7_isOneCarving_25 (by decide) ?_
      exact hret _ _ _ _ _ () hS dX7_isOneCarving_29 hP (by decide) hV

def rm_X7_build : Room := { frames := 1, cells := 0, slots := 0, locals := 23 }
def P_X7_build (x1 : Int32) (x2 : Int32) (f_weight : Nat → Int32) (f_motif : Nat → Int32) (post : Int32 → Int32 → (Nat → Int32) → (Nat → Int32) → Prop) : Prop := P_J7_fill_53178 64 10 f_weight (fun f_weight_1 => P_J7_fill_53178 64 0 f_motif (fun f_motif_2 => post x1 x2 f_weight_1 f_motif_2))
set_option maxRecDepth 100000 in
set_option maxHeartbeats 4000000 in
theorem c_X7_build (l : Launch) (D : va_G) (cI cB cS : ClassId) (a_this a_weight a_motif : Nat) (x1 : Int32) (x2 : Int32) (i_columns : Int32) (i_rows : Int32) (f_weight : Nat → Int32) (f_motif : Nat → Int32) (post : Int32 → Int32 → (Nat → Int32) → (Nat → Int32) → Prop) (hV : P_X7_build x1 x2 f_weight f_motif post) : Cv l yX7_build cX7_build 3 none rm_X7_build D cI cB cS [.ref a_this, .int x1, .int x2] [oc a_this 6 [.int i_columns, .int i_rows, .ref a_weight, .ref a_motif], ai cI a_weight 64 f_weight, ai cI a_motif 64 f_motif] (fun (u : Int32 × Int32 × (Nat → Int32) × (Nat → Int32)) => post u.1 u.2.1 u.2.2.1 u.2.2.2) (fun (u : Int32 × Int32 × (Nat → Int32) × (Nat → Int32)) => [oc a_this 6 [.int u.1, .int u.2.1, .ref a_weight, .ref a_motif], ai cI a_weight 64 (u.2.2.1), ai cI a_motif 64 (u.2.2.2)]) := by
  refine Cv.of ok_X7_build (Nat.le_of_ble_eq_true rfl) ?_
  intro p e s m args below meth c A Q hx hb hml hown ht hnm hK hP hA hS hret ls hl
  have hown : s.vm.findClass RX7 = some m.cls := hown
  have FX : CallFix p m c cX7_build 3 s args tblG RX7 := ⟨hx, hb, hml, hown, ht⟩
  have hP : PD D A [oc a_this 6 [.int i_columns, .int i_rows, .ref a_weight, .ref a_motif], ai cI a_weight 64 f_weight, ai cI a_motif 64 f_motif] s.heap := hP
  have hl : lv_has ls 3 [(0, .ref a_this), (1, .int x1), (2, .int x2)] := hl
  unfold P_X7_build at hV
  refine lv_aload_n hx hb dX7_build_0 rfl (lv_at hl 0 rfl) ?_
  refine lv_iload_n hx hb dX7_build_1 rfl (lv_at hl 1 rfl) ?_
  refine pX7 hx hb ht hown hK hP hS 0 rfl 0 (by decide) fl_X7_22 (fun _ h => h) rfl (tyX7_ok 0 (by decide)) rfl rfl (Nat.le_of_ble_eq_true rfl) dX7_build_2 (fun H locs hP hS => ?_)
  have hP : PD D A [oc a_this 6 [.int x1, .int i_rows, .ref a_weight, .ref a_motif], ai cI a_weight 64 f_weight, ai cI a_motif 64 f_motif] H := hP
  refine lv_aload_n hx hb dX7_build_5 rfl (lv_at hl 0 rfl) ?_
  refine lv_iload_n hx hb dX7_build_6 rfl (lv_at hl 2 rfl) ?_
  refine pX7 hx hb ht hown hK hP hS 0 rfl 1 (by decide) fl_X7_26 (fun _ h => h) rfl (tyX7_ok 1 (by decide)) rfl rfl (Nat.le_of_ble_eq_true rfl) dX7_build_7 (fun H locs hP hS => ?_)
  have hP : PD D A [oc a_this 6 [.int x1, .int x2, .ref a_weight, .ref a_motif], ai cI a_weight 64 f_weight, ai cI a_motif 64 f_motif] H := hP
  refine lv_aload_n hx hb dX7_build_10 rfl (lv_at hl 0 rfl) ?_
  refine gX7 hx hb ht hown hK hP 0 rfl 2 (by decide) fl_X7_9 (fun _ h => h) rfl dX7_build_11 ?_
  refine lv_bipush (v := 10) hx hb dX7_build_14 (by decide) ?_
  refine KSv (As := [.ref a_weight, .int 10]) (rest := []) FX (c_J7_fill_53178 l D cI cB cS a_weight 64 10 f_weight _ hV) ok_J7_fill_53178 is_J7_fill_53178 li_X7_29 dX7_build_16 hK hP hS hA [1] [0, 2] rfl rfl (by decide) rfl hl.1 (Nat.le_of_ble_eq_true rfl) ⟨Nat.le_of_ble_eq_true rfl, Nat.le_of_ble_eq_true rfl⟩ ⟨Nat.le_of_ble_eq_true rfl, Nat.le_of_ble_eq_true rfl⟩ (fun f_weight_1 H locs hV hP hS => ?_)
  have hP : PD D A [oc a_this 6 [.int x1, .int x2, .ref a_weight, .ref a_motif], ai cI a_motif 64 f_motif, ai cI a_weight 64 f_weight_1] H := hP
  refine lv_aload_n hx hb dX7_build_19 rfl (lv_at hl 0 rfl) ?_
  refine gX7 hx hb ht hown hK hP 0 rfl 3 (by decide) fl_X7_15 (fun _ h => h) rfl dX7_build_20 ?_
  refine lv_iconst (v := 0) hx hb dX7_build_23 (by decide) ?_
  refine KSv (As := [.ref a_motif, .int 0]) (rest := []) FX (c_J7_fill_53178 l D cI cB cS a_motif 64 0 f_motif _ hV) ok_J7_fill_53178 is_J7_fill_53178 li_X7_29 dX7_build_24 hK hP hS hA [1] [0, 2] rfl rfl (by decide) rfl hl.1 (Nat.le_of_ble_eq_true rfl) ⟨Nat.le_of_ble_eq_true rfl, Nat.le_of_ble_eq_true rfl⟩ ⟨Nat.le_of_ble_eq_true rfl, Nat.le_of_ble_eq_true rfl⟩ (fun f_motif_2 H locs hV hP hS => ?_)
  have hP : PD D A [oc a_this 6 [.int x1, .int x2, .ref a_weight, .ref a_motif], ai cI a_weight 64 f_weight_1, ai cI a_motif 64 f_motif_2] H := hP
  exact hret _ _ _ _ (x1, x2, f_weight_1, f_motif_2) hS dX7_build_27 hP hV

def rm_X7_init : Room := { frames := 2, cells := 2, slots := 128, locals := 45 }
def P_X7_init (post : Nat → Nat → Int32 → Int32 → (Nat → Int32) → (Nat → Int32) → Prop) : Prop := (∀ q7 : Nat, (∀ q15 : Nat, P_X7_build 4 4 (fun _ => 0) (fun _ => 0) (fun i_columns_1 i_rows_2 f_n7_3 f_n15_4 => post q7 q15 i_columns_1 i_rows_2 f_n7_3 f_n15_4)))
set_option maxRecDepth 100000 in
set_option maxHeartbeats 4000000 in
theorem c_X7_init (l : Launch) (D : va_G) (cI cB cS : ClassId) (a_this : Nat) (post : Nat → Nat → Int32 → Int32 → (Nat → Int32) → (Nat → Int32) → Prop) (hV : P_X7_init post) : Cv l yX7_init cX7_init 1 none rm_X7_init D cI cB cS [.ref a_this] [oc a_this 6 [.int 0, .int 0, .null, .null]] (fun (u : Nat × Nat × Int32 × Int32 × (Nat → Int32) × (Nat → Int32)) => post u.1 u.2.1 u.2.2.1 u.2.2.2.1 u.2.2.2.2.1 u.2.2.2.2.2) (fun (u : Nat × Nat × Int32 × Int32 × (Nat → Int32) × (Nat → Int32)) => [oc a_this 6 [.int u.2.2.1, .int u.2.2.2.1, .ref u.1, .ref u.2.1], ai cI u.1 64 (u.2.2.2.2.1), ai cI u.2.1 64 (u.2.2.2.2.2)]) := by
  refine Cv.of ok_X7_init (Nat.le_of_ble_eq_true rfl) ?_
  intro p e s m args below meth c A Q hx hb hml hown ht hnm hK hP hA hS hret ls hl
  have hown : s.vm.findClass RX7 = some m.cls := hown
  have FX : CallFix p m c cX7_init 1 s args tblG RX7 := ⟨hx, hb, hml, hown, ht⟩
  have hP : PD D A [oc a_this 6 [.int 0, .int 0, .null, .null]] s.heap := hP
  have hl : lv_has ls 1 [(0, .ref a_this)] := hl
  unfold P_X7_init at hV
  refine lv_aload_n hx hb dX7_init_0 rfl (lv_at hl 0 rfl) ?_
  refine oin hx hb ht hown (hml.trans hl.1.symm) li_X7_3 (Nat.le_of_ble_eq_true rfl) (Nat.le_of_ble_eq_true rfl) dX7_init_1 ?_
  refine lv_aload_n hx hb dX7_init_4 rfl (lv_at hl 0 rfl) ?_
  refine lv_bipush (v := 64) hx hb dX7_init_5 (by decide) ?_
  refine nai hx hb ht hK hP hS hA 64 (by decide) (by decide) (by decide) (Nat.le_of_ble_eq_true rfl) (Nat.le_of_ble_eq_true rfl) dX7_init_7 (fun q7 H hP hS => ?_)
  have hV := hV q7
  have hP : PD D A [oc a_this 6 [.int 0, .int 0, .null, .null], ai cI q7 64 (fun _ => 0)] H := hP
  refine qX7 hx hb ht hown hK hP hS 0 rfl 2 (by decide) fl_X7_9 (fun _ h => h) rfl hnm rfl (tyX7_ok 2 (by decide)) rfl rfl (Nat.le_of_ble_eq_true rfl) dX7_init_9 (fun H locs hP hS => ?_)
  have hP : PD D A [oc a_this 6 [.int 0, .int 0, .ref q7, .null], ai cI q7 64 (fun _ => 0)] H := hP
  refine lv_aload_n hx hb dX7_init_12 rfl (lv_at hl 0 rfl) ?_
  refine lv_bipush (v := 64) hx hb dX7_init_13 (by decide) ?_
  refine nai hx hb ht hK hP hS hA 64 (by decide) (by decide) (by decide) (Nat.le_of_ble_eq_true rfl) (Nat.le_of_ble_eq_true rfl) dX7_init_15 (fun q15 H hP hS => ?_)
  have hV := hV q15
  have hP : PD D A [oc a_this 6 [.int 0, .int 0, .ref q7, .null], ai cI q7 64 (fun _ => 0), ai cI q15 64 (fun _ => 0)] H := hP
  refine qX7 hx hb ht hown hK hP hS 0 rfl 3 (by decide) fl_X7_15 (fun _ h => h) rfl hnm rfl (tyX7_ok 3 (by decide)) rfl rfl (Nat.le_of_ble_eq_true rfl) dX7_init_17 (fun H locs hP hS => ?_)
  have hP : PD D A [oc a_this 6 [.int 0, .int 0, .ref q7, .ref q15], ai cI q7 64 (fun _ => 0), ai cI q15 64 (fun _ => 0)] H := hP
  refine lv_aload_n hx hb dX7_init_20 rfl (lv_at hl 0 rfl) ?_
  refine lv_iconst (v := 4) hx hb dX7_init_21 (by decide) ?_
  refine lv_iconst (v := 4) hx hb dX7_init_22 (by decide) ?_
  refine KVv (As := [.int 4, .int 4]) (rest := []) FX (c_X7_build l D cI cB cS a_this q7 q15 4 4 0 0 (fun _ => 0) (fun _ => 0) _ hV) ok_X7_build im_X7_build se_X7_build li_X7_18 dX7_init_23 hK hP hS hA [0, 1, 2] [] 0 rfl rfl rfl (by decide) rfl rfl hl.1 (Nat.le_of_ble_eq_true rfl) ⟨Nat.le_of_ble_eq_true rfl, Nat.le_of_ble_eq_true rfl⟩ ⟨Nat.le_of_ble_eq_true rfl, Nat.le_of_ble_eq_true rfl⟩ (fun u H locs hV hP hS => ?_)
  obtain ⟨i_columns_1, i_rows_2, f_n7_3, f_n15_4⟩ := u
  try dsimp only at hV
  have hP : PD D A [oc a_this 6 [.int i_columns_1, .int i_rows_2, .ref q7, .ref q15], ai cI q7 64 f_n7_3, ai cI q15 64 f_n15_4] H := hP
  exact hret _ _ _ _ (q7, q15, i_columns_1, i_rows_2, f_n7_3, f_n15_4) hS dX7_init_26 hP hV

def rm_X8_clear : Room := { frames := 1, cells := 0, slots := 0, locals := 23 }
def P_X8_clear (f_takenOn : Nat → Int32) (f_pileOf : Nat → Int32) (post : Int32 → Int32 → (Nat → Int32) → (Nat → Int32) → Prop) : Prop := P_J7_fill_53178 64 (-1) f_takenOn (fun f_takenOn_1 => P_J7_fill_53178 64 (-1) f_pileOf (fun f_pileOf_2 => post 0 0 f_takenOn_1 f_pileOf_2))
set_option maxRecDepth 100000 in
set_option maxHeartbeats 4000000 in
theorem c_X8_clear (l : Launch) (D : va_G) (cI cB cS : ClassId) (a_this a_takenOn a_pileOf a_placeOf a_uppermost : Nat) (i_taken : Int32) (i_piles : Int32) (f_takenOn : Nat → Int32) (f_pileOf : Nat → Int32) (post : Int32 → Int32 → (Nat → Int32) → (Nat → Int32) → Prop) (hV : P_X8_clear f_takenOn f_pileOf post) : Cv l yX8_clear cX8_clear 1 none rm_X8_clear D cI cB cS [.ref a_this] [oc a_this 7 [.int i_taken, .int i_piles, .ref a_takenOn, .ref a_pileOf, .ref a_placeOf, .ref a_uppermost], ai cI a_takenOn 64 f_takenOn, ai cI a_pileOf 64 f_pileOf] (fun (u : Int32 × Int32 × (Nat → Int32) × (Nat → Int32)) => post u.1 u.2.1 u.2.2.1 u.2.2.2) (fun (u : Int32 × Int32 × (Nat → Int32) × (Nat → Int32)) => [oc a_this 7 [.int u.1, .int u.2.1, .ref a_takenOn, .ref a_pileOf, .ref a_placeOf, .ref a_uppermost], ai cI a_takenOn 64 (u.2.2.1), ai cI a_pileOf 64 (u.2.2.2)]) := by
  refine Cv.of ok_X8_clear (Nat.le_of_ble_eq_true rfl) ?_
  intro p e s m args below meth c A Q hx hb hml hown ht hnm hK hP hA hS hret ls hl
  have hown : s.vm.findClass RX8 = some m.cls := hown
  have FX : CallFix p m c cX8_clear 1 s args tblG RX8 := ⟨hx, hb, hml, hown, ht⟩
  have hP : PD D A [oc a_this 7 [.int i_taken, .int i_piles, .ref a_takenOn, .ref a_pileOf, .ref a_placeOf, .ref a_uppermost], ai cI a_takenOn 64 f_takenOn, ai cI a_pileOf 64 f_pileOf] s.heap := hP
  have hl : lv_has ls 1 [(0, .ref a_this)] := hl
  unfold P_X8_clear at hV
  refine lv_aload_n hx hb dX8_clear_0 rfl (lv_at hl 0 rfl) ?_
  refine lv_iconst (v := 0) hx hb dX8_clear_1 (by decide) ?_
  refine pX8 hx hb ht hown hK hP hS 0 rfl 0 (by decide) fl_X8_27 (fun _ h => h) rfl (tyX8_ok 0 (by decide)) rfl rfl (Nat.le_of_ble_eq_true rfl) dX8_clear_2 (fun H locs hP hS => ?_)
  have hP : PD D A [oc a_this 7 [.int 0, .int i_piles, .ref a_takenOn, .ref a_pileOf, .ref a_placeOf, .ref a_uppermost], ai cI a_takenOn 64 f_takenOn, ai cI a_pileOf 64 f_pileOf] H := hP
  refine lv_aload_n hx hb dX8_clear_5 rfl (lv_at hl 0 rfl) ?_
  refine lv_iconst (v := 0) hx hb dX8_clear_6 (by decide) ?_
  refine pX8 hx hb ht hown hK hP hS 0 rfl 1 (by decide) fl_X8_31 (fun _ h => h) rfl (tyX8_ok 1 (by decide)) rfl rfl (Nat.le_of_ble_eq_true rfl) dX8_clear_7 (fun H locs hP hS => ?_)
  have hP : PD D A [oc a_this 7 [.int 0, .int 0, .ref a_takenOn, .ref a_pileOf, .ref a_placeOf, .ref a_uppermost], ai cI a_takenOn 64 f_takenOn, ai cI a_pileOf 64 f_pileOf] H := hP
  refine lv_aload_n hx hb dX8_clear_10 rfl (lv_at hl 0 rfl) ?_
  refine gX8 hx hb ht hown hK hP 0 rfl 2 (by decide) fl_X8_9 (fun _ h => h) rfl dX8_clear_11 ?_
  refine lv_iconst (v := (-1)) hx hb dX8_clear_14 (by decide) ?_
  refine KSv (As := [.ref a_takenOn, .int (-1)]) (rest := []) FX (c_J7_fill_53178 l D cI cB cS a_takenOn 64 (-1) f_takenOn _ hV) ok_J7_fill_53178 is_J7_fill_53178 li_X8_34 dX8_clear_15 hK hP hS hA [1] [0, 2] rfl rfl (by decide) rfl hl.1 (Nat.le_of_ble_eq_true rfl) ⟨Nat.le_of_ble_eq_true rfl, Nat.le_of_ble_eq_true rfl⟩ ⟨Nat.le_of_ble_eq_true rfl, Nat.le_of_ble_eq_true rfl⟩ (fun f_takenOn_1 H locs hV hP hS => ?_)
  have hP : PD D A [oc a_this 7 [.int 0, .int 0, .ref a_takenOn, .ref a_pileOf, .ref a_placeOf, .ref a_uppermost], ai cI a_pileOf 64 f_pileOf, ai cI a_takenOn 64 f_takenOn_1] H := hP
  refine lv_aload_n hx hb dX8_clear_18 rfl (lv_at hl 0 rfl) ?_
  refine gX8 hx hb ht hown hK hP 0 rfl 3 (by decide) fl_X8_15 (fun _ h => h) rfl dX8_clear_19 ?_
  refine lv_iconst (v := (-1)) hx hb dX8_clear_22 (by decide) ?_
  refine KSv (As := [.ref a_pileOf, .int (-1)]) (rest := []) FX (c_J7_fill_53178 l D cI cB cS a_pileOf 64 (-1) f_pileOf _ hV) ok_J7_fill_53178 is_J7_fill_53178 li_X8_34 dX8_clear_23 hK hP hS hA [1] [0, 2] rfl rfl (by decide) rfl hl.1 (Nat.le_of_ble_eq_true rfl) ⟨Nat.le_of_ble_eq_true rfl, Nat.le_of_ble_eq_true rfl⟩ ⟨Nat.le_of_ble_eq_true rfl, Nat.le_of_ble_eq_true rfl⟩ (fun f_pileOf_2 H locs hV hP hS => ?_)
  have hP : PD D A [oc a_this 7 [.int 0, .int 0, .ref a_takenOn, .ref a_pileOf, .ref a_placeOf, .ref a_uppermost], ai cI a_takenOn 64 f_takenOn_1, ai cI a_pileOf 64 f_pileOf_2] H := hP
  exact hret _ _ _ _ (0, 0, f_takenOn_1, f_pileOf_2) hS dX8_clear_26 hP hV

def rm_X8_init : Room := { frames := 2, cells := 4, slots := 256, locals := 43 }
def P_X8_init (post : Nat → Nat → Nat → Nat → Int32 → Int32 → (Nat → Int32) → (Nat → Int32) → (Nat → Int32) → (Nat → Int32) → Prop) : Prop := (∀ q7 : Nat, (∀ q15 : Nat, (∀ q23 : Nat, (∀ q31 : Nat, P_X8_clear (fun _ => 0) (fun _ => 0) (fun i_taken_1 i_piles_2 f_n7_3 f_n15_4 => post q23 q31 q7 q15 i_taken_1 i_piles_2 (fun _ => 0) (fun _ => 0) f_n7_3 f_n15_4)))))
set_option maxRecDepth 100000 in
set_option maxHeartbeats 4000000 in
theorem c_X8_init (l : Launch) (D : va_G) (cI cB cS : ClassId) (a_this : Nat) (post : Nat → Nat → Nat → Nat → Int32 → Int32 → (Nat → Int32) → (Nat → Int32) → (Nat → Int32) → (Nat → Int32) → Prop) (hV : P_X8_init post) : Cv l yX8_init cX8_init 1 none rm_X8_init D cI cB cS [.ref a_this] [oc a_this 7 [.int 0, .int 0, .null, .null, .null, .null]] (fun (u : Nat × Nat × Nat × Nat × Int32 × Int32 × (Nat → Int32) × (Nat → Int32) × (Nat → Int32) × (Nat → Int32)) => post u.1 u.2.1 u.2.2.1 u.2.2.2.1 u.2.2.2.2.1 u.2.2.2.2.2.1 u.2.2.2.2.2.2.1 u.2.2.2.2.2.2.2.1 u.2.2.2.2.2.2.2.2.1 u.2.2.2.2.2.2.2.2.2) (fun (u : Nat × Nat × Nat × Nat × Int32 × Int32 × (Nat → Int32) × (Nat → Int32) × (Nat → Int32) × (Nat → Int32)) => [oc a_this 7 [.int u.2.2.2.2.1, .int u.2.2.2.2.2.1, .ref u.2.2.1, .ref u.2.2.2.1, .ref u.1, .ref u.2.1], ai cI u.1 64 (u.2.2.2.2.2.2.1), ai cI u.2.1 64 (u.2.2.2.2.2.2.2.1), ai cI u.2.2.1 64 (u.2.2.2.2.2.2.2.2.1), ai cI u.2.2.2.1 64 (u.2.2.2.2.2.2.2.2.2)]) := by
  refine Cv.of ok_X8_init (Nat.le_of_ble_eq_true rfl) ?_
  intro p e s m args below meth c A Q hx hb hml hown ht hnm hK hP hA hS hret ls hl
  have hown : s.vm.findClass RX8 = some m.cls := hown
  have FX : CallFix p m c cX8_init 1 s args tblG RX8 := ⟨hx, hb, hml, hown, ht⟩
  have hP : PD D A [oc a_this 7 [.int 0, .int 0, .null, .null, .null, .null]] s.heap := hP
  have hl : lv_has ls 1 [(0, .ref a_this)] := hl
  unfold P_X8_init at hV
  refine lv_aload_n hx hb dX8_init_0 rfl (lv_at hl 0 rfl) ?_
  refine oin hx hb ht hown (hml.trans hl.1.symm) li_X8_3 (Nat.le_of_ble_eq_true rfl) (Nat.le_of_ble_eq_true rfl) dX8_init_1 ?_
  refine lv_aload_n hx hb dX8_init_4 rfl (lv_at hl 0 rfl) ?_
  refine lv_bipush (v := 64) hx hb dX8_init_5 (by decide) ?_
  refine nai hx hb ht hK hP hS hA 64 (by decide) (by decide) (by decide) (Nat.le_of_ble_eq_true rfl) (Nat.le_of_ble_eq_true rfl) dX8_init_7 (fun q7 H hP hS => ?_)
  have hV := hV q7
  have hP : PD D A [oc a_this 7 [.int 0, .int 0, .null, .null, .null, .null], ai cI q7 64 (fun _ => 0)] H := hP
  refine qX8 hx hb ht hown hK hP hS 0 rfl 2 (by decide) fl_X8_9 (fun _ h => h) rfl hnm rfl (tyX8_ok 2 (by decide)) rfl rfl (Nat.le_of_ble_eq_true rfl) dX8_init_9 (fun H locs hP hS => ?_)
  have hP : PD D A [oc a_this 7 [.int 0, .int 0, .ref q7, .null, .null, .null], ai cI q7 64 (fun _ => 0)] H := hP
  refine lv_aload_n hx hb dX8_init_12 rfl (lv_at hl 0 rfl) ?_
  refine lv_bipush (v := 64) hx hb dX8_init_13 (by decide) ?_
  refine nai hx hb ht hK hP hS hA 64 (by decide) (by decide) (by decide) (Nat.le_of_ble_eq_true rfl) (Nat.le_of_ble_eq_true rfl) dX8_init_15 (fun q15 H hP hS => ?_)
  have hV := hV q15
  have hP : PD D A [oc a_this 7 [.int 0, .int 0, .ref q7, .null, .null, .null], ai cI q7 64 (fun _ => 0), ai cI q15 64 (fun _ => 0)] H := hP
  refine qX8 hx hb ht hown hK hP hS 0 rfl 3 (by decide) fl_X8_15 (fun _ h => h) rfl hnm rfl (tyX8_ok 3 (by decide)) rfl rfl (Nat.le_of_ble_eq_true rfl) dX8_init_17 (fun H locs hP hS => ?_)
  have hP : PD D A [oc a_this 7 [.int 0, .int 0, .ref q7, .ref q15, .null, .null], ai cI q7 64 (fun _ => 0), ai cI q15 64 (fun _ => 0)] H := hP
  refine lv_aload_n hx hb dX8_init_20 rfl (lv_at hl 0 rfl) ?_
  refine lv_bipush (v := 64) hx hb dX8_init_21 (by decide) ?_
  refine nai hx hb ht hK hP hS hA 64 (by decide) (by decide) (by decide) (Nat.le_of_ble_eq_true rfl) (Nat.le_of_ble_eq_true rfl) dX8_init_23 (fun q23 H hP hS => ?_)
  have hV := hV q23
  have hP : PD D A [oc a_this 7 [.int 0, .int 0, .ref q7, .ref q15, .null, .null], ai cI q7 64 (fun _ => 0), ai cI q15 64 (fun _ => 0), ai cI q23 64 (fun _ => 0)] H := hP
  refine qX8 hx hb ht hown hK hP hS 0 rfl 4 (by decide) fl_X8_18 (fun _ h => h) rfl hnm rfl (tyX8_ok 4 (by decide)) rfl rfl (Nat.le_of_ble_eq_true rfl) dX8_init_25 (fun H locs hP hS => ?_)
  have hP : PD D A [oc a_this 7 [.int 0, .int 0, .ref q7, .ref q15, .ref q23, .null], ai cI q7 64 (fun _ => 0), ai cI q15 64 (fun _ => 0), ai cI q23 64 (fun _ => 0)] H := hP
  refine lv_aload_n hx hb dX8_init_28 rfl (lv_at hl 0 rfl) ?_
  refine lv_bipush (v := 64) hx hb dX8_init_29 (by decide) ?_
  refine nai hx hb ht hK hP hS hA 64 (by decide) (by decide) (by decide) (Nat.le_of_ble_eq_true rfl) (Nat.le_of_ble_eq_true rfl) dX8_init_31 (fun q31 H hP hS => ?_)
  have hV := hV q31
  have hP : PD D A [oc a_this 7 [.int 0, .int 0, .ref q7, .ref q15, .ref q23, .null], ai cI q7 64 (fun _ => 0), ai cI q15 64 (fun _ => 0), ai cI q23 64 (fun _ => 0), ai cI q31 64 (fun _ => 0)] H := hP
  refine qX8 hx hb ht hown hK hP hS 0 rfl 5 (by decide) fl_X8_21 (fun _ h => h) rfl hnm rfl (tyX8_ok 5 (by decide)) rfl rfl (Nat.le_of_ble_eq_true rfl) dX8_init_33 (fun H locs hP hS => ?_)
  have hP : PD D A [oc a_this 7 [.int 0, .int 0, .ref q7, .ref q15, .ref q23, .ref q31], ai cI q7 64 (fun _ => 0), ai cI q15 64 (fun _ => 0), ai cI q23 64 (fun _ => 0), ai cI q31 64 (fun _ => 0)] H := hP
  refine lv_aload_n hx hb dX8_init_36 rfl (lv_at hl 0 rfl) ?_
  refine KVv (As := []) (rest := []) FX (c_X8_clear l D cI cB cS a_this q7 q15 q23 q31 0 0 (fun _ => 0) (fun _ => 0) _ hV) ok_X8_clear im_X8_clear se_X8_clear li_X8_24 dX8_init_37 hK hP hS hA [0, 1, 2] [3, 4] 0 rfl rfl rfl (by decide) rfl rfl hl.1 (Nat.le_of_ble_eq_true rfl) ⟨Nat.le_of_ble_eq_true rfl, Nat.le_of_ble_eq_true rfl⟩ ⟨Nat.le_of_ble_eq_true rfl, Nat.le_of_ble_eq_true rfl⟩ (fun u H locs hV hP hS => ?_)
  obtain ⟨i_taken_1, i_piles_2, f_n7_3, f_n15_4⟩ := u
  try dsimp only at hV
  have hP : PD D A [ai cI q23 64 (fun _ => 0), ai cI q31 64 (fun _ => 0), oc a_this 7 [.int i_taken_1, .int i_piles_2, .ref q7, .ref q15, .ref q23, .ref q31], ai cI q7 64 f_n7_3, ai cI q15 64 f_n15_4] H := hP
  exact hret _ _ _ _ (q23, q31, q7, q15, i_taken_1, i_piles_2, (fun _ => 0), (fun _ => 0), f_n7_3, f_n15_4) hS dX8_init_40 (hP.sub [2, 0, 1, 3, 4] rfl rfl) hV

def rm_X7_weightOf : Room := { frames := 1, cells := 0, slots := 0, locals := 21 }
def V_X7_weightOf_18 (x1 : Int32) (x2 : Int32) (v6 : Int32) (f_weight : Nat → Int32) (K_6 : Int32 → Int32 → Prop) : Nat → Int32 → Int32 → Prop
  | 0, _, _ => False
  | n + 1, v5, v7 => (((x1 + x2) ≤ v7 → (∀ v6_1 : Int32, v6_1 = (v6 + 1) → K_6 v5 v6_1)) ∧ (¬ (x1 + x2) ≤ v7 → P_X9_place v7 v6 (fun r_2 => (vp_in r_2 64 ∧ (∀ v5_3 : Int32, v5_3 = (v5 + (f_weight r_2.toNatClampNeg)) → (∀ v7_4 : Int32, v7_4 = (v7 + 1) → V_X7_weightOf_18 x1 x2 v6 f_weight K_6 n v5_3 v7_4))))))
theorem V_X7_weightOf_18_s (x1 : Int32) (x2 : Int32) (v6 : Int32) (f_weight : Nat → Int32) (K_6 : Int32 → Int32 → Prop) (n : Nat) (v5 : Int32) (v7 : Int32) : V_X7_weightOf_18 x1 x2 v6 f_weight K_6 (n + 1) v5 v7 = ((((x1 + x2) ≤ v7 → (∀ v6_1 : Int32, v6_1 = (v6 + 1) → K_6 v5 v6_1)) ∧ (¬ (x1 + x2) ≤ v7 → P_X9_place v7 v6 (fun r_2 => (vp_in r_2 64 ∧ (∀ v5_3 : Int32, v5_3 = (v5 + (f_weight r_2.toNatClampNeg)) → (∀ v7_4 : Int32, v7_4 = (v7 + 1) → V_X7_weightOf_18 x1 x2 v6 f_weight K_6 n v5_3 v7_4))))))) := rfl
def V_X7_weightOf_6 (x1 : Int32) (x2 : Int32) (x3 : Int32) (x4 : Int32) (f_weight : Nat → Int32) (post : Int32 → Prop) : Nat → Int32 → Int32 → Prop
  | 0, _, _ => False
  | n + 1, v5, v6 => (((x3 + x4) ≤ v6 → post v5) ∧ (¬ (x3 + x4) ≤ v6 → (∃ k : Nat, V_X7_weightOf_18 x1 x2 v6 f_weight (V_X7_weightOf_6 x1 x2 x3 x4 f_weight post n) k v5 x1)))
theorem V_X7_weightOf_6_s (x1 : Int32) (x2 : Int32) (x3 : Int32) (x4 : Int32) (f_weight : Nat → Int32) (post : Int32 → Prop) (n : Nat) (v5 : Int32) (v6 : Int32) : V_X7_weightOf_6 x1 x2 x3 x4 f_weight post (n + 1) v5 v6 = ((((x3 + x4) ≤ v6 → post v5) ∧ (¬ (x3 + x4) ≤ v6 → (∃ k : Nat, V_X7_weightOf_18 x1 x2 v6 f_weight (V_X7_weightOf_6 x1 x2 x3 x4 f_weight post n) k v5 x1)))) := rfl
def P_X7_weightOf (x1 : Int32) (x2 : Int32) (x3 : Int32) (x4 : Int32) (f_weight : Nat → Int32) (post : Int32 → Prop) : Prop := (∃ k : Nat, V_X7_weightOf_6 x1 x2 x3 x4 f_weight post k 0 x3)
set_option maxRecDepth 100000 in
set_option maxHeartbeats 4000000 in
theorem c_X7_weightOf (l : Launch) (D : va_G) (cI cB cS : ClassId) (a_this a_weight a_motif : Nat) (x1 : Int32) (x2 : Int32) (x3 : Int32) (x4 : Int32) (i_columns : Int32) (i_rows : Int32) (f_weight : Nat → Int32) (post : Int32 → Prop) (hV : P_X7_weightOf x1 x2 x3 x4 f_weight post) : Ci l yX7_weightOf cX7_weightOf 8 (some .int) rm_X7_weightOf D cI cB cS [.ref a_this, .int x1, .int x2, .int x3, .int x4] [oc a_this 6 [.int i_columns, .int i_rows, .ref a_weight, .ref a_motif], ai cI a_weight 64 f_weight] (fun r (_ : Unit) => post r) (fun (_ : Unit) => [oc a_this 6 [.int i_columns, .int i_rows, .ref a_weight, .ref a_motif], ai cI a_weight 64 f_weight]) := by
  refine Ci.of ok_X7_weightOf (Nat.le_of_ble_eq_true rfl) ?_
  intro p e s m args below meth c A Q hx hb hml hown ht hnm hK hP hA hS hret ls hl
  have hown : s.vm.findClass RX7 = some m.cls := hown
  have FX : CallFix p m c cX7_weightOf 8 s args tblG RX7 := ⟨hx, hb, hml, hown, ht⟩
  have hP : PD D A [oc a_this 6 [.int i_columns, .int i_rows, .ref a_weight, .ref a_motif], ai cI a_weight 64 f_weight] s.heap := hP
  have hl : lv_has ls 8 [(0, .ref a_this), (1, .int x1), (2, .int x2), (3, .int x3), (4, .int x4)] := hl
  unfold P_X7_weightOf at hV
  have b6 : ∀  (k6 : Nat) (v5 : Int32) (v6 : Int32) (H : Heap) (locs : List Loc) (ls : Array Slot), PD D A [oc a_this 6 [.int i_columns, .int i_rows, .ref a_weight, .ref a_motif], ai cI a_weight 64 f_weight] H → va_S A s.heap H locs → lv_has ls 8 [(0, .ref a_this), (1, .int x1), (2, .int x2), (3, .int x3), (4, .int x4), (5, .int v5), (6, .int v6)] → V_X7_weightOf_6 x1 x2 x3 x4 f_weight post k6 v5 v6 → W p l e rm_X7_weightOf s m args below meth c H locs 0 0 Q (F0 m 6 ls []) := by
    intro  k6
    induction k6 with
    | zero => intro v5 v6 H locs ls hP hS hl hV; exact False.elim hV
    | succ k6 ih6 =>
      intro v5 v6 H locs ls hP hS hl hV
      rw [V_X7_weightOf_6_s] at hV
      have b18 : ∀ (v6 : Int32) (k18 : Nat) (v5 : Int32) (v7 : Int32) (H : Heap) (locs : List Loc) (ls : Array Slot), PD D A [oc a_this 6 [.int i_columns, .int i_rows, .ref a_weight, .ref a_motif], ai cI a_weight 64 f_weight] H → va_S A s.heap H locs → lv_has ls 8 [(0, .ref a_this), (1, .int x1), (2, .int x2), (3, .int x3), (4, .int x4), (5, .int v5), (6, .int v6), (7, .int v7)] → V_X7_weightOf_18 x1 x2 v6 f_weight (V_X7_weightOf_6 x1 x2 x3 x4 f_weight post k6) k18 v5 v7 → W p l e rm_X7_weightOf s m args below meth c H locs 0 0 Q (F0 m 18 ls []) := by
        intro v6 k18
        induction k18 with
        | zero => intro v5 v7 H locs ls hP hS hl hV; exact False.elim hV
        | succ k18 ih18 =>
          intro v5 v7 H locs ls hP hS hl hV
          rw [V_X7_weightOf_18_s] at hV
          refine lv_iload hx hb dX7_weightOf_18 (lv_at hl 7 rfl) ?_
          refine lv_iload_n hx hb dX7_weightOf_20 rfl (lv_at hl 1 rfl) ?_
          refine lv_iload_n hx hb dX7_weightOf_21 rfl (lv_at hl 2 rfl) ?_
          refine lv_iadd hx hb dX7_weightOf_22 ?_
          refine lv_icmp_ge (tgt := 49) hx hb dX7_weightOf_23 (by decide) (fun h => ?_) (fun h => ?_)
          · have hV := hV.1 h
            obtain ⟨v6_1, e_v6_1⟩ : ∃ y : Int32, y = (v6 + 1) := ⟨_, rfl⟩
            have hV := hV v6_1 e_v6_1
            refine lv_iinc (v := v6_1) (lv' := [(6, .int v6_1), (0, .ref a_this), (1, .int x1), (2, .int x2), (3, .int x3), (4, .int x4), (5, .int v5), (7, .int v7)]) hx hb dX7_weightOf_49 hl (k := 6) rfl (by rw [e_v6_1]; rfl) (by decide) rfl (fun ls hl => ?_)
            refine lv_goto (tgt := 6) hx hb dX7_weightOf_52 (by decide) ?_
            exact ih6 v5 v6_1 _ _ _ hP hS (lv_sub hl [1, 2, 3, 4, 5, 6, 0] rfl) hV
          · have hV := hV.2 h
            refine lv_iload hx hb dX7_weightOf_26 (lv_at hl 5 rfl) ?_
            refine lv_aload_n hx hb dX7_weightOf_28 rfl (lv_at hl 0 rfl) ?_
            refine gX7 hx hb ht hown hK hP 0 rfl 2 (by decide) fl_X7_9 (fun _ h => h) rfl dX7_weightOf_29 ?_
            refine lv_iload hx hb dX7_weightOf_32 (lv_at hl 7 rfl) ?_
            refine lv_iload hx hb dX7_weightOf_34 (lv_at hl 6 rfl) ?_
            refine KNi (As := [.int v7, .int v6]) (rest := [.ref a_weight, .int v5]) FX (c_X9_place l D cI cB cS v7 v6 _ hV) ok_X9_place is_X9_place nq_X7_39 dX7_weightOf_36 hK hP hS hA [] [0, 1] rfl rfl (by decide) rfl hl.1 (Nat.le_of_ble_eq_true rfl) ⟨Nat.le_of_ble_eq_true rfl, Nat.le_of_ble_eq_true rfl⟩ ⟨Nat.le_of_ble_eq_true rfl, Nat.le_of_ble_eq_true rfl⟩ (fun r_2 _ H locs hV hP hS => ?_)
            have hP : PD D A [oc a_this 6 [.int i_columns, .int i_rows, .ref a_weight, .ref a_motif], ai cI a_weight 64 f_weight] H := hP
            refine ild hx hb hK hP 1 rfl dX7_weightOf_39 hV.1 ?_
            have hV := hV.2
            refine lv_iadd hx hb dX7_weightOf_40 ?_
            refine lv_topi (fun v5_3 e_v5_3 => ?_)
            have hV := hV v5_3 e_v5_3
            refine lv_istore (lv' := [(5, .int v5_3), (0, .ref a_this), (1, .int x1), (2, .int x2), (3, .int x3), (4, .int x4), (6, .int v6), (7, .int v7)]) hx hb dX7_weightOf_41 hl (by decide) rfl (fun ls hl => ?_)
            obtain ⟨v7_4, e_v7_4⟩ : ∃ y : Int32, y = (v7 + 1) := ⟨_, rfl⟩
            have hV := hV v7_4 e_v7_4
            refine lv_iinc (v := v7_4) (lv' := [(7, .int v7_4), (5, .int v5_3), (0, .ref a_this), (1, .int x1), (2, .int x2), (3, .int x3), (4, .int x4), (6, .int v6)]) hx hb dX7_weightOf_43 hl (k := 7) rfl (by rw [e_v7_4]; rfl) (by decide) rfl (fun ls hl => ?_)
            refine lv_goto (tgt := 18) hx hb dX7_weightOf_46 (by decide) ?_
            exact ih18 v5_3 v7_4 _ _ _ hP hS (lv_sub hl [2, 3, 4, 5, 6, 1, 7, 0] rfl) hV
      refine lv_iload hx hb dX7_weightOf_6 (lv_at hl 6 rfl) ?_
      refine lv_iload_n hx hb dX7_weightOf_8 rfl (lv_at hl 3 rfl) ?_
      refine lv_iload hx hb dX7_weightOf_9 (lv_at hl 4 rfl) ?_
      refine lv_iadd hx hb dX7_weightOf_11 ?_
      refine lv_icmp_ge (tgt := 55) hx hb dX7_weightOf_12 (by decide) (fun h => ?_) (fun h => ?_)
      · have hV := hV.1 h
        refine lv_iload hx hb dX7_weightOf_55 (lv_at hl 5 rfl) ?_
        exact hret _ _ _ _ _ () hS dX7_weightOf_57 hP hV
      · have hV := hV.2 h
        refine lv_iload_n hx hb dX7_weightOf_15 rfl (lv_at hl 1 rfl) ?_
        refine lv_istore (lv' := [(7, .int x1), (0, .ref a_this), (1, .int x1), (2, .int x2), (3, .int x3), (4, .int x4), (5, .int v5), (6, .int v6)]) hx hb dX7_weightOf_16 hl (by decide) rfl (fun ls hl => ?_)
        obtain ⟨k, hV⟩ := hV
        exact b18 v6 k v5 x1 _ _ _ hP hS (lv_sub hl [1, 2, 3, 4, 5, 6, 7, 0] rfl) hV
  refine lv_iconst (v := 0) hx hb dX7_weightOf_0 (by decide) ?_
  refine lv_istore (lv' := [(5, .int 0), (0, .ref a_this), (1, .int x1), (2, .int x2), (3, .int x3), (4, .int x4)]) hx hb dX7_weightOf_1 hl (by decide) rfl (fun ls hl => ?_)
  refine lv_iload_n hx hb dX7_weightOf_3 rfl (lv_at hl 4 rfl) ?_
  refine lv_istore (lv' := [(6, .int x3), (5, .int 0), (0, .ref a_this), (1, .int x1), (2, .int x2), (3, .int x3), (4, .int x4)]) hx hb dX7_weightOf_4 hl (by decide) rfl (fun ls hl => ?_)
  obtain ⟨k, hV⟩ := hV
  exact b6 k 0 x3 _ _ _ hP hS (lv_sub hl [2, 3, 4, 5, 6, 1, 0] rfl) hV

def rm_X7_become : Room := { frames := 2, cells := 0, slots := 0, locals := 39 }
def P_X7_become (f_weight : Nat → Int32) (f_motif : Nat → Int32) (i_p1_columns : Int32) (i_p1_rows : Int32) (f_p1_weight : Nat → Int32) (f_p1_motif : Nat → Int32) (post : Int32 → Int32 → (Nat → Int32) → (Nat → Int32) → Prop) : Prop := P_X9_copyRow 64 64 f_p1_weight f_weight (fun f_weight_1 => P_X9_copyRow 64 64 f_p1_motif f_motif (fun f_motif_2 => post i_p1_columns i_p1_rows f_weight_1 f_motif_2))
set_option maxRecDepth 100000 in
set_option maxHeartbeats 4000000 in
theorem c_X7_become (l : Launch) (D : va_G) (cI cB cS : ClassId) (a_this a_weight a_motif a_p1 a_p1_weight a_p1_motif : Nat) (i_columns : Int32) (i_rows : Int32) (f_weight : Nat → Int32) (f_motif : Nat → Int32) (i_p1_columns : Int32) (i_p1_rows : Int32) (f_p1_weight : Nat → Int32) (f_p1_motif : Nat → Int32) (post : Int32 → Int32 → (Nat → Int32) → (Nat → Int32) → Prop) (hV : P_X7_become f_weight f_motif i_p1_columns i_p1_rows f_p1_weight f_p1_motif post) : Cv l yX7_become cX7_become 2 none rm_X7_become D cI cB cS [.ref a_this, .ref a_p1] [oc a_this 6 [.int i_columns, .int i_rows, .ref a_weight, .ref a_motif], ai cI a_weight 64 f_weight, ai cI a_motif 64 f_motif, oc a_p1 6 [.int i_p1_columns, .int i_p1_rows, .ref a_p1_weight, .ref a_p1_motif], ai cI a_p1_weight 64 f_p1_weight, ai cI a_p1_motif 64 f_p1_motif] (fun (u : Int32 × Int32 × (Nat → Int32) × (Nat → Int32)) => post u.1 u.2.1 u.2.2.1 u.2.2.2) (fun (u : Int32 × Int32 × (Nat → Int32) × (Nat → Int32)) => [oc a_this 6 [.int u.1, .int u.2.1, .ref a_weight, .ref a_motif], ai cI a_weight 64 (u.2.2.1), ai cI a_motif 64 (u.2.2.2), oc a_p1 6 [.int i_p1_columns, .int i_p1_rows, .ref a_p1_weight, .ref a_p1_motif], ai cI a_p1_weight 64 f_p1_weight, ai cI a_p1_motif 64 f_p1_motif]) := by
  refine Cv.of ok_X7_become (Nat.le_of_ble_eq_true rfl) ?_
  intro p e s m args below meth c A Q hx hb hml hown ht hnm hK hP hA hS hret ls hl
  have hown : s.vm.findClass RX7 = some m.cls := hown
  have FX : CallFix p m c cX7_become 2 s args tblG RX7 := ⟨hx, hb, hml, hown, ht⟩
  have hP : PD D A [oc a_this 6 [.int i_columns, .int i_rows, .ref a_weight, .ref a_motif], ai cI a_weight 64 f_weight, ai cI a_motif 64 f_motif, oc a_p1 6 [.int i_p1_columns, .int i_p1_rows, .ref a_p1_weight, .ref a_p1_motif], ai cI a_p1_weight 64 f_p1_weight, ai cI a_p1_motif 64 f_p1_motif] s.heap := hP
  have hl : lv_has ls 2 [(0, .ref a_this), (1, .ref a_p1)] := hl
  unfold P_X7_become at hV
  refine lv_aload_n hx hb dX7_become_0 rfl (lv_at hl 0 rfl) ?_
  refine lv_aload_n hx hb dX7_become_1 rfl (lv_at hl 1 rfl) ?_
  refine gX7 hx hb ht hown hK hP 3 rfl 0 (by decide) fl_X7_22 (fun _ h => h) rfl dX7_become_2 ?_
  refine pX7 hx hb ht hown hK hP hS 0 rfl 0 (by decide) fl_X7_22 (fun _ h => h) rfl (tyX7_ok 0 (by decide)) rfl rfl (Nat.le_of_ble_eq_true rfl) dX7_become_5 (fun H locs hP hS => ?_)
  have hP : PD D A [oc a_this 6 [.int i_p1_columns, .int i_rows, .ref a_weight, .ref a_motif], ai cI a_weight 64 f_weight, ai cI a_motif 64 f_motif, oc a_p1 6 [.int i_p1_columns, .int i_p1_rows, .ref a_p1_weight, .ref a_p1_motif], ai cI a_p1_weight 64 f_p1_weight, ai cI a_p1_motif 64 f_p1_motif] H := hP
  refine lv_aload_n hx hb dX7_become_8 rfl (lv_at hl 0 rfl) ?_
  refine lv_aload_n hx hb dX7_become_9 rfl (lv_at hl 1 rfl) ?_
  refine gX7 hx hb ht hown hK hP 3 rfl 1 (by decide) fl_X7_26 (fun _ h => h) rfl dX7_become_10 ?_
  refine pX7 hx hb ht hown hK hP hS 0 rfl 1 (by decide) fl_X7_26 (fun _ h => h) rfl (tyX7_ok 1 (by decide)) rfl rfl (Nat.le_of_ble_eq_true rfl) dX7_become_13 (fun H locs hP hS => ?_)
  have hP : PD D A [oc a_this 6 [.int i_p1_columns, .int i_p1_rows, .ref a_weight, .ref a_motif], ai cI a_weight 64 f_weight, ai cI a_motif 64 f_motif, oc a_p1 6 [.int i_p1_columns, .int i_p1_rows, .ref a_p1_weight, .ref a_p1_motif], ai cI a_p1_weight 64 f_p1_weight, ai cI a_p1_motif 64 f_p1_motif] H := hP
  refine lv_aload_n hx hb dX7_become_16 rfl (lv_at hl 1 rfl) ?_
  refine gX7 hx hb ht hown hK hP 3 rfl 2 (by decide) fl_X7_9 (fun _ h => h) rfl dX7_become_17 ?_
  refine lv_aload_n hx hb dX7_become_20 rfl (lv_at hl 0 rfl) ?_
  refine gX7 hx hb ht hown hK hP 0 rfl 2 (by decide) fl_X7_9 (fun _ h => h) rfl dX7_become_21 ?_
  refine KNv (As := [.ref a_p1_weight, .ref a_weight]) (rest := []) FX (c_X9_copyRow l D cI cB cS a_p1_weight a_weight 64 64 f_p1_weight f_weight _ hV) ok_X9_copyRow is_X9_copyRow nq_X7_43 dX7_become_24 hK hP hS hA [4, 1] [0, 2, 3, 5] rfl rfl (by decide) rfl hl.1 (Nat.le_of_ble_eq_true rfl) ⟨Nat.le_of_ble_eq_true rfl, Nat.le_of_ble_eq_true rfl⟩ ⟨Nat.le_of_ble_eq_true rfl, Nat.le_of_ble_eq_true rfl⟩ (fun f_weight_1 H locs hV hP hS => ?_)
  have hP : PD D A [oc a_this 6 [.int i_p1_columns, .int i_p1_rows, .ref a_weight, .ref a_motif], ai cI a_motif 64 f_motif, oc a_p1 6 [.int i_p1_columns, .int i_p1_rows, .ref a_p1_weight, .ref a_p1_motif], ai cI a_p1_motif 64 f_p1_motif, ai cI a_p1_weight 64 f_p1_weight, ai cI a_weight 64 f_weight_1] H := hP
  refine lv_aload_n hx hb dX7_become_27 rfl (lv_at hl 1 rfl) ?_
  refine gX7 hx hb ht hown hK hP 2 rfl 3 (by decide) fl_X7_15 (fun _ h => h) rfl dX7_become_28 ?_
  refine lv_aload_n hx hb dX7_become_31 rfl (lv_at hl 0 rfl) ?_
  refine gX7 hx hb ht hown hK hP 0 rfl 3 (by decide) fl_X7_15 (fun _ h => h) rfl dX7_become_32 ?_
  refine KNv (As := [.ref a_p1_motif, .ref a_motif]) (rest := []) FX (c_X9_copyRow l D cI cB cS a_p1_motif a_motif 64 64 f_p1_motif f_motif _ hV) ok_X9_copyRow is_X9_copyRow nq_X7_43 dX7_become_35 hK hP hS hA [3, 1] [0, 2, 4, 5] rfl rfl (by decide) rfl hl.1 (Nat.le_of_ble_eq_true rfl) ⟨Nat.le_of_ble_eq_true rfl, Nat.le_of_ble_eq_true rfl⟩ ⟨Nat.le_of_ble_eq_true rfl, Nat.le_of_ble_eq_true rfl⟩ (fun f_motif_2 H locs hV hP hS => ?_)
  have hP : PD D A [oc a_this 6 [.int i_p1_columns, .int i_p1_rows, .ref a_weight, .ref a_motif], oc a_p1 6 [.int i_p1_columns, .int i_p1_rows, .ref a_p1_weight, .ref a_p1_motif], ai cI a_p1_weight 64 f_p1_weight, ai cI a_weight 64 f_weight_1, ai cI a_p1_motif 64 f_p1_motif, ai cI a_motif 64 f_motif_2] H := hP
  exact hret _ _ _ _ (i_p1_columns, i_p1_rows, f_weight_1, f_motif_2) hS dX7_become_38 (hP.sub [0, 3, 5, 1, 2, 4] rfl rfl) hV

def rm_X8_become : Room := { frames := 2, cells := 0, slots := 0, locals := 39 }
def P_X8_become (f_takenOn : Nat → Int32) (f_pileOf : Nat → Int32) (f_placeOf : Nat → Int32) (f_uppermost : Nat → Int32) (i_p1_taken : Int32) (i_p1_piles : Int32) (f_p1_takenOn : Nat → Int32) (f_p1_pileOf : Nat → Int32) (f_p1_placeOf : Nat → Int32) (f_p1_uppermost : Nat → Int32) (post : Int32 → Int32 → (Nat → Int32) → (Nat → Int32) → (Nat → Int32) → (Nat → Int32) → Prop) : Prop := P_X9_copyRow 64 64 f_p1_takenOn f_takenOn (fun f_takenOn_1 => P_X9_copyRow 64 64 f_p1_pileOf f_pileOf (fun f_pileOf_2 => P_X9_copyRow 64 64 f_p1_placeOf f_placeOf (fun f_placeOf_3 => P_X9_copyRow 64 64 f_p1_uppermost f_uppermost (fun f_uppermost_4 => post i_p1_taken i_p1_piles f_takenOn_1 f_pileOf_2 f_placeOf_3 f_uppermost_4))))
set_option maxRecDepth 100000 in
set_option maxHeartbeats 4000000 in
theorem c_X8_become (l : Launch) (D : va_G) (cI cB cS : ClassId) (a_this a_takenOn a_pileOf a_placeOf a_uppermost a_p1 a_p1_takenOn a_p1_pileOf a_p1_placeOf a_p1_uppermost : Nat) (i_taken : Int32) (i_piles : Int32) (f_takenOn : Nat → Int32) (f_pileOf : Nat → Int32) (f_placeOf : Nat → Int32) (f_uppermost : Nat → Int32) (i_p1_taken : Int32) (i_p1_piles : Int32) (f_p1_takenOn : Nat → Int32) (f_p1_pileOf : Nat → Int32) (f_p1_placeOf : Nat → Int32) (f_p1_uppermost : Nat → Int32) (post : Int32 → Int32 → (Nat → Int32) → (Nat → Int32) → (Nat → Int32) → (Nat → Int32) → Prop) (hV : P_X8_become f_takenOn f_pileOf f_placeOf f_uppermost i_p1_taken i_p1_piles f_p1_takenOn f_p1_pileOf f_p1_placeOf f_p1_uppermost post) : Cv l yX8_become cX8_become 2 none rm_X8_become D cI cB cS [.ref a_this, .ref a_p1] [oc a_this 7 [.int i_taken, .int i_piles, .ref a_takenOn, .ref a_pileOf, .ref a_placeOf, .ref a_uppermost], ai cI a_takenOn 64 f_takenOn, ai cI a_pileOf 64 f_pileOf, ai cI a_placeOf 64 f_placeOf, ai cI a_uppermost 64 f_uppermost, oc a_p1 7 [.int i_p1_taken, .int i_p1_piles, .ref a_p1_takenOn, .ref a_p1_pileOf, .ref a_p1_placeOf, .ref a_p1_uppermost], ai cI a_p1_takenOn 64 f_p1_takenOn, ai cI a_p1_pileOf 64 f_p1_pileOf, ai cI a_p1_placeOf 64 f_p1_placeOf, ai cI a_p1_uppermost 64 f_p1_uppermost] (fun (u : Int32 × Int32 × (Nat → Int32) × (Nat → Int32) × (Nat → Int32) × (Nat → Int32)) => post u.1 u.2.1 u.2.2.1 u.2.2.2.1 u.2.2.2.2.1 u.2.2.2.2.2) (fun (u : Int32 × Int32 × (Nat → Int32) × (Nat → Int32) × (Nat → Int32) × (Nat → Int32)) => [oc a_this 7 [.int u.1, .int u.2.1, .ref a_takenOn, .ref a_pileOf, .ref a_placeOf, .ref a_uppermost], ai cI a_takenOn 64 (u.2.2.1), ai cI a_pileOf 64 (u.2.2.2.1), ai cI a_placeOf 64 (u.2.2.2.2.1), ai cI a_uppermost 64 (u.2.2.2.2.2), oc a_p1 7 [.int i_p1_taken, .int i_p1_piles, .ref a_p1_takenOn, .ref a_p1_pileOf, .ref a_p1_placeOf, .ref a_p1_uppermost], ai cI a_p1_takenOn 64 f_p1_takenOn, ai cI a_p1_pileOf 64 f_p1_pileOf, ai cI a_p1_placeOf 64 f_p1_placeOf, ai cI a_p1_uppermost 64 f_p1_uppermost]) := by
  refine Cv.of ok_X8_become (Nat.le_of_ble_eq_true rfl) ?_
  intro p e s m args below meth c A Q hx hb hml hown ht hnm hK hP hA hS hret ls hl
  have hown : s.vm.findClass RX8 = some m.cls := hown
  have FX : CallFix p m c cX8_become 2 s args tblG RX8 := ⟨hx, hb, hml, hown, ht⟩
  have hP : PD D A [oc a_this 7 [.int i_taken, .int i_piles, .ref a_takenOn, .ref a_pileOf, .ref a_placeOf, .ref a_uppermost], ai cI a_takenOn 64 f_takenOn, ai cI a_pileOf 64 f_pileOf, ai cI a_placeOf 64 f_placeOf, ai cI a_uppermost 64 f_uppermost, oc a_p1 7 [.int i_p1_taken, .int i_p1_piles, .ref a_p1_takenOn, .ref a_p1_pileOf, .ref a_p1_placeOf, .ref a_p1_uppermost], ai cI a_p1_takenOn 64 f_p1_takenOn, ai cI a_p1_pileOf 64 f_p1_pileOf, ai cI a_p1_placeOf 64 f_p1_placeOf, ai cI a_p1_uppermost 64 f_p1_uppermost] s.heap := hP
  have hl : lv_has ls 2 [(0, .ref a_this), (1, .ref a_p1)] := hl
  unfold P_X8_become at hV
  refine lv_aload_n hx hb dX8_become_0 rfl (lv_at hl 0 rfl) ?_
  refine lv_aload_n hx hb dX8_become_1 rfl (lv_at hl 1 rfl) ?_
  refine gX8 hx hb ht hown hK hP 5 rfl 0 (by decide) fl_X8_27 (fun _ h => h) rfl dX8_become_2 ?_
  refine pX8 hx hb ht hown hK hP hS 0 rfl 0 (by decide) fl_X8_27 (fun _ h => h) rfl (tyX8_ok 0 (by decide)) rfl rfl (Nat.le_of_ble_eq_true rfl) dX8_become_5 (fun H locs hP hS => ?_)
  have hP : PD D A [oc a_this 7 [.int i_p1_taken, .int i_piles, .ref a_takenOn, .ref a_pileOf, .ref a_placeOf, .ref a_uppermost], ai cI a_takenOn 64 f_takenOn, ai cI a_pileOf 64 f_pileOf, ai cI a_placeOf 64 f_placeOf, ai cI a_uppermost 64 f_uppermost, oc a_p1 7 [.int i_p1_taken, .int i_p1_piles, .ref a_p1_takenOn, .ref a_p1_pileOf, .ref a_p1_placeOf, .ref a_p1_uppermost], ai cI a_p1_takenOn 64 f_p1_takenOn, ai cI a_p1_pileOf 64 f_p1_pileOf, ai cI a_p1_placeOf 64 f_p1_placeOf, ai cI a_p1_uppermost 64 f_p1_uppermost] H := hP
  refine lv_aload_n hx hb dX8_become_8 rfl (lv_at hl 0 rfl) ?_
  refine lv_aload_n hx hb dX8_become_9 rfl (lv_at hl 1 rfl) ?_
  refine gX8 hx hb ht hown hK hP 5 rfl 1 (by decide) fl_X8_31 (fun _ h => h) rfl dX8_become_10 ?_
  refine pX8 hx hb ht hown hK hP hS 0 rfl 1 (by decide) fl_X8_31 (fun _ h => h) rfl (tyX8_ok 1 (by decide)) rfl rfl (Nat.le_of_ble_eq_true rfl) dX8_become_13 (fun H locs hP hS => ?_)
  have hP : PD D A [oc a_this 7 [.int i_p1_taken, .int i_p1_piles, .ref a_takenOn, .ref a_pileOf, .ref a_placeOf, .ref a_uppermost], ai cI a_takenOn 64 f_takenOn, ai cI a_pileOf 64 f_pileOf, ai cI a_placeOf 64 f_placeOf, ai cI a_uppermost 64 f_uppermost, oc a_p1 7 [.int i_p1_taken, .int i_p1_piles, .ref a_p1_takenOn, .ref a_p1_pileOf, .ref a_p1_placeOf, .ref a_p1_uppermost], ai cI a_p1_takenOn 64 f_p1_takenOn, ai cI a_p1_pileOf 64 f_p1_pileOf, ai cI a_p1_placeOf 64 f_p1_placeOf, ai cI a_p1_uppermost 64 f_p1_uppermost] H := hP
  refine lv_aload_n hx hb dX8_become_16 rfl (lv_at hl 1 rfl) ?_
  refine gX8 hx hb ht hown hK hP 5 rfl 2 (by decide) fl_X8_9 (fun _ h => h) rfl dX8_become_17 ?_
  refine lv_aload_n hx hb dX8_become_20 rfl (lv_at hl 0 rfl) ?_
  refine gX8 hx hb ht hown hK hP 0 rfl 2 (by decide) fl_X8_9 (fun _ h => h) rfl dX8_become_21 ?_
  refine KNv (As := [.ref a_p1_takenOn, .ref a_takenOn]) (rest := []) FX (c_X9_copyRow l D cI cB cS a_p1_takenOn a_takenOn 64 64 f_p1_takenOn f_takenOn _ hV) ok_X9_copyRow is_X9_copyRow nq_X8_44 dX8_become_24 hK hP hS hA [6, 1] [0, 2, 3, 4, 5, 7, 8, 9] rfl rfl (by decide) rfl hl.1 (Nat.le_of_ble_eq_true rfl) ⟨Nat.le_of_ble_eq_true rfl, Nat.le_of_ble_eq_true rfl⟩ ⟨Nat.le_of_ble_eq_true rfl, Nat.le_of_ble_eq_true rfl⟩ (fun f_takenOn_1 H locs hV hP hS => ?_)
  have hP : PD D A [oc a_this 7 [.int i_p1_taken, .int i_p1_piles, .ref a_takenOn, .ref a_pileOf, .ref a_placeOf, .ref a_uppermost], ai cI a_pileOf 64 f_pileOf, ai cI a_placeOf 64 f_placeOf, ai cI a_uppermost 64 f_uppermost, oc a_p1 7 [.int i_p1_taken, .int i_p1_piles, .ref a_p1_takenOn, .ref a_p1_pileOf, .ref a_p1_placeOf, .ref a_p1_uppermost], ai cI a_p1_pileOf 64 f_p1_pileOf, ai cI a_p1_placeOf 64 f_p1_placeOf, ai cI a_p1_uppermost 64 f_p1_uppermost, ai cI a_p1_takenOn 64 f_p1_takenOn, ai cI a_takenOn 64 f_takenOn_1] H := hP
  refine lv_aload_n hx hb dX8_become_27 rfl (lv_at hl 1 rfl) ?_
  refine gX8 hx hb ht hown hK hP 4 rfl 3 (by decide) fl_X8_15 (fun _ h => h) rfl dX8_become_28 ?_
  refine lv_aload_n hx hb dX8_become_31 rfl (lv_at hl 0 rfl) ?_
  refine gX8 hx hb ht hown hK hP 0 rfl 3 (by decide) fl_X8_15 (fun _ h => h) rfl dX8_become_32 ?_
  refine KNv (As := [.ref a_p1_pileOf, .ref a_pileOf]) (rest := []) FX (c_X9_copyRow l D cI cB cS a_p1_pileOf a_pileOf 64 64 f_p1_pileOf f_pileOf _ hV) ok_X9_copyRow is_X9_copyRow nq_X8_44 dX8_become_35 hK hP hS hA [5, 1] [0, 2, 3, 4, 6, 7, 8, 9] rfl rfl (by decide) rfl hl.1 (Nat.le_of_ble_eq_true rfl) ⟨Nat.le_of_ble_eq_true rfl, Nat.le_of_ble_eq_true rfl⟩ ⟨Nat.le_of_ble_eq_true rfl, Nat.le_of_ble_eq_true rfl⟩ (fun f_pileOf_2 H locs hV hP hS => ?_)
  have hP : PD D A [oc a_this 7 [.int i_p1_taken, .int i_p1_piles, .ref a_takenOn, .ref a_pileOf, .ref a_placeOf, .ref a_uppermost], ai cI a_placeOf 64 f_placeOf, ai cI a_uppermost 64 f_uppermost, oc a_p1 7 [.int i_p1_taken, .int i_p1_piles, .ref a_p1_takenOn, .ref a_p1_pileOf, .ref a_p1_placeOf, .ref a_p1_uppermost], ai cI a_p1_placeOf 64 f_p1_placeOf, ai cI a_p1_uppermost 64 f_p1_uppermost, ai cI a_p1_takenOn 64 f_p1_takenOn, ai cI a_takenOn 64 f_takenOn_1, ai cI a_p1_pileOf 64 f_p1_pileOf, ai cI a_pileOf 64 f_pileOf_2] H := hP
  refine lv_aload_n hx hb dX8_become_38 rfl (lv_at hl 1 rfl) ?_
  refine gX8 hx hb ht hown hK hP 3 rfl 4 (by decide) fl_X8_18 (fun _ h => h) rfl dX8_become_39 ?_
  refine lv_aload_n hx hb dX8_become_42 rfl (lv_at hl 0 rfl) ?_
  refine gX8 hx hb ht hown hK hP 0 rfl 4 (by decide) fl_X8_18 (fun _ h => h) rfl dX8_become_43 ?_
  refine KNv (As := [.ref a_p1_placeOf, .ref a_placeOf]) (rest := []) FX (c_X9_copyRow l D cI cB cS a_p1_placeOf a_placeOf 64 64 f_p1_placeOf f_placeOf _ hV) ok_X9_copyRow is_X9_copyRow nq_X8_44 dX8_become_46 hK hP hS hA [4, 1] [0, 2, 3, 5, 6, 7, 8, 9] rfl rfl (by decide) rfl hl.1 (Nat.le_of_ble_eq_true rfl) ⟨Nat.le_of_ble_eq_true rfl, Nat.le_of_ble_eq_true rfl⟩ ⟨Nat.le_of_ble_eq_true rfl, Nat.le_of_ble_eq_true rfl⟩ (fun f_placeOf_3 H locs hV hP hS => ?_)
  have hP : PD D A [oc a_this 7 [.int i_p1_taken, .int i_p1_piles, .ref a_takenOn, .ref a_pileOf, .ref a_placeOf, .ref a_uppermost], ai cI a_uppermost 64 f_uppermost, oc a_p1 7 [.int i_p1_taken, .int i_p1_piles, .ref a_p1_takenOn, .ref a_p1_pileOf, .ref a_p1_placeOf, .ref a_p1_uppermost], ai cI a_p1_uppermost 64 f_p1_uppermost, ai cI a_p1_takenOn 64 f_p1_takenOn, ai cI a_takenOn 64 f_takenOn_1, ai cI a_p1_pileOf 64 f_p1_pileOf, ai cI a_pileOf 64 f_pileOf_2, ai cI a_p1_placeOf 64 f_p1_placeOf, ai cI a_placeOf 64 f_placeOf_3] H := hP
  refine lv_aload_n hx hb dX8_become_49 rfl (lv_at hl 1 rfl) ?_
  refine gX8 hx hb ht hown hK hP 2 rfl 5 (by decide) fl_X8_21 (fun _ h => h) rfl dX8_become_50 ?_
  refine lv_aload_n hx hb dX8_become_53 rfl (lv_at hl 0 rfl) ?_
  refine gX8 hx hb ht hown hK hP 0 rfl 5 (by decide) fl_X8_21 (fun _ h => h) rfl dX8_become_54 ?_
  refine KNv (As := [.ref a_p1_uppermost, .ref a_uppermost]) (rest := []) FX (c_X9_copyRow l D cI cB cS a_p1_uppermost a_uppermost 64 64 f_p1_uppermost f_uppermost _ hV) ok_X9_copyRow is_X9_copyRow nq_X8_44 dX8_become_57 hK hP hS hA [3, 1] [0, 2, 4, 5, 6, 7, 8, 9] rfl rfl (by decide) rfl hl.1 (Nat.le_of_ble_eq_true rfl) ⟨Nat.le_of_ble_eq_true rfl, Nat.le_of_ble_eq_true rfl⟩ ⟨Nat.le_of_ble_eq_true rfl, Nat.le_of_ble_eq_true rfl⟩ (fun f_uppermost_4 H locs hV hP hS => ?_)
  have hP : PD D A [oc a_this 7 [.int i_p1_taken, .int i_p1_piles, .ref a_takenOn, .ref a_pileOf, .ref a_placeOf, .ref a_uppermost], oc a_p1 7 [.int i_p1_taken, .int i_p1_piles, .ref a_p1_takenOn, .ref a_p1_pileOf, .ref a_p1_placeOf, .ref a_p1_uppermost], ai cI a_p1_takenOn 64 f_p1_takenOn, ai cI a_takenOn 64 f_takenOn_1, ai cI a_p1_pileOf 64 f_p1_pileOf, ai cI a_pileOf 64 f_pileOf_2, ai cI a_p1_placeOf 64 f_p1_placeOf, ai cI a_placeOf 64 f_placeOf_3, ai cI a_p1_uppermost 64 f_p1_uppermost, ai cI a_uppermost 64 f_uppermost_4] H := hP
  exact hret _ _ _ _ (i_p1_taken, i_p1_piles, f_takenOn_1, f_pileOf_2, f_placeOf_3, f_uppermost_4) hS dX8_become_60 (hP.sub [0, 3, 5, 7, 9, 1, 2, 4, 6, 8] rfl rfl) hV

def rm_X8_pileFor : Room := { frames := 0, cells := 0, slots := 0, locals := 0 }
def V_X8_pileFor_12 (n_p2 : Nat) (x1 : Int32) (i_piles : Int32) (f_uppermost : Nat → Int32) (f_p2 : Nat → Int32) (post : Int32 → Prop) : Nat → Int32 → Int32 → Int32 → Prop
  | 0, _, _, _ => False
  | n + 1, v3, v4, v5 => ((i_piles ≤ v5 → post v3) ∧ (¬ i_piles ≤ v5 → (vp_in v5 64 ∧ (vp_in (f_uppermost v5.toNatClampNeg) n_p2 ∧ (∀ v6_1 : Int32, v6_1 = (f_p2 (f_uppermost v5.toNatClampNeg).toNatClampNeg) → (vp_in x1 n_p2 ∧ ((v6_1 ≤ (f_p2 x1.toNatClampNeg) → (∀ v5_2 : Int32, v5_2 = (v5 + 1) → V_X8_pileFor_12 n_p2 x1 i_piles f_uppermost f_p2 post n v3 v4 v5_2)) ∧ (¬ v6_1 ≤ (f_p2 x1.toNatClampNeg) → ((v4 ≤ v6_1 → (∀ v5_3 : Int32, v5_3 = (v5 + 1) → V_X8_pileFor_12 n_p2 x1 i_piles f_uppermost f_p2 post n v3 v4 v5_3)) ∧ (¬ v4 ≤ v6_1 → (∀ v5_4 : Int32, v5_4 = (v5 + 1) → V_X8_pileFor_12 n_p2 x1 i_piles f_uppermost f_p2 post n v5 v6_1 v5_4)))))))))))
theorem V_X8_pileFor_12_s (n_p2 : Nat) (x1 : Int32) (i_piles : Int32) (f_uppermost : Nat → Int32) (f_p2 : Nat → Int32) (post : Int32 → Prop) (n : Nat) (v3 : Int32) (v4 : Int32) (v5 : Int32) : V_X8_pileFor_12 n_p2 x1 i_piles f_uppermost f_p2 post (n + 1) v3 v4 v5 = (((i_piles ≤ v5 → post v3) ∧ (¬ i_piles ≤ v5 → (vp_in v5 64 ∧ (vp_in (f_uppermost v5.toNatClampNeg) n_p2 ∧ (∀ v6_1 : Int32, v6_1 = (f_p2 (f_uppermost v5.toNatClampNeg).toNatClampNeg) → (vp_in x1 n_p2 ∧ ((v6_1 ≤ (f_p2 x1.toNatClampNeg) → (∀ v5_2 : Int32, v5_2 = (v5 + 1) → V_X8_pileFor_12 n_p2 x1 i_piles f_uppermost f_p2 post n v3 v4 v5_2)) ∧ (¬ v6_1 ≤ (f_p2 x1.toNatClampNeg) → ((v4 ≤ v6_1 → (∀ v5_3 : Int32, v5_3 = (v5 + 1) → V_X8_pileFor_12 n_p2 x1 i_piles f_uppermost f_p2 post n v3 v4 v5_3)) ∧ (¬ v4 ≤ v6_1 → (∀ v5_4 : Int32, v5_4 = (v5 + 1) → V_X8_pileFor_12 n_p2 x1 i_piles f_uppermost f_p2 post n v5 v6_1 v5_4)))))))))))) := rfl
def P_X8_pileFor (n_p2 : Nat) (x1 : Int32) (i_piles : Int32) (f_uppermost : Nat → Int32) (f_p2 : Nat → Int32) (post : Int32 → Prop) : Prop := (∃ k : Nat, V_X8_pileFor_12 n_p2 x1 i_piles f_uppermost f_p2 post k i_piles 64 0)
set_option maxRecDepth 100000 in
set_option maxHeartbeats 4000000 in
theorem c_X8_pileFor (l : Launch) (D : va_G) (cI cB cS : ClassId) (a_this a_uppermost a_p2 a_takenOn a_pileOf a_placeOf : Nat) (n_p2 : Nat) (x1 : Int32) (i_taken : Int32) (i_piles : Int32) (f_uppermost : Nat → Int32) (f_p2 : Nat → Int32) (post : Int32 → Prop) (hV : P_X8_pileFor n_p2 x1 i_piles f_uppermost f_p2 post) : Ci l yX8_pileFor cX8_pileFor 7 (some .int) rm_X8_pileFor D cI cB cS [.ref a_this, .int x1, .ref a_p2] [oc a_this 7 [.int i_taken, .int i_piles, .ref a_takenOn, .ref a_pileOf, .ref a_placeOf, .ref a_uppermost], ai cI a_uppermost 64 f_uppermost, ai cI a_p2 n_p2 f_p2] (fun r (_ : Unit) => post r) (fun (_ : Unit) => [oc a_this 7 [.int i_taken, .int i_piles, .ref a_takenOn, .ref a_pileOf, .ref a_placeOf, .ref a_uppermost], ai cI a_uppermost 64 f_uppermost, ai cI a_p2 n_p2 f_p2]) := by
  refine Ci.of ok_X8_pileFor (Nat.le_of_ble_eq_true rfl) ?_
  intro p e s m args below meth c A Q hx hb hml hown ht hnm hK hP hA hS hret ls hl
  have hown : s.vm.findClass RX8 = some m.cls := hown
  have FX : CallFix p m c cX8_pileFor 7 s args tblG RX8 := ⟨hx, hb, hml, hown, ht⟩
  have hP : PD D A [oc a_this 7 [.int i_taken, .int i_piles, .ref a_takenOn, .ref a_pileOf, .ref a_placeOf, .ref a_uppermost], ai cI a_uppermost 64 f_uppermost, ai cI a_p2 n_p2 f_p2] s.heap := hP
  have hl : lv_has ls 7 [(0, .ref a_this), (1, .int x1), (2, .ref a_p2)] := hl
  unfold P_X8_pileFor at hV
  have b12 : ∀  (k12 : Nat) (v3 : Int32) (v4 : Int32) (v5 : Int32) (H : Heap) (locs : List Loc) (ls : Array Slot), PD D A [oc a_this 7 [.int i_taken, .int i_piles, .ref a_takenOn, .ref a_pileOf, .ref a_placeOf, .ref a_uppermost], ai cI a_uppermost 64 f_uppermost, ai cI a_p2 n_p2 f_p2] H → va_S A s.heap H locs → lv_has ls 7 [(0, .ref a_this), (1, .int x1), (2, .ref a_p2), (3, .int v3), (4, .int v4), (5, .int v5)] → V_X8_pileFor_12 n_p2 x1 i_piles f_uppermost f_p2 post k12 v3 v4 v5 → W p l e rm_X8_pileFor s m args below meth c H locs 0 0 Q (F0 m 12 ls []) := by
    intro  k12
    induction k12 with
    | zero => intro v3 v4 v5 H locs ls hP hS hl hV; exact False.elim hV
    | succ k12 ih12 =>
      intro v3 v4 v5 H locs ls hP hS hl hV
      rw [V_X8_pileFor_12_s] at hV
      refine lv_iload hx hb dX8_pileFor_12 (lv_at hl 5 rfl) ?_
      refine lv_aload_n hx hb dX8_pileFor_14 rfl (lv_at hl 0 rfl) ?_
      refine gX8 hx hb ht hown hK hP 0 rfl 1 (by decide) fl_X8_31 (fun _ h => h) rfl dX8_pileFor_15 ?_
      refine lv_icmp_ge (tgt := 60) hx hb dX8_pileFor_18 (by decide) (fun h => ?_) (fun h => ?_)
      · have hV := hV.1 h
        refine lv_iload_n hx hb dX8_pileFor_60 rfl (lv_at hl 3 rfl) ?_
        exact hret _ _ _ _ _ () hS dX8_pileFor_61 hP hV
      · have hV := hV.2 h
        refine lv_aload_n hx hb dX8_pileFor_21 rfl (lv_at hl 2 rfl) ?_
        refine lv_aload_n hx hb dX8_pileFor_22 rfl (lv_at hl 0 rfl) ?_
        refine gX8 hx hb ht hown hK hP 0 rfl 5 (by decide) fl_X8_21 (fun _ h => h) rfl dX8_pileFor_23 ?_
        refine lv_iload hx hb dX8_pileFor_26 (lv_at hl 5 rfl) ?_
        refine ild hx hb hK hP 1 rfl dX8_pileFor_28 hV.1 ?_
        have hV := hV.2
        refine ild hx hb hK hP 2 rfl dX8_pileFor_29 hV.1 ?_
        have hV := hV.2
        refine lv_topi (fun v6_1 e_v6_1 => ?_)
        have hV := hV v6_1 e_v6_1
        refine lv_istore (lv' := [(6, .int v6_1), (0, .ref a_this), (1, .int x1), (2, .ref a_p2), (3, .int v3), (4, .int v4), (5, .int v5)]) hx hb dX8_pileFor_30 hl (by decide) rfl (fun ls hl => ?_)
        refine lv_iload hx hb dX8_pileFor_32 (lv_at hl 0 rfl) ?_
        refine lv_aload_n hx hb dX8_pileFor_34 rfl (lv_at hl 3 rfl) ?_
        refine lv_iload_n hx hb dX8_pileFor_35 rfl (lv_at hl 2 rfl) ?_
        refine ild hx hb hK hP 2 rfl dX8_pileFor_36 hV.1 ?_
        have hV := hV.2
        refine lv_icmp_le (tgt := 54) hx hb dX8_pileFor_37 (by decide) (fun h => ?_) (fun h => ?_)
        · have hV := hV.1 h
          obtain ⟨v5_2, e_v5_2⟩ : ∃ y : Int32, y = (v5 + 1) := ⟨_, rfl⟩
          have hV := hV v5_2 e_v5_2
          refine lv_iinc (v := v5_2) (lv' := [(5, .int v5_2), (6, .int v6_1), (0, .ref a_this), (1, .int x1), (2, .ref a_p2), (3, .int v3), (4, .int v4)]) hx hb dX8_pileFor_54 hl (k := 6) rfl (by rw [e_v5_2]; rfl) (by decide) rfl (fun ls hl => ?_)
          refine lv_goto (tgt := 12) hx hb dX8_pileFor_57 (by decide) ?_
          exact ih12 v3 v4 v5_2 _ _ _ hP hS (lv_sub hl [2, 3, 4, 5, 6, 0] rfl) hV
        · have hV := hV.2 h
          refine lv_iload hx hb dX8_pileFor_40 (lv_at hl 0 rfl) ?_
          refine lv_iload hx hb dX8_pileFor_42 (lv_at hl 5 rfl) ?_
          refine lv_icmp_ge (tgt := 54) hx hb dX8_pileFor_44 (by decide) (fun h => ?_) (fun h => ?_)
          · have hV := hV.1 h
            obtain ⟨v5_3, e_v5_3⟩ : ∃ y : Int32, y = (v5 + 1) := ⟨_, rfl⟩
            have hV := hV v5_3 e_v5_3
            refine lv_iinc (v := v5_3) (lv' := [(5, .int v5_3), (6, .int v6_1), (0, .ref a_this), (1, .int x1), (2, .ref a_p2), (3, .int v3), (4, .int v4)]) hx hb dX8_pileFor_54 hl (k := 6) rfl (by rw [e_v5_3]; rfl) (by decide) rfl (fun ls hl => ?_)
            refine lv_goto (tgt := 12) hx hb dX8_pileFor_57 (by decide) ?_
            exact ih12 v3 v4 v5_3 _ _ _ hP hS (lv_sub hl [2, 3, 4, 5, 6, 0] rfl) hV
          · have hV := hV.2 h
            refine lv_iload hx hb dX8_pileFor_47 (lv_at hl 6 rfl) ?_
            refine lv_istore_n (lv' := [(3, .int v5), (6, .int v6_1), (0, .ref a_this), (1, .int x1), (2, .ref a_p2), (4, .int v4), (5, .int v5)]) hx hb dX8_pileFor_49 rfl hl (by decide) rfl (fun ls hl => ?_)
            refine lv_iload hx hb dX8_pileFor_50 (lv_at hl 1 rfl) ?_
            refine lv_istore (lv' := [(4, .int v6_1), (3, .int v5), (6, .int v6_1), (0, .ref a_this), (1, .int x1), (2, .ref a_p2), (5, .int v5)]) hx hb dX8_pileFor_52 hl (by decide) rfl (fun ls hl => ?_)
            obtain ⟨v5_4, e_v5_4⟩ : ∃ y : Int32, y = (v5 + 1) := ⟨_, rfl⟩
            have hV := hV v5_4 e_v5_4
            refine lv_iinc (v := v5_4) (lv' := [(5, .int v5_4), (4, .int v6_1), (3, .int v5), (6, .int v6_1), (0, .ref a_this), (1, .int x1), (2, .ref a_p2)]) hx hb dX8_pileFor_54 hl (k := 6) rfl (by rw [e_v5_4]; rfl) (by decide) rfl (fun ls hl => ?_)
            refine lv_goto (tgt := 12) hx hb dX8_pileFor_57 (by decide) ?_
            exact ih12 v5 v6_1 v5_4 _ _ _ hP hS (lv_sub hl [4, 5, 6, 2, 1, 0] rfl) hV
  refine lv_aload_n hx hb dX8_pileFor_0 rfl (lv_at hl 0 rfl) ?_
  refine gX8 hx hb ht hown hK hP 0 rfl 1 (by decide) fl_X8_31 (fun _ h => h) rfl dX8_pileFor_1 ?_
  refine lv_istore_n (lv' := [(3, .int i_piles), (0, .ref a_this), (1, .int x1), (2, .ref a_p2)]) hx hb dX8_pileFor_4 rfl hl (by decide) rfl (fun ls hl => ?_)
  refine lv_bipush (v := 64) hx hb dX8_pileFor_5 (by decide) ?_
  refine lv_istore (lv' := [(4, .int 64), (3, .int i_piles), (0, .ref a_this), (1, .int x1), (2, .ref a_p2)]) hx hb dX8_pileFor_7 hl (by decide) rfl (fun ls hl => ?_)
  refine lv_iconst (v := 0) hx hb dX8_pileFor_9 (by decide) ?_
  refine lv_istore (lv' := [(5, .int 0), (4, .int 64), (3, .int i_piles), (0, .ref a_this), (1, .int x1), (2, .ref a_p2)]) hx hb dX8_pileFor_10 hl (by decide) rfl (fun ls hl => ?_)
  obtain ⟨k, hV⟩ := hV
  exact b12 k i_piles 64 0 _ _ _ hP hS (lv_sub hl [3, 4, 5, 2, 1, 0] rfl) hV

def rm_X8_lay : Room := { frames := 1, cells := 0, slots := 0, locals := 26 }
def J_X8_lay_57 (x1 : Int32) (x3 : Int32) (post : Int32 → Int32 → Int32 → (Nat → Int32) → (Nat → Int32) → (Nat → Int32) → (Nat → Int32) → Prop) (v4 : Int32) (i_taken : Int32) (i_piles : Int32) (f_takenOn : Nat → Int32) (f_pileOf : Nat → Int32) (f_placeOf : Nat → Int32) (f_uppermost : Nat → Int32) : Prop := (vp_in v4 64 ∧ ∀ f_uppermost_1 : Nat → Int32, f_uppermost_1 = upd f_uppermost v4.toNatClampNeg x1 → (vp_in x1 64 ∧ ∀ f_pileOf_2 : Nat → Int32, f_pileOf_2 = upd f_pileOf x1.toNatClampNeg v4 → (vp_in x1 64 ∧ ∀ f_takenOn_3 : Nat → Int32, f_takenOn_3 = upd f_takenOn x1.toNatClampNeg x3 → (∀ i_taken_4 : Int32, i_taken_4 = (i_taken + 1) → post v4 i_taken_4 i_piles f_takenOn_3 f_pileOf_2 f_placeOf f_uppermost_1))))
def P_X8_lay (n_p2 : Nat) (x1 : Int32) (x3 : Int32) (i_taken : Int32) (i_piles : Int32) (f_takenOn : Nat → Int32) (f_pileOf : Nat → Int32) (f_placeOf : Nat → Int32) (f_uppermost : Nat → Int32) (f_p2 : Nat → Int32) (post : Int32 → Int32 → Int32 → (Nat → Int32) → (Nat → Int32) → (Nat → Int32) → (Nat → Int32) → Prop) : Prop := P_X8_pileFor n_p2 x1 i_piles f_uppermost f_p2 (fun r_5 => ((r_5 = i_piles → (vp_in x1 64 ∧ ∀ f_placeOf_7 : Nat → Int32, f_placeOf_7 = upd f_placeOf x1.toNatClampNeg 0 → (∀ i_piles_8 : Int32, i_piles_8 = (i_piles + 1) → J_X8_lay_57 x1 x3 post r_5 i_taken i_piles_8 f_takenOn f_pileOf f_placeOf_7 f_uppermost))) ∧ (¬ r_5 = i_piles → (vp_in r_5 64 ∧ (vp_in (f_uppermost r_5.toNatClampNeg) 64 ∧ (vp_in x1 64 ∧ ∀ f_placeOf_6 : Nat → Int32, f_placeOf_6 = upd f_placeOf x1.toNatClampNeg ((f_placeOf (f_uppermost r_5.toNatClampNeg).toNatClampNeg) + 1) → J_X8_lay_57 x1 x3 post r_5 i_taken i_piles f_takenOn f_pileOf f_placeOf_6 f_uppermost))))))
set_option maxRecDepth 100000 in
set_option maxHeartbeats 4000000 in
theorem c_X8_lay (l : Launch) (D : va_G) (cI cB cS : ClassId) (a_this a_takenOn a_pileOf a_placeOf a_uppermost a_p2 : Nat) (n_p2 : Nat) (x1 : Int32) (x3 : Int32) (i_taken : Int32) (i_piles : Int32) (f_takenOn : Nat → Int32) (f_pileOf : Nat → Int32) (f_placeOf : Nat → Int32) (f_uppermost : Nat → Int32) (f_p2 : Nat → Int32) (post : Int32 → Int32 → Int32 → (Nat → Int32) → (Nat → Int32) → (Nat → Int32) → (Nat → Int32) → Prop) (hV : P_X8_lay n_p2 x1 x3 i_taken i_piles f_takenOn f_pileOf f_placeOf f_uppermost f_p2 post) : Ci l yX8_lay cX8_lay 5 (some .int) rm_X8_lay D cI cB cS [.ref a_this, .int x1, .ref a_p2, .int x3] [oc a_this 7 [.int i_taken, .int i_piles, .ref a_takenOn, .ref a_pileOf, .ref a_placeOf, .ref a_uppermost], ai cI a_takenOn 64 f_takenOn, ai cI a_pileOf 64 f_pileOf, ai cI a_placeOf 64 f_placeOf, ai cI a_uppermost 64 f_uppermost, ai cI a_p2 n_p2 f_p2] (fun r (u : Int32 × Int32 × (Nat → Int32) × (Nat → Int32) × (Nat → Int32) × (Nat → Int32)) => post r u.1 u.2.1 u.2.2.1 u.2.2.2.1 u.2.2.2.2.1 u.2.2.2.2.2) (fun (u : Int32 × Int32 × (Nat → Int32) × (Nat → Int32) × (Nat → Int32) × (Nat → Int32)) => [oc a_this 7 [.int u.1, .int u.2.1, .ref a_takenOn, .ref a_pileOf, .ref a_placeOf, .ref a_uppermost], ai cI a_takenOn 64 (u.2.2.1), ai cI a_pileOf 64 (u.2.2.2.1), ai cI a_placeOf 64 (u.2.2.2.2.1), ai cI a_uppermost 64 (u.2.2.2.2.2), ai cI a_p2 n_p2 f_p2]) := by
  refine Ci.of ok_X8_lay (Nat.le_of_ble_eq_true rfl) ?_
  intro p e s m args below meth c A Q hx hb hml hown ht hnm hK hP hA hS hret ls hl
  have hown : s.vm.findClass RX8 = some m.cls := hown
  have FX : CallFix p m c cX8_lay 5 s args tblG RX8 := ⟨hx, hb, hml, hown, ht⟩
  have hP : PD D A [oc a_this 7 [.int i_taken, .int i_piles, .ref a_takenOn, .ref a_pileOf, .ref a_placeOf, .ref a_uppermost], ai cI a_takenOn 64 f_takenOn, ai cI a_pileOf 64 f_pileOf, ai cI a_placeOf 64 f_placeOf, ai cI a_uppermost 64 f_uppermost, ai cI a_p2 n_p2 f_p2] s.heap := hP
  have hl : lv_has ls 5 [(0, .ref a_this), (1, .int x1), (2, .ref a_p2), (3, .int x3)] := hl
  unfold P_X8_lay at hV
  have b57 : ∀ (v4 : Int32) (i_taken : Int32) (i_piles : Int32) (f_takenOn : Nat → Int32) (f_pileOf : Nat → Int32) (f_placeOf : Nat → Int32) (f_uppermost : Nat → Int32) (H : Heap) (locs : List Loc) (ls : Array Slot), PD D A [oc a_this 7 [.int i_taken, .int i_piles, .ref a_takenOn, .ref a_pileOf, .ref a_placeOf, .ref a_uppermost], ai cI a_takenOn 64 f_takenOn, ai cI a_pileOf 64 f_pileOf, ai cI a_placeOf 64 f_placeOf, ai cI a_uppermost 64 f_uppermost, ai cI a_p2 n_p2 f_p2] H → va_S A s.heap H locs → lv_has ls 5 [(0, .ref a_this), (1, .int x1), (3, .int x3), (4, .int v4)] → J_X8_lay_57 x1 x3 post v4 i_taken i_piles f_takenOn f_pileOf f_placeOf f_uppermost → W p l e rm_X8_lay s m args below meth c H locs 0 0 Q (F0 m 57 ls []) := by
    intro v4 i_taken i_piles f_takenOn f_pileOf f_placeOf f_uppermost H locs ls hP hS hl hV
    unfold J_X8_lay_57 at hV
    refine lv_aload_n hx hb dX8_lay_57 rfl (lv_at hl 0 rfl) ?_
    refine gX8 hx hb ht hown hK hP 0 rfl 5 (by decide) fl_X8_21 (fun _ h => h) rfl dX8_lay_58 ?_
    refine lv_iload hx hb dX8_lay_61 (lv_at hl 3 rfl) ?_
    refine lv_iload_n hx hb dX8_lay_63 rfl (lv_at hl 1 rfl) ?_
    refine ist hx hb hK hP hS 4 rfl dX8_lay_64 hV.1 (fun f_uppermost_1 e_f_uppermost_1 H locs hP hS => ?_)
    have hV := hV.2 f_uppermost_1 e_f_uppermost_1
    have hP : PD D A [oc a_this 7 [.int i_taken, .int i_piles, .ref a_takenOn, .ref a_pileOf, .ref a_placeOf, .ref a_uppermost], ai cI a_takenOn 64 f_takenOn, ai cI a_pileOf 64 f_pileOf, ai cI a_placeOf 64 f_placeOf, ai cI a_uppermost 64 f_uppermost_1, ai cI a_p2 n_p2 f_p2] H := hP
    refine lv_aload_n hx hb dX8_lay_65 rfl (lv_at hl 0 rfl) ?_
    refine gX8 hx hb ht hown hK hP 0 rfl 3 (by decide) fl_X8_15 (fun _ h => h) rfl dX8_lay_66 ?_
    refine lv_iload_n hx hb dX8_lay_69 rfl (lv_at hl 1 rfl) ?_
    refine lv_iload hx hb dX8_lay_70 (lv_at hl 3 rfl) ?_
    refine ist hx hb hK hP hS 2 rfl dX8_lay_72 hV.1 (fun f_pileOf_2 e_f_pileOf_2 H locs hP hS => ?_)
    have hV := hV.2 f_pileOf_2 e_f_pileOf_2
    have hP : PD D A [oc a_this 7 [.int i_taken, .int i_piles, .ref a_takenOn, .ref a_pileOf, .ref a_placeOf, .ref a_uppermost], ai cI a_takenOn 64 f_takenOn, ai cI a_pileOf 64 f_pileOf_2, ai cI a_placeOf 64 f_placeOf, ai cI a_uppermost 64 f_uppermost_1, ai cI a_p2 n_p2 f_p2] H := hP
    refine lv_aload_n hx hb dX8_lay_73 rfl (lv_at hl 0 rfl) ?_
    refine gX8 hx hb ht hown hK hP 0 rfl 2 (by decide) fl_X8_9 (fun _ h => h) rfl dX8_lay_74 ?_
    refine lv_iload_n hx hb dX8_lay_77 rfl (lv_at hl 1 rfl) ?_
    refine lv_iload_n hx hb dX8_lay_78 rfl (lv_at hl 2 rfl) ?_
    refine ist hx hb hK hP hS 1 rfl dX8_lay_79 hV.1 (fun f_takenOn_3 e_f_takenOn_3 H locs hP hS => ?_)
    have hV := hV.2 f_takenOn_3 e_f_takenOn_3
    have hP : PD D A [oc a_this 7 [.int i_taken, .int i_piles, .ref a_takenOn, .ref a_pileOf, .ref a_placeOf, .ref a_uppermost], ai cI a_takenOn 64 f_takenOn_3, ai cI a_pileOf 64 f_pileOf_2, ai cI a_placeOf 64 f_placeOf, ai cI a_uppermost 64 f_uppermost_1, ai cI a_p2 n_p2 f_p2] H := hP
    refine lv_aload_n hx hb dX8_lay_80 rfl (lv_at hl 0 rfl) ?_
    refine lv_dup hx hb dX8_lay_81 rfl ?_
    refine gX8 hx hb ht hown hK hP 0 rfl 0 (by decide) fl_X8_27 (fun _ h => h) rfl dX8_lay_82 ?_
    refine lv_iconst (v := 1) hx hb dX8_lay_85 (by decide) ?_
    refine lv_iadd hx hb dX8_lay_86 ?_
    refine lv_topi (fun i_taken_4 e_i_taken_4 => ?_)
    have hV := hV i_taken_4 e_i_taken_4
    refine pX8 hx hb ht hown hK hP hS 0 rfl 0 (by decide) fl_X8_27 (fun _ h => h) rfl (tyX8_ok 0 (by decide)) rfl rfl (Nat.le_of_ble_eq_true rfl) dX8_lay_87 (fun H locs hP hS => ?_)
    have hP : PD D A [oc a_this 7 [.int i_taken_4, .int i_piles, .ref a_takenOn, .ref a_pileOf, .ref a_placeOf, .ref a_uppermost], ai cI a_takenOn 64 f_takenOn_3, ai cI a_pileOf 64 f_pileOf_2, ai cI a_placeOf 64 f_placeOf, ai cI a_uppermost 64 f_uppermost_1, ai cI a_p2 n_p2 f_p2] H := hP
    refine lv_iload hx hb dX8_lay_90 (lv_at hl 3 rfl) ?_
    exact hret _ _ _ _ _ (i_taken_4, i_piles, f_takenOn_3, f_pileOf_2, f_placeOf, f_uppermost_1) hS dX8_lay_92 hP hV
  refine lv_aload_n hx hb dX8_lay_0 rfl (lv_at hl 0 rfl) ?_
  refine lv_iload_n hx hb dX8_lay_1 rfl (lv_at hl 1 rfl) ?_
  refine lv_aload_n hx hb dX8_lay_2 rfl (lv_at hl 2 rfl) ?_
  refine KVi (As := [.int x1, .ref a_p2]) (rest := []) FX (c_X8_pileFor l D cI cB cS a_this a_uppermost a_p2 a_takenOn a_pileOf a_placeOf n_p2 x1 i_taken i_piles f_uppermost f_p2 _ hV) ok_X8_pileFor im_X8_pileFor se_X8_pileFor li_X8_40 dX8_lay_3 hK hP hS hA [0, 4, 5] [1, 2, 3] 0 rfl rfl rfl (by decide) rfl rfl hl.1 (Nat.le_of_ble_eq_true rfl) ⟨Nat.le_of_ble_eq_true rfl, Nat.le_of_ble_eq_true rfl⟩ ⟨Nat.le_of_ble_eq_true rfl, Nat.le_of_ble_eq_true rfl⟩ (fun r_5 _ H locs hV hP hS => ?_)
  have hP : PD D A [ai cI a_takenOn 64 f_takenOn, ai cI a_pileOf 64 f_pileOf, ai cI a_placeOf 64 f_placeOf, oc a_this 7 [.int i_taken, .int i_piles, .ref a_takenOn, .ref a_pileOf, .ref a_placeOf, .ref a_uppermost], ai cI a_uppermost 64 f_uppermost, ai cI a_p2 n_p2 f_p2] H := hP
  refine lv_istore (lv' := [(4, .int r_5), (0, .ref a_this), (1, .int x1), (2, .ref a_p2), (3, .int x3)]) hx hb dX8_lay_6 hl (by decide) rfl (fun ls hl => ?_)
  refine lv_iload hx hb dX8_lay_8 (lv_at hl 0 rfl) ?_
  refine lv_aload_n hx hb dX8_lay_10 rfl (lv_at hl 1 rfl) ?_
  refine gX8 hx hb ht hown hK hP 3 rfl 1 (by decide) fl_X8_31 (fun _ h => h) rfl dX8_lay_11 ?_
  refine lv_icmp_ne (tgt := 37) hx hb dX8_lay_14 (by decide) (fun h => ?_) (fun h => ?_)
  · have hV := hV.2 h
    refine lv_aload_n hx hb dX8_lay_37 rfl (lv_at hl 1 rfl) ?_
    refine gX8 hx hb ht hown hK hP 3 rfl 4 (by decide) fl_X8_18 (fun _ h => h) rfl dX8_lay_38 ?_
    refine lv_iload_n hx hb dX8_lay_41 rfl (lv_at hl 2 rfl) ?_
    refine lv_aload_n hx hb dX8_lay_42 rfl (lv_at hl 1 rfl) ?_
    refine gX8 hx hb ht hown hK hP 3 rfl 4 (by decide) fl_X8_18 (fun _ h => h) rfl dX8_lay_43 ?_
    refine lv_aload_n hx hb dX8_lay_46 rfl (lv_at hl 1 rfl) ?_
    refine gX8 hx hb ht hown hK hP 3 rfl 5 (by decide) fl_X8_21 (fun _ h => h) rfl dX8_lay_47 ?_
    refine lv_iload hx hb dX8_lay_50 (lv_at hl 0 rfl) ?_
    refine ild hx hb hK hP 4 rfl dX8_lay_52 hV.1 ?_
    have hV := hV.2
    refine ild hx hb hK hP 2 rfl dX8_lay_53 hV.1 ?_
    have hV := hV.2
    refine lv_iconst (v := 1) hx hb dX8_lay_54 (by decide) ?_
    refine lv_iadd hx hb dX8_lay_55 ?_
    refine ist hx hb hK hP hS 2 rfl dX8_lay_56 hV.1 (fun f_placeOf_6 e_f_placeOf_6 H locs hP hS => ?_)
    have hV := hV.2 f_placeOf_6 e_f_placeOf_6
    have hP : PD D A [ai cI a_takenOn 64 f_takenOn, ai cI a_pileOf 64 f_pileOf, ai cI a_placeOf 64 f_placeOf_6, oc a_this 7 [.int i_taken, .int i_piles, .ref a_takenOn, .ref a_pileOf, .ref a_placeOf, .ref a_uppermost], ai cI a_uppermost 64 f_uppermost, ai cI a_p2 n_p2 f_p2] H := hP
    exact b57 r_5 i_taken i_piles f_takenOn f_pileOf f_placeOf_6 f_uppermost _ _ _ (hP.sub [3, 0, 1, 2, 4, 5] rfl rfl) hS (lv_sub hl [1, 2, 4, 0] rfl) hV
  · have hV := hV.1 h
    refine lv_aload_n hx hb dX8_lay_17 rfl (lv_at hl 1 rfl) ?_
    refine gX8 hx hb ht hown hK hP 3 rfl 4 (by decide) fl_X8_18 (fun _ h => h) rfl dX8_lay_18 ?_
    refine lv_iload_n hx hb dX8_lay_21 rfl (lv_at hl 2 rfl) ?_
    refine lv_iconst (v := 0) hx hb dX8_lay_22 (by decide) ?_
    refine ist hx hb hK hP hS 2 rfl dX8_lay_23 hV.1 (fun f_placeOf_7 e_f_placeOf_7 H locs hP hS => ?_)
    have hV := hV.2 f_placeOf_7 e_f_placeOf_7
    have hP : PD D A [ai cI a_takenOn 64 f_takenOn, ai cI a_pileOf 64 f_pileOf, ai cI a_placeOf 64 f_placeOf_7, oc a_this 7 [.int i_taken, .int i_piles, .ref a_takenOn, .ref a_pileOf, .ref a_placeOf, .ref a_uppermost], ai cI a_uppermost 64 f_uppermost, ai cI a_p2 n_p2 f_p2] H := hP
    refine lv_aload_n hx hb dX8_lay_24 rfl (lv_at hl 1 rfl) ?_
    refine lv_dup hx hb dX8_lay_25 rfl ?_
    refine gX8 hx hb ht hown hK hP 3 rfl 1 (by decide) fl_X8_31 (fun _ h => h) rfl dX8_lay_26 ?_
    refine lv_iconst (v := 1) hx hb dX8_lay_29 (by decide) ?_
    refine lv_iadd hx hb dX8_lay_30 ?_
    refine lv_topi (fun i_piles_8 e_i_piles_8 => ?_)
    have hV := hV i_piles_8 e_i_piles_8
    refine pX8 hx hb ht hown hK hP hS 3 rfl 1 (by decide) fl_X8_31 (fun _ h => h) rfl (tyX8_ok 1 (by decide)) rfl rfl (Nat.le_of_ble_eq_true rfl) dX8_lay_31 (fun H locs hP hS => ?_)
    have hP : PD D A [ai cI a_takenOn 64 f_takenOn, ai cI a_pileOf 64 f_pileOf, ai cI a_placeOf 64 f_placeOf_7, oc a_this 7 [.int i_taken, .int i_piles_8, .ref a_takenOn, .ref a_pileOf, .ref a_placeOf, .ref a_uppermost], ai cI a_uppermost 64 f_uppermost, ai cI a_p2 n_p2 f_p2] H := hP
    refine lv_goto (tgt := 57) hx hb dX8_lay_34 (by decide) ?_
    exact b57 r_5 i_taken i_piles_8 f_takenOn f_pileOf f_placeOf_7 f_uppermost _ _ _ (hP.sub [3, 0, 1, 2, 4, 5] rfl rfl) hS (lv_sub hl [1, 2, 4, 0] rfl) hV

def rm_X8_blockIn : Room := { frames := 0, cells := 0, slots := 0, locals := 0 }
def V_X8_blockIn_3 (x1 : Int32) (x2 : Int32) (x3 : Int32) (f_pileOf : Nat → Int32) (f_placeOf : Nat → Int32) (post : Int32 → Prop) : Nat → Int32 → Prop
  | 0, _ => False
  | n + 1, v4 => ((x3 ≤ v4 → post (-1)) ∧ (¬ x3 ≤ v4 → (vp_in v4 64 ∧ (((f_pileOf v4.toNatClampNeg) = x1 → (vp_in v4 64 ∧ (((f_placeOf v4.toNatClampNeg) = x2 → post v4) ∧ (¬ (f_placeOf v4.toNatClampNeg) = x2 → (∀ v4_2 : Int32, v4_2 = (v4 + 1) → V_X8_blockIn_3 x1 x2 x3 f_pileOf f_placeOf post n v4_2))))) ∧ (¬ (f_pileOf v4.toNatClampNeg) = x1 → (∀ v4_1 : Int32, v4_1 = (v4 + 1) → V_X8_blockIn_3 x1 x2 x3 f_pileOf f_placeOf post n v4_1))))))
theorem V_X8_blockIn_3_s (x1 : Int32) (x2 : Int32) (x3 : Int32) (f_pileOf : Nat → Int32) (f_placeOf : Nat → Int32) (post : Int32 → Prop) (n : Nat) (v4 : Int32) : V_X8_blockIn_3 x1 x2 x3 f_pileOf f_placeOf post (n + 1) v4 = (((x3 ≤ v4 → post (-1)) ∧ (¬ x3 ≤ v4 → (vp_in v4 64 ∧ (((f_pileOf v4.toNatClampNeg) = x1 → (vp_in v4 64 ∧ (((f_placeOf v4.toNatClampNeg) = x2 → post v4) ∧ (¬ (f_placeOf v4.toNatClampNeg) = x2 → (∀ v4_2 : Int32, v4_2 = (v4 + 1) → V_X8_blockIn_3 x1 x2 x3 f_pileOf f_placeOf post n v4_2))))) ∧ (¬ (f_pileOf v4.toNatClampNeg) = x1 → (∀ v4_1 : Int32, v4_1 = (v4 + 1) → V_X8_blockIn_3 x1 x2 x3 f_pileOf f_placeOf post n v4_1))))))) := rfl
def P_X8_blockIn (x1 : Int32) (x2 : Int32) (x3 : Int32) (f_pileOf : Nat → Int32) (f_placeOf : Nat → Int32) (post : Int32 → Prop) : Prop := (∃ k : Nat, V_X8_blockIn_3 x1 x2 x3 f_pileOf f_placeOf post k 0)
set_option maxRecDepth 100000 in
set_option maxHeartbeats 4000000 in
theorem c_X8_blockIn (l : Launch) (D : va_G) (cI cB cS : ClassId) (a_this a_pileOf a_placeOf a_takenOn a_uppermost : Nat) (x1 : Int32) (x2 : Int32) (x3 : Int32) (i_taken : Int32) (i_piles : Int32) (f_pileOf : Nat → Int32) (f_placeOf : Nat → Int32) (post : Int32 → Prop) (hV : P_X8_blockIn x1 x2 x3 f_pileOf f_placeOf post) : Ci l yX8_blockIn cX8_blockIn 5 (some .int) rm_X8_blockIn D cI cB cS [.ref a_this, .int x1, .int x2, .int x3] [oc a_this 7 [.int i_taken, .int i_piles, .ref a_takenOn, .ref a_pileOf, .ref a_placeOf, .ref a_uppermost], ai cI a_pileOf 64 f_pileOf, ai cI a_placeOf 64 f_placeOf] (fun r (_ : Unit) => post r) (fun (_ : Unit) => [oc a_this 7 [.int i_taken, .int i_piles, .ref a_takenOn, .ref a_pileOf, .ref a_placeOf, .ref a_uppermost], ai cI a_pileOf 64 f_pileOf, ai cI a_placeOf 64 f_placeOf]) := by
  refine Ci.of ok_X8_blockIn (Nat.le_of_ble_eq_true rfl) ?_
  intro p e s m args below meth c A Q hx hb hml hown ht hnm hK hP hA hS hret ls hl
  have hown : s.vm.findClass RX8 = some m.cls := hown
  have FX : CallFix p m c cX8_blockIn 5 s args tblG RX8 := ⟨hx, hb, hml, hown, ht⟩
  have hP : PD D A [oc a_this 7 [.int i_taken, .int i_piles, .ref a_takenOn, .ref a_pileOf, .ref a_placeOf, .ref a_uppermost], ai cI a_pileOf 64 f_pileOf, ai cI a_placeOf 64 f_placeOf] s.heap := hP
  have hl : lv_has ls 5 [(0, .ref a_this), (1, .int x1), (2, .int x2), (3, .int x3)] := hl
  unfold P_X8_blockIn at hV
  have b3 : ∀  (k3 : Nat) (v4 : Int32) (H : Heap) (locs : List Loc) (ls : Array Slot), PD D A [oc a_this 7 [.int i_taken, .int i_piles, .ref a_takenOn, .ref a_pileOf, .ref a_placeOf, .ref a_uppermost], ai cI a_pileOf 64 f_pileOf, ai cI a_placeOf 64 f_placeOf] H → va_S A s.heap H locs → lv_has ls 5 [(0, .ref a_this), (1, .int x1), (2, .int x2), (3, .int x3), (4, .int v4)] → V_X8_blockIn_3 x1 x2 x3 f_pileOf f_placeOf post k3 v4 → W p l e rm_X8_blockIn s m args below meth c H locs 0 0 Q (F0 m 3 ls []) := by
    intro  k3
    induction k3 with
    | zero => intro v4 H locs ls hP hS hl hV; exact False.elim hV
    | succ k3 ih3 =>
      intro v4 H locs ls hP hS hl hV
      rw [V_X8_blockIn_3_s] at hV
      refine lv_iload hx hb dX8_blockIn_3 (lv_at hl 4 rfl) ?_
      refine lv_iload_n hx hb dX8_blockIn_5 rfl (lv_at hl 3 rfl) ?_
      refine lv_icmp_ge (tgt := 40) hx hb dX8_blockIn_6 (by decide) (fun h => ?_) (fun h => ?_)
      · have hV := hV.1 h
        refine lv_iconst (v := (-1)) hx hb dX8_blockIn_40 (by decide) ?_
        exact hret _ _ _ _ _ () hS dX8_blockIn_41 hP hV
      · have hV := hV.2 h
        refine lv_aload_n hx hb dX8_blockIn_9 rfl (lv_at hl 0 rfl) ?_
        refine gX8 hx hb ht hown hK hP 0 rfl 3 (by decide) fl_X8_15 (fun _ h => h) rfl dX8_blockIn_10 ?_
        refine lv_iload hx hb dX8_blockIn_13 (lv_at hl 4 rfl) ?_
        refine ild hx hb hK hP 1 rfl dX8_blockIn_15 hV.1 ?_
        have hV := hV.2
        refine lv_iload_n hx hb dX8_blockIn_16 rfl (lv_at hl 1 rfl) ?_
        refine lv_icmp_ne (tgt := 34) hx hb dX8_blockIn_17 (by decide) (fun h => ?_) (fun h => ?_)
        · have hV := hV.2 h
          obtain ⟨v4_1, e_v4_1⟩ : ∃ y : Int32, y = (v4 + 1) := ⟨_, rfl⟩
          have hV := hV v4_1 e_v4_1
          refine lv_iinc (v := v4_1) (lv' := [(4, .int v4_1), (0, .ref a_this), (1, .int x1), (2, .int x2), (3, .int x3)]) hx hb dX8_blockIn_34 hl (k := 4) rfl (by rw [e_v4_1]; rfl) (by decide) rfl (fun ls hl => ?_)
          refine lv_goto (tgt := 3) hx hb dX8_blockIn_37 (by decide) ?_
          exact ih3 v4_1 _ _ _ hP hS (lv_sub hl [1, 2, 3, 4, 0] rfl) hV
        · have hV := hV.1 h
          refine lv_aload_n hx hb dX8_blockIn_20 rfl (lv_at hl 0 rfl) ?_
          refine gX8 hx hb ht hown hK hP 0 rfl 4 (by decide) fl_X8_18 (fun _ h => h) rfl dX8_blockIn_21 ?_
          refine lv_iload hx hb dX8_blockIn_24 (lv_at hl 4 rfl) ?_
          refine ild hx hb hK hP 2 rfl dX8_blockIn_26 hV.1 ?_
          have hV := hV.2
          refine lv_iload_n hx hb dX8_blockIn_27 rfl (lv_at hl 2 rfl) ?_
          refine lv_icmp_ne (tgt := 34) hx hb dX8_blockIn_28 (by decide) (fun h => ?_) (fun h => ?_)
          · have hV := hV.2 h
            obtain ⟨v4_2, e_v4_2⟩ : ∃ y : Int32, y = (v4 + 1) := ⟨_, rfl⟩
            have hV := hV v4_2 e_v4_2
            refine lv_iinc (v := v4_2) (lv' := [(4, .int v4_2), (0, .ref a_this), (1, .int x1), (2, .int x2), (3, .int x3)]) hx hb dX8_blockIn_34 hl (k := 4) rfl (by rw [e_v4_2]; rfl) (by decide) rfl (fun ls hl => ?_)
            refine lv_goto (tgt := 3) hx hb dX8_blockIn_37 (by decide) ?_
            exact ih3 v4_2 _ _ _ hP hS (lv_sub hl [1, 2, 3, 4, 0] rfl) hV
          · have hV := hV.1 h
            refine lv_iload hx hb dX8_blockIn_31 (lv_at hl 4 rfl) ?_
            exact hret _ _ _ _ _ () hS dX8_blockIn_33 hP hV
  refine lv_iconst (v := 0) hx hb dX8_blockIn_0 (by decide) ?_
  refine lv_istore (lv' := [(4, .int 0), (0, .ref a_this), (1, .int x1), (2, .int x2), (3, .int x3)]) hx hb dX8_blockIn_1 hl (by decide) rfl (fun ls hl => ?_)
  obtain ⟨k, hV⟩ := hV
  exact b3 k 0 _ _ _ hP hS (lv_sub hl [1, 2, 3, 4, 0] rfl) hV
