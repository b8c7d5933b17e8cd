def rm_X10_noPlan : Room := { frames := 0, cells := 0, slots := 0, locals := 0 }
def P_X10_noPlan (f_all : Nat → Int32) (post : (Nat → Int32) → Prop) : Prop := (vp_in 5 3320 ∧ ∀ f_all_1 : Nat → Int32, f_all_1 = upd f_all (5 : Int32).toNatClampNeg 0 → (vp_in 6 3320 ∧ ∀ f_all_2 : Nat → Int32, f_all_2 = upd f_all_1 (6 : Int32).toNatClampNeg 0 → (vp_in 7 3320 ∧ ∀ f_all_3 : Nat → Int32, f_all_3 = upd f_all_2 (7 : Int32).toNatClampNeg 0 → (vp_in 8 3320 ∧ ∀ f_all_4 : Nat → Int32, f_all_4 = upd f_all_3 (8 : Int32).toNatClampNeg 0 → post f_all_4))))
set_option maxRecDepth 100000 in
set_option maxHeartbeats 4000000 in
theorem c_X10_noPlan (l : Launch) (D : va_G) (cI cB cS : ClassId) (a_this a_all a_has a_few a_sawn a_cut a_todo a_press a_gone : Nat) (f_all : Nat → Int32) (post : (Nat → Int32) → Prop) (hV : P_X10_noPlan f_all post) : Cv l yX10_noPlan cX10_noPlan 1 none rm_X10_noPlan D cI cB cS [.ref a_this] [oc a_this 9 [.ref a_all, .ref a_has, .ref a_few, .ref a_sawn, .ref a_cut, .ref a_todo, .ref a_press, .ref a_gone], ai cI a_all 3320 f_all] (fun (u : (Nat → Int32)) => post u) (fun (u : (Nat → Int32)) => [oc a_this 9 [.ref a_all, .ref a_has, .ref a_few, .ref a_sawn, .ref a_cut, .ref a_todo, .ref a_press, .ref a_gone], ai cI a_all 3320 u]) := by
  refine Cv.of ok_X10_noPlan (Nat.le_of_ble_eq_true rfl) ?_
  intro p e s m args below meth c A Q hx hb hml hown ht hnm hK hP hA hS hret ls hl
  have hown : s.vm.findClass RX10 = some m.cls := hown
  have FX : CallFix p m c cX10_noPlan 1 s args tblG RX10 := ⟨hx, hb, hml, hown, ht⟩
  have hP : PD D A [oc a_this 9 [.ref a_all, .ref a_has, .ref a_few, .ref a_sawn, .ref a_cut, .ref a_todo, .ref a_press, .ref a_gone], ai cI a_all 3320 f_all] s.heap := hP
  have hl : lv_has ls 1 [(0, .ref a_this)] := hl
  unfold P_X10_noPlan at hV
  refine lv_aload_n hx hb dX10_noPlan_0 rfl (lv_at hl 0 rfl) ?_
  refine gX10 hx hb ht hown hK hP 0 rfl 0 (by decide) fl_X10_7 (fun _ h => h) rfl dX10_noPlan_1 ?_
  refine lv_iconst (v := 5) hx hb dX10_noPlan_4 (by decide) ?_
  refine lv_iconst (v := 0) hx hb dX10_noPlan_5 (by decide) ?_
  refine ist hx hb hK hP hS 1 rfl dX10_noPlan_6 hV.1 (fun f_all_1 e_f_all_1 H locs hP hS => ?_)
  have hV := hV.2 f_all_1 e_f_all_1
  have hP : PD D A [oc a_this 9 [.ref a_all, .ref a_has, .ref a_few, .ref a_sawn, .ref a_cut, .ref a_todo, .ref a_press, .ref a_gone], ai cI a_all 3320 f_all_1] H := hP
  refine lv_aload_n hx hb dX10_noPlan_7 rfl (lv_at hl 0 rfl) ?_
  refine gX10 hx hb ht hown hK hP 0 rfl 0 (by decide) fl_X10_7 (fun _ h => h) rfl dX10_noPlan_8 ?_
  refine lv_bipush (v := 6) hx hb dX10_noPlan_11 (by decide) ?_
  refine lv_iconst (v := 0) hx hb dX10_noPlan_13 (by decide) ?_
  refine ist hx hb hK hP hS 1 rfl dX10_noPlan_14 hV.1 (fun f_all_2 e_f_all_2 H locs hP hS => ?_)
  have hV := hV.2 f_all_2 e_f_all_2
  have hP : PD D A [oc a_this 9 [.ref a_all, .ref a_has, .ref a_few, .ref a_sawn, .ref a_cut, .ref a_todo, .ref a_press, .ref a_gone], ai cI a_all 3320 f_all_2] H := hP
  refine lv_aload_n hx hb dX10_noPlan_15 rfl (lv_at hl 0 rfl) ?_
  refine gX10 hx hb ht hown hK hP 0 rfl 0 (by decide) fl_X10_7 (fun _ h => h) rfl dX10_noPlan_16 ?_
  refine lv_bipush (v := 7) hx hb dX10_noPlan_19 (by decide) ?_
  refine lv_iconst (v := 0) hx hb dX10_noPlan_21 (by decide) ?_
  refine ist hx hb hK hP hS 1 rfl dX10_noPlan_22 hV.1 (fun f_all_3 e_f_all_3 H locs hP hS => ?_)
  have hV := hV.2 f_all_3 e_f_all_3
  have hP : PD D A [oc a_this 9 [.ref a_all, .ref a_has, .ref a_few, .ref a_sawn, .ref a_cut, .ref a_todo, .ref a_press, .ref a_gone], ai cI a_all 3320 f_all_3] H := hP
  refine lv_aload_n hx hb dX10_noPlan_23 rfl (lv_at hl 0 rfl) ?_
  refine gX10 hx hb ht hown hK hP 0 rfl 0 (by decide) fl_X10_7 (fun _ h => h) rfl dX10_noPlan_24 ?_
  refine lv_bipush (v := 8) hx hb dX10_noPlan_27 (by decide) ?_
  refine lv_iconst (v := 0) hx hb dX10_noPlan_29 (by decide) ?_
  refine ist hx hb hK hP hS 1 rfl dX10_noPlan_30 hV.1 (fun f_all_4 e_f_all_4 H locs hP hS => ?_)
  have hV := hV.2 f_all_4 e_f_all_4
  have hP : PD D A [oc a_this 9 [.ref a_all, .ref a_has, .ref a_few, .ref a_sawn, .ref a_cut, .ref a_todo, .ref a_press, .ref a_gone], ai cI a_all 3320 f_all_4] H := hP
  exact hret _ _ _ _ f_all_4 hS dX10_noPlan_31 hP hV

def rm_X10_begins : Room := { frames := 1, cells := 0, slots := 0, locals := 20 }
def V_X10_begins_16 (post : (Nat → Int32) → Prop) : Nat → Int32 → (Nat → Int32) → Prop
  | 0, _, _ => False
  | n + 1, v3, f_all => ((64 ≤ v3 → P_X10_noPlan f_all (fun f_all_1 => post f_all_1)) ∧ (¬ 64 ≤ v3 → (vp_in (30 + v3) 3320 ∧ ∀ f_all_2 : Nat → Int32, f_all_2 = upd f_all (30 + v3).toNatClampNeg 10 → (vp_in (100 + v3) 3320 ∧ ∀ f_all_3 : Nat → Int32, f_all_3 = upd f_all_2 (100 + v3).toNatClampNeg 0 → (∀ v3_4 : Int32, v3_4 = (v3 + 1) → V_X10_begins_16 post n v3_4 f_all_3)))))
theorem V_X10_begins_16_s (post : (Nat → Int32) → Prop) (n : Nat) (v3 : Int32) (f_all : Nat → Int32) : V_X10_begins_16 post (n + 1) v3 f_all = (((64 ≤ v3 → P_X10_noPlan f_all (fun f_all_1 => post f_all_1)) ∧ (¬ 64 ≤ v3 → (vp_in (30 + v3) 3320 ∧ ∀ f_all_2 : Nat → Int32, f_all_2 = upd f_all (30 + v3).toNatClampNeg 10 → (vp_in (100 + v3) 3320 ∧ ∀ f_all_3 : Nat → Int32, f_all_3 = upd f_all_2 (100 + v3).toNatClampNeg 0 → (∀ v3_4 : Int32, v3_4 = (v3 + 1) → V_X10_begins_16 post n v3_4 f_all_3)))))) := rfl
def P_X10_begins (x1 : Int32) (x2 : Int32) (f_all : Nat → Int32) (post : (Nat → Int32) → Prop) : Prop := (vp_in 0 3320 ∧ ∀ f_all_5 : Nat → Int32, f_all_5 = upd f_all (0 : Int32).toNatClampNeg x1 → (vp_in 1 3320 ∧ ∀ f_all_6 : Nat → Int32, f_all_6 = upd f_all_5 (1 : Int32).toNatClampNeg x2 → (∃ k : Nat, V_X10_begins_16 post k 0 f_all_6)))
set_option maxRecDepth 100000 in
set_option maxHeartbeats 4000000 in
theorem c_X10_begins (l : Launch) (D : va_G) (cI cB cS : ClassId) (a_this a_all a_has a_few a_sawn a_cut a_todo a_press a_gone : Nat) (x1 : Int32) (x2 : Int32) (f_all : Nat → Int32) (post : (Nat → Int32) → Prop) (hV : P_X10_begins x1 x2 f_all post) : Cv l yX10_begins cX10_begins 4 none rm_X10_begins D cI cB cS [.ref a_this, .int x1, .int x2] [oc a_this 9 [.ref a_all, .ref a_has, .ref a_few, .ref a_sawn, .ref a_cut, .ref a_todo, .ref a_press, .ref a_gone], ai cI a_all 3320 f_all] (fun (u : (Nat → Int32)) => post u) (fun (u : (Nat → Int32)) => [oc a_this 9 [.ref a_all, .ref a_has, .ref a_few, .ref a_sawn, .ref a_cut, .ref a_todo, .ref a_press, .ref a_gone], ai cI a_all 3320 u]) := by
  refine Cv.of ok_X10_begins (Nat.le_of_ble_eq_true rfl) ?_
  intro p e s m args below meth c A Q hx hb hml hown ht hnm hK hP hA hS hret ls hl
  have hown : s.vm.findClass RX10 = some m.cls := hown
  have FX : CallFix p m c cX10_begins 4 s args tblG RX10 := ⟨hx, hb, hml, hown, ht⟩
  have hP : PD D A [oc a_this 9 [.ref a_all, .ref a_has, .ref a_few, .ref a_sawn, .ref a_cut, .ref a_todo, .ref a_press, .ref a_gone], ai cI a_all 3320 f_all] s.heap := hP
  have hl : lv_has ls 4 [(0, .ref a_this), (1, .int x1), (2, .int x2)] := hl
  unfold P_X10_begins at hV
  have b16 : ∀  (k16 : Nat) (v3 : Int32) (f_all : Nat → Int32) (H : Heap) (locs : List Loc) (ls : Array Slot), PD D A [oc a_this 9 [.ref a_all, .ref a_has, .ref a_few, .ref a_sawn, .ref a_cut, .ref a_todo, .ref a_press, .ref a_gone], ai cI a_all 3320 f_all] H → va_S A s.heap H locs → lv_has ls 4 [(0, .ref a_this), (3, .int v3)] → V_X10_begins_16 post k16 v3 f_all → W p l e rm_X10_begins s m args below meth c H locs 0 0 Q (F0 m 16 ls []) := by
    intro  k16
    induction k16 with
    | zero => intro v3 f_all H locs ls hP hS hl hV; exact False.elim hV
    | succ k16 ih16 =>
      intro v3 f_all H locs ls hP hS hl hV
      rw [V_X10_begins_16_s] at hV
      refine lv_iload_n hx hb dX10_begins_16 rfl (lv_at hl 1 rfl) ?_
      refine lv_bipush (v := 64) hx hb dX10_begins_17 (by decide) ?_
      refine lv_icmp_ge (tgt := 49) hx hb dX10_begins_19 (by decide) (fun h => ?_) (fun h => ?_)
      · have hV := hV.1 h
        refine lv_aload_n hx hb dX10_begins_49 rfl (lv_at hl 0 rfl) ?_
        refine KVv (As := []) (rest := []) FX (c_X10_noPlan l D cI cB cS a_this a_all a_has a_few a_sawn a_cut a_todo a_press a_gone f_all _ hV) ok_X10_noPlan im_X10_noPlan se_X10_noPlan li_X10_39 dX10_begins_50 hK hP hS hA [0, 1] [] 0 rfl rfl rfl (by decide) rfl rfl hl.1 (Nat.le_of_ble_eq_true rfl) ⟨Nat.le_of_ble_eq_true rfl, Nat.le_of_ble_eq_true rfl⟩ ⟨Nat.le_of_ble_eq_true rfl, Nat.le_of_ble_eq_true rfl⟩ (fun f_all_1 H locs hV hP hS => ?_)
        have hP : PD D A [oc a_this 9 [.ref a_all, .ref a_has, .ref a_few, .ref a_sawn, .ref a_cut, .ref a_todo, .ref a_press, .ref a_gone], ai cI a_all 3320 f_all_1] H := hP
        exact hret _ _ _ _ f_all_1 hS dX10_begins_53 hP hV
      · have hV := hV.2 h
        refine lv_aload_n hx hb dX10_begins_22 rfl (lv_at hl 0 rfl) ?_
        refine gX10 hx hb ht hown hK hP 0 rfl 0 (by decide) fl_X10_7 (fun _ h => h) rfl dX10_begins_23 ?_
        refine lv_bipush (v := 30) hx hb dX10_begins_26 (by decide) ?_
        refine lv_iload_n hx hb dX10_begins_28 rfl (lv_at hl 1 rfl) ?_
        refine lv_iadd hx hb dX10_begins_29 ?_
        refine lv_bipush (v := 10) hx hb dX10_begins_30 (by decide) ?_
        refine ist hx hb hK hP hS 1 rfl dX10_begins_32 hV.1 (fun f_all_2 e_f_all_2 H locs hP hS => ?_)
        have hV := hV.2 f_all_2 e_f_all_2
        have hP : PD D A [oc a_this 9 [.ref a_all, .ref a_has, .ref a_few, .ref a_sawn, .ref a_cut, .ref a_todo, .ref a_press, .ref a_gone], ai cI a_all 3320 f_all_2] H := hP
        refine lv_aload_n hx hb dX10_begins_33 rfl (lv_at hl 0 rfl) ?_
        refine gX10 hx hb ht hown hK hP 0 rfl 0 (by decide) fl_X10_7 (fun _ h => h) rfl dX10_begins_34 ?_
        refine lv_bipush (v := 100) hx hb dX10_begins_37 (by decide) ?_
        refine lv_iload_n hx hb dX10_begins_39 rfl (lv_at hl 1 rfl) ?_
        refine lv_iadd hx hb dX10_begins_40 ?_
        refine lv_iconst (v := 0) hx hb dX10_begins_41 (by decide) ?_
        refine ist hx hb hK hP hS 1 rfl dX10_begins_42 hV.1 (fun f_all_3 e_f_all_3 H locs hP hS => ?_)
        have hV := hV.2 f_all_3 e_f_all_3
        have hP : PD D A [oc a_this 9 [.ref a_all, .ref a_has, .ref a_few, .ref a_sawn, .ref a_cut, .ref a_todo, .ref a_press, .ref a_gone], ai cI a_all 3320 f_all_3] H := hP
        obtain ⟨v3_4, e_v3_4⟩ : ∃ y : Int32, y = (v3 + 1) := ⟨_, rfl⟩
        have hV := hV v3_4 e_v3_4
        refine lv_iinc (v := v3_4) (lv' := [(3, .int v3_4), (0, .ref a_this)]) hx hb dX10_begins_43 hl (k := 1) rfl (by rw [e_v3_4]; rfl) (by decide) rfl (fun ls hl => ?_)
        refine lv_goto (tgt := 16) hx hb dX10_begins_46 (by decide) ?_
        exact ih16 v3_4 f_all_3 _ _ _ hP hS (lv_sub hl [1, 0] rfl) hV
  refine lv_aload_n hx hb dX10_begins_0 rfl (lv_at hl 0 rfl) ?_
  refine gX10 hx hb ht hown hK hP 0 rfl 0 (by decide) fl_X10_7 (fun _ h => h) rfl dX10_begins_1 ?_
  refine lv_iconst (v := 0) hx hb dX10_begins_4 (by decide) ?_
  refine lv_iload_n hx hb dX10_begins_5 rfl (lv_at hl 1 rfl) ?_
  refine ist hx hb hK hP hS 1 rfl dX10_begins_6 hV.1 (fun f_all_5 e_f_all_5 H locs hP hS => ?_)
  have hV := hV.2 f_all_5 e_f_all_5
  have hP : PD D A [oc a_this 9 [.ref a_all, .ref a_has, .ref a_few, .ref a_sawn, .ref a_cut, .ref a_todo, .ref a_press, .ref a_gone], ai cI a_all 3320 f_all_5] H := hP
  refine lv_aload_n hx hb dX10_begins_7 rfl (lv_at hl 0 rfl) ?_
  refine gX10 hx hb ht hown hK hP 0 rfl 0 (by decide) fl_X10_7 (fun _ h => h) rfl dX10_begins_8 ?_
  refine lv_iconst (v := 1) hx hb dX10_begins_11 (by decide) ?_
  refine lv_iload_n hx hb dX10_begins_12 rfl (lv_at hl 2 rfl) ?_
  refine ist hx hb hK hP hS 1 rfl dX10_begins_13 hV.1 (fun f_all_6 e_f_all_6 H locs hP hS => ?_)
  have hV := hV.2 f_all_6 e_f_all_6
  have hP : PD D A [oc a_this 9 [.ref a_all, .ref a_has, .ref a_few, .ref a_sawn, .ref a_cut, .ref a_todo, .ref a_press, .ref a_gone], ai cI a_all 3320 f_all_6] H := hP
  refine lv_iconst (v := 0) hx hb dX10_begins_14 (by decide) ?_
  refine lv_istore_n (lv' := [(3, .int 0), (0, .ref a_this), (1, .int x1), (2, .int x2)]) hx hb dX10_begins_15 rfl hl (by decide) rfl (fun ls hl => ?_)
  obtain ⟨k, hV⟩ := hV
  exact b16 k 0 f_all_6 _ _ _ hP hS (lv_sub hl [1, 0] rfl) hV

def rm_X10_init : Room := { frames := 2, cells := 8, slots := 15995, locals := 43 }
def P_X10_init (post : Nat → Nat → Nat → Nat → Nat → Nat → Nat → Nat → (Nat → Int32) → (Nat → Int32) → (Nat → Int32) → (Nat → Int32) → (Nat → Int32) → (Nat → Int32) → (Nat → Int32) → (Nat → Int32) → Prop) : Prop := (∀ q8 : Nat, (∀ q15 : Nat, (∀ q24 : Nat, (∀ q33 : Nat, (∀ q42 : Nat, (∀ q51 : Nat, (∀ q59 : Nat, (∀ q67 : Nat, (vp_in 2 3320 ∧ ∀ f_n8_1 : Nat → Int32, f_n8_1 = upd (fun _ => 0) (2 : Int32).toNatClampNeg 40 → (vp_in 3 3320 ∧ ∀ f_n8_2 : Nat → Int32, f_n8_2 = upd f_n8_1 (3 : Int32).toNatClampNeg 1 → P_X10_begins 4 4 f_n8_2 (fun f_n8_3 => post q15 q24 q33 q42 q51 q59 q67 q8 (fun _ => 0) (fun _ => 0) (fun _ => 0) (fun _ => 0) (fun _ => 0) (fun _ => 0) (fun _ => 0) f_n8_3)))))))))))
set_option maxRecDepth 100000 in
set_option maxHeartbeats 4000000 in
theorem c_X10_init (l : Launch) (D : va_G) (cI cB cS : ClassId) (a_this : Nat) (post : Nat → Nat → Nat → Nat → Nat → Nat → Nat → Nat → (Nat → Int32) → (Nat → Int32) → (Nat → Int32) → (Nat → Int32) → (Nat → Int32) → (Nat → Int32) → (Nat → Int32) → (Nat → Int32) → Prop) (hV : P_X10_init post) : Cv l yX10_init cX10_init 1 none rm_X10_init D cI cB cS [.ref a_this] [oc a_this 9 [.null, .null, .null, .null, .null, .null, .null, .null]] (fun (u : Nat × Nat × Nat × Nat × Nat × Nat × Nat × Nat × (Nat → Int32) × (Nat → Int32) × (Nat → Int32) × (Nat → Int32) × (Nat → Int32) × (Nat → Int32) × (Nat → Int32) × (Nat → Int32)) => post u.1 u.2.1 u.2.2.1 u.2.2.2.1 u.2.2.2.2.1 u.2.2.2.2.2.1 u.2.2.2.2.2.2.1 u.2.2.2.2.2.2.2.1 u.2.2.2.2.2.2.2.2.1 u.2.2.2.2.2.2.2.2.2.1 u.2.2.2.2.2.2.2.2.2.2.1 u.2.2.2.2.2.2.2.2.2.2.2.1 u.2.2.2.2.2.2.2.2.2.2.2.2.1 u.2.2.2.2.2.2.2.2.2.2.2.2.2.1 u.2.2.2.2.2.2.2.2.2.2.2.2.2.2.1 u.2.2.2.2.2.2.2.2.2.2.2.2.2.2.2) (fun (u : Nat × Nat × Nat × Nat × Nat × Nat × Nat × Nat × (Nat → Int32) × (Nat → Int32) × (Nat → Int32) × (Nat → Int32) × (Nat → Int32) × (Nat → Int32) × (Nat → Int32) × (Nat → Int32)) => [oc a_this 9 [.ref u.2.2.2.2.2.2.2.1, .ref u.1, .ref u.2.1, .ref u.2.2.1, .ref u.2.2.2.1, .ref u.2.2.2.2.1, .ref u.2.2.2.2.2.1, .ref u.2.2.2.2.2.2.1], ai cB u.1 3 (u.2.2.2.2.2.2.2.2.1), ai cI u.2.1 4096 (u.2.2.2.2.2.2.2.2.2.1), ai cI u.2.2.1 4096 (u.2.2.2.2.2.2.2.2.2.2.1), ai cI u.2.2.2.1 4096 (u.2.2.2.2.2.2.2.2.2.2.2.1), ai cI u.2.2.2.2.1 256 (u.2.2.2.2.2.2.2.2.2.2.2.2.1), ai cI u.2.2.2.2.2.1 64 (u.2.2.2.2.2.2.2.2.2.2.2.2.2.1), ai cB u.2.2.2.2.2.2.1 64 (u.2.2.2.2.2.2.2.2.2.2.2.2.2.2.1), ai cI u.2.2.2.2.2.2.2.1 3320 (u.2.2.2.2.2.2.2.2.2.2.2.2.2.2.2)]) := by
  refine Cv.of ok_X10_init (Nat.le_of_ble_eq_true rfl) ?_
  intro p e s m args below meth c A Q hx hb hml hown ht hnm hK hP hA hS hret ls hl
  have hown : s.vm.findClass RX10 = some m.cls := hown
  have FX : CallFix p m c cX10_init 1 s args tblG RX10 := ⟨hx, hb, hml, hown, ht⟩
  have hP : PD D A [oc a_this 9 [.null, .null, .null, .null, .null, .null, .null, .null]] s.heap := hP
  have hl : lv_has ls 1 [(0, .ref a_this)] := hl
  unfold P_X10_init at hV
  refine lv_aload_n hx hb dX10_init_0 rfl (lv_at hl 0 rfl) ?_
  refine oin hx hb ht hown (hml.trans hl.1.symm) li_X10_1 (Nat.le_of_ble_eq_true rfl) (Nat.le_of_ble_eq_true rfl) dX10_init_1 ?_
  refine lv_aload_n hx hb dX10_init_4 rfl (lv_at hl 0 rfl) ?_
  refine lv_sipush (v := 3320) hx hb dX10_init_5 (by decide) ?_
  refine nai hx hb ht hK hP hS hA 3320 (by decide) (by decide) (by decide) (Nat.le_of_ble_eq_true rfl) (Nat.le_of_ble_eq_true rfl) dX10_init_8 (fun q8 H hP hS => ?_)
  have hV := hV q8
  have hP : PD D A [oc a_this 9 [.null, .null, .null, .null, .null, .null, .null, .null], ai cI q8 3320 (fun _ => 0)] H := hP
  refine qX10 hx hb ht hown hK hP hS 0 rfl 0 (by decide) fl_X10_7 (fun _ h => h) rfl hnm rfl (tyX10_ok 0 (by decide)) rfl rfl (Nat.le_of_ble_eq_true rfl) dX10_init_10 (fun H locs hP hS => ?_)
  have hP : PD D A [oc a_this 9 [.ref q8, .null, .null, .null, .null, .null, .null, .null], ai cI q8 3320 (fun _ => 0)] H := hP
  refine lv_aload_n hx hb dX10_init_13 rfl (lv_at hl 0 rfl) ?_
  refine lv_iconst (v := 3) hx hb dX10_init_14 (by decide) ?_
  refine nab hx hb ht hK hP hS hA 3 (by decide) (by decide) (by decide) (Nat.le_of_ble_eq_true rfl) (Nat.le_of_ble_eq_true rfl) dX10_init_15 (fun q15 H hP hS => ?_)
  have hV := hV q15
  have hP : PD D A [oc a_this 9 [.ref q8, .null, .null, .null, .null, .null, .null, .null], ai cI q8 3320 (fun _ => 0), ai cB q15 3 (fun _ => 0)] H := hP
  refine qX10 hx hb ht hown hK hP hS 0 rfl 1 (by decide) fl_X10_13 (fun _ h => h) rfl hnm rfl (tyX10_ok 1 (by decide)) rfl rfl (Nat.le_of_ble_eq_true rfl) dX10_init_17 (fun H locs hP hS => ?_)
  have hP : PD D A [oc a_this 9 [.ref q8, .ref q15, .null, .null, .null, .null, .null, .null], ai cI q8 3320 (fun _ => 0), ai cB q15 3 (fun _ => 0)] H := hP
  refine lv_aload_n hx hb dX10_init_20 rfl (lv_at hl 0 rfl) ?_
  refine lv_sipush (v := 4096) hx hb dX10_init_21 (by decide) ?_
  refine nai hx hb ht hK hP hS hA 4096 (by decide) (by decide) (by decide) (Nat.le_of_ble_eq_true rfl) (Nat.le_of_ble_eq_true rfl) dX10_init_24 (fun q24 H hP hS => ?_)
  have hV := hV q24
  have hP : PD D A [oc a_this 9 [.ref q8, .ref q15, .null, .null, .null, .null, .null, .null], ai cI q8 3320 (fun _ => 0), ai cB q15 3 (fun _ => 0), ai cI q24 4096 (fun _ => 0)] H := hP
  refine qX10 hx hb ht hown hK hP hS 0 rfl 2 (by decide) fl_X10_17 (fun _ h => h) rfl hnm rfl (tyX10_ok 2 (by decide)) rfl rfl (Nat.le_of_ble_eq_true rfl) dX10_init_26 (fun H locs hP hS => ?_)
  have hP : PD D A [oc a_this 9 [.ref q8, .ref q15, .ref q24, .null, .null, .null, .null, .null], ai cI q8 3320 (fun _ => 0), ai cB q15 3 (fun _ => 0), ai cI q24 4096 (fun _ => 0)] H := hP
  refine lv_aload_n hx hb dX10_init_29 rfl (lv_at hl 0 rfl) ?_
  refine lv_sipush (v := 4096) hx hb dX10_init_30 (by decide) ?_
  refine nai hx hb ht hK hP hS hA 4096 (by decide) (by decide) (by decide) (Nat.le_of_ble_eq_true rfl) (Nat.le_of_ble_eq_true rfl) dX10_init_33 (fun q33 H hP hS => ?_)
  have hV := hV q33
  have hP : PD D A [oc a_this 9 [.ref q8, .ref q15, .ref q24, .null, .null, .null, .null, .null], ai cI q8 3320 (fun _ => 0), ai cB q15 3 (fun _ => 0), ai cI q24 4096 (fun _ => 0), ai cI q33 4096 (fun _ => 0)] H := hP
  refine qX10 hx hb ht hown hK hP hS 0 rfl 3 (by decide) fl_X10_20 (fun _ h => h) rfl hnm rfl (tyX10_ok 3 (by decide)) rfl rfl (Nat.le_of_ble_eq_true rfl) dX10_init_35 (fun H locs hP hS => ?_)
  have hP : PD D A [oc a_this 9 [.ref q8, .ref q15, .ref q24, .ref q33, .null, .null, .null, .null], ai cI q8 3320 (fun _ => 0), ai cB q15 3 (fun _ => 0), ai cI q24 4096 (fun _ => 0), ai cI q33 4096 (fun _ => 0)] H := hP
  refine lv_aload_n hx hb dX10_init_38 rfl (lv_at hl 0 rfl) ?_
  refine lv_sipush (v := 4096) hx hb dX10_init_39 (by decide) ?_
  refine nai hx hb ht hK hP hS hA 4096 (by decide) (by decide) (by decide) (Nat.le_of_ble_eq_true rfl) (Nat.le_of_ble_eq_true rfl) dX10_init_42 (fun q42 H hP hS => ?_)
  have hV := hV q42
  have hP : PD D A [oc a_this 9 [.ref q8, .ref q15, .ref q24, .ref q33, .null, .null, .null, .null], ai cI q8 3320 (fun _ => 0), ai cB q15 3 (fun _ => 0), ai cI q24 4096 (fun _ => 0), ai cI q33 4096 (fun _ => 0), ai cI q42 4096 (fun _ => 0)] H := hP
  refine qX10 hx hb ht hown hK hP hS 0 rfl 4 (by decide) fl_X10_23 (fun _ h => h) rfl hnm rfl (tyX10_ok 4 (by decide)) rfl rfl (Nat.le_of_ble_eq_true rfl) dX10_init_44 (fun H locs hP hS => ?_)
  have hP : PD D A [oc a_this 9 [.ref q8, .ref q15, .ref q24, .ref q33, .ref q42, .null, .null, .null], ai cI q8 3320 (fun _ => 0), ai cB q15 3 (fun _ => 0), ai cI q24 4096 (fun _ => 0), ai cI q33 4096 (fun _ => 0), ai cI q42 4096 (fun _ => 0)] H := hP
  refine lv_aload_n hx hb dX10_init_47 rfl (lv_at hl 0 rfl) ?_
  refine lv_sipush (v := 256) hx hb dX10_init_48 (by decide) ?_
  refine nai hx hb ht hK hP hS hA 256 (by decide) (by decide) (by decide) (Nat.le_of_ble_eq_true rfl) (Nat.le_of_ble_eq_true rfl) dX10_init_51 (fun q51 H hP hS => ?_)
  have hV := hV q51
  have hP : PD D A [oc a_this 9 [.ref q8, .ref q15, .ref q24, .ref q33, .ref q42, .null, .null, .null], ai cI q8 3320 (fun _ => 0), ai cB q15 3 (fun _ => 0), ai cI q24 4096 (fun _ => 0), ai cI q33 4096 (fun _ => 0), ai cI q42 4096 (fun _ => 0), ai cI q51 256 (fun _ => 0)] H := hP
  refine qX10 hx hb ht hown hK hP hS 0 rfl 5 (by decide) fl_X10_26 (fun _ h => h) rfl hnm rfl (tyX10_ok 5 (by decide)) rfl rfl (Nat.le_of_ble_eq_true rfl) dX10_init_53 (fun H locs hP hS => ?_)
  have hP : PD D A [oc a_this 9 [.ref q8, .ref q15, .ref q24, .ref q33, .ref q42, .ref q51, .null, .null], ai cI q8 3320 (fun _ => 0), ai cB q15 3 (fun _ => 0), ai cI q24 4096 (fun _ => 0), ai cI q33 4096 (fun _ => 0), ai cI q42 4096 (fun _ => 0), ai cI q51 256 (fun _ => 0)] H := hP
  refine lv_aload_n hx hb dX10_init_56 rfl (lv_at hl 0 rfl) ?_
  refine lv_bipush (v := 64) hx hb dX10_init_57 (by decide) ?_
  refine nai hx hb ht hK hP hS hA 64 (by decide) (by decide) (by decide) (Nat.le_of_ble_eq_true rfl) (Nat.le_of_ble_eq_true rfl) dX10_init_59 (fun q59 H hP hS => ?_)
  have hV := hV q59
  have hP : PD D A [oc a_this 9 [.ref q8, .ref q15, .ref q24, .ref q33, .ref q42, .ref q51, .null, .null], ai cI q8 3320 (fun _ => 0), ai cB q15 3 (fun _ => 0), ai cI q24 4096 (fun _ => 0), ai cI q33 4096 (fun _ => 0), ai cI q42 4096 (fun _ => 0), ai cI q51 256 (fun _ => 0), ai cI q59 64 (fun _ => 0)] H := hP
  refine qX10 hx hb ht hown hK hP hS 0 rfl 6 (by decide) fl_X10_29 (fun _ h => h) rfl hnm rfl (tyX10_ok 6 (by decide)) rfl rfl (Nat.le_of_ble_eq_true rfl) dX10_init_61 (fun H locs hP hS => ?_)
  have hP : PD D A [oc a_this 9 [.ref q8, .ref q15, .ref q24, .ref q33, .ref q42, .ref q51, .ref q59, .null], ai cI q8 3320 (fun _ => 0), ai cB q15 3 (fun _ => 0), ai cI q24 4096 (fun _ => 0), ai cI q33 4096 (fun _ => 0), ai cI q42 4096 (fun _ => 0), ai cI q51 256 (fun _ => 0), ai cI q59 64 (fun _ => 0)] H := hP
  refine lv_aload_n hx hb dX10_init_64 rfl (lv_at hl 0 rfl) ?_
  refine lv_bipush (v := 64) hx hb dX10_init_65 (by decide) ?_
  refine nab hx hb ht hK hP hS hA 64 (by decide) (by decide) (by decide) (Nat.le_of_ble_eq_true rfl) (Nat.le_of_ble_eq_true rfl) dX10_init_67 (fun q67 H hP hS => ?_)
  have hV := hV q67
  have hP : PD D A [oc a_this 9 [.ref q8, .ref q15, .ref q24, .ref q33, .ref q42, .ref q51, .ref q59, .null], ai cI q8 3320 (fun _ => 0), ai cB q15 3 (fun _ => 0), ai cI q24 4096 (fun _ => 0), ai cI q33 4096 (fun _ => 0), ai cI q42 4096 (fun _ => 0), ai cI q51 256 (fun _ => 0), ai cI q59 64 (fun _ => 0), ai cB q67 64 (fun _ => 0)] H := hP
  refine qX10 hx hb ht hown hK hP hS 0 rfl 7 (by decide) fl_X10_32 (fun _ h => h) rfl hnm rfl (tyX10_ok 7 (by decide)) rfl rfl (Nat.le_of_ble_eq_true rfl) dX10_init_69 (fun H locs hP hS => ?_)
  have hP : PD D A [oc a_this 9 [.ref q8, .ref q15, .ref q24, .ref q33, .ref q42, .ref q51, .ref q59, .ref q67], ai cI q8 3320 (fun _ => 0), ai cB q15 3 (fun _ => 0), ai cI q24 4096 (fun _ => 0), ai cI q33 4096 (fun _ => 0), ai cI q42 4096 (fun _ => 0), ai cI q51 256 (fun _ => 0), ai cI q59 64 (fun _ => 0), ai cB q67 64 (fun _ => 0)] H := hP
  refine lv_aload_n hx hb dX10_init_72 rfl (lv_at hl 0 rfl) ?_
  refine gX10 hx hb ht hown hK hP 0 rfl 0 (by decide) fl_X10_7 (fun _ h => h) rfl dX10_init_73 ?_
  refine lv_iconst (v := 2) hx hb dX10_init_76 (by decide) ?_
  refine lv_bipush (v := 40) hx hb dX10_init_77 (by decide) ?_
  refine ist hx hb hK hP hS 1 rfl dX10_init_79 hV.1 (fun f_n8_1 e_f_n8_1 H locs hP hS => ?_)
  have hV := hV.2 f_n8_1 e_f_n8_1
  have hP : PD D A [oc a_this 9 [.ref q8, .ref q15, .ref q24, .ref q33, .ref q42, .ref q51, .ref q59, .ref q67], ai cI q8 3320 f_n8_1, ai cB q15 3 (fun _ => 0), ai cI q24 4096 (fun _ => 0), ai cI q33 4096 (fun _ => 0), ai cI q42 4096 (fun _ => 0), ai cI q51 256 (fun _ => 0), ai cI q59 64 (fun _ => 0), ai cB q67 64 (fun _ => 0)] H := hP
  refine lv_aload_n hx hb dX10_init_80 rfl (lv_at hl 0 rfl) ?_
  refine gX10 hx hb ht hown hK hP 0 rfl 0 (by decide) fl_X10_7 (fun _ h => h) rfl dX10_init_81 ?_
  refine lv_iconst (v := 3) hx hb dX10_init_84 (by decide) ?_
  refine lv_iconst (v := 1) hx hb dX10_init_85 (by decide) ?_
  refine ist hx hb hK hP hS 1 rfl dX10_init_86 hV.1 (fun f_n8_2 e_f_n8_2 H locs hP hS => ?_)
  have hV := hV.2 f_n8_2 e_f_n8_2
  have hP : PD D A [oc a_this 9 [.ref q8, .ref q15, .ref q24, .ref q33, .ref q42, .ref q51, .ref q59, .ref q67], ai cI q8 3320 f_n8_2, ai cB q15 3 (fun _ => 0), ai cI q24 4096 (fun _ => 0), ai cI q33 4096 (fun _ => 0), ai cI q42 4096 (fun _ => 0), ai cI q51 256 (fun _ => 0), ai cI q59 64 (fun _ => 0), ai cB q67 64 (fun _ => 0)] H := hP
  refine lv_aload_n hx hb dX10_init_87 rfl (lv_at hl 0 rfl) ?_
  refine lv_iconst (v := 4) hx hb dX10_init_88 (by decide) ?_
  refine lv_iconst (v := 4) hx hb dX10_init_89 (by decide) ?_
  refine KVv (As := [.int 4, .int 4]) (rest := []) FX (c_X10_begins l D cI cB cS a_this q8 q15 q24 q33 q42 q51 q59 q67 4 4 f_n8_2 _ hV) ok_X10_begins im_X10_begins se_X10_begins li_X10_35 dX10_init_90 hK hP hS hA [0, 1] [2, 3, 4, 5, 6, 7, 8] 0 rfl rfl rfl (by decide) rfl rfl hl.1 (Nat.le_of_ble_eq_true rfl) ⟨Nat.le_of_ble_eq_true rfl, Nat.le_of_ble_eq_true rfl⟩ ⟨Nat.le_of_ble_eq_true rfl, Nat.le_of_ble_eq_true rfl⟩ (fun f_n8_3 H locs hV hP hS => ?_)
  have hP : PD D A [ai cB q15 3 (fun _ => 0), ai cI q24 4096 (fun _ => 0), ai cI q33 4096 (fun _ => 0), ai cI q42 4096 (fun _ => 0), ai cI q51 256 (fun _ => 0), ai cI q59 64 (fun _ => 0), ai cB q67 64 (fun _ => 0), oc a_this 9 [.ref q8, .ref q15, .ref q24, .ref q33, .ref q42, .ref q51, .ref q59, .ref q67], ai cI q8 3320 f_n8_3] H := hP
  exact hret _ _ _ _ (q15, q24, q33, q42, q51, q59, q67, q8, (fun _ => 0), (fun _ => 0), (fun _ => 0), (fun _ => 0), (fun _ => 0), (fun _ => 0), (fun _ => 0), f_n8_3) hS dX10_init_93 (hP.sub [7, 0, 1, 2, 3, 4, 5, 6, 8] rfl rfl) hV

def rm_X10_isIn : Room := { frames := 0, cells := 0, slots := 0, locals := 0 }
def P_X10_isIn (x0 : Int32) (x1 : Int32) (x2 : Int32) (post : Int32 → Prop) : Prop := ((x0 < x1 → post 0) ∧ (¬ x0 < x1 → ((x2 < x0 → post 0) ∧ (¬ x2 < x0 → post 1))))
set_option maxRecDepth 100000 in
set_option maxHeartbeats 4000000 in
theorem c_X10_isIn (l : Launch) (D : va_G) (cI cB cS : ClassId) (x0 : Int32) (x1 : Int32) (x2 : Int32) (post : Int32 → Prop) (hV : P_X10_isIn x0 x1 x2 post) : Ci l yX10_isIn cX10_isIn 3 (some .boolean) rm_X10_isIn D cI cB cS [.int x0, .int x1, .int x2] [] (fun r (_ : Unit) => post r) (fun (_ : Unit) => []) := by
  refine Cz.of ok_X10_isIn (Nat.le_of_ble_eq_true rfl) ?_
  intro p e s m args below meth c A Q hx hb hml hown ht hnm hK hP hA hS hret ls hl
  have hown : s.vm.findClass RX10 = some m.cls := hown
  have FX : CallFix p m c cX10_isIn 3 s args tblG RX10 := ⟨hx, hb, hml, hown, ht⟩
  have hP : PD D A [] s.heap := hP
  have hl : lv_has ls 3 [(0, .int x0), (1, .int x1), (2, .int x2)] := hl
  unfold P_X10_isIn at hV
  refine lv_iload_n hx hb dX10_isIn_0 rfl (lv_at hl 0 rfl) ?_
  refine lv_iload_n hx hb dX10_isIn_1 rfl (lv_at hl 1 rfl) ?_
  refine lv_icmp_lt (tgt := 14) hx hb dX10_isIn_2 (by decide) (fun h => ?_) (fun h => ?_)
  · have hV := hV.1 h
    refine lv_iconst (v := 0) hx hb dX10_isIn_14 (by decide) ?_
    exact hret _ _ _ _ _ () hS dX10_isIn_15 hP (by decide) hV
  · have hV := hV.2 h
    refine lv_iload_n hx hb dX10_isIn_5 rfl (lv_at hl 0 rfl) ?_
    refine lv_iload_n hx hb dX10_isIn_6 rfl (lv_at hl 2 rfl) ?_
    refine lv_icmp_gt (tgt := 14) hx hb dX10_isIn_7 (by decide) (fun h => ?_) (fun h => ?_)
    · have hV := hV.1 h
      refine lv_iconst (v := 0) hx hb dX10_isIn_14 (by decide) ?_
      exact hret _ _ _ _ _ () hS dX10_isIn_15 hP (by decide) hV
    · have hV := hV.2 h
      refine lv_iconst (v := 1) hx hb dX10_isIn_10 (by decide) ?_
      refine lv_goto (tgt := 15) hx hb dX10_isIn_11 (by decide) ?_
      exact hret _ _ _ _ _ () hS dX10_isIn_15 hP (by decide) hV

def rm_X10_wall : Room := { frames := 2, cells := 0, slots := 0, locals := 43 }
def P_X10_wall (x1 : Int32) (x2 : Int32) (f_all : Nat → Int32) (post : Int32 → (Nat → Int32) → Prop) : Prop := P_X10_isIn x1 1 8 (fun r_1 => ((r_1 = 0 → post 0 f_all) ∧ (¬ r_1 = 0 → P_X10_isIn x2 1 8 (fun r_2 => ((r_2 = 0 → post 0 f_all) ∧ (¬ r_2 = 0 → P_X10_begins x1 x2 f_all (fun f_all_3 => post 1 f_all_3)))))))
set_option maxRecDepth 100000 in
set_option maxHeartbeats 4000000 in
theorem c_X10_wall (l : Launch) (D : va_G) (cI cB cS : ClassId) (a_this a_all a_has a_few a_sawn a_cut a_todo a_press a_gone : Nat) (x1 : Int32) (x2 : Int32) (f_all : Nat → Int32) (post : Int32 → (Nat → Int32) → Prop) (hV : P_X10_wall x1 x2 f_all post) : Ci l yX10_wall cX10_wall 3 (some .boolean) rm_X10_wall D cI cB cS [.ref a_this, .int x1, .int x2] [oc a_this 9 [.ref a_all, .ref a_has, .ref a_few, .ref a_sawn, .ref a_cut, .ref a_todo, .ref a_press, .ref a_gone], ai cI a_all 3320 f_all] (fun r (u : (Nat → Int32)) => post r u) (fun (u : (Nat → Int32)) => [oc a_this 9 [.ref a_all, .ref a_has, .ref a_few, .ref a_sawn, .ref a_cut, .ref a_todo, .ref a_press, .ref a_gone], ai cI a_all 3320 u]) := by
  refine Cz.of ok_X10_wall (Nat.le_of_ble_eq_true rfl) ?_
  intro p e s m args below meth c A Q hx hb hml hown ht hnm hK hP hA hS hret ls hl
  have hown : s.vm.findClass RX10 = some m.cls := hown
  have FX : CallFix p m c cX10_wall 3 s args tblG RX10 := ⟨hx, hb, hml, hown, ht⟩
  have hP : PD D A [oc a_this 9 [.ref a_all, .ref a_has, .ref a_few, .ref a_sawn, .ref a_cut, .ref a_todo, .ref a_press, .ref a_gone], ai cI a_all 3320 f_all] s.heap := hP
  have hl : lv_has ls 3 [(0, .ref a_this), (1, .int x1), (2, .int x2)] := hl
  unfold P_X10_wall at hV
  refine lv_iload_n hx hb dX10_wall_0 rfl (lv_at hl 1 rfl) ?_
  refine lv_iconst (v := 1) hx hb dX10_wall_1 (by decide) ?_
  refine lv_bipush (v := 8) hx hb dX10_wall_2 (by decide) ?_
  refine KSi (As := [.int x1, .int 1, .int 8]) (rest := []) FX (c_X10_isIn l D cI cB cS x1 1 8 _ hV) ok_X10_isIn is_X10_isIn li_X10_42 dX10_wall_4 hK hP hS hA [] [0, 1] rfl rfl (by decide) rfl hl.1 (Nat.le_of_ble_eq_true rfl) ⟨Nat.le_of_ble_eq_true rfl, Nat.le_of_ble_eq_true rfl⟩ ⟨Nat.le_of_ble_eq_true rfl, Nat.le_of_ble_eq_true rfl⟩ (fun r_1 _ H locs hV hP hS => ?_)
  have hP : PD D A [oc a_this 9 [.ref a_all, .ref a_has, .ref a_few, .ref a_sawn, .ref a_cut, .ref a_todo, .ref a_press, .ref a_gone], ai cI a_all 3320 f_all] H := hP
  refine lv_if_eq (tgt := 20) hx hb dX10_wall_7 (by decide) (fun h => ?_) (fun h => ?_)
  · have hV := hV.1 h
    refine lv_iconst (v := 0) hx hb dX10_wall_20 (by decide) ?_
    exact hret _ _ _ _ _ f_all hS dX10_wall_21 hP (by decide) hV
  · have hV := hV.2 h
    refine lv_iload_n hx hb dX10_wall_10 rfl (lv_at hl 2 rfl) ?_
    refine lv_iconst (v := 1) hx hb dX10_wall_11 (by decide) ?_
    refine lv_bipush (v := 8) hx hb dX10_wall_12 (by decide) ?_
    refine KSi (As := [.int x2, .int 1, .int 8]) (rest := []) FX (c_X10_isIn l D cI cB cS x2 1 8 _ hV) ok_X10_isIn is_X10_isIn li_X10_42 dX10_wall_14 hK hP hS hA [] [0, 1] rfl rfl (by decide) rfl hl.1 (Nat.le_of_ble_eq_true rfl) ⟨Nat.le_of_ble_eq_true rfl, Nat.le_of_ble_eq_true rfl⟩ ⟨Nat.le_of_ble_eq_true rfl, Nat.le_of_ble_eq_true rfl⟩ (fun r_2 _ H locs hV hP hS => ?_)
    have hP : PD D A [oc a_this 9 [.ref a_all, .ref a_has, .ref a_few, .ref a_sawn, .ref a_cut, .ref a_todo, .ref a_press, .ref a_gone], ai cI a_all 3320 f_all] H := hP
    refine lv_if_ne (tgt := 22) hx hb dX10_wall_17 (by decide) (fun h => ?_) (fun h => ?_)
    · have hV := hV.2 h
      refine lv_aload_n hx hb dX10_wall_22 rfl (lv_at hl 0 rfl) ?_
      refine lv_iload_n hx hb dX10_wall_23 rfl (lv_at hl 1 rfl) ?_
      refine lv_iload_n hx hb dX10_wall_24 rfl (lv_at hl 2 rfl) ?_
      refine KVv (As := [.int x1, .int x2]) (rest := []) FX (c_X10_begins l D cI cB cS a_this a_all a_has a_few a_sawn a_cut a_todo a_press a_gone x1 x2 f_all _ hV) ok_X10_begins im_X10_begins se_X10_begins li_X10_35 dX10_wall_25 hK hP hS hA [0, 1] [] 0 rfl rfl rfl (by decide) rfl rfl hl.1 (Nat.le_of_ble_eq_true rfl) ⟨Nat.le_of_ble_eq_true rfl, Nat.le_of_ble_eq_true rfl⟩ ⟨Nat.le_of_ble_eq_true rfl, Nat.le_of_ble_eq_true rfl⟩ (fun f_all_3 H locs hV hP hS => ?_)
      have hP : PD D A [oc a_this 9 [.ref a_all, .ref a_has, .ref a_few, .ref a_sawn, .ref a_cut, .ref a_todo, .ref a_press, .ref a_gone], ai cI a_all 3320 f_all_3] H := hP
      refine lv_iconst (v := 1) hx hb dX10_wall_28 (by decide) ?_
      exact hret _ _ _ _ _ f_all_3 hS dX10_wall_29 hP (by decide) hV
    · have hV := hV.1 h
      refine lv_iconst (v := 0) hx hb dX10_wall_20 (by decide) ?_
      exact hret _ _ _ _ _ f_all hS dX10_wall_21 hP (by decide) hV

def rm_X10_isCell : Room := { frames := 1, cells := 0, slots := 0, locals := 22 }
def P_X10_isCell (x1 : Int32) (x2 : Int32) (f_all : Nat → Int32) (post : Int32 → Prop) : Prop := (vp_in 0 3320 ∧ P_X10_isIn x1 0 ((f_all (0 : Int32).toNatClampNeg) - 1) (fun r_1 => ((r_1 = 0 → post 0) ∧ (¬ r_1 = 0 → (vp_in 1 3320 ∧ P_X10_isIn x2 0 ((f_all (1 : Int32).toNatClampNeg) - 1) (fun r_2 => ((r_2 = 0 → post 0) ∧ (¬ r_2 = 0 → post 1))))))))
set_option maxRecDepth 100000 in
set_option maxHeartbeats 4000000 in
theorem c_X10_isCell (l : Launch) (D : va_G) (cI cB cS : ClassId) (a_this a_all a_has a_few a_sawn a_cut a_todo a_press a_gone : Nat) (x1 : Int32) (x2 : Int32) (f_all : Nat → Int32) (post : Int32 → Prop) (hV : P_X10_isCell x1 x2 f_all post) : Ci l yX10_isCell cX10_isCell 3 (some .boolean) rm_X10_isCell D cI cB cS [.ref a_this, .int x1, .int x2] [oc a_this 9 [.ref a_all, .ref a_has, .ref a_few, .ref a_sawn, .ref a_cut, .ref a_todo, .ref a_press, .ref a_gone], ai cI a_all 3320 f_all] (fun r (_ : Unit) => post r) (fun (_ : Unit) => [oc a_this 9 [.ref a_all, .ref a_has, .ref a_few, .ref a_sawn, .ref a_cut, .ref a_todo, .ref a_press, .ref a_gone], ai cI a_all 3320 f_all]) := by
  refine Cz.of ok_X10_isCell (Nat.le_of_ble_eq_true rfl) ?_
  intro p e s m args below meth c A Q hx hb hml hown ht hnm hK hP hA hS hret ls hl
  have hown : s.vm.findClass RX10 = some m.cls := hown
  have FX : CallFix p m c cX10_isCell 3 s args tblG RX10 := ⟨hx, hb, hml, hown, ht⟩
  have hP : PD D A [oc a_this 9 [.ref a_all, .ref a_has, .ref a_few, .ref a_sawn, .ref a_cut, .ref a_todo, .ref a_press, .ref a_gone], ai cI a_all 3320 f_all] s.heap := hP
  have hl : lv_has ls 3 [(0, .ref a_this), (1, .int x1), (2, .int x2)] := hl
  unfold P_X10_isCell at hV
  refine lv_iload_n hx hb dX10_isCell_0 rfl (lv_at hl 1 rfl) ?_
  refine lv_iconst (v := 0) hx hb dX10_isCell_1 (by decide) ?_
  refine lv_aload_n hx hb dX10_isCell_2 rfl (lv_at hl 0 rfl) ?_
  refine gX10 hx hb ht hown hK hP 0 rfl 0 (by decide) fl_X10_7 (fun _ h => h) rfl dX10_isCell_3 ?_
  refine lv_iconst (v := 0) hx hb dX10_isCell_6 (by decide) ?_
  refine ild hx hb hK hP 1 rfl dX10_isCell_7 hV.1 ?_
  have hV := hV.2
  refine lv_iconst (v := 1) hx hb dX10_isCell_8 (by decide) ?_
  refine lv_isub hx hb dX10_isCell_9 ?_
  refine KSi (As := [.int x1, .int 0, .int ((f_all (0 : Int32).toNatClampNeg) - 1)]) (rest := []) FX (c_X10_isIn l D cI cB cS x1 0 ((f_all (0 : Int32).toNatClampNeg) - 1) _ hV) ok_X10_isIn is_X10_isIn li_X10_42 dX10_isCell_10 hK hP hS hA [] [0, 1] rfl rfl (by decide) rfl hl.1 (Nat.le_of_ble_eq_true rfl) ⟨Nat.le_of_ble_eq_true rfl, Nat.le_of_ble_eq_true rfl⟩ ⟨Nat.le_of_ble_eq_true rfl, Nat.le_of_ble_eq_true rfl⟩ (fun r_1 _ H locs hV hP hS => ?_)
  have hP : PD D A [oc a_this 9 [.ref a_all, .ref a_has, .ref a_few, .ref a_sawn, .ref a_cut, .ref a_todo, .ref a_press, .ref a_gone], ai cI a_all 3320 f_all] H := hP
  refine lv_if_eq (tgt := 36) hx hb dX10_isCell_13 (by decide) (fun h => ?_) (fun h => ?_)
  · have hV := hV.1 h
    refine lv_iconst (v := 0) hx hb dX10_isCell_36 (by decide) ?_
    exact hret _ _ _ _ _ () hS dX10_isCell_37 hP (by decide) hV
  · have hV := hV.2 h
    refine lv_iload_n hx hb dX10_isCell_16 rfl (lv_at hl 2 rfl) ?_
    refine lv_iconst (v := 0) hx hb dX10_isCell_17 (by decide) ?_
    refine lv_aload_n hx hb dX10_isCell_18 rfl (lv_at hl 0 rfl) ?_
    refine gX10 hx hb ht hown hK hP 0 rfl 0 (by decide) fl_X10_7 (fun _ h => h) rfl dX10_isCell_19 ?_
    refine lv_iconst (v := 1) hx hb dX10_isCell_22 (by decide) ?_
    refine ild hx hb hK hP 1 rfl dX10_isCell_23 hV.1 ?_
    have hV := hV.2
    refine lv_iconst (v := 1) hx hb dX10_isCell_24 (by decide) ?_
    refine lv_isub hx hb dX10_isCell_25 ?_
    refine KSi (As := [.int x2, .int 0, .int ((f_all (1 : Int32).toNatClampNeg) - 1)]) (rest := []) FX (c_X10_isIn l D cI cB cS x2 0 ((f_all (1 : Int32).toNatClampNeg) - 1) _ hV) ok_X10_isIn is_X10_isIn li_X10_42 dX10_isCell_26 hK hP hS hA [] [0, 1] rfl rfl (by decide) rfl hl.1 (Nat.le_of_ble_eq_true rfl) ⟨Nat.le_of_ble_eq_true rfl, Nat.le_of_ble_eq_true rfl⟩ ⟨Nat.le_of_ble_eq_true rfl, Nat.le_of_ble_eq_true rfl⟩ (fun r_2 _ H locs hV hP hS => ?_)
    have hP : PD D A [oc a_this 9 [.ref a_all, .ref a_has, .ref a_few, .ref a_sawn, .ref a_cut, .ref a_todo, .ref a_press, .ref a_gone], ai cI a_all 3320 f_all] H := hP
    refine lv_if_eq (tgt := 36) hx hb dX10_isCell_29 (by decide) (fun h => ?_) (fun h => ?_)
    · have hV := hV.1 h
      refine lv_iconst (v := 0) hx hb dX10_isCell_36 (by decide) ?_
      exact hret _ _ _ _ _ () hS dX10_isCell_37 hP (by decide) hV
    · have hV := hV.2 h
      refine lv_iconst (v := 1) hx hb dX10_isCell_32 (by decide) ?_
      refine lv_goto (tgt := 37) hx hb dX10_isCell_33 (by decide) ?_
      exact hret _ _ _ _ _ () hS dX10_isCell_37 hP (by decide) hV

def rm_X10_cell : Room := { frames := 2, cells := 0, slots := 0, locals := 44 }
def P_X10_cell (x1 : Int32) (x2 : Int32) (x3 : Int32) (x4 : Int32) (f_all : Nat → Int32) (post : Int32 → (Nat → Int32) → Prop) : Prop := P_X10_isCell x1 x2 f_all (fun r_1 => ((r_1 = 0 → post 0 f_all) ∧ (¬ r_1 = 0 → P_X10_isIn x3 1 50 (fun r_2 => ((r_2 = 0 → post 0 f_all) ∧ (¬ r_2 = 0 → P_X10_isIn x4 0 9 (fun r_3 => ((r_3 = 0 → post 0 f_all) ∧ (¬ r_3 = 0 → (vp_in ((30 + (8 * x2)) + x1) 3320 ∧ ∀ f_all_4 : Nat → Int32, f_all_4 = upd f_all ((30 + (8 * x2)) + x1).toNatClampNeg x3 → (vp_in ((100 + (8 * x2)) + x1) 3320 ∧ ∀ f_all_5 : Nat → Int32, f_all_5 = upd f_all_4 ((100 + (8 * x2)) + x1).toNatClampNeg x4 → P_X10_noPlan f_all_5 (fun f_all_6 => post 1 f_all_6))))))))))))
set_option maxRecDepth 100000 in
set_option maxHeartbeats 4000000 in
theorem c_X10_cell (l : Launch) (D : va_G) (cI cB cS : ClassId) (a_this a_all a_has a_few a_sawn a_cut a_todo a_press a_gone : Nat) (x1 : Int32) (x2 : Int32) (x3 : Int32) (x4 : Int32) (f_all : Nat → Int32) (post : Int32 → (Nat → Int32) → Prop) (hV : P_X10_cell x1 x2 x3 x4 f_all post) : Ci l yX10_cell cX10_cell 5 (some .boolean) rm_X10_cell D cI cB cS [.ref a_this, .int x1, .int x2, .int x3, .int x4] [oc a_this 9 [.ref a_all, .ref a_has, .ref a_few, .ref a_sawn, .ref a_cut, .ref a_todo, .ref a_press, .ref a_gone], ai cI a_all 3320 f_all] (fun r (u : (Nat → Int32)) => post r u) (fun (u : (Nat → Int32)) => [oc a_this 9 [.ref a_all, .ref a_has, .ref a_few, .ref a_sawn, .ref a_cut, .ref a_todo, .ref a_press, .ref a_gone], ai cI a_all 3320 u]) := by
  refine Cz.of ok_X10_cell (Nat.le_of_ble_eq_true rfl) ?_
  intro p e s m args below meth c A Q hx hb hml hown ht hnm hK hP hA hS hret ls hl
  have hown : s.vm.findClass RX10 = some m.cls := hown
  have FX : CallFix p m c cX10_cell 5 s args tblG RX10 := ⟨hx, hb, hml, hown, ht⟩
  have hP : PD D A [oc a_this 9 [.ref a_all, .ref a_has, .ref a_few, .ref a_sawn, .ref a_cut, .ref a_todo, .ref a_press, .ref a_gone], ai cI a_all 3320 f_all] s.heap := hP
  have hl : lv_has ls 5 [(0, .ref a_this), (1, .int x1), (2, .int x2), (3, .int x3), (4, .int x4)] := hl
  unfold P_X10_cell at hV
  refine lv_aload_n hx hb dX10_cell_0 rfl (lv_at hl 0 rfl) ?_
  refine lv_iload_n hx hb dX10_cell_1 rfl (lv_at hl 1 rfl) ?_
  refine lv_iload_n hx hb dX10_cell_2 rfl (lv_at hl 2 rfl) ?_
  refine KVi (As := [.int x1, .int x2]) (rest := []) FX (c_X10_isCell l D cI cB cS a_this a_all a_has a_few a_sawn a_cut a_todo a_press a_gone x1 x2 f_all _ hV) ok_X10_isCell im_X10_isCell se_X10_isCell li_X10_46 dX10_cell_3 hK hP hS hA [0, 1] [] 0 rfl rfl rfl (by decide) rfl rfl hl.1 (Nat.le_of_ble_eq_true rfl) ⟨Nat.le_of_ble_eq_true rfl, Nat.le_of_ble_eq_true rfl⟩ ⟨Nat.le_of_ble_eq_true rfl, Nat.le_of_ble_eq_true rfl⟩ (fun r_1 _ H locs hV hP hS => ?_)
  have hP : PD D A [oc a_this 9 [.ref a_all, .ref a_has, .ref a_few, .ref a_sawn, .ref a_cut, .ref a_todo, .ref a_press, .ref a_gone], ai cI a_all 3320 f_all] H := hP
  refine lv_if_eq (tgt := 30) hx hb dX10_cell_6 (by decide) (fun h => ?_) (fun h => ?_)
  · have hV := hV.1 h
    refine lv_iconst (v := 0) hx hb dX10_cell_30 (by decide) ?_
    exact hret _ _ _ _ _ f_all hS dX10_cell_31 hP (by decide) hV
  · have hV := hV.2 h
    refine lv_iload_n hx hb dX10_cell_9 rfl (lv_at hl 3 rfl) ?_
    refine lv_iconst (v := 1) hx hb dX10_cell_10 (by decide) ?_
    refine lv_bipush (v := 50) hx hb dX10_cell_11 (by decide) ?_
    refine KSi (As := [.int x3, .int 1, .int 50]) (rest := []) FX (c_X10_isIn l D cI cB cS x3 1 50 _ hV) ok_X10_isIn is_X10_isIn li_X10_42 dX10_cell_13 hK hP hS hA [] [0, 1] rfl rfl (by decide) rfl hl.1 (Nat.le_of_ble_eq_true rfl) ⟨Nat.le_of_ble_eq_true rfl, Nat.le_of_ble_eq_true rfl⟩ ⟨Nat.le_of_ble_eq_true rfl, Nat.le_of_ble_eq_true rfl⟩ (fun r_2 _ H locs hV hP hS => ?_)
    have hP : PD D A [oc a_this 9 [.ref a_all, .ref a_has, .ref a_few, .ref a_sawn, .ref a_cut, .ref a_todo, .ref a_press, .ref a_gone], ai cI a_all 3320 f_all] H := hP
    refine lv_if_eq (tgt := 30) hx hb dX10_cell_16 (by decide) (fun h => ?_) (fun h => ?_)
    · have hV := hV.1 h
      refine lv_iconst (v := 0) hx hb dX10_cell_30 (by decide) ?_
      exact hret _ _ _ _ _ f_all hS dX10_cell_31 hP (by decide) hV
    · have hV := hV.2 h
      refine lv_iload hx hb dX10_cell_19 (lv_at hl 4 rfl) ?_
      refine lv_iconst (v := 0) hx hb dX10_cell_21 (by decide) ?_
      refine lv_bipush (v := 9) hx hb dX10_cell_22 (by decide) ?_
      refine KSi (As := [.int x4, .int 0, .int 9]) (rest := []) FX (c_X10_isIn l D cI cB cS x4 0 9 _ hV) ok_X10_isIn is_X10_isIn li_X10_42 dX10_cell_24 hK hP hS hA [] [0, 1] rfl rfl (by decide) rfl hl.1 (Nat.le_of_ble_eq_true rfl) ⟨Nat.le_of_ble_eq_true rfl, Nat.le_of_ble_eq_true rfl⟩ ⟨Nat.le_of_ble_eq_true rfl, Nat.le_of_ble_eq_true rfl⟩ (fun r_3 _ H locs hV hP hS => ?_)
      have hP : PD D A [oc a_this 9 [.ref a_all, .ref a_has, .ref a_few, .ref a_sawn, .ref a_cut, .ref a_todo, .ref a_press, .ref a_gone], ai cI a_all 3320 f_all] H := hP
      refine lv_if_ne (tgt := 32) hx hb dX10_cell_27 (by decide) (fun h => ?_) (fun h => ?_)
      · have hV := hV.2 h
        refine lv_aload_n hx hb dX10_cell_32 rfl (lv_at hl 0 rfl) ?_
        refine gX10 hx hb ht hown hK hP 0 rfl 0 (by decide) fl_X10_7 (fun _ h => h) rfl dX10_cell_33 ?_
        refine lv_bipush (v := 30) hx hb dX10_cell_36 (by decide) ?_
        refine lv_bipush (v := 8) hx hb dX10_cell_38 (by decide) ?_
        refine lv_iload_n hx hb dX10_cell_40 rfl (lv_at hl 2 rfl) ?_
        refine lv_imul hx hb dX10_cell_41 ?_
        refine lv_iadd hx hb dX10_cell_42 ?_
        refine lv_iload_n hx hb dX10_cell_43 rfl (lv_at hl 1 rfl) ?_
        refine lv_iadd hx hb dX10_cell_44 ?_
        refine lv_iload_n hx hb dX10_cell_45 rfl (lv_at hl 3 rfl) ?_
        refine ist hx hb hK hP hS 1 rfl dX10_cell_46 hV.1 (fun f_all_4 e_f_all_4 H locs hP hS => ?_)
        have hV := hV.2 f_all_4 e_f_all_4
        have hP : PD D A [oc a_this 9 [.ref a_all, .ref a_has, .ref a_few, .ref a_sawn, .ref a_cut, .ref a_todo, .ref a_press, .ref a_gone], ai cI a_all 3320 f_all_4] H := hP
        refine lv_aload_n hx hb dX10_cell_47 rfl (lv_at hl 0 rfl) ?_
        refine gX10 hx hb ht hown hK hP 0 rfl 0 (by decide) fl_X10_7 (fun _ h => h) rfl dX10_cell_48 ?_
        refine lv_bipush (v := 100) hx hb dX10_cell_51 (by decide) ?_
        refine lv_bipush (v := 8) hx hb dX10_cell_53 (by decide) ?_
        refine lv_iload_n hx hb dX10_cell_55 rfl (lv_at hl 2 rfl) ?_
        refine lv_imul hx hb dX10_cell_56 ?_
        refine lv_iadd hx hb dX10_cell_57 ?_
        refine lv_iload_n hx hb dX10_cell_58 rfl (lv_at hl 1 rfl) ?_
        refine lv_iadd hx hb dX10_cell_59 ?_
        refine lv_iload hx hb dX10_cell_60 (lv_at hl 4 rfl) ?_
        refine ist hx hb hK hP hS 1 rfl dX10_cell_62 hV.1 (fun f_all_5 e_f_all_5 H locs hP hS => ?_)
        have hV := hV.2 f_all_5 e_f_all_5
        have hP : PD D A [oc a_this 9 [.ref a_all, .ref a_has, .ref a_few, .ref a_sawn, .ref a_cut, .ref a_todo, .ref a_press, .ref a_gone], ai cI a_all 3320 f_all_5] H := hP
        refine lv_aload_n hx hb dX10_cell_63 rfl (lv_at hl 0 rfl) ?_
        refine KVv (As := []) (rest := []) FX (c_X10_noPlan l D cI cB cS a_this a_all a_has a_few a_sawn a_cut a_todo a_press a_gone f_all_5 _ hV) ok_X10_noPlan im_X10_noPlan se_X10_noPlan li_X10_39 dX10_cell_64 hK hP hS hA [0, 1] [] 0 rfl rfl rfl (by decide) rfl rfl hl.1 (Nat.le_of_ble_eq_true rfl) ⟨Nat.le_of_ble_eq_true rfl, Nat.le_of_ble_eq_true rfl⟩ ⟨Nat.le_of_ble_eq_true rfl, Nat.le_of_ble_eq_true rfl⟩ (fun f_all_6 H locs hV hP hS => ?_)
        have hP : PD D A [oc a_this 9 [.ref a_all, .ref a_has, .ref a_few, .ref a_sawn, .ref a_cut, .ref a_todo, .ref a_press, .ref a_gone], ai cI a_all 3320 f_all_6] H := hP
        refine lv_iconst (v := 1) hx hb dX10_cell_67 (by decide) ?_
        exact hret _ _ _ _ _ f_all_6 hS dX10_cell_68 hP (by decide) hV
      · have hV := hV.1 h
        refine lv_iconst (v := 0) hx hb dX10_cell_30 (by decide) ?_
        exact hret _ _ _ _ _ f_all hS dX10_cell_31 hP (by decide) hV

def rm_X10_motifs : Room := { frames := 1, cells := 0, slots := 0, locals := 22 }
def V_X10_motifs_52 (x1 : Int32) (x2 : Int32) (post : Int32 → (Nat → Int32) → Prop) : Nat → Int32 → (Nat → Int32) → Prop
  | 0, _, _ => False
  | n + 1, v3, f_all => (vp_in 0 3320 ∧ (((f_all (0 : Int32).toNatClampNeg) ≤ v3 → P_X10_noPlan f_all (fun f_all_1 => post 1 f_all_1)) ∧ (¬ (f_all (0 : Int32).toNatClampNeg) ≤ v3 → (vp_in ((100 + (8 * x1)) + v3) 3320 ∧ ∀ f_all_2 : Nat → Int32, f_all_2 = upd f_all ((100 + (8 * x1)) + v3).toNatClampNeg ((x2 >>> ((28 - (4 * v3)) &&& 31)) &&& 15) → (∀ v3_3 : Int32, v3_3 = (v3 + 1) → V_X10_motifs_52 x1 x2 post n v3_3 f_all_2)))))
theorem V_X10_motifs_52_s (x1 : Int32) (x2 : Int32) (post : Int32 → (Nat → Int32) → Prop) (n : Nat) (v3 : Int32) (f_all : Nat → Int32) : V_X10_motifs_52 x1 x2 post (n + 1) v3 f_all = ((vp_in 0 3320 ∧ (((f_all (0 : Int32).toNatClampNeg) ≤ v3 → P_X10_noPlan f_all (fun f_all_1 => post 1 f_all_1)) ∧ (¬ (f_all (0 : Int32).toNatClampNeg) ≤ v3 → (vp_in ((100 + (8 * x1)) + v3) 3320 ∧ ∀ f_all_2 : Nat → Int32, f_all_2 = upd f_all ((100 + (8 * x1)) + v3).toNatClampNeg ((x2 >>> ((28 - (4 * v3)) &&& 31)) &&& 15) → (∀ v3_3 : Int32, v3_3 = (v3 + 1) → V_X10_motifs_52 x1 x2 post n v3_3 f_all_2)))))) := rfl
def V_X10_motifs_20 (x1 : Int32) (x2 : Int32) (f_all : Nat → Int32) (post : Int32 → (Nat → Int32) → Prop) : Nat → Int32 → Prop
  | 0, _ => False
  | n + 1, v3 => ((8 ≤ v3 → (∃ k : Nat, V_X10_motifs_52 x1 x2 post k 0 f_all)) ∧ (¬ 8 ≤ v3 → ((((x2 >>> ((28 - (4 * v3)) &&& 31)) &&& 15) ≤ 9 → (∀ v3_4 : Int32, v3_4 = (v3 + 1) → V_X10_motifs_20 x1 x2 f_all post n v3_4)) ∧ (¬ ((x2 >>> ((28 - (4 * v3)) &&& 31)) &&& 15) ≤ 9 → post 0 f_all))))
theorem V_X10_motifs_20_s (x1 : Int32) (x2 : Int32) (f_all : Nat → Int32) (post : Int32 → (Nat → Int32) → Prop) (n : Nat) (v3 : Int32) : V_X10_motifs_20 x1 x2 f_all post (n + 1) v3 = (((8 ≤ v3 → (∃ k : Nat, V_X10_motifs_52 x1 x2 post k 0 f_all)) ∧ (¬ 8 ≤ v3 → ((((x2 >>> ((28 - (4 * v3)) &&& 31)) &&& 15) ≤ 9 → (∀ v3_4 : Int32, v3_4 = (v3 + 1) → V_X10_motifs_20 x1 x2 f_all post n v3_4)) ∧ (¬ ((x2 >>> ((28 - (4 * v3)) &&& 31)) &&& 15) ≤ 9 → post 0 f_all))))) := rfl
def P_X10_motifs (x1 : Int32) (x2 : Int32) (f_all : Nat → Int32) (post : Int32 → (Nat → Int32) → Prop) : Prop := (vp_in 1 3320 ∧ P_X10_isIn x1 0 ((f_all (1 : Int32).toNatClampNeg) - 1) (fun r_5 => ((r_5 = 0 → post 0 f_all) ∧ (¬ r_5 = 0 → (∃ k : Nat, V_X10_motifs_20 x1 x2 f_all post k 0)))))
set_option maxRecDepth 100000 in
set_option maxHeartbeats 4000000 in
theorem c_X10_motifs (l : Launch) (D : va_G) (cI cB cS : ClassId) (a_this a_all a_has a_few a_sawn a_cut a_todo a_press a_gone : Nat) (x1 : Int32) (x2 : Int32) (f_all : Nat → Int32) (post : Int32 → (Nat → Int32) → Prop) (hV : P_X10_motifs x1 x2 f_all post) : Ci l yX10_motifs cX10_motifs 4 (some .boolean) rm_X10_motifs D cI cB cS [.ref a_this, .int x1, .int x2] [oc a_this 9 [.ref a_all, .ref a_has, .ref a_few, .ref a_sawn, .ref a_cut, .ref a_todo, .ref a_press, .ref a_gone], ai cI a_all 3320 f_all] (fun r (u : (Nat → Int32)) => post r u) (fun (u : (Nat → Int32)) => [oc a_this 9 [.ref a_all, .ref a_has, .ref a_few, .ref a_sawn, .ref a_cut, .ref a_todo, .ref a_press, .ref a_gone], ai cI a_all 3320 u]) := by
  refine Cz.of ok_X10_motifs (Nat.le_of_ble_eq_true rfl) ?_
  intro p e s m args below meth c A Q hx hb hml hown ht hnm hK hP hA hS hret ls hl
  have hown : s.vm.findClass RX10 = some m.cls := hown
  have FX : CallFix p m c cX10_motifs 4 s args tblG RX10 := ⟨hx, hb, hml, hown, ht⟩
  have hP : PD D A [oc a_this 9 [.ref a_all, .ref a_has, .ref a_few, .ref a_sawn, .ref a_cut, .ref a_todo, .ref a_press, .ref a_gone], ai cI a_all 3320 f_all] s.heap := hP
  have hl : lv_has ls 4 [(0, .ref a_this), (1, .int x1), (2, .int x2)] := hl
  unfold P_X10_motifs at hV
  have b52 : ∀  (k52 : Nat) (v3 : Int32) (f_all : Nat → Int32) (H : Heap) (locs : List Loc) (ls : Array Slot), PD D A [oc a_this 9 [.ref a_all, .ref a_has, .ref a_few, .ref a_sawn, .ref a_cut, .ref a_todo, .ref a_press, .ref a_gone], ai cI a_all 3320 f_all] H → va_S A s.heap H locs → lv_has ls 4 [(0, .ref a_this), (1, .int x1), (2, .int x2), (3, .int v3)] → V_X10_motifs_52 x1 x2 post k52 v3 f_all → W p l e rm_X10_motifs s m args below meth c H locs 0 0 Q (F0 m 52 ls []) := by
    intro  k52
    induction k52 with
    | zero => intro v3 f_all H locs ls hP hS hl hV; exact False.elim hV
    | succ k52 ih52 =>
      intro v3 f_all H locs ls hP hS hl hV
      rw [V_X10_motifs_52_s] at hV
      refine lv_iload_n hx hb dX10_motifs_52 rfl (lv_at hl 3 rfl) ?_
      refine lv_aload_n hx hb dX10_motifs_53 rfl (lv_at hl 0 rfl) ?_
      refine gX10 hx hb ht hown hK hP 0 rfl 0 (by decide) fl_X10_7 (fun _ h => h) rfl dX10_motifs_54 ?_
      refine lv_iconst (v := 0) hx hb dX10_motifs_57 (by decide) ?_
      refine ild hx hb hK hP 1 rfl dX10_motifs_58 hV.1 ?_
      have hV := hV.2
      refine lv_icmp_ge (tgt := 93) hx hb dX10_motifs_59 (by decide) (fun h => ?_) (fun h => ?_)
      · have hV := hV.1 h
        refine lv_aload_n hx hb dX10_motifs_93 rfl (lv_at hl 0 rfl) ?_
        refine KVv (As := []) (rest := []) FX (c_X10_noPlan l D cI cB cS a_this a_all a_has a_few a_sawn a_cut a_todo a_press a_gone f_all _ hV) ok_X10_noPlan im_X10_noPlan se_X10_noPlan li_X10_39 dX10_motifs_94 hK hP hS hA [0, 1] [] 0 rfl rfl rfl (by decide) rfl rfl hl.1 (Nat.le_of_ble_eq_true rfl) ⟨Nat.le_of_ble_eq_true rfl, Nat.le_of_ble_eq_true rfl⟩ ⟨Nat.le_of_ble_eq_true rfl, Nat.le_of_ble_eq_true rfl⟩ (fun f_all_1 H locs hV hP hS => ?_)
        have hP : PD D A [oc a_this 9 [.ref a_all, .ref a_has, .ref a_few, .ref a_sawn, .ref a_cut, .ref a_todo, .ref a_press, .ref a_gone], ai cI a_all 3320 f_all_1] H := hP
        refine lv_iconst (v := 1) hx hb dX10_motifs_97 (by decide) ?_
        exact hret _ _ _ _ _ f_all_1 hS dX10_motifs_98 hP (by decide) hV
      · have hV := hV.2 h
        refine lv_aload_n hx hb dX10_motifs_62 rfl (lv_at hl 0 rfl) ?_
        refine gX10 hx hb ht hown hK hP 0 rfl 0 (by decide) fl_X10_7 (fun _ h => h) rfl dX10_motifs_63 ?_
        refine lv_bipush (v := 100) hx hb dX10_motifs_66 (by decide) ?_
        refine lv_bipush (v := 8) hx hb dX10_motifs_68 (by decide) ?_
        refine lv_iload_n hx hb dX10_motifs_70 rfl (lv_at hl 1 rfl) ?_
        refine lv_imul hx hb dX10_motifs_71 ?_
        refine lv_iadd hx hb dX10_motifs_72 ?_
        refine lv_iload_n hx hb dX10_motifs_73 rfl (lv_at hl 3 rfl) ?_
        refine lv_iadd hx hb dX10_motifs_74 ?_
        refine lv_iload_n hx hb dX10_motifs_75 rfl (lv_at hl 2 rfl) ?_
        refine lv_bipush (v := 28) hx hb dX10_motifs_76 (by decide) ?_
        refine lv_iconst (v := 4) hx hb dX10_motifs_78 (by decide) ?_
        refine lv_iload_n hx hb dX10_motifs_79 rfl (lv_at hl 3 rfl) ?_
        refine lv_imul hx hb dX10_motifs_80 ?_
        refine lv_isub hx hb dX10_motifs_81 ?_
        refine lv_ishr hx hb dX10_motifs_82 ?_
        refine lv_bipush (v := 15) hx hb dX10_motifs_83 (by decide) ?_
        refine lv_iand hx hb dX10_motifs_85 ?_
        refine ist hx hb hK hP hS 1 rfl dX10_motifs_86 hV.1 (fun f_all_2 e_f_all_2 H locs hP hS => ?_)
        have hV := hV.2 f_all_2 e_f_all_2
        have hP : PD D A [oc a_this 9 [.ref a_all, .ref a_has, .ref a_few, .ref a_sawn, .ref a_cut, .ref a_todo, .ref a_press, .ref a_gone], ai cI a_all 3320 f_all_2] H := hP
        obtain ⟨v3_3, e_v3_3⟩ : ∃ y : Int32, y = (v3 + 1) := ⟨_, rfl⟩
        have hV := hV v3_3 e_v3_3
        refine lv_iinc (v := v3_3) (lv' := [(3, .int v3_3), (0, .ref a_this), (1, .int x1), (2, .int x2)]) hx hb dX10_motifs_87 hl (k := 3) rfl (by rw [e_v3_3]; rfl) (by decide) rfl (fun ls hl => ?_)
        refine lv_goto (tgt := 52) hx hb dX10_motifs_90 (by decide) ?_
        exact ih52 v3_3 f_all_2 _ _ _ hP hS (lv_sub hl [1, 2, 3, 0] rfl) hV
  have b20 : ∀ (f_all : Nat → Int32) (k20 : Nat) (v3 : Int32) (H : Heap) (locs : List Loc) (ls : Array Slot), PD D A [oc a_this 9 [.ref a_all, .ref a_has, .ref a_few, .ref a_sawn, .ref a_cut, .ref a_todo, .ref a_press, .ref a_gone], ai cI a_all 3320 f_all] H → va_S A s.heap H locs → lv_has ls 4 [(0, .ref a_this), (1, .int x1), (2, .int x2), (3, .int v3)] → V_X10_motifs_20 x1 x2 f_all post k20 v3 → W p l e rm_X10_motifs s m args below meth c H locs 0 0 Q (F0 m 20 ls []) := by
    intro f_all k20
    induction k20 with
    | zero => intro v3 H locs ls hP hS hl hV; exact False.elim hV
    | succ k20 ih20 =>
      intro v3 H locs ls hP hS hl hV
      rw [V_X10_motifs_20_s] at hV
      refine lv_iload_n hx hb dX10_motifs_20 rfl (lv_at hl 3 rfl) ?_
      refine lv_bipush (v := 8) hx hb dX10_motifs_21 (by decide) ?_
      refine lv_icmp_ge (tgt := 50) hx hb dX10_motifs_23 (by decide) (fun h => ?_) (fun h => ?_)
      · have hV := hV.1 h
        refine lv_iconst (v := 0) hx hb dX10_motifs_50 (by decide) ?_
        refine lv_istore_n (lv' := [(3, .int 0), (0, .ref a_this), (1, .int x1), (2, .int x2)]) hx hb dX10_motifs_51 rfl hl (by decide) rfl (fun ls hl => ?_)
        obtain ⟨k, hV⟩ := hV
        exact b52 k 0 f_all _ _ _ hP hS (lv_sub hl [1, 2, 3, 0] rfl) hV
      · have hV := hV.2 h
        refine lv_iload_n hx hb dX10_motifs_26 rfl (lv_at hl 2 rfl) ?_
        refine lv_bipush (v := 28) hx hb dX10_motifs_27 (by decide) ?_
        refine lv_iconst (v := 4) hx hb dX10_motifs_29 (by decide) ?_
        refine lv_iload_n hx hb dX10_motifs_30 rfl (lv_at hl 3 rfl) ?_
        refine lv_imul hx hb dX10_motifs_31 ?_
        refine lv_isub hx hb dX10_motifs_32 ?_
        refine lv_ishr hx hb dX10_motifs_33 ?_
        refine lv_bipush (v := 15) hx hb dX10_motifs_34 (by decide) ?_
        refine lv_iand hx hb dX10_motifs_36 ?_
        refine lv_bipush (v := 9) hx hb dX10_motifs_37 (by decide) ?_
        refine lv_icmp_le (tgt := 44) hx hb dX10_motifs_39 (by decide) (fun h => ?_) (fun h => ?_)
        · have hV := hV.1 h
          obtain ⟨v3_4, e_v3_4⟩ : ∃ y : Int32, y = (v3 + 1) := ⟨_, rfl⟩
          have hV := hV v3_4 e_v3_4
          refine lv_iinc (v := v3_4) (lv' := [(3, .int v3_4), (0, .ref a_this), (1, .int x1), (2, .int x2)]) hx hb dX10_motifs_44 hl (k := 3) rfl (by rw [e_v3_4]; rfl) (by decide) rfl (fun ls hl => ?_)
          refine lv_goto (tgt := 20) hx hb dX10_motifs_47 (by decide) ?_
          exact ih20 v3_4 _ _ _ hP hS (lv_sub hl [1, 2, 3, 0] rfl) hV
        · have hV := hV.2 h
          refine lv_iconst (v := 0) hx hb dX10_motifs_42 (by decide) ?_
          exact hret _ _ _ _ _ f_all hS dX10_motifs_43 hP (by decide) hV
  refine lv_iload_n hx hb dX10_motifs_0 rfl (lv_at hl 1 rfl) ?_
  refine lv_iconst (v := 0) hx hb dX10_motifs_1 (by decide) ?_
  refine lv_aload_n hx hb dX10_motifs_2 rfl (lv_at hl 0 rfl) ?_
  refine gX10 hx hb ht hown hK hP 0 rfl 0 (by decide) fl_X10_7 (fun _ h => h) rfl dX10_motifs_3 ?_
  refine lv_iconst (v := 1) hx hb dX10_motifs_6 (by decide) ?_
  refine ild hx hb hK hP 1 rfl dX10_motifs_7 hV.1 ?_
  have hV := hV.2
  refine lv_iconst (v := 1) hx hb dX10_motifs_8 (by decide) ?_
  refine lv_isub hx hb dX10_motifs_9 ?_
  refine KSi (As := [.int x1, .int 0, .int ((f_all (1 : Int32).toNatClampNeg) - 1)]) (rest := []) FX (c_X10_isIn l D cI cB cS x1 0 ((f_all (1 : Int32).toNatClampNeg) - 1) _ hV) ok_X10_isIn is_X10_isIn li_X10_42 dX10_motifs_10 hK hP hS hA [] [0, 1] rfl rfl (by decide) rfl hl.1 (Nat.le_of_ble_eq_true rfl) ⟨Nat.le_of_ble_eq_true rfl, Nat.le_of_ble_eq_true rfl⟩ ⟨Nat.le_of_ble_eq_true rfl, Nat.le_of_ble_eq_true rfl⟩ (fun r_5 _ H locs hV hP hS => ?_)
  have hP : PD D A [oc a_this 9 [.ref a_all, .ref a_has, .ref a_few, .ref a_sawn, .ref a_cut, .ref a_todo, .ref a_press, .ref a_gone], ai cI a_all 3320 f_all] H := hP
  refine lv_if_ne (tgt := 18) hx hb dX10_motifs_13 (by decide) (fun h => ?_) (fun h => ?_)
  · have hV := hV.2 h
    refine lv_iconst (v := 0) hx hb dX10_motifs_18 (by decide) ?_
    refine lv_istore_n (lv' := [(3, .int 0), (0, .ref a_this), (1, .int x1), (2, .int x2)]) hx hb dX10_motifs_19 rfl hl (by decide) rfl (fun ls hl => ?_)
    obtain ⟨k, hV⟩ := hV
    exact b20 f_all k 0 _ _ _ hP hS (lv_sub hl [1, 2, 3, 0] rfl) hV
  · have hV := hV.1 h
    refine lv_iconst (v := 0) hx hb dX10_motifs_16 (by decide) ?_
    exact hret _ _ _ _ _ f_all hS dX10_motifs_17 hP (by decide) hV

def rm_X10_limit : Room := { frames := 1, cells := 0, slots := 0, locals := 22 }
def P_X10_limit (x1 : Int32) (f_all : Nat → Int32) (post : Int32 → (Nat → Int32) → Prop) : Prop := P_X10_isIn x1 1 3200 (fun r_1 => ((r_1 = 0 → post 0 f_all) ∧ (¬ r_1 = 0 → (vp_in 2 3320 ∧ ∀ f_all_2 : Nat → Int32, f_all_2 = upd f_all (2 : Int32).toNatClampNeg x1 → post 1 f_all_2))))
set_option maxRecDepth 100000 in
set_option maxHeartbeats 4000000 in
theorem c_X10_limit (l : Launch) (D : va_G) (cI cB cS : ClassId) (a_this a_all a_has a_few a_sawn a_cut a_todo a_press a_gone : Nat) (x1 : Int32) (f_all : Nat → Int32) (post : Int32 → (Nat → Int32) → Prop) (hV : P_X10_limit x1 f_all post) : Ci l yX10_limit cX10_limit 2 (some .boolean) rm_X10_limit D cI cB cS [.ref a_this, .int x1] [oc a_this 9 [.ref a_all, .ref a_has, .ref a_few, .ref a_sawn, .ref a_cut, .ref a_todo, .ref a_press, .ref a_gone], ai cI a_all 3320 f_all] (fun r (u : (Nat → Int32)) => post r u) (fun (u : (Nat → Int32)) => [oc a_this 9 [.ref a_all, .ref a_has, .ref a_few, .ref a_sawn, .ref a_cut, .ref a_todo, .ref a_press, .ref a_gone], ai cI a_all 3320 u]) := by
  refine Cz.of ok_X10_limit (Nat.le_of_ble_eq_true rfl) ?_
  intro p e s m args below meth c A Q hx hb hml hown ht hnm hK hP hA hS hret ls hl
  have hown : s.vm.findClass RX10 = some m.cls := hown
  have FX : CallFix p m c cX10_limit 2 s args tblG RX10 := ⟨hx, hb, hml, hown, ht⟩
  have hP : PD D A [oc a_this 9 [.ref a_all, .ref a_has, .ref a_few, .ref a_sawn, .ref a_cut, .ref a_todo, .ref a_press, .ref a_gone], ai cI a_all 3320 f_all] s.heap := hP
  have hl : lv_has ls 2 [(0, .ref a_this), (1, .int x1)] := hl
  unfold P_X10_limit at hV
  refine lv_iload_n hx hb dX10_limit_0 rfl (lv_at hl 1 rfl) ?_
  refine lv_iconst (v := 1) hx hb dX10_limit_1 (by decide) ?_
  refine lv_sipush (v := 3200) hx hb dX10_limit_2 (by decide) ?_
  refine KSi (As := [.int x1, .int 1, .int 3200]) (rest := []) FX (c_X10_isIn l D cI cB cS x1 1 3200 _ hV) ok_X10_isIn is_X10_isIn li_X10_42 dX10_limit_5 hK hP hS hA [] [0, 1] rfl rfl (by decide) rfl hl.1 (Nat.le_of_ble_eq_true rfl) ⟨Nat.le_of_ble_eq_true rfl, Nat.le_of_ble_eq_true rfl⟩ ⟨Nat.le_of_ble_eq_true rfl, Nat.le_of_ble_eq_true rfl⟩ (fun r_1 _ H locs hV hP hS => ?_)
  have hP : PD D A [oc a_this 9 [.ref a_all, .ref a_has, .ref a_few, .ref a_sawn, .ref a_cut, .ref a_todo, .ref a_press, .ref a_gone], ai cI a_all 3320 f_all] H := hP
  refine lv_if_ne (tgt := 13) hx hb dX10_limit_8 (by decide) (fun h => ?_) (fun h => ?_)
  · have hV := hV.2 h
    refine lv_aload_n hx hb dX10_limit_13 rfl (lv_at hl 0 rfl) ?_
    refine gX10 hx hb ht hown hK hP 0 rfl 0 (by decide) fl_X10_7 (fun _ h => h) rfl dX10_limit_14 ?_
    refine lv_iconst (v := 2) hx hb dX10_limit_17 (by decide) ?_
    refine lv_iload_n hx hb dX10_limit_18 rfl (lv_at hl 1 rfl) ?_
    refine ist hx hb hK hP hS 1 rfl dX10_limit_19 hV.1 (fun f_all_2 e_f_all_2 H locs hP hS => ?_)
    have hV := hV.2 f_all_2 e_f_all_2
    have hP : PD D A [oc a_this 9 [.ref a_all, .ref a_has, .ref a_few, .ref a_sawn, .ref a_cut, .ref a_todo, .ref a_press, .ref a_gone], ai cI a_all 3320 f_all_2] H := hP
    refine lv_iconst (v := 1) hx hb dX10_limit_20 (by decide) ?_
    exact hret _ _ _ _ _ f_all_2 hS dX10_limit_21 hP (by decide) hV
  · have hV := hV.1 h
    refine lv_iconst (v := 0) hx hb dX10_limit_11 (by decide) ?_
    exact hret _ _ _ _ _ f_all hS dX10_limit_12 hP (by decide) hV

def rm_X10_saw : Room := { frames := 1, cells := 0, slots := 0, locals := 22 }
def P_X10_saw (x1 : Int32) (f_all : Nat → Int32) (post : Int32 → (Nat → Int32) → Prop) : Prop := P_X10_isIn x1 1 9 (fun r_1 => ((r_1 = 0 → post 0 f_all) ∧ (¬ r_1 = 0 → (vp_in 3 3320 ∧ ∀ f_all_2 : Nat → Int32, f_all_2 = upd f_all (3 : Int32).toNatClampNeg x1 → post 1 f_all_2))))
set_option maxRecDepth 100000 in
set_option maxHeartbeats 4000000 in
theorem c_X10_saw (l : Launch) (D : va_G) (cI cB cS : ClassId) (a_this a_all a_has a_few a_sawn a_cut a_todo a_press a_gone : Nat) (x1 : Int32) (f_all : Nat → Int32) (post : Int32 → (Nat → Int32) → Prop) (hV : P_X10_saw x1 f_all post) : Ci l yX10_saw cX10_saw 2 (some .boolean) rm_X10_saw D cI cB cS [.ref a_this, .int x1] [oc a_this 9 [.ref a_all, .ref a_has, .ref a_few, .ref a_sawn, .ref a_cut, .ref a_todo, .ref a_press, .ref a_gone], ai cI a_all 3320 f_all] (fun r (u : (Nat → Int32)) => post r u) (fun (u : (Nat → Int32)) => [oc a_this 9 [.ref a_all, .ref a_has, .ref a_few, .ref a_sawn, .ref a_cut, .ref a_todo, .ref a_press, .ref a_gone], ai cI a_all 3320 u]) := by
  refine Cz.of ok_X10_saw (Nat.le_of_ble_eq_true rfl) ?_
  intro p e s m args below meth c A Q hx hb hml hown ht hnm hK hP hA hS hret ls hl
  have hown : s.vm.findClass RX10 = some m.cls := hown
  have FX : CallFix p m c cX10_saw 2 s args tblG RX10 := ⟨hx, hb, hml, hown, ht⟩
  have hP : PD D A [oc a_this 9 [.ref a_all, .ref a_has, .ref a_few, .ref a_sawn, .ref a_cut, .ref a_todo, .ref a_press, .ref a_gone], ai cI a_all 3320 f_all] s.heap := hP
  have hl : lv_has ls 2 [(0, .ref a_this), (1, .int x1)] := hl
  unfold P_X10_saw at hV
  refine lv_iload_n hx hb dX10_saw_0 rfl (lv_at hl 1 rfl) ?_
  refine lv_iconst (v := 1) hx hb dX10_saw_1 (by decide) ?_
  refine lv_bipush (v := 9) hx hb dX10_saw_2 (by decide) ?_
  refine KSi (As := [.int x1, .int 1, .int 9]) (rest := []) FX (c_X10_isIn l D cI cB cS x1 1 9 _ hV) ok_X10_isIn is_X10_isIn li_X10_42 dX10_saw_4 hK hP hS hA [] [0, 1] rfl rfl (by decide) rfl hl.1 (Nat.le_of_ble_eq_true rfl) ⟨Nat.le_of_ble_eq_true rfl, Nat.le_of_ble_eq_true rfl⟩ ⟨Nat.le_of_ble_eq_true rfl, Nat.le_of_ble_eq_true rfl⟩ (fun r_1 _ H locs hV hP hS => ?_)
  have hP : PD D A [oc a_this 9 [.ref a_all, .ref a_has, .ref a_few, .ref a_sawn, .ref a_cut, .ref a_todo, .ref a_press, .ref a_gone], ai cI a_all 3320 f_all] H := hP
  refine lv_if_ne (tgt := 12) hx hb dX10_saw_7 (by decide) (fun h => ?_) (fun h => ?_)
  · have hV := hV.2 h
    refine lv_aload_n hx hb dX10_saw_12 rfl (lv_at hl 0 rfl) ?_
    refine gX10 hx hb ht hown hK hP 0 rfl 0 (by decide) fl_X10_7 (fun _ h => h) rfl dX10_saw_13 ?_
    refine lv_iconst (v := 3) hx hb dX10_saw_16 (by decide) ?_
    refine lv_iload_n hx hb dX10_saw_17 rfl (lv_at hl 1 rfl) ?_
    refine ist hx hb hK hP hS 1 rfl dX10_saw_18 hV.1 (fun f_all_2 e_f_all_2 H locs hP hS => ?_)
    have hV := hV.2 f_all_2 e_f_all_2
    have hP : PD D A [oc a_this 9 [.ref a_all, .ref a_has, .ref a_few, .ref a_sawn, .ref a_cut, .ref a_todo, .ref a_press, .ref a_gone], ai cI a_all 3320 f_all_2] H := hP
    refine lv_iconst (v := 1) hx hb dX10_saw_19 (by decide) ?_
    exact hret _ _ _ _ _ f_all_2 hS dX10_saw_20 hP (by decide) hV
  · have hV := hV.1 h
    refine lv_iconst (v := 0) hx hb dX10_saw_10 (by decide) ?_
    exact hret _ _ _ _ _ f_all hS dX10_saw_11 hP (by decide) hV

def rm_X10_isBlock : Room := { frames := 0, cells := 0, slots := 0, locals := 0 }
def P_X10_isBlock (x1 : Int32) (x2 : Int32) (x3 : Int32) (x4 : Int32) (f_all : Nat → Int32) (post : (Nat → Int32) → Prop) : Prop := (vp_in 5 3320 ∧ (∀ v5_1 : Int32, v5_1 = (170 + (8 * (f_all (5 : Int32).toNatClampNeg))) → (vp_in v5_1 3320 ∧ ∀ f_all_2 : Nat → Int32, f_all_2 = upd f_all v5_1.toNatClampNeg x1 → (vp_in (v5_1 + 1) 3320 ∧ ∀ f_all_3 : Nat → Int32, f_all_3 = upd f_all_2 (v5_1 + 1).toNatClampNeg x2 → (vp_in (v5_1 + 2) 3320 ∧ ∀ f_all_4 : Nat → Int32, f_all_4 = upd f_all_3 (v5_1 + 2).toNatClampNeg x3 → (vp_in (v5_1 + 3) 3320 ∧ ∀ f_all_5 : Nat → Int32, f_all_5 = upd f_all_4 (v5_1 + 3).toNatClampNeg x4 → (vp_in (v5_1 + 4) 3320 ∧ ∀ f_all_6 : Nat → Int32, f_all_6 = upd f_all_5 (v5_1 + 4).toNatClampNeg (-1) → (vp_in (v5_1 + 5) 3320 ∧ ∀ f_all_7 : Nat → Int32, f_all_7 = upd f_all_6 (v5_1 + 5).toNatClampNeg (-1) → (vp_in 5 3320 ∧ (vp_in 5 3320 ∧ ∀ f_all_8 : Nat → Int32, f_all_8 = upd f_all_7 (5 : Int32).toNatClampNeg ((f_all_7 (5 : Int32).toNatClampNeg) + 1) → post f_all_8))))))))))
set_option maxRecDepth 100000 in
set_option maxHeartbeats 4000000 in
theorem c_X10_isBlock (l : Launch) (D : va_G) (cI cB cS : ClassId) (a_this a_all a_has a_few a_sawn a_cut a_todo a_press a_gone : Nat) (x1 : Int32) (x2 : Int32) (x3 : Int32) (x4 : Int32) (f_all : Nat → Int32) (post : (Nat → Int32) → Prop) (hV : P_X10_isBlock x1 x2 x3 x4 f_all post) : Cv l yX10_isBlock cX10_isBlock 6 none rm_X10_isBlock D cI cB cS [.ref a_this, .int x1, .int x2, .int x3, .int x4] [oc a_this 9 [.ref a_all, .ref a_has, .ref a_few, .ref a_sawn, .ref a_cut, .ref a_todo, .ref a_press, .ref a_gone], ai cI a_all 3320 f_all] (fun (u : (Nat → Int32)) => post u) (fun (u : (Nat → Int32)) => [oc a_this 9 [.ref a_all, .ref a_has, .ref a_few, .ref a_sawn, .ref a_cut, .ref a_todo, .ref a_press, .ref a_gone], ai cI a_all 3320 u]) := by
  refine Cv.of ok_X10_isBlock (Nat.le_of_ble_eq_true rfl) ?_
  intro p e s m args below meth c A Q hx hb hml hown ht hnm hK hP hA hS hret ls hl
  have hown : s.vm.findClass RX10 = some m.cls := hown
  have FX : CallFix p m c cX10_isBlock 6 s args tblG RX10 := ⟨hx, hb, hml, hown, ht⟩
  have hP : PD D A [oc a_this 9 [.ref a_all, .ref a_has, .ref a_few, .ref a_sawn, .ref a_cut, .ref a_todo, .ref a_press, .ref a_gone], ai cI a_all 3320 f_all] s.heap := hP
  have hl : lv_has ls 6 [(0, .ref a_this), (1, .int x1), (2, .int x2), (3, .int x3), (4, .int x4)] := hl
  unfold P_X10_isBlock at hV
  refine lv_sipush (v := 170) hx hb dX10_isBlock_0 (by decide) ?_
  refine lv_bipush (v := 8) hx hb dX10_isBlock_3 (by decide) ?_
  refine lv_aload_n hx hb dX10_isBlock_5 rfl (lv_at hl 0 rfl) ?_
  refine gX10 hx hb ht hown hK hP 0 rfl 0 (by decide) fl_X10_7 (fun _ h => h) rfl dX10_isBlock_6 ?_
  refine lv_iconst (v := 5) hx hb dX10_isBlock_9 (by decide) ?_
  refine ild hx hb hK hP 1 rfl dX10_isBlock_10 hV.1 ?_
  have hV := hV.2
  refine lv_imul hx hb dX10_isBlock_11 ?_
  refine lv_iadd hx hb dX10_isBlock_12 ?_
  refine lv_topi (fun v5_1 e_v5_1 => ?_)
  have hV := hV v5_1 e_v5_1
  refine lv_istore (lv' := [(5, .int v5_1), (0, .ref a_this), (1, .int x1), (2, .int x2), (3, .int x3), (4, .int x4)]) hx hb dX10_isBlock_13 hl (by decide) rfl (fun ls hl => ?_)
  refine lv_aload_n hx hb dX10_isBlock_15 rfl (lv_at hl 1 rfl) ?_
  refine gX10 hx hb ht hown hK hP 0 rfl 0 (by decide) fl_X10_7 (fun _ h => h) rfl dX10_isBlock_16 ?_
  refine lv_iload hx hb dX10_isBlock_19 (lv_at hl 0 rfl) ?_
  refine lv_iload_n hx hb dX10_isBlock_21 rfl (lv_at hl 2 rfl) ?_
  refine ist hx hb hK hP hS 1 rfl dX10_isBlock_22 hV.1 (fun f_all_2 e_f_all_2 H locs hP hS => ?_)
  have hV := hV.2 f_all_2 e_f_all_2
  have hP : PD D A [oc a_this 9 [.ref a_all, .ref a_has, .ref a_few, .ref a_sawn, .ref a_cut, .ref a_todo, .ref a_press, .ref a_gone], ai cI a_all 3320 f_all_2] H := hP
  refine lv_aload_n hx hb dX10_isBlock_23 rfl (lv_at hl 1 rfl) ?_
  refine gX10 hx hb ht hown hK hP 0 rfl 0 (by decide) fl_X10_7 (fun _ h => h) rfl dX10_isBlock_24 ?_
  refine lv_iload hx hb dX10_isBlock_27 (lv_at hl 0 rfl) ?_
  refine lv_iconst (v := 1) hx hb dX10_isBlock_29 (by decide) ?_
  refine lv_iadd hx hb dX10_isBlock_30 ?_
  refine lv_iload_n hx hb dX10_isBlock_31 rfl (lv_at hl 3 rfl) ?_
  refine ist hx hb hK hP hS 1 rfl dX10_isBlock_32 hV.1 (fun f_all_3 e_f_all_3 H locs hP hS => ?_)
  have hV := hV.2 f_all_3 e_f_all_3
  have hP : PD D A [oc a_this 9 [.ref a_all, .ref a_has, .ref a_few, .ref a_sawn, .ref a_cut, .ref a_todo, .ref a_press, .ref a_gone], ai cI a_all 3320 f_all_3] H := hP
  refine lv_aload_n hx hb dX10_isBlock_33 rfl (lv_at hl 1 rfl) ?_
  refine gX10 hx hb ht hown hK hP 0 rfl 0 (by decide) fl_X10_7 (fun _ h => h) rfl dX10_isBlock_34 ?_
  refine lv_iload hx hb dX10_isBlock_37 (lv_at hl 0 rfl) ?_
  refine lv_iconst (v := 2) hx hb dX10_isBlock_39 (by decide) ?_
  refine lv_iadd hx hb dX10_isBlock_40 ?_
  refine lv_iload_n hx hb dX10_isBlock_41 rfl (lv_at hl 4 rfl) ?_
  refine ist hx hb hK hP hS 1 rfl dX10_isBlock_42 hV.1 (fun f_all_4 e_f_all_4 H locs hP hS => ?_)
  have hV := hV.2 f_all_4 e_f_all_4
  have hP : PD D A [oc a_this 9 [.ref a_all, .ref a_has, .ref a_few, .ref a_sawn, .ref a_cut, .ref a_todo, .ref a_press, .ref a_gone], ai cI a_all 3320 f_all_4] H := hP
  refine lv_aload_n hx hb dX10_isBlock_43 rfl (lv_at hl 1 rfl) ?_
  refine gX10 hx hb ht hown hK hP 0 rfl 0 (by decide) fl_X10_7 (fun _ h => h) rfl dX10_isBlock_44 ?_
  refine lv_iload hx hb dX10_isBlock_47 (lv_at hl 0 rfl) ?_
  refine lv_iconst (v := 3) hx hb dX10_isBlock_49 (by decide) ?_
  refine lv_iadd hx hb dX10_isBlock_50 ?_
  refine lv_iload hx hb dX10_isBlock_51 (lv_at hl 5 rfl) ?_
  refine ist hx hb hK hP hS 1 rfl dX10_isBlock_53 hV.1 (fun f_all_5 e_f_all_5 H locs hP hS => ?_)
  have hV := hV.2 f_all_5 e_f_all_5
  have hP : PD D A [oc a_this 9 [.ref a_all, .ref a_has, .ref a_few, .ref a_sawn, .ref a_cut, .ref a_todo, .ref a_press, .ref a_gone], ai cI a_all 3320 f_all_5] H := hP
  refine lv_aload_n hx hb dX10_isBlock_54 rfl (lv_at hl 1 rfl) ?_
  refine gX10 hx hb ht hown hK hP 0 rfl 0 (by decide) fl_X10_7 (fun _ h => h) rfl dX10_isBlock_55 ?_
  refine lv_iload hx hb dX10_isBlock_58 (lv_at hl 0 rfl) ?_
  refine lv_iconst (v := 4) hx hb dX10_isBlock_60 (by decide) ?_
  refine lv_iadd hx hb dX10_isBlock_61 ?_
  refine lv_iconst (v := (-1)) hx hb dX10_isBlock_62 (by decide) ?_
  refine ist hx hb hK hP hS 1 rfl dX10_isBlock_63 hV.1 (fun f_all_6 e_f_all_6 H locs hP hS => ?_)
  have hV := hV.2 f_all_6 e_f_all_6
  have hP : PD D A [oc a_this 9 [.ref a_all, .ref a_has, .ref a_few, .ref a_sawn, .ref a_cut, .ref a_todo, .ref a_press, .ref a_gone], ai cI a_all 3320 f_all_6] H := hP
  refine lv_aload_n hx hb dX10_isBlock_64 rfl (lv_at hl 1 rfl) ?_
  refine gX10 hx hb ht hown hK hP 0 rfl 0 (by decide) fl_X10_7 (fun _ h => h) rfl dX10_isBlock_65 ?_
  refine lv_iload hx hb dX10_isBlock_68 (lv_at hl 0 rfl) ?_
  refine lv_iconst (v := 5) hx hb dX10_isBlock_70 (by decide) ?_
  refine lv_iadd hx hb dX10_isBlock_71 ?_
  refine lv_iconst (v := (-1)) hx hb dX10_isBlock_72 (by decide) ?_
  refine ist hx hb hK hP hS 1 rfl dX10_isBlock_73 hV.1 (fun f_all_7 e_f_all_7 H locs hP hS => ?_)
  have hV := hV.2 f_all_7 e_f_all_7
  have hP : PD D A [oc a_this 9 [.ref a_all, .ref a_has, .ref a_few, .ref a_sawn, .ref a_cut, .ref a_todo, .ref a_press, .ref a_gone], ai cI a_all 3320 f_all_7] H := hP
  refine lv_aload_n hx hb dX10_isBlock_74 rfl (lv_at hl 1 rfl) ?_
  refine gX10 hx hb ht hown hK hP 0 rfl 0 (by decide) fl_X10_7 (fun _ h => h) rfl dX10_isBlock_75 ?_
  refine lv_iconst (v := 5) hx hb dX10_isBlock_78 (by decide) ?_
  refine lv_dup2_11 hx hb dX10_isBlock_79 rfl rfl ?_
  refine ild hx hb hK hP 1 rfl dX10_isBlock_80 hV.1 ?_
  have hV := hV.2
  refine lv_iconst (v := 1) hx hb dX10_isBlock_81 (by decide) ?_
  refine lv_iadd hx hb dX10_isBlock_82 ?_
  refine ist hx hb hK hP hS 1 rfl dX10_isBlock_83 hV.1 (fun f_all_8 e_f_all_8 H locs hP hS => ?_)
  have hV := hV.2 f_all_8 e_f_all_8
  have hP : PD D A [oc a_this 9 [.ref a_all, .ref a_has, .ref a_few, .ref a_sawn, .ref a_cut, .ref a_todo, .ref a_press, .ref a_gone], ai cI a_all 3320 f_all_8] H := hP
  exact hret _ _ _ _ f_all_8 hS dX10_isBlock_84 hP hV

def rm_X10_part : Room := { frames := 0, cells := 0, slots := 0, locals := 0 }
def P_X10_part (x0 : Int32) (x1 : Int32) (x2 : Int32) (x3 : Int32) (post : Int32 → Prop) : Prop := post ((((((((x0 * 8) + x1) * 8) + x2) - 1) * 8) + x3) - 1)
set_option maxRecDepth 100000 in
set_option maxHeartbeats 4000000 in
theorem c_X10_part (l : Launch) (D : va_G) (cI cB cS : ClassId) (x0 : Int32) (x1 : Int32) (x2 : Int32) (x3 : Int32) (post : Int32 → Prop) (hV : P_X10_part x0 x1 x2 x3 post) : Ci l yX10_part cX10_part 4 (some .int) rm_X10_part D cI cB cS [.int x0, .int x1, .int x2, .int x3] [] (fun r (_ : Unit) => post r) (fun (_ : Unit) => []) := by
  refine Ci.of ok_X10_part (Nat.le_of_ble_eq_true rfl) ?_
  intro p e s m args below meth c A Q hx hb hml hown ht hnm hK hP hA hS hret ls hl
  have hown : s.vm.findClass RX10 = some m.cls := hown
  have FX : CallFix p m c cX10_part 4 s args tblG RX10 := ⟨hx, hb, hml, hown, ht⟩
  have hP : PD D A [] s.heap := hP
  have hl : lv_has ls 4 [(0, .int x0), (1, .int x1), (2, .int x2), (3, .int x3)] := hl
  unfold P_X10_part at hV
  refine lv_iload_n hx hb dX10_part_0 rfl (lv_at hl 0 rfl) ?_
  refine lv_bipush (v := 8) hx hb dX10_part_1 (by decide) ?_
  refine lv_imul hx hb dX10_part_3 ?_
  refine lv_iload_n hx hb dX10_part_4 rfl (lv_at hl 1 rfl) ?_
  refine lv_iadd hx hb dX10_part_5 ?_
  refine lv_bipush (v := 8) hx hb dX10_part_6 (by decide) ?_
  refine lv_imul hx hb dX10_part_8 ?_
  refine lv_iload_n hx hb dX10_part_9 rfl (lv_at hl 2 rfl) ?_
  refine lv_iadd hx hb dX10_part_10 ?_
  refine lv_iconst (v := 1) hx hb dX10_part_11 (by decide) ?_
  refine lv_isub hx hb dX10_part_12 ?_
  refine lv_bipush (v := 8) hx hb dX10_part_13 (by decide) ?_
  refine lv_imul hx hb dX10_part_15 ?_
  refine lv_iload_n hx hb dX10_part_16 rfl (lv_at hl 3 rfl) ?_
  refine lv_iadd hx hb dX10_part_17 ?_
  refine lv_iconst (v := 1) hx hb dX10_part_18 (by decide) ?_
  refine lv_isub hx hb dX10_part_19 ?_
  exact hret _ _ _ _ _ () hS dX10_part_20 hP hV

def rm_X10_puts : Room := { frames := 0, cells := 0, slots := 0, locals := 0 }
def P_X10_puts (x1 : Int32) (x2 : Int32) (x3 : Int32) (x4 : Int32) (x5 : Int32) (f_todo : Nat → Int32) (post : Int32 → (Nat → Int32) → Prop) : Prop := (vp_in (4 * x1) 256 ∧ ∀ f_todo_1 : Nat → Int32, f_todo_1 = upd f_todo (4 * x1).toNatClampNeg x2 → (vp_in ((4 * x1) + 1) 256 ∧ ∀ f_todo_2 : Nat → Int32, f_todo_2 = upd f_todo_1 ((4 * x1) + 1).toNatClampNeg x3 → (vp_in ((4 * x1) + 2) 256 ∧ ∀ f_todo_3 : Nat → Int32, f_todo_3 = upd f_todo_2 ((4 * x1) + 2).toNatClampNeg x4 → (vp_in ((4 * x1) + 3) 256 ∧ ∀ f_todo_4 : Nat → Int32, f_todo_4 = upd f_todo_3 ((4 * x1) + 3).toNatClampNeg x5 → post (x1 + 1) f_todo_4))))
set_option maxRecDepth 100000 in
set_option maxHeartbeats 4000000 in
theorem c_X10_puts (l : Launch) (D : va_G) (cI cB cS : ClassId) (a_this a_todo a_all a_has a_few a_sawn a_cut a_press a_gone : Nat) (x1 : Int32) (x2 : Int32) (x3 : Int32) (x4 : Int32) (x5 : Int32) (f_todo : Nat → Int32) (post : Int32 → (Nat → Int32) → Prop) (hV : P_X10_puts x1 x2 x3 x4 x5 f_todo post) : Ci l yX10_puts cX10_puts 6 (some .int) rm_X10_puts D cI cB cS [.ref a_this, .int x1, .int x2, .int x3, .int x4, .int x5] [oc a_this 9 [.ref a_all, .ref a_has, .ref a_few, .ref a_sawn, .ref a_cut, .ref a_todo, .ref a_press, .ref a_gone], ai cI a_todo 256 f_todo] (fun r (u : (Nat → Int32)) => post r u) (fun (u : (Nat → Int32)) => [oc a_this 9 [.ref a_all, .ref a_has, .ref a_few, .ref a_sawn, .ref a_cut, .ref a_todo, .ref a_press, .ref a_gone], ai cI a_todo 256 u]) := by
  refine Ci.of ok_X10_puts (Nat.le_of_ble_eq_true rfl) ?_
  intro p e s m args below meth c A Q hx hb hml hown ht hnm hK hP hA hS hret ls hl
  have hown : s.vm.findClass RX10 = some m.cls := hown
  have FX : CallFix p m c cX10_puts 6 s args tblG RX10 := ⟨hx, hb, hml, hown, ht⟩
  have hP : PD D A [oc a_this 9 [.ref a_all, .ref a_has, .ref a_few, .ref a_sawn, .ref a_cut, .ref a_todo, .ref a_press, .ref a_gone], ai cI a_todo 256 f_todo] s.heap := hP
  have hl : lv_has ls 6 [(0, .ref a_this), (1, .int x1), (2, .int x2), (3, .int x3), (4, .int x4), (5, .int x5)] := hl
  unfold P_X10_puts at hV
  refine lv_aload_n hx hb dX10_puts_0 rfl (lv_at hl 0 rfl) ?_
  refine gX10 hx hb ht hown hK hP 0 rfl 5 (by decide) fl_X10_26 (fun _ h => h) rfl dX10_puts_1 ?_
  refine lv_iconst (v := 4) hx hb dX10_puts_4 (by decide) ?_
  refine lv_iload_n hx hb dX10_puts_5 rfl (lv_at hl 1 rfl) ?_
  refine lv_imul hx hb dX10_puts_6 ?_
  refine lv_iload_n hx hb dX10_puts_7 rfl (lv_at hl 2 rfl) ?_
  refine ist hx hb hK hP hS 1 rfl dX10_puts_8 hV.1 (fun f_todo_1 e_f_todo_1 H locs hP hS => ?_)
  have hV := hV.2 f_todo_1 e_f_todo_1
  have hP : PD D A [oc a_this 9 [.ref a_all, .ref a_has, .ref a_few, .ref a_sawn, .ref a_cut, .ref a_todo, .ref a_press, .ref a_gone], ai cI a_todo 256 f_todo_1] H := hP
  refine lv_aload_n hx hb dX10_puts_9 rfl (lv_at hl 0 rfl) ?_
  refine gX10 hx hb ht hown hK hP 0 rfl 5 (by decide) fl_X10_26 (fun _ h => h) rfl dX10_puts_10 ?_
  refine lv_iconst (v := 4) hx hb dX10_puts_13 (by decide) ?_
  refine lv_iload_n hx hb dX10_puts_14 rfl (lv_at hl 1 rfl) ?_
  refine lv_imul hx hb dX10_puts_15 ?_
  refine lv_iconst (v := 1) hx hb dX10_puts_16 (by decide) ?_
  refine lv_iadd hx hb dX10_puts_17 ?_
  refine lv_iload_n hx hb dX10_puts_18 rfl (lv_at hl 3 rfl) ?_
  refine ist hx hb hK hP hS 1 rfl dX10_puts_19 hV.1 (fun f_todo_2 e_f_todo_2 H locs hP hS => ?_)
  have hV := hV.2 f_todo_2 e_f_todo_2
  have hP : PD D A [oc a_this 9 [.ref a_all, .ref a_has, .ref a_few, .ref a_sawn, .ref a_cut, .ref a_todo, .ref a_press, .ref a_gone], ai cI a_todo 256 f_todo_2] H := hP
  refine lv_aload_n hx hb dX10_puts_20 rfl (lv_at hl 0 rfl) ?_
  refine gX10 hx hb ht hown hK hP 0 rfl 5 (by decide) fl_X10_26 (fun _ h => h) rfl dX10_puts_21 ?_
  refine lv_iconst (v := 4) hx hb dX10_puts_24 (by decide) ?_
  refine lv_iload_n hx hb dX10_puts_25 rfl (lv_at hl 1 rfl) ?_
  refine lv_imul hx hb dX10_puts_26 ?_
  refine lv_iconst (v := 2) hx hb dX10_puts_27 (by decide) ?_
  refine lv_iadd hx hb dX10_puts_28 ?_
  refine lv_iload hx hb dX10_puts_29 (lv_at hl 4 rfl) ?_
  refine ist hx hb hK hP hS 1 rfl dX10_puts_31 hV.1 (fun f_todo_3 e_f_todo_3 H locs hP hS => ?_)
  have hV := hV.2 f_todo_3 e_f_todo_3
  have hP : PD D A [oc a_this 9 [.ref a_all, .ref a_has, .ref a_few, .ref a_sawn, .ref a_cut, .ref a_todo, .ref a_press, .ref a_gone], ai cI a_todo 256 f_todo_3] H := hP
  refine lv_aload_n hx hb dX10_puts_32 rfl (lv_at hl 0 rfl) ?_
  refine gX10 hx hb ht hown hK hP 0 rfl 5 (by decide) fl_X10_26 (fun _ h => h) rfl dX10_puts_33 ?_
  refine lv_iconst (v := 4) hx hb dX10_puts_36 (by decide) ?_
  refine lv_iload_n hx hb dX10_puts_37 rfl (lv_at hl 1 rfl) ?_
  refine lv_imul hx hb dX10_puts_38 ?_
  refine lv_iconst (v := 3) hx hb dX10_puts_39 (by decide) ?_
  refine lv_iadd hx hb dX10_puts_40 ?_
  refine lv_iload hx hb dX10_puts_41 (lv_at hl 5 rfl) ?_
  refine ist hx hb hK hP hS 1 rfl dX10_puts_43 hV.1 (fun f_todo_4 e_f_todo_4 H locs hP hS => ?_)
  have hV := hV.2 f_todo_4 e_f_todo_4
  have hP : PD D A [oc a_this 9 [.ref a_all, .ref a_has, .ref a_few, .ref a_sawn, .ref a_cut, .ref a_todo, .ref a_press, .ref a_gone], ai cI a_todo 256 f_todo_4] H := hP
  refine lv_iload_n hx hb dX10_puts_44 rfl (lv_at hl 1 rfl) ?_
  refine lv_iconst (v := 1) hx hb dX10_puts_45 (by decide) ?_
  refine lv_iadd hx hb dX10_puts_46 ?_
  exact hret _ _ _ _ _ f_todo_4 hS dX10_puts_47 hP hV

def rm_X10_isOne : Room := { frames := 0, cells := 0, slots := 0, locals := 0 }
def P_X10_isOne (x1 : Int32) (x2 : Int32) (f_all : Nat → Int32) (post : Int32 → Prop) : Prop := (vp_in (100 + x1) 3320 ∧ (((f_all (100 + x1).toNatClampNeg) ≤ 0 → post 0) ∧ (¬ (f_all (100 + x1).toNatClampNeg) ≤ 0 → (vp_in (100 + x1) 3320 ∧ (vp_in (100 + x2) 3320 ∧ (((f_all (100 + x1).toNatClampNeg) = (f_all (100 + x2).toNatClampNeg) → post 1) ∧ (¬ (f_all (100 + x1).toNatClampNeg) = (f_all (100 + x2).toNatClampNeg) → post 0)))))))
set_option maxRecDepth 100000 in
set_option maxHeartbeats 4000000 in
theorem c_X10_isOne (l : Launch) (D : va_G) (cI cB cS : ClassId) (a_this a_all a_has a_few a_sawn a_cut a_todo a_press a_gone : Nat) (x1 : Int32) (x2 : Int32) (f_all : Nat → Int32) (post : Int32 → Prop) (hV : P_X10_isOne x1 x2 f_all post) : Ci l yX10_isOne cX10_isOne 3 (some .boolean) rm_X10_isOne D cI cB cS [.ref a_this, .int x1, .int x2] [oc a_this 9 [.ref a_all, .ref a_has, .ref a_few, .ref a_sawn, .ref a_cut, .ref a_todo, .ref a_press, .ref a_gone], ai cI a_all 3320 f_all] (fun r (_ : Unit) => post r) (fun (_ : Unit) => [oc a_this 9 [.ref a_all, .ref a_has, .ref a_few, .ref a_sawn, .ref a_cut, .ref a_todo, .ref a_press, .ref a_gone], ai cI a_all 3320 f_all]) := by
  refine Cz.of ok_X10_isOne (Nat.le_of_ble_eq_true rfl) ?_
  intro p e s m args below meth c A Q hx hb hml hown ht hnm hK hP hA hS hret ls hl
  have hown : s.vm.findClass RX10 = some m.cls := hown
  have FX : CallFix p m c cX10_isOne 3 s args tblG RX10 := ⟨hx, hb, hml, hown, ht⟩
  have hP : PD D A [oc a_this 9 [.ref a_all, .ref a_has, .ref a_few, .ref a_sawn, .ref a_cut, .ref a_todo, .ref a_press, .ref a_gone], ai cI a_all 3320 f_all] s.heap := hP
  have hl : lv_has ls 3 [(0, .ref a_this), (1, .int x1), (2, .int x2)] := hl
  unfold P_X10_isOne at hV
  refine lv_aload_n hx hb dX10_isOne_0 rfl (lv_at hl 0 rfl) ?_
  refine gX10 hx hb ht hown hK hP 0 rfl 0 (by decide) fl_X10_7 (fun _ h => h) rfl dX10_isOne_1 ?_
  refine lv_bipush (v := 100) hx hb dX10_isOne_4 (by decide) ?_
  refine lv_iload_n hx hb dX10_isOne_6 rfl (lv_at hl 1 rfl) ?_
  refine lv_iadd hx hb dX10_isOne_7 ?_
  refine ild hx hb hK hP 1 rfl dX10_isOne_8 hV.1 ?_
  have hV := hV.2
  refine lv_if_le (tgt := 37) hx hb dX10_isOne_9 (by decide) (fun h => ?_) (fun h => ?_)
  · have hV := hV.1 h
    refine lv_iconst (v := 0) hx hb dX10_isOne_37 (by decide) ?_
    exact hret _ _ _ _ _ () hS dX10_isOne_38 hP (by decide) hV
  · have hV := hV.2 h
    refine lv_aload_n hx hb dX10_isOne_12 rfl (lv_at hl 0 rfl) ?_
    refine gX10 hx hb ht hown hK hP 0 rfl 0 (by decide) fl_X10_7 (fun _ h => h) rfl dX10_isOne_13 ?_
    refine lv_bipush (v := 100) hx hb dX10_isOne_16 (by decide) ?_
    refine lv_iload_n hx hb dX10_isOne_18 rfl (lv_at hl 1 rfl) ?_
    refine lv_iadd hx hb dX10_isOne_19 ?_
    refine ild hx hb hK hP 1 rfl dX10_isOne_20 hV.1 ?_
    have hV := hV.2
    refine lv_aload_n hx hb dX10_isOne_21 rfl (lv_at hl 0 rfl) ?_
    refine gX10 hx hb ht hown hK hP 0 rfl 0 (by decide) fl_X10_7 (fun _ h => h) rfl dX10_isOne_22 ?_
    refine lv_bipush (v := 100) hx hb dX10_isOne_25 (by decide) ?_
    refine lv_iload_n hx hb dX10_isOne_27 rfl (lv_at hl 2 rfl) ?_
    refine lv_iadd hx hb dX10_isOne_28 ?_
    refine ild hx hb hK hP 1 rfl dX10_isOne_29 hV.1 ?_
    have hV := hV.2
    refine lv_icmp_ne (tgt := 37) hx hb dX10_isOne_30 (by decide) (fun h => ?_) (fun h => ?_)
    · have hV := hV.2 h
      refine lv_iconst (v := 0) hx hb dX10_isOne_37 (by decide) ?_
      exact hret _ _ _ _ _ () hS dX10_isOne_38 hP (by decide) hV
    · have hV := hV.1 h
      refine lv_iconst (v := 1) hx hb dX10_isOne_33 (by decide) ?_
      refine lv_goto (tgt := 38) hx hb dX10_isOne_34 (by decide) ?_
      exact hret _ _ _ _ _ () hS dX10_isOne_38 hP (by decide) hV

def rm_X10_mayLevel : Room := { frames := 1, cells := 0, slots := 0, locals := 22 }
def V_X10_mayLevel_6 (x1 : Int32) (x2 : Int32) (x3 : Int32) (x4 : Int32) (f_all : Nat → Int32) (post : Int32 → Prop) : Nat → Int32 → Int32 → Prop
  | 0, _, _ => False
  | n + 1, v5, v6 => (((x1 + x3) ≤ v6 → ((v5 = 0 ∨ v5 = 1) ∧ post v5)) ∧ (¬ (x1 + x3) ≤ v6 → ((v5 = 0 → (∀ v6_1 : Int32, v6_1 = (v6 + 1) → V_X10_mayLevel_6 x1 x2 x3 x4 f_all post n 0 v6_1)) ∧ (¬ v5 = 0 → P_X10_isOne ((8 * ((x2 + x4) - 1)) + v6) ((8 * (x2 + x4)) + v6) f_all (fun r_2 => ((r_2 = 0 → (∀ v6_4 : Int32, v6_4 = (v6 + 1) → V_X10_mayLevel_6 x1 x2 x3 x4 f_all post n 1 v6_4)) ∧ (¬ r_2 = 0 → (∀ v6_3 : Int32, v6_3 = (v6 + 1) → V_X10_mayLevel_6 x1 x2 x3 x4 f_all post n 0 v6_3))))))))
theorem V_X10_mayLevel_6_s (x1 : Int32) (x2 : Int32) (x3 : Int32) (x4 : Int32) (f_all : Nat → Int32) (post : Int32 → Prop) (n : Nat) (v5 : Int32) (v6 : Int32) : V_X10_mayLevel_6 x1 x2 x3 x4 f_all post (n + 1) v5 v6 = ((((x1 + x3) ≤ v6 → ((v5 = 0 ∨ v5 = 1) ∧ post v5)) ∧ (¬ (x1 + x3) ≤ v6 → ((v5 = 0 → (∀ v6_1 : Int32, v6_1 = (v6 + 1) → V_X10_mayLevel_6 x1 x2 x3 x4 f_all post n 0 v6_1)) ∧ (¬ v5 = 0 → P_X10_isOne ((8 * ((x2 + x4) - 1)) + v6) ((8 * (x2 + x4)) + v6) f_all (fun r_2 => ((r_2 = 0 → (∀ v6_4 : Int32, v6_4 = (v6 + 1) → V_X10_mayLevel_6 x1 x2 x3 x4 f_all post n 1 v6_4)) ∧ (¬ r_2 = 0 → (∀ v6_3 : Int32, v6_3 = (v6 + 1) → V_X10_mayLevel_6 x1 x2 x3 x4 f_all post n 0 v6_3))))))))) := rfl
def P_X10_mayLevel (x1 : Int32) (x2 : Int32) (x3 : Int32) (x4 : Int32) (f_all : Nat → Int32) (post : Int32 → Prop) : Prop := (∃ k : Nat, V_X10_mayLevel_6 x1 x2 x3 x4 f_all post k 1 x1)
set_option maxRecDepth 100000 in
set_option maxHeartbeats 4000000 in
theorem c_X10_mayLevel (l : Launch) (D : va_G) (cI cB cS : ClassId) (a_this a_all a_has a_few a_sawn a_cut a_todo a_press a_gone : Nat) (x1 : Int32) (x2 : Int32) (x3 : Int32) (x4 : Int32) (f_all : Nat → Int32) (post : Int32 → Prop) (hV : P_X10_mayLevel x1 x2 x3 x4 f_all post) : Ci l yX10_mayLevel cX10_mayLevel 7 (some .boolean) rm_X10_mayLevel D cI cB cS [.ref a_this, .int x1, .int x2, .int x3, .int x4] [oc a_this 9 [.ref a_all, .ref a_has, .ref a_few, .ref a_sawn, .ref a_cut, .ref a_todo, .ref a_press, .ref a_gone], ai cI a_all 3320 f_all] (fun r (_ : Unit) => post r) (fun (_ : Unit) => [oc a_this 9 [.ref a_all, .ref a_has, .ref a_few, .ref a_sawn, .ref a_cut, .ref a_todo, .ref a_press, .ref a_gone], ai cI a_all 3320 f_all]) := by
  refine Cz.of ok_X10_mayLevel (Nat.le_of_ble_eq_true rfl) ?_
  intro p e s m args below meth c A Q hx hb hml hown ht hnm hK hP hA hS hret ls hl
  have hown : s.vm.findClass RX10 = some m.cls := hown
  have FX : CallFix p m c cX10_mayLevel 7 s args tblG RX10 := ⟨hx, hb, hml, hown, ht⟩
  have hP : PD D A [oc a_this 9 [.ref a_all, .ref a_has, .ref a_few, .ref a_sawn, .ref a_cut, .ref a_todo, .ref a_press, .ref a_gone], ai cI a_all 3320 f_all] s.heap := hP
  have hl : lv_has ls 7 [(0, .ref a_this), (1, .int x1), (2, .int x2), (3, .int x3), (4, .int x4)] := hl
  unfold P_X10_mayLevel at hV
  have b6 : ∀  (k6 : Nat) (v5 : Int32) (v6 : Int32) (H : Heap) (locs : List Loc) (ls : Array Slot), PD D A [oc a_this 9 [.ref a_all, .ref a_has, .ref a_few, .ref a_sawn, .ref a_cut, .ref a_todo, .ref a_press, .ref a_gone], ai cI a_all 3320 f_all] H → va_S A s.heap H locs → lv_has ls 7 [(0, .ref a_this), (1, .int x1), (2, .int x2), (3, .int x3), (4, .int x4), (5, .int v5), (6, .int v6)] → V_X10_mayLevel_6 x1 x2 x3 x4 f_all post k6 v5 v6 → W p l e rm_X10_mayLevel s m args below meth c H locs 0 0 Q (F0 m 6 ls []) := by
    intro  k6
    induction k6 with
    | zero => intro v5 v6 H locs ls hP hS hl hV; exact False.elim hV
    | succ k6 ih6 =>
      intro v5 v6 H locs ls hP hS hl hV
      rw [V_X10_mayLevel_6_s] at hV
      refine lv_iload hx hb dX10_mayLevel_6 (lv_at hl 6 rfl) ?_
      refine lv_iload_n hx hb dX10_mayLevel_8 rfl (lv_at hl 1 rfl) ?_
      refine lv_iload_n hx hb dX10_mayLevel_9 rfl (lv_at hl 3 rfl) ?_
      refine lv_iadd hx hb dX10_mayLevel_10 ?_
      refine lv_icmp_ge (tgt := 61) hx hb dX10_mayLevel_11 (by decide) (fun h => ?_) (fun h => ?_)
      · have hV := hV.1 h
        refine lv_iload hx hb dX10_mayLevel_61 (lv_at hl 5 rfl) ?_
        exact hret _ _ _ _ _ () hS dX10_mayLevel_63 hP hV.1 hV.2
      · have hV := hV.2 h
        refine lv_iload hx hb dX10_mayLevel_14 (lv_at hl 5 rfl) ?_
        refine lv_if_eq (tgt := 52) hx hb dX10_mayLevel_16 (by decide) (fun h => ?_) (fun h => ?_)
        · have hV := hV.1 h
          refine lv_iconst (v := 0) hx hb dX10_mayLevel_52 (by decide) ?_
          refine lv_istore (lv' := [(5, .int 0), (0, .ref a_this), (1, .int x1), (2, .int x2), (3, .int x3), (4, .int x4), (6, .int v6)]) hx hb dX10_mayLevel_53 hl (by decide) rfl (fun ls hl => ?_)
          obtain ⟨v6_1, e_v6_1⟩ : ∃ y : Int32, y = (v6 + 1) := ⟨_, rfl⟩
          have hV := hV v6_1 e_v6_1
          refine lv_iinc (v := v6_1) (lv' := [(6, .int v6_1), (5, .int 0), (0, .ref a_this), (1, .int x1), (2, .int x2), (3, .int x3), (4, .int x4)]) hx hb dX10_mayLevel_55 hl (k := 6) rfl (by rw [e_v6_1]; rfl) (by decide) rfl (fun ls hl => ?_)
          refine lv_goto (tgt := 6) hx hb dX10_mayLevel_58 (by decide) ?_
          exact ih6 0 v6_1 _ _ _ hP hS (lv_sub hl [2, 3, 4, 5, 6, 1, 0] rfl) hV
        · have hV := hV.2 h
          refine lv_aload_n hx hb dX10_mayLevel_19 rfl (lv_at hl 0 rfl) ?_
          refine lv_bipush (v := 8) hx hb dX10_mayLevel_20 (by decide) ?_
          refine lv_iload_n hx hb dX10_mayLevel_22 rfl (lv_at hl 2 rfl) ?_
          refine lv_iload hx hb dX10_mayLevel_23 (lv_at hl 4 rfl) ?_
          refine lv_iadd hx hb dX10_mayLevel_25 ?_
          refine lv_iconst (v := 1) hx hb dX10_mayLevel_26 (by decide) ?_
          refine lv_isub hx hb dX10_mayLevel_27 ?_
          refine lv_imul hx hb dX10_mayLevel_28 ?_
          refine lv_iload hx hb dX10_mayLevel_29 (lv_at hl 6 rfl) ?_
          refine lv_iadd hx hb dX10_mayLevel_31 ?_
          refine lv_bipush (v := 8) hx hb dX10_mayLevel_32 (by decide) ?_
          refine lv_iload_n hx hb dX10_mayLevel_34 rfl (lv_at hl 2 rfl) ?_
          refine lv_iload hx hb dX10_mayLevel_35 (lv_at hl 4 rfl) ?_
          refine lv_iadd hx hb dX10_mayLevel_37 ?_
          refine lv_imul hx hb dX10_mayLevel_38 ?_
          refine lv_iload hx hb dX10_mayLevel_39 (lv_at hl 6 rfl) ?_
          refine lv_iadd hx hb dX10_mayLevel_41 ?_
          refine KVi (As := [.int ((8 * ((x2 + x4) - 1)) + v6), .int ((8 * (x2 + x4)) + v6)]) (rest := []) FX (c_X10_isOne l D cI cB cS a_this a_all a_has a_few a_sawn a_cut a_todo a_press a_gone ((8 * ((x2 + x4) - 1)) + v6) ((8 * (x2 + x4)) + v6) f_all _ hV) ok_X10_isOne im_X10_isOne se_X10_isOne li_X10_50 dX10_mayLevel_42 hK hP hS hA [0, 1] [] 0 rfl rfl rfl (by decide) rfl rfl hl.1 (Nat.le_of_ble_eq_true rfl) ⟨Nat.le_of_ble_eq_true rfl, Nat.le_of_ble_eq_true rfl⟩ ⟨Nat.le_of_ble_eq_true rfl, Nat.le_of_ble_eq_true rfl⟩ (fun r_2 _ H locs hV hP hS => ?_)
          have hP : PD D A [oc a_this 9 [.ref a_all, .ref a_has, .ref a_few, .ref a_sawn, .ref a_cut, .ref a_todo, .ref a_press, .ref a_gone], ai cI a_all 3320 f_all] H := hP
          refine lv_if_ne (tgt := 52) hx hb dX10_mayLevel_45 (by decide) (fun h => ?_) (fun h => ?_)
          · have hV := hV.2 h
            refine lv_iconst (v := 0) hx hb dX10_mayLevel_52 (by decide) ?_
            refine lv_istore (lv' := [(5, .int 0), (0, .ref a_this), (1, .int x1), (2, .int x2), (3, .int x3), (4, .int x4), (6, .int v6)]) hx hb dX10_mayLevel_53 hl (by decide) rfl (fun ls hl => ?_)
            obtain ⟨v6_3, e_v6_3⟩ : ∃ y : Int32, y = (v6 + 1) := ⟨_, rfl⟩
            have hV := hV v6_3 e_v6_3
            refine lv_iinc (v := v6_3) (lv' := [(6, .int v6_3), (5, .int 0), (0, .ref a_this), (1, .int x1), (2, .int x2), (3, .int x3), (4, .int x4)]) hx hb dX10_mayLevel_55 hl (k := 6) rfl (by rw [e_v6_3]; rfl) (by decide) rfl (fun ls hl => ?_)
            refine lv_goto (tgt := 6) hx hb dX10_mayLevel_58 (by decide) ?_
            exact ih6 0 v6_3 _ _ _ hP hS (lv_sub hl [2, 3, 4, 5, 6, 1, 0] rfl) hV
          · have hV := hV.1 h
            refine lv_iconst (v := 1) hx hb dX10_mayLevel_48 (by decide) ?_
            refine lv_goto (tgt := 53) hx hb dX10_mayLevel_49 (by decide) ?_
            refine lv_istore (lv' := [(5, .int 1), (0, .ref a_this), (1, .int x1), (2, .int x2), (3, .int x3), (4, .int x4), (6, .int v6)]) hx hb dX10_mayLevel_53 hl (by decide) rfl (fun ls hl => ?_)
            obtain ⟨v6_4, e_v6_4⟩ : ∃ y : Int32, y = (v6 + 1) := ⟨_, rfl⟩
            have hV := hV v6_4 e_v6_4
            refine lv_iinc (v := v6_4) (lv' := [(6, .int v6_4), (5, .int 1), (0, .ref a_this), (1, .int x1), (2, .int x2), (3, .int x3), (4, .int x4)]) hx hb dX10_mayLevel_55 hl (k := 6) rfl (by rw [e_v6_4]; rfl) (by decide) rfl (fun ls hl => ?_)
            refine lv_goto (tgt := 6) hx hb dX10_mayLevel_58 (by decide) ?_
            exact ih6 1 v6_4 _ _ _ hP hS (lv_sub hl [2, 3, 4, 5, 6, 1, 0] rfl) hV
  refine lv_iconst (v := 1) hx hb dX10_mayLevel_0 (by decide) ?_
  refine lv_istore (lv' := [(5, .int 1), (0, .ref a_this), (1, .int x1), (2, .int x2), (3, .int x3), (4, .int x4)]) hx hb dX10_mayLevel_1 hl (by decide) rfl (fun ls hl => ?_)
  refine lv_iload_n hx hb dX10_mayLevel_3 rfl (lv_at hl 2 rfl) ?_
  refine lv_istore (lv' := [(6, .int x1), (5, .int 1), (0, .ref a_this), (1, .int x1), (2, .int x2), (3, .int x3), (4, .int x4)]) hx hb dX10_mayLevel_4 hl (by decide) rfl (fun ls hl => ?_)
  obtain ⟨k, hV⟩ := hV
  exact b6 k 1 x1 _ _ _ hP hS (lv_sub hl [2, 3, 4, 5, 6, 1, 0] rfl) hV
