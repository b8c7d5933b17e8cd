def rm_X10_due : Room := { frames := 1, cells := 0, slots := 0, locals := 22 }
def V_X10_due_2 (x1 : Int32) (f_all : Nat → Int32) (post : Int32 → Prop) : Nat → Int32 → Prop
  | 0, _ => False
  | n + 1, v2 => ((12 ≤ v2 → post (-1)) ∧ (¬ 12 ≤ v2 → (vp_in (10 + v2) 3320 ∧ P_X10_of x1 1 f_all (fun r_1 => (((f_all (10 + v2).toNatClampNeg) ≤ r_1 → (∀ v2_2 : Int32, v2_2 = (v2 + 1) → V_X10_due_2 x1 f_all post n v2_2)) ∧ (¬ (f_all (10 + v2).toNatClampNeg) ≤ r_1 → post (30 * v2)))))))
theorem V_X10_due_2_s (x1 : Int32) (f_all : Nat → Int32) (post : Int32 → Prop) (n : Nat) (v2 : Int32) : V_X10_due_2 x1 f_all post (n + 1) v2 = (((12 ≤ v2 → post (-1)) ∧ (¬ 12 ≤ v2 → (vp_in (10 + v2) 3320 ∧ P_X10_of x1 1 f_all (fun r_1 => (((f_all (10 + v2).toNatClampNeg) ≤ r_1 → (∀ v2_2 : Int32, v2_2 = (v2 + 1) → V_X10_due_2 x1 f_all post n v2_2)) ∧ (¬ (f_all (10 + v2).toNatClampNeg) ≤ r_1 → post (30 * v2)))))))) := rfl
def P_X10_due (x1 : Int32) (f_all : Nat → Int32) (post : Int32 → Prop) : Prop := (∃ k : Nat, V_X10_due_2 x1 f_all post k 0)
set_option maxRecDepth 100000 in
set_option maxHeartbeats 4000000 in
theorem c_X10_due (l : Launch) (D : va_G) (cI cB cS : ClassId) (a_this a_all a_has a_few a_sawn a_cut a_todo a_press a_gone : Nat) (x1 : Int32) (f_all : Nat → Int32) (post : Int32 → Prop) (hV : P_X10_due x1 f_all post) : Ci l yX10_due cX10_due 3 (some .int) rm_X10_due D cI cB cS [.ref a_this, .int x1] [oc a_this 9 [.ref a_all, .ref a_has, .ref a_few, .ref a_sawn, .ref a_cut, .ref a_todo, .ref a_press, .ref a_gone], ai cI a_all 3320 f_all] (fun r (_ : Unit) => post r) (fun (_ : Unit) => [oc a_this 9 [.ref a_all, .ref a_has, .ref a_few, .ref a_sawn, .ref a_cut, .ref a_todo, .ref a_press, .ref a_gone], ai cI a_all 3320 f_all]) := by
  refine Ci.of ok_X10_due (Nat.le_of_ble_eq_true rfl) ?_
  intro p e s m args below meth c A Q hx hb hml hown ht hnm hK hP hA hS hret ls hl
  have hown : s.vm.findClass RX10 = some m.cls := hown
  have FX : CallFix p m c cX10_due 3 s args tblG RX10 := ⟨hx, hb, hml, hown, ht⟩
  have hP : PD D A [oc a_this 9 [.ref a_all, .ref a_has, .ref a_few, .ref a_sawn, .ref a_cut, .ref a_todo, .ref a_press, .ref a_gone], ai cI a_all 3320 f_all] s.heap := hP
  have hl : lv_has ls 3 [(0, .ref a_this), (1, .int x1)] := hl
  unfold P_X10_due at hV
  have b2 : ∀  (k2 : Nat) (v2 : Int32) (H : Heap) (locs : List Loc) (ls : Array Slot), PD D A [oc a_this 9 [.ref a_all, .ref a_has, .ref a_few, .ref a_sawn, .ref a_cut, .ref a_todo, .ref a_press, .ref a_gone], ai cI a_all 3320 f_all] H → va_S A s.heap H locs → lv_has ls 3 [(0, .ref a_this), (1, .int x1), (2, .int v2)] → V_X10_due_2 x1 f_all post k2 v2 → W p l e rm_X10_due s m args below meth c H locs 0 0 Q (F0 m 2 ls []) := by
    intro  k2
    induction k2 with
    | zero => intro v2 H locs ls hP hS hl hV; exact False.elim hV
    | succ k2 ih2 =>
      intro v2 H locs ls hP hS hl hV
      rw [V_X10_due_2_s] at hV
      refine lv_iload_n hx hb dX10_due_2 rfl (lv_at hl 2 rfl) ?_
      refine lv_bipush (v := 12) hx hb dX10_due_3 (by decide) ?_
      refine lv_icmp_ge (tgt := 37) hx hb dX10_due_5 (by decide) (fun h => ?_) (fun h => ?_)
      · have hV := hV.1 h
        refine lv_iconst (v := (-1)) hx hb dX10_due_37 (by decide) ?_
        exact hret _ _ _ _ _ () hS dX10_due_38 hP hV
      · have hV := hV.2 h
        refine lv_aload_n hx hb dX10_due_8 rfl (lv_at hl 0 rfl) ?_
        refine gX10 hx hb ht hown hK hP 0 rfl 0 (by decide) fl_X10_7 (fun _ h => h) rfl dX10_due_9 ?_
        refine lv_bipush (v := 10) hx hb dX10_due_12 (by decide) ?_
        refine lv_iload_n hx hb dX10_due_14 rfl (lv_at hl 2 rfl) ?_
        refine lv_iadd hx hb dX10_due_15 ?_
        refine ild hx hb hK hP 1 rfl dX10_due_16 hV.1 ?_
        have hV := hV.2
        refine lv_aload_n hx hb dX10_due_17 rfl (lv_at hl 0 rfl) ?_
        refine lv_iload_n hx hb dX10_due_18 rfl (lv_at hl 1 rfl) ?_
        refine lv_iconst (v := 1) hx hb dX10_due_19 (by decide) ?_
        refine KVi (As := [.int x1, .int 1]) (rest := [.int (f_all (10 + v2).toNatClampNeg)]) FX (c_X10_of l D cI cB cS a_this a_all a_has a_few a_sawn a_cut a_todo a_press a_gone x1 1 f_all _ hV) ok_X10_of im_X10_of se_X10_of li_X10_86 dX10_due_20 hK hP hS hA [0, 1] [] 0 rfl rfl rfl (by decide) rfl rfl hl.1 (Nat.le_of_ble_eq_true rfl) ⟨Nat.le_of_ble_eq_true rfl, Nat.le_of_ble_eq_true rfl⟩ ⟨Nat.le_of_ble_eq_true rfl, Nat.le_of_ble_eq_true rfl⟩ (fun r_1 _ H locs hV hP hS => ?_)
        have hP : PD D A [oc a_this 9 [.ref a_all, .ref a_has, .ref a_few, .ref a_sawn, .ref a_cut, .ref a_todo, .ref a_press, .ref a_gone], ai cI a_all 3320 f_all] H := hP
        refine lv_icmp_le (tgt := 31) hx hb dX10_due_23 (by decide) (fun h => ?_) (fun h => ?_)
        · have hV := hV.1 h
          obtain ⟨v2_2, e_v2_2⟩ : ∃ y : Int32, y = (v2 + 1) := ⟨_, rfl⟩
          have hV := hV v2_2 e_v2_2
          refine lv_iinc (v := v2_2) (lv' := [(2, .int v2_2), (0, .ref a_this), (1, .int x1)]) hx hb dX10_due_31 hl (k := 2) rfl (by rw [e_v2_2]; rfl) (by decide) rfl (fun ls hl => ?_)
          refine lv_goto (tgt := 2) hx hb dX10_due_34 (by decide) ?_
          exact ih2 v2_2 _ _ _ hP hS (lv_sub hl [1, 2, 0] rfl) hV
        · have hV := hV.2 h
          refine lv_bipush (v := 30) hx hb dX10_due_26 (by decide) ?_
          refine lv_iload_n hx hb dX10_due_28 rfl (lv_at hl 2 rfl) ?_
          refine lv_imul hx hb dX10_due_29 ?_
          exact hret _ _ _ _ _ () hS dX10_due_30 hP hV
  refine lv_iconst (v := 0) hx hb dX10_due_0 (by decide) ?_
  refine lv_istore_n (lv' := [(2, .int 0), (0, .ref a_this), (1, .int x1)]) hx hb dX10_due_1 rfl hl (by decide) rfl (fun ls hl => ?_)
  obtain ⟨k, hV⟩ := hV
  exact b2 k 0 _ _ _ hP hS (lv_sub hl [1, 2, 0] rfl) hV

def rm_X10_isAbove : Room := { frames := 1, cells := 0, slots := 0, locals := 22 }
def P_X10_isAbove (x1 : Int32) (x2 : Int32) (f_all : Nat → Int32) (post : Int32 → Prop) : Prop := P_X10_of x1 1 f_all (fun r_1 => P_X10_of x2 1 f_all (fun r_2 => P_X10_of x2 3 f_all (fun r_3 => ((r_1 = (r_2 + r_3) → P_X10_of x1 0 f_all (fun r_4 => P_X10_of x2 0 f_all (fun r_5 => P_X10_of x2 2 f_all (fun r_6 => (((r_5 + r_6) ≤ r_4 → post 0) ∧ (¬ (r_5 + r_6) ≤ r_4 → P_X10_of x2 0 f_all (fun r_7 => P_X10_of x1 0 f_all (fun r_8 => P_X10_of x1 2 f_all (fun r_9 => (((r_8 + r_9) ≤ r_7 → post 0) ∧ (¬ (r_8 + r_9) ≤ r_7 → post 1))))))))))) ∧ (¬ r_1 = (r_2 + r_3) → post 0)))))
set_option maxRecDepth 100000 in
set_option maxHeartbeats 4000000 in
theorem c_X10_isAbove (l : Launch) (D : va_G) (cI cB cS : ClassId) (a_this a_all a_has a_few a_sawn a_cut a_todo a_press a_gone : Nat) (x1 : Int32) (x2 : Int32) (f_all : Nat → Int32) (post : Int32 → Prop) (hV : P_X10_isAbove x1 x2 f_all post) : Ci l yX10_isAbove cX10_isAbove 3 (some .boolean) rm_X10_isAbove D cI cB cS [.ref a_this, .int x1, .int x2] [oc a_this 9 [.ref a_all, .ref a_has, .ref a_few, .ref a_sawn, .ref a_cut, .ref a_todo, .ref a_press, .ref a_gone], ai cI a_all 3320 f_all] (fun r (_ : Unit) => post r) (fun (_ : Unit) => [oc a_this 9 [.ref a_all, .ref a_has, .ref a_few, .ref a_sawn, .ref a_cut, .ref a_todo, .ref a_press, .ref a_gone], ai cI a_all 3320 f_all]) := by
  refine Cz.of ok_X10_isAbove (Nat.le_of_ble_eq_true rfl) ?_
  intro p e s m args below meth c A Q hx hb hml hown ht hnm hK hP hA hS hret ls hl
  have hown : s.vm.findClass RX10 = some m.cls := hown
  have FX : CallFix p m c cX10_isAbove 3 s args tblG RX10 := ⟨hx, hb, hml, hown, ht⟩
  have hP : PD D A [oc a_this 9 [.ref a_all, .ref a_has, .ref a_few, .ref a_sawn, .ref a_cut, .ref a_todo, .ref a_press, .ref a_gone], ai cI a_all 3320 f_all] s.heap := hP
  have hl : lv_has ls 3 [(0, .ref a_this), (1, .int x1), (2, .int x2)] := hl
  unfold P_X10_isAbove at hV
  refine lv_aload_n hx hb dX10_isAbove_0 rfl (lv_at hl 0 rfl) ?_
  refine lv_iload_n hx hb dX10_isAbove_1 rfl (lv_at hl 1 rfl) ?_
  refine lv_iconst (v := 1) hx hb dX10_isAbove_2 (by decide) ?_
  refine KVi (As := [.int x1, .int 1]) (rest := []) FX (c_X10_of l D cI cB cS a_this a_all a_has a_few a_sawn a_cut a_todo a_press a_gone x1 1 f_all _ hV) ok_X10_of im_X10_of se_X10_of li_X10_86 dX10_isAbove_3 hK hP hS hA [0, 1] [] 0 rfl rfl rfl (by decide) rfl rfl hl.1 (Nat.le_of_ble_eq_true rfl) ⟨Nat.le_of_ble_eq_true rfl, Nat.le_of_ble_eq_true rfl⟩ ⟨Nat.le_of_ble_eq_true rfl, Nat.le_of_ble_eq_true rfl⟩ (fun r_1 _ H locs hV hP hS => ?_)
  have hP : PD D A [oc a_this 9 [.ref a_all, .ref a_has, .ref a_few, .ref a_sawn, .ref a_cut, .ref a_todo, .ref a_press, .ref a_gone], ai cI a_all 3320 f_all] H := hP
  refine lv_aload_n hx hb dX10_isAbove_6 rfl (lv_at hl 0 rfl) ?_
  refine lv_iload_n hx hb dX10_isAbove_7 rfl (lv_at hl 2 rfl) ?_
  refine lv_iconst (v := 1) hx hb dX10_isAbove_8 (by decide) ?_
  refine KVi (As := [.int x2, .int 1]) (rest := [.int r_1]) FX (c_X10_of l D cI cB cS a_this a_all a_has a_few a_sawn a_cut a_todo a_press a_gone x2 1 f_all _ hV) ok_X10_of im_X10_of se_X10_of li_X10_86 dX10_isAbove_9 hK hP hS hA [0, 1] [] 0 rfl rfl rfl (by decide) rfl rfl hl.1 (Nat.le_of_ble_eq_true rfl) ⟨Nat.le_of_ble_eq_true rfl, Nat.le_of_ble_eq_true rfl⟩ ⟨Nat.le_of_ble_eq_true rfl, Nat.le_of_ble_eq_true rfl⟩ (fun r_2 _ H locs hV hP hS => ?_)
  have hP : PD D A [oc a_this 9 [.ref a_all, .ref a_has, .ref a_few, .ref a_sawn, .ref a_cut, .ref a_todo, .ref a_press, .ref a_gone], ai cI a_all 3320 f_all] H := hP
  refine lv_aload_n hx hb dX10_isAbove_12 rfl (lv_at hl 0 rfl) ?_
  refine lv_iload_n hx hb dX10_isAbove_13 rfl (lv_at hl 2 rfl) ?_
  refine lv_iconst (v := 3) hx hb dX10_isAbove_14 (by decide) ?_
  refine KVi (As := [.int x2, .int 3]) (rest := [.int r_2, .int r_1]) FX (c_X10_of l D cI cB cS a_this a_all a_has a_few a_sawn a_cut a_todo a_press a_gone x2 3 f_all _ hV) ok_X10_of im_X10_of se_X10_of li_X10_86 dX10_isAbove_15 hK hP hS hA [0, 1] [] 0 rfl rfl rfl (by decide) rfl rfl hl.1 (Nat.le_of_ble_eq_true rfl) ⟨Nat.le_of_ble_eq_true rfl, Nat.le_of_ble_eq_true rfl⟩ ⟨Nat.le_of_ble_eq_true rfl, Nat.le_of_ble_eq_true rfl⟩ (fun r_3 _ H locs hV hP hS => ?_)
  have hP : PD D A [oc a_this 9 [.ref a_all, .ref a_has, .ref a_few, .ref a_sawn, .ref a_cut, .ref a_todo, .ref a_press, .ref a_gone], ai cI a_all 3320 f_all] H := hP
  refine lv_iadd hx hb dX10_isAbove_18 ?_
  refine lv_icmp_ne (tgt := 70) hx hb dX10_isAbove_19 (by decide) (fun h => ?_) (fun h => ?_)
  · have hV := hV.2 h
    refine lv_iconst (v := 0) hx hb dX10_isAbove_70 (by decide) ?_
    exact hret _ _ _ _ _ () hS dX10_isAbove_71 hP (by decide) hV
  · have hV := hV.1 h
    refine lv_aload_n hx hb dX10_isAbove_22 rfl (lv_at hl 0 rfl) ?_
    refine lv_iload_n hx hb dX10_isAbove_23 rfl (lv_at hl 1 rfl) ?_
    refine lv_iconst (v := 0) hx hb dX10_isAbove_24 (by decide) ?_
    refine KVi (As := [.int x1, .int 0]) (rest := []) FX (c_X10_of l D cI cB cS a_this a_all a_has a_few a_sawn a_cut a_todo a_press a_gone x1 0 f_all _ hV) ok_X10_of im_X10_of se_X10_of li_X10_86 dX10_isAbove_25 hK hP hS hA [0, 1] [] 0 rfl rfl rfl (by decide) rfl rfl hl.1 (Nat.le_of_ble_eq_true rfl) ⟨Nat.le_of_ble_eq_true rfl, Nat.le_of_ble_eq_true rfl⟩ ⟨Nat.le_of_ble_eq_true rfl, Nat.le_of_ble_eq_true rfl⟩ (fun r_4 _ H locs hV hP hS => ?_)
    have hP : PD D A [oc a_this 9 [.ref a_all, .ref a_has, .ref a_few, .ref a_sawn, .ref a_cut, .ref a_todo, .ref a_press, .ref a_gone], ai cI a_all 3320 f_all] H := hP
    refine lv_aload_n hx hb dX10_isAbove_28 rfl (lv_at hl 0 rfl) ?_
    refine lv_iload_n hx hb dX10_isAbove_29 rfl (lv_at hl 2 rfl) ?_
    refine lv_iconst (v := 0) hx hb dX10_isAbove_30 (by decide) ?_
    refine KVi (As := [.int x2, .int 0]) (rest := [.int r_4]) FX (c_X10_of l D cI cB cS a_this a_all a_has a_few a_sawn a_cut a_todo a_press a_gone x2 0 f_all _ hV) ok_X10_of im_X10_of se_X10_of li_X10_86 dX10_isAbove_31 hK hP hS hA [0, 1] [] 0 rfl rfl rfl (by decide) rfl rfl hl.1 (Nat.le_of_ble_eq_true rfl) ⟨Nat.le_of_ble_eq_true rfl, Nat.le_of_ble_eq_true rfl⟩ ⟨Nat.le_of_ble_eq_true rfl, Nat.le_of_ble_eq_true rfl⟩ (fun r_5 _ H locs hV hP hS => ?_)
    have hP : PD D A [oc a_this 9 [.ref a_all, .ref a_has, .ref a_few, .ref a_sawn, .ref a_cut, .ref a_todo, .ref a_press, .ref a_gone], ai cI a_all 3320 f_all] H := hP
    refine lv_aload_n hx hb dX10_isAbove_34 rfl (lv_at hl 0 rfl) ?_
    refine lv_iload_n hx hb dX10_isAbove_35 rfl (lv_at hl 2 rfl) ?_
    refine lv_iconst (v := 2) hx hb dX10_isAbove_36 (by decide) ?_
    refine KVi (As := [.int x2, .int 2]) (rest := [.int r_5, .int r_4]) FX (c_X10_of l D cI cB cS a_this a_all a_has a_few a_sawn a_cut a_todo a_press a_gone x2 2 f_all _ hV) ok_X10_of im_X10_of se_X10_of li_X10_86 dX10_isAbove_37 hK hP hS hA [0, 1] [] 0 rfl rfl rfl (by decide) rfl rfl hl.1 (Nat.le_of_ble_eq_true rfl) ⟨Nat.le_of_ble_eq_true rfl, Nat.le_of_ble_eq_true rfl⟩ ⟨Nat.le_of_ble_eq_true rfl, Nat.le_of_ble_eq_true rfl⟩ (fun r_6 _ H locs hV hP hS => ?_)
    have hP : PD D A [oc a_this 9 [.ref a_all, .ref a_has, .ref a_few, .ref a_sawn, .ref a_cut, .ref a_todo, .ref a_press, .ref a_gone], ai cI a_all 3320 f_all] H := hP
    refine lv_iadd hx hb dX10_isAbove_40 ?_
    refine lv_icmp_ge (tgt := 70) hx hb dX10_isAbove_41 (by decide) (fun h => ?_) (fun h => ?_)
    · have hV := hV.1 h
      refine lv_iconst (v := 0) hx hb dX10_isAbove_70 (by decide) ?_
      exact hret _ _ _ _ _ () hS dX10_isAbove_71 hP (by decide) hV
    · have hV := hV.2 h
      refine lv_aload_n hx hb dX10_isAbove_44 rfl (lv_at hl 0 rfl) ?_
      refine lv_iload_n hx hb dX10_isAbove_45 rfl (lv_at hl 2 rfl) ?_
      refine lv_iconst (v := 0) hx hb dX10_isAbove_46 (by decide) ?_
      refine KVi (As := [.int x2, .int 0]) (rest := []) FX (c_X10_of l D cI cB cS a_this a_all a_has a_few a_sawn a_cut a_todo a_press a_gone x2 0 f_all _ hV) ok_X10_of im_X10_of se_X10_of li_X10_86 dX10_isAbove_47 hK hP hS hA [0, 1] [] 0 rfl rfl rfl (by decide) rfl rfl hl.1 (Nat.le_of_ble_eq_true rfl) ⟨Nat.le_of_ble_eq_true rfl, Nat.le_of_ble_eq_true rfl⟩ ⟨Nat.le_of_ble_eq_true rfl, Nat.le_of_ble_eq_true rfl⟩ (fun r_7 _ H locs hV hP hS => ?_)
      have hP : PD D A [oc a_this 9 [.ref a_all, .ref a_has, .ref a_few, .ref a_sawn, .ref a_cut, .ref a_todo, .ref a_press, .ref a_gone], ai cI a_all 3320 f_all] H := hP
      refine lv_aload_n hx hb dX10_isAbove_50 rfl (lv_at hl 0 rfl) ?_
      refine lv_iload_n hx hb dX10_isAbove_51 rfl (lv_at hl 1 rfl) ?_
      refine lv_iconst (v := 0) hx hb dX10_isAbove_52 (by decide) ?_
      refine KVi (As := [.int x1, .int 0]) (rest := [.int r_7]) FX (c_X10_of l D cI cB cS a_this a_all a_has a_few a_sawn a_cut a_todo a_press a_gone x1 0 f_all _ hV) ok_X10_of im_X10_of se_X10_of li_X10_86 dX10_isAbove_53 hK hP hS hA [0, 1] [] 0 rfl rfl rfl (by decide) rfl rfl hl.1 (Nat.le_of_ble_eq_true rfl) ⟨Nat.le_of_ble_eq_true rfl, Nat.le_of_ble_eq_true rfl⟩ ⟨Nat.le_of_ble_eq_true rfl, Nat.le_of_ble_eq_true rfl⟩ (fun r_8 _ H locs hV hP hS => ?_)
      have hP : PD D A [oc a_this 9 [.ref a_all, .ref a_has, .ref a_few, .ref a_sawn, .ref a_cut, .ref a_todo, .ref a_press, .ref a_gone], ai cI a_all 3320 f_all] H := hP
      refine lv_aload_n hx hb dX10_isAbove_56 rfl (lv_at hl 0 rfl) ?_
      refine lv_iload_n hx hb dX10_isAbove_57 rfl (lv_at hl 1 rfl) ?_
      refine lv_iconst (v := 2) hx hb dX10_isAbove_58 (by decide) ?_
      refine KVi (As := [.int x1, .int 2]) (rest := [.int r_8, .int r_7]) FX (c_X10_of l D cI cB cS a_this a_all a_has a_few a_sawn a_cut a_todo a_press a_gone x1 2 f_all _ hV) ok_X10_of im_X10_of se_X10_of li_X10_86 dX10_isAbove_59 hK hP hS hA [0, 1] [] 0 rfl rfl rfl (by decide) rfl rfl hl.1 (Nat.le_of_ble_eq_true rfl) ⟨Nat.le_of_ble_eq_true rfl, Nat.le_of_ble_eq_true rfl⟩ ⟨Nat.le_of_ble_eq_true rfl, Nat.le_of_ble_eq_true rfl⟩ (fun r_9 _ H locs hV hP hS => ?_)
      have hP : PD D A [oc a_this 9 [.ref a_all, .ref a_has, .ref a_few, .ref a_sawn, .ref a_cut, .ref a_todo, .ref a_press, .ref a_gone], ai cI a_all 3320 f_all] H := hP
      refine lv_iadd hx hb dX10_isAbove_62 ?_
      refine lv_icmp_ge (tgt := 70) hx hb dX10_isAbove_63 (by decide) (fun h => ?_) (fun h => ?_)
      · have hV := hV.1 h
        refine lv_iconst (v := 0) hx hb dX10_isAbove_70 (by decide) ?_
        exact hret _ _ _ _ _ () hS dX10_isAbove_71 hP (by decide) hV
      · have hV := hV.2 h
        refine lv_iconst (v := 1) hx hb dX10_isAbove_66 (by decide) ?_
        refine lv_goto (tgt := 71) hx hb dX10_isAbove_67 (by decide) ?_
        exact hret _ _ _ _ _ () hS dX10_isAbove_71 hP (by decide) hV

def rm_X10_stands : Room := { frames := 1, cells := 0, slots := 0, locals := 22 }
def P_X10_stands (x1 : Int32) (f_all : Nat → Int32) (post : Int32 → Prop) : Prop := P_X10_of x1 4 f_all (fun r_1 => ((0 ≤ r_1 → post 0) ∧ (¬ 0 ≤ r_1 → post 1)))
set_option maxRecDepth 100000 in
set_option maxHeartbeats 4000000 in
theorem c_X10_stands (l : Launch) (D : va_G) (cI cB cS : ClassId) (a_this a_all a_has a_few a_sawn a_cut a_todo a_press a_gone : Nat) (x1 : Int32) (f_all : Nat → Int32) (post : Int32 → Prop) (hV : P_X10_stands x1 f_all post) : Ci l yX10_stands cX10_stands 2 (some .boolean) rm_X10_stands D cI cB cS [.ref a_this, .int x1] [oc a_this 9 [.ref a_all, .ref a_has, .ref a_few, .ref a_sawn, .ref a_cut, .ref a_todo, .ref a_press, .ref a_gone], ai cI a_all 3320 f_all] (fun r (_ : Unit) => post r) (fun (_ : Unit) => [oc a_this 9 [.ref a_all, .ref a_has, .ref a_few, .ref a_sawn, .ref a_cut, .ref a_todo, .ref a_press, .ref a_gone], ai cI a_all 3320 f_all]) := by
  refine Cz.of ok_X10_stands (Nat.le_of_ble_eq_true rfl) ?_
  intro p e s m args below meth c A Q hx hb hml hown ht hnm hK hP hA hS hret ls hl
  have hown : s.vm.findClass RX10 = some m.cls := hown
  have FX : CallFix p m c cX10_stands 2 s args tblG RX10 := ⟨hx, hb, hml, hown, ht⟩
  have hP : PD D A [oc a_this 9 [.ref a_all, .ref a_has, .ref a_few, .ref a_sawn, .ref a_cut, .ref a_todo, .ref a_press, .ref a_gone], ai cI a_all 3320 f_all] s.heap := hP
  have hl : lv_has ls 2 [(0, .ref a_this), (1, .int x1)] := hl
  unfold P_X10_stands at hV
  refine lv_aload_n hx hb dX10_stands_0 rfl (lv_at hl 0 rfl) ?_
  refine lv_iload_n hx hb dX10_stands_1 rfl (lv_at hl 1 rfl) ?_
  refine lv_iconst (v := 4) hx hb dX10_stands_2 (by decide) ?_
  refine KVi (As := [.int x1, .int 4]) (rest := []) FX (c_X10_of l D cI cB cS a_this a_all a_has a_few a_sawn a_cut a_todo a_press a_gone x1 4 f_all _ hV) ok_X10_of im_X10_of se_X10_of li_X10_86 dX10_stands_3 hK hP hS hA [0, 1] [] 0 rfl rfl rfl (by decide) rfl rfl hl.1 (Nat.le_of_ble_eq_true rfl) ⟨Nat.le_of_ble_eq_true rfl, Nat.le_of_ble_eq_true rfl⟩ ⟨Nat.le_of_ble_eq_true rfl, Nat.le_of_ble_eq_true rfl⟩ (fun r_1 _ H locs hV hP hS => ?_)
  have hP : PD D A [oc a_this 9 [.ref a_all, .ref a_has, .ref a_few, .ref a_sawn, .ref a_cut, .ref a_todo, .ref a_press, .ref a_gone], ai cI a_all 3320 f_all] H := hP
  refine lv_if_ge (tgt := 13) hx hb dX10_stands_6 (by decide) (fun h => ?_) (fun h => ?_)
  · have hV := hV.1 h
    refine lv_iconst (v := 0) hx hb dX10_stands_13 (by decide) ?_
    exact hret _ _ _ _ _ () hS dX10_stands_14 hP (by decide) hV
  · have hV := hV.2 h
    refine lv_iconst (v := 1) hx hb dX10_stands_9 (by decide) ?_
    refine lv_goto (tgt := 14) hx hb dX10_stands_10 (by decide) ?_
    exact hret _ _ _ _ _ () hS dX10_stands_14 hP (by decide) hV

def rm_X10_isFree : Room := { frames := 2, cells := 0, slots := 0, locals := 44 }
def V_X10_isFree_8 (x1 : Int32) (f_all : Nat → Int32) (post : Int32 → Prop) : Nat → Int32 → Int32 → Prop
  | 0, _, _ => False
  | n + 1, v2, v3 => (vp_in 5 3320 ∧ (((f_all (5 : Int32).toNatClampNeg) ≤ v3 → ((v2 = 0 ∨ v2 = 1) ∧ post v2)) ∧ (¬ (f_all (5 : Int32).toNatClampNeg) ≤ v3 → ((v2 = 0 → (∀ v3_1 : Int32, v3_1 = (v3 + 1) → V_X10_isFree_8 x1 f_all post n 0 v3_1)) ∧ (¬ v2 = 0 → P_X10_isAbove v3 x1 f_all (fun r_2 => ((r_2 = 0 → (∀ v3_3 : Int32, v3_3 = (v3 + 1) → V_X10_isFree_8 x1 f_all post n 1 v3_3)) ∧ (¬ r_2 = 0 → P_X10_stands v3 f_all (fun r_4 => ((r_4 = 0 → (∀ v3_6 : Int32, v3_6 = (v3 + 1) → V_X10_isFree_8 x1 f_all post n 1 v3_6)) ∧ (¬ r_4 = 0 → (∀ v3_5 : Int32, v3_5 = (v3 + 1) → V_X10_isFree_8 x1 f_all post n 0 v3_5))))))))))))
theorem V_X10_isFree_8_s (x1 : Int32) (f_all : Nat → Int32) (post : Int32 → Prop) (n : Nat) (v2 : Int32) (v3 : Int32) : V_X10_isFree_8 x1 f_all post (n + 1) v2 v3 = ((vp_in 5 3320 ∧ (((f_all (5 : Int32).toNatClampNeg) ≤ v3 → ((v2 = 0 ∨ v2 = 1) ∧ post v2)) ∧ (¬ (f_all (5 : Int32).toNatClampNeg) ≤ v3 → ((v2 = 0 → (∀ v3_1 : Int32, v3_1 = (v3 + 1) → V_X10_isFree_8 x1 f_all post n 0 v3_1)) ∧ (¬ v2 = 0 → P_X10_isAbove v3 x1 f_all (fun r_2 => ((r_2 = 0 → (∀ v3_3 : Int32, v3_3 = (v3 + 1) → V_X10_isFree_8 x1 f_all post n 1 v3_3)) ∧ (¬ r_2 = 0 → P_X10_stands v3 f_all (fun r_4 => ((r_4 = 0 → (∀ v3_6 : Int32, v3_6 = (v3 + 1) → V_X10_isFree_8 x1 f_all post n 1 v3_6)) ∧ (¬ r_4 = 0 → (∀ v3_5 : Int32, v3_5 = (v3 + 1) → V_X10_isFree_8 x1 f_all post n 0 v3_5))))))))))))) := rfl
def P_X10_isFree (x1 : Int32) (f_all : Nat → Int32) (post : Int32 → Prop) : Prop := P_X10_stands x1 f_all (fun r_7 => (∃ k : Nat, V_X10_isFree_8 x1 f_all post k r_7 0))
set_option maxRecDepth 100000 in
set_option maxHeartbeats 4000000 in
theorem c_X10_isFree (l : Launch) (D : va_G) (cI cB cS : ClassId) (a_this a_all a_has a_few a_sawn a_cut a_todo a_press a_gone : Nat) (x1 : Int32) (f_all : Nat → Int32) (post : Int32 → Prop) (hV : P_X10_isFree x1 f_all post) : Ci l yX10_isFree cX10_isFree 4 (some .boolean) rm_X10_isFree D cI cB cS [.ref a_this, .int x1] [oc a_this 9 [.ref a_all, .ref a_has, .ref a_few, .ref a_sawn, .ref a_cut, .ref a_todo, .ref a_press, .ref a_gone], ai cI a_all 3320 f_all] (fun r (_ : Unit) => post r) (fun (_ : Unit) => [oc a_this 9 [.ref a_all, .ref a_has, .ref a_few, .ref a_sawn, .ref a_cut, .ref a_todo, .ref a_press, .ref a_gone], ai cI a_all 3320 f_all]) := by
  refine Cz.of ok_X10_isFree (Nat.le_of_ble_eq_true rfl) ?_
  intro p e s m args below meth c A Q hx hb hml hown ht hnm hK hP hA hS hret ls hl
  have hown : s.vm.findClass RX10 = some m.cls := hown
  have FX : CallFix p m c cX10_isFree 4 s args tblG RX10 := ⟨hx, hb, hml, hown, ht⟩
  have hP : PD D A [oc a_this 9 [.ref a_all, .ref a_has, .ref a_few, .ref a_sawn, .ref a_cut, .ref a_todo, .ref a_press, .ref a_gone], ai cI a_all 3320 f_all] s.heap := hP
  have hl : lv_has ls 4 [(0, .ref a_this), (1, .int x1)] := hl
  unfold P_X10_isFree at hV
  have b8 : ∀  (k8 : Nat) (v2 : Int32) (v3 : Int32) (H : Heap) (locs : List Loc) (ls : Array Slot), PD D A [oc a_this 9 [.ref a_all, .ref a_has, .ref a_few, .ref a_sawn, .ref a_cut, .ref a_todo, .ref a_press, .ref a_gone], ai cI a_all 3320 f_all] H → va_S A s.heap H locs → lv_has ls 4 [(0, .ref a_this), (1, .int x1), (2, .int v2), (3, .int v3)] → V_X10_isFree_8 x1 f_all post k8 v2 v3 → W p l e rm_X10_isFree s m args below meth c H locs 0 0 Q (F0 m 8 ls []) := by
    intro  k8
    induction k8 with
    | zero => intro v2 v3 H locs ls hP hS hl hV; exact False.elim hV
    | succ k8 ih8 =>
      intro v2 v3 H locs ls hP hS hl hV
      rw [V_X10_isFree_8_s] at hV
      refine lv_iload_n hx hb dX10_isFree_8 rfl (lv_at hl 3 rfl) ?_
      refine lv_aload_n hx hb dX10_isFree_9 rfl (lv_at hl 0 rfl) ?_
      refine gX10 hx hb ht hown hK hP 0 rfl 0 (by decide) fl_X10_7 (fun _ h => h) rfl dX10_isFree_10 ?_
      refine lv_iconst (v := 5) hx hb dX10_isFree_13 (by decide) ?_
      refine ild hx hb hK hP 1 rfl dX10_isFree_14 hV.1 ?_
      have hV := hV.2
      refine lv_icmp_ge (tgt := 51) hx hb dX10_isFree_15 (by decide) (fun h => ?_) (fun h => ?_)
      · have hV := hV.1 h
        refine lv_iload_n hx hb dX10_isFree_51 rfl (lv_at hl 2 rfl) ?_
        exact hret _ _ _ _ _ () hS dX10_isFree_52 hP hV.1 hV.2
      · have hV := hV.2 h
        refine lv_iload_n hx hb dX10_isFree_18 rfl (lv_at hl 2 rfl) ?_
        refine lv_if_eq (tgt := 43) hx hb dX10_isFree_19 (by decide) (fun h => ?_) (fun h => ?_)
        · have hV := hV.1 h
          refine lv_iconst (v := 0) hx hb dX10_isFree_43 (by decide) ?_
          refine lv_istore_n (lv' := [(2, .int 0), (0, .ref a_this), (1, .int x1), (3, .int v3)]) hx hb dX10_isFree_44 rfl hl (by decide) rfl (fun ls hl => ?_)
          obtain ⟨v3_1, e_v3_1⟩ : ∃ y : Int32, y = (v3 + 1) := ⟨_, rfl⟩
          have hV := hV v3_1 e_v3_1
          refine lv_iinc (v := v3_1) (lv' := [(3, .int v3_1), (2, .int 0), (0, .ref a_this), (1, .int x1)]) hx hb dX10_isFree_45 hl (k := 3) rfl (by rw [e_v3_1]; rfl) (by decide) rfl (fun ls hl => ?_)
          refine lv_goto (tgt := 8) hx hb dX10_isFree_48 (by decide) ?_
          exact ih8 0 v3_1 _ _ _ hP hS (lv_sub hl [2, 3, 1, 0] rfl) hV
        · have hV := hV.2 h
          refine lv_aload_n hx hb dX10_isFree_22 rfl (lv_at hl 0 rfl) ?_
          refine lv_iload_n hx hb dX10_isFree_23 rfl (lv_at hl 3 rfl) ?_
          refine lv_iload_n hx hb dX10_isFree_24 rfl (lv_at hl 1 rfl) ?_
          refine KVi (As := [.int v3, .int x1]) (rest := []) FX (c_X10_isAbove l D cI cB cS a_this a_all a_has a_few a_sawn a_cut a_todo a_press a_gone v3 x1 f_all _ hV) ok_X10_isAbove im_X10_isAbove se_X10_isAbove li_X10_94 dX10_isFree_25 hK hP hS hA [0, 1] [] 0 rfl rfl rfl (by decide) rfl rfl hl.1 (Nat.le_of_ble_eq_true rfl) ⟨Nat.le_of_ble_eq_true rfl, Nat.le_of_ble_eq_true rfl⟩ ⟨Nat.le_of_ble_eq_true rfl, Nat.le_of_ble_eq_true rfl⟩ (fun r_2 _ H locs hV hP hS => ?_)
          have hP : PD D A [oc a_this 9 [.ref a_all, .ref a_has, .ref a_few, .ref a_sawn, .ref a_cut, .ref a_todo, .ref a_press, .ref a_gone], ai cI a_all 3320 f_all] H := hP
          refine lv_if_eq (tgt := 39) hx hb dX10_isFree_28 (by decide) (fun h => ?_) (fun h => ?_)
          · have hV := hV.1 h
            refine lv_iconst (v := 1) hx hb dX10_isFree_39 (by decide) ?_
            refine lv_goto (tgt := 44) hx hb dX10_isFree_40 (by decide) ?_
            refine lv_istore_n (lv' := [(2, .int 1), (0, .ref a_this), (1, .int x1), (3, .int v3)]) hx hb dX10_isFree_44 rfl hl (by decide) rfl (fun ls hl => ?_)
            obtain ⟨v3_3, e_v3_3⟩ : ∃ y : Int32, y = (v3 + 1) := ⟨_, rfl⟩
            have hV := hV v3_3 e_v3_3
            refine lv_iinc (v := v3_3) (lv' := [(3, .int v3_3), (2, .int 1), (0, .ref a_this), (1, .int x1)]) hx hb dX10_isFree_45 hl (k := 3) rfl (by rw [e_v3_3]; rfl) (by decide) rfl (fun ls hl => ?_)
            refine lv_goto (tgt := 8) hx hb dX10_isFree_48 (by decide) ?_
            exact ih8 1 v3_3 _ _ _ hP hS (lv_sub hl [2, 3, 1, 0] rfl) hV
          · have hV := hV.2 h
            refine lv_aload_n hx hb dX10_isFree_31 rfl (lv_at hl 0 rfl) ?_
            refine lv_iload_n hx hb dX10_isFree_32 rfl (lv_at hl 3 rfl) ?_
            refine KVi (As := [.int v3]) (rest := []) FX (c_X10_stands l D cI cB cS a_this a_all a_has a_few a_sawn a_cut a_todo a_press a_gone v3 f_all _ hV) ok_X10_stands im_X10_stands se_X10_stands li_X10_90 dX10_isFree_33 hK hP hS hA [0, 1] [] 0 rfl rfl rfl (by decide) rfl rfl hl.1 (Nat.le_of_ble_eq_true rfl) ⟨Nat.le_of_ble_eq_true rfl, Nat.le_of_ble_eq_true rfl⟩ ⟨Nat.le_of_ble_eq_true rfl, Nat.le_of_ble_eq_true rfl⟩ (fun r_4 _ H locs hV hP hS => ?_)
            have hP : PD D A [oc a_this 9 [.ref a_all, .ref a_has, .ref a_few, .ref a_sawn, .ref a_cut, .ref a_todo, .ref a_press, .ref a_gone], ai cI a_all 3320 f_all] H := hP
            refine lv_if_ne (tgt := 43) hx hb dX10_isFree_36 (by decide) (fun h => ?_) (fun h => ?_)
            · have hV := hV.2 h
              refine lv_iconst (v := 0) hx hb dX10_isFree_43 (by decide) ?_
              refine lv_istore_n (lv' := [(2, .int 0), (0, .ref a_this), (1, .int x1), (3, .int v3)]) hx hb dX10_isFree_44 rfl hl (by decide) rfl (fun ls hl => ?_)
              obtain ⟨v3_5, e_v3_5⟩ : ∃ y : Int32, y = (v3 + 1) := ⟨_, rfl⟩
              have hV := hV v3_5 e_v3_5
              refine lv_iinc (v := v3_5) (lv' := [(3, .int v3_5), (2, .int 0), (0, .ref a_this), (1, .int x1)]) hx hb dX10_isFree_45 hl (k := 3) rfl (by rw [e_v3_5]; rfl) (by decide) rfl (fun ls hl => ?_)
              refine lv_goto (tgt := 8) hx hb dX10_isFree_48 (by decide) ?_
              exact ih8 0 v3_5 _ _ _ hP hS (lv_sub hl [2, 3, 1, 0] rfl) hV
            · have hV := hV.1 h
              refine lv_iconst (v := 1) hx hb dX10_isFree_39 (by decide) ?_
              refine lv_goto (tgt := 44) hx hb dX10_isFree_40 (by decide) ?_
              refine lv_istore_n (lv' := [(2, .int 1), (0, .ref a_this), (1, .int x1), (3, .int v3)]) hx hb dX10_isFree_44 rfl hl (by decide) rfl (fun ls hl => ?_)
              obtain ⟨v3_6, e_v3_6⟩ : ∃ y : Int32, y = (v3 + 1) := ⟨_, rfl⟩
              have hV := hV v3_6 e_v3_6
              refine lv_iinc (v := v3_6) (lv' := [(3, .int v3_6), (2, .int 1), (0, .ref a_this), (1, .int x1)]) hx hb dX10_isFree_45 hl (k := 3) rfl (by rw [e_v3_6]; rfl) (by decide) rfl (fun ls hl => ?_)
              refine lv_goto (tgt := 8) hx hb dX10_isFree_48 (by decide) ?_
              exact ih8 1 v3_6 _ _ _ hP hS (lv_sub hl [2, 3, 1, 0] rfl) hV
  refine lv_aload_n hx hb dX10_isFree_0 rfl (lv_at hl 0 rfl) ?_
  refine lv_iload_n hx hb dX10_isFree_1 rfl (lv_at hl 1 rfl) ?_
  refine KVi (As := [.int x1]) (rest := []) FX (c_X10_stands l D cI cB cS a_this a_all a_has a_few a_sawn a_cut a_todo a_press a_gone x1 f_all _ hV) ok_X10_stands im_X10_stands se_X10_stands li_X10_90 dX10_isFree_2 hK hP hS hA [0, 1] [] 0 rfl rfl rfl (by decide) rfl rfl hl.1 (Nat.le_of_ble_eq_true rfl) ⟨Nat.le_of_ble_eq_true rfl, Nat.le_of_ble_eq_true rfl⟩ ⟨Nat.le_of_ble_eq_true rfl, Nat.le_of_ble_eq_true rfl⟩ (fun r_7 _ H locs hV hP hS => ?_)
  have hP : PD D A [oc a_this 9 [.ref a_all, .ref a_has, .ref a_few, .ref a_sawn, .ref a_cut, .ref a_todo, .ref a_press, .ref a_gone], ai cI a_all 3320 f_all] H := hP
  refine lv_istore_n (lv' := [(2, .int r_7), (0, .ref a_this), (1, .int x1)]) hx hb dX10_isFree_5 rfl hl (by decide) rfl (fun ls hl => ?_)
  refine lv_iconst (v := 0) hx hb dX10_isFree_6 (by decide) ?_
  refine lv_istore_n (lv' := [(3, .int 0), (2, .int r_7), (0, .ref a_this), (1, .int x1)]) hx hb dX10_isFree_7 rfl hl (by decide) rfl (fun ls hl => ?_)
  obtain ⟨k, hV⟩ := hV
  exact b8 k r_7 0 _ _ _ hP hS (lv_sub hl [2, 3, 1, 0] rfl) hV

def rm_X10_isThere : Room := { frames := 1, cells := 0, slots := 0, locals := 22 }
def P_X10_isThere (x1 : Int32) (f_all : Nat → Int32) (post : Int32 → Prop) : Prop := (vp_in 5 3320 ∧ P_X10_isIn x1 0 ((f_all (5 : Int32).toNatClampNeg) - 1) (fun r_1 => ((r_1 = 0 ∨ r_1 = 1) ∧ post r_1)))
set_option maxRecDepth 100000 in
set_option maxHeartbeats 4000000 in
theorem c_X10_isThere (l : Launch) (D : va_G) (cI cB cS : ClassId) (a_this a_all a_has a_few a_sawn a_cut a_todo a_press a_gone : Nat) (x1 : Int32) (f_all : Nat → Int32) (post : Int32 → Prop) (hV : P_X10_isThere x1 f_all post) : Ci l yX10_isThere cX10_isThere 2 (some .boolean) rm_X10_isThere D cI cB cS [.ref a_this, .int x1] [oc a_this 9 [.ref a_all, .ref a_has, .ref a_few, .ref a_sawn, .ref a_cut, .ref a_todo, .ref a_press, .ref a_gone], ai cI a_all 3320 f_all] (fun r (_ : Unit) => post r) (fun (_ : Unit) => [oc a_this 9 [.ref a_all, .ref a_has, .ref a_few, .ref a_sawn, .ref a_cut, .ref a_todo, .ref a_press, .ref a_gone], ai cI a_all 3320 f_all]) := by
  refine Cz.of ok_X10_isThere (Nat.le_of_ble_eq_true rfl) ?_
  intro p e s m args below meth c A Q hx hb hml hown ht hnm hK hP hA hS hret ls hl
  have hown : s.vm.findClass RX10 = some m.cls := hown
  have FX : CallFix p m c cX10_isThere 2 s args tblG RX10 := ⟨hx, hb, hml, hown, ht⟩
  have hP : PD D A [oc a_this 9 [.ref a_all, .ref a_has, .ref a_few, .ref a_sawn, .ref a_cut, .ref a_todo, .ref a_press, .ref a_gone], ai cI a_all 3320 f_all] s.heap := hP
  have hl : lv_has ls 2 [(0, .ref a_this), (1, .int x1)] := hl
  unfold P_X10_isThere at hV
  refine lv_iload_n hx hb dX10_isThere_0 rfl (lv_at hl 1 rfl) ?_
  refine lv_iconst (v := 0) hx hb dX10_isThere_1 (by decide) ?_
  refine lv_aload_n hx hb dX10_isThere_2 rfl (lv_at hl 0 rfl) ?_
  refine gX10 hx hb ht hown hK hP 0 rfl 0 (by decide) fl_X10_7 (fun _ h => h) rfl dX10_isThere_3 ?_
  refine lv_iconst (v := 5) hx hb dX10_isThere_6 (by decide) ?_
  refine ild hx hb hK hP 1 rfl dX10_isThere_7 hV.1 ?_
  have hV := hV.2
  refine lv_iconst (v := 1) hx hb dX10_isThere_8 (by decide) ?_
  refine lv_isub hx hb dX10_isThere_9 ?_
  refine KSi (As := [.int x1, .int 0, .int ((f_all (5 : Int32).toNatClampNeg) - 1)]) (rest := []) FX (c_X10_isIn l D cI cB cS x1 0 ((f_all (5 : Int32).toNatClampNeg) - 1) _ hV) ok_X10_isIn is_X10_isIn li_X10_42 dX10_isThere_10 hK hP hS hA [] [0, 1] rfl rfl (by decide) rfl hl.1 (Nat.le_of_ble_eq_true rfl) ⟨Nat.le_of_ble_eq_true rfl, Nat.le_of_ble_eq_true rfl⟩ ⟨Nat.le_of_ble_eq_true rfl, Nat.le_of_ble_eq_true rfl⟩ (fun r_1 _ H locs hV hP hS => ?_)
  have hP : PD D A [oc a_this 9 [.ref a_all, .ref a_has, .ref a_few, .ref a_sawn, .ref a_cut, .ref a_todo, .ref a_press, .ref a_gone], ai cI a_all 3320 f_all] H := hP
  exact hret _ _ _ _ _ () hS dX10_isThere_13 hP hV.1 hV.2

def rm_X10_wideOf : Room := { frames := 1, cells := 0, slots := 0, locals := 22 }
def J_X10_wideOf_41 (x1 : Int32) (f_all : Nat → Int32) (post : Int32 → Prop) (s0 : Int32) (s1 : Int32) : Prop := (∀ v2_1 : Int32, v2_1 = (s0 + s1) → P_X10_of x1 2 f_all (fun r_2 => (vp_in 3 3320 ∧ post ((200 * r_2) - (v2_1 * (f_all (3 : Int32).toNatClampNeg))))))
def J_X10_wideOf_14 (x1 : Int32) (f_all : Nat → Int32) (post : Int32 → Prop) (s0 : Int32) : Prop := P_X10_of x1 0 f_all (fun r_3 => P_X10_of x1 2 f_all (fun r_4 => (vp_in 0 3320 ∧ (((f_all (0 : Int32).toNatClampNeg) ≤ (r_3 + r_4) → J_X10_wideOf_41 x1 f_all post s0 0) ∧ (¬ (f_all (0 : Int32).toNatClampNeg) ≤ (r_3 + r_4) → J_X10_wideOf_41 x1 f_all post s0 1)))))
def P_X10_wideOf (x1 : Int32) (f_all : Nat → Int32) (post : Int32 → Prop) : Prop := P_X10_of x1 0 f_all (fun r_5 => ((r_5 ≤ 0 → J_X10_wideOf_14 x1 f_all post 0) ∧ (¬ r_5 ≤ 0 → J_X10_wideOf_14 x1 f_all post 1)))
set_option maxRecDepth 100000 in
set_option maxHeartbeats 4000000 in
theorem c_X10_wideOf (l : Launch) (D : va_G) (cI cB cS : ClassId) (a_this a_all a_has a_few a_sawn a_cut a_todo a_press a_gone : Nat) (x1 : Int32) (f_all : Nat → Int32) (post : Int32 → Prop) (hV : P_X10_wideOf x1 f_all post) : Ci l yX10_wideOf cX10_wideOf 3 (some .int) rm_X10_wideOf D cI cB cS [.ref a_this, .int x1] [oc a_this 9 [.ref a_all, .ref a_has, .ref a_few, .ref a_sawn, .ref a_cut, .ref a_todo, .ref a_press, .ref a_gone], ai cI a_all 3320 f_all] (fun r (_ : Unit) => post r) (fun (_ : Unit) => [oc a_this 9 [.ref a_all, .ref a_has, .ref a_few, .ref a_sawn, .ref a_cut, .ref a_todo, .ref a_press, .ref a_gone], ai cI a_all 3320 f_all]) := by
  refine Ci.of ok_X10_wideOf (Nat.le_of_ble_eq_true rfl) ?_
  intro p e s m args below meth c A Q hx hb hml hown ht hnm hK hP hA hS hret ls hl
  have hown : s.vm.findClass RX10 = some m.cls := hown
  have FX : CallFix p m c cX10_wideOf 3 s args tblG RX10 := ⟨hx, hb, hml, hown, ht⟩
  have hP : PD D A [oc a_this 9 [.ref a_all, .ref a_has, .ref a_few, .ref a_sawn, .ref a_cut, .ref a_todo, .ref a_press, .ref a_gone], ai cI a_all 3320 f_all] s.heap := hP
  have hl : lv_has ls 3 [(0, .ref a_this), (1, .int x1)] := hl
  unfold P_X10_wideOf at hV
  have b41 : ∀ (s0 : Int32) (s1 : Int32) (H : Heap) (locs : List Loc) (ls : Array Slot), PD D A [oc a_this 9 [.ref a_all, .ref a_has, .ref a_few, .ref a_sawn, .ref a_cut, .ref a_todo, .ref a_press, .ref a_gone], ai cI a_all 3320 f_all] H → va_S A s.heap H locs → lv_has ls 3 [(0, .ref a_this), (1, .int x1)] → J_X10_wideOf_41 x1 f_all post s0 s1 → W p l e rm_X10_wideOf s m args below meth c H locs 0 0 Q (F0 m 41 ls [.int s1, .int s0]) := by
    intro s0 s1 H locs ls hP hS hl hV
    unfold J_X10_wideOf_41 at hV
    refine lv_iadd hx hb dX10_wideOf_41 ?_
    refine lv_topi (fun v2_1 e_v2_1 => ?_)
    have hV := hV v2_1 e_v2_1
    refine lv_istore_n (lv' := [(2, .int v2_1), (0, .ref a_this), (1, .int x1)]) hx hb dX10_wideOf_42 rfl hl (by decide) rfl (fun ls hl => ?_)
    refine lv_sipush (v := 200) hx hb dX10_wideOf_43 (by decide) ?_
    refine lv_aload_n hx hb dX10_wideOf_46 rfl (lv_at hl 1 rfl) ?_
    refine lv_iload_n hx hb dX10_wideOf_47 rfl (lv_at hl 2 rfl) ?_
    refine lv_iconst (v := 2) hx hb dX10_wideOf_48 (by decide) ?_
    refine KVi (As := [.int x1, .int 2]) (rest := [.int 200]) FX (c_X10_of l D cI cB cS a_this a_all a_has a_few a_sawn a_cut a_todo a_press a_gone x1 2 f_all _ hV) ok_X10_of im_X10_of se_X10_of li_X10_86 dX10_wideOf_49 hK hP hS hA [0, 1] [] 0 rfl rfl rfl (by decide) rfl rfl hl.1 (Nat.le_of_ble_eq_true rfl) ⟨Nat.le_of_ble_eq_true rfl, Nat.le_of_ble_eq_true rfl⟩ ⟨Nat.le_of_ble_eq_true rfl, Nat.le_of_ble_eq_true rfl⟩ (fun r_2 _ H locs hV hP hS => ?_)
    have hP : PD D A [oc a_this 9 [.ref a_all, .ref a_has, .ref a_few, .ref a_sawn, .ref a_cut, .ref a_todo, .ref a_press, .ref a_gone], ai cI a_all 3320 f_all] H := hP
    refine lv_imul hx hb dX10_wideOf_52 ?_
    refine lv_iload_n hx hb dX10_wideOf_53 rfl (lv_at hl 0 rfl) ?_
    refine lv_aload_n hx hb dX10_wideOf_54 rfl (lv_at hl 1 rfl) ?_
    refine gX10 hx hb ht hown hK hP 0 rfl 0 (by decide) fl_X10_7 (fun _ h => h) rfl dX10_wideOf_55 ?_
    refine lv_iconst (v := 3) hx hb dX10_wideOf_58 (by decide) ?_
    refine ild hx hb hK hP 1 rfl dX10_wideOf_59 hV.1 ?_
    have hV := hV.2
    refine lv_imul hx hb dX10_wideOf_60 ?_
    refine lv_isub hx hb dX10_wideOf_61 ?_
    exact hret _ _ _ _ _ () hS dX10_wideOf_62 hP hV
  have b14 : ∀ (s0 : Int32) (H : Heap) (locs : List Loc) (ls : Array Slot), PD D A [oc a_this 9 [.ref a_all, .ref a_has, .ref a_few, .ref a_sawn, .ref a_cut, .ref a_todo, .ref a_press, .ref a_gone], ai cI a_all 3320 f_all] H → va_S A s.heap H locs → lv_has ls 3 [(0, .ref a_this), (1, .int x1)] → J_X10_wideOf_14 x1 f_all post s0 → W p l e rm_X10_wideOf s m args below meth c H locs 0 0 Q (F0 m 14 ls [.int s0]) := by
    intro s0 H locs ls hP hS hl hV
    unfold J_X10_wideOf_14 at hV
    refine lv_aload_n hx hb dX10_wideOf_14 rfl (lv_at hl 0 rfl) ?_
    refine lv_iload_n hx hb dX10_wideOf_15 rfl (lv_at hl 1 rfl) ?_
    refine lv_iconst (v := 0) hx hb dX10_wideOf_16 (by decide) ?_
    refine KVi (As := [.int x1, .int 0]) (rest := [.int s0]) FX (c_X10_of l D cI cB cS a_this a_all a_has a_few a_sawn a_cut a_todo a_press a_gone x1 0 f_all _ hV) ok_X10_of im_X10_of se_X10_of li_X10_86 dX10_wideOf_17 hK hP hS hA [0, 1] [] 0 rfl rfl rfl (by decide) rfl rfl hl.1 (Nat.le_of_ble_eq_true rfl) ⟨Nat.le_of_ble_eq_true rfl, Nat.le_of_ble_eq_true rfl⟩ ⟨Nat.le_of_ble_eq_true rfl, Nat.le_of_ble_eq_true rfl⟩ (fun r_3 _ H locs hV hP hS => ?_)
    have hP : PD D A [oc a_this 9 [.ref a_all, .ref a_has, .ref a_few, .ref a_sawn, .ref a_cut, .ref a_todo, .ref a_press, .ref a_gone], ai cI a_all 3320 f_all] H := hP
    refine lv_aload_n hx hb dX10_wideOf_20 rfl (lv_at hl 0 rfl) ?_
    refine lv_iload_n hx hb dX10_wideOf_21 rfl (lv_at hl 1 rfl) ?_
    refine lv_iconst (v := 2) hx hb dX10_wideOf_22 (by decide) ?_
    refine KVi (As := [.int x1, .int 2]) (rest := [.int r_3, .int s0]) FX (c_X10_of l D cI cB cS a_this a_all a_has a_few a_sawn a_cut a_todo a_press a_gone x1 2 f_all _ hV) ok_X10_of im_X10_of se_X10_of li_X10_86 dX10_wideOf_23 hK hP hS hA [0, 1] [] 0 rfl rfl rfl (by decide) rfl rfl hl.1 (Nat.le_of_ble_eq_true rfl) ⟨Nat.le_of_ble_eq_true rfl, Nat.le_of_ble_eq_true rfl⟩ ⟨Nat.le_of_ble_eq_true rfl, Nat.le_of_ble_eq_true rfl⟩ (fun r_4 _ H locs hV hP hS => ?_)
    have hP : PD D A [oc a_this 9 [.ref a_all, .ref a_has, .ref a_few, .ref a_sawn, .ref a_cut, .ref a_todo, .ref a_press, .ref a_gone], ai cI a_all 3320 f_all] H := hP
    refine lv_iadd hx hb dX10_wideOf_26 ?_
    refine lv_aload_n hx hb dX10_wideOf_27 rfl (lv_at hl 0 rfl) ?_
    refine gX10 hx hb ht hown hK hP 0 rfl 0 (by decide) fl_X10_7 (fun _ h => h) rfl dX10_wideOf_28 ?_
    refine lv_iconst (v := 0) hx hb dX10_wideOf_31 (by decide) ?_
    refine ild hx hb hK hP 1 rfl dX10_wideOf_32 hV.1 ?_
    have hV := hV.2
    refine lv_icmp_ge (tgt := 40) hx hb dX10_wideOf_33 (by decide) (fun h => ?_) (fun h => ?_)
    · have hV := hV.1 h
      refine lv_iconst (v := 0) hx hb dX10_wideOf_40 (by decide) ?_
      exact b41 s0 0 _ _ _ hP hS hl hV
    · have hV := hV.2 h
      refine lv_iconst (v := 1) hx hb dX10_wideOf_36 (by decide) ?_
      refine lv_goto (tgt := 41) hx hb dX10_wideOf_37 (by decide) ?_
      exact b41 s0 1 _ _ _ hP hS hl hV
  refine lv_aload_n hx hb dX10_wideOf_0 rfl (lv_at hl 0 rfl) ?_
  refine lv_iload_n hx hb dX10_wideOf_1 rfl (lv_at hl 1 rfl) ?_
  refine lv_iconst (v := 0) hx hb dX10_wideOf_2 (by decide) ?_
  refine KVi (As := [.int x1, .int 0]) (rest := []) FX (c_X10_of l D cI cB cS a_this a_all a_has a_few a_sawn a_cut a_todo a_press a_gone x1 0 f_all _ hV) ok_X10_of im_X10_of se_X10_of li_X10_86 dX10_wideOf_3 hK hP hS hA [0, 1] [] 0 rfl rfl rfl (by decide) rfl rfl hl.1 (Nat.le_of_ble_eq_true rfl) ⟨Nat.le_of_ble_eq_true rfl, Nat.le_of_ble_eq_true rfl⟩ ⟨Nat.le_of_ble_eq_true rfl, Nat.le_of_ble_eq_true rfl⟩ (fun r_5 _ H locs hV hP hS => ?_)
  have hP : PD D A [oc a_this 9 [.ref a_all, .ref a_has, .ref a_few, .ref a_sawn, .ref a_cut, .ref a_todo, .ref a_press, .ref a_gone], ai cI a_all 3320 f_all] H := hP
  refine lv_if_le (tgt := 13) hx hb dX10_wideOf_6 (by decide) (fun h => ?_) (fun h => ?_)
  · have hV := hV.1 h
    refine lv_iconst (v := 0) hx hb dX10_wideOf_13 (by decide) ?_
    exact b14 0 _ _ _ hP hS hl hV
  · have hV := hV.2 h
    refine lv_iconst (v := 1) hx hb dX10_wideOf_9 (by decide) ?_
    refine lv_goto (tgt := 14) hx hb dX10_wideOf_10 (by decide) ?_
    exact b14 1 _ _ _ hP hS hl hV

def rm_X10_block : Room := { frames := 3, cells := 0, slots := 0, locals := 67 }
def P_X10_block (x1 : Int32) (x2 : Int32) (f_all : Nat → Int32) (post : Int32 → Prop) : Prop := P_X10_isThere x1 f_all (fun r_1 => ((r_1 = 0 → post (-1)) ∧ (¬ r_1 = 0 → ((x2 = 0 → P_X10_of x1 x2 f_all (fun r_2 => post r_2)) ∧ (¬ x2 = 0 → ((x2 = 1 → P_X10_of x1 x2 f_all (fun r_3 => post r_3)) ∧ (¬ x2 = 1 → ((x2 = 2 → P_X10_of x1 x2 f_all (fun r_4 => post r_4)) ∧ (¬ x2 = 2 → ((x2 = 3 → P_X10_of x1 x2 f_all (fun r_5 => post r_5)) ∧ (¬ x2 = 3 → ((x2 = 4 → P_X10_of x1 0 f_all (fun r_6 => P_X10_of x1 1 f_all (fun r_7 => P_X10_of x1 2 f_all (fun r_8 => P_X10_of x1 3 f_all (fun r_9 => P_X10_weight r_6 r_7 r_8 r_9 f_all (fun r_10 => post r_10)))))) ∧ (¬ x2 = 4 → ((x2 = 5 → P_X10_due x1 f_all (fun r_11 => post r_11)) ∧ (¬ x2 = 5 → ((x2 = 6 → P_X10_of x1 6 f_all (fun r_12 => post r_12)) ∧ (¬ x2 = 6 → ((x2 = 7 → P_X10_stands x1 f_all (fun r_13 => ((r_13 = 0 → post 1) ∧ (¬ r_13 = 0 → post 0)))) ∧ (¬ x2 = 7 → ((x2 = 8 → P_X10_isFree x1 f_all (fun r_14 => ((r_14 = 0 → post 0) ∧ (¬ r_14 = 0 → post 1)))) ∧ (¬ x2 = 8 → ((x2 = 9 → P_X10_of x1 5 f_all (fun r_15 => post r_15)) ∧ (¬ x2 = 9 → ((x2 = 10 → P_X10_wideOf x1 f_all (fun r_16 => post r_16)) ∧ (¬ x2 = 10 → ((x2 = 11 → P_X10_of x1 4 f_all (fun r_17 => post r_17)) ∧ (¬ x2 = 11 → post (-1))))))))))))))))))))))))))))
set_option maxRecDepth 100000 in
set_option maxHeartbeats 4000000 in
theorem c_X10_block (l : Launch) (D : va_G) (cI cB cS : ClassId) (a_this a_all a_has a_few a_sawn a_cut a_todo a_press a_gone : Nat) (x1 : Int32) (x2 : Int32) (f_all : Nat → Int32) (post : Int32 → Prop) (hV : P_X10_block x1 x2 f_all post) : Ci l yX10_block cX10_block 3 (some .int) rm_X10_block D cI cB cS [.ref a_this, .int x1, .int x2] [oc a_this 9 [.ref a_all, .ref a_has, .ref a_few, .ref a_sawn, .ref a_cut, .ref a_todo, .ref a_press, .ref a_gone], ai cI a_all 3320 f_all] (fun r (_ : Unit) => post r) (fun (_ : Unit) => [oc a_this 9 [.ref a_all, .ref a_has, .ref a_few, .ref a_sawn, .ref a_cut, .ref a_todo, .ref a_press, .ref a_gone], ai cI a_all 3320 f_all]) := by
  refine Ci.of ok_X10_block (Nat.le_of_ble_eq_true rfl) ?_
  intro p e s m args below meth c A Q hx hb hml hown ht hnm hK hP hA hS hret ls hl
  have hown : s.vm.findClass RX10 = some m.cls := hown
  have FX : CallFix p m c cX10_block 3 s args tblG RX10 := ⟨hx, hb, hml, hown, ht⟩
  have hP : PD D A [oc a_this 9 [.ref a_all, .ref a_has, .ref a_few, .ref a_sawn, .ref a_cut, .ref a_todo, .ref a_press, .ref a_gone], ai cI a_all 3320 f_all] s.heap := hP
  have hl : lv_has ls 3 [(0, .ref a_this), (1, .int x1), (2, .int x2)] := hl
  unfold P_X10_block at hV
  refine lv_aload_n hx hb dX10_block_0 rfl (lv_at hl 0 rfl) ?_
  refine lv_iload_n hx hb dX10_block_1 rfl (lv_at hl 1 rfl) ?_
  refine KVi (As := [.int x1]) (rest := []) FX (c_X10_isThere l D cI cB cS a_this a_all a_has a_few a_sawn a_cut a_todo a_press a_gone x1 f_all _ hV) ok_X10_isThere im_X10_isThere se_X10_isThere li_X10_97 dX10_block_2 hK hP hS hA [0, 1] [] 0 rfl rfl rfl (by decide) rfl rfl hl.1 (Nat.le_of_ble_eq_true rfl) ⟨Nat.le_of_ble_eq_true rfl, Nat.le_of_ble_eq_true rfl⟩ ⟨Nat.le_of_ble_eq_true rfl, Nat.le_of_ble_eq_true rfl⟩ (fun r_1 _ H locs hV hP hS => ?_)
  have hP : PD D A [oc a_this 9 [.ref a_all, .ref a_has, .ref a_few, .ref a_sawn, .ref a_cut, .ref a_todo, .ref a_press, .ref a_gone], ai cI a_all 3320 f_all] H := hP
  refine lv_if_ne (tgt := 10) hx hb dX10_block_5 (by decide) (fun h => ?_) (fun h => ?_)
  · have hV := hV.2 h
    refine lv_iload_n hx hb dX10_block_10 rfl (lv_at hl 2 rfl) ?_
    by_cases h_c0 : x2 = 0
    · have hV := hV.1 h_c0
      refine lv_tableIn (off := 61) (tgt := 72) hx hb dX10_block_11 (by rw [h_c0]; decide) (by rw [h_c0]; decide) (by rw [h_c0]; rfl) (by decide) ?_
      refine lv_aload_n hx hb dX10_block_72 rfl (lv_at hl 0 rfl) ?_
      refine lv_iload_n hx hb dX10_block_73 rfl (lv_at hl 1 rfl) ?_
      refine lv_iload_n hx hb dX10_block_74 rfl (lv_at hl 2 rfl) ?_
      refine KVi (As := [.int x1, .int x2]) (rest := []) FX (c_X10_of l D cI cB cS a_this a_all a_has a_few a_sawn a_cut a_todo a_press a_gone x1 x2 f_all _ hV) ok_X10_of im_X10_of se_X10_of li_X10_86 dX10_block_75 hK hP hS hA [0, 1] [] 0 rfl rfl rfl (by decide) rfl rfl hl.1 (Nat.le_of_ble_eq_true rfl) ⟨Nat.le_of_ble_eq_true rfl, Nat.le_of_ble_eq_true rfl⟩ ⟨Nat.le_of_ble_eq_true rfl, Nat.le_of_ble_eq_true rfl⟩ (fun r_2 _ H locs hV hP hS => ?_)
      have hP : PD D A [oc a_this 9 [.ref a_all, .ref a_has, .ref a_few, .ref a_sawn, .ref a_cut, .ref a_todo, .ref a_press, .ref a_gone], ai cI a_all 3320 f_all] H := hP
      exact hret _ _ _ _ _ () hS dX10_block_78 hP hV
    · have hV := hV.2 h_c0
      have h_c0 : ¬ x2 = nI 0 := h_c0
      by_cases h_c1 : x2 = 1
      · have hV := hV.1 h_c1
        refine lv_tableIn (off := 61) (tgt := 72) hx hb dX10_block_11 (by rw [h_c1]; decide) (by rw [h_c1]; decide) (by rw [h_c1]; rfl) (by decide) ?_
        refine lv_aload_n hx hb dX10_block_72 rfl (lv_at hl 0 rfl) ?_
        refine lv_iload_n hx hb dX10_block_73 rfl (lv_at hl 1 rfl) ?_
        refine lv_iload_n hx hb dX10_block_74 rfl (lv_at hl 2 rfl) ?_
        refine KVi (As := [.int x1, .int x2]) (rest := []) FX (c_X10_of l D cI cB cS a_this a_all a_has a_few a_sawn a_cut a_todo a_press a_gone x1 x2 f_all _ hV) ok_X10_of im_X10_of se_X10_of li_X10_86 dX10_block_75 hK hP hS hA [0, 1] [] 0 rfl rfl rfl (by decide) rfl rfl hl.1 (Nat.le_of_ble_eq_true rfl) ⟨Nat.le_of_ble_eq_true rfl, Nat.le_of_ble_eq_true rfl⟩ ⟨Nat.le_of_ble_eq_true rfl, Nat.le_of_ble_eq_true rfl⟩ (fun r_3 _ H locs hV hP hS => ?_)
        have hP : PD D A [oc a_this 9 [.ref a_all, .ref a_has, .ref a_few, .ref a_sawn, .ref a_cut, .ref a_todo, .ref a_press, .ref a_gone], ai cI a_all 3320 f_all] H := hP
        exact hret _ _ _ _ _ () hS dX10_block_78 hP hV
      · have hV := hV.2 h_c1
        have h_c1 : ¬ x2 = nI 1 := h_c1
        by_cases h_c2 : x2 = 2
        · have hV := hV.1 h_c2
          refine lv_tableIn (off := 61) (tgt := 72) hx hb dX10_block_11 (by rw [h_c2]; decide) (by rw [h_c2]; decide) (by rw [h_c2]; rfl) (by decide) ?_
          refine lv_aload_n hx hb dX10_block_72 rfl (lv_at hl 0 rfl) ?_
          refine lv_iload_n hx hb dX10_block_73 rfl (lv_at hl 1 rfl) ?_
          refine lv_iload_n hx hb dX10_block_74 rfl (lv_at hl 2 rfl) ?_
          refine KVi (As := [.int x1, .int x2]) (rest := []) FX (c_X10_of l D cI cB cS a_this a_all a_has a_few a_sawn a_cut a_todo a_press a_gone x1 x2 f_all _ hV) ok_X10_of im_X10_of se_X10_of li_X10_86 dX10_block_75 hK hP hS hA [0, 1] [] 0 rfl rfl rfl (by decide) rfl rfl hl.1 (Nat.le_of_ble_eq_true rfl) ⟨Nat.le_of_ble_eq_true rfl, Nat.le_of_ble_eq_true rfl⟩ ⟨Nat.le_of_ble_eq_true rfl, Nat.le_of_ble_eq_true rfl⟩ (fun r_4 _ H locs hV hP hS => ?_)
          have hP : PD D A [oc a_this 9 [.ref a_all, .ref a_has, .ref a_few, .ref a_sawn, .ref a_cut, .ref a_todo, .ref a_press, .ref a_gone], ai cI a_all 3320 f_all] H := hP
          exact hret _ _ _ _ _ () hS dX10_block_78 hP hV
        · have hV := hV.2 h_c2
          have h_c2 : ¬ x2 = nI 2 := h_c2
          by_cases h_c3 : x2 = 3
          · have hV := hV.1 h_c3
            refine lv_tableIn (off := 61) (tgt := 72) hx hb dX10_block_11 (by rw [h_c3]; decide) (by rw [h_c3]; decide) (by rw [h_c3]; rfl) (by decide) ?_
            refine lv_aload_n hx hb dX10_block_72 rfl (lv_at hl 0 rfl) ?_
            refine lv_iload_n hx hb dX10_block_73 rfl (lv_at hl 1 rfl) ?_
            refine lv_iload_n hx hb dX10_block_74 rfl (lv_at hl 2 rfl) ?_
            refine KVi (As := [.int x1, .int x2]) (rest := []) FX (c_X10_of l D cI cB cS a_this a_all a_has a_few a_sawn a_cut a_todo a_press a_gone x1 x2 f_all _ hV) ok_X10_of im_X10_of se_X10_of li_X10_86 dX10_block_75 hK hP hS hA [0, 1] [] 0 rfl rfl rfl (by decide) rfl rfl hl.1 (Nat.le_of_ble_eq_true rfl) ⟨Nat.le_of_ble_eq_true rfl, Nat.le_of_ble_eq_true rfl⟩ ⟨Nat.le_of_ble_eq_true rfl, Nat.le_of_ble_eq_true rfl⟩ (fun r_5 _ H locs hV hP hS => ?_)
            have hP : PD D A [oc a_this 9 [.ref a_all, .ref a_has, .ref a_few, .ref a_sawn, .ref a_cut, .ref a_todo, .ref a_press, .ref a_gone], ai cI a_all 3320 f_all] H := hP
            exact hret _ _ _ _ _ () hS dX10_block_78 hP hV
          · have hV := hV.2 h_c3
            have h_c3 : ¬ x2 = nI 3 := h_c3
            by_cases h_c4 : x2 = 4
            · have hV := hV.1 h_c4
              refine lv_tableIn (off := 68) (tgt := 79) hx hb dX10_block_11 (by rw [h_c4]; decide) (by rw [h_c4]; decide) (by rw [h_c4]; rfl) (by decide) ?_
              refine lv_aload_n hx hb dX10_block_79 rfl (lv_at hl 0 rfl) ?_
              refine lv_aload_n hx hb dX10_block_80 rfl (lv_at hl 0 rfl) ?_
              refine lv_iload_n hx hb dX10_block_81 rfl (lv_at hl 1 rfl) ?_
              refine lv_iconst (v := 0) hx hb dX10_block_82 (by decide) ?_
              refine KVi (As := [.int x1, .int 0]) (rest := [.ref a_this]) FX (c_X10_of l D cI cB cS a_this a_all a_has a_few a_sawn a_cut a_todo a_press a_gone x1 0 f_all _ hV) ok_X10_of im_X10_of se_X10_of li_X10_86 dX10_block_83 hK hP hS hA [0, 1] [] 0 rfl rfl rfl (by decide) rfl rfl hl.1 (Nat.le_of_ble_eq_true rfl) ⟨Nat.le_of_ble_eq_true rfl, Nat.le_of_ble_eq_true rfl⟩ ⟨Nat.le_of_ble_eq_true rfl, Nat.le_of_ble_eq_true rfl⟩ (fun r_6 _ H locs hV hP hS => ?_)
              have hP : PD D A [oc a_this 9 [.ref a_all, .ref a_has, .ref a_few, .ref a_sawn, .ref a_cut, .ref a_todo, .ref a_press, .ref a_gone], ai cI a_all 3320 f_all] H := hP
              refine lv_aload_n hx hb dX10_block_86 rfl (lv_at hl 0 rfl) ?_
              refine lv_iload_n hx hb dX10_block_87 rfl (lv_at hl 1 rfl) ?_
              refine lv_iconst (v := 1) hx hb dX10_block_88 (by decide) ?_
              refine KVi (As := [.int x1, .int 1]) (rest := [.int r_6, .ref a_this]) FX (c_X10_of l D cI cB cS a_this a_all a_has a_few a_sawn a_cut a_todo a_press a_gone x1 1 f_all _ hV) ok_X10_of im_X10_of se_X10_of li_X10_86 dX10_block_89 hK hP hS hA [0, 1] [] 0 rfl rfl rfl (by decide) rfl rfl hl.1 (Nat.le_of_ble_eq_true rfl) ⟨Nat.le_of_ble_eq_true rfl, Nat.le_of_ble_eq_true rfl⟩ ⟨Nat.le_of_ble_eq_true rfl, Nat.le_of_ble_eq_true rfl⟩ (fun r_7 _ H locs hV hP hS => ?_)
              have hP : PD D A [oc a_this 9 [.ref a_all, .ref a_has, .ref a_few, .ref a_sawn, .ref a_cut, .ref a_todo, .ref a_press, .ref a_gone], ai cI a_all 3320 f_all] H := hP
              refine lv_aload_n hx hb dX10_block_92 rfl (lv_at hl 0 rfl) ?_
              refine lv_iload_n hx hb dX10_block_93 rfl (lv_at hl 1 rfl) ?_
              refine lv_iconst (v := 2) hx hb dX10_block_94 (by decide) ?_
              refine KVi (As := [.int x1, .int 2]) (rest := [.int r_7, .int r_6, .ref a_this]) FX (c_X10_of l D cI cB cS a_this a_all a_has a_few a_sawn a_cut a_todo a_press a_gone x1 2 f_all _ hV) ok_X10_of im_X10_of se_X10_of li_X10_86 dX10_block_95 hK hP hS hA [0, 1] [] 0 rfl rfl rfl (by decide) rfl rfl hl.1 (Nat.le_of_ble_eq_true rfl) ⟨Nat.le_of_ble_eq_true rfl, Nat.le_of_ble_eq_true rfl⟩ ⟨Nat.le_of_ble_eq_true rfl, Nat.le_of_ble_eq_true rfl⟩ (fun r_8 _ H locs hV hP hS => ?_)
              have hP : PD D A [oc a_this 9 [.ref a_all, .ref a_has, .ref a_few, .ref a_sawn, .ref a_cut, .ref a_todo, .ref a_press, .ref a_gone], ai cI a_all 3320 f_all] H := hP
              refine lv_aload_n hx hb dX10_block_98 rfl (lv_at hl 0 rfl) ?_
              refine lv_iload_n hx hb dX10_block_99 rfl (lv_at hl 1 rfl) ?_
              refine lv_iconst (v := 3) hx hb dX10_block_100 (by decide) ?_
              refine KVi (As := [.int x1, .int 3]) (rest := [.int r_8, .int r_7, .int r_6, .ref a_this]) FX (c_X10_of l D cI cB cS a_this a_all a_has a_few a_sawn a_cut a_todo a_press a_gone x1 3 f_all _ hV) ok_X10_of im_X10_of se_X10_of li_X10_86 dX10_block_101 hK hP hS hA [0, 1] [] 0 rfl rfl rfl (by decide) rfl rfl hl.1 (Nat.le_of_ble_eq_true rfl) ⟨Nat.le_of_ble_eq_true rfl, Nat.le_of_ble_eq_true rfl⟩ ⟨Nat.le_of_ble_eq_true rfl, Nat.le_of_ble_eq_true rfl⟩ (fun r_9 _ H locs hV hP hS => ?_)
              have hP : PD D A [oc a_this 9 [.ref a_all, .ref a_has, .ref a_few, .ref a_sawn, .ref a_cut, .ref a_todo, .ref a_press, .ref a_gone], ai cI a_all 3320 f_all] H := hP
              refine KVi (As := [.int r_6, .int r_7, .int r_8, .int r_9]) (rest := []) FX (c_X10_weight l D cI cB cS a_this a_all a_has a_few a_sawn a_cut a_todo a_press a_gone r_6 r_7 r_8 r_9 f_all _ hV) ok_X10_weight im_X10_weight se_X10_weight li_X10_57 dX10_block_104 hK hP hS hA [0, 1] [] 0 rfl rfl rfl (by decide) rfl rfl hl.1 (Nat.le_of_ble_eq_true rfl) ⟨Nat.le_of_ble_eq_true rfl, Nat.le_of_ble_eq_true rfl⟩ ⟨Nat.le_of_ble_eq_true rfl, Nat.le_of_ble_eq_true rfl⟩ (fun r_10 _ H locs hV hP hS => ?_)
              have hP : PD D A [oc a_this 9 [.ref a_all, .ref a_has, .ref a_few, .ref a_sawn, .ref a_cut, .ref a_todo, .ref a_press, .ref a_gone], ai cI a_all 3320 f_all] H := hP
              exact hret _ _ _ _ _ () hS dX10_block_107 hP hV
            · have hV := hV.2 h_c4
              have h_c4 : ¬ x2 = nI 4 := h_c4
              by_cases h_c5 : x2 = 5
              · have hV := hV.1 h_c5
                refine lv_tableIn (off := 97) (tgt := 108) hx hb dX10_block_11 (by rw [h_c5]; decide) (by rw [h_c5]; decide) (by rw [h_c5]; rfl) (by decide) ?_
                refine lv_aload_n hx hb dX10_block_108 rfl (lv_at hl 0 rfl) ?_
                refine lv_iload_n hx hb dX10_block_109 rfl (lv_at hl 1 rfl) ?_
                refine KVi (As := [.int x1]) (rest := []) FX (c_X10_due l D cI cB cS a_this a_all a_has a_few a_sawn a_cut a_todo a_press a_gone x1 f_all _ hV) ok_X10_due im_X10_due se_X10_due li_X10_100 dX10_block_110 hK hP hS hA [0, 1] [] 0 rfl rfl rfl (by decide) rfl rfl hl.1 (Nat.le_of_ble_eq_true rfl) ⟨Nat.le_of_ble_eq_true rfl, Nat.le_of_ble_eq_true rfl⟩ ⟨Nat.le_of_ble_eq_true rfl, Nat.le_of_ble_eq_true rfl⟩ (fun r_11 _ H locs hV hP hS => ?_)
                have hP : PD D A [oc a_this 9 [.ref a_all, .ref a_has, .ref a_few, .ref a_sawn, .ref a_cut, .ref a_todo, .ref a_press, .ref a_gone], ai cI a_all 3320 f_all] H := hP
                exact hret _ _ _ _ _ () hS dX10_block_113 hP hV
              · have hV := hV.2 h_c5
                have h_c5 : ¬ x2 = nI 5 := h_c5
                by_cases h_c6 : x2 = 6
                · have hV := hV.1 h_c6
                  refine lv_tableIn (off := 103) (tgt := 114) hx hb dX10_block_11 (by rw [h_c6]; decide) (by rw [h_c6]; decide) (by rw [h_c6]; rfl) (by decide) ?_
                  refine lv_aload_n hx hb dX10_block_114 rfl (lv_at hl 0 rfl) ?_
                  refine lv_iload_n hx hb dX10_block_115 rfl (lv_at hl 1 rfl) ?_
                  refine lv_bipush (v := 6) hx hb dX10_block_116 (by decide) ?_
                  refine KVi (As := [.int x1, .int 6]) (rest := []) FX (c_X10_of l D cI cB cS a_this a_all a_has a_few a_sawn a_cut a_todo a_press a_gone x1 6 f_all _ hV) ok_X10_of im_X10_of se_X10_of li_X10_86 dX10_block_118 hK hP hS hA [0, 1] [] 0 rfl rfl rfl (by decide) rfl rfl hl.1 (Nat.le_of_ble_eq_true rfl) ⟨Nat.le_of_ble_eq_true rfl, Nat.le_of_ble_eq_true rfl⟩ ⟨Nat.le_of_ble_eq_true rfl, Nat.le_of_ble_eq_true rfl⟩ (fun r_12 _ H locs hV hP hS => ?_)
                  have hP : PD D A [oc a_this 9 [.ref a_all, .ref a_has, .ref a_few, .ref a_sawn, .ref a_cut, .ref a_todo, .ref a_press, .ref a_gone], ai cI a_all 3320 f_all] H := hP
                  exact hret _ _ _ _ _ () hS dX10_block_121 hP hV
                · have hV := hV.2 h_c6
                  have h_c6 : ¬ x2 = nI 6 := h_c6
                  by_cases h_c7 : x2 = 7
                  · have hV := hV.1 h_c7
                    refine lv_tableIn (off := 111) (tgt := 122) hx hb dX10_block_11 (by rw [h_c7]; decide) (by rw [h_c7]; decide) (by rw [h_c7]; rfl) (by decide) ?_
                    refine lv_aload_n hx hb dX10_block_122 rfl (lv_at hl 0 rfl) ?_
                    refine lv_iload_n hx hb dX10_block_123 rfl (lv_at hl 1 rfl) ?_
                    refine KVi (As := [.int x1]) (rest := []) FX (c_X10_stands l D cI cB cS a_this a_all a_has a_few a_sawn a_cut a_todo a_press a_gone x1 f_all _ hV) ok_X10_stands im_X10_stands se_X10_stands li_X10_90 dX10_block_124 hK hP hS hA [0, 1] [] 0 rfl rfl rfl (by decide) rfl rfl hl.1 (Nat.le_of_ble_eq_true rfl) ⟨Nat.le_of_ble_eq_true rfl, Nat.le_of_ble_eq_true rfl⟩ ⟨Nat.le_of_ble_eq_true rfl, Nat.le_of_ble_eq_true rfl⟩ (fun r_13 _ H locs hV hP hS => ?_)
                    have hP : PD D A [oc a_this 9 [.ref a_all, .ref a_has, .ref a_few, .ref a_sawn, .ref a_cut, .ref a_todo, .ref a_press, .ref a_gone], ai cI a_all 3320 f_all] H := hP
                    refine lv_if_eq (tgt := 134) hx hb dX10_block_127 (by decide) (fun h => ?_) (fun h => ?_)
                    · have hV := hV.1 h
                      refine lv_iconst (v := 1) hx hb dX10_block_134 (by decide) ?_
                      exact hret _ _ _ _ _ () hS dX10_block_135 hP hV
                    · have hV := hV.2 h
                      refine lv_iconst (v := 0) hx hb dX10_block_130 (by decide) ?_
                      refine lv_goto (tgt := 135) hx hb dX10_block_131 (by decide) ?_
                      exact hret _ _ _ _ _ () hS dX10_block_135 hP hV
                  · have hV := hV.2 h_c7
                    have h_c7 : ¬ x2 = nI 7 := h_c7
                    by_cases h_c8 : x2 = 8
                    · have hV := hV.1 h_c8
                      refine lv_tableIn (off := 125) (tgt := 136) hx hb dX10_block_11 (by rw [h_c8]; decide) (by rw [h_c8]; decide) (by rw [h_c8]; rfl) (by decide) ?_
                      refine lv_aload_n hx hb dX10_block_136 rfl (lv_at hl 0 rfl) ?_
                      refine lv_iload_n hx hb dX10_block_137 rfl (lv_at hl 1 rfl) ?_
                      refine KVi (As := [.int x1]) (rest := []) FX (c_X10_isFree l D cI cB cS a_this a_all a_has a_few a_sawn a_cut a_todo a_press a_gone x1 f_all _ hV) ok_X10_isFree im_X10_isFree se_X10_isFree li_X10_103 dX10_block_138 hK hP hS hA [0, 1] [] 0 rfl rfl rfl (by decide) rfl rfl hl.1 (Nat.le_of_ble_eq_true rfl) ⟨Nat.le_of_ble_eq_true rfl, Nat.le_of_ble_eq_true rfl⟩ ⟨Nat.le_of_ble_eq_true rfl, Nat.le_of_ble_eq_true rfl⟩ (fun r_14 _ H locs hV hP hS => ?_)
                      have hP : PD D A [oc a_this 9 [.ref a_all, .ref a_has, .ref a_few, .ref a_sawn, .ref a_cut, .ref a_todo, .ref a_press, .ref a_gone], ai cI a_all 3320 f_all] H := hP
                      refine lv_if_eq (tgt := 148) hx hb dX10_block_141 (by decide) (fun h => ?_) (fun h => ?_)
                      · have hV := hV.1 h
                        refine lv_iconst (v := 0) hx hb dX10_block_148 (by decide) ?_
                        exact hret _ _ _ _ _ () hS dX10_block_149 hP hV
                      · have hV := hV.2 h
                        refine lv_iconst (v := 1) hx hb dX10_block_144 (by decide) ?_
                        refine lv_goto (tgt := 149) hx hb dX10_block_145 (by decide) ?_
                        exact hret _ _ _ _ _ () hS dX10_block_149 hP hV
                    · have hV := hV.2 h_c8
                      have h_c8 : ¬ x2 = nI 8 := h_c8
                      by_cases h_c9 : x2 = 9
                      · have hV := hV.1 h_c9
                        refine lv_tableIn (off := 139) (tgt := 150) hx hb dX10_block_11 (by rw [h_c9]; decide) (by rw [h_c9]; decide) (by rw [h_c9]; rfl) (by decide) ?_
                        refine lv_aload_n hx hb dX10_block_150 rfl (lv_at hl 0 rfl) ?_
                        refine lv_iload_n hx hb dX10_block_151 rfl (lv_at hl 1 rfl) ?_
                        refine lv_iconst (v := 5) hx hb dX10_block_152 (by decide) ?_
                        refine KVi (As := [.int x1, .int 5]) (rest := []) FX (c_X10_of l D cI cB cS a_this a_all a_has a_few a_sawn a_cut a_todo a_press a_gone x1 5 f_all _ hV) ok_X10_of im_X10_of se_X10_of li_X10_86 dX10_block_153 hK hP hS hA [0, 1] [] 0 rfl rfl rfl (by decide) rfl rfl hl.1 (Nat.le_of_ble_eq_true rfl) ⟨Nat.le_of_ble_eq_true rfl, Nat.le_of_ble_eq_true rfl⟩ ⟨Nat.le_of_ble_eq_true rfl, Nat.le_of_ble_eq_true rfl⟩ (fun r_15 _ H locs hV hP hS => ?_)
                        have hP : PD D A [oc a_this 9 [.ref a_all, .ref a_has, .ref a_few, .ref a_sawn, .ref a_cut, .ref a_todo, .ref a_press, .ref a_gone], ai cI a_all 3320 f_all] H := hP
                        exact hret _ _ _ _ _ () hS dX10_block_156 hP hV
                      · have hV := hV.2 h_c9
                        have h_c9 : ¬ x2 = nI 9 := h_c9
                        by_cases h_c10 : x2 = 10
                        · have hV := hV.1 h_c10
                          refine lv_tableIn (off := 146) (tgt := 157) hx hb dX10_block_11 (by rw [h_c10]; decide) (by rw [h_c10]; decide) (by rw [h_c10]; rfl) (by decide) ?_
                          refine lv_aload_n hx hb dX10_block_157 rfl (lv_at hl 0 rfl) ?_
                          refine lv_iload_n hx hb dX10_block_158 rfl (lv_at hl 1 rfl) ?_
                          refine KVi (As := [.int x1]) (rest := []) FX (c_X10_wideOf l D cI cB cS a_this a_all a_has a_few a_sawn a_cut a_todo a_press a_gone x1 f_all _ hV) ok_X10_wideOf im_X10_wideOf se_X10_wideOf li_X10_106 dX10_block_159 hK hP hS hA [0, 1] [] 0 rfl rfl rfl (by decide) rfl rfl hl.1 (Nat.le_of_ble_eq_true rfl) ⟨Nat.le_of_ble_eq_true rfl, Nat.le_of_ble_eq_true rfl⟩ ⟨Nat.le_of_ble_eq_true rfl, Nat.le_of_ble_eq_true rfl⟩ (fun r_16 _ H locs hV hP hS => ?_)
                          have hP : PD D A [oc a_this 9 [.ref a_all, .ref a_has, .ref a_few, .ref a_sawn, .ref a_cut, .ref a_todo, .ref a_press, .ref a_gone], ai cI a_all 3320 f_all] H := hP
                          exact hret _ _ _ _ _ () hS dX10_block_162 hP hV
                        · have hV := hV.2 h_c10
                          have h_c10 : ¬ x2 = nI 10 := h_c10
                          by_cases h_c11 : x2 = 11
                          · have hV := hV.1 h_c11
                            refine lv_tableIn (off := 152) (tgt := 163) hx hb dX10_block_11 (by rw [h_c11]; decide) (by rw [h_c11]; decide) (by rw [h_c11]; rfl) (by decide) ?_
                            refine lv_aload_n hx hb dX10_block_163 rfl (lv_at hl 0 rfl) ?_
                            refine lv_iload_n hx hb dX10_block_164 rfl (lv_at hl 1 rfl) ?_
                            refine lv_iconst (v := 4) hx hb dX10_block_165 (by decide) ?_
                            refine KVi (As := [.int x1, .int 4]) (rest := []) FX (c_X10_of l D cI cB cS a_this a_all a_has a_few a_sawn a_cut a_todo a_press a_gone x1 4 f_all _ hV) ok_X10_of im_X10_of se_X10_of li_X10_86 dX10_block_166 hK hP hS hA [0, 1] [] 0 rfl rfl rfl (by decide) rfl rfl hl.1 (Nat.le_of_ble_eq_true rfl) ⟨Nat.le_of_ble_eq_true rfl, Nat.le_of_ble_eq_true rfl⟩ ⟨Nat.le_of_ble_eq_true rfl, Nat.le_of_ble_eq_true rfl⟩ (fun r_17 _ H locs hV hP hS => ?_)
                            have hP : PD D A [oc a_this 9 [.ref a_all, .ref a_has, .ref a_few, .ref a_sawn, .ref a_cut, .ref a_todo, .ref a_press, .ref a_gone], ai cI a_all 3320 f_all] H := hP
                            exact hret _ _ _ _ _ () hS dX10_block_169 hP hV
                          · have hV := hV.2 h_c11
                            have h_c11 : ¬ x2 = nI 11 := h_c11
                            refine lv_tableOut (tgt := 170) hx hb dX10_block_11 (sw_out x2 11 (by decide) (fun k hk => by rcases (show k = 0 ∨ k = 1 ∨ k = 2 ∨ k = 3 ∨ k = 4 ∨ k = 5 ∨ k = 6 ∨ k = 7 ∨ k = 8 ∨ k = 9 ∨ k = 10 ∨ k = 11 by omega) with rfl | rfl | rfl | rfl | rfl | rfl | rfl | rfl | rfl | rfl | rfl | rfl <;> assumption)) (by decide) ?_
                            refine lv_iconst (v := (-1)) hx hb dX10_block_170 (by decide) ?_
                            exact hret _ _ _ _ _ () hS dX10_block_171 hP hV
  · have hV := hV.1 h
    refine lv_iconst (v := (-1)) hx hb dX10_block_8 (by decide) ?_
    exact hret _ _ _ _ _ () hS dX10_block_9 hP hV

def rm_X10_at : Room := { frames := 1, cells := 0, slots := 0, locals := 22 }
def V_X10_at_2 (x1 : Int32) (x2 : Int32) (f_all : Nat → Int32) (post : Int32 → Prop) : Nat → Int32 → Prop
  | 0, _ => False
  | n + 1, v3 => (vp_in 5 3320 ∧ (((f_all (5 : Int32).toNatClampNeg) ≤ v3 → post (-1)) ∧ (¬ (f_all (5 : Int32).toNatClampNeg) ≤ v3 → P_X10_of v3 0 f_all (fun r_1 => P_X10_of v3 0 f_all (fun r_2 => P_X10_of v3 2 f_all (fun r_3 => P_X10_isIn x1 r_1 ((r_2 + r_3) - 1) (fun r_4 => ((r_4 = 0 → (∀ v3_5 : Int32, v3_5 = (v3 + 1) → V_X10_at_2 x1 x2 f_all post n v3_5)) ∧ (¬ r_4 = 0 → P_X10_of v3 1 f_all (fun r_6 => P_X10_of v3 1 f_all (fun r_7 => P_X10_of v3 3 f_all (fun r_8 => P_X10_isIn x2 r_6 ((r_7 + r_8) - 1) (fun r_9 => ((r_9 = 0 → (∀ v3_10 : Int32, v3_10 = (v3 + 1) → V_X10_at_2 x1 x2 f_all post n v3_10)) ∧ (¬ r_9 = 0 → post v3)))))))))))))))
theorem V_X10_at_2_s (x1 : Int32) (x2 : Int32) (f_all : Nat → Int32) (post : Int32 → Prop) (n : Nat) (v3 : Int32) : V_X10_at_2 x1 x2 f_all post (n + 1) v3 = ((vp_in 5 3320 ∧ (((f_all (5 : Int32).toNatClampNeg) ≤ v3 → post (-1)) ∧ (¬ (f_all (5 : Int32).toNatClampNeg) ≤ v3 → P_X10_of v3 0 f_all (fun r_1 => P_X10_of v3 0 f_all (fun r_2 => P_X10_of v3 2 f_all (fun r_3 => P_X10_isIn x1 r_1 ((r_2 + r_3) - 1) (fun r_4 => ((r_4 = 0 → (∀ v3_5 : Int32, v3_5 = (v3 + 1) → V_X10_at_2 x1 x2 f_all post n v3_5)) ∧ (¬ r_4 = 0 → P_X10_of v3 1 f_all (fun r_6 => P_X10_of v3 1 f_all (fun r_7 => P_X10_of v3 3 f_all (fun r_8 => P_X10_isIn x2 r_6 ((r_7 + r_8) - 1) (fun r_9 => ((r_9 = 0 → (∀ v3_10 : Int32, v3_10 = (v3 + 1) → V_X10_at_2 x1 x2 f_all post n v3_10)) ∧ (¬ r_9 = 0 → post v3)))))))))))))))) := rfl
def P_X10_at (x1 : Int32) (x2 : Int32) (f_all : Nat → Int32) (post : Int32 → Prop) : Prop := (∃ k : Nat, V_X10_at_2 x1 x2 f_all post k 0)
set_option maxRecDepth 100000 in
set_option maxHeartbeats 4000000 in
theorem c_X10_at (l : Launch) (D : va_G) (cI cB cS : ClassId) (a_this a_all a_has a_few a_sawn a_cut a_todo a_press a_gone : Nat) (x1 : Int32) (x2 : Int32) (f_all : Nat → Int32) (post : Int32 → Prop) (hV : P_X10_at x1 x2 f_all post) : Ci l yX10_at cX10_at 4 (some .int) rm_X10_at D cI cB cS [.ref a_this, .int x1, .int x2] [oc a_this 9 [.ref a_all, .ref a_has, .ref a_few, .ref a_sawn, .ref a_cut, .ref a_todo, .ref a_press, .ref a_gone], ai cI a_all 3320 f_all] (fun r (_ : Unit) => post r) (fun (_ : Unit) => [oc a_this 9 [.ref a_all, .ref a_has, .ref a_few, .ref a_sawn, .ref a_cut, .ref a_todo, .ref a_press, .ref a_gone], ai cI a_all 3320 f_all]) := by
  refine Ci.of ok_X10_at (Nat.le_of_ble_eq_true rfl) ?_
  intro p e s m args below meth c A Q hx hb hml hown ht hnm hK hP hA hS hret ls hl
  have hown : s.vm.findClass RX10 = some m.cls := hown
  have FX : CallFix p m c cX10_at 4 s args tblG RX10 := ⟨hx, hb, hml, hown, ht⟩
  have hP : PD D A [oc a_this 9 [.ref a_all, .ref a_has, .ref a_few, .ref a_sawn, .ref a_cut, .ref a_todo, .ref a_press, .ref a_gone], ai cI a_all 3320 f_all] s.heap := hP
  have hl : lv_has ls 4 [(0, .ref a_this), (1, .int x1), (2, .int x2)] := hl
  unfold P_X10_at at hV
  have b2 : ∀  (k2 : Nat) (v3 : Int32) (H : Heap) (locs : List Loc) (ls : Array Slot), PD D A [oc a_this 9 [.ref a_all, .ref a_has, .ref a_few, .ref a_sawn, .ref a_cut, .ref a_todo, .ref a_press, .ref a_gone], ai cI a_all 3320 f_all] H → va_S A s.heap H locs → lv_has ls 4 [(0, .ref a_this), (1, .int x1), (2, .int x2), (3, .int v3)] → V_X10_at_2 x1 x2 f_all post k2 v3 → W p l e rm_X10_at s m args below meth c H locs 0 0 Q (F0 m 2 ls []) := by
    intro  k2
    induction k2 with
    | zero => intro v3 H locs ls hP hS hl hV; exact False.elim hV
    | succ k2 ih2 =>
      intro v3 H locs ls hP hS hl hV
      rw [V_X10_at_2_s] at hV
      refine lv_iload_n hx hb dX10_at_2 rfl (lv_at hl 3 rfl) ?_
      refine lv_aload_n hx hb dX10_at_3 rfl (lv_at hl 0 rfl) ?_
      refine gX10 hx hb ht hown hK hP 0 rfl 0 (by decide) fl_X10_7 (fun _ h => h) rfl dX10_at_4 ?_
      refine lv_iconst (v := 5) hx hb dX10_at_7 (by decide) ?_
      refine ild hx hb hK hP 1 rfl dX10_at_8 hV.1 ?_
      have hV := hV.2
      refine lv_icmp_ge (tgt := 76) hx hb dX10_at_9 (by decide) (fun h => ?_) (fun h => ?_)
      · have hV := hV.1 h
        refine lv_iconst (v := (-1)) hx hb dX10_at_76 (by decide) ?_
        exact hret _ _ _ _ _ () hS dX10_at_77 hP hV
      · have hV := hV.2 h
        refine lv_iload_n hx hb dX10_at_12 rfl (lv_at hl 1 rfl) ?_
        refine lv_aload_n hx hb dX10_at_13 rfl (lv_at hl 0 rfl) ?_
        refine lv_iload_n hx hb dX10_at_14 rfl (lv_at hl 3 rfl) ?_
        refine lv_iconst (v := 0) hx hb dX10_at_15 (by decide) ?_
        refine KVi (As := [.int v3, .int 0]) (rest := [.int x1]) FX (c_X10_of l D cI cB cS a_this a_all a_has a_few a_sawn a_cut a_todo a_press a_gone v3 0 f_all _ hV) ok_X10_of im_X10_of se_X10_of li_X10_86 dX10_at_16 hK hP hS hA [0, 1] [] 0 rfl rfl rfl (by decide) rfl rfl hl.1 (Nat.le_of_ble_eq_true rfl) ⟨Nat.le_of_ble_eq_true rfl, Nat.le_of_ble_eq_true rfl⟩ ⟨Nat.le_of_ble_eq_true rfl, Nat.le_of_ble_eq_true rfl⟩ (fun r_1 _ H locs hV hP hS => ?_)
        have hP : PD D A [oc a_this 9 [.ref a_all, .ref a_has, .ref a_few, .ref a_sawn, .ref a_cut, .ref a_todo, .ref a_press, .ref a_gone], ai cI a_all 3320 f_all] H := hP
        refine lv_aload_n hx hb dX10_at_19 rfl (lv_at hl 0 rfl) ?_
        refine lv_iload_n hx hb dX10_at_20 rfl (lv_at hl 3 rfl) ?_
        refine lv_iconst (v := 0) hx hb dX10_at_21 (by decide) ?_
        refine KVi (As := [.int v3, .int 0]) (rest := [.int r_1, .int x1]) FX (c_X10_of l D cI cB cS a_this a_all a_has a_few a_sawn a_cut a_todo a_press a_gone v3 0 f_all _ hV) ok_X10_of im_X10_of se_X10_of li_X10_86 dX10_at_22 hK hP hS hA [0, 1] [] 0 rfl rfl rfl (by decide) rfl rfl hl.1 (Nat.le_of_ble_eq_true rfl) ⟨Nat.le_of_ble_eq_true rfl, Nat.le_of_ble_eq_true rfl⟩ ⟨Nat.le_of_ble_eq_true rfl, Nat.le_of_ble_eq_true rfl⟩ (fun r_2 _ H locs hV hP hS => ?_)
        have hP : PD D A [oc a_this 9 [.ref a_all, .ref a_has, .ref a_few, .ref a_sawn, .ref a_cut, .ref a_todo, .ref a_press, .ref a_gone], ai cI a_all 3320 f_all] H := hP
        refine lv_aload_n hx hb dX10_at_25 rfl (lv_at hl 0 rfl) ?_
        refine lv_iload_n hx hb dX10_at_26 rfl (lv_at hl 3 rfl) ?_
        refine lv_iconst (v := 2) hx hb dX10_at_27 (by decide) ?_
        refine KVi (As := [.int v3, .int 2]) (rest := [.int r_2, .int r_1, .int x1]) FX (c_X10_of l D cI cB cS a_this a_all a_has a_few a_sawn a_cut a_todo a_press a_gone v3 2 f_all _ hV) ok_X10_of im_X10_of se_X10_of li_X10_86 dX10_at_28 hK hP hS hA [0, 1] [] 0 rfl rfl rfl (by decide) rfl rfl hl.1 (Nat.le_of_ble_eq_true rfl) ⟨Nat.le_of_ble_eq_true rfl, Nat.le_of_ble_eq_true rfl⟩ ⟨Nat.le_of_ble_eq_true rfl, Nat.le_of_ble_eq_true rfl⟩ (fun r_3 _ H locs hV hP hS => ?_)
        have hP : PD D A [oc a_this 9 [.ref a_all, .ref a_has, .ref a_few, .ref a_sawn, .ref a_cut, .ref a_todo, .ref a_press, .ref a_gone], ai cI a_all 3320 f_all] H := hP
        refine lv_iadd hx hb dX10_at_31 ?_
        refine lv_iconst (v := 1) hx hb dX10_at_32 (by decide) ?_
        refine lv_isub hx hb dX10_at_33 ?_
        refine KSi (As := [.int x1, .int r_1, .int ((r_2 + r_3) - 1)]) (rest := []) FX (c_X10_isIn l D cI cB cS x1 r_1 ((r_2 + r_3) - 1) _ hV) ok_X10_isIn is_X10_isIn li_X10_42 dX10_at_34 hK hP hS hA [] [0, 1] rfl rfl (by decide) rfl hl.1 (Nat.le_of_ble_eq_true rfl) ⟨Nat.le_of_ble_eq_true rfl, Nat.le_of_ble_eq_true rfl⟩ ⟨Nat.le_of_ble_eq_true rfl, Nat.le_of_ble_eq_true rfl⟩ (fun r_4 _ H locs hV hP hS => ?_)
        have hP : PD D A [oc a_this 9 [.ref a_all, .ref a_has, .ref a_few, .ref a_sawn, .ref a_cut, .ref a_todo, .ref a_press, .ref a_gone], ai cI a_all 3320 f_all] H := hP
        refine lv_if_eq (tgt := 70) hx hb dX10_at_37 (by decide) (fun h => ?_) (fun h => ?_)
        · have hV := hV.1 h
          obtain ⟨v3_5, e_v3_5⟩ : ∃ y : Int32, y = (v3 + 1) := ⟨_, rfl⟩
          have hV := hV v3_5 e_v3_5
          refine lv_iinc (v := v3_5) (lv' := [(3, .int v3_5), (0, .ref a_this), (1, .int x1), (2, .int x2)]) hx hb dX10_at_70 hl (k := 3) rfl (by rw [e_v3_5]; rfl) (by decide) rfl (fun ls hl => ?_)
          refine lv_goto (tgt := 2) hx hb dX10_at_73 (by decide) ?_
          exact ih2 v3_5 _ _ _ hP hS (lv_sub hl [1, 2, 3, 0] rfl) hV
        · have hV := hV.2 h
          refine lv_iload_n hx hb dX10_at_40 rfl (lv_at hl 2 rfl) ?_
          refine lv_aload_n hx hb dX10_at_41 rfl (lv_at hl 0 rfl) ?_
          refine lv_iload_n hx hb dX10_at_42 rfl (lv_at hl 3 rfl) ?_
          refine lv_iconst (v := 1) hx hb dX10_at_43 (by decide) ?_
          refine KVi (As := [.int v3, .int 1]) (rest := [.int x2]) FX (c_X10_of l D cI cB cS a_this a_all a_has a_few a_sawn a_cut a_todo a_press a_gone v3 1 f_all _ hV) ok_X10_of im_X10_of se_X10_of li_X10_86 dX10_at_44 hK hP hS hA [0, 1] [] 0 rfl rfl rfl (by decide) rfl rfl hl.1 (Nat.le_of_ble_eq_true rfl) ⟨Nat.le_of_ble_eq_true rfl, Nat.le_of_ble_eq_true rfl⟩ ⟨Nat.le_of_ble_eq_true rfl, Nat.le_of_ble_eq_true rfl⟩ (fun r_6 _ H locs hV hP hS => ?_)
          have hP : PD D A [oc a_this 9 [.ref a_all, .ref a_has, .ref a_few, .ref a_sawn, .ref a_cut, .ref a_todo, .ref a_press, .ref a_gone], ai cI a_all 3320 f_all] H := hP
          refine lv_aload_n hx hb dX10_at_47 rfl (lv_at hl 0 rfl) ?_
          refine lv_iload_n hx hb dX10_at_48 rfl (lv_at hl 3 rfl) ?_
          refine lv_iconst (v := 1) hx hb dX10_at_49 (by decide) ?_
          refine KVi (As := [.int v3, .int 1]) (rest := [.int r_6, .int x2]) FX (c_X10_of l D cI cB cS a_this a_all a_has a_few a_sawn a_cut a_todo a_press a_gone v3 1 f_all _ hV) ok_X10_of im_X10_of se_X10_of li_X10_86 dX10_at_50 hK hP hS hA [0, 1] [] 0 rfl rfl rfl (by decide) rfl rfl hl.1 (Nat.le_of_ble_eq_true rfl) ⟨Nat.le_of_ble_eq_true rfl, Nat.le_of_ble_eq_true rfl⟩ ⟨Nat.le_of_ble_eq_true rfl, Nat.le_of_ble_eq_true rfl⟩ (fun r_7 _ H locs hV hP hS => ?_)
          have hP : PD D A [oc a_this 9 [.ref a_all, .ref a_has, .ref a_few, .ref a_sawn, .ref a_cut, .ref a_todo, .ref a_press, .ref a_gone], ai cI a_all 3320 f_all] H := hP
          refine lv_aload_n hx hb dX10_at_53 rfl (lv_at hl 0 rfl) ?_
          refine lv_iload_n hx hb dX10_at_54 rfl (lv_at hl 3 rfl) ?_
          refine lv_iconst (v := 3) hx hb dX10_at_55 (by decide) ?_
          refine KVi (As := [.int v3, .int 3]) (rest := [.int r_7, .int r_6, .int x2]) FX (c_X10_of l D cI cB cS a_this a_all a_has a_few a_sawn a_cut a_todo a_press a_gone v3 3 f_all _ hV) ok_X10_of im_X10_of se_X10_of li_X10_86 dX10_at_56 hK hP hS hA [0, 1] [] 0 rfl rfl rfl (by decide) rfl rfl hl.1 (Nat.le_of_ble_eq_true rfl) ⟨Nat.le_of_ble_eq_true rfl, Nat.le_of_ble_eq_true rfl⟩ ⟨Nat.le_of_ble_eq_true rfl, Nat.le_of_ble_eq_true rfl⟩ (fun r_8 _ H locs hV hP hS => ?_)
          have hP : PD D A [oc a_this 9 [.ref a_all, .ref a_has, .ref a_few, .ref a_sawn, .ref a_cut, .ref a_todo, .ref a_press, .ref a_gone], ai cI a_all 3320 f_all] H := hP
          refine lv_iadd hx hb dX10_at_59 ?_
          refine lv_iconst (v := 1) hx hb dX10_at_60 (by decide) ?_
          refine lv_isub hx hb dX10_at_61 ?_
          refine KSi (As := [.int x2, .int r_6, .int ((r_7 + r_8) - 1)]) (rest := []) FX (c_X10_isIn l D cI cB cS x2 r_6 ((r_7 + r_8) - 1) _ hV) ok_X10_isIn is_X10_isIn li_X10_42 dX10_at_62 hK hP hS hA [] [0, 1] rfl rfl (by decide) rfl hl.1 (Nat.le_of_ble_eq_true rfl) ⟨Nat.le_of_ble_eq_true rfl, Nat.le_of_ble_eq_true rfl⟩ ⟨Nat.le_of_ble_eq_true rfl, Nat.le_of_ble_eq_true rfl⟩ (fun r_9 _ H locs hV hP hS => ?_)
          have hP : PD D A [oc a_this 9 [.ref a_all, .ref a_has, .ref a_few, .ref a_sawn, .ref a_cut, .ref a_todo, .ref a_press, .ref a_gone], ai cI a_all 3320 f_all] H := hP
          refine lv_if_eq (tgt := 70) hx hb dX10_at_65 (by decide) (fun h => ?_) (fun h => ?_)
          · have hV := hV.1 h
            obtain ⟨v3_10, e_v3_10⟩ : ∃ y : Int32, y = (v3 + 1) := ⟨_, rfl⟩
            have hV := hV v3_10 e_v3_10
            refine lv_iinc (v := v3_10) (lv' := [(3, .int v3_10), (0, .ref a_this), (1, .int x1), (2, .int x2)]) hx hb dX10_at_70 hl (k := 3) rfl (by rw [e_v3_10]; rfl) (by decide) rfl (fun ls hl => ?_)
            refine lv_goto (tgt := 2) hx hb dX10_at_73 (by decide) ?_
            exact ih2 v3_10 _ _ _ hP hS (lv_sub hl [1, 2, 3, 0] rfl) hV
          · have hV := hV.2 h
            refine lv_iload_n hx hb dX10_at_68 rfl (lv_at hl 3 rfl) ?_
            exact hret _ _ _ _ _ () hS dX10_at_69 hP hV
  refine lv_iconst (v := 0) hx hb dX10_at_0 (by decide) ?_
  refine lv_istore_n (lv' := [(3, .int 0), (0, .ref a_this), (1, .int x1), (2, .int x2)]) hx hb dX10_at_1 rfl hl (by decide) rfl (fun ls hl => ?_)
  obtain ⟨k, hV⟩ := hV
  exact b2 k 0 _ _ _ hP hS (lv_sub hl [1, 2, 3, 0] rfl) hV

def rm_X10_above : Room := { frames := 2, cells := 0, slots := 0, locals := 44 }
def P_X10_above (x1 : Int32) (x2 : Int32) (f_all : Nat → Int32) (post : Int32 → Prop) : Prop := P_X10_isThere x1 f_all (fun r_1 => ((r_1 = 0 → post 0) ∧ (¬ r_1 = 0 → P_X10_isThere x2 f_all (fun r_2 => ((r_2 = 0 → post 0) ∧ (¬ r_2 = 0 → P_X10_isAbove x1 x2 f_all (fun r_3 => ((r_3 = 0 → post 0) ∧ (¬ r_3 = 0 → post 1)))))))))
set_option maxRecDepth 100000 in
set_option maxHeartbeats 4000000 in
theorem c_X10_above (l : Launch) (D : va_G) (cI cB cS : ClassId) (a_this a_all a_has a_few a_sawn a_cut a_todo a_press a_gone : Nat) (x1 : Int32) (x2 : Int32) (f_all : Nat → Int32) (post : Int32 → Prop) (hV : P_X10_above x1 x2 f_all post) : Ci l yX10_above cX10_above 3 (some .boolean) rm_X10_above D cI cB cS [.ref a_this, .int x1, .int x2] [oc a_this 9 [.ref a_all, .ref a_has, .ref a_few, .ref a_sawn, .ref a_cut, .ref a_todo, .ref a_press, .ref a_gone], ai cI a_all 3320 f_all] (fun r (_ : Unit) => post r) (fun (_ : Unit) => [oc a_this 9 [.ref a_all, .ref a_has, .ref a_few, .ref a_sawn, .ref a_cut, .ref a_todo, .ref a_press, .ref a_gone], ai cI a_all 3320 f_all]) := by
  refine Cz.of ok_X10_above (Nat.le_of_ble_eq_true rfl) ?_
  intro p e s m args below meth c A Q hx hb hml hown ht hnm hK hP hA hS hret ls hl
  have hown : s.vm.findClass RX10 = some m.cls := hown
  have FX : CallFix p m c cX10_above 3 s args tblG RX10 := ⟨hx, hb, hml, hown, ht⟩
  have hP : PD D A [oc a_this 9 [.ref a_all, .ref a_has, .ref a_few, .ref a_sawn, .ref a_cut, .ref a_todo, .ref a_press, .ref a_gone], ai cI a_all 3320 f_all] s.heap := hP
  have hl : lv_has ls 3 [(0, .ref a_this), (1, .int x1), (2, .int x2)] := hl
  unfold P_X10_above at hV
  refine lv_aload_n hx hb dX10_above_0 rfl (lv_at hl 0 rfl) ?_
  refine lv_iload_n hx hb dX10_above_1 rfl (lv_at hl 1 rfl) ?_
  refine KVi (As := [.int x1]) (rest := []) FX (c_X10_isThere l D cI cB cS a_this a_all a_has a_few a_sawn a_cut a_todo a_press a_gone x1 f_all _ hV) ok_X10_isThere im_X10_isThere se_X10_isThere li_X10_97 dX10_above_2 hK hP hS hA [0, 1] [] 0 rfl rfl rfl (by decide) rfl rfl hl.1 (Nat.le_of_ble_eq_true rfl) ⟨Nat.le_of_ble_eq_true rfl, Nat.le_of_ble_eq_true rfl⟩ ⟨Nat.le_of_ble_eq_true rfl, Nat.le_of_ble_eq_true rfl⟩ (fun r_1 _ H locs hV hP hS => ?_)
  have hP : PD D A [oc a_this 9 [.ref a_all, .ref a_has, .ref a_few, .ref a_sawn, .ref a_cut, .ref a_todo, .ref a_press, .ref a_gone], ai cI a_all 3320 f_all] H := hP
  refine lv_if_eq (tgt := 29) hx hb dX10_above_5 (by decide) (fun h => ?_) (fun h => ?_)
  · have hV := hV.1 h
    refine lv_iconst (v := 0) hx hb dX10_above_29 (by decide) ?_
    exact hret _ _ _ _ _ () hS dX10_above_30 hP (by decide) hV
  · have hV := hV.2 h
    refine lv_aload_n hx hb dX10_above_8 rfl (lv_at hl 0 rfl) ?_
    refine lv_iload_n hx hb dX10_above_9 rfl (lv_at hl 2 rfl) ?_
    refine KVi (As := [.int x2]) (rest := []) FX (c_X10_isThere l D cI cB cS a_this a_all a_has a_few a_sawn a_cut a_todo a_press a_gone x2 f_all _ hV) ok_X10_isThere im_X10_isThere se_X10_isThere li_X10_97 dX10_above_10 hK hP hS hA [0, 1] [] 0 rfl rfl rfl (by decide) rfl rfl hl.1 (Nat.le_of_ble_eq_true rfl) ⟨Nat.le_of_ble_eq_true rfl, Nat.le_of_ble_eq_true rfl⟩ ⟨Nat.le_of_ble_eq_true rfl, Nat.le_of_ble_eq_true rfl⟩ (fun r_2 _ H locs hV hP hS => ?_)
    have hP : PD D A [oc a_this 9 [.ref a_all, .ref a_has, .ref a_few, .ref a_sawn, .ref a_cut, .ref a_todo, .ref a_press, .ref a_gone], ai cI a_all 3320 f_all] H := hP
    refine lv_if_eq (tgt := 29) hx hb dX10_above_13 (by decide) (fun h => ?_) (fun h => ?_)
    · have hV := hV.1 h
      refine lv_iconst (v := 0) hx hb dX10_above_29 (by decide) ?_
      exact hret _ _ _ _ _ () hS dX10_above_30 hP (by decide) hV
    · have hV := hV.2 h
      refine lv_aload_n hx hb dX10_above_16 rfl (lv_at hl 0 rfl) ?_
      refine lv_iload_n hx hb dX10_above_17 rfl (lv_at hl 1 rfl) ?_
      refine lv_iload_n hx hb dX10_above_18 rfl (lv_at hl 2 rfl) ?_
      refine KVi (As := [.int x1, .int x2]) (rest := []) FX (c_X10_isAbove l D cI cB cS a_this a_all a_has a_few a_sawn a_cut a_todo a_press a_gone x1 x2 f_all _ hV) ok_X10_isAbove im_X10_isAbove se_X10_isAbove li_X10_94 dX10_above_19 hK hP hS hA [0, 1] [] 0 rfl rfl rfl (by decide) rfl rfl hl.1 (Nat.le_of_ble_eq_true rfl) ⟨Nat.le_of_ble_eq_true rfl, Nat.le_of_ble_eq_true rfl⟩ ⟨Nat.le_of_ble_eq_true rfl, Nat.le_of_ble_eq_true rfl⟩ (fun r_3 _ H locs hV hP hS => ?_)
      have hP : PD D A [oc a_this 9 [.ref a_all, .ref a_has, .ref a_few, .ref a_sawn, .ref a_cut, .ref a_todo, .ref a_press, .ref a_gone], ai cI a_all 3320 f_all] H := hP
      refine lv_if_eq (tgt := 29) hx hb dX10_above_22 (by decide) (fun h => ?_) (fun h => ?_)
      · have hV := hV.1 h
        refine lv_iconst (v := 0) hx hb dX10_above_29 (by decide) ?_
        exact hret _ _ _ _ _ () hS dX10_above_30 hP (by decide) hV
      · have hV := hV.2 h
        refine lv_iconst (v := 1) hx hb dX10_above_25 (by decide) ?_
        refine lv_goto (tgt := 30) hx hb dX10_above_26 (by decide) ?_
        exact hret _ _ _ _ _ () hS dX10_above_30 hP (by decide) hV

def rm_X10_river : Room := { frames := 1, cells := 0, slots := 0, locals := 22 }
def P_X10_river (x1 : Int32) (x2 : Int32) (f_all : Nat → Int32) (post : Int32 → (Nat → Int32) → Prop) : Prop := P_X10_isIn x1 0 11 (fun r_1 => ((r_1 = 0 → post 0 f_all) ∧ (¬ r_1 = 0 → P_X10_isIn x2 0 9 (fun r_2 => ((r_2 = 0 → post 0 f_all) ∧ (¬ r_2 = 0 → (vp_in (10 + x1) 3320 ∧ ∀ f_all_3 : Nat → Int32, f_all_3 = upd f_all (10 + x1).toNatClampNeg x2 → post 1 f_all_3)))))))
set_option maxRecDepth 100000 in
set_option maxHeartbeats 4000000 in
theorem c_X10_river (l : Launch) (D : va_G) (cI cB cS : ClassId) (a_this a_all a_has a_few a_sawn a_cut a_todo a_press a_gone : Nat) (x1 : Int32) (x2 : Int32) (f_all : Nat → Int32) (post : Int32 → (Nat → Int32) → Prop) (hV : P_X10_river x1 x2 f_all post) : Ci l yX10_river cX10_river 3 (some .boolean) rm_X10_river D cI cB cS [.ref a_this, .int x1, .int x2] [oc a_this 9 [.ref a_all, .ref a_has, .ref a_few, .ref a_sawn, .ref a_cut, .ref a_todo, .ref a_press, .ref a_gone], ai cI a_all 3320 f_all] (fun r (u : (Nat → Int32)) => post r u) (fun (u : (Nat → Int32)) => [oc a_this 9 [.ref a_all, .ref a_has, .ref a_few, .ref a_sawn, .ref a_cut, .ref a_todo, .ref a_press, .ref a_gone], ai cI a_all 3320 u]) := by
  refine Cz.of ok_X10_river (Nat.le_of_ble_eq_true rfl) ?_
  intro p e s m args below meth c A Q hx hb hml hown ht hnm hK hP hA hS hret ls hl
  have hown : s.vm.findClass RX10 = some m.cls := hown
  have FX : CallFix p m c cX10_river 3 s args tblG RX10 := ⟨hx, hb, hml, hown, ht⟩
  have hP : PD D A [oc a_this 9 [.ref a_all, .ref a_has, .ref a_few, .ref a_sawn, .ref a_cut, .ref a_todo, .ref a_press, .ref a_gone], ai cI a_all 3320 f_all] s.heap := hP
  have hl : lv_has ls 3 [(0, .ref a_this), (1, .int x1), (2, .int x2)] := hl
  unfold P_X10_river at hV
  refine lv_iload_n hx hb dX10_river_0 rfl (lv_at hl 1 rfl) ?_
  refine lv_iconst (v := 0) hx hb dX10_river_1 (by decide) ?_
  refine lv_bipush (v := 11) hx hb dX10_river_2 (by decide) ?_
  refine KSi (As := [.int x1, .int 0, .int 11]) (rest := []) FX (c_X10_isIn l D cI cB cS x1 0 11 _ hV) ok_X10_isIn is_X10_isIn li_X10_42 dX10_river_4 hK hP hS hA [] [0, 1] rfl rfl (by decide) rfl hl.1 (Nat.le_of_ble_eq_true rfl) ⟨Nat.le_of_ble_eq_true rfl, Nat.le_of_ble_eq_true rfl⟩ ⟨Nat.le_of_ble_eq_true rfl, Nat.le_of_ble_eq_true rfl⟩ (fun r_1 _ H locs hV hP hS => ?_)
  have hP : PD D A [oc a_this 9 [.ref a_all, .ref a_has, .ref a_few, .ref a_sawn, .ref a_cut, .ref a_todo, .ref a_press, .ref a_gone], ai cI a_all 3320 f_all] H := hP
  refine lv_if_eq (tgt := 20) hx hb dX10_river_7 (by decide) (fun h => ?_) (fun h => ?_)
  · have hV := hV.1 h
    refine lv_iconst (v := 0) hx hb dX10_river_20 (by decide) ?_
    exact hret _ _ _ _ _ f_all hS dX10_river_21 hP (by decide) hV
  · have hV := hV.2 h
    refine lv_iload_n hx hb dX10_river_10 rfl (lv_at hl 2 rfl) ?_
    refine lv_iconst (v := 0) hx hb dX10_river_11 (by decide) ?_
    refine lv_bipush (v := 9) hx hb dX10_river_12 (by decide) ?_
    refine KSi (As := [.int x2, .int 0, .int 9]) (rest := []) FX (c_X10_isIn l D cI cB cS x2 0 9 _ hV) ok_X10_isIn is_X10_isIn li_X10_42 dX10_river_14 hK hP hS hA [] [0, 1] rfl rfl (by decide) rfl hl.1 (Nat.le_of_ble_eq_true rfl) ⟨Nat.le_of_ble_eq_true rfl, Nat.le_of_ble_eq_true rfl⟩ ⟨Nat.le_of_ble_eq_true rfl, Nat.le_of_ble_eq_true rfl⟩ (fun r_2 _ H locs hV hP hS => ?_)
    have hP : PD D A [oc a_this 9 [.ref a_all, .ref a_has, .ref a_few, .ref a_sawn, .ref a_cut, .ref a_todo, .ref a_press, .ref a_gone], ai cI a_all 3320 f_all] H := hP
    refine lv_if_ne (tgt := 22) hx hb dX10_river_17 (by decide) (fun h => ?_) (fun h => ?_)
    · have hV := hV.2 h
      refine lv_aload_n hx hb dX10_river_22 rfl (lv_at hl 0 rfl) ?_
      refine gX10 hx hb ht hown hK hP 0 rfl 0 (by decide) fl_X10_7 (fun _ h => h) rfl dX10_river_23 ?_
      refine lv_bipush (v := 10) hx hb dX10_river_26 (by decide) ?_
      refine lv_iload_n hx hb dX10_river_28 rfl (lv_at hl 1 rfl) ?_
      refine lv_iadd hx hb dX10_river_29 ?_
      refine lv_iload_n hx hb dX10_river_30 rfl (lv_at hl 2 rfl) ?_
      refine ist hx hb hK hP hS 1 rfl dX10_river_31 hV.1 (fun f_all_3 e_f_all_3 H locs hP hS => ?_)
      have hV := hV.2 f_all_3 e_f_all_3
      have hP : PD D A [oc a_this 9 [.ref a_all, .ref a_has, .ref a_few, .ref a_sawn, .ref a_cut, .ref a_todo, .ref a_press, .ref a_gone], ai cI a_all 3320 f_all_3] H := hP
      refine lv_iconst (v := 1) hx hb dX10_river_32 (by decide) ?_
      exact hret _ _ _ _ _ f_all_3 hS dX10_river_33 hP (by decide) hV
    · have hV := hV.1 h
      refine lv_iconst (v := 0) hx hb dX10_river_20 (by decide) ?_
      exact hret _ _ _ _ _ f_all hS dX10_river_21 hP (by decide) hV

def rm_X10_days : Room := { frames := 1, cells := 0, slots := 0, locals := 22 }
def P_X10_days (x1 : Int32) (f_all : Nat → Int32) (post : Int32 → (Nat → Int32) → Prop) : Prop := P_X10_isIn x1 1 100 (fun r_1 => ((r_1 = 0 → post (-1) f_all) ∧ (¬ r_1 = 0 → (vp_in 4 3320 ∧ ((((f_all (4 : Int32).toNatClampNeg) + x1) ≤ 5000 → (vp_in 4 3320 ∧ (vp_in 4 3320 ∧ ∀ f_all_2 : Nat → Int32, f_all_2 = upd f_all (4 : Int32).toNatClampNeg ((f_all (4 : Int32).toNatClampNeg) + x1) → (vp_in 4 3320 ∧ post (f_all_2 (4 : Int32).toNatClampNeg) f_all_2)))) ∧ (¬ ((f_all (4 : Int32).toNatClampNeg) + x1) ≤ 5000 → post (-1) f_all))))))
set_option maxRecDepth 100000 in
set_option maxHeartbeats 4000000 in
theorem c_X10_days (l : Launch) (D : va_G) (cI cB cS : ClassId) (a_this a_all a_has a_few a_sawn a_cut a_todo a_press a_gone : Nat) (x1 : Int32) (f_all : Nat → Int32) (post : Int32 → (Nat → Int32) → Prop) (hV : P_X10_days x1 f_all post) : Ci l yX10_days cX10_days 2 (some .int) rm_X10_days D cI cB cS [.ref a_this, .int x1] [oc a_this 9 [.ref a_all, .ref a_has, .ref a_few, .ref a_sawn, .ref a_cut, .ref a_todo, .ref a_press, .ref a_gone], ai cI a_all 3320 f_all] (fun r (u : (Nat → Int32)) => post r u) (fun (u : (Nat → Int32)) => [oc a_this 9 [.ref a_all, .ref a_has, .ref a_few, .ref a_sawn, .ref a_cut, .ref a_todo, .ref a_press, .ref a_gone], ai cI a_all 3320 u]) := by
  refine Ci.of ok_X10_days (Nat.le_of_ble_eq_true rfl) ?_
  intro p e s m args below meth c A Q hx hb hml hown ht hnm hK hP hA hS hret ls hl
  have hown : s.vm.findClass RX10 = some m.cls := hown
  have FX : CallFix p m c cX10_days 2 s args tblG RX10 := ⟨hx, hb, hml, hown, ht⟩
  have hP : PD D A [oc a_this 9 [.ref a_all, .ref a_has, .ref a_few, .ref a_sawn, .ref a_cut, .ref a_todo, .ref a_press, .ref a_gone], ai cI a_all 3320 f_all] s.heap := hP
  have hl : lv_has ls 2 [(0, .ref a_this), (1, .int x1)] := hl
  unfold P_X10_days at hV
  refine lv_iload_n hx hb dX10_days_0 rfl (lv_at hl 1 rfl) ?_
  refine lv_iconst (v := 1) hx hb dX10_days_1 (by decide) ?_
  refine lv_bipush (v := 100) hx hb dX10_days_2 (by decide) ?_
  refine KSi (As := [.int x1, .int 1, .int 100]) (rest := []) FX (c_X10_isIn l D cI cB cS x1 1 100 _ hV) ok_X10_isIn is_X10_isIn li_X10_42 dX10_days_4 hK hP hS hA [] [0, 1] rfl rfl (by decide) rfl hl.1 (Nat.le_of_ble_eq_true rfl) ⟨Nat.le_of_ble_eq_true rfl, Nat.le_of_ble_eq_true rfl⟩ ⟨Nat.le_of_ble_eq_true rfl, Nat.le_of_ble_eq_true rfl⟩ (fun r_1 _ H locs hV hP hS => ?_)
  have hP : PD D A [oc a_this 9 [.ref a_all, .ref a_has, .ref a_few, .ref a_sawn, .ref a_cut, .ref a_todo, .ref a_press, .ref a_gone], ai cI a_all 3320 f_all] H := hP
  refine lv_if_eq (tgt := 24) hx hb dX10_days_7 (by decide) (fun h => ?_) (fun h => ?_)
  · have hV := hV.1 h
    refine lv_iconst (v := (-1)) hx hb dX10_days_24 (by decide) ?_
    exact hret _ _ _ _ _ f_all hS dX10_days_25 hP hV
  · have hV := hV.2 h
    refine lv_aload_n hx hb dX10_days_10 rfl (lv_at hl 0 rfl) ?_
    refine gX10 hx hb ht hown hK hP 0 rfl 0 (by decide) fl_X10_7 (fun _ h => h) rfl dX10_days_11 ?_
    refine lv_iconst (v := 4) hx hb dX10_days_14 (by decide) ?_
    refine ild hx hb hK hP 1 rfl dX10_days_15 hV.1 ?_
    have hV := hV.2
    refine lv_iload_n hx hb dX10_days_16 rfl (lv_at hl 1 rfl) ?_
    refine lv_iadd hx hb dX10_days_17 ?_
    refine lv_sipush (v := 5000) hx hb dX10_days_18 (by decide) ?_
    refine lv_icmp_le (tgt := 26) hx hb dX10_days_21 (by decide) (fun h => ?_) (fun h => ?_)
    · have hV := hV.1 h
      refine lv_aload_n hx hb dX10_days_26 rfl (lv_at hl 0 rfl) ?_
      refine gX10 hx hb ht hown hK hP 0 rfl 0 (by decide) fl_X10_7 (fun _ h => h) rfl dX10_days_27 ?_
      refine lv_iconst (v := 4) hx hb dX10_days_30 (by decide) ?_
      refine lv_dup2_11 hx hb dX10_days_31 rfl rfl ?_
      refine ild hx hb hK hP 1 rfl dX10_days_32 hV.1 ?_
      have hV := hV.2
      refine lv_iload_n hx hb dX10_days_33 rfl (lv_at hl 1 rfl) ?_
      refine lv_iadd hx hb dX10_days_34 ?_
      refine ist hx hb hK hP hS 1 rfl dX10_days_35 hV.1 (fun f_all_2 e_f_all_2 H locs hP hS => ?_)
      have hV := hV.2 f_all_2 e_f_all_2
      have hP : PD D A [oc a_this 9 [.ref a_all, .ref a_has, .ref a_few, .ref a_sawn, .ref a_cut, .ref a_todo, .ref a_press, .ref a_gone], ai cI a_all 3320 f_all_2] H := hP
      refine lv_aload_n hx hb dX10_days_36 rfl (lv_at hl 0 rfl) ?_
      refine gX10 hx hb ht hown hK hP 0 rfl 0 (by decide) fl_X10_7 (fun _ h => h) rfl dX10_days_37 ?_
      refine lv_iconst (v := 4) hx hb dX10_days_40 (by decide) ?_
      refine ild hx hb hK hP 1 rfl dX10_days_41 hV.1 ?_
      have hV := hV.2
      exact hret _ _ _ _ _ f_all_2 hS dX10_days_42 hP hV
    · have hV := hV.2 h
      refine lv_iconst (v := (-1)) hx hb dX10_days_24 (by decide) ?_
      exact hret _ _ _ _ _ f_all hS dX10_days_25 hP hV
