def rm_X10_taken : Room := { frames := 2, cells := 0, slots := 0, locals := 43 }
def V_X10_taken_4 (f_all : Nat → Int32) (post : Int32 → Prop) : Nat → Int32 → Int32 → Prop
  | 0, _, _ => False
  | n + 1, v1, v2 => (vp_in 5 3320 ∧ (((f_all (5 : Int32).toNatClampNeg) ≤ v2 → post v1) ∧ (¬ (f_all (5 : Int32).toNatClampNeg) ≤ v2 → P_X10_stands v2 f_all (fun r_1 => ((r_1 = 0 → (∀ v1_2 : Int32, v1_2 = (v1 + 1) → (∀ v2_3 : Int32, v2_3 = (v2 + 1) → V_X10_taken_4 f_all post n v1_2 v2_3))) ∧ (¬ r_1 = 0 → (∀ v1_4 : Int32, v1_4 = (v1 + 0) → (∀ v2_5 : Int32, v2_5 = (v2 + 1) → V_X10_taken_4 f_all post n v1_4 v2_5))))))))
theorem V_X10_taken_4_s (f_all : Nat → Int32) (post : Int32 → Prop) (n : Nat) (v1 : Int32) (v2 : Int32) : V_X10_taken_4 f_all post (n + 1) v1 v2 = ((vp_in 5 3320 ∧ (((f_all (5 : Int32).toNatClampNeg) ≤ v2 → post v1) ∧ (¬ (f_all (5 : Int32).toNatClampNeg) ≤ v2 → P_X10_stands v2 f_all (fun r_1 => ((r_1 = 0 → (∀ v1_2 : Int32, v1_2 = (v1 + 1) → (∀ v2_3 : Int32, v2_3 = (v2 + 1) → V_X10_taken_4 f_all post n v1_2 v2_3))) ∧ (¬ r_1 = 0 → (∀ v1_4 : Int32, v1_4 = (v1 + 0) → (∀ v2_5 : Int32, v2_5 = (v2 + 1) → V_X10_taken_4 f_all post n v1_4 v2_5))))))))) := rfl
def P_X10_taken (f_all : Nat → Int32) (post : Int32 → Prop) : Prop := (∃ k : Nat, V_X10_taken_4 f_all post k 0 0)
set_option maxRecDepth 100000 in
set_option maxHeartbeats 4000000 in
theorem c_X10_taken (l : Launch) (D : va_G) (cI cB cS : ClassId) (a_this a_all a_has a_few a_sawn a_cut a_todo a_press a_gone : Nat) (f_all : Nat → Int32) (post : Int32 → Prop) (hV : P_X10_taken f_all post) : Ci l yX10_taken cX10_taken 3 (some .int) rm_X10_taken D cI cB cS [.ref a_this] [oc a_this 9 [.ref a_all, .ref a_has, .ref a_few, .ref a_sawn, .ref a_cut, .ref a_todo, .ref a_press, .ref a_gone], ai cI a_all 3320 f_all] (fun r (_ : Unit) => post r) (fun (_ : Unit) => [oc a_this 9 [.ref a_all, .ref a_has, .ref a_few, .ref a_sawn, .ref a_cut, .ref a_todo, .ref a_press, .ref a_gone], ai cI a_all 3320 f_all]) := by
  refine Ci.of ok_X10_taken (Nat.le_of_ble_eq_true rfl) ?_
  intro p e s m args below meth c A Q hx hb hml hown ht hnm hK hP hA hS hret ls hl
  have hown : s.vm.findClass RX10 = some m.cls := hown
  have FX : CallFix p m c cX10_taken 3 s args tblG RX10 := ⟨hx, hb, hml, hown, ht⟩
  have hP : PD D A [oc a_this 9 [.ref a_all, .ref a_has, .ref a_few, .ref a_sawn, .ref a_cut, .ref a_todo, .ref a_press, .ref a_gone], ai cI a_all 3320 f_all] s.heap := hP
  have hl : lv_has ls 3 [(0, .ref a_this)] := hl
  unfold P_X10_taken at hV
  have b4 : ∀  (k4 : Nat) (v1 : Int32) (v2 : Int32) (H : Heap) (locs : List Loc) (ls : Array Slot), PD D A [oc a_this 9 [.ref a_all, .ref a_has, .ref a_few, .ref a_sawn, .ref a_cut, .ref a_todo, .ref a_press, .ref a_gone], ai cI a_all 3320 f_all] H → va_S A s.heap H locs → lv_has ls 3 [(0, .ref a_this), (1, .int v1), (2, .int v2)] → V_X10_taken_4 f_all post k4 v1 v2 → W p l e rm_X10_taken s m args below meth c H locs 0 0 Q (F0 m 4 ls []) := by
    intro  k4
    induction k4 with
    | zero => intro v1 v2 H locs ls hP hS hl hV; exact False.elim hV
    | succ k4 ih4 =>
      intro v1 v2 H locs ls hP hS hl hV
      rw [V_X10_taken_4_s] at hV
      refine lv_iload_n hx hb dX10_taken_4 rfl (lv_at hl 2 rfl) ?_
      refine lv_aload_n hx hb dX10_taken_5 rfl (lv_at hl 0 rfl) ?_
      refine gX10 hx hb ht hown hK hP 0 rfl 0 (by decide) fl_X10_7 (fun _ h => h) rfl dX10_taken_6 ?_
      refine lv_iconst (v := 5) hx hb dX10_taken_9 (by decide) ?_
      refine ild hx hb hK hP 1 rfl dX10_taken_10 hV.1 ?_
      have hV := hV.2
      refine lv_icmp_ge (tgt := 36) hx hb dX10_taken_11 (by decide) (fun h => ?_) (fun h => ?_)
      · have hV := hV.1 h
        refine lv_iload_n hx hb dX10_taken_36 rfl (lv_at hl 1 rfl) ?_
        exact hret _ _ _ _ _ () hS dX10_taken_37 hP hV
      · have hV := hV.2 h
        refine lv_iload_n hx hb dX10_taken_14 rfl (lv_at hl 1 rfl) ?_
        refine lv_aload_n hx hb dX10_taken_15 rfl (lv_at hl 0 rfl) ?_
        refine lv_iload_n hx hb dX10_taken_16 rfl (lv_at hl 2 rfl) ?_
        refine KVi (As := [.int v2]) (rest := [.int v1]) FX (c_X10_stands l D cI cB cS a_this a_all a_has a_few a_sawn a_cut a_todo a_press a_gone v2 f_all _ hV) ok_X10_stands im_X10_stands se_X10_stands li_X10_90 dX10_taken_17 hK hP hS hA [0, 1] [] 0 rfl rfl rfl (by decide) rfl rfl hl.1 (Nat.le_of_ble_eq_true rfl) ⟨Nat.le_of_ble_eq_true rfl, Nat.le_of_ble_eq_true rfl⟩ ⟨Nat.le_of_ble_eq_true rfl, Nat.le_of_ble_eq_true rfl⟩ (fun r_1 _ H locs hV hP hS => ?_)
        have hP : PD D A [oc a_this 9 [.ref a_all, .ref a_has, .ref a_few, .ref a_sawn, .ref a_cut, .ref a_todo, .ref a_press, .ref a_gone], ai cI a_all 3320 f_all] H := hP
        refine lv_if_eq (tgt := 27) hx hb dX10_taken_20 (by decide) (fun h => ?_) (fun h => ?_)
        · have hV := hV.1 h
          refine lv_iconst (v := 1) hx hb dX10_taken_27 (by decide) ?_
          refine lv_iadd hx hb dX10_taken_28 ?_
          refine lv_topi (fun v1_2 e_v1_2 => ?_)
          have hV := hV v1_2 e_v1_2
          refine lv_istore_n (lv' := [(1, .int v1_2), (0, .ref a_this), (2, .int v2)]) hx hb dX10_taken_29 rfl hl (by decide) rfl (fun ls hl => ?_)
          obtain ⟨v2_3, e_v2_3⟩ : ∃ y : Int32, y = (v2 + 1) := ⟨_, rfl⟩
          have hV := hV v2_3 e_v2_3
          refine lv_iinc (v := v2_3) (lv' := [(2, .int v2_3), (1, .int v1_2), (0, .ref a_this)]) hx hb dX10_taken_30 hl (k := 2) rfl (by rw [e_v2_3]; rfl) (by decide) rfl (fun ls hl => ?_)
          refine lv_goto (tgt := 4) hx hb dX10_taken_33 (by decide) ?_
          exact ih4 v1_2 v2_3 _ _ _ hP hS (lv_sub hl [2, 1, 0] rfl) hV
        · have hV := hV.2 h
          refine lv_iconst (v := 0) hx hb dX10_taken_23 (by decide) ?_
          refine lv_goto (tgt := 28) hx hb dX10_taken_24 (by decide) ?_
          refine lv_iadd hx hb dX10_taken_28 ?_
          refine lv_topi (fun v1_4 e_v1_4 => ?_)
          have hV := hV v1_4 e_v1_4
          refine lv_istore_n (lv' := [(1, .int v1_4), (0, .ref a_this), (2, .int v2)]) hx hb dX10_taken_29 rfl hl (by decide) rfl (fun ls hl => ?_)
          obtain ⟨v2_5, e_v2_5⟩ : ∃ y : Int32, y = (v2 + 1) := ⟨_, rfl⟩
          have hV := hV v2_5 e_v2_5
          refine lv_iinc (v := v2_5) (lv' := [(2, .int v2_5), (1, .int v1_4), (0, .ref a_this)]) hx hb dX10_taken_30 hl (k := 2) rfl (by rw [e_v2_5]; rfl) (by decide) rfl (fun ls hl => ?_)
          refine lv_goto (tgt := 4) hx hb dX10_taken_33 (by decide) ?_
          exact ih4 v1_4 v2_5 _ _ _ hP hS (lv_sub hl [2, 1, 0] rfl) hV
  refine lv_iconst (v := 0) hx hb dX10_taken_0 (by decide) ?_
  refine lv_istore_n (lv' := [(1, .int 0), (0, .ref a_this)]) hx hb dX10_taken_1 rfl hl (by decide) rfl (fun ls hl => ?_)
  refine lv_iconst (v := 0) hx hb dX10_taken_2 (by decide) ?_
  refine lv_istore_n (lv' := [(2, .int 0), (1, .int 0), (0, .ref a_this)]) hx hb dX10_taken_3 rfl hl (by decide) rfl (fun ls hl => ?_)
  obtain ⟨k, hV⟩ := hV
  exact b4 k 0 0 _ _ _ hP hS (lv_sub hl [2, 1, 0] rfl) hV

def rm_X10_uppermost : Room := { frames := 3, cells := 0, slots := 0, locals := 65 }
def V_X10_uppermost_4 (x1 : Int32) (f_all : Nat → Int32) (post : Int32 → Prop) : Nat → Int32 → Int32 → Prop
  | 0, _, _ => False
  | n + 1, v2, v3 => P_X10_taken f_all (fun r_1 => ((r_1 ≤ v3 → post v2) ∧ (¬ r_1 ≤ v3 → (vp_in (760 + v3) 3320 ∧ P_X10_of (f_all (760 + v3).toNatClampNeg) 5 f_all (fun r_2 => ((r_2 = x1 → (vp_in (760 + v3) 3320 ∧ (∀ v2_4 : Int32, v2_4 = (f_all (760 + v3).toNatClampNeg) → (∀ v3_5 : Int32, v3_5 = (v3 + 1) → V_X10_uppermost_4 x1 f_all post n v2_4 v3_5)))) ∧ (¬ r_2 = x1 → (∀ v3_3 : Int32, v3_3 = (v3 + 1) → V_X10_uppermost_4 x1 f_all post n v2 v3_3))))))))
theorem V_X10_uppermost_4_s (x1 : Int32) (f_all : Nat → Int32) (post : Int32 → Prop) (n : Nat) (v2 : Int32) (v3 : Int32) : V_X10_uppermost_4 x1 f_all post (n + 1) v2 v3 = (P_X10_taken f_all (fun r_1 => ((r_1 ≤ v3 → post v2) ∧ (¬ r_1 ≤ v3 → (vp_in (760 + v3) 3320 ∧ P_X10_of (f_all (760 + v3).toNatClampNeg) 5 f_all (fun r_2 => ((r_2 = x1 → (vp_in (760 + v3) 3320 ∧ (∀ v2_4 : Int32, v2_4 = (f_all (760 + v3).toNatClampNeg) → (∀ v3_5 : Int32, v3_5 = (v3 + 1) → V_X10_uppermost_4 x1 f_all post n v2_4 v3_5)))) ∧ (¬ r_2 = x1 → (∀ v3_3 : Int32, v3_3 = (v3 + 1) → V_X10_uppermost_4 x1 f_all post n v2 v3_3))))))))) := rfl
def P_X10_uppermost (x1 : Int32) (f_all : Nat → Int32) (post : Int32 → Prop) : Prop := (∃ k : Nat, V_X10_uppermost_4 x1 f_all post k (-1) 0)
set_option maxRecDepth 100000 in
set_option maxHeartbeats 4000000 in
theorem c_X10_uppermost (l : Launch) (D : va_G) (cI cB cS : ClassId) (a_this a_all a_has a_few a_sawn a_cut a_todo a_press a_gone : Nat) (x1 : Int32) (f_all : Nat → Int32) (post : Int32 → Prop) (hV : P_X10_uppermost x1 f_all post) : Ci l yX10_uppermost cX10_uppermost 4 (some .int) rm_X10_uppermost D cI cB cS [.ref a_this, .int x1] [oc a_this 9 [.ref a_all, .ref a_has, .ref a_few, .ref a_sawn, .ref a_cut, .ref a_todo, .ref a_press, .ref a_gone], ai cI a_all 3320 f_all] (fun r (_ : Unit) => post r) (fun (_ : Unit) => [oc a_this 9 [.ref a_all, .ref a_has, .ref a_few, .ref a_sawn, .ref a_cut, .ref a_todo, .ref a_press, .ref a_gone], ai cI a_all 3320 f_all]) := by
  refine Ci.of ok_X10_uppermost (Nat.le_of_ble_eq_true rfl) ?_
  intro p e s m args below meth c A Q hx hb hml hown ht hnm hK hP hA hS hret ls hl
  have hown : s.vm.findClass RX10 = some m.cls := hown
  have FX : CallFix p m c cX10_uppermost 4 s args tblG RX10 := ⟨hx, hb, hml, hown, ht⟩
  have hP : PD D A [oc a_this 9 [.ref a_all, .ref a_has, .ref a_few, .ref a_sawn, .ref a_cut, .ref a_todo, .ref a_press, .ref a_gone], ai cI a_all 3320 f_all] s.heap := hP
  have hl : lv_has ls 4 [(0, .ref a_this), (1, .int x1)] := hl
  unfold P_X10_uppermost at hV
  have b4 : ∀  (k4 : Nat) (v2 : Int32) (v3 : Int32) (H : Heap) (locs : List Loc) (ls : Array Slot), PD D A [oc a_this 9 [.ref a_all, .ref a_has, .ref a_few, .ref a_sawn, .ref a_cut, .ref a_todo, .ref a_press, .ref a_gone], ai cI a_all 3320 f_all] H → va_S A s.heap H locs → lv_has ls 4 [(0, .ref a_this), (1, .int x1), (2, .int v2), (3, .int v3)] → V_X10_uppermost_4 x1 f_all post k4 v2 v3 → W p l e rm_X10_uppermost s m args below meth c H locs 0 0 Q (F0 m 4 ls []) := by
    intro  k4
    induction k4 with
    | zero => intro v2 v3 H locs ls hP hS hl hV; exact False.elim hV
    | succ k4 ih4 =>
      intro v2 v3 H locs ls hP hS hl hV
      rw [V_X10_uppermost_4_s] at hV
      refine lv_iload_n hx hb dX10_uppermost_4 rfl (lv_at hl 3 rfl) ?_
      refine lv_aload_n hx hb dX10_uppermost_5 rfl (lv_at hl 0 rfl) ?_
      refine KVi (As := []) (rest := [.int v3]) FX (c_X10_taken l D cI cB cS a_this a_all a_has a_few a_sawn a_cut a_todo a_press a_gone f_all _ hV) ok_X10_taken im_X10_taken se_X10_taken li_X10_109 dX10_uppermost_6 hK hP hS hA [0, 1] [] 0 rfl rfl rfl (by decide) rfl rfl hl.1 (Nat.le_of_ble_eq_true rfl) ⟨Nat.le_of_ble_eq_true rfl, Nat.le_of_ble_eq_true rfl⟩ ⟨Nat.le_of_ble_eq_true rfl, Nat.le_of_ble_eq_true rfl⟩ (fun r_1 _ H locs hV hP hS => ?_)
      have hP : PD D A [oc a_this 9 [.ref a_all, .ref a_has, .ref a_few, .ref a_sawn, .ref a_cut, .ref a_todo, .ref a_press, .ref a_gone], ai cI a_all 3320 f_all] H := hP
      refine lv_icmp_ge (tgt := 48) hx hb dX10_uppermost_9 (by decide) (fun h => ?_) (fun h => ?_)
      · have hV := hV.1 h
        refine lv_iload_n hx hb dX10_uppermost_48 rfl (lv_at hl 2 rfl) ?_
        exact hret _ _ _ _ _ () hS dX10_uppermost_49 hP hV
      · have hV := hV.2 h
        refine lv_aload_n hx hb dX10_uppermost_12 rfl (lv_at hl 0 rfl) ?_
        refine lv_aload_n hx hb dX10_uppermost_13 rfl (lv_at hl 0 rfl) ?_
        refine gX10 hx hb ht hown hK hP 0 rfl 0 (by decide) fl_X10_7 (fun _ h => h) rfl dX10_uppermost_14 ?_
        refine lv_sipush (v := 760) hx hb dX10_uppermost_17 (by decide) ?_
        refine lv_iload_n hx hb dX10_uppermost_20 rfl (lv_at hl 3 rfl) ?_
        refine lv_iadd hx hb dX10_uppermost_21 ?_
        refine ild hx hb hK hP 1 rfl dX10_uppermost_22 hV.1 ?_
        have hV := hV.2
        refine lv_iconst (v := 5) hx hb dX10_uppermost_23 (by decide) ?_
        refine KVi (As := [.int (f_all (760 + v3).toNatClampNeg), .int 5]) (rest := []) FX (c_X10_of l D cI cB cS a_this a_all a_has a_few a_sawn a_cut a_todo a_press a_gone (f_all (760 + v3).toNatClampNeg) 5 f_all _ hV) ok_X10_of im_X10_of se_X10_of li_X10_86 dX10_uppermost_24 hK hP hS hA [0, 1] [] 0 rfl rfl rfl (by decide) rfl rfl hl.1 (Nat.le_of_ble_eq_true rfl) ⟨Nat.le_of_ble_eq_true rfl, Nat.le_of_ble_eq_true rfl⟩ ⟨Nat.le_of_ble_eq_true rfl, Nat.le_of_ble_eq_true rfl⟩ (fun r_2 _ H locs hV hP hS => ?_)
        have hP : PD D A [oc a_this 9 [.ref a_all, .ref a_has, .ref a_few, .ref a_sawn, .ref a_cut, .ref a_todo, .ref a_press, .ref a_gone], ai cI a_all 3320 f_all] H := hP
        refine lv_iload_n hx hb dX10_uppermost_27 rfl (lv_at hl 1 rfl) ?_
        refine lv_icmp_ne (tgt := 42) hx hb dX10_uppermost_28 (by decide) (fun h => ?_) (fun h => ?_)
        · have hV := hV.2 h
          obtain ⟨v3_3, e_v3_3⟩ : ∃ y : Int32, y = (v3 + 1) := ⟨_, rfl⟩
          have hV := hV v3_3 e_v3_3
          refine lv_iinc (v := v3_3) (lv' := [(3, .int v3_3), (0, .ref a_this), (1, .int x1), (2, .int v2)]) hx hb dX10_uppermost_42 hl (k := 3) rfl (by rw [e_v3_3]; rfl) (by decide) rfl (fun ls hl => ?_)
          refine lv_goto (tgt := 4) hx hb dX10_uppermost_45 (by decide) ?_
          exact ih4 v2 v3_3 _ _ _ hP hS (lv_sub hl [1, 2, 3, 0] rfl) hV
        · have hV := hV.1 h
          refine lv_aload_n hx hb dX10_uppermost_31 rfl (lv_at hl 0 rfl) ?_
          refine gX10 hx hb ht hown hK hP 0 rfl 0 (by decide) fl_X10_7 (fun _ h => h) rfl dX10_uppermost_32 ?_
          refine lv_sipush (v := 760) hx hb dX10_uppermost_35 (by decide) ?_
          refine lv_iload_n hx hb dX10_uppermost_38 rfl (lv_at hl 3 rfl) ?_
          refine lv_iadd hx hb dX10_uppermost_39 ?_
          refine ild hx hb hK hP 1 rfl dX10_uppermost_40 hV.1 ?_
          have hV := hV.2
          refine lv_topi (fun v2_4 e_v2_4 => ?_)
          have hV := hV v2_4 e_v2_4
          refine lv_istore_n (lv' := [(2, .int v2_4), (0, .ref a_this), (1, .int x1), (3, .int v3)]) hx hb dX10_uppermost_41 rfl hl (by decide) rfl (fun ls hl => ?_)
          obtain ⟨v3_5, e_v3_5⟩ : ∃ y : Int32, y = (v3 + 1) := ⟨_, rfl⟩
          have hV := hV v3_5 e_v3_5
          refine lv_iinc (v := v3_5) (lv' := [(3, .int v3_5), (2, .int v2_4), (0, .ref a_this), (1, .int x1)]) hx hb dX10_uppermost_42 hl (k := 3) rfl (by rw [e_v3_5]; rfl) (by decide) rfl (fun ls hl => ?_)
          refine lv_goto (tgt := 4) hx hb dX10_uppermost_45 (by decide) ?_
          exact ih4 v2_4 v3_5 _ _ _ hP hS (lv_sub hl [2, 3, 1, 0] rfl) hV
  refine lv_iconst (v := (-1)) hx hb dX10_uppermost_0 (by decide) ?_
  refine lv_istore_n (lv' := [(2, .int (-1)), (0, .ref a_this), (1, .int x1)]) hx hb dX10_uppermost_1 rfl hl (by decide) rfl (fun ls hl => ?_)
  refine lv_iconst (v := 0) hx hb dX10_uppermost_2 (by decide) ?_
  refine lv_istore_n (lv' := [(3, .int 0), (2, .int (-1)), (0, .ref a_this), (1, .int x1)]) hx hb dX10_uppermost_3 rfl hl (by decide) rfl (fun ls hl => ?_)
  obtain ⟨k, hV⟩ := hV
  exact b4 k (-1) 0 _ _ _ hP hS (lv_sub hl [2, 3, 1, 0] rfl) hV

def rm_X10_take : Room := { frames := 4, cells := 0, slots := 0, locals := 88 }
def J_X10_take_174 (x1 : Int32) (post : Int32 → (Nat → Int32) → Prop) (v3 : Int32) (f_all : Nat → Int32) : Prop := P_X10_taken f_all (fun r_1 => (vp_in (760 + r_1) 3320 ∧ ∀ f_all_2 : Nat → Int32, f_all_2 = upd f_all (760 + r_1).toNatClampNeg x1 → (vp_in 4 3320 ∧ (vp_in ((170 + (8 * x1)) + 4) 3320 ∧ ∀ f_all_3 : Nat → Int32, f_all_3 = upd f_all_2 ((170 + (8 * x1)) + 4).toNatClampNeg (f_all_2 (4 : Int32).toNatClampNeg) → (vp_in ((170 + (8 * x1)) + 5) 3320 ∧ ∀ f_all_4 : Nat → Int32, f_all_4 = upd f_all_3 ((170 + (8 * x1)) + 5).toNatClampNeg v3 → (vp_in 4 3320 ∧ (vp_in 4 3320 ∧ ∀ f_all_5 : Nat → Int32, f_all_5 = upd f_all_4 (4 : Int32).toNatClampNeg ((f_all_4 (4 : Int32).toNatClampNeg) + 1) → post v3 f_all_5)))))))
def V_X10_take_84 (x1 : Int32) (f_all : Nat → Int32) (post : Int32 → (Nat → Int32) → Prop) : Nat → Int32 → Int32 → Prop
  | 0, _, _ => False
  | n + 1, v3, v4 => (vp_in 7 3320 ∧ (((f_all (7 : Int32).toNatClampNeg) ≤ v4 → ((0 ≤ v3 → J_X10_take_174 x1 post v3 f_all) ∧ (¬ 0 ≤ v3 → (vp_in 7 3320 ∧ (∀ v3_6 : Int32, v3_6 = (f_all (7 : Int32).toNatClampNeg) → (vp_in 7 3320 ∧ (vp_in 7 3320 ∧ ∀ f_all_7 : Nat → Int32, f_all_7 = upd f_all (7 : Int32).toNatClampNeg ((f_all (7 : Int32).toNatClampNeg) + 1) → J_X10_take_174 x1 post v3_6 f_all_7))))))) ∧ (¬ (f_all (7 : Int32).toNatClampNeg) ≤ v4 → P_X10_uppermost v4 f_all (fun r_8 => P_X10_of r_8 6 f_all (fun r_9 => P_X10_of x1 6 f_all (fun r_10 => ((r_9 ≤ r_10 → (∀ v4_11 : Int32, v4_11 = (v4 + 1) → V_X10_take_84 x1 f_all post n v3 v4_11)) ∧ (¬ r_9 ≤ r_10 → ((v3 < 0 → (∀ v4_12 : Int32, v4_12 = (v4 + 1) → V_X10_take_84 x1 f_all post n v4 v4_12)) ∧ (¬ v3 < 0 → P_X10_uppermost v3 f_all (fun r_13 => P_X10_of r_13 6 f_all (fun r_14 => ((r_14 ≤ r_9 → (∀ v4_15 : Int32, v4_15 = (v4 + 1) → V_X10_take_84 x1 f_all post n v3 v4_15)) ∧ (¬ r_14 ≤ r_9 → (∀ v4_16 : Int32, v4_16 = (v4 + 1) → V_X10_take_84 x1 f_all post n v4 v4_16)))))))))))))))
theorem V_X10_take_84_s (x1 : Int32) (f_all : Nat → Int32) (post : Int32 → (Nat → Int32) → Prop) (n : Nat) (v3 : Int32) (v4 : Int32) : V_X10_take_84 x1 f_all post (n + 1) v3 v4 = ((vp_in 7 3320 ∧ (((f_all (7 : Int32).toNatClampNeg) ≤ v4 → ((0 ≤ v3 → J_X10_take_174 x1 post v3 f_all) ∧ (¬ 0 ≤ v3 → (vp_in 7 3320 ∧ (∀ v3_6 : Int32, v3_6 = (f_all (7 : Int32).toNatClampNeg) → (vp_in 7 3320 ∧ (vp_in 7 3320 ∧ ∀ f_all_7 : Nat → Int32, f_all_7 = upd f_all (7 : Int32).toNatClampNeg ((f_all (7 : Int32).toNatClampNeg) + 1) → J_X10_take_174 x1 post v3_6 f_all_7))))))) ∧ (¬ (f_all (7 : Int32).toNatClampNeg) ≤ v4 → P_X10_uppermost v4 f_all (fun r_8 => P_X10_of r_8 6 f_all (fun r_9 => P_X10_of x1 6 f_all (fun r_10 => ((r_9 ≤ r_10 → (∀ v4_11 : Int32, v4_11 = (v4 + 1) → V_X10_take_84 x1 f_all post n v3 v4_11)) ∧ (¬ r_9 ≤ r_10 → ((v3 < 0 → (∀ v4_12 : Int32, v4_12 = (v4 + 1) → V_X10_take_84 x1 f_all post n v4 v4_12)) ∧ (¬ v3 < 0 → P_X10_uppermost v3 f_all (fun r_13 => P_X10_of r_13 6 f_all (fun r_14 => ((r_14 ≤ r_9 → (∀ v4_15 : Int32, v4_15 = (v4 + 1) → V_X10_take_84 x1 f_all post n v3 v4_15)) ∧ (¬ r_14 ≤ r_9 → (∀ v4_16 : Int32, v4_16 = (v4 + 1) → V_X10_take_84 x1 f_all post n v4 v4_16)))))))))))))))) := rfl
def J_X10_take_58 (x1 : Int32) (post : Int32 → (Nat → Int32) → Prop) (s0 : Int32) (f_all : Nat → Int32) : Prop := (vp_in (10 + s0) 3320 ∧ P_X10_of x1 1 f_all (fun r_17 => (((f_all (10 + s0).toNatClampNeg) ≤ r_17 → (∃ k : Nat, V_X10_take_84 x1 f_all post k (-1) 0)) ∧ (¬ (f_all (10 + s0).toNatClampNeg) ≤ r_17 → post (-1) f_all))))
def P_X10_take (x1 : Int32) (f_all : Nat → Int32) (post : Int32 → (Nat → Int32) → Prop) : Prop := P_X10_isThere x1 f_all (fun r_18 => ((r_18 = 0 → post (-1) f_all) ∧ (¬ r_18 = 0 → P_X10_isFree x1 f_all (fun r_19 => ((r_19 = 0 → post (-1) f_all) ∧ (¬ r_19 = 0 → (vp_in 4 3320 ∧ (((f_all (4 : Int32).toNatClampNeg) = 5000 → post (-1) f_all) ∧ (¬ (f_all (4 : Int32).toNatClampNeg) = 5000 → (vp_in 4 3320 ∧ ((((f_all (4 : Int32).toNatClampNeg) / 30) ≤ 11 → (vp_in 4 3320 ∧ J_X10_take_58 x1 post ((f_all (4 : Int32).toNatClampNeg) / 30) f_all)) ∧ (¬ ((f_all (4 : Int32).toNatClampNeg) / 30) ≤ 11 → J_X10_take_58 x1 post 11 f_all))))))))))))
set_option maxRecDepth 100000 in
set_option maxHeartbeats 4000000 in
theorem c_X10_take (l : Launch) (D : va_G) (cI cB cS : ClassId) (a_this a_all a_has a_few a_sawn a_cut a_todo a_press a_gone : Nat) (x1 : Int32) (f_all : Nat → Int32) (post : Int32 → (Nat → Int32) → Prop) (hV : P_X10_take x1 f_all post) : Ci l yX10_take cX10_take 6 (some .int) rm_X10_take D cI cB cS [.ref a_this, .int x1] [oc a_this 9 [.ref a_all, .ref a_has, .ref a_few, .ref a_sawn, .ref a_cut, .ref a_todo, .ref a_press, .ref a_gone], ai cI a_all 3320 f_all] (fun r (u : (Nat → Int32)) => post r u) (fun (u : (Nat → Int32)) => [oc a_this 9 [.ref a_all, .ref a_has, .ref a_few, .ref a_sawn, .ref a_cut, .ref a_todo, .ref a_press, .ref a_gone], ai cI a_all 3320 u]) := by
  refine Ci.of ok_X10_take (Nat.le_of_ble_eq_true rfl) ?_
  intro p e s m args below meth c A Q hx hb hml hown ht hnm hK hP hA hS hret ls hl
  have hown : s.vm.findClass RX10 = some m.cls := hown
  have FX : CallFix p m c cX10_take 6 s args tblG RX10 := ⟨hx, hb, hml, hown, ht⟩
  have hP : PD D A [oc a_this 9 [.ref a_all, .ref a_has, .ref a_few, .ref a_sawn, .ref a_cut, .ref a_todo, .ref a_press, .ref a_gone], ai cI a_all 3320 f_all] s.heap := hP
  have hl : lv_has ls 6 [(0, .ref a_this), (1, .int x1)] := hl
  unfold P_X10_take at hV
  have b174 : ∀ (v3 : Int32) (f_all : Nat → Int32) (H : Heap) (locs : List Loc) (ls : Array Slot), PD D A [oc a_this 9 [.ref a_all, .ref a_has, .ref a_few, .ref a_sawn, .ref a_cut, .ref a_todo, .ref a_press, .ref a_gone], ai cI a_all 3320 f_all] H → va_S A s.heap H locs → lv_has ls 6 [(0, .ref a_this), (1, .int x1), (3, .int v3)] → J_X10_take_174 x1 post v3 f_all → W p l e rm_X10_take s m args below meth c H locs 0 0 Q (F0 m 174 ls []) := by
    intro v3 f_all H locs ls hP hS hl hV
    unfold J_X10_take_174 at hV
    refine lv_aload_n hx hb dX10_take_174 rfl (lv_at hl 0 rfl) ?_
    refine gX10 hx hb ht hown hK hP 0 rfl 0 (by decide) fl_X10_7 (fun _ h => h) rfl dX10_take_175 ?_
    refine lv_sipush (v := 760) hx hb dX10_take_178 (by decide) ?_
    refine lv_aload_n hx hb dX10_take_181 rfl (lv_at hl 0 rfl) ?_
    refine KVi (As := []) (rest := [.int 760, .ref a_all]) FX (c_X10_taken l D cI cB cS a_this a_all a_has a_few a_sawn a_cut a_todo a_press a_gone f_all _ hV) ok_X10_taken im_X10_taken se_X10_taken li_X10_109 dX10_take_182 hK hP hS hA [0, 1] [] 0 rfl rfl rfl (by decide) rfl rfl hl.1 (Nat.le_of_ble_eq_true rfl) ⟨Nat.le_of_ble_eq_true rfl, Nat.le_of_ble_eq_true rfl⟩ ⟨Nat.le_of_ble_eq_true rfl, Nat.le_of_ble_eq_true rfl⟩ (fun r_1 _ H locs hV hP hS => ?_)
    have hP : PD D A [oc a_this 9 [.ref a_all, .ref a_has, .ref a_few, .ref a_sawn, .ref a_cut, .ref a_todo, .ref a_press, .ref a_gone], ai cI a_all 3320 f_all] H := hP
    refine lv_iadd hx hb dX10_take_185 ?_
    refine lv_iload_n hx hb dX10_take_186 rfl (lv_at hl 1 rfl) ?_
    refine ist hx hb hK hP hS 1 rfl dX10_take_187 hV.1 (fun f_all_2 e_f_all_2 H locs hP hS => ?_)
    have hV := hV.2 f_all_2 e_f_all_2
    have hP : PD D A [oc a_this 9 [.ref a_all, .ref a_has, .ref a_few, .ref a_sawn, .ref a_cut, .ref a_todo, .ref a_press, .ref a_gone], ai cI a_all 3320 f_all_2] H := hP
    refine lv_aload_n hx hb dX10_take_188 rfl (lv_at hl 0 rfl) ?_
    refine gX10 hx hb ht hown hK hP 0 rfl 0 (by decide) fl_X10_7 (fun _ h => h) rfl dX10_take_189 ?_
    refine lv_sipush (v := 170) hx hb dX10_take_192 (by decide) ?_
    refine lv_bipush (v := 8) hx hb dX10_take_195 (by decide) ?_
    refine lv_iload_n hx hb dX10_take_197 rfl (lv_at hl 1 rfl) ?_
    refine lv_imul hx hb dX10_take_198 ?_
    refine lv_iadd hx hb dX10_take_199 ?_
    refine lv_iconst (v := 4) hx hb dX10_take_200 (by decide) ?_
    refine lv_iadd hx hb dX10_take_201 ?_
    refine lv_aload_n hx hb dX10_take_202 rfl (lv_at hl 0 rfl) ?_
    refine gX10 hx hb ht hown hK hP 0 rfl 0 (by decide) fl_X10_7 (fun _ h => h) rfl dX10_take_203 ?_
    refine lv_iconst (v := 4) hx hb dX10_take_206 (by decide) ?_
    refine ild hx hb hK hP 1 rfl dX10_take_207 hV.1 ?_
    have hV := hV.2
    refine ist hx hb hK hP hS 1 rfl dX10_take_208 hV.1 (fun f_all_3 e_f_all_3 H locs hP hS => ?_)
    have hV := hV.2 f_all_3 e_f_all_3
    have hP : PD D A [oc a_this 9 [.ref a_all, .ref a_has, .ref a_few, .ref a_sawn, .ref a_cut, .ref a_todo, .ref a_press, .ref a_gone], ai cI a_all 3320 f_all_3] H := hP
    refine lv_aload_n hx hb dX10_take_209 rfl (lv_at hl 0 rfl) ?_
    refine gX10 hx hb ht hown hK hP 0 rfl 0 (by decide) fl_X10_7 (fun _ h => h) rfl dX10_take_210 ?_
    refine lv_sipush (v := 170) hx hb dX10_take_213 (by decide) ?_
    refine lv_bipush (v := 8) hx hb dX10_take_216 (by decide) ?_
    refine lv_iload_n hx hb dX10_take_218 rfl (lv_at hl 1 rfl) ?_
    refine lv_imul hx hb dX10_take_219 ?_
    refine lv_iadd hx hb dX10_take_220 ?_
    refine lv_iconst (v := 5) hx hb dX10_take_221 (by decide) ?_
    refine lv_iadd hx hb dX10_take_222 ?_
    refine lv_iload_n hx hb dX10_take_223 rfl (lv_at hl 2 rfl) ?_
    refine ist hx hb hK hP hS 1 rfl dX10_take_224 hV.1 (fun f_all_4 e_f_all_4 H locs hP hS => ?_)
    have hV := hV.2 f_all_4 e_f_all_4
    have hP : PD D A [oc a_this 9 [.ref a_all, .ref a_has, .ref a_few, .ref a_sawn, .ref a_cut, .ref a_todo, .ref a_press, .ref a_gone], ai cI a_all 3320 f_all_4] H := hP
    refine lv_aload_n hx hb dX10_take_225 rfl (lv_at hl 0 rfl) ?_
    refine gX10 hx hb ht hown hK hP 0 rfl 0 (by decide) fl_X10_7 (fun _ h => h) rfl dX10_take_226 ?_
    refine lv_iconst (v := 4) hx hb dX10_take_229 (by decide) ?_
    refine lv_dup2_11 hx hb dX10_take_230 rfl rfl ?_
    refine ild hx hb hK hP 1 rfl dX10_take_231 hV.1 ?_
    have hV := hV.2
    refine lv_iconst (v := 1) hx hb dX10_take_232 (by decide) ?_
    refine lv_iadd hx hb dX10_take_233 ?_
    refine ist hx hb hK hP hS 1 rfl dX10_take_234 hV.1 (fun f_all_5 e_f_all_5 H locs hP hS => ?_)
    have hV := hV.2 f_all_5 e_f_all_5
    have hP : PD D A [oc a_this 9 [.ref a_all, .ref a_has, .ref a_few, .ref a_sawn, .ref a_cut, .ref a_todo, .ref a_press, .ref a_gone], ai cI a_all 3320 f_all_5] H := hP
    refine lv_iload_n hx hb dX10_take_235 rfl (lv_at hl 2 rfl) ?_
    exact hret _ _ _ _ _ f_all_5 hS dX10_take_236 hP hV
  have b84 : ∀ (f_all : Nat → Int32) (k84 : Nat) (v3 : Int32) (v4 : Int32) (H : Heap) (locs : List Loc) (ls : Array Slot), PD D A [oc a_this 9 [.ref a_all, .ref a_has, .ref a_few, .ref a_sawn, .ref a_cut, .ref a_todo, .ref a_press, .ref a_gone], ai cI a_all 3320 f_all] H → va_S A s.heap H locs → lv_has ls 6 [(0, .ref a_this), (1, .int x1), (3, .int v3), (4, .int v4)] → V_X10_take_84 x1 f_all post k84 v3 v4 → W p l e rm_X10_take s m args below meth c H locs 0 0 Q (F0 m 84 ls []) := by
    intro f_all k84
    induction k84 with
    | zero => intro v3 v4 H locs ls hP hS hl hV; exact False.elim hV
    | succ k84 ih84 =>
      intro v3 v4 H locs ls hP hS hl hV
      rw [V_X10_take_84_s] at hV
      refine lv_iload hx hb dX10_take_84 (lv_at hl 3 rfl) ?_
      refine lv_aload_n hx hb dX10_take_86 rfl (lv_at hl 0 rfl) ?_
      refine gX10 hx hb ht hown hK hP 0 rfl 0 (by decide) fl_X10_7 (fun _ h => h) rfl dX10_take_87 ?_
      refine lv_bipush (v := 7) hx hb dX10_take_90 (by decide) ?_
      refine ild hx hb hK hP 1 rfl dX10_take_92 hV.1 ?_
      have hV := hV.2
      refine lv_icmp_ge (tgt := 151) hx hb dX10_take_93 (by decide) (fun h => ?_) (fun h => ?_)
      · have hV := hV.1 h
        refine lv_iload_n hx hb dX10_take_151 rfl (lv_at hl 2 rfl) ?_
        refine lv_if_ge (tgt := 174) hx hb dX10_take_152 (by decide) (fun h => ?_) (fun h => ?_)
        · have hV := hV.1 h
          exact b174 v3 f_all _ _ _ hP hS (lv_sub hl [0, 1, 2] rfl) hV
        · have hV := hV.2 h
          refine lv_aload_n hx hb dX10_take_155 rfl (lv_at hl 0 rfl) ?_
          refine gX10 hx hb ht hown hK hP 0 rfl 0 (by decide) fl_X10_7 (fun _ h => h) rfl dX10_take_156 ?_
          refine lv_bipush (v := 7) hx hb dX10_take_159 (by decide) ?_
          refine ild hx hb hK hP 1 rfl dX10_take_161 hV.1 ?_
          have hV := hV.2
          refine lv_topi (fun v3_6 e_v3_6 => ?_)
          have hV := hV v3_6 e_v3_6
          refine lv_istore_n (lv' := [(3, .int v3_6), (0, .ref a_this), (1, .int x1), (4, .int v4)]) hx hb dX10_take_162 rfl hl (by decide) rfl (fun ls hl => ?_)
          refine lv_aload_n hx hb dX10_take_163 rfl (lv_at hl 1 rfl) ?_
          refine gX10 hx hb ht hown hK hP 0 rfl 0 (by decide) fl_X10_7 (fun _ h => h) rfl dX10_take_164 ?_
          refine lv_bipush (v := 7) hx hb dX10_take_167 (by decide) ?_
          refine lv_dup2_11 hx hb dX10_take_169 rfl rfl ?_
          refine ild hx hb hK hP 1 rfl dX10_take_170 hV.1 ?_
          have hV := hV.2
          refine lv_iconst (v := 1) hx hb dX10_take_171 (by decide) ?_
          refine lv_iadd hx hb dX10_take_172 ?_
          refine ist hx hb hK hP hS 1 rfl dX10_take_173 hV.1 (fun f_all_7 e_f_all_7 H locs hP hS => ?_)
          have hV := hV.2 f_all_7 e_f_all_7
          have hP : PD D A [oc a_this 9 [.ref a_all, .ref a_has, .ref a_few, .ref a_sawn, .ref a_cut, .ref a_todo, .ref a_press, .ref a_gone], ai cI a_all 3320 f_all_7] H := hP
          exact b174 v3_6 f_all_7 _ _ _ hP hS (lv_sub hl [1, 2, 0] rfl) hV
      · have hV := hV.2 h
        refine lv_aload_n hx hb dX10_take_96 rfl (lv_at hl 0 rfl) ?_
        refine lv_aload_n hx hb dX10_take_97 rfl (lv_at hl 0 rfl) ?_
        refine lv_iload hx hb dX10_take_98 (lv_at hl 3 rfl) ?_
        refine KVi (As := [.int v4]) (rest := [.ref a_this]) FX (c_X10_uppermost l D cI cB cS a_this a_all a_has a_few a_sawn a_cut a_todo a_press a_gone v4 f_all _ hV) ok_X10_uppermost im_X10_uppermost se_X10_uppermost li_X10_113 dX10_take_100 hK hP hS hA [0, 1] [] 0 rfl rfl rfl (by decide) rfl rfl hl.1 (Nat.le_of_ble_eq_true rfl) ⟨Nat.le_of_ble_eq_true rfl, Nat.le_of_ble_eq_true rfl⟩ ⟨Nat.le_of_ble_eq_true rfl, Nat.le_of_ble_eq_true rfl⟩ (fun r_8 _ H locs hV hP hS => ?_)
        have hP : PD D A [oc a_this 9 [.ref a_all, .ref a_has, .ref a_few, .ref a_sawn, .ref a_cut, .ref a_todo, .ref a_press, .ref a_gone], ai cI a_all 3320 f_all] H := hP
        refine lv_bipush (v := 6) hx hb dX10_take_103 (by decide) ?_
        refine KVi (As := [.int r_8, .int 6]) (rest := []) FX (c_X10_of l D cI cB cS a_this a_all a_has a_few a_sawn a_cut a_todo a_press a_gone r_8 6 f_all _ hV) ok_X10_of im_X10_of se_X10_of li_X10_86 dX10_take_105 hK hP hS hA [0, 1] [] 0 rfl rfl rfl (by decide) rfl rfl hl.1 (Nat.le_of_ble_eq_true rfl) ⟨Nat.le_of_ble_eq_true rfl, Nat.le_of_ble_eq_true rfl⟩ ⟨Nat.le_of_ble_eq_true rfl, Nat.le_of_ble_eq_true rfl⟩ (fun r_9 _ H locs hV hP hS => ?_)
        have hP : PD D A [oc a_this 9 [.ref a_all, .ref a_has, .ref a_few, .ref a_sawn, .ref a_cut, .ref a_todo, .ref a_press, .ref a_gone], ai cI a_all 3320 f_all] H := hP
        refine lv_istore (lv' := [(5, .int r_9), (0, .ref a_this), (1, .int x1), (3, .int v3), (4, .int v4)]) hx hb dX10_take_108 hl (by decide) rfl (fun ls hl => ?_)
        refine lv_iload hx hb dX10_take_110 (lv_at hl 0 rfl) ?_
        refine lv_aload_n hx hb dX10_take_112 rfl (lv_at hl 1 rfl) ?_
        refine lv_iload_n hx hb dX10_take_113 rfl (lv_at hl 2 rfl) ?_
        refine lv_bipush (v := 6) hx hb dX10_take_114 (by decide) ?_
        refine KVi (As := [.int x1, .int 6]) (rest := [.int r_9]) FX (c_X10_of l D cI cB cS a_this a_all a_has a_few a_sawn a_cut a_todo a_press a_gone x1 6 f_all _ hV) ok_X10_of im_X10_of se_X10_of li_X10_86 dX10_take_116 hK hP hS hA [0, 1] [] 0 rfl rfl rfl (by decide) rfl rfl hl.1 (Nat.le_of_ble_eq_true rfl) ⟨Nat.le_of_ble_eq_true rfl, Nat.le_of_ble_eq_true rfl⟩ ⟨Nat.le_of_ble_eq_true rfl, Nat.le_of_ble_eq_true rfl⟩ (fun r_10 _ H locs hV hP hS => ?_)
        have hP : PD D A [oc a_this 9 [.ref a_all, .ref a_has, .ref a_few, .ref a_sawn, .ref a_cut, .ref a_todo, .ref a_press, .ref a_gone], ai cI a_all 3320 f_all] H := hP
        refine lv_icmp_le (tgt := 145) hx hb dX10_take_119 (by decide) (fun h => ?_) (fun h => ?_)
        · have hV := hV.1 h
          obtain ⟨v4_11, e_v4_11⟩ : ∃ y : Int32, y = (v4 + 1) := ⟨_, rfl⟩
          have hV := hV v4_11 e_v4_11
          refine lv_iinc (v := v4_11) (lv' := [(4, .int v4_11), (5, .int r_9), (0, .ref a_this), (1, .int x1), (3, .int v3)]) hx hb dX10_take_145 hl (k := 4) rfl (by rw [e_v4_11]; rfl) (by decide) rfl (fun ls hl => ?_)
          refine lv_goto (tgt := 84) hx hb dX10_take_148 (by decide) ?_
          exact ih84 v3 v4_11 _ _ _ hP hS (lv_sub hl [2, 3, 4, 0] rfl) hV
        · have hV := hV.2 h
          refine lv_iload_n hx hb dX10_take_122 rfl (lv_at hl 3 rfl) ?_
          refine lv_if_lt (tgt := 142) hx hb dX10_take_123 (by decide) (fun h => ?_) (fun h => ?_)
          · have hV := hV.1 h
            refine lv_iload hx hb dX10_take_142 (lv_at hl 4 rfl) ?_
            refine lv_istore_n (lv' := [(3, .int v4), (5, .int r_9), (0, .ref a_this), (1, .int x1), (4, .int v4)]) hx hb dX10_take_144 rfl hl (by decide) rfl (fun ls hl => ?_)
            obtain ⟨v4_12, e_v4_12⟩ : ∃ y : Int32, y = (v4 + 1) := ⟨_, rfl⟩
            have hV := hV v4_12 e_v4_12
            refine lv_iinc (v := v4_12) (lv' := [(4, .int v4_12), (3, .int v4), (5, .int r_9), (0, .ref a_this), (1, .int x1)]) hx hb dX10_take_145 hl (k := 4) rfl (by rw [e_v4_12]; rfl) (by decide) rfl (fun ls hl => ?_)
            refine lv_goto (tgt := 84) hx hb dX10_take_148 (by decide) ?_
            exact ih84 v4 v4_12 _ _ _ hP hS (lv_sub hl [3, 4, 1, 0] rfl) hV
          · have hV := hV.2 h
            refine lv_iload hx hb dX10_take_126 (lv_at hl 0 rfl) ?_
            refine lv_aload_n hx hb dX10_take_128 rfl (lv_at hl 1 rfl) ?_
            refine lv_aload_n hx hb dX10_take_129 rfl (lv_at hl 1 rfl) ?_
            refine lv_iload_n hx hb dX10_take_130 rfl (lv_at hl 3 rfl) ?_
            refine KVi (As := [.int v3]) (rest := [.ref a_this, .int r_9]) FX (c_X10_uppermost l D cI cB cS a_this a_all a_has a_few a_sawn a_cut a_todo a_press a_gone v3 f_all _ hV) ok_X10_uppermost im_X10_uppermost se_X10_uppermost li_X10_113 dX10_take_131 hK hP hS hA [0, 1] [] 0 rfl rfl rfl (by decide) rfl rfl hl.1 (Nat.le_of_ble_eq_true rfl) ⟨Nat.le_of_ble_eq_true rfl, Nat.le_of_ble_eq_true rfl⟩ ⟨Nat.le_of_ble_eq_true rfl, Nat.le_of_ble_eq_true rfl⟩ (fun r_13 _ H locs hV hP hS => ?_)
            have hP : PD D A [oc a_this 9 [.ref a_all, .ref a_has, .ref a_few, .ref a_sawn, .ref a_cut, .ref a_todo, .ref a_press, .ref a_gone], ai cI a_all 3320 f_all] H := hP
            refine lv_bipush (v := 6) hx hb dX10_take_134 (by decide) ?_
            refine KVi (As := [.int r_13, .int 6]) (rest := [.int r_9]) FX (c_X10_of l D cI cB cS a_this a_all a_has a_few a_sawn a_cut a_todo a_press a_gone r_13 6 f_all _ hV) ok_X10_of im_X10_of se_X10_of li_X10_86 dX10_take_136 hK hP hS hA [0, 1] [] 0 rfl rfl rfl (by decide) rfl rfl hl.1 (Nat.le_of_ble_eq_true rfl) ⟨Nat.le_of_ble_eq_true rfl, Nat.le_of_ble_eq_true rfl⟩ ⟨Nat.le_of_ble_eq_true rfl, Nat.le_of_ble_eq_true rfl⟩ (fun r_14 _ H locs hV hP hS => ?_)
            have hP : PD D A [oc a_this 9 [.ref a_all, .ref a_has, .ref a_few, .ref a_sawn, .ref a_cut, .ref a_todo, .ref a_press, .ref a_gone], ai cI a_all 3320 f_all] H := hP
            refine lv_icmp_ge (tgt := 145) hx hb dX10_take_139 (by decide) (fun h => ?_) (fun h => ?_)
            · have hV := hV.1 h
              obtain ⟨v4_15, e_v4_15⟩ : ∃ y : Int32, y = (v4 + 1) := ⟨_, rfl⟩
              have hV := hV v4_15 e_v4_15
              refine lv_iinc (v := v4_15) (lv' := [(4, .int v4_15), (5, .int r_9), (0, .ref a_this), (1, .int x1), (3, .int v3)]) hx hb dX10_take_145 hl (k := 4) rfl (by rw [e_v4_15]; rfl) (by decide) rfl (fun ls hl => ?_)
              refine lv_goto (tgt := 84) hx hb dX10_take_148 (by decide) ?_
              exact ih84 v3 v4_15 _ _ _ hP hS (lv_sub hl [2, 3, 4, 0] rfl) hV
            · have hV := hV.2 h
              refine lv_iload hx hb dX10_take_142 (lv_at hl 4 rfl) ?_
              refine lv_istore_n (lv' := [(3, .int v4), (5, .int r_9), (0, .ref a_this), (1, .int x1), (4, .int v4)]) hx hb dX10_take_144 rfl hl (by decide) rfl (fun ls hl => ?_)
              obtain ⟨v4_16, e_v4_16⟩ : ∃ y : Int32, y = (v4 + 1) := ⟨_, rfl⟩
              have hV := hV v4_16 e_v4_16
              refine lv_iinc (v := v4_16) (lv' := [(4, .int v4_16), (3, .int v4), (5, .int r_9), (0, .ref a_this), (1, .int x1)]) hx hb dX10_take_145 hl (k := 4) rfl (by rw [e_v4_16]; rfl) (by decide) rfl (fun ls hl => ?_)
              refine lv_goto (tgt := 84) hx hb dX10_take_148 (by decide) ?_
              exact ih84 v4 v4_16 _ _ _ hP hS (lv_sub hl [3, 4, 1, 0] rfl) hV
  have b58 : ∀ (s0 : Int32) (f_all : Nat → Int32) (H : Heap) (locs : List Loc) (ls : Array Slot), PD D A [oc a_this 9 [.ref a_all, .ref a_has, .ref a_few, .ref a_sawn, .ref a_cut, .ref a_todo, .ref a_press, .ref a_gone], ai cI a_all 3320 f_all] H → va_S A s.heap H locs → lv_has ls 6 [(0, .ref a_this), (1, .int x1)] → J_X10_take_58 x1 post s0 f_all → W p l e rm_X10_take s m args below meth c H locs 0 0 Q (F0 m 58 ls [.int s0]) := by
    intro s0 f_all H locs ls hP hS hl hV
    unfold J_X10_take_58 at hV
    refine lv_istore_n (lv' := [(2, .int s0), (0, .ref a_this), (1, .int x1)]) hx hb dX10_take_58 rfl hl (by decide) rfl (fun ls hl => ?_)
    refine lv_aload_n hx hb dX10_take_59 rfl (lv_at hl 1 rfl) ?_
    refine gX10 hx hb ht hown hK hP 0 rfl 0 (by decide) fl_X10_7 (fun _ h => h) rfl dX10_take_60 ?_
    refine lv_bipush (v := 10) hx hb dX10_take_63 (by decide) ?_
    refine lv_iload_n hx hb dX10_take_65 rfl (lv_at hl 0 rfl) ?_
    refine lv_iadd hx hb dX10_take_66 ?_
    refine ild hx hb hK hP 1 rfl dX10_take_67 hV.1 ?_
    have hV := hV.2
    refine lv_aload_n hx hb dX10_take_68 rfl (lv_at hl 1 rfl) ?_
    refine lv_iload_n hx hb dX10_take_69 rfl (lv_at hl 2 rfl) ?_
    refine lv_iconst (v := 1) hx hb dX10_take_70 (by decide) ?_
    refine KVi (As := [.int x1, .int 1]) (rest := [.int (f_all (10 + s0).toNatClampNeg)]) FX (c_X10_of l D cI cB cS a_this a_all a_has a_few a_sawn a_cut a_todo a_press a_gone x1 1 f_all _ hV) ok_X10_of im_X10_of se_X10_of li_X10_86 dX10_take_71 hK hP hS hA [0, 1] [] 0 rfl rfl rfl (by decide) rfl rfl hl.1 (Nat.le_of_ble_eq_true rfl) ⟨Nat.le_of_ble_eq_true rfl, Nat.le_of_ble_eq_true rfl⟩ ⟨Nat.le_of_ble_eq_true rfl, Nat.le_of_ble_eq_true rfl⟩ (fun r_17 _ H locs hV hP hS => ?_)
    have hP : PD D A [oc a_this 9 [.ref a_all, .ref a_has, .ref a_few, .ref a_sawn, .ref a_cut, .ref a_todo, .ref a_press, .ref a_gone], ai cI a_all 3320 f_all] H := hP
    refine lv_icmp_le (tgt := 79) hx hb dX10_take_74 (by decide) (fun h => ?_) (fun h => ?_)
    · have hV := hV.1 h
      refine lv_iconst (v := (-1)) hx hb dX10_take_79 (by decide) ?_
      refine lv_istore_n (lv' := [(3, .int (-1)), (2, .int s0), (0, .ref a_this), (1, .int x1)]) hx hb dX10_take_80 rfl hl (by decide) rfl (fun ls hl => ?_)
      refine lv_iconst (v := 0) hx hb dX10_take_81 (by decide) ?_
      refine lv_istore (lv' := [(4, .int 0), (3, .int (-1)), (2, .int s0), (0, .ref a_this), (1, .int x1)]) hx hb dX10_take_82 hl (by decide) rfl (fun ls hl => ?_)
      obtain ⟨k, hV⟩ := hV
      exact b84 f_all k (-1) 0 _ _ _ hP hS (lv_sub hl [3, 4, 1, 0] rfl) hV
    · have hV := hV.2 h
      refine lv_iconst (v := (-1)) hx hb dX10_take_77 (by decide) ?_
      exact hret _ _ _ _ _ f_all hS dX10_take_78 hP hV
  refine lv_aload_n hx hb dX10_take_0 rfl (lv_at hl 0 rfl) ?_
  refine lv_iload_n hx hb dX10_take_1 rfl (lv_at hl 1 rfl) ?_
  refine KVi (As := [.int x1]) (rest := []) FX (c_X10_isThere l D cI cB cS a_this a_all a_has a_few a_sawn a_cut a_todo a_press a_gone x1 f_all _ hV) ok_X10_isThere im_X10_isThere se_X10_isThere li_X10_97 dX10_take_2 hK hP hS hA [0, 1] [] 0 rfl rfl rfl (by decide) rfl rfl hl.1 (Nat.le_of_ble_eq_true rfl) ⟨Nat.le_of_ble_eq_true rfl, Nat.le_of_ble_eq_true rfl⟩ ⟨Nat.le_of_ble_eq_true rfl, Nat.le_of_ble_eq_true rfl⟩ (fun r_18 _ H locs hV hP hS => ?_)
  have hP : PD D A [oc a_this 9 [.ref a_all, .ref a_has, .ref a_few, .ref a_sawn, .ref a_cut, .ref a_todo, .ref a_press, .ref a_gone], ai cI a_all 3320 f_all] H := hP
  refine lv_if_eq (tgt := 28) hx hb dX10_take_5 (by decide) (fun h => ?_) (fun h => ?_)
  · have hV := hV.1 h
    refine lv_iconst (v := (-1)) hx hb dX10_take_28 (by decide) ?_
    exact hret _ _ _ _ _ f_all hS dX10_take_29 hP hV
  · have hV := hV.2 h
    refine lv_aload_n hx hb dX10_take_8 rfl (lv_at hl 0 rfl) ?_
    refine lv_iload_n hx hb dX10_take_9 rfl (lv_at hl 1 rfl) ?_
    refine KVi (As := [.int x1]) (rest := []) FX (c_X10_isFree l D cI cB cS a_this a_all a_has a_few a_sawn a_cut a_todo a_press a_gone x1 f_all _ hV) ok_X10_isFree im_X10_isFree se_X10_isFree li_X10_103 dX10_take_10 hK hP hS hA [0, 1] [] 0 rfl rfl rfl (by decide) rfl rfl hl.1 (Nat.le_of_ble_eq_true rfl) ⟨Nat.le_of_ble_eq_true rfl, Nat.le_of_ble_eq_true rfl⟩ ⟨Nat.le_of_ble_eq_true rfl, Nat.le_of_ble_eq_true rfl⟩ (fun r_19 _ H locs hV hP hS => ?_)
    have hP : PD D A [oc a_this 9 [.ref a_all, .ref a_has, .ref a_few, .ref a_sawn, .ref a_cut, .ref a_todo, .ref a_press, .ref a_gone], ai cI a_all 3320 f_all] H := hP
    refine lv_if_eq (tgt := 28) hx hb dX10_take_13 (by decide) (fun h => ?_) (fun h => ?_)
    · have hV := hV.1 h
      refine lv_iconst (v := (-1)) hx hb dX10_take_28 (by decide) ?_
      exact hret _ _ _ _ _ f_all hS dX10_take_29 hP hV
    · have hV := hV.2 h
      refine lv_aload_n hx hb dX10_take_16 rfl (lv_at hl 0 rfl) ?_
      refine gX10 hx hb ht hown hK hP 0 rfl 0 (by decide) fl_X10_7 (fun _ h => h) rfl dX10_take_17 ?_
      refine lv_iconst (v := 4) hx hb dX10_take_20 (by decide) ?_
      refine ild hx hb hK hP 1 rfl dX10_take_21 hV.1 ?_
      have hV := hV.2
      refine lv_sipush (v := 5000) hx hb dX10_take_22 (by decide) ?_
      refine lv_icmp_ne (tgt := 30) hx hb dX10_take_25 (by decide) (fun h => ?_) (fun h => ?_)
      · have hV := hV.2 h
        refine lv_aload_n hx hb dX10_take_30 rfl (lv_at hl 0 rfl) ?_
        refine gX10 hx hb ht hown hK hP 0 rfl 0 (by decide) fl_X10_7 (fun _ h => h) rfl dX10_take_31 ?_
        refine lv_iconst (v := 4) hx hb dX10_take_34 (by decide) ?_
        refine ild hx hb hK hP 1 rfl dX10_take_35 hV.1 ?_
        have hV := hV.2
        refine lv_bipush (v := 30) hx hb dX10_take_36 (by decide) ?_
        refine lv_idiv hx hb dX10_take_38 (by decide) ?_
        refine lv_bipush (v := 11) hx hb dX10_take_39 (by decide) ?_
        refine lv_icmp_le (tgt := 49) hx hb dX10_take_41 (by decide) (fun h => ?_) (fun h => ?_)
        · have hV := hV.1 h
          refine lv_aload_n hx hb dX10_take_49 rfl (lv_at hl 0 rfl) ?_
          refine gX10 hx hb ht hown hK hP 0 rfl 0 (by decide) fl_X10_7 (fun _ h => h) rfl dX10_take_50 ?_
          refine lv_iconst (v := 4) hx hb dX10_take_53 (by decide) ?_
          refine ild hx hb hK hP 1 rfl dX10_take_54 hV.1 ?_
          have hV := hV.2
          refine lv_bipush (v := 30) hx hb dX10_take_55 (by decide) ?_
          refine lv_idiv hx hb dX10_take_57 (by decide) ?_
          exact b58 ((f_all (4 : Int32).toNatClampNeg) / 30) f_all _ _ _ hP hS hl hV
        · have hV := hV.2 h
          refine lv_bipush (v := 11) hx hb dX10_take_44 (by decide) ?_
          refine lv_goto (tgt := 58) hx hb dX10_take_46 (by decide) ?_
          exact b58 11 f_all _ _ _ hP hS hl hV
      · have hV := hV.1 h
        refine lv_iconst (v := (-1)) hx hb dX10_take_28 (by decide) ?_
        exact hret _ _ _ _ _ f_all hS dX10_take_29 hP hV

def rm_X10_piled : Room := { frames := 3, cells := 0, slots := 0, locals := 65 }
def V_X10_piled_5 (x1 : Int32) (x2 : Int32) (f_all : Nat → Int32) (post : Int32 → Prop) : Nat → Int32 → Int32 → Prop
  | 0, _, _ => False
  | n + 1, v3, v4 => P_X10_taken f_all (fun r_1 => ((r_1 ≤ v4 → post (-1)) ∧ (¬ r_1 ≤ v4 → ((x2 < 0 → post (-1)) ∧ (¬ x2 < 0 → (vp_in (760 + v4) 3320 ∧ (∀ v5_2 : Int32, v5_2 = (f_all (760 + v4).toNatClampNeg) → P_X10_of v5_2 5 f_all (fun r_3 => ((r_3 = x1 → ((v3 = x2 → post v5_2) ∧ (¬ v3 = x2 → (∀ v3_4 : Int32, v3_4 = (v3 + 1) → (∀ v4_5 : Int32, v4_5 = (v4 + 1) → V_X10_piled_5 x1 x2 f_all post n v3_4 v4_5))))) ∧ (¬ r_3 = x1 → (∀ v4_6 : Int32, v4_6 = (v4 + 1) → V_X10_piled_5 x1 x2 f_all post n v3 v4_6)))))))))))
theorem V_X10_piled_5_s (x1 : Int32) (x2 : Int32) (f_all : Nat → Int32) (post : Int32 → Prop) (n : Nat) (v3 : Int32) (v4 : Int32) : V_X10_piled_5 x1 x2 f_all post (n + 1) v3 v4 = (P_X10_taken f_all (fun r_1 => ((r_1 ≤ v4 → post (-1)) ∧ (¬ r_1 ≤ v4 → ((x2 < 0 → post (-1)) ∧ (¬ x2 < 0 → (vp_in (760 + v4) 3320 ∧ (∀ v5_2 : Int32, v5_2 = (f_all (760 + v4).toNatClampNeg) → P_X10_of v5_2 5 f_all (fun r_3 => ((r_3 = x1 → ((v3 = x2 → post v5_2) ∧ (¬ v3 = x2 → (∀ v3_4 : Int32, v3_4 = (v3 + 1) → (∀ v4_5 : Int32, v4_5 = (v4 + 1) → V_X10_piled_5 x1 x2 f_all post n v3_4 v4_5))))) ∧ (¬ r_3 = x1 → (∀ v4_6 : Int32, v4_6 = (v4 + 1) → V_X10_piled_5 x1 x2 f_all post n v3 v4_6)))))))))))) := rfl
def P_X10_piled (x1 : Int32) (x2 : Int32) (f_all : Nat → Int32) (post : Int32 → Prop) : Prop := (∃ k : Nat, V_X10_piled_5 x1 x2 f_all post k 0 0)
set_option maxRecDepth 100000 in
set_option maxHeartbeats 4000000 in
theorem c_X10_piled (l : Launch) (D : va_G) (cI cB cS : ClassId) (a_this a_all a_has a_few a_sawn a_cut a_todo a_press a_gone : Nat) (x1 : Int32) (x2 : Int32) (f_all : Nat → Int32) (post : Int32 → Prop) (hV : P_X10_piled x1 x2 f_all post) : Ci l yX10_piled cX10_piled 6 (some .int) rm_X10_piled D cI cB cS [.ref a_this, .int x1, .int x2] [oc a_this 9 [.ref a_all, .ref a_has, .ref a_few, .ref a_sawn, .ref a_cut, .ref a_todo, .ref a_press, .ref a_gone], ai cI a_all 3320 f_all] (fun r (_ : Unit) => post r) (fun (_ : Unit) => [oc a_this 9 [.ref a_all, .ref a_has, .ref a_few, .ref a_sawn, .ref a_cut, .ref a_todo, .ref a_press, .ref a_gone], ai cI a_all 3320 f_all]) := by
  refine Ci.of ok_X10_piled (Nat.le_of_ble_eq_true rfl) ?_
  intro p e s m args below meth c A Q hx hb hml hown ht hnm hK hP hA hS hret ls hl
  have hown : s.vm.findClass RX10 = some m.cls := hown
  have FX : CallFix p m c cX10_piled 6 s args tblG RX10 := ⟨hx, hb, hml, hown, ht⟩
  have hP : PD D A [oc a_this 9 [.ref a_all, .ref a_has, .ref a_few, .ref a_sawn, .ref a_cut, .ref a_todo, .ref a_press, .ref a_gone], ai cI a_all 3320 f_all] s.heap := hP
  have hl : lv_has ls 6 [(0, .ref a_this), (1, .int x1), (2, .int x2)] := hl
  unfold P_X10_piled at hV
  have b5 : ∀  (k5 : Nat) (v3 : Int32) (v4 : Int32) (H : Heap) (locs : List Loc) (ls : Array Slot), PD D A [oc a_this 9 [.ref a_all, .ref a_has, .ref a_few, .ref a_sawn, .ref a_cut, .ref a_todo, .ref a_press, .ref a_gone], ai cI a_all 3320 f_all] H → va_S A s.heap H locs → lv_has ls 6 [(0, .ref a_this), (1, .int x1), (2, .int x2), (3, .int v3), (4, .int v4)] → V_X10_piled_5 x1 x2 f_all post k5 v3 v4 → W p l e rm_X10_piled s m args below meth c H locs 0 0 Q (F0 m 5 ls []) := by
    intro  k5
    induction k5 with
    | zero => intro v3 v4 H locs ls hP hS hl hV; exact False.elim hV
    | succ k5 ih5 =>
      intro v3 v4 H locs ls hP hS hl hV
      rw [V_X10_piled_5_s] at hV
      refine lv_iload hx hb dX10_piled_5 (lv_at hl 4 rfl) ?_
      refine lv_aload_n hx hb dX10_piled_7 rfl (lv_at hl 0 rfl) ?_
      refine KVi (As := []) (rest := [.int v4]) FX (c_X10_taken l D cI cB cS a_this a_all a_has a_few a_sawn a_cut a_todo a_press a_gone f_all _ hV) ok_X10_taken im_X10_taken se_X10_taken li_X10_109 dX10_piled_8 hK hP hS hA [0, 1] [] 0 rfl rfl rfl (by decide) rfl rfl hl.1 (Nat.le_of_ble_eq_true rfl) ⟨Nat.le_of_ble_eq_true rfl, Nat.le_of_ble_eq_true rfl⟩ ⟨Nat.le_of_ble_eq_true rfl, Nat.le_of_ble_eq_true rfl⟩ (fun r_1 _ H locs hV hP hS => ?_)
      have hP : PD D A [oc a_this 9 [.ref a_all, .ref a_has, .ref a_few, .ref a_sawn, .ref a_cut, .ref a_todo, .ref a_press, .ref a_gone], ai cI a_all 3320 f_all] H := hP
      refine lv_icmp_ge (tgt := 62) hx hb dX10_piled_11 (by decide) (fun h => ?_) (fun h => ?_)
      · have hV := hV.1 h
        refine lv_iconst (v := (-1)) hx hb dX10_piled_62 (by decide) ?_
        exact hret _ _ _ _ _ () hS dX10_piled_63 hP hV
      · have hV := hV.2 h
        refine lv_iload_n hx hb dX10_piled_14 rfl (lv_at hl 2 rfl) ?_
        refine lv_if_lt (tgt := 62) hx hb dX10_piled_15 (by decide) (fun h => ?_) (fun h => ?_)
        · have hV := hV.1 h
          refine lv_iconst (v := (-1)) hx hb dX10_piled_62 (by decide) ?_
          exact hret _ _ _ _ _ () hS dX10_piled_63 hP hV
        · have hV := hV.2 h
          refine lv_aload_n hx hb dX10_piled_18 rfl (lv_at hl 0 rfl) ?_
          refine gX10 hx hb ht hown hK hP 0 rfl 0 (by decide) fl_X10_7 (fun _ h => h) rfl dX10_piled_19 ?_
          refine lv_sipush (v := 760) hx hb dX10_piled_22 (by decide) ?_
          refine lv_iload hx hb dX10_piled_25 (lv_at hl 4 rfl) ?_
          refine lv_iadd hx hb dX10_piled_27 ?_
          refine ild hx hb hK hP 1 rfl dX10_piled_28 hV.1 ?_
          have hV := hV.2
          refine lv_topi (fun v5_2 e_v5_2 => ?_)
          have hV := hV v5_2 e_v5_2
          refine lv_istore (lv' := [(5, .int v5_2), (0, .ref a_this), (1, .int x1), (2, .int x2), (3, .int v3), (4, .int v4)]) hx hb dX10_piled_29 hl (by decide) rfl (fun ls hl => ?_)
          refine lv_aload_n hx hb dX10_piled_31 rfl (lv_at hl 1 rfl) ?_
          refine lv_iload hx hb dX10_piled_32 (lv_at hl 0 rfl) ?_
          refine lv_iconst (v := 5) hx hb dX10_piled_34 (by decide) ?_
          refine KVi (As := [.int v5_2, .int 5]) (rest := []) FX (c_X10_of l D cI cB cS a_this a_all a_has a_few a_sawn a_cut a_todo a_press a_gone v5_2 5 f_all _ hV) ok_X10_of im_X10_of se_X10_of li_X10_86 dX10_piled_35 hK hP hS hA [0, 1] [] 0 rfl rfl rfl (by decide) rfl rfl hl.1 (Nat.le_of_ble_eq_true rfl) ⟨Nat.le_of_ble_eq_true rfl, Nat.le_of_ble_eq_true rfl⟩ ⟨Nat.le_of_ble_eq_true rfl, Nat.le_of_ble_eq_true rfl⟩ (fun r_3 _ H locs hV hP hS => ?_)
          have hP : PD D A [oc a_this 9 [.ref a_all, .ref a_has, .ref a_few, .ref a_sawn, .ref a_cut, .ref a_todo, .ref a_press, .ref a_gone], ai cI a_all 3320 f_all] H := hP
          refine lv_iload_n hx hb dX10_piled_38 rfl (lv_at hl 2 rfl) ?_
          refine lv_icmp_eq (tgt := 45) hx hb dX10_piled_39 (by decide) (fun h => ?_) (fun h => ?_)
          · have hV := hV.1 h
            refine lv_iload_n hx hb dX10_piled_45 rfl (lv_at hl 4 rfl) ?_
            refine lv_iload_n hx hb dX10_piled_46 rfl (lv_at hl 3 rfl) ?_
            refine lv_icmp_ne (tgt := 53) hx hb dX10_piled_47 (by decide) (fun h => ?_) (fun h => ?_)
            · have hV := hV.2 h
              obtain ⟨v3_4, e_v3_4⟩ : ∃ y : Int32, y = (v3 + 1) := ⟨_, rfl⟩
              have hV := hV v3_4 e_v3_4
              refine lv_iinc (v := v3_4) (lv' := [(3, .int v3_4), (5, .int v5_2), (0, .ref a_this), (1, .int x1), (2, .int x2), (4, .int v4)]) hx hb dX10_piled_53 hl (k := 4) rfl (by rw [e_v3_4]; rfl) (by decide) rfl (fun ls hl => ?_)
              obtain ⟨v4_5, e_v4_5⟩ : ∃ y : Int32, y = (v4 + 1) := ⟨_, rfl⟩
              have hV := hV v4_5 e_v4_5
              refine lv_iinc (v := v4_5) (lv' := [(4, .int v4_5), (3, .int v3_4), (5, .int v5_2), (0, .ref a_this), (1, .int x1), (2, .int x2)]) hx hb dX10_piled_56 hl (k := 5) rfl (by rw [e_v4_5]; rfl) (by decide) rfl (fun ls hl => ?_)
              refine lv_goto (tgt := 5) hx hb dX10_piled_59 (by decide) ?_
              exact ih5 v3_4 v4_5 _ _ _ hP hS (lv_sub hl [3, 4, 5, 1, 0] rfl) hV
            · have hV := hV.1 h
              refine lv_iload hx hb dX10_piled_50 (lv_at hl 0 rfl) ?_
              exact hret _ _ _ _ _ () hS dX10_piled_52 hP hV
          · have hV := hV.2 h
            refine lv_goto (tgt := 56) hx hb dX10_piled_42 (by decide) ?_
            obtain ⟨v4_6, e_v4_6⟩ : ∃ y : Int32, y = (v4 + 1) := ⟨_, rfl⟩
            have hV := hV v4_6 e_v4_6
            refine lv_iinc (v := v4_6) (lv' := [(4, .int v4_6), (5, .int v5_2), (0, .ref a_this), (1, .int x1), (2, .int x2), (3, .int v3)]) hx hb dX10_piled_56 hl (k := 5) rfl (by rw [e_v4_6]; rfl) (by decide) rfl (fun ls hl => ?_)
            refine lv_goto (tgt := 5) hx hb dX10_piled_59 (by decide) ?_
            exact ih5 v3 v4_6 _ _ _ hP hS (lv_sub hl [2, 3, 4, 5, 0] rfl) hV
  refine lv_iconst (v := 0) hx hb dX10_piled_0 (by decide) ?_
  refine lv_istore_n (lv' := [(3, .int 0), (0, .ref a_this), (1, .int x1), (2, .int x2)]) hx hb dX10_piled_1 rfl hl (by decide) rfl (fun ls hl => ?_)
  refine lv_iconst (v := 0) hx hb dX10_piled_2 (by decide) ?_
  refine lv_istore (lv' := [(4, .int 0), (3, .int 0), (0, .ref a_this), (1, .int x1), (2, .int x2)]) hx hb dX10_piled_3 hl (by decide) rfl (fun ls hl => ?_)
  obtain ⟨k, hV⟩ := hV
  exact b5 k 0 0 _ _ _ hP hS (lv_sub hl [2, 3, 4, 1, 0] rfl) hV

def rm_X10_isFreeThen : Room := { frames := 2, cells := 0, slots := 0, locals := 44 }
def V_X10_isFreeThen_17 (x1 : Int32) (f_all : Nat → Int32) (f_gone : Nat → Int32) (post : Int32 → Prop) : Nat → Int32 → Int32 → Prop
  | 0, _, _ => False
  | n + 1, v2, v3 => (vp_in 5 3320 ∧ (((f_all (5 : Int32).toNatClampNeg) ≤ v3 → ((v2 = 0 ∨ v2 = 1) ∧ post v2)) ∧ (¬ (f_all (5 : Int32).toNatClampNeg) ≤ v3 → ((v2 = 0 → (∀ v3_1 : Int32, v3_1 = (v3 + 1) → V_X10_isFreeThen_17 x1 f_all f_gone post n 0 v3_1)) ∧ (¬ v2 = 0 → P_X10_isAbove v3 x1 f_all (fun r_2 => ((r_2 = 0 → (∀ v3_3 : Int32, v3_3 = (v3 + 1) → V_X10_isFreeThen_17 x1 f_all f_gone post n 1 v3_3)) ∧ (¬ r_2 = 0 → (vp_in v3 64 ∧ (((f_gone v3.toNatClampNeg) = 0 → (∀ v3_4 : Int32, v3_4 = (v3 + 1) → V_X10_isFreeThen_17 x1 f_all f_gone post n 0 v3_4)) ∧ (¬ (f_gone v3.toNatClampNeg) = 0 → (∀ v3_5 : Int32, v3_5 = (v3 + 1) → V_X10_isFreeThen_17 x1 f_all f_gone post n 1 v3_5))))))))))))
theorem V_X10_isFreeThen_17_s (x1 : Int32) (f_all : Nat → Int32) (f_gone : Nat → Int32) (post : Int32 → Prop) (n : Nat) (v2 : Int32) (v3 : Int32) : V_X10_isFreeThen_17 x1 f_all f_gone post (n + 1) v2 v3 = ((vp_in 5 3320 ∧ (((f_all (5 : Int32).toNatClampNeg) ≤ v3 → ((v2 = 0 ∨ v2 = 1) ∧ post v2)) ∧ (¬ (f_all (5 : Int32).toNatClampNeg) ≤ v3 → ((v2 = 0 → (∀ v3_1 : Int32, v3_1 = (v3 + 1) → V_X10_isFreeThen_17 x1 f_all f_gone post n 0 v3_1)) ∧ (¬ v2 = 0 → P_X10_isAbove v3 x1 f_all (fun r_2 => ((r_2 = 0 → (∀ v3_3 : Int32, v3_3 = (v3 + 1) → V_X10_isFreeThen_17 x1 f_all f_gone post n 1 v3_3)) ∧ (¬ r_2 = 0 → (vp_in v3 64 ∧ (((f_gone v3.toNatClampNeg) = 0 → (∀ v3_4 : Int32, v3_4 = (v3 + 1) → V_X10_isFreeThen_17 x1 f_all f_gone post n 0 v3_4)) ∧ (¬ (f_gone v3.toNatClampNeg) = 0 → (∀ v3_5 : Int32, v3_5 = (v3 + 1) → V_X10_isFreeThen_17 x1 f_all f_gone post n 1 v3_5))))))))))))) := rfl
def J_X10_isFreeThen_14 (x1 : Int32) (f_all : Nat → Int32) (f_gone : Nat → Int32) (post : Int32 → Prop) (s0 : Int32) : Prop := (∃ k : Nat, V_X10_isFreeThen_17 x1 f_all f_gone post k s0 0)
def P_X10_isFreeThen (x1 : Int32) (f_all : Nat → Int32) (f_gone : Nat → Int32) (post : Int32 → Prop) : Prop := (vp_in x1 64 ∧ (((f_gone x1.toNatClampNeg) = 0 → J_X10_isFreeThen_14 x1 f_all f_gone post 1) ∧ (¬ (f_gone x1.toNatClampNeg) = 0 → J_X10_isFreeThen_14 x1 f_all f_gone post 0)))
set_option maxRecDepth 100000 in
set_option maxHeartbeats 4000000 in
theorem c_X10_isFreeThen (l : Launch) (D : va_G) (cI cB cS : ClassId) (a_this a_all a_gone a_has a_few a_sawn a_cut a_todo a_press : Nat) (x1 : Int32) (f_all : Nat → Int32) (f_gone : Nat → Int32) (post : Int32 → Prop) (hV : P_X10_isFreeThen x1 f_all f_gone post) : Ci l yX10_isFreeThen cX10_isFreeThen 4 (some .boolean) rm_X10_isFreeThen D cI cB cS [.ref a_this, .int x1] [oc a_this 9 [.ref a_all, .ref a_has, .ref a_few, .ref a_sawn, .ref a_cut, .ref a_todo, .ref a_press, .ref a_gone], ai cI a_all 3320 f_all, ai cB a_gone 64 f_gone] (fun r (_ : Unit) => post r) (fun (_ : Unit) => [oc a_this 9 [.ref a_all, .ref a_has, .ref a_few, .ref a_sawn, .ref a_cut, .ref a_todo, .ref a_press, .ref a_gone], ai cI a_all 3320 f_all, ai cB a_gone 64 f_gone]) := by
  refine Cz.of ok_X10_isFreeThen (Nat.le_of_ble_eq_true rfl) ?_
  intro p e s m args below meth c A Q hx hb hml hown ht hnm hK hP hA hS hret ls hl
  have hown : s.vm.findClass RX10 = some m.cls := hown
  have FX : CallFix p m c cX10_isFreeThen 4 s args tblG RX10 := ⟨hx, hb, hml, hown, ht⟩
  have hP : PD D A [oc a_this 9 [.ref a_all, .ref a_has, .ref a_few, .ref a_sawn, .ref a_cut, .ref a_todo, .ref a_press, .ref a_gone], ai cI a_all 3320 f_all, ai cB a_gone 64 f_gone] s.heap := hP
  have hl : lv_has ls 4 [(0, .ref a_this), (1, .int x1)] := hl
  unfold P_X10_isFreeThen at hV
  have b17 : ∀  (k17 : Nat) (v2 : Int32) (v3 : Int32) (H : Heap) (locs : List Loc) (ls : Array Slot), PD D A [oc a_this 9 [.ref a_all, .ref a_has, .ref a_few, .ref a_sawn, .ref a_cut, .ref a_todo, .ref a_press, .ref a_gone], ai cI a_all 3320 f_all, ai cB a_gone 64 f_gone] H → va_S A s.heap H locs → lv_has ls 4 [(0, .ref a_this), (1, .int x1), (2, .int v2), (3, .int v3)] → V_X10_isFreeThen_17 x1 f_all f_gone post k17 v2 v3 → W p l e rm_X10_isFreeThen s m args below meth c H locs 0 0 Q (F0 m 17 ls []) := by
    intro  k17
    induction k17 with
    | zero => intro v2 v3 H locs ls hP hS hl hV; exact False.elim hV
    | succ k17 ih17 =>
      intro v2 v3 H locs ls hP hS hl hV
      rw [V_X10_isFreeThen_17_s] at hV
      refine lv_iload_n hx hb dX10_isFreeThen_17 rfl (lv_at hl 3 rfl) ?_
      refine lv_aload_n hx hb dX10_isFreeThen_18 rfl (lv_at hl 0 rfl) ?_
      refine gX10 hx hb ht hown hK hP 0 rfl 0 (by decide) fl_X10_7 (fun _ h => h) rfl dX10_isFreeThen_19 ?_
      refine lv_iconst (v := 5) hx hb dX10_isFreeThen_22 (by decide) ?_
      refine ild hx hb hK hP 1 rfl dX10_isFreeThen_23 hV.1 ?_
      have hV := hV.2
      refine lv_icmp_ge (tgt := 61) hx hb dX10_isFreeThen_24 (by decide) (fun h => ?_) (fun h => ?_)
      · have hV := hV.1 h
        refine lv_iload_n hx hb dX10_isFreeThen_61 rfl (lv_at hl 2 rfl) ?_
        exact hret _ _ _ _ _ () hS dX10_isFreeThen_62 hP hV.1 hV.2
      · have hV := hV.2 h
        refine lv_iload_n hx hb dX10_isFreeThen_27 rfl (lv_at hl 2 rfl) ?_
        refine lv_if_eq (tgt := 53) hx hb dX10_isFreeThen_28 (by decide) (fun h => ?_) (fun h => ?_)
        · have hV := hV.1 h
          refine lv_iconst (v := 0) hx hb dX10_isFreeThen_53 (by decide) ?_
          refine lv_istore_n (lv' := [(2, .int 0), (0, .ref a_this), (1, .int x1), (3, .int v3)]) hx hb dX10_isFreeThen_54 rfl hl (by decide) rfl (fun ls hl => ?_)
          obtain ⟨v3_1, e_v3_1⟩ : ∃ y : Int32, y = (v3 + 1) := ⟨_, rfl⟩
          have hV := hV v3_1 e_v3_1
          refine lv_iinc (v := v3_1) (lv' := [(3, .int v3_1), (2, .int 0), (0, .ref a_this), (1, .int x1)]) hx hb dX10_isFreeThen_55 hl (k := 3) rfl (by rw [e_v3_1]; rfl) (by decide) rfl (fun ls hl => ?_)
          refine lv_goto (tgt := 17) hx hb dX10_isFreeThen_58 (by decide) ?_
          exact ih17 0 v3_1 _ _ _ hP hS (lv_sub hl [2, 3, 1, 0] rfl) hV
        · have hV := hV.2 h
          refine lv_aload_n hx hb dX10_isFreeThen_31 rfl (lv_at hl 0 rfl) ?_
          refine lv_iload_n hx hb dX10_isFreeThen_32 rfl (lv_at hl 3 rfl) ?_
          refine lv_iload_n hx hb dX10_isFreeThen_33 rfl (lv_at hl 1 rfl) ?_
          refine KVi (As := [.int v3, .int x1]) (rest := []) FX (c_X10_isAbove l D cI cB cS a_this a_all a_has a_few a_sawn a_cut a_todo a_press a_gone v3 x1 f_all _ hV) ok_X10_isAbove im_X10_isAbove se_X10_isAbove li_X10_94 dX10_isFreeThen_34 hK hP hS hA [0, 1] [2] 0 rfl rfl rfl (by decide) rfl rfl hl.1 (Nat.le_of_ble_eq_true rfl) ⟨Nat.le_of_ble_eq_true rfl, Nat.le_of_ble_eq_true rfl⟩ ⟨Nat.le_of_ble_eq_true rfl, Nat.le_of_ble_eq_true rfl⟩ (fun r_2 _ H locs hV hP hS => ?_)
          have hP : PD D A [ai cB a_gone 64 f_gone, oc a_this 9 [.ref a_all, .ref a_has, .ref a_few, .ref a_sawn, .ref a_cut, .ref a_todo, .ref a_press, .ref a_gone], ai cI a_all 3320 f_all] H := hP
          refine lv_if_eq (tgt := 49) hx hb dX10_isFreeThen_37 (by decide) (fun h => ?_) (fun h => ?_)
          · have hV := hV.1 h
            refine lv_iconst (v := 1) hx hb dX10_isFreeThen_49 (by decide) ?_
            refine lv_goto (tgt := 54) hx hb dX10_isFreeThen_50 (by decide) ?_
            refine lv_istore_n (lv' := [(2, .int 1), (0, .ref a_this), (1, .int x1), (3, .int v3)]) hx hb dX10_isFreeThen_54 rfl hl (by decide) rfl (fun ls hl => ?_)
            obtain ⟨v3_3, e_v3_3⟩ : ∃ y : Int32, y = (v3 + 1) := ⟨_, rfl⟩
            have hV := hV v3_3 e_v3_3
            refine lv_iinc (v := v3_3) (lv' := [(3, .int v3_3), (2, .int 1), (0, .ref a_this), (1, .int x1)]) hx hb dX10_isFreeThen_55 hl (k := 3) rfl (by rw [e_v3_3]; rfl) (by decide) rfl (fun ls hl => ?_)
            refine lv_goto (tgt := 17) hx hb dX10_isFreeThen_58 (by decide) ?_
            exact ih17 1 v3_3 _ _ _ (hP.sub [1, 2, 0] rfl rfl) hS (lv_sub hl [2, 3, 1, 0] rfl) hV
          · have hV := hV.2 h
            refine lv_aload_n hx hb dX10_isFreeThen_40 rfl (lv_at hl 0 rfl) ?_
            refine gX10 hx hb ht hown hK hP 1 rfl 7 (by decide) fl_X10_32 (fun _ h => h) rfl dX10_isFreeThen_41 ?_
            refine lv_iload_n hx hb dX10_isFreeThen_44 rfl (lv_at hl 3 rfl) ?_
            refine zld hx hb hK hP 0 rfl dX10_isFreeThen_45 hV.1 ?_
            have hV := hV.2
            refine lv_if_eq (tgt := 53) hx hb dX10_isFreeThen_46 (by decide) (fun h => ?_) (fun h => ?_)
            · have hV := hV.1 h
              refine lv_iconst (v := 0) hx hb dX10_isFreeThen_53 (by decide) ?_
              refine lv_istore_n (lv' := [(2, .int 0), (0, .ref a_this), (1, .int x1), (3, .int v3)]) hx hb dX10_isFreeThen_54 rfl hl (by decide) rfl (fun ls hl => ?_)
              obtain ⟨v3_4, e_v3_4⟩ : ∃ y : Int32, y = (v3 + 1) := ⟨_, rfl⟩
              have hV := hV v3_4 e_v3_4
              refine lv_iinc (v := v3_4) (lv' := [(3, .int v3_4), (2, .int 0), (0, .ref a_this), (1, .int x1)]) hx hb dX10_isFreeThen_55 hl (k := 3) rfl (by rw [e_v3_4]; rfl) (by decide) rfl (fun ls hl => ?_)
              refine lv_goto (tgt := 17) hx hb dX10_isFreeThen_58 (by decide) ?_
              exact ih17 0 v3_4 _ _ _ (hP.sub [1, 2, 0] rfl rfl) hS (lv_sub hl [2, 3, 1, 0] rfl) hV
            · have hV := hV.2 h
              refine lv_iconst (v := 1) hx hb dX10_isFreeThen_49 (by decide) ?_
              refine lv_goto (tgt := 54) hx hb dX10_isFreeThen_50 (by decide) ?_
              refine lv_istore_n (lv' := [(2, .int 1), (0, .ref a_this), (1, .int x1), (3, .int v3)]) hx hb dX10_isFreeThen_54 rfl hl (by decide) rfl (fun ls hl => ?_)
              obtain ⟨v3_5, e_v3_5⟩ : ∃ y : Int32, y = (v3 + 1) := ⟨_, rfl⟩
              have hV := hV v3_5 e_v3_5
              refine lv_iinc (v := v3_5) (lv' := [(3, .int v3_5), (2, .int 1), (0, .ref a_this), (1, .int x1)]) hx hb dX10_isFreeThen_55 hl (k := 3) rfl (by rw [e_v3_5]; rfl) (by decide) rfl (fun ls hl => ?_)
              refine lv_goto (tgt := 17) hx hb dX10_isFreeThen_58 (by decide) ?_
              exact ih17 1 v3_5 _ _ _ (hP.sub [1, 2, 0] rfl rfl) hS (lv_sub hl [2, 3, 1, 0] rfl) hV
  have b14 : ∀ (s0 : Int32) (H : Heap) (locs : List Loc) (ls : Array Slot), PD D A [oc a_this 9 [.ref a_all, .ref a_has, .ref a_few, .ref a_sawn, .ref a_cut, .ref a_todo, .ref a_press, .ref a_gone], ai cI a_all 3320 f_all, ai cB a_gone 64 f_gone] H → va_S A s.heap H locs → lv_has ls 4 [(0, .ref a_this), (1, .int x1)] → J_X10_isFreeThen_14 x1 f_all f_gone post s0 → W p l e rm_X10_isFreeThen s m args below meth c H locs 0 0 Q (F0 m 14 ls [.int s0]) := by
    intro s0 H locs ls hP hS hl hV
    unfold J_X10_isFreeThen_14 at hV
    refine lv_istore_n (lv' := [(2, .int s0), (0, .ref a_this), (1, .int x1)]) hx hb dX10_isFreeThen_14 rfl hl (by decide) rfl (fun ls hl => ?_)
    refine lv_iconst (v := 0) hx hb dX10_isFreeThen_15 (by decide) ?_
    refine lv_istore_n (lv' := [(3, .int 0), (2, .int s0), (0, .ref a_this), (1, .int x1)]) hx hb dX10_isFreeThen_16 rfl hl (by decide) rfl (fun ls hl => ?_)
    obtain ⟨k, hV⟩ := hV
    exact b17 k s0 0 _ _ _ hP hS (lv_sub hl [2, 3, 1, 0] rfl) hV
  refine lv_aload_n hx hb dX10_isFreeThen_0 rfl (lv_at hl 0 rfl) ?_
  refine gX10 hx hb ht hown hK hP 0 rfl 7 (by decide) fl_X10_32 (fun _ h => h) rfl dX10_isFreeThen_1 ?_
  refine lv_iload_n hx hb dX10_isFreeThen_4 rfl (lv_at hl 1 rfl) ?_
  refine zld hx hb hK hP 2 rfl dX10_isFreeThen_5 hV.1 ?_
  have hV := hV.2
  refine lv_if_ne (tgt := 13) hx hb dX10_isFreeThen_6 (by decide) (fun h => ?_) (fun h => ?_)
  · have hV := hV.2 h
    refine lv_iconst (v := 0) hx hb dX10_isFreeThen_13 (by decide) ?_
    exact b14 0 _ _ _ hP hS hl hV
  · have hV := hV.1 h
    refine lv_iconst (v := 1) hx hb dX10_isFreeThen_9 (by decide) ?_
    refine lv_goto (tgt := 14) hx hb dX10_isFreeThen_10 (by decide) ?_
    exact b14 1 _ _ _ hP hS hl hV

def rm_X10_nextBlock : Room := { frames := 3, cells := 0, slots := 0, locals := 67 }
def V_X10_nextBlock_4 (f_all : Nat → Int32) (f_press : Nat → Int32) (f_gone : Nat → Int32) (post : Int32 → Prop) : Nat → Int32 → Int32 → Prop
  | 0, _, _ => False
  | n + 1, v1, v2 => (vp_in 5 3320 ∧ (((f_all (5 : Int32).toNatClampNeg) ≤ v2 → post v1) ∧ (¬ (f_all (5 : Int32).toNatClampNeg) ≤ v2 → P_X10_isFreeThen v2 f_all f_gone (fun r_1 => ((r_1 = 0 → (∀ v2_2 : Int32, v2_2 = (v2 + 1) → V_X10_nextBlock_4 f_all f_press f_gone post n v1 v2_2)) ∧ (¬ r_1 = 0 → ((v1 < 0 → (∀ v2_3 : Int32, v2_3 = (v2 + 1) → V_X10_nextBlock_4 f_all f_press f_gone post n v2 v2_3)) ∧ (¬ v1 < 0 → (vp_in v2 64 ∧ (vp_in v1 64 ∧ (((f_press v1.toNatClampNeg) ≤ (f_press v2.toNatClampNeg) → (∀ v2_4 : Int32, v2_4 = (v2 + 1) → V_X10_nextBlock_4 f_all f_press f_gone post n v1 v2_4)) ∧ (¬ (f_press v1.toNatClampNeg) ≤ (f_press v2.toNatClampNeg) → (∀ v2_5 : Int32, v2_5 = (v2 + 1) → V_X10_nextBlock_4 f_all f_press f_gone post n v2 v2_5)))))))))))))
theorem V_X10_nextBlock_4_s (f_all : Nat → Int32) (f_press : Nat → Int32) (f_gone : Nat → Int32) (post : Int32 → Prop) (n : Nat) (v1 : Int32) (v2 : Int32) : V_X10_nextBlock_4 f_all f_press f_gone post (n + 1) v1 v2 = ((vp_in 5 3320 ∧ (((f_all (5 : Int32).toNatClampNeg) ≤ v2 → post v1) ∧ (¬ (f_all (5 : Int32).toNatClampNeg) ≤ v2 → P_X10_isFreeThen v2 f_all f_gone (fun r_1 => ((r_1 = 0 → (∀ v2_2 : Int32, v2_2 = (v2 + 1) → V_X10_nextBlock_4 f_all f_press f_gone post n v1 v2_2)) ∧ (¬ r_1 = 0 → ((v1 < 0 → (∀ v2_3 : Int32, v2_3 = (v2 + 1) → V_X10_nextBlock_4 f_all f_press f_gone post n v2 v2_3)) ∧ (¬ v1 < 0 → (vp_in v2 64 ∧ (vp_in v1 64 ∧ (((f_press v1.toNatClampNeg) ≤ (f_press v2.toNatClampNeg) → (∀ v2_4 : Int32, v2_4 = (v2 + 1) → V_X10_nextBlock_4 f_all f_press f_gone post n v1 v2_4)) ∧ (¬ (f_press v1.toNatClampNeg) ≤ (f_press v2.toNatClampNeg) → (∀ v2_5 : Int32, v2_5 = (v2 + 1) → V_X10_nextBlock_4 f_all f_press f_gone post n v2 v2_5)))))))))))))) := rfl
def P_X10_nextBlock (f_all : Nat → Int32) (f_press : Nat → Int32) (f_gone : Nat → Int32) (post : Int32 → Prop) : Prop := (∃ k : Nat, V_X10_nextBlock_4 f_all f_press f_gone post k (-1) 0)
set_option maxRecDepth 100000 in
set_option maxHeartbeats 4000000 in
theorem c_X10_nextBlock (l : Launch) (D : va_G) (cI cB cS : ClassId) (a_this a_all a_press a_gone a_has a_few a_sawn a_cut a_todo : Nat) (f_all : Nat → Int32) (f_press : Nat → Int32) (f_gone : Nat → Int32) (post : Int32 → Prop) (hV : P_X10_nextBlock f_all f_press f_gone post) : Ci l yX10_nextBlock cX10_nextBlock 3 (some .int) rm_X10_nextBlock D cI cB cS [.ref a_this] [oc a_this 9 [.ref a_all, .ref a_has, .ref a_few, .ref a_sawn, .ref a_cut, .ref a_todo, .ref a_press, .ref a_gone], ai cI a_all 3320 f_all, ai cI a_press 64 f_press, ai cB a_gone 64 f_gone] (fun r (_ : Unit) => post r) (fun (_ : Unit) => [oc a_this 9 [.ref a_all, .ref a_has, .ref a_few, .ref a_sawn, .ref a_cut, .ref a_todo, .ref a_press, .ref a_gone], ai cI a_all 3320 f_all, ai cI a_press 64 f_press, ai cB a_gone 64 f_gone]) := by
  refine Ci.of ok_X10_nextBlock (Nat.le_of_ble_eq_true rfl) ?_
  intro p e s m args below meth c A Q hx hb hml hown ht hnm hK hP hA hS hret ls hl
  have hown : s.vm.findClass RX10 = some m.cls := hown
  have FX : CallFix p m c cX10_nextBlock 3 s args tblG RX10 := ⟨hx, hb, hml, hown, ht⟩
  have hP : PD D A [oc a_this 9 [.ref a_all, .ref a_has, .ref a_few, .ref a_sawn, .ref a_cut, .ref a_todo, .ref a_press, .ref a_gone], ai cI a_all 3320 f_all, ai cI a_press 64 f_press, ai cB a_gone 64 f_gone] s.heap := hP
  have hl : lv_has ls 3 [(0, .ref a_this)] := hl
  unfold P_X10_nextBlock at hV
  have b4 : ∀  (k4 : Nat) (v1 : Int32) (v2 : Int32) (H : Heap) (locs : List Loc) (ls : Array Slot), PD D A [oc a_this 9 [.ref a_all, .ref a_has, .ref a_few, .ref a_sawn, .ref a_cut, .ref a_todo, .ref a_press, .ref a_gone], ai cI a_all 3320 f_all, ai cI a_press 64 f_press, ai cB a_gone 64 f_gone] H → va_S A s.heap H locs → lv_has ls 3 [(0, .ref a_this), (1, .int v1), (2, .int v2)] → V_X10_nextBlock_4 f_all f_press f_gone post k4 v1 v2 → W p l e rm_X10_nextBlock s m args below meth c H locs 0 0 Q (F0 m 4 ls []) := by
    intro  k4
    induction k4 with
    | zero => intro v1 v2 H locs ls hP hS hl hV; exact False.elim hV
    | succ k4 ih4 =>
      intro v1 v2 H locs ls hP hS hl hV
      rw [V_X10_nextBlock_4_s] at hV
      refine lv_iload_n hx hb dX10_nextBlock_4 rfl (lv_at hl 2 rfl) ?_
      refine lv_aload_n hx hb dX10_nextBlock_5 rfl (lv_at hl 0 rfl) ?_
      refine gX10 hx hb ht hown hK hP 0 rfl 0 (by decide) fl_X10_7 (fun _ h => h) rfl dX10_nextBlock_6 ?_
      refine lv_iconst (v := 5) hx hb dX10_nextBlock_9 (by decide) ?_
      refine ild hx hb hK hP 1 rfl dX10_nextBlock_10 hV.1 ?_
      have hV := hV.2
      refine lv_icmp_ge (tgt := 49) hx hb dX10_nextBlock_11 (by decide) (fun h => ?_) (fun h => ?_)
      · have hV := hV.1 h
        refine lv_iload_n hx hb dX10_nextBlock_49 rfl (lv_at hl 1 rfl) ?_
        exact hret _ _ _ _ _ () hS dX10_nextBlock_50 hP hV
      · have hV := hV.2 h
        refine lv_aload_n hx hb dX10_nextBlock_14 rfl (lv_at hl 0 rfl) ?_
        refine lv_iload_n hx hb dX10_nextBlock_15 rfl (lv_at hl 2 rfl) ?_
        refine KVi (As := [.int v2]) (rest := []) FX (c_X10_isFreeThen l D cI cB cS a_this a_all a_gone a_has a_few a_sawn a_cut a_todo a_press v2 f_all f_gone _ hV) ok_X10_isFreeThen im_X10_isFreeThen se_X10_isFreeThen li_X10_117 dX10_nextBlock_16 hK hP hS hA [0, 1, 3] [2] 0 rfl rfl rfl (by decide) rfl rfl hl.1 (Nat.le_of_ble_eq_true rfl) ⟨Nat.le_of_ble_eq_true rfl, Nat.le_of_ble_eq_true rfl⟩ ⟨Nat.le_of_ble_eq_true rfl, Nat.le_of_ble_eq_true rfl⟩ (fun r_1 _ H locs hV hP hS => ?_)
        have hP : PD D A [ai cI a_press 64 f_press, oc a_this 9 [.ref a_all, .ref a_has, .ref a_few, .ref a_sawn, .ref a_cut, .ref a_todo, .ref a_press, .ref a_gone], ai cI a_all 3320 f_all, ai cB a_gone 64 f_gone] H := hP
        refine lv_if_eq (tgt := 43) hx hb dX10_nextBlock_19 (by decide) (fun h => ?_) (fun h => ?_)
        · have hV := hV.1 h
          obtain ⟨v2_2, e_v2_2⟩ : ∃ y : Int32, y = (v2 + 1) := ⟨_, rfl⟩
          have hV := hV v2_2 e_v2_2
          refine lv_iinc (v := v2_2) (lv' := [(2, .int v2_2), (0, .ref a_this), (1, .int v1)]) hx hb dX10_nextBlock_43 hl (k := 2) rfl (by rw [e_v2_2]; rfl) (by decide) rfl (fun ls hl => ?_)
          refine lv_goto (tgt := 4) hx hb dX10_nextBlock_46 (by decide) ?_
          exact ih4 v1 v2_2 _ _ _ (hP.sub [1, 2, 0, 3] rfl rfl) hS (lv_sub hl [1, 2, 0] rfl) hV
        · have hV := hV.2 h
          refine lv_iload_n hx hb dX10_nextBlock_22 rfl (lv_at hl 1 rfl) ?_
          refine lv_if_lt (tgt := 41) hx hb dX10_nextBlock_23 (by decide) (fun h => ?_) (fun h => ?_)
          · have hV := hV.1 h
            refine lv_iload_n hx hb dX10_nextBlock_41 rfl (lv_at hl 2 rfl) ?_
            refine lv_istore_n (lv' := [(1, .int v2), (0, .ref a_this), (2, .int v2)]) hx hb dX10_nextBlock_42 rfl hl (by decide) rfl (fun ls hl => ?_)
            obtain ⟨v2_3, e_v2_3⟩ : ∃ y : Int32, y = (v2 + 1) := ⟨_, rfl⟩
            have hV := hV v2_3 e_v2_3
            refine lv_iinc (v := v2_3) (lv' := [(2, .int v2_3), (1, .int v2), (0, .ref a_this)]) hx hb dX10_nextBlock_43 hl (k := 2) rfl (by rw [e_v2_3]; rfl) (by decide) rfl (fun ls hl => ?_)
            refine lv_goto (tgt := 4) hx hb dX10_nextBlock_46 (by decide) ?_
            exact ih4 v2 v2_3 _ _ _ (hP.sub [1, 2, 0, 3] rfl rfl) hS (lv_sub hl [2, 1, 0] rfl) hV
          · have hV := hV.2 h
            refine lv_aload_n hx hb dX10_nextBlock_26 rfl (lv_at hl 0 rfl) ?_
            refine gX10 hx hb ht hown hK hP 1 rfl 6 (by decide) fl_X10_29 (fun _ h => h) rfl dX10_nextBlock_27 ?_
            refine lv_iload_n hx hb dX10_nextBlock_30 rfl (lv_at hl 2 rfl) ?_
            refine ild hx hb hK hP 0 rfl dX10_nextBlock_31 hV.1 ?_
            have hV := hV.2
            refine lv_aload_n hx hb dX10_nextBlock_32 rfl (lv_at hl 0 rfl) ?_
            refine gX10 hx hb ht hown hK hP 1 rfl 6 (by decide) fl_X10_29 (fun _ h => h) rfl dX10_nextBlock_33 ?_
            refine lv_iload_n hx hb dX10_nextBlock_36 rfl (lv_at hl 1 rfl) ?_
            refine ild hx hb hK hP 0 rfl dX10_nextBlock_37 hV.1 ?_
            have hV := hV.2
            refine lv_icmp_ge (tgt := 43) hx hb dX10_nextBlock_38 (by decide) (fun h => ?_) (fun h => ?_)
            · have hV := hV.1 h
              obtain ⟨v2_4, e_v2_4⟩ : ∃ y : Int32, y = (v2 + 1) := ⟨_, rfl⟩
              have hV := hV v2_4 e_v2_4
              refine lv_iinc (v := v2_4) (lv' := [(2, .int v2_4), (0, .ref a_this), (1, .int v1)]) hx hb dX10_nextBlock_43 hl (k := 2) rfl (by rw [e_v2_4]; rfl) (by decide) rfl (fun ls hl => ?_)
              refine lv_goto (tgt := 4) hx hb dX10_nextBlock_46 (by decide) ?_
              exact ih4 v1 v2_4 _ _ _ (hP.sub [1, 2, 0, 3] rfl rfl) hS (lv_sub hl [1, 2, 0] rfl) hV
            · have hV := hV.2 h
              refine lv_iload_n hx hb dX10_nextBlock_41 rfl (lv_at hl 2 rfl) ?_
              refine lv_istore_n (lv' := [(1, .int v2), (0, .ref a_this), (2, .int v2)]) hx hb dX10_nextBlock_42 rfl hl (by decide) rfl (fun ls hl => ?_)
              obtain ⟨v2_5, e_v2_5⟩ : ∃ y : Int32, y = (v2 + 1) := ⟨_, rfl⟩
              have hV := hV v2_5 e_v2_5
              refine lv_iinc (v := v2_5) (lv' := [(2, .int v2_5), (1, .int v2), (0, .ref a_this)]) hx hb dX10_nextBlock_43 hl (k := 2) rfl (by rw [e_v2_5]; rfl) (by decide) rfl (fun ls hl => ?_)
              refine lv_goto (tgt := 4) hx hb dX10_nextBlock_46 (by decide) ?_
              exact ih4 v2 v2_5 _ _ _ (hP.sub [1, 2, 0, 3] rfl rfl) hS (lv_sub hl [2, 1, 0] rfl) hV
  refine lv_iconst (v := (-1)) hx hb dX10_nextBlock_0 (by decide) ?_
  refine lv_istore_n (lv' := [(1, .int (-1)), (0, .ref a_this)]) hx hb dX10_nextBlock_1 rfl hl (by decide) rfl (fun ls hl => ?_)
  refine lv_iconst (v := 0) hx hb dX10_nextBlock_2 (by decide) ?_
  refine lv_istore_n (lv' := [(2, .int 0), (1, .int (-1)), (0, .ref a_this)]) hx hb dX10_nextBlock_3 rfl hl (by decide) rfl (fun ls hl => ?_)
  obtain ⟨k, hV⟩ := hV
  exact b4 k (-1) 0 _ _ _ hP hS (lv_sub hl [2, 1, 0] rfl) hV

def rm_X10_presses : Room := { frames := 2, cells := 0, slots := 0, locals := 44 }
def V_X10_presses_64 (v2 : Int32) (f_all : Nat → Int32) (K_52 : Int32 → Int32 → (Nat → Int32) → Prop) : Nat → Int32 → Int32 → (Nat → Int32) → Prop
  | 0, _, _, _ => False
  | n + 1, v1, v3, f_press => (vp_in 5 3320 ∧ (((f_all (5 : Int32).toNatClampNeg) ≤ v3 → (∀ v2_1 : Int32, v2_1 = (v2 + 1) → K_52 v1 v2_1 f_press)) ∧ (¬ (f_all (5 : Int32).toNatClampNeg) ≤ v3 → P_X10_stands v2 f_all (fun r_2 => ((r_2 = 0 → (∀ v3_3 : Int32, v3_3 = (v3 + 1) → V_X10_presses_64 v2 f_all K_52 n v1 v3_3 f_press)) ∧ (¬ r_2 = 0 → P_X10_stands v3 f_all (fun r_4 => ((r_4 = 0 → (∀ v3_5 : Int32, v3_5 = (v3 + 1) → V_X10_presses_64 v2 f_all K_52 n v1 v3_5 f_press)) ∧ (¬ r_4 = 0 → P_X10_isAbove v2 v3 f_all (fun r_6 => ((r_6 = 0 → (∀ v3_7 : Int32, v3_7 = (v3 + 1) → V_X10_presses_64 v2 f_all K_52 n v1 v3_7 f_press)) ∧ (¬ r_6 = 0 → (vp_in v3 64 ∧ (vp_in v2 64 ∧ ((((f_press v3.toNatClampNeg) - 1) < (f_press v2.toNatClampNeg) → (vp_in v3 64 ∧ (vp_in v2 64 ∧ ∀ f_press_8 : Nat → Int32, f_press_8 = upd f_press v2.toNatClampNeg ((f_press v3.toNatClampNeg) - 1) → (∀ v3_9 : Int32, v3_9 = (v3 + 1) → V_X10_presses_64 v2 f_all K_52 n 1 v3_9 f_press_8)))) ∧ (¬ ((f_press v3.toNatClampNeg) - 1) < (f_press v2.toNatClampNeg) → (∀ v3_10 : Int32, v3_10 = (v3 + 1) → V_X10_presses_64 v2 f_all K_52 n v1 v3_10 f_press)))))))))))))))))
theorem V_X10_presses_64_s (v2 : Int32) (f_all : Nat → Int32) (K_52 : Int32 → Int32 → (Nat → Int32) → Prop) (n : Nat) (v1 : Int32) (v3 : Int32) (f_press : Nat → Int32) : V_X10_presses_64 v2 f_all K_52 (n + 1) v1 v3 f_press = ((vp_in 5 3320 ∧ (((f_all (5 : Int32).toNatClampNeg) ≤ v3 → (∀ v2_1 : Int32, v2_1 = (v2 + 1) → K_52 v1 v2_1 f_press)) ∧ (¬ (f_all (5 : Int32).toNatClampNeg) ≤ v3 → P_X10_stands v2 f_all (fun r_2 => ((r_2 = 0 → (∀ v3_3 : Int32, v3_3 = (v3 + 1) → V_X10_presses_64 v2 f_all K_52 n v1 v3_3 f_press)) ∧ (¬ r_2 = 0 → P_X10_stands v3 f_all (fun r_4 => ((r_4 = 0 → (∀ v3_5 : Int32, v3_5 = (v3 + 1) → V_X10_presses_64 v2 f_all K_52 n v1 v3_5 f_press)) ∧ (¬ r_4 = 0 → P_X10_isAbove v2 v3 f_all (fun r_6 => ((r_6 = 0 → (∀ v3_7 : Int32, v3_7 = (v3 + 1) → V_X10_presses_64 v2 f_all K_52 n v1 v3_7 f_press)) ∧ (¬ r_6 = 0 → (vp_in v3 64 ∧ (vp_in v2 64 ∧ ((((f_press v3.toNatClampNeg) - 1) < (f_press v2.toNatClampNeg) → (vp_in v3 64 ∧ (vp_in v2 64 ∧ ∀ f_press_8 : Nat → Int32, f_press_8 = upd f_press v2.toNatClampNeg ((f_press v3.toNatClampNeg) - 1) → (∀ v3_9 : Int32, v3_9 = (v3 + 1) → V_X10_presses_64 v2 f_all K_52 n 1 v3_9 f_press_8)))) ∧ (¬ ((f_press v3.toNatClampNeg) - 1) < (f_press v2.toNatClampNeg) → (∀ v3_10 : Int32, v3_10 = (v3 + 1) → V_X10_presses_64 v2 f_all K_52 n v1 v3_10 f_press)))))))))))))))))) := rfl
def V_X10_presses_52 (f_all : Nat → Int32) (K_44 : Int32 → (Nat → Int32) → Prop) : Nat → Int32 → Int32 → (Nat → Int32) → Prop
  | 0, _, _, _ => False
  | n + 1, v1, v2, f_press => (vp_in 5 3320 ∧ (((f_all (5 : Int32).toNatClampNeg) ≤ v2 → K_44 v1 f_press) ∧ (¬ (f_all (5 : Int32).toNatClampNeg) ≤ v2 → (∃ k : Nat, V_X10_presses_64 v2 f_all (V_X10_presses_52 f_all K_44 n) k v1 0 f_press))))
theorem V_X10_presses_52_s (f_all : Nat → Int32) (K_44 : Int32 → (Nat → Int32) → Prop) (n : Nat) (v1 : Int32) (v2 : Int32) (f_press : Nat → Int32) : V_X10_presses_52 f_all K_44 (n + 1) v1 v2 f_press = ((vp_in 5 3320 ∧ (((f_all (5 : Int32).toNatClampNeg) ≤ v2 → K_44 v1 f_press) ∧ (¬ (f_all (5 : Int32).toNatClampNeg) ≤ v2 → (∃ k : Nat, V_X10_presses_64 v2 f_all (V_X10_presses_52 f_all K_44 n) k v1 0 f_press))))) := rfl
def V_X10_presses_44 (f_all : Nat → Int32) (post : (Nat → Int32) → Prop) : Nat → Int32 → (Nat → Int32) → Prop
  | 0, _, _ => False
  | n + 1, v1, f_press => ((v1 = 0 → post f_press) ∧ (¬ v1 = 0 → (∃ k : Nat, V_X10_presses_52 f_all (V_X10_presses_44 f_all post n) k 0 0 f_press)))
theorem V_X10_presses_44_s (f_all : Nat → Int32) (post : (Nat → Int32) → Prop) (n : Nat) (v1 : Int32) (f_press : Nat → Int32) : V_X10_presses_44 f_all post (n + 1) v1 f_press = (((v1 = 0 → post f_press) ∧ (¬ v1 = 0 → (∃ k : Nat, V_X10_presses_52 f_all (V_X10_presses_44 f_all post n) k 0 0 f_press)))) := rfl
def V_X10_presses_2 (f_all : Nat → Int32) (post : (Nat → Int32) → Prop) : Nat → Int32 → (Nat → Int32) → Prop
  | 0, _, _ => False
  | n + 1, v1, f_press => (vp_in 5 3320 ∧ (((f_all (5 : Int32).toNatClampNeg) ≤ v1 → (∃ k : Nat, V_X10_presses_44 f_all post k 1 f_press)) ∧ (¬ (f_all (5 : Int32).toNatClampNeg) ≤ v1 → P_X10_due v1 f_all (fun r_11 => ((0 ≤ r_11 → P_X10_due v1 f_all (fun r_12 => (vp_in v1 64 ∧ ∀ f_press_13 : Nat → Int32, f_press_13 = upd f_press v1.toNatClampNeg r_12 → (∀ v1_14 : Int32, v1_14 = (v1 + 1) → V_X10_presses_2 f_all post n v1_14 f_press_13)))) ∧ (¬ 0 ≤ r_11 → (vp_in v1 64 ∧ ∀ f_press_15 : Nat → Int32, f_press_15 = upd f_press v1.toNatClampNeg 100000 → (∀ v1_16 : Int32, v1_16 = (v1 + 1) → V_X10_presses_2 f_all post n v1_16 f_press_15))))))))
theorem V_X10_presses_2_s (f_all : Nat → Int32) (post : (Nat → Int32) → Prop) (n : Nat) (v1 : Int32) (f_press : Nat → Int32) : V_X10_presses_2 f_all post (n + 1) v1 f_press = ((vp_in 5 3320 ∧ (((f_all (5 : Int32).toNatClampNeg) ≤ v1 → (∃ k : Nat, V_X10_presses_44 f_all post k 1 f_press)) ∧ (¬ (f_all (5 : Int32).toNatClampNeg) ≤ v1 → P_X10_due v1 f_all (fun r_11 => ((0 ≤ r_11 → P_X10_due v1 f_all (fun r_12 => (vp_in v1 64 ∧ ∀ f_press_13 : Nat → Int32, f_press_13 = upd f_press v1.toNatClampNeg r_12 → (∀ v1_14 : Int32, v1_14 = (v1 + 1) → V_X10_presses_2 f_all post n v1_14 f_press_13)))) ∧ (¬ 0 ≤ r_11 → (vp_in v1 64 ∧ ∀ f_press_15 : Nat → Int32, f_press_15 = upd f_press v1.toNatClampNeg 100000 → (∀ v1_16 : Int32, v1_16 = (v1 + 1) → V_X10_presses_2 f_all post n v1_16 f_press_15))))))))) := rfl
def P_X10_presses (f_all : Nat → Int32) (f_press : Nat → Int32) (post : (Nat → Int32) → Prop) : Prop := (∃ k : Nat, V_X10_presses_2 f_all post k 0 f_press)
set_option maxRecDepth 100000 in
set_option maxHeartbeats 4000000 in
theorem c_X10_presses (l : Launch) (D : va_G) (cI cB cS : ClassId) (a_this a_all a_press a_has a_few a_sawn a_cut a_todo a_gone : Nat) (f_all : Nat → Int32) (f_press : Nat → Int32) (post : (Nat → Int32) → Prop) (hV : P_X10_presses f_all f_press post) : Cv l yX10_presses cX10_presses 4 none rm_X10_presses D cI cB cS [.ref a_this] [oc a_this 9 [.ref a_all, .ref a_has, .ref a_few, .ref a_sawn, .ref a_cut, .ref a_todo, .ref a_press, .ref a_gone], ai cI a_all 3320 f_all, ai cI a_press 64 f_press] (fun (u : (Nat → Int32)) => post u) (fun (u : (Nat → Int32)) => [oc a_this 9 [.ref a_all, .ref a_has, .ref a_few, .ref a_sawn, .ref a_cut, .ref a_todo, .ref a_press, .ref a_gone], ai cI a_all 3320 f_all, ai cI a_press 64 u]) := by
  refine Cv.of ok_X10_presses (Nat.le_of_ble_eq_true rfl) ?_
  intro p e s m args below meth c A Q hx hb hml hown ht hnm hK hP hA hS hret ls hl
  have hown : s.vm.findClass RX10 = some m.cls := hown
  have FX : CallFix p m c cX10_presses 4 s args tblG RX10 := ⟨hx, hb, hml, hown, ht⟩
  have hP : PD D A [oc a_this 9 [.ref a_all, .ref a_has, .ref a_few, .ref a_sawn, .ref a_cut, .ref a_todo, .ref a_press, .ref a_gone], ai cI a_all 3320 f_all, ai cI a_press 64 f_press] s.heap := hP
  have hl : lv_has ls 4 [(0, .ref a_this)] := hl
  unfold P_X10_presses at hV
  have b44 : ∀  (k44 : Nat) (v1 : Int32) (f_press : Nat → Int32) (H : Heap) (locs : List Loc) (ls : Array Slot), PD D A [oc a_this 9 [.ref a_all, .ref a_has, .ref a_few, .ref a_sawn, .ref a_cut, .ref a_todo, .ref a_press, .ref a_gone], ai cI a_all 3320 f_all, ai cI a_press 64 f_press] H → va_S A s.heap H locs → lv_has ls 4 [(0, .ref a_this), (1, .int v1)] → V_X10_presses_44 f_all post k44 v1 f_press → W p l e rm_X10_presses s m args below meth c H locs 0 0 Q (F0 m 44 ls []) := by
    intro  k44
    induction k44 with
    | zero => intro v1 f_press H locs ls hP hS hl hV; exact False.elim hV
    | succ k44 ih44 =>
      intro v1 f_press H locs ls hP hS hl hV
      rw [V_X10_presses_44_s] at hV
      have b52 : ∀  (k52 : Nat) (v1 : Int32) (v2 : Int32) (f_press : Nat → Int32) (H : Heap) (locs : List Loc) (ls : Array Slot), PD D A [oc a_this 9 [.ref a_all, .ref a_has, .ref a_few, .ref a_sawn, .ref a_cut, .ref a_todo, .ref a_press, .ref a_gone], ai cI a_all 3320 f_all, ai cI a_press 64 f_press] H → va_S A s.heap H locs → lv_has ls 4 [(0, .ref a_this), (1, .int v1), (2, .int v2)] → V_X10_presses_52 f_all (V_X10_presses_44 f_all post k44) k52 v1 v2 f_press → W p l e rm_X10_presses s m args below meth c H locs 0 0 Q (F0 m 52 ls []) := by
        intro  k52
        induction k52 with
        | zero => intro v1 v2 f_press H locs ls hP hS hl hV; exact False.elim hV
        | succ k52 ih52 =>
          intro v1 v2 f_press H locs ls hP hS hl hV
          rw [V_X10_presses_52_s] at hV
          have b64 : ∀ (v2 : Int32) (k64 : Nat) (v1 : Int32) (v3 : Int32) (f_press : Nat → Int32) (H : Heap) (locs : List Loc) (ls : Array Slot), PD D A [oc a_this 9 [.ref a_all, .ref a_has, .ref a_few, .ref a_sawn, .ref a_cut, .ref a_todo, .ref a_press, .ref a_gone], ai cI a_all 3320 f_all, ai cI a_press 64 f_press] H → va_S A s.heap H locs → lv_has ls 4 [(0, .ref a_this), (1, .int v1), (2, .int v2), (3, .int v3)] → V_X10_presses_64 v2 f_all (V_X10_presses_52 f_all (V_X10_presses_44 f_all post k44) k52) k64 v1 v3 f_press → W p l e rm_X10_presses s m args below meth c H locs 0 0 Q (F0 m 64 ls []) := by
            intro v2 k64
            induction k64 with
            | zero => intro v1 v3 f_press H locs ls hP hS hl hV; exact False.elim hV
            | succ k64 ih64 =>
              intro v1 v3 f_press H locs ls hP hS hl hV
              rw [V_X10_presses_64_s] at hV
              refine lv_iload_n hx hb dX10_presses_64 rfl (lv_at hl 3 rfl) ?_
              refine lv_aload_n hx hb dX10_presses_65 rfl (lv_at hl 0 rfl) ?_
              refine gX10 hx hb ht hown hK hP 0 rfl 0 (by decide) fl_X10_7 (fun _ h => h) rfl dX10_presses_66 ?_
              refine lv_iconst (v := 5) hx hb dX10_presses_69 (by decide) ?_
              refine ild hx hb hK hP 1 rfl dX10_presses_70 hV.1 ?_
              have hV := hV.2
              refine lv_icmp_ge (tgt := 141) hx hb dX10_presses_71 (by decide) (fun h => ?_) (fun h => ?_)
              · have hV := hV.1 h
                obtain ⟨v2_1, e_v2_1⟩ : ∃ y : Int32, y = (v2 + 1) := ⟨_, rfl⟩
                have hV := hV v2_1 e_v2_1
                refine lv_iinc (v := v2_1) (lv' := [(2, .int v2_1), (0, .ref a_this), (1, .int v1), (3, .int v3)]) hx hb dX10_presses_141 hl (k := 2) rfl (by rw [e_v2_1]; rfl) (by decide) rfl (fun ls hl => ?_)
                refine lv_goto (tgt := 52) hx hb dX10_presses_144 (by decide) ?_
                exact ih52 v1 v2_1 f_press _ _ _ hP hS (lv_sub hl [1, 2, 0] rfl) hV
              · have hV := hV.2 h
                refine lv_aload_n hx hb dX10_presses_74 rfl (lv_at hl 0 rfl) ?_
                refine lv_iload_n hx hb dX10_presses_75 rfl (lv_at hl 2 rfl) ?_
                refine KVi (As := [.int v2]) (rest := []) FX (c_X10_stands l D cI cB cS a_this a_all a_has a_few a_sawn a_cut a_todo a_press a_gone v2 f_all _ hV) ok_X10_stands im_X10_stands se_X10_stands li_X10_90 dX10_presses_76 hK hP hS hA [0, 1] [2] 0 rfl rfl rfl (by decide) rfl rfl hl.1 (Nat.le_of_ble_eq_true rfl) ⟨Nat.le_of_ble_eq_true rfl, Nat.le_of_ble_eq_true rfl⟩ ⟨Nat.le_of_ble_eq_true rfl, Nat.le_of_ble_eq_true rfl⟩ (fun r_2 _ H locs hV hP hS => ?_)
                have hP : PD D A [ai cI a_press 64 f_press, oc a_this 9 [.ref a_all, .ref a_has, .ref a_few, .ref a_sawn, .ref a_cut, .ref a_todo, .ref a_press, .ref a_gone], ai cI a_all 3320 f_all] H := hP
                refine lv_if_eq (tgt := 135) hx hb dX10_presses_79 (by decide) (fun h => ?_) (fun h => ?_)
                · have hV := hV.1 h
                  obtain ⟨v3_3, e_v3_3⟩ : ∃ y : Int32, y = (v3 + 1) := ⟨_, rfl⟩
                  have hV := hV v3_3 e_v3_3
                  refine lv_iinc (v := v3_3) (lv' := [(3, .int v3_3), (0, .ref a_this), (1, .int v1), (2, .int v2)]) hx hb dX10_presses_135 hl (k := 3) rfl (by rw [e_v3_3]; rfl) (by decide) rfl (fun ls hl => ?_)
                  refine lv_goto (tgt := 64) hx hb dX10_presses_138 (by decide) ?_
                  exact ih64 v1 v3_3 f_press _ _ _ (hP.sub [1, 2, 0] rfl rfl) hS (lv_sub hl [1, 2, 3, 0] rfl) hV
                · have hV := hV.2 h
                  refine lv_aload_n hx hb dX10_presses_82 rfl (lv_at hl 0 rfl) ?_
                  refine lv_iload_n hx hb dX10_presses_83 rfl (lv_at hl 3 rfl) ?_
                  refine KVi (As := [.int v3]) (rest := []) FX (c_X10_stands l D cI cB cS a_this a_all a_has a_few a_sawn a_cut a_todo a_press a_gone v3 f_all _ hV) ok_X10_stands im_X10_stands se_X10_stands li_X10_90 dX10_presses_84 hK hP hS hA [1, 2] [0] 1 rfl rfl rfl (by decide) rfl rfl hl.1 (Nat.le_of_ble_eq_true rfl) ⟨Nat.le_of_ble_eq_true rfl, Nat.le_of_ble_eq_true rfl⟩ ⟨Nat.le_of_ble_eq_true rfl, Nat.le_of_ble_eq_true rfl⟩ (fun r_4 _ H locs hV hP hS => ?_)
                  have hP : PD D A [ai cI a_press 64 f_press, oc a_this 9 [.ref a_all, .ref a_has, .ref a_few, .ref a_sawn, .ref a_cut, .ref a_todo, .ref a_press, .ref a_gone], ai cI a_all 3320 f_all] H := hP
                  refine lv_if_eq (tgt := 135) hx hb dX10_presses_87 (by decide) (fun h => ?_) (fun h => ?_)
                  · have hV := hV.1 h
                    obtain ⟨v3_5, e_v3_5⟩ : ∃ y : Int32, y = (v3 + 1) := ⟨_, rfl⟩
                    have hV := hV v3_5 e_v3_5
                    refine lv_iinc (v := v3_5) (lv' := [(3, .int v3_5), (0, .ref a_this), (1, .int v1), (2, .int v2)]) hx hb dX10_presses_135 hl (k := 3) rfl (by rw [e_v3_5]; rfl) (by decide) rfl (fun ls hl => ?_)
                    refine lv_goto (tgt := 64) hx hb dX10_presses_138 (by decide) ?_
                    exact ih64 v1 v3_5 f_press _ _ _ (hP.sub [1, 2, 0] rfl rfl) hS (lv_sub hl [1, 2, 3, 0] rfl) hV
                  · have hV := hV.2 h
                    refine lv_aload_n hx hb dX10_presses_90 rfl (lv_at hl 0 rfl) ?_
                    refine lv_iload_n hx hb dX10_presses_91 rfl (lv_at hl 2 rfl) ?_
                    refine lv_iload_n hx hb dX10_presses_92 rfl (lv_at hl 3 rfl) ?_
                    refine KVi (As := [.int v2, .int v3]) (rest := []) FX (c_X10_isAbove l D cI cB cS a_this a_all a_has a_few a_sawn a_cut a_todo a_press a_gone v2 v3 f_all _ hV) ok_X10_isAbove im_X10_isAbove se_X10_isAbove li_X10_94 dX10_presses_93 hK hP hS hA [1, 2] [0] 1 rfl rfl rfl (by decide) rfl rfl hl.1 (Nat.le_of_ble_eq_true rfl) ⟨Nat.le_of_ble_eq_true rfl, Nat.le_of_ble_eq_true rfl⟩ ⟨Nat.le_of_ble_eq_true rfl, Nat.le_of_ble_eq_true rfl⟩ (fun r_6 _ H locs hV hP hS => ?_)
                    have hP : PD D A [ai cI a_press 64 f_press, oc a_this 9 [.ref a_all, .ref a_has, .ref a_few, .ref a_sawn, .ref a_cut, .ref a_todo, .ref a_press, .ref a_gone], ai cI a_all 3320 f_all] H := hP
                    refine lv_if_eq (tgt := 135) hx hb dX10_presses_96 (by decide) (fun h => ?_) (fun h => ?_)
                    · have hV := hV.1 h
                      obtain ⟨v3_7, e_v3_7⟩ : ∃ y : Int32, y = (v3 + 1) := ⟨_, rfl⟩
                      have hV := hV v3_7 e_v3_7
                      refine lv_iinc (v := v3_7) (lv' := [(3, .int v3_7), (0, .ref a_this), (1, .int v1), (2, .int v2)]) hx hb dX10_presses_135 hl (k := 3) rfl (by rw [e_v3_7]; rfl) (by decide) rfl (fun ls hl => ?_)
                      refine lv_goto (tgt := 64) hx hb dX10_presses_138 (by decide) ?_
                      exact ih64 v1 v3_7 f_press _ _ _ (hP.sub [1, 2, 0] rfl rfl) hS (lv_sub hl [1, 2, 3, 0] rfl) hV
                    · have hV := hV.2 h
                      refine lv_aload_n hx hb dX10_presses_99 rfl (lv_at hl 0 rfl) ?_
                      refine gX10 hx hb ht hown hK hP 1 rfl 6 (by decide) fl_X10_29 (fun _ h => h) rfl dX10_presses_100 ?_
                      refine lv_iload_n hx hb dX10_presses_103 rfl (lv_at hl 3 rfl) ?_
                      refine ild hx hb hK hP 0 rfl dX10_presses_104 hV.1 ?_
                      have hV := hV.2
                      refine lv_iconst (v := 1) hx hb dX10_presses_105 (by decide) ?_
                      refine lv_isub hx hb dX10_presses_106 ?_
                      refine lv_aload_n hx hb dX10_presses_107 rfl (lv_at hl 0 rfl) ?_
                      refine gX10 hx hb ht hown hK hP 1 rfl 6 (by decide) fl_X10_29 (fun _ h => h) rfl dX10_presses_108 ?_
                      refine lv_iload_n hx hb dX10_presses_111 rfl (lv_at hl 2 rfl) ?_
                      refine ild hx hb hK hP 0 rfl dX10_presses_112 hV.1 ?_
                      have hV := hV.2
                      refine lv_icmp_lt (tgt := 119) hx hb dX10_presses_113 (by decide) (fun h => ?_) (fun h => ?_)
                      · have hV := hV.1 h
                        refine lv_aload_n hx hb dX10_presses_119 rfl (lv_at hl 0 rfl) ?_
                        refine gX10 hx hb ht hown hK hP 1 rfl 6 (by decide) fl_X10_29 (fun _ h => h) rfl dX10_presses_120 ?_
                        refine lv_iload_n hx hb dX10_presses_123 rfl (lv_at hl 2 rfl) ?_
                        refine lv_aload_n hx hb dX10_presses_124 rfl (lv_at hl 0 rfl) ?_
                        refine gX10 hx hb ht hown hK hP 1 rfl 6 (by decide) fl_X10_29 (fun _ h => h) rfl dX10_presses_125 ?_
                        refine lv_iload_n hx hb dX10_presses_128 rfl (lv_at hl 3 rfl) ?_
                        refine ild hx hb hK hP 0 rfl dX10_presses_129 hV.1 ?_
                        have hV := hV.2
                        refine lv_iconst (v := 1) hx hb dX10_presses_130 (by decide) ?_
                        refine lv_isub hx hb dX10_presses_131 ?_
                        refine ist hx hb hK hP hS 0 rfl dX10_presses_132 hV.1 (fun f_press_8 e_f_press_8 H locs hP hS => ?_)
                        have hV := hV.2 f_press_8 e_f_press_8
                        have hP : PD D A [ai cI a_press 64 f_press_8, oc a_this 9 [.ref a_all, .ref a_has, .ref a_few, .ref a_sawn, .ref a_cut, .ref a_todo, .ref a_press, .ref a_gone], ai cI a_all 3320 f_all] H := hP
                        refine lv_iconst (v := 1) hx hb dX10_presses_133 (by decide) ?_
                        refine lv_istore_n (lv' := [(1, .int 1), (0, .ref a_this), (2, .int v2), (3, .int v3)]) hx hb dX10_presses_134 rfl hl (by decide) rfl (fun ls hl => ?_)
                        obtain ⟨v3_9, e_v3_9⟩ : ∃ y : Int32, y = (v3 + 1) := ⟨_, rfl⟩
                        have hV := hV v3_9 e_v3_9
                        refine lv_iinc (v := v3_9) (lv' := [(3, .int v3_9), (1, .int 1), (0, .ref a_this), (2, .int v2)]) hx hb dX10_presses_135 hl (k := 3) rfl (by rw [e_v3_9]; rfl) (by decide) rfl (fun ls hl => ?_)
                        refine lv_goto (tgt := 64) hx hb dX10_presses_138 (by decide) ?_
                        exact ih64 1 v3_9 f_press_8 _ _ _ (hP.sub [1, 2, 0] rfl rfl) hS (lv_sub hl [2, 1, 3, 0] rfl) hV
                      · have hV := hV.2 h
                        refine lv_goto (tgt := 135) hx hb dX10_presses_116 (by decide) ?_
                        obtain ⟨v3_10, e_v3_10⟩ : ∃ y : Int32, y = (v3 + 1) := ⟨_, rfl⟩
                        have hV := hV v3_10 e_v3_10
                        refine lv_iinc (v := v3_10) (lv' := [(3, .int v3_10), (0, .ref a_this), (1, .int v1), (2, .int v2)]) hx hb dX10_presses_135 hl (k := 3) rfl (by rw [e_v3_10]; rfl) (by decide) rfl (fun ls hl => ?_)
                        refine lv_goto (tgt := 64) hx hb dX10_presses_138 (by decide) ?_
                        exact ih64 v1 v3_10 f_press _ _ _ (hP.sub [1, 2, 0] rfl rfl) hS (lv_sub hl [1, 2, 3, 0] rfl) hV
          refine lv_iload_n hx hb dX10_presses_52 rfl (lv_at hl 2 rfl) ?_
          refine lv_aload_n hx hb dX10_presses_53 rfl (lv_at hl 0 rfl) ?_
          refine gX10 hx hb ht hown hK hP 0 rfl 0 (by decide) fl_X10_7 (fun _ h => h) rfl dX10_presses_54 ?_
          refine lv_iconst (v := 5) hx hb dX10_presses_57 (by decide) ?_
          refine ild hx hb hK hP 1 rfl dX10_presses_58 hV.1 ?_
          have hV := hV.2
          refine lv_icmp_ge (tgt := 147) hx hb dX10_presses_59 (by decide) (fun h => ?_) (fun h => ?_)
          · have hV := hV.1 h
            refine lv_goto (tgt := 44) hx hb dX10_presses_147 (by decide) ?_
            exact ih44 v1 f_press _ _ _ hP hS (lv_sub hl [0, 1] rfl) hV
          · have hV := hV.2 h
            refine lv_iconst (v := 0) hx hb dX10_presses_62 (by decide) ?_
            refine lv_istore_n (lv' := [(3, .int 0), (0, .ref a_this), (1, .int v1), (2, .int v2)]) hx hb dX10_presses_63 rfl hl (by decide) rfl (fun ls hl => ?_)
            obtain ⟨k, hV⟩ := hV
            exact b64 v2 k v1 0 f_press _ _ _ hP hS (lv_sub hl [1, 2, 3, 0] rfl) hV
      refine lv_iload_n hx hb dX10_presses_44 rfl (lv_at hl 1 rfl) ?_
      refine lv_if_eq (tgt := 150) hx hb dX10_presses_45 (by decide) (fun h => ?_) (fun h => ?_)
      · have hV := hV.1 h
        exact hret _ _ _ _ f_press hS dX10_presses_150 hP hV
      · have hV := hV.2 h
        refine lv_iconst (v := 0) hx hb dX10_presses_48 (by decide) ?_
        refine lv_istore_n (lv' := [(1, .int 0), (0, .ref a_this)]) hx hb dX10_presses_49 rfl hl (by decide) rfl (fun ls hl => ?_)
        refine lv_iconst (v := 0) hx hb dX10_presses_50 (by decide) ?_
        refine lv_istore_n (lv' := [(2, .int 0), (1, .int 0), (0, .ref a_this)]) hx hb dX10_presses_51 rfl hl (by decide) rfl (fun ls hl => ?_)
        obtain ⟨k, hV⟩ := hV
        exact b52 k 0 0 f_press _ _ _ hP hS (lv_sub hl [2, 1, 0] rfl) hV
  have b2 : ∀  (k2 : Nat) (v1 : Int32) (f_press : Nat → Int32) (H : Heap) (locs : List Loc) (ls : Array Slot), PD D A [oc a_this 9 [.ref a_all, .ref a_has, .ref a_few, .ref a_sawn, .ref a_cut, .ref a_todo, .ref a_press, .ref a_gone], ai cI a_all 3320 f_all, ai cI a_press 64 f_press] H → va_S A s.heap H locs → lv_has ls 4 [(0, .ref a_this), (1, .int v1)] → V_X10_presses_2 f_all post k2 v1 f_press → W p l e rm_X10_presses s m args below meth c H locs 0 0 Q (F0 m 2 ls []) := by
    intro  k2
    induction k2 with
    | zero => intro v1 f_press H locs ls hP hS hl hV; exact False.elim hV
    | succ k2 ih2 =>
      intro v1 f_press H locs ls hP hS hl hV
      rw [V_X10_presses_2_s] at hV
      refine lv_iload_n hx hb dX10_presses_2 rfl (lv_at hl 1 rfl) ?_
      refine lv_aload_n hx hb dX10_presses_3 rfl (lv_at hl 0 rfl) ?_
      refine gX10 hx hb ht hown hK hP 0 rfl 0 (by decide) fl_X10_7 (fun _ h => h) rfl dX10_presses_4 ?_
      refine lv_iconst (v := 5) hx hb dX10_presses_7 (by decide) ?_
      refine ild hx hb hK hP 1 rfl dX10_presses_8 hV.1 ?_
      have hV := hV.2
      refine lv_icmp_ge (tgt := 42) hx hb dX10_presses_9 (by decide) (fun h => ?_) (fun h => ?_)
      · have hV := hV.1 h
        refine lv_iconst (v := 1) hx hb dX10_presses_42 (by decide) ?_
        refine lv_istore_n (lv' := [(1, .int 1), (0, .ref a_this)]) hx hb dX10_presses_43 rfl hl (by decide) rfl (fun ls hl => ?_)
        obtain ⟨k, hV⟩ := hV
        exact b44 k 1 f_press _ _ _ hP hS (lv_sub hl [1, 0] rfl) hV
      · have hV := hV.2 h
        refine lv_aload_n hx hb dX10_presses_12 rfl (lv_at hl 0 rfl) ?_
        refine gX10 hx hb ht hown hK hP 0 rfl 6 (by decide) fl_X10_29 (fun _ h => h) rfl dX10_presses_13 ?_
        refine lv_iload_n hx hb dX10_presses_16 rfl (lv_at hl 1 rfl) ?_
        refine lv_aload_n hx hb dX10_presses_17 rfl (lv_at hl 0 rfl) ?_
        refine lv_iload_n hx hb dX10_presses_18 rfl (lv_at hl 1 rfl) ?_
        refine KVi (As := [.int v1]) (rest := [.int v1, .ref a_press]) FX (c_X10_due l D cI cB cS a_this a_all a_has a_few a_sawn a_cut a_todo a_press a_gone v1 f_all _ hV) ok_X10_due im_X10_due se_X10_due li_X10_100 dX10_presses_19 hK hP hS hA [0, 1] [2] 0 rfl rfl rfl (by decide) rfl rfl hl.1 (Nat.le_of_ble_eq_true rfl) ⟨Nat.le_of_ble_eq_true rfl, Nat.le_of_ble_eq_true rfl⟩ ⟨Nat.le_of_ble_eq_true rfl, Nat.le_of_ble_eq_true rfl⟩ (fun r_11 _ H locs hV hP hS => ?_)
        have hP : PD D A [ai cI a_press 64 f_press, oc a_this 9 [.ref a_all, .ref a_has, .ref a_few, .ref a_sawn, .ref a_cut, .ref a_todo, .ref a_press, .ref a_gone], ai cI a_all 3320 f_all] H := hP
        refine lv_if_ge (tgt := 30) hx hb dX10_presses_22 (by decide) (fun h => ?_) (fun h => ?_)
        · have hV := hV.1 h
          refine lv_aload_n hx hb dX10_presses_30 rfl (lv_at hl 0 rfl) ?_
          refine lv_iload_n hx hb dX10_presses_31 rfl (lv_at hl 1 rfl) ?_
          refine KVi (As := [.int v1]) (rest := [.int v1, .ref a_press]) FX (c_X10_due l D cI cB cS a_this a_all a_has a_few a_sawn a_cut a_todo a_press a_gone v1 f_all _ hV) ok_X10_due im_X10_due se_X10_due li_X10_100 dX10_presses_32 hK hP hS hA [1, 2] [0] 1 rfl rfl rfl (by decide) rfl rfl hl.1 (Nat.le_of_ble_eq_true rfl) ⟨Nat.le_of_ble_eq_true rfl, Nat.le_of_ble_eq_true rfl⟩ ⟨Nat.le_of_ble_eq_true rfl, Nat.le_of_ble_eq_true rfl⟩ (fun r_12 _ H locs hV hP hS => ?_)
          have hP : PD D A [ai cI a_press 64 f_press, oc a_this 9 [.ref a_all, .ref a_has, .ref a_few, .ref a_sawn, .ref a_cut, .ref a_todo, .ref a_press, .ref a_gone], ai cI a_all 3320 f_all] H := hP
          refine ist hx hb hK hP hS 0 rfl dX10_presses_35 hV.1 (fun f_press_13 e_f_press_13 H locs hP hS => ?_)
          have hV := hV.2 f_press_13 e_f_press_13
          have hP : PD D A [ai cI a_press 64 f_press_13, oc a_this 9 [.ref a_all, .ref a_has, .ref a_few, .ref a_sawn, .ref a_cut, .ref a_todo, .ref a_press, .ref a_gone], ai cI a_all 3320 f_all] H := hP
          obtain ⟨v1_14, e_v1_14⟩ : ∃ y : Int32, y = (v1 + 1) := ⟨_, rfl⟩
          have hV := hV v1_14 e_v1_14
          refine lv_iinc (v := v1_14) (lv' := [(1, .int v1_14), (0, .ref a_this)]) hx hb dX10_presses_36 hl (k := 1) rfl (by rw [e_v1_14]; rfl) (by decide) rfl (fun ls hl => ?_)
          refine lv_goto (tgt := 2) hx hb dX10_presses_39 (by decide) ?_
          exact ih2 v1_14 f_press_13 _ _ _ (hP.sub [1, 2, 0] rfl rfl) hS (lv_sub hl [1, 0] rfl) hV
        · have hV := hV.2 h
          refine lv_ldc hx hb hown (ht _ co_X10_116) dX10_presses_25 ?_
          refine lv_goto (tgt := 35) hx hb dX10_presses_27 (by decide) ?_
          refine ist hx hb hK hP hS 0 rfl dX10_presses_35 hV.1 (fun f_press_15 e_f_press_15 H locs hP hS => ?_)
          have hV := hV.2 f_press_15 e_f_press_15
          have hP : PD D A [ai cI a_press 64 f_press_15, oc a_this 9 [.ref a_all, .ref a_has, .ref a_few, .ref a_sawn, .ref a_cut, .ref a_todo, .ref a_press, .ref a_gone], ai cI a_all 3320 f_all] H := hP
          obtain ⟨v1_16, e_v1_16⟩ : ∃ y : Int32, y = (v1 + 1) := ⟨_, rfl⟩
          have hV := hV v1_16 e_v1_16
          refine lv_iinc (v := v1_16) (lv' := [(1, .int v1_16), (0, .ref a_this)]) hx hb dX10_presses_36 hl (k := 1) rfl (by rw [e_v1_16]; rfl) (by decide) rfl (fun ls hl => ?_)
          refine lv_goto (tgt := 2) hx hb dX10_presses_39 (by decide) ?_
          exact ih2 v1_16 f_press_15 _ _ _ (hP.sub [1, 2, 0] rfl rfl) hS (lv_sub hl [1, 0] rfl) hV
  refine lv_iconst (v := 0) hx hb dX10_presses_0 (by decide) ?_
  refine lv_istore_n (lv' := [(1, .int 0), (0, .ref a_this)]) hx hb dX10_presses_1 rfl hl (by decide) rfl (fun ls hl => ?_)
  obtain ⟨k, hV⟩ := hV
  exact b2 k 0 f_press _ _ _ hP hS (lv_sub hl [1, 0] rfl) hV
