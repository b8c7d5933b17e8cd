def rm_X10_order : Room := { frames := 4, cells := 0, slots := 0, locals := 89 }
def J_X10_order_114 (f_press : Nat → Int32) (K_67 : Int32 → Int32 → (Nat → Int32) → (Nat → Int32) → Prop) (s0 : Int32) (s1 : Int32) (v2 : Int32) (f_all : Nat → Int32) (f_gone : Nat → Int32) : Prop := (∀ v1_1 : Int32, v1_1 = (s0 + s1) → (vp_in 8 3320 ∧ (vp_in (690 + (f_all (8 : Int32).toNatClampNeg)) 3320 ∧ ∀ f_all_2 : Nat → Int32, f_all_2 = upd f_all (690 + (f_all (8 : Int32).toNatClampNeg)).toNatClampNeg v2 → (vp_in 8 3320 ∧ (vp_in 8 3320 ∧ ∀ f_all_3 : Nat → Int32, f_all_3 = upd f_all_2 (8 : Int32).toNatClampNeg ((f_all_2 (8 : Int32).toNatClampNeg) + 1) → P_X10_nextBlock f_all_3 f_press f_gone (fun r_4 => K_67 v1_1 r_4 f_all_3 f_gone))))))
def J_X10_order_113 (f_press : Nat → Int32) (K_67 : Int32 → Int32 → (Nat → Int32) → (Nat → Int32) → Prop) (s0 : Int32) (v2 : Int32) (f_all : Nat → Int32) (f_gone : Nat → Int32) : Prop := J_X10_order_114 f_press K_67 s0 0 v2 f_all f_gone
def V_X10_order_67 (f_press : Nat → Int32) (post : Int32 → (Nat → Int32) → (Nat → Int32) → (Nat → Int32) → Prop) : Nat → Int32 → Int32 → (Nat → Int32) → (Nat → Int32) → Prop
  | 0, _, _, _, _ => False
  | n + 1, v1, v2, f_all, f_gone => ((v2 < 0 → post v1 f_all f_press f_gone) ∧ (¬ v2 < 0 → (vp_in v2 64 ∧ ∀ f_gone_5 : Nat → Int32, f_gone_5 = upd f_gone v2.toNatClampNeg 1 → P_X10_due v2 f_all (fun r_6 => ((r_6 < 0 → J_X10_order_113 f_press (V_X10_order_67 f_press post n) v1 v2 f_all f_gone_5) ∧ (¬ r_6 < 0 → (vp_in 4 3320 ∧ (vp_in 8 3320 ∧ P_X10_due v2 f_all (fun r_7 => ((((f_all (4 : Int32).toNatClampNeg) + (f_all (8 : Int32).toNatClampNeg)) < r_7 → J_X10_order_113 f_press (V_X10_order_67 f_press post n) v1 v2 f_all f_gone_5) ∧ (¬ ((f_all (4 : Int32).toNatClampNeg) + (f_all (8 : Int32).toNatClampNeg)) < r_7 → J_X10_order_114 f_press (V_X10_order_67 f_press post n) v1 1 v2 f_all f_gone_5)))))))))))
theorem V_X10_order_67_s (f_press : Nat → Int32) (post : Int32 → (Nat → Int32) → (Nat → Int32) → (Nat → Int32) → Prop) (n : Nat) (v1 : Int32) (v2 : Int32) (f_all : Nat → Int32) (f_gone : Nat → Int32) : V_X10_order_67 f_press post (n + 1) v1 v2 f_all f_gone = (((v2 < 0 → post v1 f_all f_press f_gone) ∧ (¬ v2 < 0 → (vp_in v2 64 ∧ ∀ f_gone_5 : Nat → Int32, f_gone_5 = upd f_gone v2.toNatClampNeg 1 → P_X10_due v2 f_all (fun r_6 => ((r_6 < 0 → J_X10_order_113 f_press (V_X10_order_67 f_press post n) v1 v2 f_all f_gone_5) ∧ (¬ r_6 < 0 → (vp_in 4 3320 ∧ (vp_in 8 3320 ∧ P_X10_due v2 f_all (fun r_7 => ((((f_all (4 : Int32).toNatClampNeg) + (f_all (8 : Int32).toNatClampNeg)) < r_7 → J_X10_order_113 f_press (V_X10_order_67 f_press post n) v1 v2 f_all f_gone_5) ∧ (¬ ((f_all (4 : Int32).toNatClampNeg) + (f_all (8 : Int32).toNatClampNeg)) < r_7 → J_X10_order_114 f_press (V_X10_order_67 f_press post n) v1 1 v2 f_all f_gone_5)))))))))))) := rfl
def V_X10_order_17 (f_all : Nat → Int32) (f_press : Nat → Int32) (post : Int32 → (Nat → Int32) → (Nat → Int32) → (Nat → Int32) → Prop) : Nat → Int32 → (Nat → Int32) → Prop
  | 0, _, _ => False
  | n + 1, v1, f_gone => (vp_in 5 3320 ∧ (((f_all (5 : Int32).toNatClampNeg) ≤ v1 → (vp_in 8 3320 ∧ ∀ f_all_8 : Nat → Int32, f_all_8 = upd f_all (8 : Int32).toNatClampNeg 0 → P_X10_nextBlock f_all_8 f_press f_gone (fun r_9 => (∃ k : Nat, V_X10_order_67 f_press post k 0 r_9 f_all_8 f_gone)))) ∧ (¬ (f_all (5 : Int32).toNatClampNeg) ≤ v1 → P_X10_stands v1 f_all (fun r_10 => ((r_10 = 0 → (vp_in v1 64 ∧ ∀ f_gone_13 : Nat → Int32, f_gone_13 = upd f_gone v1.toNatClampNeg 1 → (∀ v1_14 : Int32, v1_14 = (v1 + 1) → V_X10_order_17 f_all f_press post n v1_14 f_gone_13))) ∧ (¬ r_10 = 0 → (vp_in v1 64 ∧ ∀ f_gone_11 : Nat → Int32, f_gone_11 = upd f_gone v1.toNatClampNeg 0 → (∀ v1_12 : Int32, v1_12 = (v1 + 1) → V_X10_order_17 f_all f_press post n v1_12 f_gone_11))))))))
theorem V_X10_order_17_s (f_all : Nat → Int32) (f_press : Nat → Int32) (post : Int32 → (Nat → Int32) → (Nat → Int32) → (Nat → Int32) → Prop) (n : Nat) (v1 : Int32) (f_gone : Nat → Int32) : V_X10_order_17 f_all f_press post (n + 1) v1 f_gone = ((vp_in 5 3320 ∧ (((f_all (5 : Int32).toNatClampNeg) ≤ v1 → (vp_in 8 3320 ∧ ∀ f_all_8 : Nat → Int32, f_all_8 = upd f_all (8 : Int32).toNatClampNeg 0 → P_X10_nextBlock f_all_8 f_press f_gone (fun r_9 => (∃ k : Nat, V_X10_order_67 f_press post k 0 r_9 f_all_8 f_gone)))) ∧ (¬ (f_all (5 : Int32).toNatClampNeg) ≤ v1 → P_X10_stands v1 f_all (fun r_10 => ((r_10 = 0 → (vp_in v1 64 ∧ ∀ f_gone_13 : Nat → Int32, f_gone_13 = upd f_gone v1.toNatClampNeg 1 → (∀ v1_14 : Int32, v1_14 = (v1 + 1) → V_X10_order_17 f_all f_press post n v1_14 f_gone_13))) ∧ (¬ r_10 = 0 → (vp_in v1 64 ∧ ∀ f_gone_11 : Nat → Int32, f_gone_11 = upd f_gone v1.toNatClampNeg 0 → (∀ v1_12 : Int32, v1_12 = (v1 + 1) → V_X10_order_17 f_all f_press post n v1_12 f_gone_11))))))))) := rfl
def P_X10_order (f_all : Nat → Int32) (f_press : Nat → Int32) (f_gone : Nat → Int32) (post : Int32 → (Nat → Int32) → (Nat → Int32) → (Nat → Int32) → Prop) : Prop := (vp_in 5 3320 ∧ (((f_all (5 : Int32).toNatClampNeg) = 0 → post (-1) f_all f_press f_gone) ∧ (¬ (f_all (5 : Int32).toNatClampNeg) = 0 → P_X10_presses f_all f_press (fun f_press_15 => (∃ k : Nat, V_X10_order_17 f_all f_press_15 post k 0 f_gone)))))
set_option maxRecDepth 100000 in
set_option maxHeartbeats 4000000 in
theorem c_X10_order (l : Launch) (D : va_G) (cI cB cS : ClassId) (a_this a_all a_press a_gone a_has a_few a_sawn a_cut a_todo : Nat) (f_all : Nat → Int32) (f_press : Nat → Int32) (f_gone : Nat → Int32) (post : Int32 → (Nat → Int32) → (Nat → Int32) → (Nat → Int32) → Prop) (hV : P_X10_order f_all f_press f_gone post) : Ci l yX10_order cX10_order 3 (some .int) rm_X10_order D cI cB cS [.ref a_this] [oc a_this 9 [.ref a_all, .ref a_has, .ref a_few, .ref a_sawn, .ref a_cut, .ref a_todo, .ref a_press, .ref a_gone], ai cI a_all 3320 f_all, ai cI a_press 64 f_press, ai cB a_gone 64 f_gone] (fun r (u : (Nat → Int32) × (Nat → Int32) × (Nat → Int32)) => post r u.1 u.2.1 u.2.2) (fun (u : (Nat → Int32) × (Nat → Int32) × (Nat → Int32)) => [oc a_this 9 [.ref a_all, .ref a_has, .ref a_few, .ref a_sawn, .ref a_cut, .ref a_todo, .ref a_press, .ref a_gone], ai cI a_all 3320 (u.1), ai cI a_press 64 (u.2.1), ai cB a_gone 64 (u.2.2)]) := by
  refine Ci.of ok_X10_order (Nat.le_of_ble_eq_true rfl) ?_
  intro p e s m args below meth c A Q hx hb hml hown ht hnm hK hP hA hS hret ls hl
  have hown : s.vm.findClass RX10 = some m.cls := hown
  have FX : CallFix p m c cX10_order 3 s args tblG RX10 := ⟨hx, hb, hml, hown, ht⟩
  have hP : PD D A [oc a_this 9 [.ref a_all, .ref a_has, .ref a_few, .ref a_sawn, .ref a_cut, .ref a_todo, .ref a_press, .ref a_gone], ai cI a_all 3320 f_all, ai cI a_press 64 f_press, ai cB a_gone 64 f_gone] s.heap := hP
  have hl : lv_has ls 3 [(0, .ref a_this)] := hl
  unfold P_X10_order at hV
  have b67 : ∀ (f_press : Nat → Int32) (k67 : Nat) (v1 : Int32) (v2 : Int32) (f_all : Nat → Int32) (f_gone : Nat → Int32) (H : Heap) (locs : List Loc) (ls : Array Slot), PD D A [oc a_this 9 [.ref a_all, .ref a_has, .ref a_few, .ref a_sawn, .ref a_cut, .ref a_todo, .ref a_press, .ref a_gone], ai cI a_all 3320 f_all, ai cI a_press 64 f_press, ai cB a_gone 64 f_gone] H → va_S A s.heap H locs → lv_has ls 3 [(0, .ref a_this), (1, .int v1), (2, .int v2)] → V_X10_order_67 f_press post k67 v1 v2 f_all f_gone → W p l e rm_X10_order s m args below meth c H locs 0 0 Q (F0 m 67 ls []) := by
    intro f_press k67
    induction k67 with
    | zero => intro v1 v2 f_all f_gone H locs ls hP hS hl hV; exact False.elim hV
    | succ k67 ih67 =>
      intro v1 v2 f_all f_gone H locs ls hP hS hl hV
      rw [V_X10_order_67_s] at hV
      have b114 : ∀ (s0 : Int32) (s1 : Int32) (v2 : Int32) (f_all : Nat → Int32) (f_gone : Nat → Int32) (H : Heap) (locs : List Loc) (ls : Array Slot), PD D A [oc a_this 9 [.ref a_all, .ref a_has, .ref a_few, .ref a_sawn, .ref a_cut, .ref a_todo, .ref a_press, .ref a_gone], ai cI a_all 3320 f_all, ai cI a_press 64 f_press, ai cB a_gone 64 f_gone] H → va_S A s.heap H locs → lv_has ls 3 [(0, .ref a_this), (2, .int v2)] → J_X10_order_114 f_press (V_X10_order_67 f_press post k67) s0 s1 v2 f_all f_gone → W p l e rm_X10_order s m args below meth c H locs 0 0 Q (F0 m 114 ls [.int s1, .int s0]) := by
        intro s0 s1 v2 f_all f_gone H locs ls hP hS hl hV
        unfold J_X10_order_114 at hV
        refine lv_iadd hx hb dX10_order_114 ?_
        refine lv_topi (fun v1_1 e_v1_1 => ?_)
        have hV := hV v1_1 e_v1_1
        refine lv_istore_n (lv' := [(1, .int v1_1), (0, .ref a_this), (2, .int v2)]) hx hb dX10_order_115 rfl hl (by decide) rfl (fun ls hl => ?_)
        refine lv_aload_n hx hb dX10_order_116 rfl (lv_at hl 1 rfl) ?_
        refine gX10 hx hb ht hown hK hP 0 rfl 0 (by decide) fl_X10_7 (fun _ h => h) rfl dX10_order_117 ?_
        refine lv_sipush (v := 690) hx hb dX10_order_120 (by decide) ?_
        refine lv_aload_n hx hb dX10_order_123 rfl (lv_at hl 1 rfl) ?_
        refine gX10 hx hb ht hown hK hP 0 rfl 0 (by decide) fl_X10_7 (fun _ h => h) rfl dX10_order_124 ?_
        refine lv_bipush (v := 8) hx hb dX10_order_127 (by decide) ?_
        refine ild hx hb hK hP 1 rfl dX10_order_129 hV.1 ?_
        have hV := hV.2
        refine lv_iadd hx hb dX10_order_130 ?_
        refine lv_iload_n hx hb dX10_order_131 rfl (lv_at hl 2 rfl) ?_
        refine ist hx hb hK hP hS 1 rfl dX10_order_132 hV.1 (fun f_all_2 e_f_all_2 H locs hP hS => ?_)
        have hV := hV.2 f_all_2 e_f_all_2
        have hP : PD D A [oc a_this 9 [.ref a_all, .ref a_has, .ref a_few, .ref a_sawn, .ref a_cut, .ref a_todo, .ref a_press, .ref a_gone], ai cI a_all 3320 f_all_2, ai cI a_press 64 f_press, ai cB a_gone 64 f_gone] H := hP
        refine lv_aload_n hx hb dX10_order_133 rfl (lv_at hl 1 rfl) ?_
        refine gX10 hx hb ht hown hK hP 0 rfl 0 (by decide) fl_X10_7 (fun _ h => h) rfl dX10_order_134 ?_
        refine lv_bipush (v := 8) hx hb dX10_order_137 (by decide) ?_
        refine lv_dup2_11 hx hb dX10_order_139 rfl rfl ?_
        refine ild hx hb hK hP 1 rfl dX10_order_140 hV.1 ?_
        have hV := hV.2
        refine lv_iconst (v := 1) hx hb dX10_order_141 (by decide) ?_
        refine lv_iadd hx hb dX10_order_142 ?_
        refine ist hx hb hK hP hS 1 rfl dX10_order_143 hV.1 (fun f_all_3 e_f_all_3 H locs hP hS => ?_)
        have hV := hV.2 f_all_3 e_f_all_3
        have hP : PD D A [oc a_this 9 [.ref a_all, .ref a_has, .ref a_few, .ref a_sawn, .ref a_cut, .ref a_todo, .ref a_press, .ref a_gone], ai cI a_all 3320 f_all_3, ai cI a_press 64 f_press, ai cB a_gone 64 f_gone] H := hP
        refine lv_aload_n hx hb dX10_order_144 rfl (lv_at hl 1 rfl) ?_
        refine KVi (As := []) (rest := []) FX (c_X10_nextBlock l D cI cB cS a_this a_all a_press a_gone a_has a_few a_sawn a_cut a_todo f_all_3 f_press f_gone _ hV) ok_X10_nextBlock im_X10_nextBlock se_X10_nextBlock li_X10_123 dX10_order_145 hK hP hS hA [0, 1, 2, 3] [] 0 rfl rfl rfl (by decide) rfl rfl hl.1 (Nat.le_of_ble_eq_true rfl) ⟨Nat.le_of_ble_eq_true rfl, Nat.le_of_ble_eq_true rfl⟩ ⟨Nat.le_of_ble_eq_true rfl, Nat.le_of_ble_eq_true rfl⟩ (fun r_4 _ H locs hV hP hS => ?_)
        have hP : PD D A [oc a_this 9 [.ref a_all, .ref a_has, .ref a_few, .ref a_sawn, .ref a_cut, .ref a_todo, .ref a_press, .ref a_gone], ai cI a_all 3320 f_all_3, ai cI a_press 64 f_press, ai cB a_gone 64 f_gone] H := hP
        refine lv_istore_n (lv' := [(2, .int r_4), (1, .int v1_1), (0, .ref a_this)]) hx hb dX10_order_148 rfl hl (by decide) rfl (fun ls hl => ?_)
        refine lv_goto (tgt := 67) hx hb dX10_order_149 (by decide) ?_
        exact ih67 v1_1 r_4 f_all_3 f_gone _ _ _ hP hS (lv_sub hl [2, 1, 0] rfl) hV
      have b113 : ∀ (s0 : Int32) (v2 : Int32) (f_all : Nat → Int32) (f_gone : Nat → Int32) (H : Heap) (locs : List Loc) (ls : Array Slot), PD D A [oc a_this 9 [.ref a_all, .ref a_has, .ref a_few, .ref a_sawn, .ref a_cut, .ref a_todo, .ref a_press, .ref a_gone], ai cI a_all 3320 f_all, ai cI a_press 64 f_press, ai cB a_gone 64 f_gone] H → va_S A s.heap H locs → lv_has ls 3 [(0, .ref a_this), (2, .int v2)] → J_X10_order_113 f_press (V_X10_order_67 f_press post k67) s0 v2 f_all f_gone → W p l e rm_X10_order s m args below meth c H locs 0 0 Q (F0 m 113 ls [.int s0]) := by
        intro s0 v2 f_all f_gone H locs ls hP hS hl hV
        unfold J_X10_order_113 at hV
        refine lv_iconst (v := 0) hx hb dX10_order_113 (by decide) ?_
        exact b114 s0 0 v2 f_all f_gone _ _ _ hP hS hl hV
      refine lv_iload_n hx hb dX10_order_67 rfl (lv_at hl 2 rfl) ?_
      refine lv_if_lt (tgt := 152) hx hb dX10_order_68 (by decide) (fun h => ?_) (fun h => ?_)
      · have hV := hV.1 h
        refine lv_iload_n hx hb dX10_order_152 rfl (lv_at hl 1 rfl) ?_
        exact hret _ _ _ _ _ (f_all, f_press, f_gone) hS dX10_order_153 hP hV
      · have hV := hV.2 h
        refine lv_aload_n hx hb dX10_order_71 rfl (lv_at hl 0 rfl) ?_
        refine gX10 hx hb ht hown hK hP 0 rfl 7 (by decide) fl_X10_32 (fun _ h => h) rfl dX10_order_72 ?_
        refine lv_iload_n hx hb dX10_order_75 rfl (lv_at hl 2 rfl) ?_
        refine lv_iconst (v := 1) hx hb dX10_order_76 (by decide) ?_
        refine zst hx hb hK hP hS 3 rfl dX10_order_77 hV.1 (by decide) (fun f_gone_5 e_f_gone_5 H locs hP hS => ?_)
        have hV := hV.2 f_gone_5 e_f_gone_5
        have hP : PD D A [oc a_this 9 [.ref a_all, .ref a_has, .ref a_few, .ref a_sawn, .ref a_cut, .ref a_todo, .ref a_press, .ref a_gone], ai cI a_all 3320 f_all, ai cI a_press 64 f_press, ai cB a_gone 64 f_gone_5] H := hP
        refine lv_iload_n hx hb dX10_order_78 rfl (lv_at hl 1 rfl) ?_
        refine lv_aload_n hx hb dX10_order_79 rfl (lv_at hl 0 rfl) ?_
        refine lv_iload_n hx hb dX10_order_80 rfl (lv_at hl 2 rfl) ?_
        refine KVi (As := [.int v2]) (rest := [.int v1]) FX (c_X10_due l D cI cB cS a_this a_all a_has a_few a_sawn a_cut a_todo a_press a_gone v2 f_all _ hV) ok_X10_due im_X10_due se_X10_due li_X10_100 dX10_order_81 hK hP hS hA [0, 1] [2, 3] 0 rfl rfl rfl (by decide) rfl rfl hl.1 (Nat.le_of_ble_eq_true rfl) ⟨Nat.le_of_ble_eq_true rfl, Nat.le_of_ble_eq_true rfl⟩ ⟨Nat.le_of_ble_eq_true rfl, Nat.le_of_ble_eq_true rfl⟩ (fun r_6 _ H locs hV hP hS => ?_)
        have hP : PD D A [ai cI a_press 64 f_press, ai cB a_gone 64 f_gone_5, oc a_this 9 [.ref a_all, .ref a_has, .ref a_few, .ref a_sawn, .ref a_cut, .ref a_todo, .ref a_press, .ref a_gone], ai cI a_all 3320 f_all] H := hP
        refine lv_if_lt (tgt := 113) hx hb dX10_order_84 (by decide) (fun h => ?_) (fun h => ?_)
        · have hV := hV.1 h
          exact b113 v1 v2 f_all f_gone_5 _ _ _ (hP.sub [2, 3, 0, 1] rfl rfl) hS (lv_sub hl [0, 2] rfl) hV
        · have hV := hV.2 h
          refine lv_aload_n hx hb dX10_order_87 rfl (lv_at hl 0 rfl) ?_
          refine gX10 hx hb ht hown hK hP 2 rfl 0 (by decide) fl_X10_7 (fun _ h => h) rfl dX10_order_88 ?_
          refine lv_iconst (v := 4) hx hb dX10_order_91 (by decide) ?_
          refine ild hx hb hK hP 3 rfl dX10_order_92 hV.1 ?_
          have hV := hV.2
          refine lv_aload_n hx hb dX10_order_93 rfl (lv_at hl 0 rfl) ?_
          refine gX10 hx hb ht hown hK hP 2 rfl 0 (by decide) fl_X10_7 (fun _ h => h) rfl dX10_order_94 ?_
          refine lv_bipush (v := 8) hx hb dX10_order_97 (by decide) ?_
          refine ild hx hb hK hP 3 rfl dX10_order_99 hV.1 ?_
          have hV := hV.2
          refine lv_iadd hx hb dX10_order_100 ?_
          refine lv_aload_n hx hb dX10_order_101 rfl (lv_at hl 0 rfl) ?_
          refine lv_iload_n hx hb dX10_order_102 rfl (lv_at hl 2 rfl) ?_
          refine KVi (As := [.int v2]) (rest := [.int ((f_all (4 : Int32).toNatClampNeg) + (f_all (8 : Int32).toNatClampNeg)), .int v1]) FX (c_X10_due l D cI cB cS a_this a_all a_has a_few a_sawn a_cut a_todo a_press a_gone v2 f_all _ hV) ok_X10_due im_X10_due se_X10_due li_X10_100 dX10_order_103 hK hP hS hA [2, 3] [0, 1] 2 rfl rfl rfl (by decide) rfl rfl hl.1 (Nat.le_of_ble_eq_true rfl) ⟨Nat.le_of_ble_eq_true rfl, Nat.le_of_ble_eq_true rfl⟩ ⟨Nat.le_of_ble_eq_true rfl, Nat.le_of_ble_eq_true rfl⟩ (fun r_7 _ H locs hV hP hS => ?_)
          have hP : PD D A [ai cI a_press 64 f_press, ai cB a_gone 64 f_gone_5, oc a_this 9 [.ref a_all, .ref a_has, .ref a_few, .ref a_sawn, .ref a_cut, .ref a_todo, .ref a_press, .ref a_gone], ai cI a_all 3320 f_all] H := hP
          refine lv_icmp_lt (tgt := 113) hx hb dX10_order_106 (by decide) (fun h => ?_) (fun h => ?_)
          · have hV := hV.1 h
            exact b113 v1 v2 f_all f_gone_5 _ _ _ (hP.sub [2, 3, 0, 1] rfl rfl) hS (lv_sub hl [0, 2] rfl) hV
          · have hV := hV.2 h
            refine lv_iconst (v := 1) hx hb dX10_order_109 (by decide) ?_
            refine lv_goto (tgt := 114) hx hb dX10_order_110 (by decide) ?_
            exact b114 v1 1 v2 f_all f_gone_5 _ _ _ (hP.sub [2, 3, 0, 1] rfl rfl) hS (lv_sub hl [0, 2] rfl) hV
  have b17 : ∀ (f_all : Nat → Int32) (f_press : Nat → Int32) (k17 : Nat) (v1 : Int32) (f_gone : Nat → Int32) (H : Heap) (locs : List Loc) (ls : Array Slot), PD D A [oc a_this 9 [.ref a_all, .ref a_has, .ref a_few, .ref a_sawn, .ref a_cut, .ref a_todo, .ref a_press, .ref a_gone], ai cI a_all 3320 f_all, ai cI a_press 64 f_press, ai cB a_gone 64 f_gone] H → va_S A s.heap H locs → lv_has ls 3 [(0, .ref a_this), (1, .int v1)] → V_X10_order_17 f_all f_press post k17 v1 f_gone → W p l e rm_X10_order s m args below meth c H locs 0 0 Q (F0 m 17 ls []) := by
    intro f_all f_press k17
    induction k17 with
    | zero => intro v1 f_gone H locs ls hP hS hl hV; exact False.elim hV
    | succ k17 ih17 =>
      intro v1 f_gone H locs ls hP hS hl hV
      rw [V_X10_order_17_s] at hV
      refine lv_iload_n hx hb dX10_order_17 rfl (lv_at hl 1 rfl) ?_
      refine lv_aload_n hx hb dX10_order_18 rfl (lv_at hl 0 rfl) ?_
      refine gX10 hx hb ht hown hK hP 0 rfl 0 (by decide) fl_X10_7 (fun _ h => h) rfl dX10_order_19 ?_
      refine lv_iconst (v := 5) hx hb dX10_order_22 (by decide) ?_
      refine ild hx hb hK hP 1 rfl dX10_order_23 hV.1 ?_
      have hV := hV.2
      refine lv_icmp_ge (tgt := 52) hx hb dX10_order_24 (by decide) (fun h => ?_) (fun h => ?_)
      · have hV := hV.1 h
        refine lv_iconst (v := 0) hx hb dX10_order_52 (by decide) ?_
        refine lv_istore_n (lv' := [(1, .int 0), (0, .ref a_this)]) hx hb dX10_order_53 rfl hl (by decide) rfl (fun ls hl => ?_)
        refine lv_aload_n hx hb dX10_order_54 rfl (lv_at hl 1 rfl) ?_
        refine gX10 hx hb ht hown hK hP 0 rfl 0 (by decide) fl_X10_7 (fun _ h => h) rfl dX10_order_55 ?_
        refine lv_bipush (v := 8) hx hb dX10_order_58 (by decide) ?_
        refine lv_iconst (v := 0) hx hb dX10_order_60 (by decide) ?_
        refine ist hx hb hK hP hS 1 rfl dX10_order_61 hV.1 (fun f_all_8 e_f_all_8 H locs hP hS => ?_)
        have hV := hV.2 f_all_8 e_f_all_8
        have hP : PD D A [oc a_this 9 [.ref a_all, .ref a_has, .ref a_few, .ref a_sawn, .ref a_cut, .ref a_todo, .ref a_press, .ref a_gone], ai cI a_all 3320 f_all_8, ai cI a_press 64 f_press, ai cB a_gone 64 f_gone] H := hP
        refine lv_aload_n hx hb dX10_order_62 rfl (lv_at hl 1 rfl) ?_
        refine KVi (As := []) (rest := []) FX (c_X10_nextBlock l D cI cB cS a_this a_all a_press a_gone a_has a_few a_sawn a_cut a_todo f_all_8 f_press f_gone _ hV) ok_X10_nextBlock im_X10_nextBlock se_X10_nextBlock li_X10_123 dX10_order_63 hK hP hS hA [0, 1, 2, 3] [] 0 rfl rfl rfl (by decide) rfl rfl hl.1 (Nat.le_of_ble_eq_true rfl) ⟨Nat.le_of_ble_eq_true rfl, Nat.le_of_ble_eq_true rfl⟩ ⟨Nat.le_of_ble_eq_true rfl, Nat.le_of_ble_eq_true rfl⟩ (fun r_9 _ H locs hV hP hS => ?_)
        have hP : PD D A [oc a_this 9 [.ref a_all, .ref a_has, .ref a_few, .ref a_sawn, .ref a_cut, .ref a_todo, .ref a_press, .ref a_gone], ai cI a_all 3320 f_all_8, ai cI a_press 64 f_press, ai cB a_gone 64 f_gone] H := hP
        refine lv_istore_n (lv' := [(2, .int r_9), (1, .int 0), (0, .ref a_this)]) hx hb dX10_order_66 rfl hl (by decide) rfl (fun ls hl => ?_)
        obtain ⟨k, hV⟩ := hV
        exact b67 f_press k 0 r_9 f_all_8 f_gone _ _ _ hP hS (lv_sub hl [2, 1, 0] rfl) hV
      · have hV := hV.2 h
        refine lv_aload_n hx hb dX10_order_27 rfl (lv_at hl 0 rfl) ?_
        refine gX10 hx hb ht hown hK hP 0 rfl 7 (by decide) fl_X10_32 (fun _ h => h) rfl dX10_order_28 ?_
        refine lv_iload_n hx hb dX10_order_31 rfl (lv_at hl 1 rfl) ?_
        refine lv_aload_n hx hb dX10_order_32 rfl (lv_at hl 0 rfl) ?_
        refine lv_iload_n hx hb dX10_order_33 rfl (lv_at hl 1 rfl) ?_
        refine KVi (As := [.int v1]) (rest := [.int v1, .ref a_gone]) FX (c_X10_stands l D cI cB cS a_this a_all a_has a_few a_sawn a_cut a_todo a_press a_gone v1 f_all _ hV) ok_X10_stands im_X10_stands se_X10_stands li_X10_90 dX10_order_34 hK hP hS hA [0, 1] [2, 3] 0 rfl rfl rfl (by decide) rfl rfl hl.1 (Nat.le_of_ble_eq_true rfl) ⟨Nat.le_of_ble_eq_true rfl, Nat.le_of_ble_eq_true rfl⟩ ⟨Nat.le_of_ble_eq_true rfl, Nat.le_of_ble_eq_true rfl⟩ (fun r_10 _ H locs hV hP hS => ?_)
        have hP : PD D A [ai cI a_press 64 f_press, ai cB a_gone 64 f_gone, oc a_this 9 [.ref a_all, .ref a_has, .ref a_few, .ref a_sawn, .ref a_cut, .ref a_todo, .ref a_press, .ref a_gone], ai cI a_all 3320 f_all] H := hP
        refine lv_if_ne (tgt := 44) hx hb dX10_order_37 (by decide) (fun h => ?_) (fun h => ?_)
        · have hV := hV.2 h
          refine lv_iconst (v := 0) hx hb dX10_order_44 (by decide) ?_
          refine zst hx hb hK hP hS 1 rfl dX10_order_45 hV.1 (by decide) (fun f_gone_11 e_f_gone_11 H locs hP hS => ?_)
          have hV := hV.2 f_gone_11 e_f_gone_11
          have hP : PD D A [ai cI a_press 64 f_press, ai cB a_gone 64 f_gone_11, oc a_this 9 [.ref a_all, .ref a_has, .ref a_few, .ref a_sawn, .ref a_cut, .ref a_todo, .ref a_press, .ref a_gone], ai cI a_all 3320 f_all] H := hP
          obtain ⟨v1_12, e_v1_12⟩ : ∃ y : Int32, y = (v1 + 1) := ⟨_, rfl⟩
          have hV := hV v1_12 e_v1_12
          refine lv_iinc (v := v1_12) (lv' := [(1, .int v1_12), (0, .ref a_this)]) hx hb dX10_order_46 hl (k := 1) rfl (by rw [e_v1_12]; rfl) (by decide) rfl (fun ls hl => ?_)
          refine lv_goto (tgt := 17) hx hb dX10_order_49 (by decide) ?_
          exact ih17 v1_12 f_gone_11 _ _ _ (hP.sub [2, 3, 0, 1] rfl rfl) hS (lv_sub hl [1, 0] rfl) hV
        · have hV := hV.1 h
          refine lv_iconst (v := 1) hx hb dX10_order_40 (by decide) ?_
          refine lv_goto (tgt := 45) hx hb dX10_order_41 (by decide) ?_
          refine zst hx hb hK hP hS 1 rfl dX10_order_45 hV.1 (by decide) (fun f_gone_13 e_f_gone_13 H locs hP hS => ?_)
          have hV := hV.2 f_gone_13 e_f_gone_13
          have hP : PD D A [ai cI a_press 64 f_press, ai cB a_gone 64 f_gone_13, oc a_this 9 [.ref a_all, .ref a_has, .ref a_few, .ref a_sawn, .ref a_cut, .ref a_todo, .ref a_press, .ref a_gone], ai cI a_all 3320 f_all] H := hP
          obtain ⟨v1_14, e_v1_14⟩ : ∃ y : Int32, y = (v1 + 1) := ⟨_, rfl⟩
          have hV := hV v1_14 e_v1_14
          refine lv_iinc (v := v1_14) (lv' := [(1, .int v1_14), (0, .ref a_this)]) hx hb dX10_order_46 hl (k := 1) rfl (by rw [e_v1_14]; rfl) (by decide) rfl (fun ls hl => ?_)
          refine lv_goto (tgt := 17) hx hb dX10_order_49 (by decide) ?_
          exact ih17 v1_14 f_gone_13 _ _ _ (hP.sub [2, 3, 0, 1] rfl rfl) hS (lv_sub hl [1, 0] rfl) hV
  refine lv_aload_n hx hb dX10_order_0 rfl (lv_at hl 0 rfl) ?_
  refine gX10 hx hb ht hown hK hP 0 rfl 0 (by decide) fl_X10_7 (fun _ h => h) rfl dX10_order_1 ?_
  refine lv_iconst (v := 5) hx hb dX10_order_4 (by decide) ?_
  refine ild hx hb hK hP 1 rfl dX10_order_5 hV.1 ?_
  have hV := hV.2
  refine lv_if_ne (tgt := 11) hx hb dX10_order_6 (by decide) (fun h => ?_) (fun h => ?_)
  · have hV := hV.2 h
    refine lv_aload_n hx hb dX10_order_11 rfl (lv_at hl 0 rfl) ?_
    refine KVv (As := []) (rest := []) FX (c_X10_presses l D cI cB cS a_this a_all a_press a_has a_few a_sawn a_cut a_todo a_gone f_all f_press _ hV) ok_X10_presses im_X10_presses se_X10_presses li_X10_120 dX10_order_12 hK hP hS hA [0, 1, 2] [3] 0 rfl rfl rfl (by decide) rfl rfl hl.1 (Nat.le_of_ble_eq_true rfl) ⟨Nat.le_of_ble_eq_true rfl, Nat.le_of_ble_eq_true rfl⟩ ⟨Nat.le_of_ble_eq_true rfl, Nat.le_of_ble_eq_true rfl⟩ (fun f_press_15 H locs hV hP hS => ?_)
    have hP : PD D A [ai cB a_gone 64 f_gone, oc a_this 9 [.ref a_all, .ref a_has, .ref a_few, .ref a_sawn, .ref a_cut, .ref a_todo, .ref a_press, .ref a_gone], ai cI a_all 3320 f_all, ai cI a_press 64 f_press_15] H := hP
    refine lv_iconst (v := 0) hx hb dX10_order_15 (by decide) ?_
    refine lv_istore_n (lv' := [(1, .int 0), (0, .ref a_this)]) hx hb dX10_order_16 rfl hl (by decide) rfl (fun ls hl => ?_)
    obtain ⟨k, hV⟩ := hV
    exact b17 f_all f_press_15 k 0 f_gone _ _ _ (hP.sub [1, 2, 3, 0] rfl rfl) hS (lv_sub hl [1, 0] rfl) hV
  · have hV := hV.1 h
    refine lv_iconst (v := (-1)) hx hb dX10_order_9 (by decide) ?_
    exact hret _ _ _ _ _ (f_all, f_press, f_gone) hS dX10_order_10 hP hV

def rm_X10_ordered : Room := { frames := 1, cells := 0, slots := 0, locals := 22 }
def P_X10_ordered (x1 : Int32) (f_all : Nat → Int32) (post : Int32 → Prop) : Prop := (vp_in 8 3320 ∧ P_X10_isIn x1 0 ((f_all (8 : Int32).toNatClampNeg) - 1) (fun r_1 => ((r_1 = 0 → post (-1)) ∧ (¬ r_1 = 0 → (vp_in (690 + x1) 3320 ∧ post (f_all (690 + x1).toNatClampNeg))))))
set_option maxRecDepth 100000 in
set_option maxHeartbeats 4000000 in
theorem c_X10_ordered (l : Launch) (D : va_G) (cI cB cS : ClassId) (a_this a_all a_has a_few a_sawn a_cut a_todo a_press a_gone : Nat) (x1 : Int32) (f_all : Nat → Int32) (post : Int32 → Prop) (hV : P_X10_ordered x1 f_all post) : Ci l yX10_ordered cX10_ordered 2 (some .int) rm_X10_ordered D cI cB cS [.ref a_this, .int x1] [oc a_this 9 [.ref a_all, .ref a_has, .ref a_few, .ref a_sawn, .ref a_cut, .ref a_todo, .ref a_press, .ref a_gone], ai cI a_all 3320 f_all] (fun r (_ : Unit) => post r) (fun (_ : Unit) => [oc a_this 9 [.ref a_all, .ref a_has, .ref a_few, .ref a_sawn, .ref a_cut, .ref a_todo, .ref a_press, .ref a_gone], ai cI a_all 3320 f_all]) := by
  refine Ci.of ok_X10_ordered (Nat.le_of_ble_eq_true rfl) ?_
  intro p e s m args below meth c A Q hx hb hml hown ht hnm hK hP hA hS hret ls hl
  have hown : s.vm.findClass RX10 = some m.cls := hown
  have FX : CallFix p m c cX10_ordered 2 s args tblG RX10 := ⟨hx, hb, hml, hown, ht⟩
  have hP : PD D A [oc a_this 9 [.ref a_all, .ref a_has, .ref a_few, .ref a_sawn, .ref a_cut, .ref a_todo, .ref a_press, .ref a_gone], ai cI a_all 3320 f_all] s.heap := hP
  have hl : lv_has ls 2 [(0, .ref a_this), (1, .int x1)] := hl
  unfold P_X10_ordered at hV
  refine lv_iload_n hx hb dX10_ordered_0 rfl (lv_at hl 1 rfl) ?_
  refine lv_iconst (v := 0) hx hb dX10_ordered_1 (by decide) ?_
  refine lv_aload_n hx hb dX10_ordered_2 rfl (lv_at hl 0 rfl) ?_
  refine gX10 hx hb ht hown hK hP 0 rfl 0 (by decide) fl_X10_7 (fun _ h => h) rfl dX10_ordered_3 ?_
  refine lv_bipush (v := 8) hx hb dX10_ordered_6 (by decide) ?_
  refine ild hx hb hK hP 1 rfl dX10_ordered_8 hV.1 ?_
  have hV := hV.2
  refine lv_iconst (v := 1) hx hb dX10_ordered_9 (by decide) ?_
  refine lv_isub hx hb dX10_ordered_10 ?_
  refine KSi (As := [.int x1, .int 0, .int ((f_all (8 : Int32).toNatClampNeg) - 1)]) (rest := []) FX (c_X10_isIn l D cI cB cS x1 0 ((f_all (8 : Int32).toNatClampNeg) - 1) _ hV) ok_X10_isIn is_X10_isIn li_X10_42 dX10_ordered_11 hK hP hS hA [] [0, 1] rfl rfl (by decide) rfl hl.1 (Nat.le_of_ble_eq_true rfl) ⟨Nat.le_of_ble_eq_true rfl, Nat.le_of_ble_eq_true rfl⟩ ⟨Nat.le_of_ble_eq_true rfl, Nat.le_of_ble_eq_true rfl⟩ (fun r_1 _ H locs hV hP hS => ?_)
  have hP : PD D A [oc a_this 9 [.ref a_all, .ref a_has, .ref a_few, .ref a_sawn, .ref a_cut, .ref a_todo, .ref a_press, .ref a_gone], ai cI a_all 3320 f_all] H := hP
  refine lv_if_eq (tgt := 30) hx hb dX10_ordered_14 (by decide) (fun h => ?_) (fun h => ?_)
  · have hV := hV.1 h
    refine lv_iconst (v := (-1)) hx hb dX10_ordered_30 (by decide) ?_
    exact hret _ _ _ _ _ () hS dX10_ordered_31 hP hV
  · have hV := hV.2 h
    refine lv_aload_n hx hb dX10_ordered_17 rfl (lv_at hl 0 rfl) ?_
    refine gX10 hx hb ht hown hK hP 0 rfl 0 (by decide) fl_X10_7 (fun _ h => h) rfl dX10_ordered_18 ?_
    refine lv_sipush (v := 690) hx hb dX10_ordered_21 (by decide) ?_
    refine lv_iload_n hx hb dX10_ordered_24 rfl (lv_at hl 1 rfl) ?_
    refine lv_iadd hx hb dX10_ordered_25 ?_
    refine ild hx hb hK hP 1 rfl dX10_ordered_26 hV.1 ?_
    have hV := hV.2
    refine lv_goto (tgt := 31) hx hb dX10_ordered_27 (by decide) ?_
    exact hret _ _ _ _ _ () hS dX10_ordered_31 hP hV

def rm_X10_direction : Room := { frames := 0, cells := 0, slots := 0, locals := 0 }
def P_X10_direction (x0 : Int32) (post : Int32 → Prop) : Prop := (∀ v1_1 : Int32, v1_1 = (((4 * x0) - (4 * x0) / 1460 * 1460) - 730) → ((0 ≤ v1_1 → post (v1_1 - 365)) ∧ (¬ 0 ≤ v1_1 → post ((-v1_1) - 365))))
set_option maxRecDepth 100000 in
set_option maxHeartbeats 4000000 in
theorem c_X10_direction (l : Launch) (D : va_G) (cI cB cS : ClassId) (x0 : Int32) (post : Int32 → Prop) (hV : P_X10_direction x0 post) : Ci l yX10_direction cX10_direction 2 (some .int) rm_X10_direction D cI cB cS [.int x0] [] (fun r (_ : Unit) => post r) (fun (_ : Unit) => []) := by
  refine Ci.of ok_X10_direction (Nat.le_of_ble_eq_true rfl) ?_
  intro p e s m args below meth c A Q hx hb hml hown ht hnm hK hP hA hS hret ls hl
  have hown : s.vm.findClass RX10 = some m.cls := hown
  have FX : CallFix p m c cX10_direction 2 s args tblG RX10 := ⟨hx, hb, hml, hown, ht⟩
  have hP : PD D A [] s.heap := hP
  have hl : lv_has ls 2 [(0, .int x0)] := hl
  unfold P_X10_direction at hV
  refine lv_iconst (v := 4) hx hb dX10_direction_0 (by decide) ?_
  refine lv_iload_n hx hb dX10_direction_1 rfl (lv_at hl 0 rfl) ?_
  refine lv_imul hx hb dX10_direction_2 ?_
  refine lv_sipush (v := 1460) hx hb dX10_direction_3 (by decide) ?_
  refine lv_irem hx hb dX10_direction_6 (by decide) ?_
  refine lv_sipush (v := 730) hx hb dX10_direction_7 (by decide) ?_
  refine lv_isub hx hb dX10_direction_10 ?_
  refine lv_topi (fun v1_1 e_v1_1 => ?_)
  have hV := hV v1_1 e_v1_1
  refine lv_istore_n (lv' := [(1, .int v1_1), (0, .int x0)]) hx hb dX10_direction_11 rfl hl (by decide) rfl (fun ls hl => ?_)
  refine lv_iload_n hx hb dX10_direction_12 rfl (lv_at hl 0 rfl) ?_
  refine lv_if_ge (tgt := 21) hx hb dX10_direction_13 (by decide) (fun h => ?_) (fun h => ?_)
  · have hV := hV.1 h
    refine lv_iload_n hx hb dX10_direction_21 rfl (lv_at hl 0 rfl) ?_
    refine lv_sipush (v := 365) hx hb dX10_direction_22 (by decide) ?_
    refine lv_isub hx hb dX10_direction_25 ?_
    exact hret _ _ _ _ _ () hS dX10_direction_26 hP hV
  · have hV := hV.2 h
    refine lv_iload_n hx hb dX10_direction_16 rfl (lv_at hl 0 rfl) ?_
    refine lv_ineg hx hb dX10_direction_17 ?_
    refine lv_goto (tgt := 22) hx hb dX10_direction_18 (by decide) ?_
    refine lv_sipush (v := 365) hx hb dX10_direction_22 (by decide) ?_
    refine lv_isub hx hb dX10_direction_25 ?_
    exact hret _ _ _ _ _ () hS dX10_direction_26 hP hV

def rm_X10_sun : Room := { frames := 1, cells := 0, slots := 0, locals := 22 }
def P_X10_sun (x1 : Int32) (post : Int32 → Prop) : Prop := P_X10_isIn x1 0 364 (fun r_1 => ((r_1 = 0 → post (-1000)) ∧ (¬ r_1 = 0 → P_X10_direction x1 (fun r_2 => post r_2))))
set_option maxRecDepth 100000 in
set_option maxHeartbeats 4000000 in
theorem c_X10_sun (l : Launch) (D : va_G) (cI cB cS : ClassId) (a_this : Nat) (x1 : Int32) (post : Int32 → Prop) (hV : P_X10_sun x1 post) : Ci l yX10_sun cX10_sun 2 (some .int) rm_X10_sun D cI cB cS [.ref a_this, .int x1] [] (fun r (_ : Unit) => post r) (fun (_ : Unit) => []) := by
  refine Ci.of ok_X10_sun (Nat.le_of_ble_eq_true rfl) ?_
  intro p e s m args below meth c A Q hx hb hml hown ht hnm hK hP hA hS hret ls hl
  have hown : s.vm.findClass RX10 = some m.cls := hown
  have FX : CallFix p m c cX10_sun 2 s args tblG RX10 := ⟨hx, hb, hml, hown, ht⟩
  have hP : PD D A [] s.heap := hP
  have hl : lv_has ls 2 [(0, .ref a_this), (1, .int x1)] := hl
  unfold P_X10_sun at hV
  refine lv_iload_n hx hb dX10_sun_0 rfl (lv_at hl 1 rfl) ?_
  refine lv_iconst (v := 0) hx hb dX10_sun_1 (by decide) ?_
  refine lv_sipush (v := 364) hx hb dX10_sun_2 (by decide) ?_
  refine KSi (As := [.int x1, .int 0, .int 364]) (rest := []) FX (c_X10_isIn l D cI cB cS x1 0 364 _ hV) ok_X10_isIn is_X10_isIn li_X10_42 dX10_sun_5 hK hP hS hA [] [] rfl rfl (by decide) rfl hl.1 (Nat.le_of_ble_eq_true rfl) ⟨Nat.le_of_ble_eq_true rfl, Nat.le_of_ble_eq_true rfl⟩ ⟨Nat.le_of_ble_eq_true rfl, Nat.le_of_ble_eq_true rfl⟩ (fun r_1 _ H locs hV hP hS => ?_)
  have hP : PD D A [] H := hP
  refine lv_if_eq (tgt := 18) hx hb dX10_sun_8 (by decide) (fun h => ?_) (fun h => ?_)
  · have hV := hV.1 h
    refine lv_sipush (v := (-1000)) hx hb dX10_sun_18 (by decide) ?_
    exact hret _ _ _ _ _ () hS dX10_sun_21 hP hV
  · have hV := hV.2 h
    refine lv_iload_n hx hb dX10_sun_11 rfl (lv_at hl 1 rfl) ?_
    refine KSi (As := [.int x1]) (rest := []) FX (c_X10_direction l D cI cB cS x1 _ hV) ok_X10_direction is_X10_direction li_X10_126 dX10_sun_12 hK hP hS hA [] [] rfl rfl (by decide) rfl hl.1 (Nat.le_of_ble_eq_true rfl) ⟨Nat.le_of_ble_eq_true rfl, Nat.le_of_ble_eq_true rfl⟩ ⟨Nat.le_of_ble_eq_true rfl, Nat.le_of_ble_eq_true rfl⟩ (fun r_2 _ H locs hV hP hS => ?_)
    have hP : PD D A [] H := hP
    refine lv_goto (tgt := 21) hx hb dX10_sun_15 (by decide) ?_
    exact hret _ _ _ _ _ () hS dX10_sun_21 hP hV

def rm_X10_isPlace : Room := { frames := 1, cells := 0, slots := 0, locals := 22 }
def P_X10_isPlace (x0 : Int32) (x1 : Int32) (post : Int32 → Prop) : Prop := P_X10_isIn x0 (-400) 400 (fun r_1 => ((r_1 = 0 → post 0) ∧ (¬ r_1 = 0 → P_X10_isIn x1 0 400 (fun r_2 => ((r_2 = 0 → post 0) ∧ (¬ r_2 = 0 → post 1))))))
set_option maxRecDepth 100000 in
set_option maxHeartbeats 4000000 in
theorem c_X10_isPlace (l : Launch) (D : va_G) (cI cB cS : ClassId) (x0 : Int32) (x1 : Int32) (post : Int32 → Prop) (hV : P_X10_isPlace x0 x1 post) : Ci l yX10_isPlace cX10_isPlace 2 (some .boolean) rm_X10_isPlace D cI cB cS [.int x0, .int x1] [] (fun r (_ : Unit) => post r) (fun (_ : Unit) => []) := by
  refine Cz.of ok_X10_isPlace (Nat.le_of_ble_eq_true rfl) ?_
  intro p e s m args below meth c A Q hx hb hml hown ht hnm hK hP hA hS hret ls hl
  have hown : s.vm.findClass RX10 = some m.cls := hown
  have FX : CallFix p m c cX10_isPlace 2 s args tblG RX10 := ⟨hx, hb, hml, hown, ht⟩
  have hP : PD D A [] s.heap := hP
  have hl : lv_has ls 2 [(0, .int x0), (1, .int x1)] := hl
  unfold P_X10_isPlace at hV
  refine lv_iload_n hx hb dX10_isPlace_0 rfl (lv_at hl 0 rfl) ?_
  refine lv_sipush (v := (-400)) hx hb dX10_isPlace_1 (by decide) ?_
  refine lv_sipush (v := 400) hx hb dX10_isPlace_4 (by decide) ?_
  refine KSi (As := [.int x0, .int (-400), .int 400]) (rest := []) FX (c_X10_isIn l D cI cB cS x0 (-400) 400 _ hV) ok_X10_isIn is_X10_isIn li_X10_42 dX10_isPlace_7 hK hP hS hA [] [] rfl rfl (by decide) rfl hl.1 (Nat.le_of_ble_eq_true rfl) ⟨Nat.le_of_ble_eq_true rfl, Nat.le_of_ble_eq_true rfl⟩ ⟨Nat.le_of_ble_eq_true rfl, Nat.le_of_ble_eq_true rfl⟩ (fun r_1 _ H locs hV hP hS => ?_)
  have hP : PD D A [] H := hP
  refine lv_if_eq (tgt := 28) hx hb dX10_isPlace_10 (by decide) (fun h => ?_) (fun h => ?_)
  · have hV := hV.1 h
    refine lv_iconst (v := 0) hx hb dX10_isPlace_28 (by decide) ?_
    exact hret _ _ _ _ _ () hS dX10_isPlace_29 hP (by decide) hV
  · have hV := hV.2 h
    refine lv_iload_n hx hb dX10_isPlace_13 rfl (lv_at hl 1 rfl) ?_
    refine lv_iconst (v := 0) hx hb dX10_isPlace_14 (by decide) ?_
    refine lv_sipush (v := 400) hx hb dX10_isPlace_15 (by decide) ?_
    refine KSi (As := [.int x1, .int 0, .int 400]) (rest := []) FX (c_X10_isIn l D cI cB cS x1 0 400 _ hV) ok_X10_isIn is_X10_isIn li_X10_42 dX10_isPlace_18 hK hP hS hA [] [] rfl rfl (by decide) rfl hl.1 (Nat.le_of_ble_eq_true rfl) ⟨Nat.le_of_ble_eq_true rfl, Nat.le_of_ble_eq_true rfl⟩ ⟨Nat.le_of_ble_eq_true rfl, Nat.le_of_ble_eq_true rfl⟩ (fun r_2 _ H locs hV hP hS => ?_)
    have hP : PD D A [] H := hP
    refine lv_if_eq (tgt := 28) hx hb dX10_isPlace_21 (by decide) (fun h => ?_) (fun h => ?_)
    · have hV := hV.1 h
      refine lv_iconst (v := 0) hx hb dX10_isPlace_28 (by decide) ?_
      exact hret _ _ _ _ _ () hS dX10_isPlace_29 hP (by decide) hV
    · have hV := hV.2 h
      refine lv_iconst (v := 1) hx hb dX10_isPlace_24 (by decide) ?_
      refine lv_goto (tgt := 29) hx hb dX10_isPlace_25 (by decide) ?_
      exact hret _ _ _ _ _ () hS dX10_isPlace_29 hP (by decide) hV

def rm_X10_strikesOn : Room := { frames := 1, cells := 0, slots := 0, locals := 22 }
def P_X10_strikesOn (x0 : Int32) (x1 : Int32) (x2 : Int32) (post : Int32 → Prop) : Prop := P_X10_direction x0 (fun r_1 => P_X10_isIn r_1 (x1 - x2) (x1 + x2) (fun r_2 => ((r_2 = 0 ∨ r_2 = 1) ∧ post r_2)))
set_option maxRecDepth 100000 in
set_option maxHeartbeats 4000000 in
theorem c_X10_strikesOn (l : Launch) (D : va_G) (cI cB cS : ClassId) (x0 : Int32) (x1 : Int32) (x2 : Int32) (post : Int32 → Prop) (hV : P_X10_strikesOn x0 x1 x2 post) : Ci l yX10_strikesOn cX10_strikesOn 3 (some .boolean) rm_X10_strikesOn D cI cB cS [.int x0, .int x1, .int x2] [] (fun r (_ : Unit) => post r) (fun (_ : Unit) => []) := by
  refine Cz.of ok_X10_strikesOn (Nat.le_of_ble_eq_true rfl) ?_
  intro p e s m args below meth c A Q hx hb hml hown ht hnm hK hP hA hS hret ls hl
  have hown : s.vm.findClass RX10 = some m.cls := hown
  have FX : CallFix p m c cX10_strikesOn 3 s args tblG RX10 := ⟨hx, hb, hml, hown, ht⟩
  have hP : PD D A [] s.heap := hP
  have hl : lv_has ls 3 [(0, .int x0), (1, .int x1), (2, .int x2)] := hl
  unfold P_X10_strikesOn at hV
  refine lv_iload_n hx hb dX10_strikesOn_0 rfl (lv_at hl 0 rfl) ?_
  refine KSi (As := [.int x0]) (rest := []) FX (c_X10_direction l D cI cB cS x0 _ hV) ok_X10_direction is_X10_direction li_X10_126 dX10_strikesOn_1 hK hP hS hA [] [] rfl rfl (by decide) rfl hl.1 (Nat.le_of_ble_eq_true rfl) ⟨Nat.le_of_ble_eq_true rfl, Nat.le_of_ble_eq_true rfl⟩ ⟨Nat.le_of_ble_eq_true rfl, Nat.le_of_ble_eq_true rfl⟩ (fun r_1 _ H locs hV hP hS => ?_)
  have hP : PD D A [] H := hP
  refine lv_iload_n hx hb dX10_strikesOn_4 rfl (lv_at hl 1 rfl) ?_
  refine lv_iload_n hx hb dX10_strikesOn_5 rfl (lv_at hl 2 rfl) ?_
  refine lv_isub hx hb dX10_strikesOn_6 ?_
  refine lv_iload_n hx hb dX10_strikesOn_7 rfl (lv_at hl 1 rfl) ?_
  refine lv_iload_n hx hb dX10_strikesOn_8 rfl (lv_at hl 2 rfl) ?_
  refine lv_iadd hx hb dX10_strikesOn_9 ?_
  refine KSi (As := [.int r_1, .int (x1 - x2), .int (x1 + x2)]) (rest := []) FX (c_X10_isIn l D cI cB cS r_1 (x1 - x2) (x1 + x2) _ hV) ok_X10_isIn is_X10_isIn li_X10_42 dX10_strikesOn_10 hK hP hS hA [] [] rfl rfl (by decide) rfl hl.1 (Nat.le_of_ble_eq_true rfl) ⟨Nat.le_of_ble_eq_true rfl, Nat.le_of_ble_eq_true rfl⟩ ⟨Nat.le_of_ble_eq_true rfl, Nat.le_of_ble_eq_true rfl⟩ (fun r_2 _ H locs hV hP hS => ?_)
  have hP : PD D A [] H := hP
  exact hret _ _ _ _ _ () hS dX10_strikesOn_13 hP hV.1 hV.2

def rm_X10_strikes : Room := { frames := 2, cells := 0, slots := 0, locals := 44 }
def V_X10_strikes_15 (x1 : Int32) (x2 : Int32) (post : Int32 → Prop) : Nat → Int32 → Int32 → Prop
  | 0, _, _ => False
  | n + 1, v3, v4 => ((365 ≤ v4 → post v3) ∧ (¬ 365 ≤ v4 → P_X10_strikesOn v4 x1 x2 (fun r_1 => ((r_1 = 0 → (∀ v3_2 : Int32, v3_2 = (v3 + 0) → (∀ v4_3 : Int32, v4_3 = (v4 + 1) → V_X10_strikes_15 x1 x2 post n v3_2 v4_3))) ∧ (¬ r_1 = 0 → (∀ v3_4 : Int32, v3_4 = (v3 + 1) → (∀ v4_5 : Int32, v4_5 = (v4 + 1) → V_X10_strikes_15 x1 x2 post n v3_4 v4_5)))))))
theorem V_X10_strikes_15_s (x1 : Int32) (x2 : Int32) (post : Int32 → Prop) (n : Nat) (v3 : Int32) (v4 : Int32) : V_X10_strikes_15 x1 x2 post (n + 1) v3 v4 = (((365 ≤ v4 → post v3) ∧ (¬ 365 ≤ v4 → P_X10_strikesOn v4 x1 x2 (fun r_1 => ((r_1 = 0 → (∀ v3_2 : Int32, v3_2 = (v3 + 0) → (∀ v4_3 : Int32, v4_3 = (v4 + 1) → V_X10_strikes_15 x1 x2 post n v3_2 v4_3))) ∧ (¬ r_1 = 0 → (∀ v3_4 : Int32, v3_4 = (v3 + 1) → (∀ v4_5 : Int32, v4_5 = (v4 + 1) → V_X10_strikes_15 x1 x2 post n v3_4 v4_5)))))))) := rfl
def P_X10_strikes (x1 : Int32) (x2 : Int32) (post : Int32 → Prop) : Prop := P_X10_isPlace x1 x2 (fun r_6 => ((r_6 = 0 → post (-1)) ∧ (¬ r_6 = 0 → (∃ k : Nat, V_X10_strikes_15 x1 x2 post k 0 0))))
set_option maxRecDepth 100000 in
set_option maxHeartbeats 4000000 in
theorem c_X10_strikes (l : Launch) (D : va_G) (cI cB cS : ClassId) (a_this : Nat) (x1 : Int32) (x2 : Int32) (post : Int32 → Prop) (hV : P_X10_strikes x1 x2 post) : Ci l yX10_strikes cX10_strikes 5 (some .int) rm_X10_strikes D cI cB cS [.ref a_this, .int x1, .int x2] [] (fun r (_ : Unit) => post r) (fun (_ : Unit) => []) := by
  refine Ci.of ok_X10_strikes (Nat.le_of_ble_eq_true rfl) ?_
  intro p e s m args below meth c A Q hx hb hml hown ht hnm hK hP hA hS hret ls hl
  have hown : s.vm.findClass RX10 = some m.cls := hown
  have FX : CallFix p m c cX10_strikes 5 s args tblG RX10 := ⟨hx, hb, hml, hown, ht⟩
  have hP : PD D A [] s.heap := hP
  have hl : lv_has ls 5 [(0, .ref a_this), (1, .int x1), (2, .int x2)] := hl
  unfold P_X10_strikes at hV
  have b15 : ∀  (k15 : Nat) (v3 : Int32) (v4 : Int32) (H : Heap) (locs : List Loc) (ls : Array Slot), PD D A [] H → va_S A s.heap H locs → lv_has ls 5 [(1, .int x1), (2, .int x2), (3, .int v3), (4, .int v4)] → V_X10_strikes_15 x1 x2 post k15 v3 v4 → W p l e rm_X10_strikes s m args below meth c H locs 0 0 Q (F0 m 15 ls []) := by
    intro  k15
    induction k15 with
    | zero => intro v3 v4 H locs ls hP hS hl hV; exact False.elim hV
    | succ k15 ih15 =>
      intro v3 v4 H locs ls hP hS hl hV
      rw [V_X10_strikes_15_s] at hV
      refine lv_iload hx hb dX10_strikes_15 (lv_at hl 3 rfl) ?_
      refine lv_sipush (v := 365) hx hb dX10_strikes_17 (by decide) ?_
      refine lv_icmp_ge (tgt := 47) hx hb dX10_strikes_20 (by decide) (fun h => ?_) (fun h => ?_)
      · have hV := hV.1 h
        refine lv_iload_n hx hb dX10_strikes_47 rfl (lv_at hl 2 rfl) ?_
        exact hret _ _ _ _ _ () hS dX10_strikes_48 hP hV
      · have hV := hV.2 h
        refine lv_iload_n hx hb dX10_strikes_23 rfl (lv_at hl 2 rfl) ?_
        refine lv_iload hx hb dX10_strikes_24 (lv_at hl 3 rfl) ?_
        refine lv_iload_n hx hb dX10_strikes_26 rfl (lv_at hl 0 rfl) ?_
        refine lv_iload_n hx hb dX10_strikes_27 rfl (lv_at hl 1 rfl) ?_
        refine KSi (As := [.int v4, .int x1, .int x2]) (rest := [.int v3]) FX (c_X10_strikesOn l D cI cB cS v4 x1 x2 _ hV) ok_X10_strikesOn is_X10_strikesOn li_X10_132 dX10_strikes_28 hK hP hS hA [] [] rfl rfl (by decide) rfl hl.1 (Nat.le_of_ble_eq_true rfl) ⟨Nat.le_of_ble_eq_true rfl, Nat.le_of_ble_eq_true rfl⟩ ⟨Nat.le_of_ble_eq_true rfl, Nat.le_of_ble_eq_true rfl⟩ (fun r_1 _ H locs hV hP hS => ?_)
        have hP : PD D A [] H := hP
        refine lv_if_eq (tgt := 38) hx hb dX10_strikes_31 (by decide) (fun h => ?_) (fun h => ?_)
        · have hV := hV.1 h
          refine lv_iconst (v := 0) hx hb dX10_strikes_38 (by decide) ?_
          refine lv_iadd hx hb dX10_strikes_39 ?_
          refine lv_topi (fun v3_2 e_v3_2 => ?_)
          have hV := hV v3_2 e_v3_2
          refine lv_istore_n (lv' := [(3, .int v3_2), (1, .int x1), (2, .int x2), (4, .int v4)]) hx hb dX10_strikes_40 rfl hl (by decide) rfl (fun ls hl => ?_)
          obtain ⟨v4_3, e_v4_3⟩ : ∃ y : Int32, y = (v4 + 1) := ⟨_, rfl⟩
          have hV := hV v4_3 e_v4_3
          refine lv_iinc (v := v4_3) (lv' := [(4, .int v4_3), (3, .int v3_2), (1, .int x1), (2, .int x2)]) hx hb dX10_strikes_41 hl (k := 3) rfl (by rw [e_v4_3]; rfl) (by decide) rfl (fun ls hl => ?_)
          refine lv_goto (tgt := 15) hx hb dX10_strikes_44 (by decide) ?_
          exact ih15 v3_2 v4_3 _ _ _ hP hS (lv_sub hl [2, 3, 1, 0] rfl) hV
        · have hV := hV.2 h
          refine lv_iconst (v := 1) hx hb dX10_strikes_34 (by decide) ?_
          refine lv_goto (tgt := 39) hx hb dX10_strikes_35 (by decide) ?_
          refine lv_iadd hx hb dX10_strikes_39 ?_
          refine lv_topi (fun v3_4 e_v3_4 => ?_)
          have hV := hV v3_4 e_v3_4
          refine lv_istore_n (lv' := [(3, .int v3_4), (1, .int x1), (2, .int x2), (4, .int v4)]) hx hb dX10_strikes_40 rfl hl (by decide) rfl (fun ls hl => ?_)
          obtain ⟨v4_5, e_v4_5⟩ : ∃ y : Int32, y = (v4 + 1) := ⟨_, rfl⟩
          have hV := hV v4_5 e_v4_5
          refine lv_iinc (v := v4_5) (lv' := [(4, .int v4_5), (3, .int v3_4), (1, .int x1), (2, .int x2)]) hx hb dX10_strikes_41 hl (k := 3) rfl (by rw [e_v4_5]; rfl) (by decide) rfl (fun ls hl => ?_)
          refine lv_goto (tgt := 15) hx hb dX10_strikes_44 (by decide) ?_
          exact ih15 v3_4 v4_5 _ _ _ hP hS (lv_sub hl [2, 3, 1, 0] rfl) hV
  refine lv_iload_n hx hb dX10_strikes_0 rfl (lv_at hl 1 rfl) ?_
  refine lv_iload_n hx hb dX10_strikes_1 rfl (lv_at hl 2 rfl) ?_
  refine KSi (As := [.int x1, .int x2]) (rest := []) FX (c_X10_isPlace l D cI cB cS x1 x2 _ hV) ok_X10_isPlace is_X10_isPlace li_X10_129 dX10_strikes_2 hK hP hS hA [] [] rfl rfl (by decide) rfl hl.1 (Nat.le_of_ble_eq_true rfl) ⟨Nat.le_of_ble_eq_true rfl, Nat.le_of_ble_eq_true rfl⟩ ⟨Nat.le_of_ble_eq_true rfl, Nat.le_of_ble_eq_true rfl⟩ (fun r_6 _ H locs hV hP hS => ?_)
  have hP : PD D A [] H := hP
  refine lv_if_ne (tgt := 10) hx hb dX10_strikes_5 (by decide) (fun h => ?_) (fun h => ?_)
  · have hV := hV.2 h
    refine lv_iconst (v := 0) hx hb dX10_strikes_10 (by decide) ?_
    refine lv_istore_n (lv' := [(3, .int 0), (0, .ref a_this), (1, .int x1), (2, .int x2)]) hx hb dX10_strikes_11 rfl hl (by decide) rfl (fun ls hl => ?_)
    refine lv_iconst (v := 0) hx hb dX10_strikes_12 (by decide) ?_
    refine lv_istore (lv' := [(4, .int 0), (3, .int 0), (0, .ref a_this), (1, .int x1), (2, .int x2)]) hx hb dX10_strikes_13 hl (by decide) rfl (fun ls hl => ?_)
    obtain ⟨k, hV⟩ := hV
    exact b15 k 0 0 _ _ _ hP hS (lv_sub hl [3, 4, 1, 0] rfl) hV
  · have hV := hV.1 h
    refine lv_iconst (v := (-1)) hx hb dX10_strikes_8 (by decide) ?_
    exact hret _ _ _ _ _ () hS dX10_strikes_9 hP hV

def rm_X10_like : Room := { frames := 2, cells := 0, slots := 0, locals := 44 }
def V_X10_like_47 (x1 : Int32) (x2 : Int32) (x3 : Int32) (v4 : Int32) (v5 : Int32) (v6 : Int32) (K_33 : Int32 → Int32 → Int32 → Prop) : Nat → Int32 → Int32 → Prop
  | 0, _, _ => False
  | n + 1, v7, v8 => ((365 ≤ v8 → ((v7 < v5 → (∀ v6_1 : Int32, v6_1 = (v6 + 1) → K_33 v6 v7 v6_1)) ∧ (¬ v7 < v5 → (∀ v6_2 : Int32, v6_2 = (v6 + 1) → K_33 v4 v5 v6_2)))) ∧ (¬ 365 ≤ v8 → P_X10_strikesOn v8 x1 x2 (fun r_3 => P_X10_strikesOn v8 v6 x3 (fun r_4 => ((r_3 = r_4 → (∀ v7_5 : Int32, v7_5 = (v7 + 0) → (∀ v8_6 : Int32, v8_6 = (v8 + 1) → V_X10_like_47 x1 x2 x3 v4 v5 v6 K_33 n v7_5 v8_6))) ∧ (¬ r_3 = r_4 → (∀ v7_7 : Int32, v7_7 = (v7 + 1) → (∀ v8_8 : Int32, v8_8 = (v8 + 1) → V_X10_like_47 x1 x2 x3 v4 v5 v6 K_33 n v7_7 v8_8))))))))
theorem V_X10_like_47_s (x1 : Int32) (x2 : Int32) (x3 : Int32) (v4 : Int32) (v5 : Int32) (v6 : Int32) (K_33 : Int32 → Int32 → Int32 → Prop) (n : Nat) (v7 : Int32) (v8 : Int32) : V_X10_like_47 x1 x2 x3 v4 v5 v6 K_33 (n + 1) v7 v8 = (((365 ≤ v8 → ((v7 < v5 → (∀ v6_1 : Int32, v6_1 = (v6 + 1) → K_33 v6 v7 v6_1)) ∧ (¬ v7 < v5 → (∀ v6_2 : Int32, v6_2 = (v6 + 1) → K_33 v4 v5 v6_2)))) ∧ (¬ 365 ≤ v8 → P_X10_strikesOn v8 x1 x2 (fun r_3 => P_X10_strikesOn v8 v6 x3 (fun r_4 => ((r_3 = r_4 → (∀ v7_5 : Int32, v7_5 = (v7 + 0) → (∀ v8_6 : Int32, v8_6 = (v8 + 1) → V_X10_like_47 x1 x2 x3 v4 v5 v6 K_33 n v7_5 v8_6))) ∧ (¬ r_3 = r_4 → (∀ v7_7 : Int32, v7_7 = (v7 + 1) → (∀ v8_8 : Int32, v8_8 = (v8 + 1) → V_X10_like_47 x1 x2 x3 v4 v5 v6 K_33 n v7_7 v8_8))))))))) := rfl
def V_X10_like_33 (x1 : Int32) (x2 : Int32) (x3 : Int32) (post : Int32 → Prop) : Nat → Int32 → Int32 → Int32 → Prop
  | 0, _, _, _ => False
  | n + 1, v4, v5, v6 => ((400 < v6 → post v4) ∧ (¬ 400 < v6 → (∃ k : Nat, V_X10_like_47 x1 x2 x3 v4 v5 v6 (V_X10_like_33 x1 x2 x3 post n) k 0 0)))
theorem V_X10_like_33_s (x1 : Int32) (x2 : Int32) (x3 : Int32) (post : Int32 → Prop) (n : Nat) (v4 : Int32) (v5 : Int32) (v6 : Int32) : V_X10_like_33 x1 x2 x3 post (n + 1) v4 v5 v6 = (((400 < v6 → post v4) ∧ (¬ 400 < v6 → (∃ k : Nat, V_X10_like_47 x1 x2 x3 v4 v5 v6 (V_X10_like_33 x1 x2 x3 post n) k 0 0)))) := rfl
def P_X10_like (x1 : Int32) (x2 : Int32) (x3 : Int32) (post : Int32 → Prop) : Prop := P_X10_isPlace x1 x2 (fun r_9 => ((r_9 = 0 → post (-1000)) ∧ (¬ r_9 = 0 → P_X10_isPlace 0 x3 (fun r_10 => ((r_10 = 0 → post (-1000)) ∧ (¬ r_10 = 0 → (∃ k : Nat, V_X10_like_33 x1 x2 x3 post k 0 366 (-400))))))))
set_option maxRecDepth 100000 in
set_option maxHeartbeats 4000000 in
theorem c_X10_like (l : Launch) (D : va_G) (cI cB cS : ClassId) (a_this : Nat) (x1 : Int32) (x2 : Int32) (x3 : Int32) (post : Int32 → Prop) (hV : P_X10_like x1 x2 x3 post) : Ci l yX10_like cX10_like 9 (some .int) rm_X10_like D cI cB cS [.ref a_this, .int x1, .int x2, .int x3] [] (fun r (_ : Unit) => post r) (fun (_ : Unit) => []) := by
  refine Ci.of ok_X10_like (Nat.le_of_ble_eq_true rfl) ?_
  intro p e s m args below meth c A Q hx hb hml hown ht hnm hK hP hA hS hret ls hl
  have hown : s.vm.findClass RX10 = some m.cls := hown
  have FX : CallFix p m c cX10_like 9 s args tblG RX10 := ⟨hx, hb, hml, hown, ht⟩
  have hP : PD D A [] s.heap := hP
  have hl : lv_has ls 9 [(0, .ref a_this), (1, .int x1), (2, .int x2), (3, .int x3)] := hl
  unfold P_X10_like at hV
  have b33 : ∀  (k33 : Nat) (v4 : Int32) (v5 : Int32) (v6 : Int32) (H : Heap) (locs : List Loc) (ls : Array Slot), PD D A [] H → va_S A s.heap H locs → lv_has ls 9 [(1, .int x1), (2, .int x2), (3, .int x3), (4, .int v4), (5, .int v5), (6, .int v6)] → V_X10_like_33 x1 x2 x3 post k33 v4 v5 v6 → W p l e rm_X10_like s m args below meth c H locs 0 0 Q (F0 m 33 ls []) := by
    intro  k33
    induction k33 with
    | zero => intro v4 v5 v6 H locs ls hP hS hl hV; exact False.elim hV
    | succ k33 ih33 =>
      intro v4 v5 v6 H locs ls hP hS hl hV
      rw [V_X10_like_33_s] at hV
      have b47 : ∀ (v4 : Int32) (v5 : Int32) (v6 : Int32) (k47 : Nat) (v7 : Int32) (v8 : Int32) (H : Heap) (locs : List Loc) (ls : Array Slot), PD D A [] H → va_S A s.heap H locs → lv_has ls 9 [(1, .int x1), (2, .int x2), (3, .int x3), (4, .int v4), (5, .int v5), (6, .int v6), (7, .int v7), (8, .int v8)] → V_X10_like_47 x1 x2 x3 v4 v5 v6 (V_X10_like_33 x1 x2 x3 post k33) k47 v7 v8 → W p l e rm_X10_like s m args below meth c H locs 0 0 Q (F0 m 47 ls []) := by
        intro v4 v5 v6 k47
        induction k47 with
        | zero => intro v7 v8 H locs ls hP hS hl hV; exact False.elim hV
        | succ k47 ih47 =>
          intro v7 v8 H locs ls hP hS hl hV
          rw [V_X10_like_47_s] at hV
          refine lv_iload hx hb dX10_like_47 (lv_at hl 7 rfl) ?_
          refine lv_sipush (v := 365) hx hb dX10_like_49 (by decide) ?_
          refine lv_icmp_ge (tgt := 89) hx hb dX10_like_52 (by decide) (fun h => ?_) (fun h => ?_)
          · have hV := hV.1 h
            refine lv_iload hx hb dX10_like_89 (lv_at hl 6 rfl) ?_
            refine lv_iload hx hb dX10_like_91 (lv_at hl 4 rfl) ?_
            refine lv_icmp_lt (tgt := 99) hx hb dX10_like_93 (by decide) (fun h => ?_) (fun h => ?_)
            · have hV := hV.1 h
              refine lv_iload hx hb dX10_like_99 (lv_at hl 6 rfl) ?_
              refine lv_istore (lv' := [(5, .int v7), (1, .int x1), (2, .int x2), (3, .int x3), (4, .int v4), (6, .int v6), (7, .int v7), (8, .int v8)]) hx hb dX10_like_101 hl (by decide) rfl (fun ls hl => ?_)
              refine lv_iload hx hb dX10_like_103 (lv_at hl 5 rfl) ?_
              refine lv_istore (lv' := [(4, .int v6), (5, .int v7), (1, .int x1), (2, .int x2), (3, .int x3), (6, .int v6), (7, .int v7), (8, .int v8)]) hx hb dX10_like_105 hl (by decide) rfl (fun ls hl => ?_)
              obtain ⟨v6_1, e_v6_1⟩ : ∃ y : Int32, y = (v6 + 1) := ⟨_, rfl⟩
              have hV := hV v6_1 e_v6_1
              refine lv_iinc (v := v6_1) (lv' := [(6, .int v6_1), (4, .int v6), (5, .int v7), (1, .int x1), (2, .int x2), (3, .int x3), (7, .int v7), (8, .int v8)]) hx hb dX10_like_107 hl (k := 5) rfl (by rw [e_v6_1]; rfl) (by decide) rfl (fun ls hl => ?_)
              refine lv_goto (tgt := 33) hx hb dX10_like_110 (by decide) ?_
              exact ih33 v6 v7 v6_1 _ _ _ hP hS (lv_sub hl [3, 4, 5, 1, 2, 0] rfl) hV
            · have hV := hV.2 h
              refine lv_goto (tgt := 107) hx hb dX10_like_96 (by decide) ?_
              obtain ⟨v6_2, e_v6_2⟩ : ∃ y : Int32, y = (v6 + 1) := ⟨_, rfl⟩
              have hV := hV v6_2 e_v6_2
              refine lv_iinc (v := v6_2) (lv' := [(6, .int v6_2), (1, .int x1), (2, .int x2), (3, .int x3), (4, .int v4), (5, .int v5), (7, .int v7), (8, .int v8)]) hx hb dX10_like_107 hl (k := 5) rfl (by rw [e_v6_2]; rfl) (by decide) rfl (fun ls hl => ?_)
              refine lv_goto (tgt := 33) hx hb dX10_like_110 (by decide) ?_
              exact ih33 v4 v5 v6_2 _ _ _ hP hS (lv_sub hl [1, 2, 3, 4, 5, 0] rfl) hV
          · have hV := hV.2 h
            refine lv_iload hx hb dX10_like_55 (lv_at hl 6 rfl) ?_
            refine lv_iload hx hb dX10_like_57 (lv_at hl 7 rfl) ?_
            refine lv_iload_n hx hb dX10_like_59 rfl (lv_at hl 0 rfl) ?_
            refine lv_iload_n hx hb dX10_like_60 rfl (lv_at hl 1 rfl) ?_
            refine KSi (As := [.int v8, .int x1, .int x2]) (rest := [.int v7]) FX (c_X10_strikesOn l D cI cB cS v8 x1 x2 _ hV) ok_X10_strikesOn is_X10_strikesOn li_X10_132 dX10_like_61 hK hP hS hA [] [] rfl rfl (by decide) rfl hl.1 (Nat.le_of_ble_eq_true rfl) ⟨Nat.le_of_ble_eq_true rfl, Nat.le_of_ble_eq_true rfl⟩ ⟨Nat.le_of_ble_eq_true rfl, Nat.le_of_ble_eq_true rfl⟩ (fun r_3 _ H locs hV hP hS => ?_)
            have hP : PD D A [] H := hP
            refine lv_iload hx hb dX10_like_64 (lv_at hl 7 rfl) ?_
            refine lv_iload hx hb dX10_like_66 (lv_at hl 5 rfl) ?_
            refine lv_iload_n hx hb dX10_like_68 rfl (lv_at hl 2 rfl) ?_
            refine KSi (As := [.int v8, .int v6, .int x3]) (rest := [.int r_3, .int v7]) FX (c_X10_strikesOn l D cI cB cS v8 v6 x3 _ hV) ok_X10_strikesOn is_X10_strikesOn li_X10_132 dX10_like_69 hK hP hS hA [] [] rfl rfl (by decide) rfl hl.1 (Nat.le_of_ble_eq_true rfl) ⟨Nat.le_of_ble_eq_true rfl, Nat.le_of_ble_eq_true rfl⟩ ⟨Nat.le_of_ble_eq_true rfl, Nat.le_of_ble_eq_true rfl⟩ (fun r_4 _ H locs hV hP hS => ?_)
            have hP : PD D A [] H := hP
            refine lv_icmp_eq (tgt := 79) hx hb dX10_like_72 (by decide) (fun h => ?_) (fun h => ?_)
            · have hV := hV.1 h
              refine lv_iconst (v := 0) hx hb dX10_like_79 (by decide) ?_
              refine lv_iadd hx hb dX10_like_80 ?_
              refine lv_topi (fun v7_5 e_v7_5 => ?_)
              have hV := hV v7_5 e_v7_5
              refine lv_istore (lv' := [(7, .int v7_5), (1, .int x1), (2, .int x2), (3, .int x3), (4, .int v4), (5, .int v5), (6, .int v6), (8, .int v8)]) hx hb dX10_like_81 hl (by decide) rfl (fun ls hl => ?_)
              obtain ⟨v8_6, e_v8_6⟩ : ∃ y : Int32, y = (v8 + 1) := ⟨_, rfl⟩
              have hV := hV v8_6 e_v8_6
              refine lv_iinc (v := v8_6) (lv' := [(8, .int v8_6), (7, .int v7_5), (1, .int x1), (2, .int x2), (3, .int x3), (4, .int v4), (5, .int v5), (6, .int v6)]) hx hb dX10_like_83 hl (k := 7) rfl (by rw [e_v8_6]; rfl) (by decide) rfl (fun ls hl => ?_)
              refine lv_goto (tgt := 47) hx hb dX10_like_86 (by decide) ?_
              exact ih47 v7_5 v8_6 _ _ _ hP hS (lv_sub hl [2, 3, 4, 5, 6, 7, 1, 0] rfl) hV
            · have hV := hV.2 h
              refine lv_iconst (v := 1) hx hb dX10_like_75 (by decide) ?_
              refine lv_goto (tgt := 80) hx hb dX10_like_76 (by decide) ?_
              refine lv_iadd hx hb dX10_like_80 ?_
              refine lv_topi (fun v7_7 e_v7_7 => ?_)
              have hV := hV v7_7 e_v7_7
              refine lv_istore (lv' := [(7, .int v7_7), (1, .int x1), (2, .int x2), (3, .int x3), (4, .int v4), (5, .int v5), (6, .int v6), (8, .int v8)]) hx hb dX10_like_81 hl (by decide) rfl (fun ls hl => ?_)
              obtain ⟨v8_8, e_v8_8⟩ : ∃ y : Int32, y = (v8 + 1) := ⟨_, rfl⟩
              have hV := hV v8_8 e_v8_8
              refine lv_iinc (v := v8_8) (lv' := [(8, .int v8_8), (7, .int v7_7), (1, .int x1), (2, .int x2), (3, .int x3), (4, .int v4), (5, .int v5), (6, .int v6)]) hx hb dX10_like_83 hl (k := 7) rfl (by rw [e_v8_8]; rfl) (by decide) rfl (fun ls hl => ?_)
              refine lv_goto (tgt := 47) hx hb dX10_like_86 (by decide) ?_
              exact ih47 v7_7 v8_8 _ _ _ hP hS (lv_sub hl [2, 3, 4, 5, 6, 7, 1, 0] rfl) hV
      refine lv_iload hx hb dX10_like_33 (lv_at hl 5 rfl) ?_
      refine lv_sipush (v := 400) hx hb dX10_like_35 (by decide) ?_
      refine lv_icmp_gt (tgt := 113) hx hb dX10_like_38 (by decide) (fun h => ?_) (fun h => ?_)
      · have hV := hV.1 h
        refine lv_iload hx hb dX10_like_113 (lv_at hl 3 rfl) ?_
        exact hret _ _ _ _ _ () hS dX10_like_115 hP hV
      · have hV := hV.2 h
        refine lv_iconst (v := 0) hx hb dX10_like_41 (by decide) ?_
        refine lv_istore (lv' := [(7, .int 0), (1, .int x1), (2, .int x2), (3, .int x3), (4, .int v4), (5, .int v5), (6, .int v6)]) hx hb dX10_like_42 hl (by decide) rfl (fun ls hl => ?_)
        refine lv_iconst (v := 0) hx hb dX10_like_44 (by decide) ?_
        refine lv_istore (lv' := [(8, .int 0), (7, .int 0), (1, .int x1), (2, .int x2), (3, .int x3), (4, .int v4), (5, .int v5), (6, .int v6)]) hx hb dX10_like_45 hl (by decide) rfl (fun ls hl => ?_)
        obtain ⟨k, hV⟩ := hV
        exact b47 v4 v5 v6 k 0 0 _ _ _ hP hS (lv_sub hl [2, 3, 4, 5, 6, 7, 1, 0] rfl) hV
  refine lv_iload_n hx hb dX10_like_0 rfl (lv_at hl 1 rfl) ?_
  refine lv_iload_n hx hb dX10_like_1 rfl (lv_at hl 2 rfl) ?_
  refine KSi (As := [.int x1, .int x2]) (rest := []) FX (c_X10_isPlace l D cI cB cS x1 x2 _ hV) ok_X10_isPlace is_X10_isPlace li_X10_129 dX10_like_2 hK hP hS hA [] [] rfl rfl (by decide) rfl hl.1 (Nat.le_of_ble_eq_true rfl) ⟨Nat.le_of_ble_eq_true rfl, Nat.le_of_ble_eq_true rfl⟩ ⟨Nat.le_of_ble_eq_true rfl, Nat.le_of_ble_eq_true rfl⟩ (fun r_9 _ H locs hV hP hS => ?_)
  have hP : PD D A [] H := hP
  refine lv_if_eq (tgt := 16) hx hb dX10_like_5 (by decide) (fun h => ?_) (fun h => ?_)
  · have hV := hV.1 h
    refine lv_sipush (v := (-1000)) hx hb dX10_like_16 (by decide) ?_
    exact hret _ _ _ _ _ () hS dX10_like_19 hP hV
  · have hV := hV.2 h
    refine lv_iconst (v := 0) hx hb dX10_like_8 (by decide) ?_
    refine lv_iload_n hx hb dX10_like_9 rfl (lv_at hl 3 rfl) ?_
    refine KSi (As := [.int 0, .int x3]) (rest := []) FX (c_X10_isPlace l D cI cB cS 0 x3 _ hV) ok_X10_isPlace is_X10_isPlace li_X10_129 dX10_like_10 hK hP hS hA [] [] rfl rfl (by decide) rfl hl.1 (Nat.le_of_ble_eq_true rfl) ⟨Nat.le_of_ble_eq_true rfl, Nat.le_of_ble_eq_true rfl⟩ ⟨Nat.le_of_ble_eq_true rfl, Nat.le_of_ble_eq_true rfl⟩ (fun r_10 _ H locs hV hP hS => ?_)
    have hP : PD D A [] H := hP
    refine lv_if_ne (tgt := 20) hx hb dX10_like_13 (by decide) (fun h => ?_) (fun h => ?_)
    · have hV := hV.2 h
      refine lv_iconst (v := 0) hx hb dX10_like_20 (by decide) ?_
      refine lv_istore (lv' := [(4, .int 0), (0, .ref a_this), (1, .int x1), (2, .int x2), (3, .int x3)]) hx hb dX10_like_21 hl (by decide) rfl (fun ls hl => ?_)
      refine lv_sipush (v := 366) hx hb dX10_like_23 (by decide) ?_
      refine lv_istore (lv' := [(5, .int 366), (4, .int 0), (0, .ref a_this), (1, .int x1), (2, .int x2), (3, .int x3)]) hx hb dX10_like_26 hl (by decide) rfl (fun ls hl => ?_)
      refine lv_sipush (v := (-400)) hx hb dX10_like_28 (by decide) ?_
      refine lv_istore (lv' := [(6, .int (-400)), (5, .int 366), (4, .int 0), (0, .ref a_this), (1, .int x1), (2, .int x2), (3, .int x3)]) hx hb dX10_like_31 hl (by decide) rfl (fun ls hl => ?_)
      obtain ⟨k, hV⟩ := hV
      exact b33 k 0 366 (-400) _ _ _ hP hS (lv_sub hl [4, 5, 6, 2, 1, 0] rfl) hV
    · have hV := hV.1 h
      refine lv_sipush (v := (-1000)) hx hb dX10_like_16 (by decide) ?_
      exact hret _ _ _ _ _ () hS dX10_like_19 hP hV

def rm_X10_count : Room := { frames := 3, cells := 0, slots := 0, locals := 65 }
def P_X10_count (x1 : Int32) (f_all : Nat → Int32) (post : Int32 → Prop) : Prop := ((x1 = 0 → (vp_in 0 3320 ∧ post (f_all (0 : Int32).toNatClampNeg))) ∧ (¬ x1 = 0 → ((x1 = 1 → (vp_in 1 3320 ∧ post (f_all (1 : Int32).toNatClampNeg))) ∧ (¬ x1 = 1 → ((x1 = 2 → (vp_in 5 3320 ∧ post (f_all (5 : Int32).toNatClampNeg))) ∧ (¬ x1 = 2 → ((x1 = 3 → P_X10_taken f_all (fun r_1 => post r_1)) ∧ (¬ x1 = 3 → ((x1 = 4 → (vp_in 6 3320 ∧ post (f_all (6 : Int32).toNatClampNeg))) ∧ (¬ x1 = 4 → ((x1 = 5 → (vp_in 7 3320 ∧ post (f_all (7 : Int32).toNatClampNeg))) ∧ (¬ x1 = 5 → ((x1 = 6 → (vp_in 4 3320 ∧ post (f_all (4 : Int32).toNatClampNeg))) ∧ (¬ x1 = 6 → ((x1 = 7 → (vp_in 0 3320 ∧ (vp_in 1 3320 ∧ P_X10_weight 0 0 (f_all (0 : Int32).toNatClampNeg) (f_all (1 : Int32).toNatClampNeg) f_all (fun r_2 => post r_2)))) ∧ (¬ x1 = 7 → ((x1 = 8 → (vp_in 2 3320 ∧ post (f_all (2 : Int32).toNatClampNeg))) ∧ (¬ x1 = 8 → ((x1 = 9 → (vp_in 3 3320 ∧ post (f_all (3 : Int32).toNatClampNeg))) ∧ (¬ x1 = 9 → ((x1 = 10 → (vp_in 8 3320 ∧ post (f_all (8 : Int32).toNatClampNeg))) ∧ (¬ x1 = 10 → post (-1)))))))))))))))))))))))
set_option maxRecDepth 100000 in
set_option maxHeartbeats 4000000 in
theorem c_X10_count (l : Launch) (D : va_G) (cI cB cS : ClassId) (a_this a_all a_has a_few a_sawn a_cut a_todo a_press a_gone : Nat) (x1 : Int32) (f_all : Nat → Int32) (post : Int32 → Prop) (hV : P_X10_count x1 f_all post) : Ci l yX10_count cX10_count 2 (some .int) rm_X10_count D cI cB cS [.ref a_this, .int x1] [oc a_this 9 [.ref a_all, .ref a_has, .ref a_few, .ref a_sawn, .ref a_cut, .ref a_todo, .ref a_press, .ref a_gone], ai cI a_all 3320 f_all] (fun r (_ : Unit) => post r) (fun (_ : Unit) => [oc a_this 9 [.ref a_all, .ref a_has, .ref a_few, .ref a_sawn, .ref a_cut, .ref a_todo, .ref a_press, .ref a_gone], ai cI a_all 3320 f_all]) := by
  refine Ci.of ok_X10_count (Nat.le_of_ble_eq_true rfl) ?_
  intro p e s m args below meth c A Q hx hb hml hown ht hnm hK hP hA hS hret ls hl
  have hown : s.vm.findClass RX10 = some m.cls := hown
  have FX : CallFix p m c cX10_count 2 s args tblG RX10 := ⟨hx, hb, hml, hown, ht⟩
  have hP : PD D A [oc a_this 9 [.ref a_all, .ref a_has, .ref a_few, .ref a_sawn, .ref a_cut, .ref a_todo, .ref a_press, .ref a_gone], ai cI a_all 3320 f_all] s.heap := hP
  have hl : lv_has ls 2 [(0, .ref a_this), (1, .int x1)] := hl
  unfold P_X10_count at hV
  refine lv_iload_n hx hb dX10_count_0 rfl (lv_at hl 1 rfl) ?_
  by_cases h_c0 : x1 = 0
  · have hV := hV.1 h_c0
    refine lv_tableIn (off := 59) (tgt := 60) hx hb dX10_count_1 (by rw [h_c0]; decide) (by rw [h_c0]; decide) (by rw [h_c0]; rfl) (by decide) ?_
    refine lv_aload_n hx hb dX10_count_60 rfl (lv_at hl 0 rfl) ?_
    refine gX10 hx hb ht hown hK hP 0 rfl 0 (by decide) fl_X10_7 (fun _ h => h) rfl dX10_count_61 ?_
    refine lv_iconst (v := 0) hx hb dX10_count_64 (by decide) ?_
    refine ild hx hb hK hP 1 rfl dX10_count_65 hV.1 ?_
    have hV := hV.2
    exact hret _ _ _ _ _ () hS dX10_count_66 hP hV
  · have hV := hV.2 h_c0
    have h_c0 : ¬ x1 = nI 0 := h_c0
    by_cases h_c1 : x1 = 1
    · have hV := hV.1 h_c1
      refine lv_tableIn (off := 66) (tgt := 67) hx hb dX10_count_1 (by rw [h_c1]; decide) (by rw [h_c1]; decide) (by rw [h_c1]; rfl) (by decide) ?_
      refine lv_aload_n hx hb dX10_count_67 rfl (lv_at hl 0 rfl) ?_
      refine gX10 hx hb ht hown hK hP 0 rfl 0 (by decide) fl_X10_7 (fun _ h => h) rfl dX10_count_68 ?_
      refine lv_iconst (v := 1) hx hb dX10_count_71 (by decide) ?_
      refine ild hx hb hK hP 1 rfl dX10_count_72 hV.1 ?_
      have hV := hV.2
      exact hret _ _ _ _ _ () hS dX10_count_73 hP hV
    · have hV := hV.2 h_c1
      have h_c1 : ¬ x1 = nI 1 := h_c1
      by_cases h_c2 : x1 = 2
      · have hV := hV.1 h_c2
        refine lv_tableIn (off := 73) (tgt := 74) hx hb dX10_count_1 (by rw [h_c2]; decide) (by rw [h_c2]; decide) (by rw [h_c2]; rfl) (by decide) ?_
        refine lv_aload_n hx hb dX10_count_74 rfl (lv_at hl 0 rfl) ?_
        refine gX10 hx hb ht hown hK hP 0 rfl 0 (by decide) fl_X10_7 (fun _ h => h) rfl dX10_count_75 ?_
        refine lv_iconst (v := 5) hx hb dX10_count_78 (by decide) ?_
        refine ild hx hb hK hP 1 rfl dX10_count_79 hV.1 ?_
        have hV := hV.2
        exact hret _ _ _ _ _ () hS dX10_count_80 hP hV
      · have hV := hV.2 h_c2
        have h_c2 : ¬ x1 = nI 2 := h_c2
        by_cases h_c3 : x1 = 3
        · have hV := hV.1 h_c3
          refine lv_tableIn (off := 80) (tgt := 81) hx hb dX10_count_1 (by rw [h_c3]; decide) (by rw [h_c3]; decide) (by rw [h_c3]; rfl) (by decide) ?_
          refine lv_aload_n hx hb dX10_count_81 rfl (lv_at hl 0 rfl) ?_
          refine KVi (As := []) (rest := []) FX (c_X10_taken l D cI cB cS a_this a_all a_has a_few a_sawn a_cut a_todo a_press a_gone f_all _ hV) ok_X10_taken im_X10_taken se_X10_taken li_X10_109 dX10_count_82 hK hP hS hA [0, 1] [] 0 rfl rfl rfl (by decide) rfl rfl hl.1 (Nat.le_of_ble_eq_true rfl) ⟨Nat.le_of_ble_eq_true rfl, Nat.le_of_ble_eq_true rfl⟩ ⟨Nat.le_of_ble_eq_true rfl, Nat.le_of_ble_eq_true rfl⟩ (fun r_1 _ H locs hV hP hS => ?_)
          have hP : PD D A [oc a_this 9 [.ref a_all, .ref a_has, .ref a_few, .ref a_sawn, .ref a_cut, .ref a_todo, .ref a_press, .ref a_gone], ai cI a_all 3320 f_all] H := hP
          exact hret _ _ _ _ _ () hS dX10_count_85 hP hV
        · have hV := hV.2 h_c3
          have h_c3 : ¬ x1 = nI 3 := h_c3
          by_cases h_c4 : x1 = 4
          · have hV := hV.1 h_c4
            refine lv_tableIn (off := 85) (tgt := 86) hx hb dX10_count_1 (by rw [h_c4]; decide) (by rw [h_c4]; decide) (by rw [h_c4]; rfl) (by decide) ?_
            refine lv_aload_n hx hb dX10_count_86 rfl (lv_at hl 0 rfl) ?_
            refine gX10 hx hb ht hown hK hP 0 rfl 0 (by decide) fl_X10_7 (fun _ h => h) rfl dX10_count_87 ?_
            refine lv_bipush (v := 6) hx hb dX10_count_90 (by decide) ?_
            refine ild hx hb hK hP 1 rfl dX10_count_92 hV.1 ?_
            have hV := hV.2
            exact hret _ _ _ _ _ () hS dX10_count_93 hP hV
          · have hV := hV.2 h_c4
            have h_c4 : ¬ x1 = nI 4 := h_c4
            by_cases h_c5 : x1 = 5
            · have hV := hV.1 h_c5
              refine lv_tableIn (off := 93) (tgt := 94) hx hb dX10_count_1 (by rw [h_c5]; decide) (by rw [h_c5]; decide) (by rw [h_c5]; rfl) (by decide) ?_
              refine lv_aload_n hx hb dX10_count_94 rfl (lv_at hl 0 rfl) ?_
              refine gX10 hx hb ht hown hK hP 0 rfl 0 (by decide) fl_X10_7 (fun _ h => h) rfl dX10_count_95 ?_
              refine lv_bipush (v := 7) hx hb dX10_count_98 (by decide) ?_
              refine ild hx hb hK hP 1 rfl dX10_count_100 hV.1 ?_
              have hV := hV.2
              exact hret _ _ _ _ _ () hS dX10_count_101 hP hV
            · have hV := hV.2 h_c5
              have h_c5 : ¬ x1 = nI 5 := h_c5
              by_cases h_c6 : x1 = 6
              · have hV := hV.1 h_c6
                refine lv_tableIn (off := 101) (tgt := 102) hx hb dX10_count_1 (by rw [h_c6]; decide) (by rw [h_c6]; decide) (by rw [h_c6]; rfl) (by decide) ?_
                refine lv_aload_n hx hb dX10_count_102 rfl (lv_at hl 0 rfl) ?_
                refine gX10 hx hb ht hown hK hP 0 rfl 0 (by decide) fl_X10_7 (fun _ h => h) rfl dX10_count_103 ?_
                refine lv_iconst (v := 4) hx hb dX10_count_106 (by decide) ?_
                refine ild hx hb hK hP 1 rfl dX10_count_107 hV.1 ?_
                have hV := hV.2
                exact hret _ _ _ _ _ () hS dX10_count_108 hP hV
              · have hV := hV.2 h_c6
                have h_c6 : ¬ x1 = nI 6 := h_c6
                by_cases h_c7 : x1 = 7
                · have hV := hV.1 h_c7
                  refine lv_tableIn (off := 108) (tgt := 109) hx hb dX10_count_1 (by rw [h_c7]; decide) (by rw [h_c7]; decide) (by rw [h_c7]; rfl) (by decide) ?_
                  refine lv_aload_n hx hb dX10_count_109 rfl (lv_at hl 0 rfl) ?_
                  refine lv_iconst (v := 0) hx hb dX10_count_110 (by decide) ?_
                  refine lv_iconst (v := 0) hx hb dX10_count_111 (by decide) ?_
                  refine lv_aload_n hx hb dX10_count_112 rfl (lv_at hl 0 rfl) ?_
                  refine gX10 hx hb ht hown hK hP 0 rfl 0 (by decide) fl_X10_7 (fun _ h => h) rfl dX10_count_113 ?_
                  refine lv_iconst (v := 0) hx hb dX10_count_116 (by decide) ?_
                  refine ild hx hb hK hP 1 rfl dX10_count_117 hV.1 ?_
                  have hV := hV.2
                  refine lv_aload_n hx hb dX10_count_118 rfl (lv_at hl 0 rfl) ?_
                  refine gX10 hx hb ht hown hK hP 0 rfl 0 (by decide) fl_X10_7 (fun _ h => h) rfl dX10_count_119 ?_
                  refine lv_iconst (v := 1) hx hb dX10_count_122 (by decide) ?_
                  refine ild hx hb hK hP 1 rfl dX10_count_123 hV.1 ?_
                  have hV := hV.2
                  refine KVi (As := [.int 0, .int 0, .int (f_all (0 : Int32).toNatClampNeg), .int (f_all (1 : Int32).toNatClampNeg)]) (rest := []) FX (c_X10_weight l D cI cB cS a_this a_all a_has a_few a_sawn a_cut a_todo a_press a_gone 0 0 (f_all (0 : Int32).toNatClampNeg) (f_all (1 : Int32).toNatClampNeg) f_all _ hV) ok_X10_weight im_X10_weight se_X10_weight li_X10_57 dX10_count_124 hK hP hS hA [0, 1] [] 0 rfl rfl rfl (by decide) rfl rfl hl.1 (Nat.le_of_ble_eq_true rfl) ⟨Nat.le_of_ble_eq_true rfl, Nat.le_of_ble_eq_true rfl⟩ ⟨Nat.le_of_ble_eq_true rfl, Nat.le_of_ble_eq_true rfl⟩ (fun r_2 _ H locs hV hP hS => ?_)
                  have hP : PD D A [oc a_this 9 [.ref a_all, .ref a_has, .ref a_few, .ref a_sawn, .ref a_cut, .ref a_todo, .ref a_press, .ref a_gone], ai cI a_all 3320 f_all] H := hP
                  exact hret _ _ _ _ _ () hS dX10_count_127 hP hV
                · have hV := hV.2 h_c7
                  have h_c7 : ¬ x1 = nI 7 := h_c7
                  by_cases h_c8 : x1 = 8
                  · have hV := hV.1 h_c8
                    refine lv_tableIn (off := 127) (tgt := 128) hx hb dX10_count_1 (by rw [h_c8]; decide) (by rw [h_c8]; decide) (by rw [h_c8]; rfl) (by decide) ?_
                    refine lv_aload_n hx hb dX10_count_128 rfl (lv_at hl 0 rfl) ?_
                    refine gX10 hx hb ht hown hK hP 0 rfl 0 (by decide) fl_X10_7 (fun _ h => h) rfl dX10_count_129 ?_
                    refine lv_iconst (v := 2) hx hb dX10_count_132 (by decide) ?_
                    refine ild hx hb hK hP 1 rfl dX10_count_133 hV.1 ?_
                    have hV := hV.2
                    exact hret _ _ _ _ _ () hS dX10_count_134 hP hV
                  · have hV := hV.2 h_c8
                    have h_c8 : ¬ x1 = nI 8 := h_c8
                    by_cases h_c9 : x1 = 9
                    · have hV := hV.1 h_c9
                      refine lv_tableIn (off := 134) (tgt := 135) hx hb dX10_count_1 (by rw [h_c9]; decide) (by rw [h_c9]; decide) (by rw [h_c9]; rfl) (by decide) ?_
                      refine lv_aload_n hx hb dX10_count_135 rfl (lv_at hl 0 rfl) ?_
                      refine gX10 hx hb ht hown hK hP 0 rfl 0 (by decide) fl_X10_7 (fun _ h => h) rfl dX10_count_136 ?_
                      refine lv_iconst (v := 3) hx hb dX10_count_139 (by decide) ?_
                      refine ild hx hb hK hP 1 rfl dX10_count_140 hV.1 ?_
                      have hV := hV.2
                      exact hret _ _ _ _ _ () hS dX10_count_141 hP hV
                    · have hV := hV.2 h_c9
                      have h_c9 : ¬ x1 = nI 9 := h_c9
                      by_cases h_c10 : x1 = 10
                      · have hV := hV.1 h_c10
                        refine lv_tableIn (off := 141) (tgt := 142) hx hb dX10_count_1 (by rw [h_c10]; decide) (by rw [h_c10]; decide) (by rw [h_c10]; rfl) (by decide) ?_
                        refine lv_aload_n hx hb dX10_count_142 rfl (lv_at hl 0 rfl) ?_
                        refine gX10 hx hb ht hown hK hP 0 rfl 0 (by decide) fl_X10_7 (fun _ h => h) rfl dX10_count_143 ?_
                        refine lv_bipush (v := 8) hx hb dX10_count_146 (by decide) ?_
                        refine ild hx hb hK hP 1 rfl dX10_count_148 hV.1 ?_
                        have hV := hV.2
                        exact hret _ _ _ _ _ () hS dX10_count_149 hP hV
                      · have hV := hV.2 h_c10
                        have h_c10 : ¬ x1 = nI 10 := h_c10
                        refine lv_tableOut (tgt := 150) hx hb dX10_count_1 (sw_out x1 10 (by decide) (fun k hk => by rcases (show k = 0 ∨ k = 1 ∨ k = 2 ∨ k = 3 ∨ k = 4 ∨ k = 5 ∨ k = 6 ∨ k = 7 ∨ k = 8 ∨ k = 9 ∨ k = 10 by omega) with rfl | rfl | rfl | rfl | rfl | rfl | rfl | rfl | rfl | rfl | rfl <;> assumption)) (by decide) ?_
                        refine lv_iconst (v := (-1)) hx hb dX10_count_150 (by decide) ?_
                        exact hret _ _ _ _ _ () hS dX10_count_151 hP hV

def rm_X10_image : Room := { frames := 1, cells := 0, slots := 0, locals := 22 }
def V_X10_image_20 (x1 : Int32) (f_has : Nat → Int32) (post : Int32 → (Nat → Int32) → (Nat → Int32) → Prop) : Nat → Int32 → (Nat → Int32) → Prop
  | 0, _, _ => False
  | n + 1, v2, f_all => ((830 ≤ v2 → post 1 f_all f_has) ∧ (¬ 830 ≤ v2 → (vp_in v2 3320 ∧ (vp_in ((830 * (x1 + 1)) + v2) 3320 ∧ ∀ f_all_1 : Nat → Int32, f_all_1 = upd f_all ((830 * (x1 + 1)) + v2).toNatClampNeg (f_all v2.toNatClampNeg) → (∀ v2_2 : Int32, v2_2 = (v2 + 1) → V_X10_image_20 x1 f_has post n v2_2 f_all_1)))))
theorem V_X10_image_20_s (x1 : Int32) (f_has : Nat → Int32) (post : Int32 → (Nat → Int32) → (Nat → Int32) → Prop) (n : Nat) (v2 : Int32) (f_all : Nat → Int32) : V_X10_image_20 x1 f_has post (n + 1) v2 f_all = (((830 ≤ v2 → post 1 f_all f_has) ∧ (¬ 830 ≤ v2 → (vp_in v2 3320 ∧ (vp_in ((830 * (x1 + 1)) + v2) 3320 ∧ ∀ f_all_1 : Nat → Int32, f_all_1 = upd f_all ((830 * (x1 + 1)) + v2).toNatClampNeg (f_all v2.toNatClampNeg) → (∀ v2_2 : Int32, v2_2 = (v2 + 1) → V_X10_image_20 x1 f_has post n v2_2 f_all_1)))))) := rfl
def P_X10_image (x1 : Int32) (f_all : Nat → Int32) (f_has : Nat → Int32) (post : Int32 → (Nat → Int32) → (Nat → Int32) → Prop) : Prop := P_X10_isIn x1 0 2 (fun r_3 => ((r_3 = 0 → post 0 f_all f_has) ∧ (¬ r_3 = 0 → (vp_in x1 3 ∧ ∀ f_has_4 : Nat → Int32, f_has_4 = upd f_has x1.toNatClampNeg 1 → (∃ k : Nat, V_X10_image_20 x1 f_has_4 post k 0 f_all)))))
set_option maxRecDepth 100000 in
set_option maxHeartbeats 4000000 in
theorem c_X10_image (l : Launch) (D : va_G) (cI cB cS : ClassId) (a_this a_all a_has a_few a_sawn a_cut a_todo a_press a_gone : Nat) (x1 : Int32) (f_all : Nat → Int32) (f_has : Nat → Int32) (post : Int32 → (Nat → Int32) → (Nat → Int32) → Prop) (hV : P_X10_image x1 f_all f_has post) : Ci l yX10_image cX10_image 3 (some .boolean) rm_X10_image D cI cB cS [.ref a_this, .int x1] [oc a_this 9 [.ref a_all, .ref a_has, .ref a_few, .ref a_sawn, .ref a_cut, .ref a_todo, .ref a_press, .ref a_gone], ai cI a_all 3320 f_all, ai cB a_has 3 f_has] (fun r (u : (Nat → Int32) × (Nat → Int32)) => post r u.1 u.2) (fun (u : (Nat → Int32) × (Nat → Int32)) => [oc a_this 9 [.ref a_all, .ref a_has, .ref a_few, .ref a_sawn, .ref a_cut, .ref a_todo, .ref a_press, .ref a_gone], ai cI a_all 3320 (u.1), ai cB a_has 3 (u.2)]) := by
  refine Cz.of ok_X10_image (Nat.le_of_ble_eq_true rfl) ?_
  intro p e s m args below meth c A Q hx hb hml hown ht hnm hK hP hA hS hret ls hl
  have hown : s.vm.findClass RX10 = some m.cls := hown
  have FX : CallFix p m c cX10_image 3 s args tblG RX10 := ⟨hx, hb, hml, hown, ht⟩
  have hP : PD D A [oc a_this 9 [.ref a_all, .ref a_has, .ref a_few, .ref a_sawn, .ref a_cut, .ref a_todo, .ref a_press, .ref a_gone], ai cI a_all 3320 f_all, ai cB a_has 3 f_has] s.heap := hP
  have hl : lv_has ls 3 [(0, .ref a_this), (1, .int x1)] := hl
  unfold P_X10_image at hV
  have b20 : ∀ (f_has : Nat → Int32) (k20 : Nat) (v2 : Int32) (f_all : Nat → Int32) (H : Heap) (locs : List Loc) (ls : Array Slot), PD D A [oc a_this 9 [.ref a_all, .ref a_has, .ref a_few, .ref a_sawn, .ref a_cut, .ref a_todo, .ref a_press, .ref a_gone], ai cI a_all 3320 f_all, ai cB a_has 3 f_has] H → va_S A s.heap H locs → lv_has ls 3 [(0, .ref a_this), (1, .int x1), (2, .int v2)] → V_X10_image_20 x1 f_has post k20 v2 f_all → W p l e rm_X10_image s m args below meth c H locs 0 0 Q (F0 m 20 ls []) := by
    intro f_has k20
    induction k20 with
    | zero => intro v2 f_all H locs ls hP hS hl hV; exact False.elim hV
    | succ k20 ih20 =>
      intro v2 f_all H locs ls hP hS hl hV
      rw [V_X10_image_20_s] at hV
      refine lv_iload_n hx hb dX10_image_20 rfl (lv_at hl 2 rfl) ?_
      refine lv_sipush (v := 830) hx hb dX10_image_21 (by decide) ?_
      refine lv_icmp_ge (tgt := 53) hx hb dX10_image_24 (by decide) (fun h => ?_) (fun h => ?_)
      · have hV := hV.1 h
        refine lv_iconst (v := 1) hx hb dX10_image_53 (by decide) ?_
        exact hret _ _ _ _ _ (f_all, f_has) hS dX10_image_54 hP (by decide) hV
      · have hV := hV.2 h
        refine lv_aload_n hx hb dX10_image_27 rfl (lv_at hl 0 rfl) ?_
        refine gX10 hx hb ht hown hK hP 0 rfl 0 (by decide) fl_X10_7 (fun _ h => h) rfl dX10_image_28 ?_
        refine lv_sipush (v := 830) hx hb dX10_image_31 (by decide) ?_
        refine lv_iload_n hx hb dX10_image_34 rfl (lv_at hl 1 rfl) ?_
        refine lv_iconst (v := 1) hx hb dX10_image_35 (by decide) ?_
        refine lv_iadd hx hb dX10_image_36 ?_
        refine lv_imul hx hb dX10_image_37 ?_
        refine lv_iload_n hx hb dX10_image_38 rfl (lv_at hl 2 rfl) ?_
        refine lv_iadd hx hb dX10_image_39 ?_
        refine lv_aload_n hx hb dX10_image_40 rfl (lv_at hl 0 rfl) ?_
        refine gX10 hx hb ht hown hK hP 0 rfl 0 (by decide) fl_X10_7 (fun _ h => h) rfl dX10_image_41 ?_
        refine lv_iload_n hx hb dX10_image_44 rfl (lv_at hl 2 rfl) ?_
        refine ild hx hb hK hP 1 rfl dX10_image_45 hV.1 ?_
        have hV := hV.2
        refine ist hx hb hK hP hS 1 rfl dX10_image_46 hV.1 (fun f_all_1 e_f_all_1 H locs hP hS => ?_)
        have hV := hV.2 f_all_1 e_f_all_1
        have hP : PD D A [oc a_this 9 [.ref a_all, .ref a_has, .ref a_few, .ref a_sawn, .ref a_cut, .ref a_todo, .ref a_press, .ref a_gone], ai cI a_all 3320 f_all_1, ai cB a_has 3 f_has] H := hP
        obtain ⟨v2_2, e_v2_2⟩ : ∃ y : Int32, y = (v2 + 1) := ⟨_, rfl⟩
        have hV := hV v2_2 e_v2_2
        refine lv_iinc (v := v2_2) (lv' := [(2, .int v2_2), (0, .ref a_this), (1, .int x1)]) hx hb dX10_image_47 hl (k := 2) rfl (by rw [e_v2_2]; rfl) (by decide) rfl (fun ls hl => ?_)
        refine lv_goto (tgt := 20) hx hb dX10_image_50 (by decide) ?_
        exact ih20 v2_2 f_all_1 _ _ _ hP hS (lv_sub hl [1, 2, 0] rfl) hV
  refine lv_iload_n hx hb dX10_image_0 rfl (lv_at hl 1 rfl) ?_
  refine lv_iconst (v := 0) hx hb dX10_image_1 (by decide) ?_
  refine lv_iconst (v := 2) hx hb dX10_image_2 (by decide) ?_
  refine KSi (As := [.int x1, .int 0, .int 2]) (rest := []) FX (c_X10_isIn l D cI cB cS x1 0 2 _ hV) ok_X10_isIn is_X10_isIn li_X10_42 dX10_image_3 hK hP hS hA [] [0, 1, 2] rfl rfl (by decide) rfl hl.1 (Nat.le_of_ble_eq_true rfl) ⟨Nat.le_of_ble_eq_true rfl, Nat.le_of_ble_eq_true rfl⟩ ⟨Nat.le_of_ble_eq_true rfl, Nat.le_of_ble_eq_true rfl⟩ (fun r_3 _ H locs hV hP hS => ?_)
  have hP : PD D A [oc a_this 9 [.ref a_all, .ref a_has, .ref a_few, .ref a_sawn, .ref a_cut, .ref a_todo, .ref a_press, .ref a_gone], ai cI a_all 3320 f_all, ai cB a_has 3 f_has] H := hP
  refine lv_if_ne (tgt := 11) hx hb dX10_image_6 (by decide) (fun h => ?_) (fun h => ?_)
  · have hV := hV.2 h
    refine lv_aload_n hx hb dX10_image_11 rfl (lv_at hl 0 rfl) ?_
    refine gX10 hx hb ht hown hK hP 0 rfl 1 (by decide) fl_X10_13 (fun _ h => h) rfl dX10_image_12 ?_
    refine lv_iload_n hx hb dX10_image_15 rfl (lv_at hl 1 rfl) ?_
    refine lv_iconst (v := 1) hx hb dX10_image_16 (by decide) ?_
    refine zst hx hb hK hP hS 2 rfl dX10_image_17 hV.1 (by decide) (fun f_has_4 e_f_has_4 H locs hP hS => ?_)
    have hV := hV.2 f_has_4 e_f_has_4
    have hP : PD D A [oc a_this 9 [.ref a_all, .ref a_has, .ref a_few, .ref a_sawn, .ref a_cut, .ref a_todo, .ref a_press, .ref a_gone], ai cI a_all 3320 f_all, ai cB a_has 3 f_has_4] H := hP
    refine lv_iconst (v := 0) hx hb dX10_image_18 (by decide) ?_
    refine lv_istore_n (lv' := [(2, .int 0), (0, .ref a_this), (1, .int x1)]) hx hb dX10_image_19 rfl hl (by decide) rfl (fun ls hl => ?_)
    obtain ⟨k, hV⟩ := hV
    exact b20 f_has_4 k 0 f_all _ _ _ hP hS (lv_sub hl [1, 2, 0] rfl) hV
  · have hV := hV.1 h
    refine lv_iconst (v := 0) hx hb dX10_image_9 (by decide) ?_
    exact hret _ _ _ _ _ (f_all, f_has) hS dX10_image_10 hP (by decide) hV

def rm_X10_again : Room := { frames := 1, cells := 0, slots := 0, locals := 22 }
def V_X10_again_22 (x1 : Int32) (post : Int32 → (Nat → Int32) → Prop) : Nat → Int32 → (Nat → Int32) → Prop
  | 0, _, _ => False
  | n + 1, v2, f_all => ((830 ≤ v2 → post 1 f_all) ∧ (¬ 830 ≤ v2 → (vp_in ((830 * (x1 + 1)) + v2) 3320 ∧ (vp_in v2 3320 ∧ ∀ f_all_1 : Nat → Int32, f_all_1 = upd f_all v2.toNatClampNeg (f_all ((830 * (x1 + 1)) + v2).toNatClampNeg) → (∀ v2_2 : Int32, v2_2 = (v2 + 1) → V_X10_again_22 x1 post n v2_2 f_all_1)))))
theorem V_X10_again_22_s (x1 : Int32) (post : Int32 → (Nat → Int32) → Prop) (n : Nat) (v2 : Int32) (f_all : Nat → Int32) : V_X10_again_22 x1 post (n + 1) v2 f_all = (((830 ≤ v2 → post 1 f_all) ∧ (¬ 830 ≤ v2 → (vp_in ((830 * (x1 + 1)) + v2) 3320 ∧ (vp_in v2 3320 ∧ ∀ f_all_1 : Nat → Int32, f_all_1 = upd f_all v2.toNatClampNeg (f_all ((830 * (x1 + 1)) + v2).toNatClampNeg) → (∀ v2_2 : Int32, v2_2 = (v2 + 1) → V_X10_again_22 x1 post n v2_2 f_all_1)))))) := rfl
def P_X10_again (x1 : Int32) (f_all : Nat → Int32) (f_has : Nat → Int32) (post : Int32 → (Nat → Int32) → Prop) : Prop := P_X10_isIn x1 0 2 (fun r_3 => ((r_3 = 0 → post 0 f_all) ∧ (¬ r_3 = 0 → (vp_in x1 3 ∧ (((f_has x1.toNatClampNeg) = 0 → post 0 f_all) ∧ (¬ (f_has x1.toNatClampNeg) = 0 → (∃ k : Nat, V_X10_again_22 x1 post k 0 f_all)))))))
set_option maxRecDepth 100000 in
set_option maxHeartbeats 4000000 in
theorem c_X10_again (l : Launch) (D : va_G) (cI cB cS : ClassId) (a_this a_all a_has a_few a_sawn a_cut a_todo a_press a_gone : Nat) (x1 : Int32) (f_all : Nat → Int32) (f_has : Nat → Int32) (post : Int32 → (Nat → Int32) → Prop) (hV : P_X10_again x1 f_all f_has post) : Ci l yX10_again cX10_again 3 (some .boolean) rm_X10_again D cI cB cS [.ref a_this, .int x1] [oc a_this 9 [.ref a_all, .ref a_has, .ref a_few, .ref a_sawn, .ref a_cut, .ref a_todo, .ref a_press, .ref a_gone], ai cI a_all 3320 f_all, ai cB a_has 3 f_has] (fun r (u : (Nat → Int32)) => post r u) (fun (u : (Nat → Int32)) => [oc a_this 9 [.ref a_all, .ref a_has, .ref a_few, .ref a_sawn, .ref a_cut, .ref a_todo, .ref a_press, .ref a_gone], ai cI a_all 3320 u, ai cB a_has 3 f_has]) := by
  refine Cz.of ok_X10_again (Nat.le_of_ble_eq_true rfl) ?_
  intro p e s m args below meth c A Q hx hb hml hown ht hnm hK hP hA hS hret ls hl
  have hown : s.vm.findClass RX10 = some m.cls := hown
  have FX : CallFix p m c cX10_again 3 s args tblG RX10 := ⟨hx, hb, hml, hown, ht⟩
  have hP : PD D A [oc a_this 9 [.ref a_all, .ref a_has, .ref a_few, .ref a_sawn, .ref a_cut, .ref a_todo, .ref a_press, .ref a_gone], ai cI a_all 3320 f_all, ai cB a_has 3 f_has] s.heap := hP
  have hl : lv_has ls 3 [(0, .ref a_this), (1, .int x1)] := hl
  unfold P_X10_again at hV
  have b22 : ∀  (k22 : Nat) (v2 : Int32) (f_all : Nat → Int32) (H : Heap) (locs : List Loc) (ls : Array Slot), PD D A [oc a_this 9 [.ref a_all, .ref a_has, .ref a_few, .ref a_sawn, .ref a_cut, .ref a_todo, .ref a_press, .ref a_gone], ai cI a_all 3320 f_all, ai cB a_has 3 f_has] H → va_S A s.heap H locs → lv_has ls 3 [(0, .ref a_this), (1, .int x1), (2, .int v2)] → V_X10_again_22 x1 post k22 v2 f_all → W p l e rm_X10_again s m args below meth c H locs 0 0 Q (F0 m 22 ls []) := by
    intro  k22
    induction k22 with
    | zero => intro v2 f_all H locs ls hP hS hl hV; exact False.elim hV
    | succ k22 ih22 =>
      intro v2 f_all H locs ls hP hS hl hV
      rw [V_X10_again_22_s] at hV
      refine lv_iload_n hx hb dX10_again_22 rfl (lv_at hl 2 rfl) ?_
      refine lv_sipush (v := 830) hx hb dX10_again_23 (by decide) ?_
      refine lv_icmp_ge (tgt := 55) hx hb dX10_again_26 (by decide) (fun h => ?_) (fun h => ?_)
      · have hV := hV.1 h
        refine lv_iconst (v := 1) hx hb dX10_again_55 (by decide) ?_
        exact hret _ _ _ _ _ f_all hS dX10_again_56 hP (by decide) hV
      · have hV := hV.2 h
        refine lv_aload_n hx hb dX10_again_29 rfl (lv_at hl 0 rfl) ?_
        refine gX10 hx hb ht hown hK hP 0 rfl 0 (by decide) fl_X10_7 (fun _ h => h) rfl dX10_again_30 ?_
        refine lv_iload_n hx hb dX10_again_33 rfl (lv_at hl 2 rfl) ?_
        refine lv_aload_n hx hb dX10_again_34 rfl (lv_at hl 0 rfl) ?_
        refine gX10 hx hb ht hown hK hP 0 rfl 0 (by decide) fl_X10_7 (fun _ h => h) rfl dX10_again_35 ?_
        refine lv_sipush (v := 830) hx hb dX10_again_38 (by decide) ?_
        refine lv_iload_n hx hb dX10_again_41 rfl (lv_at hl 1 rfl) ?_
        refine lv_iconst (v := 1) hx hb dX10_again_42 (by decide) ?_
        refine lv_iadd hx hb dX10_again_43 ?_
        refine lv_imul hx hb dX10_again_44 ?_
        refine lv_iload_n hx hb dX10_again_45 rfl (lv_at hl 2 rfl) ?_
        refine lv_iadd hx hb dX10_again_46 ?_
        refine ild hx hb hK hP 1 rfl dX10_again_47 hV.1 ?_
        have hV := hV.2
        refine ist hx hb hK hP hS 1 rfl dX10_again_48 hV.1 (fun f_all_1 e_f_all_1 H locs hP hS => ?_)
        have hV := hV.2 f_all_1 e_f_all_1
        have hP : PD D A [oc a_this 9 [.ref a_all, .ref a_has, .ref a_few, .ref a_sawn, .ref a_cut, .ref a_todo, .ref a_press, .ref a_gone], ai cI a_all 3320 f_all_1, ai cB a_has 3 f_has] H := hP
        obtain ⟨v2_2, e_v2_2⟩ : ∃ y : Int32, y = (v2 + 1) := ⟨_, rfl⟩
        have hV := hV v2_2 e_v2_2
        refine lv_iinc (v := v2_2) (lv' := [(2, .int v2_2), (0, .ref a_this), (1, .int x1)]) hx hb dX10_again_49 hl (k := 2) rfl (by rw [e_v2_2]; rfl) (by decide) rfl (fun ls hl => ?_)
        refine lv_goto (tgt := 22) hx hb dX10_again_52 (by decide) ?_
        exact ih22 v2_2 f_all_1 _ _ _ hP hS (lv_sub hl [1, 2, 0] rfl) hV
  refine lv_iload_n hx hb dX10_again_0 rfl (lv_at hl 1 rfl) ?_
  refine lv_iconst (v := 0) hx hb dX10_again_1 (by decide) ?_
  refine lv_iconst (v := 2) hx hb dX10_again_2 (by decide) ?_
  refine KSi (As := [.int x1, .int 0, .int 2]) (rest := []) FX (c_X10_isIn l D cI cB cS x1 0 2 _ hV) ok_X10_isIn is_X10_isIn li_X10_42 dX10_again_3 hK hP hS hA [] [0, 1, 2] rfl rfl (by decide) rfl hl.1 (Nat.le_of_ble_eq_true rfl) ⟨Nat.le_of_ble_eq_true rfl, Nat.le_of_ble_eq_true rfl⟩ ⟨Nat.le_of_ble_eq_true rfl, Nat.le_of_ble_eq_true rfl⟩ (fun r_3 _ H locs hV hP hS => ?_)
  have hP : PD D A [oc a_this 9 [.ref a_all, .ref a_has, .ref a_few, .ref a_sawn, .ref a_cut, .ref a_todo, .ref a_press, .ref a_gone], ai cI a_all 3320 f_all, ai cB a_has 3 f_has] H := hP
  refine lv_if_eq (tgt := 18) hx hb dX10_again_6 (by decide) (fun h => ?_) (fun h => ?_)
  · have hV := hV.1 h
    refine lv_iconst (v := 0) hx hb dX10_again_18 (by decide) ?_
    exact hret _ _ _ _ _ f_all hS dX10_again_19 hP (by decide) hV
  · have hV := hV.2 h
    refine lv_aload_n hx hb dX10_again_9 rfl (lv_at hl 0 rfl) ?_
    refine gX10 hx hb ht hown hK hP 0 rfl 1 (by decide) fl_X10_13 (fun _ h => h) rfl dX10_again_10 ?_
    refine lv_iload_n hx hb dX10_again_13 rfl (lv_at hl 1 rfl) ?_
    refine zld hx hb hK hP 2 rfl dX10_again_14 hV.1 ?_
    have hV := hV.2
    refine lv_if_ne (tgt := 20) hx hb dX10_again_15 (by decide) (fun h => ?_) (fun h => ?_)
    · have hV := hV.2 h
      refine lv_iconst (v := 0) hx hb dX10_again_20 (by decide) ?_
      refine lv_istore_n (lv' := [(2, .int 0), (0, .ref a_this), (1, .int x1)]) hx hb dX10_again_21 rfl hl (by decide) rfl (fun ls hl => ?_)
      obtain ⟨k, hV⟩ := hV
      exact b22 k 0 f_all _ _ _ hP hS (lv_sub hl [1, 2, 0] rfl) hV
    · have hV := hV.1 h
      refine lv_iconst (v := 0) hx hb dX10_again_18 (by decide) ?_
      exact hret _ _ _ _ _ f_all hS dX10_again_19 hP (by decide) hV
