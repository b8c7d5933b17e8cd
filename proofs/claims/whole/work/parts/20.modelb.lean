def rm_X10_mayUpright : Room := { frames := 1, cells := 0, slots := 0, locals := 22 }
def V_X10_mayUpright_6 (x1 : Int32) (x2 : Int32) (x3 : Int32) (x4 : Int32) (f_all : Nat → Int32) (post : Int32 → Prop) : Nat → Int32 → Int32 → Prop
  | 0, _, _ => False
  | n + 1, v5, v6 => (((x2 + x3) ≤ v6 → ((v5 = 0 ∨ v5 = 1) ∧ post v5)) ∧ (¬ (x2 + x3) ≤ v6 → ((v5 = 0 → (∀ v6_1 : Int32, v6_1 = (v6 + 1) → V_X10_mayUpright_6 x1 x2 x3 x4 f_all post n 0 v6_1)) ∧ (¬ v5 = 0 → P_X10_isOne ((((8 * v6) + x1) + x4) - 1) (((8 * v6) + x1) + x4) f_all (fun r_2 => ((r_2 = 0 → (∀ v6_4 : Int32, v6_4 = (v6 + 1) → V_X10_mayUpright_6 x1 x2 x3 x4 f_all post n 1 v6_4)) ∧ (¬ r_2 = 0 → (∀ v6_3 : Int32, v6_3 = (v6 + 1) → V_X10_mayUpright_6 x1 x2 x3 x4 f_all post n 0 v6_3))))))))
theorem V_X10_mayUpright_6_s (x1 : Int32) (x2 : Int32) (x3 : Int32) (x4 : Int32) (f_all : Nat → Int32) (post : Int32 → Prop) (n : Nat) (v5 : Int32) (v6 : Int32) : V_X10_mayUpright_6 x1 x2 x3 x4 f_all post (n + 1) v5 v6 = ((((x2 + x3) ≤ v6 → ((v5 = 0 ∨ v5 = 1) ∧ post v5)) ∧ (¬ (x2 + x3) ≤ v6 → ((v5 = 0 → (∀ v6_1 : Int32, v6_1 = (v6 + 1) → V_X10_mayUpright_6 x1 x2 x3 x4 f_all post n 0 v6_1)) ∧ (¬ v5 = 0 → P_X10_isOne ((((8 * v6) + x1) + x4) - 1) (((8 * v6) + x1) + x4) f_all (fun r_2 => ((r_2 = 0 → (∀ v6_4 : Int32, v6_4 = (v6 + 1) → V_X10_mayUpright_6 x1 x2 x3 x4 f_all post n 1 v6_4)) ∧ (¬ r_2 = 0 → (∀ v6_3 : Int32, v6_3 = (v6 + 1) → V_X10_mayUpright_6 x1 x2 x3 x4 f_all post n 0 v6_3))))))))) := rfl
def P_X10_mayUpright (x1 : Int32) (x2 : Int32) (x3 : Int32) (x4 : Int32) (f_all : Nat → Int32) (post : Int32 → Prop) : Prop := (∃ k : Nat, V_X10_mayUpright_6 x1 x2 x3 x4 f_all post k 1 x2)
set_option maxRecDepth 100000 in
set_option maxHeartbeats 4000000 in
theorem c_X10_mayUpright (l : Launch) (D : va_G) (cI cB cS : ClassId) (a_this a_all a_has a_few a_sawn a_cut a_todo a_press a_gone : Nat) (x1 : Int32) (x2 : Int32) (x3 : Int32) (x4 : Int32) (f_all : Nat → Int32) (post : Int32 → Prop) (hV : P_X10_mayUpright x1 x2 x3 x4 f_all post) : Ci l yX10_mayUpright cX10_mayUpright 7 (some .boolean) rm_X10_mayUpright D cI cB cS [.ref a_this, .int x1, .int x2, .int x3, .int x4] [oc a_this 9 [.ref a_all, .ref a_has, .ref a_few, .ref a_sawn, .ref a_cut, .ref a_todo, .ref a_press, .ref a_gone], ai cI a_all 3320 f_all] (fun r (_ : Unit) => post r) (fun (_ : Unit) => [oc a_this 9 [.ref a_all, .ref a_has, .ref a_few, .ref a_sawn, .ref a_cut, .ref a_todo, .ref a_press, .ref a_gone], ai cI a_all 3320 f_all]) := by
  refine Cz.of ok_X10_mayUpright (Nat.le_of_ble_eq_true rfl) ?_
  intro p e s m args below meth c A Q hx hb hml hown ht hnm hK hP hA hS hret ls hl
  have hown : s.vm.findClass RX10 = some m.cls := hown
  have FX : CallFix p m c cX10_mayUpright 7 s args tblG RX10 := ⟨hx, hb, hml, hown, ht⟩
  have hP : PD D A [oc a_this 9 [.ref a_all, .ref a_has, .ref a_few, .ref a_sawn, .ref a_cut, .ref a_todo, .ref a_press, .ref a_gone], ai cI a_all 3320 f_all] s.heap := hP
  have hl : lv_has ls 7 [(0, .ref a_this), (1, .int x1), (2, .int x2), (3, .int x3), (4, .int x4)] := hl
  unfold P_X10_mayUpright at hV
  have b6 : ∀  (k6 : Nat) (v5 : Int32) (v6 : Int32) (H : Heap) (locs : List Loc) (ls : Array Slot), PD D A [oc a_this 9 [.ref a_all, .ref a_has, .ref a_few, .ref a_sawn, .ref a_cut, .ref a_todo, .ref a_press, .ref a_gone], ai cI a_all 3320 f_all] H → va_S A s.heap H locs → lv_has ls 7 [(0, .ref a_this), (1, .int x1), (2, .int x2), (3, .int x3), (4, .int x4), (5, .int v5), (6, .int v6)] → V_X10_mayUpright_6 x1 x2 x3 x4 f_all post k6 v5 v6 → W p l e rm_X10_mayUpright s m args below meth c H locs 0 0 Q (F0 m 6 ls []) := by
    intro  k6
    induction k6 with
    | zero => intro v5 v6 H locs ls hP hS hl hV; exact False.elim hV
    | succ k6 ih6 =>
      intro v5 v6 H locs ls hP hS hl hV
      rw [V_X10_mayUpright_6_s] at hV
      refine lv_iload hx hb dX10_mayUpright_6 (lv_at hl 6 rfl) ?_
      refine lv_iload_n hx hb dX10_mayUpright_8 rfl (lv_at hl 2 rfl) ?_
      refine lv_iload_n hx hb dX10_mayUpright_9 rfl (lv_at hl 3 rfl) ?_
      refine lv_iadd hx hb dX10_mayUpright_10 ?_
      refine lv_icmp_ge (tgt := 61) hx hb dX10_mayUpright_11 (by decide) (fun h => ?_) (fun h => ?_)
      · have hV := hV.1 h
        refine lv_iload hx hb dX10_mayUpright_61 (lv_at hl 5 rfl) ?_
        exact hret _ _ _ _ _ () hS dX10_mayUpright_63 hP hV.1 hV.2
      · have hV := hV.2 h
        refine lv_iload hx hb dX10_mayUpright_14 (lv_at hl 5 rfl) ?_
        refine lv_if_eq (tgt := 52) hx hb dX10_mayUpright_16 (by decide) (fun h => ?_) (fun h => ?_)
        · have hV := hV.1 h
          refine lv_iconst (v := 0) hx hb dX10_mayUpright_52 (by decide) ?_
          refine lv_istore (lv' := [(5, .int 0), (0, .ref a_this), (1, .int x1), (2, .int x2), (3, .int x3), (4, .int x4), (6, .int v6)]) hx hb dX10_mayUpright_53 hl (by decide) rfl (fun ls hl => ?_)
          obtain ⟨v6_1, e_v6_1⟩ : ∃ y : Int32, y = (v6 + 1) := ⟨_, rfl⟩
          have hV := hV v6_1 e_v6_1
          refine lv_iinc (v := v6_1) (lv' := [(6, .int v6_1), (5, .int 0), (0, .ref a_this), (1, .int x1), (2, .int x2), (3, .int x3), (4, .int x4)]) hx hb dX10_mayUpright_55 hl (k := 6) rfl (by rw [e_v6_1]; rfl) (by decide) rfl (fun ls hl => ?_)
          refine lv_goto (tgt := 6) hx hb dX10_mayUpright_58 (by decide) ?_
          exact ih6 0 v6_1 _ _ _ hP hS (lv_sub hl [2, 3, 4, 5, 6, 1, 0] rfl) hV
        · have hV := hV.2 h
          refine lv_aload_n hx hb dX10_mayUpright_19 rfl (lv_at hl 0 rfl) ?_
          refine lv_bipush (v := 8) hx hb dX10_mayUpright_20 (by decide) ?_
          refine lv_iload hx hb dX10_mayUpright_22 (lv_at hl 6 rfl) ?_
          refine lv_imul hx hb dX10_mayUpright_24 ?_
          refine lv_iload_n hx hb dX10_mayUpright_25 rfl (lv_at hl 1 rfl) ?_
          refine lv_iadd hx hb dX10_mayUpright_26 ?_
          refine lv_iload hx hb dX10_mayUpright_27 (lv_at hl 4 rfl) ?_
          refine lv_iadd hx hb dX10_mayUpright_29 ?_
          refine lv_iconst (v := 1) hx hb dX10_mayUpright_30 (by decide) ?_
          refine lv_isub hx hb dX10_mayUpright_31 ?_
          refine lv_bipush (v := 8) hx hb dX10_mayUpright_32 (by decide) ?_
          refine lv_iload hx hb dX10_mayUpright_34 (lv_at hl 6 rfl) ?_
          refine lv_imul hx hb dX10_mayUpright_36 ?_
          refine lv_iload_n hx hb dX10_mayUpright_37 rfl (lv_at hl 1 rfl) ?_
          refine lv_iadd hx hb dX10_mayUpright_38 ?_
          refine lv_iload hx hb dX10_mayUpright_39 (lv_at hl 4 rfl) ?_
          refine lv_iadd hx hb dX10_mayUpright_41 ?_
          refine KVi (As := [.int ((((8 * v6) + x1) + x4) - 1), .int (((8 * v6) + x1) + x4)]) (rest := []) FX (c_X10_isOne l D cI cB cS a_this a_all a_has a_few a_sawn a_cut a_todo a_press a_gone ((((8 * v6) + x1) + x4) - 1) (((8 * v6) + x1) + x4) f_all _ hV) ok_X10_isOne im_X10_isOne se_X10_isOne li_X10_50 dX10_mayUpright_42 hK hP hS hA [0, 1] [] 0 rfl rfl rfl (by decide) rfl rfl hl.1 (Nat.le_of_ble_eq_true rfl) ⟨Nat.le_of_ble_eq_true rfl, Nat.le_of_ble_eq_true rfl⟩ ⟨Nat.le_of_ble_eq_true rfl, Nat.le_of_ble_eq_true rfl⟩ (fun r_2 _ H locs hV hP hS => ?_)
          have hP : PD D A [oc a_this 9 [.ref a_all, .ref a_has, .ref a_few, .ref a_sawn, .ref a_cut, .ref a_todo, .ref a_press, .ref a_gone], ai cI a_all 3320 f_all] H := hP
          refine lv_if_ne (tgt := 52) hx hb dX10_mayUpright_45 (by decide) (fun h => ?_) (fun h => ?_)
          · have hV := hV.2 h
            refine lv_iconst (v := 0) hx hb dX10_mayUpright_52 (by decide) ?_
            refine lv_istore (lv' := [(5, .int 0), (0, .ref a_this), (1, .int x1), (2, .int x2), (3, .int x3), (4, .int x4), (6, .int v6)]) hx hb dX10_mayUpright_53 hl (by decide) rfl (fun ls hl => ?_)
            obtain ⟨v6_3, e_v6_3⟩ : ∃ y : Int32, y = (v6 + 1) := ⟨_, rfl⟩
            have hV := hV v6_3 e_v6_3
            refine lv_iinc (v := v6_3) (lv' := [(6, .int v6_3), (5, .int 0), (0, .ref a_this), (1, .int x1), (2, .int x2), (3, .int x3), (4, .int x4)]) hx hb dX10_mayUpright_55 hl (k := 6) rfl (by rw [e_v6_3]; rfl) (by decide) rfl (fun ls hl => ?_)
            refine lv_goto (tgt := 6) hx hb dX10_mayUpright_58 (by decide) ?_
            exact ih6 0 v6_3 _ _ _ hP hS (lv_sub hl [2, 3, 4, 5, 6, 1, 0] rfl) hV
          · have hV := hV.1 h
            refine lv_iconst (v := 1) hx hb dX10_mayUpright_48 (by decide) ?_
            refine lv_goto (tgt := 53) hx hb dX10_mayUpright_49 (by decide) ?_
            refine lv_istore (lv' := [(5, .int 1), (0, .ref a_this), (1, .int x1), (2, .int x2), (3, .int x3), (4, .int x4), (6, .int v6)]) hx hb dX10_mayUpright_53 hl (by decide) rfl (fun ls hl => ?_)
            obtain ⟨v6_4, e_v6_4⟩ : ∃ y : Int32, y = (v6 + 1) := ⟨_, rfl⟩
            have hV := hV v6_4 e_v6_4
            refine lv_iinc (v := v6_4) (lv' := [(6, .int v6_4), (5, .int 1), (0, .ref a_this), (1, .int x1), (2, .int x2), (3, .int x3), (4, .int x4)]) hx hb dX10_mayUpright_55 hl (k := 6) rfl (by rw [e_v6_4]; rfl) (by decide) rfl (fun ls hl => ?_)
            refine lv_goto (tgt := 6) hx hb dX10_mayUpright_58 (by decide) ?_
            exact ih6 1 v6_4 _ _ _ hP hS (lv_sub hl [2, 3, 4, 5, 6, 1, 0] rfl) hV
  refine lv_iconst (v := 1) hx hb dX10_mayUpright_0 (by decide) ?_
  refine lv_istore (lv' := [(5, .int 1), (0, .ref a_this), (1, .int x1), (2, .int x2), (3, .int x3), (4, .int x4)]) hx hb dX10_mayUpright_1 hl (by decide) rfl (fun ls hl => ?_)
  refine lv_iload_n hx hb dX10_mayUpright_3 rfl (lv_at hl 3 rfl) ?_
  refine lv_istore (lv' := [(6, .int x2), (5, .int 1), (0, .ref a_this), (1, .int x1), (2, .int x2), (3, .int x3), (4, .int x4)]) hx hb dX10_mayUpright_4 hl (by decide) rfl (fun ls hl => ?_)
  obtain ⟨k, hV⟩ := hV
  exact b6 k 1 x2 _ _ _ hP hS (lv_sub hl [2, 3, 4, 5, 6, 1, 0] rfl) hV

def rm_X10_tries : Room := { frames := 0, cells := 0, slots := 0, locals := 0 }
def J_X10_tries_95 (x1 : Int32) (x5 : Int32) (post : (Nat → Int32) → (Nat → Int32) → (Nat → Int32) → Prop) (v6 : Int32) (v7 : Int32) (f_few : Nat → Int32) (f_sawn : Nat → Int32) (f_cut : Nat → Int32) : Prop := (vp_in x1 4096 ∧ ∀ f_few_1 : Nat → Int32, f_few_1 = upd f_few x1.toNatClampNeg v6 → (vp_in x1 4096 ∧ ∀ f_sawn_2 : Nat → Int32, f_sawn_2 = upd f_sawn x1.toNatClampNeg v7 → (vp_in x1 4096 ∧ ∀ f_cut_3 : Nat → Int32, f_cut_3 = upd f_cut x1.toNatClampNeg x5 → post f_few_1 f_sawn_2 f_cut_3)))
def P_X10_tries (x1 : Int32) (x2 : Int32) (x3 : Int32) (x4 : Int32) (x5 : Int32) (f_few : Nat → Int32) (f_sawn : Nat → Int32) (f_cut : Nat → Int32) (post : (Nat → Int32) → (Nat → Int32) → (Nat → Int32) → Prop) : Prop := (vp_in x2 4096 ∧ (((f_few x2.toNatClampNeg) = 0 → post f_few f_sawn f_cut) ∧ (¬ (f_few x2.toNatClampNeg) = 0 → (vp_in x3 4096 ∧ (((f_few x3.toNatClampNeg) = 0 → post f_few f_sawn f_cut) ∧ (¬ (f_few x3.toNatClampNeg) = 0 → (vp_in x2 4096 ∧ (vp_in x3 4096 ∧ (∀ v6_4 : Int32, v6_4 = ((f_few x2.toNatClampNeg) + (f_few x3.toNatClampNeg)) → (vp_in x2 4096 ∧ (vp_in x3 4096 ∧ (∀ v7_5 : Int32, v7_5 = (((f_sawn x2.toNatClampNeg) + (f_sawn x3.toNatClampNeg)) + x4) → (vp_in x1 4096 ∧ (((f_few x1.toNatClampNeg) ≤ 0 → J_X10_tries_95 x1 x5 post v6_4 v7_5 f_few f_sawn f_cut) ∧ (¬ (f_few x1.toNatClampNeg) ≤ 0 → (vp_in x1 4096 ∧ (((f_few x1.toNatClampNeg) < v6_4 → post f_few f_sawn f_cut) ∧ (¬ (f_few x1.toNatClampNeg) < v6_4 → (vp_in x1 4096 ∧ ((v6_4 = (f_few x1.toNatClampNeg) → (vp_in x1 4096 ∧ ((v7_5 < (f_sawn x1.toNatClampNeg) → J_X10_tries_95 x1 x5 post v6_4 v7_5 f_few f_sawn f_cut) ∧ (¬ v7_5 < (f_sawn x1.toNatClampNeg) → post f_few f_sawn f_cut)))) ∧ (¬ v6_4 = (f_few x1.toNatClampNeg) → J_X10_tries_95 x1 x5 post v6_4 v7_5 f_few f_sawn f_cut)))))))))))))))))))))
set_option maxRecDepth 100000 in
set_option maxHeartbeats 4000000 in
theorem c_X10_tries (l : Launch) (D : va_G) (cI cB cS : ClassId) (a_this a_few a_sawn a_cut a_all a_has a_todo a_press a_gone : Nat) (x1 : Int32) (x2 : Int32) (x3 : Int32) (x4 : Int32) (x5 : Int32) (f_few : Nat → Int32) (f_sawn : Nat → Int32) (f_cut : Nat → Int32) (post : (Nat → Int32) → (Nat → Int32) → (Nat → Int32) → Prop) (hV : P_X10_tries x1 x2 x3 x4 x5 f_few f_sawn f_cut post) : Cv l yX10_tries cX10_tries 8 none rm_X10_tries D cI cB cS [.ref a_this, .int x1, .int x2, .int x3, .int x4, .int x5] [oc a_this 9 [.ref a_all, .ref a_has, .ref a_few, .ref a_sawn, .ref a_cut, .ref a_todo, .ref a_press, .ref a_gone], ai cI a_few 4096 f_few, ai cI a_sawn 4096 f_sawn, ai cI a_cut 4096 f_cut] (fun (u : (Nat → Int32) × (Nat → Int32) × (Nat → Int32)) => post u.1 u.2.1 u.2.2) (fun (u : (Nat → Int32) × (Nat → Int32) × (Nat → Int32)) => [oc a_this 9 [.ref a_all, .ref a_has, .ref a_few, .ref a_sawn, .ref a_cut, .ref a_todo, .ref a_press, .ref a_gone], ai cI a_few 4096 (u.1), ai cI a_sawn 4096 (u.2.1), ai cI a_cut 4096 (u.2.2)]) := by
  refine Cv.of ok_X10_tries (Nat.le_of_ble_eq_true rfl) ?_
  intro p e s m args below meth c A Q hx hb hml hown ht hnm hK hP hA hS hret ls hl
  have hown : s.vm.findClass RX10 = some m.cls := hown
  have FX : CallFix p m c cX10_tries 8 s args tblG RX10 := ⟨hx, hb, hml, hown, ht⟩
  have hP : PD D A [oc a_this 9 [.ref a_all, .ref a_has, .ref a_few, .ref a_sawn, .ref a_cut, .ref a_todo, .ref a_press, .ref a_gone], ai cI a_few 4096 f_few, ai cI a_sawn 4096 f_sawn, ai cI a_cut 4096 f_cut] s.heap := hP
  have hl : lv_has ls 8 [(0, .ref a_this), (1, .int x1), (2, .int x2), (3, .int x3), (4, .int x4), (5, .int x5)] := hl
  unfold P_X10_tries at hV
  have b95 : ∀ (v6 : Int32) (v7 : Int32) (f_few : Nat → Int32) (f_sawn : Nat → Int32) (f_cut : Nat → Int32) (H : Heap) (locs : List Loc) (ls : Array Slot), PD D A [oc a_this 9 [.ref a_all, .ref a_has, .ref a_few, .ref a_sawn, .ref a_cut, .ref a_todo, .ref a_press, .ref a_gone], ai cI a_few 4096 f_few, ai cI a_sawn 4096 f_sawn, ai cI a_cut 4096 f_cut] H → va_S A s.heap H locs → lv_has ls 8 [(0, .ref a_this), (1, .int x1), (5, .int x5), (6, .int v6), (7, .int v7)] → J_X10_tries_95 x1 x5 post v6 v7 f_few f_sawn f_cut → W p l e rm_X10_tries s m args below meth c H locs 0 0 Q (F0 m 95 ls []) := by
    intro v6 v7 f_few f_sawn f_cut H locs ls hP hS hl hV
    unfold J_X10_tries_95 at hV
    refine lv_aload_n hx hb dX10_tries_95 rfl (lv_at hl 0 rfl) ?_
    refine gX10 hx hb ht hown hK hP 0 rfl 2 (by decide) fl_X10_17 (fun _ h => h) rfl dX10_tries_96 ?_
    refine lv_iload_n hx hb dX10_tries_99 rfl (lv_at hl 1 rfl) ?_
    refine lv_iload hx hb dX10_tries_100 (lv_at hl 3 rfl) ?_
    refine ist hx hb hK hP hS 1 rfl dX10_tries_102 hV.1 (fun f_few_1 e_f_few_1 H locs hP hS => ?_)
    have hV := hV.2 f_few_1 e_f_few_1
    have hP : PD D A [oc a_this 9 [.ref a_all, .ref a_has, .ref a_few, .ref a_sawn, .ref a_cut, .ref a_todo, .ref a_press, .ref a_gone], ai cI a_few 4096 f_few_1, ai cI a_sawn 4096 f_sawn, ai cI a_cut 4096 f_cut] H := hP
    refine lv_aload_n hx hb dX10_tries_103 rfl (lv_at hl 0 rfl) ?_
    refine gX10 hx hb ht hown hK hP 0 rfl 3 (by decide) fl_X10_20 (fun _ h => h) rfl dX10_tries_104 ?_
    refine lv_iload_n hx hb dX10_tries_107 rfl (lv_at hl 1 rfl) ?_
    refine lv_iload hx hb dX10_tries_108 (lv_at hl 4 rfl) ?_
    refine ist hx hb hK hP hS 2 rfl dX10_tries_110 hV.1 (fun f_sawn_2 e_f_sawn_2 H locs hP hS => ?_)
    have hV := hV.2 f_sawn_2 e_f_sawn_2
    have hP : PD D A [oc a_this 9 [.ref a_all, .ref a_has, .ref a_few, .ref a_sawn, .ref a_cut, .ref a_todo, .ref a_press, .ref a_gone], ai cI a_few 4096 f_few_1, ai cI a_sawn 4096 f_sawn_2, ai cI a_cut 4096 f_cut] H := hP
    refine lv_aload_n hx hb dX10_tries_111 rfl (lv_at hl 0 rfl) ?_
    refine gX10 hx hb ht hown hK hP 0 rfl 4 (by decide) fl_X10_23 (fun _ h => h) rfl dX10_tries_112 ?_
    refine lv_iload_n hx hb dX10_tries_115 rfl (lv_at hl 1 rfl) ?_
    refine lv_iload hx hb dX10_tries_116 (lv_at hl 2 rfl) ?_
    refine ist hx hb hK hP hS 3 rfl dX10_tries_118 hV.1 (fun f_cut_3 e_f_cut_3 H locs hP hS => ?_)
    have hV := hV.2 f_cut_3 e_f_cut_3
    have hP : PD D A [oc a_this 9 [.ref a_all, .ref a_has, .ref a_few, .ref a_sawn, .ref a_cut, .ref a_todo, .ref a_press, .ref a_gone], ai cI a_few 4096 f_few_1, ai cI a_sawn 4096 f_sawn_2, ai cI a_cut 4096 f_cut_3] H := hP
    exact hret _ _ _ _ (f_few_1, f_sawn_2, f_cut_3) hS dX10_tries_119 hP hV
  refine lv_aload_n hx hb dX10_tries_0 rfl (lv_at hl 0 rfl) ?_
  refine gX10 hx hb ht hown hK hP 0 rfl 2 (by decide) fl_X10_17 (fun _ h => h) rfl dX10_tries_1 ?_
  refine lv_iload_n hx hb dX10_tries_4 rfl (lv_at hl 2 rfl) ?_
  refine ild hx hb hK hP 1 rfl dX10_tries_5 hV.1 ?_
  have hV := hV.2
  refine lv_if_eq (tgt := 18) hx hb dX10_tries_6 (by decide) (fun h => ?_) (fun h => ?_)
  · have hV := hV.1 h
    exact hret _ _ _ _ (f_few, f_sawn, f_cut) hS dX10_tries_18 hP hV
  · have hV := hV.2 h
    refine lv_aload_n hx hb dX10_tries_9 rfl (lv_at hl 0 rfl) ?_
    refine gX10 hx hb ht hown hK hP 0 rfl 2 (by decide) fl_X10_17 (fun _ h => h) rfl dX10_tries_10 ?_
    refine lv_iload_n hx hb dX10_tries_13 rfl (lv_at hl 3 rfl) ?_
    refine ild hx hb hK hP 1 rfl dX10_tries_14 hV.1 ?_
    have hV := hV.2
    refine lv_if_ne (tgt := 19) hx hb dX10_tries_15 (by decide) (fun h => ?_) (fun h => ?_)
    · have hV := hV.2 h
      refine lv_aload_n hx hb dX10_tries_19 rfl (lv_at hl 0 rfl) ?_
      refine gX10 hx hb ht hown hK hP 0 rfl 2 (by decide) fl_X10_17 (fun _ h => h) rfl dX10_tries_20 ?_
      refine lv_iload_n hx hb dX10_tries_23 rfl (lv_at hl 2 rfl) ?_
      refine ild hx hb hK hP 1 rfl dX10_tries_24 hV.1 ?_
      have hV := hV.2
      refine lv_aload_n hx hb dX10_tries_25 rfl (lv_at hl 0 rfl) ?_
      refine gX10 hx hb ht hown hK hP 0 rfl 2 (by decide) fl_X10_17 (fun _ h => h) rfl dX10_tries_26 ?_
      refine lv_iload_n hx hb dX10_tries_29 rfl (lv_at hl 3 rfl) ?_
      refine ild hx hb hK hP 1 rfl dX10_tries_30 hV.1 ?_
      have hV := hV.2
      refine lv_iadd hx hb dX10_tries_31 ?_
      refine lv_topi (fun v6_4 e_v6_4 => ?_)
      have hV := hV v6_4 e_v6_4
      refine lv_istore (lv' := [(6, .int v6_4), (0, .ref a_this), (1, .int x1), (2, .int x2), (3, .int x3), (4, .int x4), (5, .int x5)]) hx hb dX10_tries_32 hl (by decide) rfl (fun ls hl => ?_)
      refine lv_aload_n hx hb dX10_tries_34 rfl (lv_at hl 1 rfl) ?_
      refine gX10 hx hb ht hown hK hP 0 rfl 3 (by decide) fl_X10_20 (fun _ h => h) rfl dX10_tries_35 ?_
      refine lv_iload_n hx hb dX10_tries_38 rfl (lv_at hl 3 rfl) ?_
      refine ild hx hb hK hP 2 rfl dX10_tries_39 hV.1 ?_
      have hV := hV.2
      refine lv_aload_n hx hb dX10_tries_40 rfl (lv_at hl 1 rfl) ?_
      refine gX10 hx hb ht hown hK hP 0 rfl 3 (by decide) fl_X10_20 (fun _ h => h) rfl dX10_tries_41 ?_
      refine lv_iload_n hx hb dX10_tries_44 rfl (lv_at hl 4 rfl) ?_
      refine ild hx hb hK hP 2 rfl dX10_tries_45 hV.1 ?_
      have hV := hV.2
      refine lv_iadd hx hb dX10_tries_46 ?_
      refine lv_iload hx hb dX10_tries_47 (lv_at hl 5 rfl) ?_
      refine lv_iadd hx hb dX10_tries_49 ?_
      refine lv_topi (fun v7_5 e_v7_5 => ?_)
      have hV := hV v7_5 e_v7_5
      refine lv_istore (lv' := [(7, .int v7_5), (6, .int v6_4), (0, .ref a_this), (1, .int x1), (2, .int x2), (3, .int x3), (4, .int x4), (5, .int x5)]) hx hb dX10_tries_50 hl (by decide) rfl (fun ls hl => ?_)
      refine lv_aload_n hx hb dX10_tries_52 rfl (lv_at hl 2 rfl) ?_
      refine gX10 hx hb ht hown hK hP 0 rfl 2 (by decide) fl_X10_17 (fun _ h => h) rfl dX10_tries_53 ?_
      refine lv_iload_n hx hb dX10_tries_56 rfl (lv_at hl 3 rfl) ?_
      refine ild hx hb hK hP 1 rfl dX10_tries_57 hV.1 ?_
      have hV := hV.2
      refine lv_if_le (tgt := 95) hx hb dX10_tries_58 (by decide) (fun h => ?_) (fun h => ?_)
      · have hV := hV.1 h
        exact b95 v6_4 v7_5 f_few f_sawn f_cut _ _ _ hP hS (lv_sub hl [2, 3, 7, 1, 0] rfl) hV
      · have hV := hV.2 h
        refine lv_iload hx hb dX10_tries_61 (lv_at hl 1 rfl) ?_
        refine lv_aload_n hx hb dX10_tries_63 rfl (lv_at hl 2 rfl) ?_
        refine gX10 hx hb ht hown hK hP 0 rfl 2 (by decide) fl_X10_17 (fun _ h => h) rfl dX10_tries_64 ?_
        refine lv_iload_n hx hb dX10_tries_67 rfl (lv_at hl 3 rfl) ?_
        refine ild hx hb hK hP 1 rfl dX10_tries_68 hV.1 ?_
        have hV := hV.2
        refine lv_icmp_gt (tgt := 94) hx hb dX10_tries_69 (by decide) (fun h => ?_) (fun h => ?_)
        · have hV := hV.1 h
          exact hret _ _ _ _ (f_few, f_sawn, f_cut) hS dX10_tries_94 hP hV
        · have hV := hV.2 h
          refine lv_iload hx hb dX10_tries_72 (lv_at hl 1 rfl) ?_
          refine lv_aload_n hx hb dX10_tries_74 rfl (lv_at hl 2 rfl) ?_
          refine gX10 hx hb ht hown hK hP 0 rfl 2 (by decide) fl_X10_17 (fun _ h => h) rfl dX10_tries_75 ?_
          refine lv_iload_n hx hb dX10_tries_78 rfl (lv_at hl 3 rfl) ?_
          refine ild hx hb hK hP 1 rfl dX10_tries_79 hV.1 ?_
          have hV := hV.2
          refine lv_icmp_ne (tgt := 95) hx hb dX10_tries_80 (by decide) (fun h => ?_) (fun h => ?_)
          · have hV := hV.2 h
            exact b95 v6_4 v7_5 f_few f_sawn f_cut _ _ _ hP hS (lv_sub hl [2, 3, 7, 1, 0] rfl) hV
          · have hV := hV.1 h
            refine lv_iload hx hb dX10_tries_83 (lv_at hl 0 rfl) ?_
            refine lv_aload_n hx hb dX10_tries_85 rfl (lv_at hl 2 rfl) ?_
            refine gX10 hx hb ht hown hK hP 0 rfl 3 (by decide) fl_X10_20 (fun _ h => h) rfl dX10_tries_86 ?_
            refine lv_iload_n hx hb dX10_tries_89 rfl (lv_at hl 3 rfl) ?_
            refine ild hx hb hK hP 2 rfl dX10_tries_90 hV.1 ?_
            have hV := hV.2
            refine lv_icmp_lt (tgt := 95) hx hb dX10_tries_91 (by decide) (fun h => ?_) (fun h => ?_)
            · have hV := hV.1 h
              exact b95 v6_4 v7_5 f_few f_sawn f_cut _ _ _ hP hS (lv_sub hl [2, 3, 7, 1, 0] rfl) hV
            · have hV := hV.2 h
              exact hret _ _ _ _ (f_few, f_sawn, f_cut) hS dX10_tries_94 hP hV
    · have hV := hV.1 h
      exact hret _ _ _ _ (f_few, f_sawn, f_cut) hS dX10_tries_18 hP hV

def rm_X10_weight : Room := { frames := 0, cells := 0, slots := 0, locals := 0 }
def V_X10_weight_18 (x1 : Int32) (x3 : Int32) (v6 : Int32) (f_all : Nat → Int32) (K_6 : Int32 → Int32 → Prop) : Nat → Int32 → Int32 → Prop
  | 0, _, _ => False
  | n + 1, v5, v7 => (((x1 + x3) ≤ v7 → (∀ v6_1 : Int32, v6_1 = (v6 + 1) → K_6 v5 v6_1)) ∧ (¬ (x1 + x3) ≤ v7 → (vp_in ((30 + (8 * v6)) + v7) 3320 ∧ (∀ v5_2 : Int32, v5_2 = (v5 + (f_all ((30 + (8 * v6)) + v7).toNatClampNeg)) → (∀ v7_3 : Int32, v7_3 = (v7 + 1) → V_X10_weight_18 x1 x3 v6 f_all K_6 n v5_2 v7_3)))))
theorem V_X10_weight_18_s (x1 : Int32) (x3 : Int32) (v6 : Int32) (f_all : Nat → Int32) (K_6 : Int32 → Int32 → Prop) (n : Nat) (v5 : Int32) (v7 : Int32) : V_X10_weight_18 x1 x3 v6 f_all K_6 (n + 1) v5 v7 = ((((x1 + x3) ≤ v7 → (∀ v6_1 : Int32, v6_1 = (v6 + 1) → K_6 v5 v6_1)) ∧ (¬ (x1 + x3) ≤ v7 → (vp_in ((30 + (8 * v6)) + v7) 3320 ∧ (∀ v5_2 : Int32, v5_2 = (v5 + (f_all ((30 + (8 * v6)) + v7).toNatClampNeg)) → (∀ v7_3 : Int32, v7_3 = (v7 + 1) → V_X10_weight_18 x1 x3 v6 f_all K_6 n v5_2 v7_3)))))) := rfl
def V_X10_weight_6 (x1 : Int32) (x2 : Int32) (x3 : Int32) (x4 : Int32) (f_all : Nat → Int32) (post : Int32 → Prop) : Nat → Int32 → Int32 → Prop
  | 0, _, _ => False
  | n + 1, v5, v6 => (((x2 + x4) ≤ v6 → post v5) ∧ (¬ (x2 + x4) ≤ v6 → (∃ k : Nat, V_X10_weight_18 x1 x3 v6 f_all (V_X10_weight_6 x1 x2 x3 x4 f_all post n) k v5 x1)))
theorem V_X10_weight_6_s (x1 : Int32) (x2 : Int32) (x3 : Int32) (x4 : Int32) (f_all : Nat → Int32) (post : Int32 → Prop) (n : Nat) (v5 : Int32) (v6 : Int32) : V_X10_weight_6 x1 x2 x3 x4 f_all post (n + 1) v5 v6 = ((((x2 + x4) ≤ v6 → post v5) ∧ (¬ (x2 + x4) ≤ v6 → (∃ k : Nat, V_X10_weight_18 x1 x3 v6 f_all (V_X10_weight_6 x1 x2 x3 x4 f_all post n) k v5 x1)))) := rfl
def P_X10_weight (x1 : Int32) (x2 : Int32) (x3 : Int32) (x4 : Int32) (f_all : Nat → Int32) (post : Int32 → Prop) : Prop := (∃ k : Nat, V_X10_weight_6 x1 x2 x3 x4 f_all post k 0 x2)
set_option maxRecDepth 100000 in
set_option maxHeartbeats 4000000 in
theorem c_X10_weight (l : Launch) (D : va_G) (cI cB cS : ClassId) (a_this a_all a_has a_few a_sawn a_cut a_todo a_press a_gone : Nat) (x1 : Int32) (x2 : Int32) (x3 : Int32) (x4 : Int32) (f_all : Nat → Int32) (post : Int32 → Prop) (hV : P_X10_weight x1 x2 x3 x4 f_all post) : Ci l yX10_weight cX10_weight 8 (some .int) rm_X10_weight D cI cB cS [.ref a_this, .int x1, .int x2, .int x3, .int x4] [oc a_this 9 [.ref a_all, .ref a_has, .ref a_few, .ref a_sawn, .ref a_cut, .ref a_todo, .ref a_press, .ref a_gone], ai cI a_all 3320 f_all] (fun r (_ : Unit) => post r) (fun (_ : Unit) => [oc a_this 9 [.ref a_all, .ref a_has, .ref a_few, .ref a_sawn, .ref a_cut, .ref a_todo, .ref a_press, .ref a_gone], ai cI a_all 3320 f_all]) := by
  refine Ci.of ok_X10_weight (Nat.le_of_ble_eq_true rfl) ?_
  intro p e s m args below meth c A Q hx hb hml hown ht hnm hK hP hA hS hret ls hl
  have hown : s.vm.findClass RX10 = some m.cls := hown
  have FX : CallFix p m c cX10_weight 8 s args tblG RX10 := ⟨hx, hb, hml, hown, ht⟩
  have hP : PD D A [oc a_this 9 [.ref a_all, .ref a_has, .ref a_few, .ref a_sawn, .ref a_cut, .ref a_todo, .ref a_press, .ref a_gone], ai cI a_all 3320 f_all] s.heap := hP
  have hl : lv_has ls 8 [(0, .ref a_this), (1, .int x1), (2, .int x2), (3, .int x3), (4, .int x4)] := hl
  unfold P_X10_weight at hV
  have b6 : ∀  (k6 : Nat) (v5 : Int32) (v6 : Int32) (H : Heap) (locs : List Loc) (ls : Array Slot), PD D A [oc a_this 9 [.ref a_all, .ref a_has, .ref a_few, .ref a_sawn, .ref a_cut, .ref a_todo, .ref a_press, .ref a_gone], ai cI a_all 3320 f_all] H → va_S A s.heap H locs → lv_has ls 8 [(0, .ref a_this), (1, .int x1), (2, .int x2), (3, .int x3), (4, .int x4), (5, .int v5), (6, .int v6)] → V_X10_weight_6 x1 x2 x3 x4 f_all post k6 v5 v6 → W p l e rm_X10_weight s m args below meth c H locs 0 0 Q (F0 m 6 ls []) := by
    intro  k6
    induction k6 with
    | zero => intro v5 v6 H locs ls hP hS hl hV; exact False.elim hV
    | succ k6 ih6 =>
      intro v5 v6 H locs ls hP hS hl hV
      rw [V_X10_weight_6_s] at hV
      have b18 : ∀ (v6 : Int32) (k18 : Nat) (v5 : Int32) (v7 : Int32) (H : Heap) (locs : List Loc) (ls : Array Slot), PD D A [oc a_this 9 [.ref a_all, .ref a_has, .ref a_few, .ref a_sawn, .ref a_cut, .ref a_todo, .ref a_press, .ref a_gone], ai cI a_all 3320 f_all] H → va_S A s.heap H locs → lv_has ls 8 [(0, .ref a_this), (1, .int x1), (2, .int x2), (3, .int x3), (4, .int x4), (5, .int v5), (6, .int v6), (7, .int v7)] → V_X10_weight_18 x1 x3 v6 f_all (V_X10_weight_6 x1 x2 x3 x4 f_all post k6) k18 v5 v7 → W p l e rm_X10_weight s m args below meth c H locs 0 0 Q (F0 m 18 ls []) := by
        intro v6 k18
        induction k18 with
        | zero => intro v5 v7 H locs ls hP hS hl hV; exact False.elim hV
        | succ k18 ih18 =>
          intro v5 v7 H locs ls hP hS hl hV
          rw [V_X10_weight_18_s] at hV
          refine lv_iload hx hb dX10_weight_18 (lv_at hl 7 rfl) ?_
          refine lv_iload_n hx hb dX10_weight_20 rfl (lv_at hl 1 rfl) ?_
          refine lv_iload_n hx hb dX10_weight_21 rfl (lv_at hl 3 rfl) ?_
          refine lv_iadd hx hb dX10_weight_22 ?_
          refine lv_icmp_ge (tgt := 53) hx hb dX10_weight_23 (by decide) (fun h => ?_) (fun h => ?_)
          · have hV := hV.1 h
            obtain ⟨v6_1, e_v6_1⟩ : ∃ y : Int32, y = (v6 + 1) := ⟨_, rfl⟩
            have hV := hV v6_1 e_v6_1
            refine lv_iinc (v := v6_1) (lv' := [(6, .int v6_1), (0, .ref a_this), (1, .int x1), (2, .int x2), (3, .int x3), (4, .int x4), (5, .int v5), (7, .int v7)]) hx hb dX10_weight_53 hl (k := 6) rfl (by rw [e_v6_1]; rfl) (by decide) rfl (fun ls hl => ?_)
            refine lv_goto (tgt := 6) hx hb dX10_weight_56 (by decide) ?_
            exact ih6 v5 v6_1 _ _ _ hP hS (lv_sub hl [1, 2, 3, 4, 5, 6, 0] rfl) hV
          · have hV := hV.2 h
            refine lv_iload hx hb dX10_weight_26 (lv_at hl 5 rfl) ?_
            refine lv_aload_n hx hb dX10_weight_28 rfl (lv_at hl 0 rfl) ?_
            refine gX10 hx hb ht hown hK hP 0 rfl 0 (by decide) fl_X10_7 (fun _ h => h) rfl dX10_weight_29 ?_
            refine lv_bipush (v := 30) hx hb dX10_weight_32 (by decide) ?_
            refine lv_bipush (v := 8) hx hb dX10_weight_34 (by decide) ?_
            refine lv_iload hx hb dX10_weight_36 (lv_at hl 6 rfl) ?_
            refine lv_imul hx hb dX10_weight_38 ?_
            refine lv_iadd hx hb dX10_weight_39 ?_
            refine lv_iload hx hb dX10_weight_40 (lv_at hl 7 rfl) ?_
            refine lv_iadd hx hb dX10_weight_42 ?_
            refine ild hx hb hK hP 1 rfl dX10_weight_43 hV.1 ?_
            have hV := hV.2
            refine lv_iadd hx hb dX10_weight_44 ?_
            refine lv_topi (fun v5_2 e_v5_2 => ?_)
            have hV := hV v5_2 e_v5_2
            refine lv_istore (lv' := [(5, .int v5_2), (0, .ref a_this), (1, .int x1), (2, .int x2), (3, .int x3), (4, .int x4), (6, .int v6), (7, .int v7)]) hx hb dX10_weight_45 hl (by decide) rfl (fun ls hl => ?_)
            obtain ⟨v7_3, e_v7_3⟩ : ∃ y : Int32, y = (v7 + 1) := ⟨_, rfl⟩
            have hV := hV v7_3 e_v7_3
            refine lv_iinc (v := v7_3) (lv' := [(7, .int v7_3), (5, .int v5_2), (0, .ref a_this), (1, .int x1), (2, .int x2), (3, .int x3), (4, .int x4), (6, .int v6)]) hx hb dX10_weight_47 hl (k := 7) rfl (by rw [e_v7_3]; rfl) (by decide) rfl (fun ls hl => ?_)
            refine lv_goto (tgt := 18) hx hb dX10_weight_50 (by decide) ?_
            exact ih18 v5_2 v7_3 _ _ _ hP hS (lv_sub hl [2, 3, 4, 5, 6, 1, 7, 0] rfl) hV
      refine lv_iload hx hb dX10_weight_6 (lv_at hl 6 rfl) ?_
      refine lv_iload_n hx hb dX10_weight_8 rfl (lv_at hl 2 rfl) ?_
      refine lv_iload hx hb dX10_weight_9 (lv_at hl 4 rfl) ?_
      refine lv_iadd hx hb dX10_weight_11 ?_
      refine lv_icmp_ge (tgt := 59) hx hb dX10_weight_12 (by decide) (fun h => ?_) (fun h => ?_)
      · have hV := hV.1 h
        refine lv_iload hx hb dX10_weight_59 (lv_at hl 5 rfl) ?_
        exact hret _ _ _ _ _ () hS dX10_weight_61 hP hV
      · have hV := hV.2 h
        refine lv_iload_n hx hb dX10_weight_15 rfl (lv_at hl 1 rfl) ?_
        refine lv_istore (lv' := [(7, .int x1), (0, .ref a_this), (1, .int x1), (2, .int x2), (3, .int x3), (4, .int x4), (5, .int v5), (6, .int v6)]) hx hb dX10_weight_16 hl (by decide) rfl (fun ls hl => ?_)
        obtain ⟨k, hV⟩ := hV
        exact b18 v6 k v5 x1 _ _ _ hP hS (lv_sub hl [1, 2, 3, 4, 5, 6, 7, 0] rfl) hV
  refine lv_iconst (v := 0) hx hb dX10_weight_0 (by decide) ?_
  refine lv_istore (lv' := [(5, .int 0), (0, .ref a_this), (1, .int x1), (2, .int x2), (3, .int x3), (4, .int x4)]) hx hb dX10_weight_1 hl (by decide) rfl (fun ls hl => ?_)
  refine lv_iload_n hx hb dX10_weight_3 rfl (lv_at hl 3 rfl) ?_
  refine lv_istore (lv' := [(6, .int x2), (5, .int 0), (0, .ref a_this), (1, .int x1), (2, .int x2), (3, .int x3), (4, .int x4)]) hx hb dX10_weight_4 hl (by decide) rfl (fun ls hl => ?_)
  obtain ⟨k, hV⟩ := hV
  exact b6 k 0 x2 _ _ _ hP hS (lv_sub hl [2, 3, 4, 5, 6, 1, 0] rfl) hV

def rm_X10_settles : Room := { frames := 2, cells := 0, slots := 0, locals := 48 }
def V_X10_settles_125 (x1 : Int32) (x2 : Int32) (x3 : Int32) (x4 : Int32) (v5 : Int32) (f_all : Nat → Int32) (post : (Nat → Int32) → (Nat → Int32) → (Nat → Int32) → Prop) : Nat → Int32 → (Nat → Int32) → (Nat → Int32) → (Nat → Int32) → Prop
  | 0, _, _, _, _ => False
  | n + 1, v6, f_few, f_sawn, f_cut => ((x4 ≤ v6 → post f_few f_sawn f_cut) ∧ (¬ x4 ≤ v6 → P_X10_mayLevel x1 x2 x3 v6 f_all (fun r_1 => ((r_1 = 0 → (∀ v6_2 : Int32, v6_2 = (v6 + 1) → V_X10_settles_125 x1 x2 x3 x4 v5 f_all post n v6_2 f_few f_sawn f_cut)) ∧ (¬ r_1 = 0 → P_X10_part x1 x2 x3 v6 (fun r_3 => P_X10_part x1 (x2 + v6) x3 (x4 - v6) (fun r_4 => P_X10_tries v5 r_3 r_4 x3 (8 + v6) f_few f_sawn f_cut (fun f_few_5 f_sawn_6 f_cut_7 => (∀ v6_8 : Int32, v6_8 = (v6 + 1) → V_X10_settles_125 x1 x2 x3 x4 v5 f_all post n v6_8 f_few_5 f_sawn_6 f_cut_7)))))))))
theorem V_X10_settles_125_s (x1 : Int32) (x2 : Int32) (x3 : Int32) (x4 : Int32) (v5 : Int32) (f_all : Nat → Int32) (post : (Nat → Int32) → (Nat → Int32) → (Nat → Int32) → Prop) (n : Nat) (v6 : Int32) (f_few : Nat → Int32) (f_sawn : Nat → Int32) (f_cut : Nat → Int32) : V_X10_settles_125 x1 x2 x3 x4 v5 f_all post (n + 1) v6 f_few f_sawn f_cut = (((x4 ≤ v6 → post f_few f_sawn f_cut) ∧ (¬ x4 ≤ v6 → P_X10_mayLevel x1 x2 x3 v6 f_all (fun r_1 => ((r_1 = 0 → (∀ v6_2 : Int32, v6_2 = (v6 + 1) → V_X10_settles_125 x1 x2 x3 x4 v5 f_all post n v6_2 f_few f_sawn f_cut)) ∧ (¬ r_1 = 0 → P_X10_part x1 x2 x3 v6 (fun r_3 => P_X10_part x1 (x2 + v6) x3 (x4 - v6) (fun r_4 => P_X10_tries v5 r_3 r_4 x3 (8 + v6) f_few f_sawn f_cut (fun f_few_5 f_sawn_6 f_cut_7 => (∀ v6_8 : Int32, v6_8 = (v6 + 1) → V_X10_settles_125 x1 x2 x3 x4 v5 f_all post n v6_8 f_few_5 f_sawn_6 f_cut_7)))))))))) := rfl
def V_X10_settles_64 (x1 : Int32) (x2 : Int32) (x3 : Int32) (x4 : Int32) (v5 : Int32) (f_all : Nat → Int32) (post : (Nat → Int32) → (Nat → Int32) → (Nat → Int32) → Prop) : Nat → Int32 → (Nat → Int32) → (Nat → Int32) → (Nat → Int32) → Prop
  | 0, _, _, _, _ => False
  | n + 1, v6, f_few, f_sawn, f_cut => ((x3 ≤ v6 → (∃ k : Nat, V_X10_settles_125 x1 x2 x3 x4 v5 f_all post k 1 f_few f_sawn f_cut)) ∧ (¬ x3 ≤ v6 → P_X10_mayUpright x1 x2 x4 v6 f_all (fun r_9 => ((r_9 = 0 → (∀ v6_10 : Int32, v6_10 = (v6 + 1) → V_X10_settles_64 x1 x2 x3 x4 v5 f_all post n v6_10 f_few f_sawn f_cut)) ∧ (¬ r_9 = 0 → P_X10_part x1 x2 v6 x4 (fun r_11 => P_X10_part (x1 + v6) x2 (x3 - v6) x4 (fun r_12 => P_X10_tries v5 r_11 r_12 x4 v6 f_few f_sawn f_cut (fun f_few_13 f_sawn_14 f_cut_15 => (∀ v6_16 : Int32, v6_16 = (v6 + 1) → V_X10_settles_64 x1 x2 x3 x4 v5 f_all post n v6_16 f_few_13 f_sawn_14 f_cut_15)))))))))
theorem V_X10_settles_64_s (x1 : Int32) (x2 : Int32) (x3 : Int32) (x4 : Int32) (v5 : Int32) (f_all : Nat → Int32) (post : (Nat → Int32) → (Nat → Int32) → (Nat → Int32) → Prop) (n : Nat) (v6 : Int32) (f_few : Nat → Int32) (f_sawn : Nat → Int32) (f_cut : Nat → Int32) : V_X10_settles_64 x1 x2 x3 x4 v5 f_all post (n + 1) v6 f_few f_sawn f_cut = (((x3 ≤ v6 → (∃ k : Nat, V_X10_settles_125 x1 x2 x3 x4 v5 f_all post k 1 f_few f_sawn f_cut)) ∧ (¬ x3 ≤ v6 → P_X10_mayUpright x1 x2 x4 v6 f_all (fun r_9 => ((r_9 = 0 → (∀ v6_10 : Int32, v6_10 = (v6 + 1) → V_X10_settles_64 x1 x2 x3 x4 v5 f_all post n v6_10 f_few f_sawn f_cut)) ∧ (¬ r_9 = 0 → P_X10_part x1 x2 v6 x4 (fun r_11 => P_X10_part (x1 + v6) x2 (x3 - v6) x4 (fun r_12 => P_X10_tries v5 r_11 r_12 x4 v6 f_few f_sawn f_cut (fun f_few_13 f_sawn_14 f_cut_15 => (∀ v6_16 : Int32, v6_16 = (v6 + 1) → V_X10_settles_64 x1 x2 x3 x4 v5 f_all post n v6_16 f_few_13 f_sawn_14 f_cut_15)))))))))) := rfl
def P_X10_settles (x1 : Int32) (x2 : Int32) (x3 : Int32) (x4 : Int32) (f_all : Nat → Int32) (f_few : Nat → Int32) (f_sawn : Nat → Int32) (f_cut : Nat → Int32) (post : (Nat → Int32) → (Nat → Int32) → (Nat → Int32) → Prop) : Prop := P_X10_part x1 x2 x3 x4 (fun r_17 => (vp_in r_17 4096 ∧ ∀ f_few_18 : Nat → Int32, f_few_18 = upd f_few r_17.toNatClampNeg 0 → (vp_in r_17 4096 ∧ ∀ f_sawn_19 : Nat → Int32, f_sawn_19 = upd f_sawn r_17.toNatClampNeg 0 → (vp_in r_17 4096 ∧ ∀ f_cut_20 : Nat → Int32, f_cut_20 = upd f_cut r_17.toNatClampNeg 0 → P_X10_weight x1 x2 x3 x4 f_all (fun r_21 => (vp_in 2 3320 ∧ (((f_all (2 : Int32).toNatClampNeg) < r_21 → (∃ k : Nat, V_X10_settles_64 x1 x2 x3 x4 r_17 f_all post k 1 f_few_18 f_sawn_19 f_cut_20)) ∧ (¬ (f_all (2 : Int32).toNatClampNeg) < r_21 → (vp_in r_17 4096 ∧ ∀ f_few_22 : Nat → Int32, f_few_22 = upd f_few_18 r_17.toNatClampNeg 1 → post f_few_22 f_sawn_19 f_cut_20)))))))))
set_option maxRecDepth 100000 in
set_option maxHeartbeats 4000000 in
theorem c_X10_settles (l : Launch) (D : va_G) (cI cB cS : ClassId) (a_this a_all a_few a_sawn a_cut a_has a_todo a_press a_gone : Nat) (x1 : Int32) (x2 : Int32) (x3 : Int32) (x4 : Int32) (f_all : Nat → Int32) (f_few : Nat → Int32) (f_sawn : Nat → Int32) (f_cut : Nat → Int32) (post : (Nat → Int32) → (Nat → Int32) → (Nat → Int32) → Prop) (hV : P_X10_settles x1 x2 x3 x4 f_all f_few f_sawn f_cut post) : Cv l yX10_settles cX10_settles 7 none rm_X10_settles D cI cB cS [.ref a_this, .int x1, .int x2, .int x3, .int x4] [oc a_this 9 [.ref a_all, .ref a_has, .ref a_few, .ref a_sawn, .ref a_cut, .ref a_todo, .ref a_press, .ref a_gone], ai cI a_all 3320 f_all, ai cI a_few 4096 f_few, ai cI a_sawn 4096 f_sawn, ai cI a_cut 4096 f_cut] (fun (u : (Nat → Int32) × (Nat → Int32) × (Nat → Int32)) => post u.1 u.2.1 u.2.2) (fun (u : (Nat → Int32) × (Nat → Int32) × (Nat → Int32)) => [oc a_this 9 [.ref a_all, .ref a_has, .ref a_few, .ref a_sawn, .ref a_cut, .ref a_todo, .ref a_press, .ref a_gone], ai cI a_all 3320 f_all, ai cI a_few 4096 (u.1), ai cI a_sawn 4096 (u.2.1), ai cI a_cut 4096 (u.2.2)]) := by
  refine Cv.of ok_X10_settles (Nat.le_of_ble_eq_true rfl) ?_
  intro p e s m args below meth c A Q hx hb hml hown ht hnm hK hP hA hS hret ls hl
  have hown : s.vm.findClass RX10 = some m.cls := hown
  have FX : CallFix p m c cX10_settles 7 s args tblG RX10 := ⟨hx, hb, hml, hown, ht⟩
  have hP : PD D A [oc a_this 9 [.ref a_all, .ref a_has, .ref a_few, .ref a_sawn, .ref a_cut, .ref a_todo, .ref a_press, .ref a_gone], ai cI a_all 3320 f_all, ai cI a_few 4096 f_few, ai cI a_sawn 4096 f_sawn, ai cI a_cut 4096 f_cut] s.heap := hP
  have hl : lv_has ls 7 [(0, .ref a_this), (1, .int x1), (2, .int x2), (3, .int x3), (4, .int x4)] := hl
  unfold P_X10_settles at hV
  have b125 : ∀ (v5 : Int32) (k125 : Nat) (v6 : Int32) (f_few : Nat → Int32) (f_sawn : Nat → Int32) (f_cut : Nat → Int32) (H : Heap) (locs : List Loc) (ls : Array Slot), PD D A [oc a_this 9 [.ref a_all, .ref a_has, .ref a_few, .ref a_sawn, .ref a_cut, .ref a_todo, .ref a_press, .ref a_gone], ai cI a_all 3320 f_all, ai cI a_few 4096 f_few, ai cI a_sawn 4096 f_sawn, ai cI a_cut 4096 f_cut] H → va_S A s.heap H locs → lv_has ls 7 [(0, .ref a_this), (1, .int x1), (2, .int x2), (3, .int x3), (4, .int x4), (5, .int v5), (6, .int v6)] → V_X10_settles_125 x1 x2 x3 x4 v5 f_all post k125 v6 f_few f_sawn f_cut → W p l e rm_X10_settles s m args below meth c H locs 0 0 Q (F0 m 125 ls []) := by
    intro v5 k125
    induction k125 with
    | zero => intro v6 f_few f_sawn f_cut H locs ls hP hS hl hV; exact False.elim hV
    | succ k125 ih125 =>
      intro v6 f_few f_sawn f_cut H locs ls hP hS hl hV
      rw [V_X10_settles_125_s] at hV
      refine lv_iload hx hb dX10_settles_125 (lv_at hl 6 rfl) ?_
      refine lv_iload hx hb dX10_settles_127 (lv_at hl 4 rfl) ?_
      refine lv_icmp_ge (tgt := 184) hx hb dX10_settles_129 (by decide) (fun h => ?_) (fun h => ?_)
      · have hV := hV.1 h
        exact hret _ _ _ _ (f_few, f_sawn, f_cut) hS dX10_settles_184 hP hV
      · have hV := hV.2 h
        refine lv_aload_n hx hb dX10_settles_132 rfl (lv_at hl 0 rfl) ?_
        refine lv_iload_n hx hb dX10_settles_133 rfl (lv_at hl 1 rfl) ?_
        refine lv_iload_n hx hb dX10_settles_134 rfl (lv_at hl 2 rfl) ?_
        refine lv_iload_n hx hb dX10_settles_135 rfl (lv_at hl 3 rfl) ?_
        refine lv_iload hx hb dX10_settles_136 (lv_at hl 6 rfl) ?_
        refine KVi (As := [.int x1, .int x2, .int x3, .int v6]) (rest := []) FX (c_X10_mayLevel l D cI cB cS a_this a_all a_has a_few a_sawn a_cut a_todo a_press a_gone x1 x2 x3 v6 f_all _ hV) ok_X10_mayLevel im_X10_mayLevel se_X10_mayLevel li_X10_68 dX10_settles_138 hK hP hS hA [0, 1] [2, 3, 4] 0 rfl rfl rfl (by decide) rfl rfl hl.1 (Nat.le_of_ble_eq_true rfl) ⟨Nat.le_of_ble_eq_true rfl, Nat.le_of_ble_eq_true rfl⟩ ⟨Nat.le_of_ble_eq_true rfl, Nat.le_of_ble_eq_true rfl⟩ (fun r_1 _ H locs hV hP hS => ?_)
        have hP : PD D A [ai cI a_few 4096 f_few, ai cI a_sawn 4096 f_sawn, ai cI a_cut 4096 f_cut, oc a_this 9 [.ref a_all, .ref a_has, .ref a_few, .ref a_sawn, .ref a_cut, .ref a_todo, .ref a_press, .ref a_gone], ai cI a_all 3320 f_all] H := hP
        refine lv_if_eq (tgt := 178) hx hb dX10_settles_141 (by decide) (fun h => ?_) (fun h => ?_)
        · have hV := hV.1 h
          obtain ⟨v6_2, e_v6_2⟩ : ∃ y : Int32, y = (v6 + 1) := ⟨_, rfl⟩
          have hV := hV v6_2 e_v6_2
          refine lv_iinc (v := v6_2) (lv' := [(6, .int v6_2), (0, .ref a_this), (1, .int x1), (2, .int x2), (3, .int x3), (4, .int x4), (5, .int v5)]) hx hb dX10_settles_178 hl (k := 6) rfl (by rw [e_v6_2]; rfl) (by decide) rfl (fun ls hl => ?_)
          refine lv_goto (tgt := 125) hx hb dX10_settles_181 (by decide) ?_
          exact ih125 v6_2 f_few f_sawn f_cut _ _ _ (hP.sub [3, 4, 0, 1, 2] rfl rfl) hS (lv_sub hl [1, 2, 3, 4, 5, 6, 0] rfl) hV
        · have hV := hV.2 h
          refine lv_aload_n hx hb dX10_settles_144 rfl (lv_at hl 0 rfl) ?_
          refine lv_iload hx hb dX10_settles_145 (lv_at hl 5 rfl) ?_
          refine lv_iload_n hx hb dX10_settles_147 rfl (lv_at hl 1 rfl) ?_
          refine lv_iload_n hx hb dX10_settles_148 rfl (lv_at hl 2 rfl) ?_
          refine lv_iload_n hx hb dX10_settles_149 rfl (lv_at hl 3 rfl) ?_
          refine lv_iload hx hb dX10_settles_150 (lv_at hl 6 rfl) ?_
          refine KSi (As := [.int x1, .int x2, .int x3, .int v6]) (rest := [.int v5, .ref a_this]) FX (c_X10_part l D cI cB cS x1 x2 x3 v6 _ hV) ok_X10_part is_X10_part li_X10_53 dX10_settles_152 hK hP hS hA [] [0, 1, 2, 3, 4] rfl rfl (by decide) rfl hl.1 (Nat.le_of_ble_eq_true rfl) ⟨Nat.le_of_ble_eq_true rfl, Nat.le_of_ble_eq_true rfl⟩ ⟨Nat.le_of_ble_eq_true rfl, Nat.le_of_ble_eq_true rfl⟩ (fun r_3 _ H locs hV hP hS => ?_)
          have hP : PD D A [ai cI a_few 4096 f_few, ai cI a_sawn 4096 f_sawn, ai cI a_cut 4096 f_cut, oc a_this 9 [.ref a_all, .ref a_has, .ref a_few, .ref a_sawn, .ref a_cut, .ref a_todo, .ref a_press, .ref a_gone], ai cI a_all 3320 f_all] H := hP
          refine lv_iload_n hx hb dX10_settles_155 rfl (lv_at hl 1 rfl) ?_
          refine lv_iload_n hx hb dX10_settles_156 rfl (lv_at hl 2 rfl) ?_
          refine lv_iload hx hb dX10_settles_157 (lv_at hl 6 rfl) ?_
          refine lv_iadd hx hb dX10_settles_159 ?_
          refine lv_iload_n hx hb dX10_settles_160 rfl (lv_at hl 3 rfl) ?_
          refine lv_iload hx hb dX10_settles_161 (lv_at hl 4 rfl) ?_
          refine lv_iload hx hb dX10_settles_163 (lv_at hl 6 rfl) ?_
          refine lv_isub hx hb dX10_settles_165 ?_
          refine KSi (As := [.int x1, .int (x2 + v6), .int x3, .int (x4 - v6)]) (rest := [.int r_3, .int v5, .ref a_this]) FX (c_X10_part l D cI cB cS x1 (x2 + v6) x3 (x4 - v6) _ hV) ok_X10_part is_X10_part li_X10_53 dX10_settles_166 hK hP hS hA [] [0, 1, 2, 3, 4] rfl rfl (by decide) rfl hl.1 (Nat.le_of_ble_eq_true rfl) ⟨Nat.le_of_ble_eq_true rfl, Nat.le_of_ble_eq_true rfl⟩ ⟨Nat.le_of_ble_eq_true rfl, Nat.le_of_ble_eq_true rfl⟩ (fun r_4 _ H locs hV hP hS => ?_)
          have hP : PD D A [ai cI a_few 4096 f_few, ai cI a_sawn 4096 f_sawn, ai cI a_cut 4096 f_cut, oc a_this 9 [.ref a_all, .ref a_has, .ref a_few, .ref a_sawn, .ref a_cut, .ref a_todo, .ref a_press, .ref a_gone], ai cI a_all 3320 f_all] H := hP
          refine lv_iload_n hx hb dX10_settles_169 rfl (lv_at hl 3 rfl) ?_
          refine lv_bipush (v := 8) hx hb dX10_settles_170 (by decide) ?_
          refine lv_iload hx hb dX10_settles_172 (lv_at hl 6 rfl) ?_
          refine lv_iadd hx hb dX10_settles_174 ?_
          refine KVv (As := [.int v5, .int r_3, .int r_4, .int x3, .int (8 + v6)]) (rest := []) FX (c_X10_tries l D cI cB cS a_this a_few a_sawn a_cut a_all a_has a_todo a_press a_gone v5 r_3 r_4 x3 (8 + v6) f_few f_sawn f_cut _ hV) ok_X10_tries im_X10_tries se_X10_tries li_X10_64 dX10_settles_175 hK hP hS hA [3, 0, 1, 2] [4] 3 rfl rfl rfl (by decide) rfl rfl hl.1 (Nat.le_of_ble_eq_true rfl) ⟨Nat.le_of_ble_eq_true rfl, Nat.le_of_ble_eq_true rfl⟩ ⟨Nat.le_of_ble_eq_true rfl, Nat.le_of_ble_eq_true rfl⟩ (fun u H locs hV hP hS => ?_)
          obtain ⟨f_few_5, f_sawn_6, f_cut_7⟩ := u
          try dsimp only at hV
          have hP : PD D A [ai cI a_all 3320 f_all, oc a_this 9 [.ref a_all, .ref a_has, .ref a_few, .ref a_sawn, .ref a_cut, .ref a_todo, .ref a_press, .ref a_gone], ai cI a_few 4096 f_few_5, ai cI a_sawn 4096 f_sawn_6, ai cI a_cut 4096 f_cut_7] H := hP
          obtain ⟨v6_8, e_v6_8⟩ : ∃ y : Int32, y = (v6 + 1) := ⟨_, rfl⟩
          have hV := hV v6_8 e_v6_8
          refine lv_iinc (v := v6_8) (lv' := [(6, .int v6_8), (0, .ref a_this), (1, .int x1), (2, .int x2), (3, .int x3), (4, .int x4), (5, .int v5)]) hx hb dX10_settles_178 hl (k := 6) rfl (by rw [e_v6_8]; rfl) (by decide) rfl (fun ls hl => ?_)
          refine lv_goto (tgt := 125) hx hb dX10_settles_181 (by decide) ?_
          exact ih125 v6_8 f_few_5 f_sawn_6 f_cut_7 _ _ _ (hP.sub [1, 0, 2, 3, 4] rfl rfl) hS (lv_sub hl [1, 2, 3, 4, 5, 6, 0] rfl) hV
  have b64 : ∀ (v5 : Int32) (k64 : Nat) (v6 : Int32) (f_few : Nat → Int32) (f_sawn : Nat → Int32) (f_cut : Nat → Int32) (H : Heap) (locs : List Loc) (ls : Array Slot), PD D A [oc a_this 9 [.ref a_all, .ref a_has, .ref a_few, .ref a_sawn, .ref a_cut, .ref a_todo, .ref a_press, .ref a_gone], ai cI a_all 3320 f_all, ai cI a_few 4096 f_few, ai cI a_sawn 4096 f_sawn, ai cI a_cut 4096 f_cut] H → va_S A s.heap H locs → lv_has ls 7 [(0, .ref a_this), (1, .int x1), (2, .int x2), (3, .int x3), (4, .int x4), (5, .int v5), (6, .int v6)] → V_X10_settles_64 x1 x2 x3 x4 v5 f_all post k64 v6 f_few f_sawn f_cut → W p l e rm_X10_settles s m args below meth c H locs 0 0 Q (F0 m 64 ls []) := by
    intro v5 k64
    induction k64 with
    | zero => intro v6 f_few f_sawn f_cut H locs ls hP hS hl hV; exact False.elim hV
    | succ k64 ih64 =>
      intro v6 f_few f_sawn f_cut H locs ls hP hS hl hV
      rw [V_X10_settles_64_s] at hV
      refine lv_iload hx hb dX10_settles_64 (lv_at hl 6 rfl) ?_
      refine lv_iload_n hx hb dX10_settles_66 rfl (lv_at hl 3 rfl) ?_
      refine lv_icmp_ge (tgt := 122) hx hb dX10_settles_67 (by decide) (fun h => ?_) (fun h => ?_)
      · have hV := hV.1 h
        refine lv_iconst (v := 1) hx hb dX10_settles_122 (by decide) ?_
        refine lv_istore (lv' := [(6, .int 1), (0, .ref a_this), (1, .int x1), (2, .int x2), (3, .int x3), (4, .int x4), (5, .int v5)]) hx hb dX10_settles_123 hl (by decide) rfl (fun ls hl => ?_)
        obtain ⟨k, hV⟩ := hV
        exact b125 v5 k 1 f_few f_sawn f_cut _ _ _ hP hS (lv_sub hl [1, 2, 3, 4, 5, 6, 0] rfl) hV
      · have hV := hV.2 h
        refine lv_aload_n hx hb dX10_settles_70 rfl (lv_at hl 0 rfl) ?_
        refine lv_iload_n hx hb dX10_settles_71 rfl (lv_at hl 1 rfl) ?_
        refine lv_iload_n hx hb dX10_settles_72 rfl (lv_at hl 2 rfl) ?_
        refine lv_iload hx hb dX10_settles_73 (lv_at hl 4 rfl) ?_
        refine lv_iload hx hb dX10_settles_75 (lv_at hl 6 rfl) ?_
        refine KVi (As := [.int x1, .int x2, .int x4, .int v6]) (rest := []) FX (c_X10_mayUpright l D cI cB cS a_this a_all a_has a_few a_sawn a_cut a_todo a_press a_gone x1 x2 x4 v6 f_all _ hV) ok_X10_mayUpright im_X10_mayUpright se_X10_mayUpright li_X10_60 dX10_settles_77 hK hP hS hA [0, 1] [2, 3, 4] 0 rfl rfl rfl (by decide) rfl rfl hl.1 (Nat.le_of_ble_eq_true rfl) ⟨Nat.le_of_ble_eq_true rfl, Nat.le_of_ble_eq_true rfl⟩ ⟨Nat.le_of_ble_eq_true rfl, Nat.le_of_ble_eq_true rfl⟩ (fun r_9 _ H locs hV hP hS => ?_)
        have hP : PD D A [ai cI a_few 4096 f_few, ai cI a_sawn 4096 f_sawn, ai cI a_cut 4096 f_cut, oc a_this 9 [.ref a_all, .ref a_has, .ref a_few, .ref a_sawn, .ref a_cut, .ref a_todo, .ref a_press, .ref a_gone], ai cI a_all 3320 f_all] H := hP
        refine lv_if_eq (tgt := 116) hx hb dX10_settles_80 (by decide) (fun h => ?_) (fun h => ?_)
        · have hV := hV.1 h
          obtain ⟨v6_10, e_v6_10⟩ : ∃ y : Int32, y = (v6 + 1) := ⟨_, rfl⟩
          have hV := hV v6_10 e_v6_10
          refine lv_iinc (v := v6_10) (lv' := [(6, .int v6_10), (0, .ref a_this), (1, .int x1), (2, .int x2), (3, .int x3), (4, .int x4), (5, .int v5)]) hx hb dX10_settles_116 hl (k := 6) rfl (by rw [e_v6_10]; rfl) (by decide) rfl (fun ls hl => ?_)
          refine lv_goto (tgt := 64) hx hb dX10_settles_119 (by decide) ?_
          exact ih64 v6_10 f_few f_sawn f_cut _ _ _ (hP.sub [3, 4, 0, 1, 2] rfl rfl) hS (lv_sub hl [1, 2, 3, 4, 5, 6, 0] rfl) hV
        · have hV := hV.2 h
          refine lv_aload_n hx hb dX10_settles_83 rfl (lv_at hl 0 rfl) ?_
          refine lv_iload hx hb dX10_settles_84 (lv_at hl 5 rfl) ?_
          refine lv_iload_n hx hb dX10_settles_86 rfl (lv_at hl 1 rfl) ?_
          refine lv_iload_n hx hb dX10_settles_87 rfl (lv_at hl 2 rfl) ?_
          refine lv_iload hx hb dX10_settles_88 (lv_at hl 6 rfl) ?_
          refine lv_iload hx hb dX10_settles_90 (lv_at hl 4 rfl) ?_
          refine KSi (As := [.int x1, .int x2, .int v6, .int x4]) (rest := [.int v5, .ref a_this]) FX (c_X10_part l D cI cB cS x1 x2 v6 x4 _ hV) ok_X10_part is_X10_part li_X10_53 dX10_settles_92 hK hP hS hA [] [0, 1, 2, 3, 4] rfl rfl (by decide) rfl hl.1 (Nat.le_of_ble_eq_true rfl) ⟨Nat.le_of_ble_eq_true rfl, Nat.le_of_ble_eq_true rfl⟩ ⟨Nat.le_of_ble_eq_true rfl, Nat.le_of_ble_eq_true rfl⟩ (fun r_11 _ H locs hV hP hS => ?_)
          have hP : PD D A [ai cI a_few 4096 f_few, ai cI a_sawn 4096 f_sawn, ai cI a_cut 4096 f_cut, oc a_this 9 [.ref a_all, .ref a_has, .ref a_few, .ref a_sawn, .ref a_cut, .ref a_todo, .ref a_press, .ref a_gone], ai cI a_all 3320 f_all] H := hP
          refine lv_iload_n hx hb dX10_settles_95 rfl (lv_at hl 1 rfl) ?_
          refine lv_iload hx hb dX10_settles_96 (lv_at hl 6 rfl) ?_
          refine lv_iadd hx hb dX10_settles_98 ?_
          refine lv_iload_n hx hb dX10_settles_99 rfl (lv_at hl 2 rfl) ?_
          refine lv_iload_n hx hb dX10_settles_100 rfl (lv_at hl 3 rfl) ?_
          refine lv_iload hx hb dX10_settles_101 (lv_at hl 6 rfl) ?_
          refine lv_isub hx hb dX10_settles_103 ?_
          refine lv_iload hx hb dX10_settles_104 (lv_at hl 4 rfl) ?_
          refine KSi (As := [.int (x1 + v6), .int x2, .int (x3 - v6), .int x4]) (rest := [.int r_11, .int v5, .ref a_this]) FX (c_X10_part l D cI cB cS (x1 + v6) x2 (x3 - v6) x4 _ hV) ok_X10_part is_X10_part li_X10_53 dX10_settles_106 hK hP hS hA [] [0, 1, 2, 3, 4] rfl rfl (by decide) rfl hl.1 (Nat.le_of_ble_eq_true rfl) ⟨Nat.le_of_ble_eq_true rfl, Nat.le_of_ble_eq_true rfl⟩ ⟨Nat.le_of_ble_eq_true rfl, Nat.le_of_ble_eq_true rfl⟩ (fun r_12 _ H locs hV hP hS => ?_)
          have hP : PD D A [ai cI a_few 4096 f_few, ai cI a_sawn 4096 f_sawn, ai cI a_cut 4096 f_cut, oc a_this 9 [.ref a_all, .ref a_has, .ref a_few, .ref a_sawn, .ref a_cut, .ref a_todo, .ref a_press, .ref a_gone], ai cI a_all 3320 f_all] H := hP
          refine lv_iload hx hb dX10_settles_109 (lv_at hl 4 rfl) ?_
          refine lv_iload hx hb dX10_settles_111 (lv_at hl 6 rfl) ?_
          refine KVv (As := [.int v5, .int r_11, .int r_12, .int x4, .int v6]) (rest := []) FX (c_X10_tries l D cI cB cS a_this a_few a_sawn a_cut a_all a_has a_todo a_press a_gone v5 r_11 r_12 x4 v6 f_few f_sawn f_cut _ hV) ok_X10_tries im_X10_tries se_X10_tries li_X10_64 dX10_settles_113 hK hP hS hA [3, 0, 1, 2] [4] 3 rfl rfl rfl (by decide) rfl rfl hl.1 (Nat.le_of_ble_eq_true rfl) ⟨Nat.le_of_ble_eq_true rfl, Nat.le_of_ble_eq_true rfl⟩ ⟨Nat.le_of_ble_eq_true rfl, Nat.le_of_ble_eq_true rfl⟩ (fun u H locs hV hP hS => ?_)
          obtain ⟨f_few_13, f_sawn_14, f_cut_15⟩ := u
          try dsimp only at hV
          have hP : PD D A [ai cI a_all 3320 f_all, oc a_this 9 [.ref a_all, .ref a_has, .ref a_few, .ref a_sawn, .ref a_cut, .ref a_todo, .ref a_press, .ref a_gone], ai cI a_few 4096 f_few_13, ai cI a_sawn 4096 f_sawn_14, ai cI a_cut 4096 f_cut_15] H := hP
          obtain ⟨v6_16, e_v6_16⟩ : ∃ y : Int32, y = (v6 + 1) := ⟨_, rfl⟩
          have hV := hV v6_16 e_v6_16
          refine lv_iinc (v := v6_16) (lv' := [(6, .int v6_16), (0, .ref a_this), (1, .int x1), (2, .int x2), (3, .int x3), (4, .int x4), (5, .int v5)]) hx hb dX10_settles_116 hl (k := 6) rfl (by rw [e_v6_16]; rfl) (by decide) rfl (fun ls hl => ?_)
          refine lv_goto (tgt := 64) hx hb dX10_settles_119 (by decide) ?_
          exact ih64 v6_16 f_few_13 f_sawn_14 f_cut_15 _ _ _ (hP.sub [1, 0, 2, 3, 4] rfl rfl) hS (lv_sub hl [1, 2, 3, 4, 5, 6, 0] rfl) hV
  refine lv_iload_n hx hb dX10_settles_0 rfl (lv_at hl 1 rfl) ?_
  refine lv_iload_n hx hb dX10_settles_1 rfl (lv_at hl 2 rfl) ?_
  refine lv_iload_n hx hb dX10_settles_2 rfl (lv_at hl 3 rfl) ?_
  refine lv_iload hx hb dX10_settles_3 (lv_at hl 4 rfl) ?_
  refine KSi (As := [.int x1, .int x2, .int x3, .int x4]) (rest := []) FX (c_X10_part l D cI cB cS x1 x2 x3 x4 _ hV) ok_X10_part is_X10_part li_X10_53 dX10_settles_5 hK hP hS hA [] [0, 1, 2, 3, 4] rfl rfl (by decide) rfl hl.1 (Nat.le_of_ble_eq_true rfl) ⟨Nat.le_of_ble_eq_true rfl, Nat.le_of_ble_eq_true rfl⟩ ⟨Nat.le_of_ble_eq_true rfl, Nat.le_of_ble_eq_true rfl⟩ (fun r_17 _ H locs hV hP hS => ?_)
  have hP : PD D A [oc a_this 9 [.ref a_all, .ref a_has, .ref a_few, .ref a_sawn, .ref a_cut, .ref a_todo, .ref a_press, .ref a_gone], ai cI a_all 3320 f_all, ai cI a_few 4096 f_few, ai cI a_sawn 4096 f_sawn, ai cI a_cut 4096 f_cut] H := hP
  refine lv_istore (lv' := [(5, .int r_17), (0, .ref a_this), (1, .int x1), (2, .int x2), (3, .int x3), (4, .int x4)]) hx hb dX10_settles_8 hl (by decide) rfl (fun ls hl => ?_)
  refine lv_aload_n hx hb dX10_settles_10 rfl (lv_at hl 1 rfl) ?_
  refine gX10 hx hb ht hown hK hP 0 rfl 2 (by decide) fl_X10_17 (fun _ h => h) rfl dX10_settles_11 ?_
  refine lv_iload hx hb dX10_settles_14 (lv_at hl 0 rfl) ?_
  refine lv_iconst (v := 0) hx hb dX10_settles_16 (by decide) ?_
  refine ist hx hb hK hP hS 2 rfl dX10_settles_17 hV.1 (fun f_few_18 e_f_few_18 H locs hP hS => ?_)
  have hV := hV.2 f_few_18 e_f_few_18
  have hP : PD D A [oc a_this 9 [.ref a_all, .ref a_has, .ref a_few, .ref a_sawn, .ref a_cut, .ref a_todo, .ref a_press, .ref a_gone], ai cI a_all 3320 f_all, ai cI a_few 4096 f_few_18, ai cI a_sawn 4096 f_sawn, ai cI a_cut 4096 f_cut] H := hP
  refine lv_aload_n hx hb dX10_settles_18 rfl (lv_at hl 1 rfl) ?_
  refine gX10 hx hb ht hown hK hP 0 rfl 3 (by decide) fl_X10_20 (fun _ h => h) rfl dX10_settles_19 ?_
  refine lv_iload hx hb dX10_settles_22 (lv_at hl 0 rfl) ?_
  refine lv_iconst (v := 0) hx hb dX10_settles_24 (by decide) ?_
  refine ist hx hb hK hP hS 3 rfl dX10_settles_25 hV.1 (fun f_sawn_19 e_f_sawn_19 H locs hP hS => ?_)
  have hV := hV.2 f_sawn_19 e_f_sawn_19
  have hP : PD D A [oc a_this 9 [.ref a_all, .ref a_has, .ref a_few, .ref a_sawn, .ref a_cut, .ref a_todo, .ref a_press, .ref a_gone], ai cI a_all 3320 f_all, ai cI a_few 4096 f_few_18, ai cI a_sawn 4096 f_sawn_19, ai cI a_cut 4096 f_cut] H := hP
  refine lv_aload_n hx hb dX10_settles_26 rfl (lv_at hl 1 rfl) ?_
  refine gX10 hx hb ht hown hK hP 0 rfl 4 (by decide) fl_X10_23 (fun _ h => h) rfl dX10_settles_27 ?_
  refine lv_iload hx hb dX10_settles_30 (lv_at hl 0 rfl) ?_
  refine lv_iconst (v := 0) hx hb dX10_settles_32 (by decide) ?_
  refine ist hx hb hK hP hS 4 rfl dX10_settles_33 hV.1 (fun f_cut_20 e_f_cut_20 H locs hP hS => ?_)
  have hV := hV.2 f_cut_20 e_f_cut_20
  have hP : PD D A [oc a_this 9 [.ref a_all, .ref a_has, .ref a_few, .ref a_sawn, .ref a_cut, .ref a_todo, .ref a_press, .ref a_gone], ai cI a_all 3320 f_all, ai cI a_few 4096 f_few_18, ai cI a_sawn 4096 f_sawn_19, ai cI a_cut 4096 f_cut_20] H := hP
  refine lv_aload_n hx hb dX10_settles_34 rfl (lv_at hl 1 rfl) ?_
  refine lv_iload_n hx hb dX10_settles_35 rfl (lv_at hl 2 rfl) ?_
  refine lv_iload_n hx hb dX10_settles_36 rfl (lv_at hl 3 rfl) ?_
  refine lv_iload_n hx hb dX10_settles_37 rfl (lv_at hl 4 rfl) ?_
  refine lv_iload hx hb dX10_settles_38 (lv_at hl 5 rfl) ?_
  refine KVi (As := [.int x1, .int x2, .int x3, .int x4]) (rest := []) FX (c_X10_weight l D cI cB cS a_this a_all a_has a_few a_sawn a_cut a_todo a_press a_gone x1 x2 x3 x4 f_all _ hV) ok_X10_weight im_X10_weight se_X10_weight li_X10_57 dX10_settles_40 hK hP hS hA [0, 1] [2, 3, 4] 0 rfl rfl rfl (by decide) rfl rfl hl.1 (Nat.le_of_ble_eq_true rfl) ⟨Nat.le_of_ble_eq_true rfl, Nat.le_of_ble_eq_true rfl⟩ ⟨Nat.le_of_ble_eq_true rfl, Nat.le_of_ble_eq_true rfl⟩ (fun r_21 _ H locs hV hP hS => ?_)
  have hP : PD D A [ai cI a_few 4096 f_few_18, ai cI a_sawn 4096 f_sawn_19, ai cI a_cut 4096 f_cut_20, oc a_this 9 [.ref a_all, .ref a_has, .ref a_few, .ref a_sawn, .ref a_cut, .ref a_todo, .ref a_press, .ref a_gone], ai cI a_all 3320 f_all] H := hP
  refine lv_aload_n hx hb dX10_settles_43 rfl (lv_at hl 1 rfl) ?_
  refine gX10 hx hb ht hown hK hP 3 rfl 0 (by decide) fl_X10_7 (fun _ h => h) rfl dX10_settles_44 ?_
  refine lv_iconst (v := 2) hx hb dX10_settles_47 (by decide) ?_
  refine ild hx hb hK hP 4 rfl dX10_settles_48 hV.1 ?_
  have hV := hV.2
  refine lv_icmp_gt (tgt := 61) hx hb dX10_settles_49 (by decide) (fun h => ?_) (fun h => ?_)
  · have hV := hV.1 h
    refine lv_iconst (v := 1) hx hb dX10_settles_61 (by decide) ?_
    refine lv_istore (lv' := [(6, .int 1), (5, .int r_17), (0, .ref a_this), (1, .int x1), (2, .int x2), (3, .int x3), (4, .int x4)]) hx hb dX10_settles_62 hl (by decide) rfl (fun ls hl => ?_)
    obtain ⟨k, hV⟩ := hV
    exact b64 r_17 k 1 f_few_18 f_sawn_19 f_cut_20 _ _ _ (hP.sub [3, 4, 0, 1, 2] rfl rfl) hS (lv_sub hl [2, 3, 4, 5, 6, 1, 0] rfl) hV
  · have hV := hV.2 h
    refine lv_aload_n hx hb dX10_settles_52 rfl (lv_at hl 1 rfl) ?_
    refine gX10 hx hb ht hown hK hP 3 rfl 2 (by decide) fl_X10_17 (fun _ h => h) rfl dX10_settles_53 ?_
    refine lv_iload hx hb dX10_settles_56 (lv_at hl 0 rfl) ?_
    refine lv_iconst (v := 1) hx hb dX10_settles_58 (by decide) ?_
    refine ist hx hb hK hP hS 0 rfl dX10_settles_59 hV.1 (fun f_few_22 e_f_few_22 H locs hP hS => ?_)
    have hV := hV.2 f_few_22 e_f_few_22
    have hP : PD D A [ai cI a_few 4096 f_few_22, ai cI a_sawn 4096 f_sawn_19, ai cI a_cut 4096 f_cut_20, oc a_this 9 [.ref a_all, .ref a_has, .ref a_few, .ref a_sawn, .ref a_cut, .ref a_todo, .ref a_press, .ref a_gone], ai cI a_all 3320 f_all] H := hP
    exact hret _ _ _ _ (f_few_22, f_sawn_19, f_cut_20) hS dX10_settles_60 (hP.sub [3, 4, 0, 1, 2] rfl rfl) hV

def rm_X10_of : Room := { frames := 0, cells := 0, slots := 0, locals := 0 }
def P_X10_of (x1 : Int32) (x2 : Int32) (f_all : Nat → Int32) (post : Int32 → Prop) : Prop := (vp_in ((170 + (8 * x1)) + x2) 3320 ∧ post (f_all ((170 + (8 * x1)) + x2).toNatClampNeg))
set_option maxRecDepth 100000 in
set_option maxHeartbeats 4000000 in
theorem c_X10_of (l : Launch) (D : va_G) (cI cB cS : ClassId) (a_this a_all a_has a_few a_sawn a_cut a_todo a_press a_gone : Nat) (x1 : Int32) (x2 : Int32) (f_all : Nat → Int32) (post : Int32 → Prop) (hV : P_X10_of x1 x2 f_all post) : Ci l yX10_of cX10_of 3 (some .int) rm_X10_of D cI cB cS [.ref a_this, .int x1, .int x2] [oc a_this 9 [.ref a_all, .ref a_has, .ref a_few, .ref a_sawn, .ref a_cut, .ref a_todo, .ref a_press, .ref a_gone], ai cI a_all 3320 f_all] (fun r (_ : Unit) => post r) (fun (_ : Unit) => [oc a_this 9 [.ref a_all, .ref a_has, .ref a_few, .ref a_sawn, .ref a_cut, .ref a_todo, .ref a_press, .ref a_gone], ai cI a_all 3320 f_all]) := by
  refine Ci.of ok_X10_of (Nat.le_of_ble_eq_true rfl) ?_
  intro p e s m args below meth c A Q hx hb hml hown ht hnm hK hP hA hS hret ls hl
  have hown : s.vm.findClass RX10 = some m.cls := hown
  have FX : CallFix p m c cX10_of 3 s args tblG RX10 := ⟨hx, hb, hml, hown, ht⟩
  have hP : PD D A [oc a_this 9 [.ref a_all, .ref a_has, .ref a_few, .ref a_sawn, .ref a_cut, .ref a_todo, .ref a_press, .ref a_gone], ai cI a_all 3320 f_all] s.heap := hP
  have hl : lv_has ls 3 [(0, .ref a_this), (1, .int x1), (2, .int x2)] := hl
  unfold P_X10_of at hV
  refine lv_aload_n hx hb dX10_of_0 rfl (lv_at hl 0 rfl) ?_
  refine gX10 hx hb ht hown hK hP 0 rfl 0 (by decide) fl_X10_7 (fun _ h => h) rfl dX10_of_1 ?_
  refine lv_sipush (v := 170) hx hb dX10_of_4 (by decide) ?_
  refine lv_bipush (v := 8) hx hb dX10_of_7 (by decide) ?_
  refine lv_iload_n hx hb dX10_of_9 rfl (lv_at hl 1 rfl) ?_
  refine lv_imul hx hb dX10_of_10 ?_
  refine lv_iadd hx hb dX10_of_11 ?_
  refine lv_iload_n hx hb dX10_of_12 rfl (lv_at hl 2 rfl) ?_
  refine lv_iadd hx hb dX10_of_13 ?_
  refine ild hx hb hK hP 1 rfl dX10_of_14 hV.1 ?_
  have hV := hV.2
  exact hret _ _ _ _ _ () hS dX10_of_15 hP hV

def rm_X10_turnOf : Room := { frames := 1, cells := 0, slots := 0, locals := 22 }
def V_X10_turnOf_4 (x1 : Int32) (f_all : Nat → Int32) (post : Int32 → Prop) : Nat → Int32 → Int32 → Prop
  | 0, _, _ => False
  | n + 1, v2, v3 => (vp_in 5 3320 ∧ (((f_all (5 : Int32).toNatClampNeg) ≤ v3 → post v2) ∧ (¬ (f_all (5 : Int32).toNatClampNeg) ≤ v3 → P_X10_of v3 1 f_all (fun r_1 => P_X10_of x1 1 f_all (fun r_2 => ((r_1 < r_2 → (∀ v2_3 : Int32, v2_3 = (v2 + 1) → (∀ v3_4 : Int32, v3_4 = (v3 + 1) → V_X10_turnOf_4 x1 f_all post n v2_3 v3_4))) ∧ (¬ r_1 < r_2 → P_X10_of v3 1 f_all (fun r_5 => P_X10_of x1 1 f_all (fun r_6 => ((r_5 = r_6 → P_X10_of v3 0 f_all (fun r_9 => P_X10_of x1 0 f_all (fun r_10 => ((r_10 ≤ r_9 → (∀ v2_11 : Int32, v2_11 = (v2 + 0) → (∀ v3_12 : Int32, v3_12 = (v3 + 1) → V_X10_turnOf_4 x1 f_all post n v2_11 v3_12))) ∧ (¬ r_10 ≤ r_9 → (∀ v2_13 : Int32, v2_13 = (v2 + 1) → (∀ v3_14 : Int32, v3_14 = (v3 + 1) → V_X10_turnOf_4 x1 f_all post n v2_13 v3_14))))))) ∧ (¬ r_5 = r_6 → (∀ v2_7 : Int32, v2_7 = (v2 + 0) → (∀ v3_8 : Int32, v3_8 = (v3 + 1) → V_X10_turnOf_4 x1 f_all post n v2_7 v3_8)))))))))))))
theorem V_X10_turnOf_4_s (x1 : Int32) (f_all : Nat → Int32) (post : Int32 → Prop) (n : Nat) (v2 : Int32) (v3 : Int32) : V_X10_turnOf_4 x1 f_all post (n + 1) v2 v3 = ((vp_in 5 3320 ∧ (((f_all (5 : Int32).toNatClampNeg) ≤ v3 → post v2) ∧ (¬ (f_all (5 : Int32).toNatClampNeg) ≤ v3 → P_X10_of v3 1 f_all (fun r_1 => P_X10_of x1 1 f_all (fun r_2 => ((r_1 < r_2 → (∀ v2_3 : Int32, v2_3 = (v2 + 1) → (∀ v3_4 : Int32, v3_4 = (v3 + 1) → V_X10_turnOf_4 x1 f_all post n v2_3 v3_4))) ∧ (¬ r_1 < r_2 → P_X10_of v3 1 f_all (fun r_5 => P_X10_of x1 1 f_all (fun r_6 => ((r_5 = r_6 → P_X10_of v3 0 f_all (fun r_9 => P_X10_of x1 0 f_all (fun r_10 => ((r_10 ≤ r_9 → (∀ v2_11 : Int32, v2_11 = (v2 + 0) → (∀ v3_12 : Int32, v3_12 = (v3 + 1) → V_X10_turnOf_4 x1 f_all post n v2_11 v3_12))) ∧ (¬ r_10 ≤ r_9 → (∀ v2_13 : Int32, v2_13 = (v2 + 1) → (∀ v3_14 : Int32, v3_14 = (v3 + 1) → V_X10_turnOf_4 x1 f_all post n v2_13 v3_14))))))) ∧ (¬ r_5 = r_6 → (∀ v2_7 : Int32, v2_7 = (v2 + 0) → (∀ v3_8 : Int32, v3_8 = (v3 + 1) → V_X10_turnOf_4 x1 f_all post n v2_7 v3_8)))))))))))))) := rfl
def P_X10_turnOf (x1 : Int32) (f_all : Nat → Int32) (post : Int32 → Prop) : Prop := (∃ k : Nat, V_X10_turnOf_4 x1 f_all post k 0 0)
set_option maxRecDepth 100000 in
set_option maxHeartbeats 4000000 in
theorem c_X10_turnOf (l : Launch) (D : va_G) (cI cB cS : ClassId) (a_this a_all a_has a_few a_sawn a_cut a_todo a_press a_gone : Nat) (x1 : Int32) (f_all : Nat → Int32) (post : Int32 → Prop) (hV : P_X10_turnOf x1 f_all post) : Ci l yX10_turnOf cX10_turnOf 4 (some .int) rm_X10_turnOf D cI cB cS [.ref a_this, .int x1] [oc a_this 9 [.ref a_all, .ref a_has, .ref a_few, .ref a_sawn, .ref a_cut, .ref a_todo, .ref a_press, .ref a_gone], ai cI a_all 3320 f_all] (fun r (_ : Unit) => post r) (fun (_ : Unit) => [oc a_this 9 [.ref a_all, .ref a_has, .ref a_few, .ref a_sawn, .ref a_cut, .ref a_todo, .ref a_press, .ref a_gone], ai cI a_all 3320 f_all]) := by
  refine Ci.of ok_X10_turnOf (Nat.le_of_ble_eq_true rfl) ?_
  intro p e s m args below meth c A Q hx hb hml hown ht hnm hK hP hA hS hret ls hl
  have hown : s.vm.findClass RX10 = some m.cls := hown
  have FX : CallFix p m c cX10_turnOf 4 s args tblG RX10 := ⟨hx, hb, hml, hown, ht⟩
  have hP : PD D A [oc a_this 9 [.ref a_all, .ref a_has, .ref a_few, .ref a_sawn, .ref a_cut, .ref a_todo, .ref a_press, .ref a_gone], ai cI a_all 3320 f_all] s.heap := hP
  have hl : lv_has ls 4 [(0, .ref a_this), (1, .int x1)] := hl
  unfold P_X10_turnOf at hV
  have b4 : ∀  (k4 : Nat) (v2 : Int32) (v3 : Int32) (H : Heap) (locs : List Loc) (ls : Array Slot), PD D A [oc a_this 9 [.ref a_all, .ref a_has, .ref a_few, .ref a_sawn, .ref a_cut, .ref a_todo, .ref a_press, .ref a_gone], ai cI a_all 3320 f_all] H → va_S A s.heap H locs → lv_has ls 4 [(0, .ref a_this), (1, .int x1), (2, .int v2), (3, .int v3)] → V_X10_turnOf_4 x1 f_all post k4 v2 v3 → W p l e rm_X10_turnOf s m args below meth c H locs 0 0 Q (F0 m 4 ls []) := by
    intro  k4
    induction k4 with
    | zero => intro v2 v3 H locs ls hP hS hl hV; exact False.elim hV
    | succ k4 ih4 =>
      intro v2 v3 H locs ls hP hS hl hV
      rw [V_X10_turnOf_4_s] at hV
      refine lv_iload_n hx hb dX10_turnOf_4 rfl (lv_at hl 3 rfl) ?_
      refine lv_aload_n hx hb dX10_turnOf_5 rfl (lv_at hl 0 rfl) ?_
      refine gX10 hx hb ht hown hK hP 0 rfl 0 (by decide) fl_X10_7 (fun _ h => h) rfl dX10_turnOf_6 ?_
      refine lv_iconst (v := 5) hx hb dX10_turnOf_9 (by decide) ?_
      refine ild hx hb hK hP 1 rfl dX10_turnOf_10 hV.1 ?_
      have hV := hV.2
      refine lv_icmp_ge (tgt := 73) hx hb dX10_turnOf_11 (by decide) (fun h => ?_) (fun h => ?_)
      · have hV := hV.1 h
        refine lv_iload_n hx hb dX10_turnOf_73 rfl (lv_at hl 2 rfl) ?_
        exact hret _ _ _ _ _ () hS dX10_turnOf_74 hP hV
      · have hV := hV.2 h
        refine lv_iload_n hx hb dX10_turnOf_14 rfl (lv_at hl 2 rfl) ?_
        refine lv_aload_n hx hb dX10_turnOf_15 rfl (lv_at hl 0 rfl) ?_
        refine lv_iload_n hx hb dX10_turnOf_16 rfl (lv_at hl 3 rfl) ?_
        refine lv_iconst (v := 1) hx hb dX10_turnOf_17 (by decide) ?_
        refine KVi (As := [.int v3, .int 1]) (rest := [.int v2]) FX (c_X10_of l D cI cB cS a_this a_all a_has a_few a_sawn a_cut a_todo a_press a_gone v3 1 f_all _ hV) ok_X10_of im_X10_of se_X10_of li_X10_86 dX10_turnOf_18 hK hP hS hA [0, 1] [] 0 rfl rfl rfl (by decide) rfl rfl hl.1 (Nat.le_of_ble_eq_true rfl) ⟨Nat.le_of_ble_eq_true rfl, Nat.le_of_ble_eq_true rfl⟩ ⟨Nat.le_of_ble_eq_true rfl, Nat.le_of_ble_eq_true rfl⟩ (fun r_1 _ H locs hV hP hS => ?_)
        have hP : PD D A [oc a_this 9 [.ref a_all, .ref a_has, .ref a_few, .ref a_sawn, .ref a_cut, .ref a_todo, .ref a_press, .ref a_gone], ai cI a_all 3320 f_all] H := hP
        refine lv_aload_n hx hb dX10_turnOf_21 rfl (lv_at hl 0 rfl) ?_
        refine lv_iload_n hx hb dX10_turnOf_22 rfl (lv_at hl 1 rfl) ?_
        refine lv_iconst (v := 1) hx hb dX10_turnOf_23 (by decide) ?_
        refine KVi (As := [.int x1, .int 1]) (rest := [.int r_1, .int v2]) FX (c_X10_of l D cI cB cS a_this a_all a_has a_few a_sawn a_cut a_todo a_press a_gone x1 1 f_all _ hV) ok_X10_of im_X10_of se_X10_of li_X10_86 dX10_turnOf_24 hK hP hS hA [0, 1] [] 0 rfl rfl rfl (by decide) rfl rfl hl.1 (Nat.le_of_ble_eq_true rfl) ⟨Nat.le_of_ble_eq_true rfl, Nat.le_of_ble_eq_true rfl⟩ ⟨Nat.le_of_ble_eq_true rfl, Nat.le_of_ble_eq_true rfl⟩ (fun r_2 _ H locs hV hP hS => ?_)
        have hP : PD D A [oc a_this 9 [.ref a_all, .ref a_has, .ref a_few, .ref a_sawn, .ref a_cut, .ref a_todo, .ref a_press, .ref a_gone], ai cI a_all 3320 f_all] H := hP
        refine lv_icmp_lt (tgt := 60) hx hb dX10_turnOf_27 (by decide) (fun h => ?_) (fun h => ?_)
        · have hV := hV.1 h
          refine lv_iconst (v := 1) hx hb dX10_turnOf_60 (by decide) ?_
          refine lv_goto (tgt := 65) hx hb dX10_turnOf_61 (by decide) ?_
          refine lv_iadd hx hb dX10_turnOf_65 ?_
          refine lv_topi (fun v2_3 e_v2_3 => ?_)
          have hV := hV v2_3 e_v2_3
          refine lv_istore_n (lv' := [(2, .int v2_3), (0, .ref a_this), (1, .int x1), (3, .int v3)]) hx hb dX10_turnOf_66 rfl hl (by decide) rfl (fun ls hl => ?_)
          obtain ⟨v3_4, e_v3_4⟩ : ∃ y : Int32, y = (v3 + 1) := ⟨_, rfl⟩
          have hV := hV v3_4 e_v3_4
          refine lv_iinc (v := v3_4) (lv' := [(3, .int v3_4), (2, .int v2_3), (0, .ref a_this), (1, .int x1)]) hx hb dX10_turnOf_67 hl (k := 3) rfl (by rw [e_v3_4]; rfl) (by decide) rfl (fun ls hl => ?_)
          refine lv_goto (tgt := 4) hx hb dX10_turnOf_70 (by decide) ?_
          exact ih4 v2_3 v3_4 _ _ _ hP hS (lv_sub hl [2, 3, 1, 0] rfl) hV
        · have hV := hV.2 h
          refine lv_aload_n hx hb dX10_turnOf_30 rfl (lv_at hl 0 rfl) ?_
          refine lv_iload_n hx hb dX10_turnOf_31 rfl (lv_at hl 3 rfl) ?_
          refine lv_iconst (v := 1) hx hb dX10_turnOf_32 (by decide) ?_
          refine KVi (As := [.int v3, .int 1]) (rest := [.int v2]) FX (c_X10_of l D cI cB cS a_this a_all a_has a_few a_sawn a_cut a_todo a_press a_gone v3 1 f_all _ hV) ok_X10_of im_X10_of se_X10_of li_X10_86 dX10_turnOf_33 hK hP hS hA [0, 1] [] 0 rfl rfl rfl (by decide) rfl rfl hl.1 (Nat.le_of_ble_eq_true rfl) ⟨Nat.le_of_ble_eq_true rfl, Nat.le_of_ble_eq_true rfl⟩ ⟨Nat.le_of_ble_eq_true rfl, Nat.le_of_ble_eq_true rfl⟩ (fun r_5 _ H locs hV hP hS => ?_)
          have hP : PD D A [oc a_this 9 [.ref a_all, .ref a_has, .ref a_few, .ref a_sawn, .ref a_cut, .ref a_todo, .ref a_press, .ref a_gone], ai cI a_all 3320 f_all] H := hP
          refine lv_aload_n hx hb dX10_turnOf_36 rfl (lv_at hl 0 rfl) ?_
          refine lv_iload_n hx hb dX10_turnOf_37 rfl (lv_at hl 1 rfl) ?_
          refine lv_iconst (v := 1) hx hb dX10_turnOf_38 (by decide) ?_
          refine KVi (As := [.int x1, .int 1]) (rest := [.int r_5, .int v2]) FX (c_X10_of l D cI cB cS a_this a_all a_has a_few a_sawn a_cut a_todo a_press a_gone x1 1 f_all _ hV) ok_X10_of im_X10_of se_X10_of li_X10_86 dX10_turnOf_39 hK hP hS hA [0, 1] [] 0 rfl rfl rfl (by decide) rfl rfl hl.1 (Nat.le_of_ble_eq_true rfl) ⟨Nat.le_of_ble_eq_true rfl, Nat.le_of_ble_eq_true rfl⟩ ⟨Nat.le_of_ble_eq_true rfl, Nat.le_of_ble_eq_true rfl⟩ (fun r_6 _ H locs hV hP hS => ?_)
          have hP : PD D A [oc a_this 9 [.ref a_all, .ref a_has, .ref a_few, .ref a_sawn, .ref a_cut, .ref a_todo, .ref a_press, .ref a_gone], ai cI a_all 3320 f_all] H := hP
          refine lv_icmp_ne (tgt := 64) hx hb dX10_turnOf_42 (by decide) (fun h => ?_) (fun h => ?_)
          · have hV := hV.2 h
            refine lv_iconst (v := 0) hx hb dX10_turnOf_64 (by decide) ?_
            refine lv_iadd hx hb dX10_turnOf_65 ?_
            refine lv_topi (fun v2_7 e_v2_7 => ?_)
            have hV := hV v2_7 e_v2_7
            refine lv_istore_n (lv' := [(2, .int v2_7), (0, .ref a_this), (1, .int x1), (3, .int v3)]) hx hb dX10_turnOf_66 rfl hl (by decide) rfl (fun ls hl => ?_)
            obtain ⟨v3_8, e_v3_8⟩ : ∃ y : Int32, y = (v3 + 1) := ⟨_, rfl⟩
            have hV := hV v3_8 e_v3_8
            refine lv_iinc (v := v3_8) (lv' := [(3, .int v3_8), (2, .int v2_7), (0, .ref a_this), (1, .int x1)]) hx hb dX10_turnOf_67 hl (k := 3) rfl (by rw [e_v3_8]; rfl) (by decide) rfl (fun ls hl => ?_)
            refine lv_goto (tgt := 4) hx hb dX10_turnOf_70 (by decide) ?_
            exact ih4 v2_7 v3_8 _ _ _ hP hS (lv_sub hl [2, 3, 1, 0] rfl) hV
          · have hV := hV.1 h
            refine lv_aload_n hx hb dX10_turnOf_45 rfl (lv_at hl 0 rfl) ?_
            refine lv_iload_n hx hb dX10_turnOf_46 rfl (lv_at hl 3 rfl) ?_
            refine lv_iconst (v := 0) hx hb dX10_turnOf_47 (by decide) ?_
            refine KVi (As := [.int v3, .int 0]) (rest := [.int v2]) FX (c_X10_of l D cI cB cS a_this a_all a_has a_few a_sawn a_cut a_todo a_press a_gone v3 0 f_all _ hV) ok_X10_of im_X10_of se_X10_of li_X10_86 dX10_turnOf_48 hK hP hS hA [0, 1] [] 0 rfl rfl rfl (by decide) rfl rfl hl.1 (Nat.le_of_ble_eq_true rfl) ⟨Nat.le_of_ble_eq_true rfl, Nat.le_of_ble_eq_true rfl⟩ ⟨Nat.le_of_ble_eq_true rfl, Nat.le_of_ble_eq_true rfl⟩ (fun r_9 _ H locs hV hP hS => ?_)
            have hP : PD D A [oc a_this 9 [.ref a_all, .ref a_has, .ref a_few, .ref a_sawn, .ref a_cut, .ref a_todo, .ref a_press, .ref a_gone], ai cI a_all 3320 f_all] H := hP
            refine lv_aload_n hx hb dX10_turnOf_51 rfl (lv_at hl 0 rfl) ?_
            refine lv_iload_n hx hb dX10_turnOf_52 rfl (lv_at hl 1 rfl) ?_
            refine lv_iconst (v := 0) hx hb dX10_turnOf_53 (by decide) ?_
            refine KVi (As := [.int x1, .int 0]) (rest := [.int r_9, .int v2]) FX (c_X10_of l D cI cB cS a_this a_all a_has a_few a_sawn a_cut a_todo a_press a_gone x1 0 f_all _ hV) ok_X10_of im_X10_of se_X10_of li_X10_86 dX10_turnOf_54 hK hP hS hA [0, 1] [] 0 rfl rfl rfl (by decide) rfl rfl hl.1 (Nat.le_of_ble_eq_true rfl) ⟨Nat.le_of_ble_eq_true rfl, Nat.le_of_ble_eq_true rfl⟩ ⟨Nat.le_of_ble_eq_true rfl, Nat.le_of_ble_eq_true rfl⟩ (fun r_10 _ H locs hV hP hS => ?_)
            have hP : PD D A [oc a_this 9 [.ref a_all, .ref a_has, .ref a_few, .ref a_sawn, .ref a_cut, .ref a_todo, .ref a_press, .ref a_gone], ai cI a_all 3320 f_all] H := hP
            refine lv_icmp_ge (tgt := 64) hx hb dX10_turnOf_57 (by decide) (fun h => ?_) (fun h => ?_)
            · have hV := hV.1 h
              refine lv_iconst (v := 0) hx hb dX10_turnOf_64 (by decide) ?_
              refine lv_iadd hx hb dX10_turnOf_65 ?_
              refine lv_topi (fun v2_11 e_v2_11 => ?_)
              have hV := hV v2_11 e_v2_11
              refine lv_istore_n (lv' := [(2, .int v2_11), (0, .ref a_this), (1, .int x1), (3, .int v3)]) hx hb dX10_turnOf_66 rfl hl (by decide) rfl (fun ls hl => ?_)
              obtain ⟨v3_12, e_v3_12⟩ : ∃ y : Int32, y = (v3 + 1) := ⟨_, rfl⟩
              have hV := hV v3_12 e_v3_12
              refine lv_iinc (v := v3_12) (lv' := [(3, .int v3_12), (2, .int v2_11), (0, .ref a_this), (1, .int x1)]) hx hb dX10_turnOf_67 hl (k := 3) rfl (by rw [e_v3_12]; rfl) (by decide) rfl (fun ls hl => ?_)
              refine lv_goto (tgt := 4) hx hb dX10_turnOf_70 (by decide) ?_
              exact ih4 v2_11 v3_12 _ _ _ hP hS (lv_sub hl [2, 3, 1, 0] rfl) hV
            · have hV := hV.2 h
              refine lv_iconst (v := 1) hx hb dX10_turnOf_60 (by decide) ?_
              refine lv_goto (tgt := 65) hx hb dX10_turnOf_61 (by decide) ?_
              refine lv_iadd hx hb dX10_turnOf_65 ?_
              refine lv_topi (fun v2_13 e_v2_13 => ?_)
              have hV := hV v2_13 e_v2_13
              refine lv_istore_n (lv' := [(2, .int v2_13), (0, .ref a_this), (1, .int x1), (3, .int v3)]) hx hb dX10_turnOf_66 rfl hl (by decide) rfl (fun ls hl => ?_)
              obtain ⟨v3_14, e_v3_14⟩ : ∃ y : Int32, y = (v3 + 1) := ⟨_, rfl⟩
              have hV := hV v3_14 e_v3_14
              refine lv_iinc (v := v3_14) (lv' := [(3, .int v3_14), (2, .int v2_13), (0, .ref a_this), (1, .int x1)]) hx hb dX10_turnOf_67 hl (k := 3) rfl (by rw [e_v3_14]; rfl) (by decide) rfl (fun ls hl => ?_)
              refine lv_goto (tgt := 4) hx hb dX10_turnOf_70 (by decide) ?_
              exact ih4 v2_13 v3_14 _ _ _ hP hS (lv_sub hl [2, 3, 1, 0] rfl) hV
  refine lv_iconst (v := 0) hx hb dX10_turnOf_0 (by decide) ?_
  refine lv_istore_n (lv' := [(2, .int 0), (0, .ref a_this), (1, .int x1)]) hx hb dX10_turnOf_1 rfl hl (by decide) rfl (fun ls hl => ?_)
  refine lv_iconst (v := 0) hx hb dX10_turnOf_2 (by decide) ?_
  refine lv_istore_n (lv' := [(3, .int 0), (2, .int 0), (0, .ref a_this), (1, .int x1)]) hx hb dX10_turnOf_3 rfl hl (by decide) rfl (fun ls hl => ?_)
  obtain ⟨k, hV⟩ := hV
  exact b4 k 0 0 _ _ _ hP hS (lv_sub hl [2, 3, 1, 0] rfl) hV

def rm_X10_plan : Room := { frames := 3, cells := 0, slots := 0, locals := 74 }
def V_X10_plan_329 (f_few : Nat → Int32) (f_sawn : Nat → Int32) (f_cut : Nat → Int32) (f_todo : Nat → Int32) (post : Int32 → (Nat → Int32) → (Nat → Int32) → (Nat → Int32) → (Nat → Int32) → (Nat → Int32) → Prop) : Nat → Int32 → (Nat → Int32) → Prop
  | 0, _, _ => False
  | n + 1, v3, f_all => (vp_in 5 3320 ∧ (((f_all (5 : Int32).toNatClampNeg) ≤ v3 → (vp_in 5 3320 ∧ post (f_all (5 : Int32).toNatClampNeg) f_all f_few f_sawn f_cut f_todo)) ∧ (¬ (f_all (5 : Int32).toNatClampNeg) ≤ v3 → P_X10_turnOf v3 f_all (fun r_1 => (vp_in ((170 + (8 * v3)) + 6) 3320 ∧ ∀ f_all_2 : Nat → Int32, f_all_2 = upd f_all ((170 + (8 * v3)) + 6).toNatClampNeg r_1 → (∀ v3_3 : Int32, v3_3 = (v3 + 1) → V_X10_plan_329 f_few f_sawn f_cut f_todo post n v3_3 f_all_2))))))
theorem V_X10_plan_329_s (f_few : Nat → Int32) (f_sawn : Nat → Int32) (f_cut : Nat → Int32) (f_todo : Nat → Int32) (post : Int32 → (Nat → Int32) → (Nat → Int32) → (Nat → Int32) → (Nat → Int32) → (Nat → Int32) → Prop) (n : Nat) (v3 : Int32) (f_all : Nat → Int32) : V_X10_plan_329 f_few f_sawn f_cut f_todo post (n + 1) v3 f_all = ((vp_in 5 3320 ∧ (((f_all (5 : Int32).toNatClampNeg) ≤ v3 → (vp_in 5 3320 ∧ post (f_all (5 : Int32).toNatClampNeg) f_all f_few f_sawn f_cut f_todo)) ∧ (¬ (f_all (5 : Int32).toNatClampNeg) ≤ v3 → P_X10_turnOf v3 f_all (fun r_1 => (vp_in ((170 + (8 * v3)) + 6) 3320 ∧ ∀ f_all_2 : Nat → Int32, f_all_2 = upd f_all ((170 + (8 * v3)) + 6).toNatClampNeg r_1 → (∀ v3_3 : Int32, v3_3 = (v3 + 1) → V_X10_plan_329 f_few f_sawn f_cut f_todo post n v3_3 f_all_2))))))) := rfl
def V_X10_plan_153 (f_few : Nat → Int32) (f_sawn : Nat → Int32) (f_cut : Nat → Int32) (post : Int32 → (Nat → Int32) → (Nat → Int32) → (Nat → Int32) → (Nat → Int32) → (Nat → Int32) → Prop) : Nat → Int32 → (Nat → Int32) → (Nat → Int32) → Prop
  | 0, _, _, _ => False
  | n + 1, v2, f_all, f_todo => ((v2 ≤ 0 → (∃ k : Nat, V_X10_plan_329 f_few f_sawn f_cut f_todo post k 0 f_all)) ∧ (¬ v2 ≤ 0 → (∀ v2_4 : Int32, v2_4 = (v2 + (-1)) → (vp_in (4 * v2_4) 256 ∧ (∀ v3_5 : Int32, v3_5 = (f_todo (4 * v2_4).toNatClampNeg) → (vp_in ((4 * v2_4) + 1) 256 ∧ (∀ v4_6 : Int32, v4_6 = (f_todo ((4 * v2_4) + 1).toNatClampNeg) → (vp_in ((4 * v2_4) + 2) 256 ∧ (∀ v5_7 : Int32, v5_7 = (f_todo ((4 * v2_4) + 2).toNatClampNeg) → (vp_in ((4 * v2_4) + 3) 256 ∧ (∀ v6_8 : Int32, v6_8 = (f_todo ((4 * v2_4) + 3).toNatClampNeg) → P_X10_part v3_5 v4_6 v5_7 v6_8 (fun r_9 => (vp_in r_9 4096 ∧ (∀ v7_10 : Int32, v7_10 = (f_cut r_9.toNatClampNeg) → ((v7_10 = 0 → P_X10_isBlock v3_5 v4_6 v5_7 v6_8 f_all (fun f_all_19 => V_X10_plan_153 f_few f_sawn f_cut post n v2_4 f_all_19 f_todo)) ∧ (¬ v7_10 = 0 → ((8 ≤ v7_10 → P_X10_puts v2_4 v3_5 ((v4_6 + v7_10) - 8) v5_7 ((v6_8 - v7_10) + 8) f_todo (fun r_11 f_todo_12 => P_X10_puts r_11 v3_5 v4_6 v5_7 (v7_10 - 8) f_todo_12 (fun r_13 f_todo_14 => V_X10_plan_153 f_few f_sawn f_cut post n r_13 f_all f_todo_14))) ∧ (¬ 8 ≤ v7_10 → P_X10_puts v2_4 (v3_5 + v7_10) v4_6 (v5_7 - v7_10) v6_8 f_todo (fun r_15 f_todo_16 => P_X10_puts r_15 v3_5 v4_6 v7_10 v6_8 f_todo_16 (fun r_17 f_todo_18 => V_X10_plan_153 f_few f_sawn f_cut post n r_17 f_all f_todo_18))))))))))))))))))))
theorem V_X10_plan_153_s (f_few : Nat → Int32) (f_sawn : Nat → Int32) (f_cut : Nat → Int32) (post : Int32 → (Nat → Int32) → (Nat → Int32) → (Nat → Int32) → (Nat → Int32) → (Nat → Int32) → Prop) (n : Nat) (v2 : Int32) (f_all : Nat → Int32) (f_todo : Nat → Int32) : V_X10_plan_153 f_few f_sawn f_cut post (n + 1) v2 f_all f_todo = (((v2 ≤ 0 → (∃ k : Nat, V_X10_plan_329 f_few f_sawn f_cut f_todo post k 0 f_all)) ∧ (¬ v2 ≤ 0 → (∀ v2_4 : Int32, v2_4 = (v2 + (-1)) → (vp_in (4 * v2_4) 256 ∧ (∀ v3_5 : Int32, v3_5 = (f_todo (4 * v2_4).toNatClampNeg) → (vp_in ((4 * v2_4) + 1) 256 ∧ (∀ v4_6 : Int32, v4_6 = (f_todo ((4 * v2_4) + 1).toNatClampNeg) → (vp_in ((4 * v2_4) + 2) 256 ∧ (∀ v5_7 : Int32, v5_7 = (f_todo ((4 * v2_4) + 2).toNatClampNeg) → (vp_in ((4 * v2_4) + 3) 256 ∧ (∀ v6_8 : Int32, v6_8 = (f_todo ((4 * v2_4) + 3).toNatClampNeg) → P_X10_part v3_5 v4_6 v5_7 v6_8 (fun r_9 => (vp_in r_9 4096 ∧ (∀ v7_10 : Int32, v7_10 = (f_cut r_9.toNatClampNeg) → ((v7_10 = 0 → P_X10_isBlock v3_5 v4_6 v5_7 v6_8 f_all (fun f_all_19 => V_X10_plan_153 f_few f_sawn f_cut post n v2_4 f_all_19 f_todo)) ∧ (¬ v7_10 = 0 → ((8 ≤ v7_10 → P_X10_puts v2_4 v3_5 ((v4_6 + v7_10) - 8) v5_7 ((v6_8 - v7_10) + 8) f_todo (fun r_11 f_todo_12 => P_X10_puts r_11 v3_5 v4_6 v5_7 (v7_10 - 8) f_todo_12 (fun r_13 f_todo_14 => V_X10_plan_153 f_few f_sawn f_cut post n r_13 f_all f_todo_14))) ∧ (¬ 8 ≤ v7_10 → P_X10_puts v2_4 (v3_5 + v7_10) v4_6 (v5_7 - v7_10) v6_8 f_todo (fun r_15 f_todo_16 => P_X10_puts r_15 v3_5 v4_6 v7_10 v6_8 f_todo_16 (fun r_17 f_todo_18 => V_X10_plan_153 f_few f_sawn f_cut post n r_17 f_all f_todo_18))))))))))))))))))))) := rfl
def V_X10_plan_41 (v1 : Int32) (v2 : Int32) (v3 : Int32) (f_all : Nat → Int32) (K_26 : Int32 → (Nat → Int32) → (Nat → Int32) → (Nat → Int32) → Prop) : Nat → Int32 → (Nat → Int32) → (Nat → Int32) → (Nat → Int32) → Prop
  | 0, _, _, _, _ => False
  | n + 1, v4, f_few, f_sawn, f_cut => (vp_in 1 3320 ∧ (((f_all (1 : Int32).toNatClampNeg) < (v4 + v2) → (∀ v3_20 : Int32, v3_20 = (v3 + 1) → K_26 v3_20 f_few f_sawn f_cut)) ∧ (¬ (f_all (1 : Int32).toNatClampNeg) < (v4 + v2) → P_X10_settles v3 v4 v1 v2 f_all f_few f_sawn f_cut (fun f_few_21 f_sawn_22 f_cut_23 => (∀ v4_24 : Int32, v4_24 = (v4 + 1) → V_X10_plan_41 v1 v2 v3 f_all K_26 n v4_24 f_few_21 f_sawn_22 f_cut_23)))))
theorem V_X10_plan_41_s (v1 : Int32) (v2 : Int32) (v3 : Int32) (f_all : Nat → Int32) (K_26 : Int32 → (Nat → Int32) → (Nat → Int32) → (Nat → Int32) → Prop) (n : Nat) (v4 : Int32) (f_few : Nat → Int32) (f_sawn : Nat → Int32) (f_cut : Nat → Int32) : V_X10_plan_41 v1 v2 v3 f_all K_26 (n + 1) v4 f_few f_sawn f_cut = ((vp_in 1 3320 ∧ (((f_all (1 : Int32).toNatClampNeg) < (v4 + v2) → (∀ v3_20 : Int32, v3_20 = (v3 + 1) → K_26 v3_20 f_few f_sawn f_cut)) ∧ (¬ (f_all (1 : Int32).toNatClampNeg) < (v4 + v2) → P_X10_settles v3 v4 v1 v2 f_all f_few f_sawn f_cut (fun f_few_21 f_sawn_22 f_cut_23 => (∀ v4_24 : Int32, v4_24 = (v4 + 1) → V_X10_plan_41 v1 v2 v3 f_all K_26 n v4_24 f_few_21 f_sawn_22 f_cut_23)))))) := rfl
def V_X10_plan_26 (v1 : Int32) (v2 : Int32) (f_all : Nat → Int32) (K_14 : Int32 → (Nat → Int32) → (Nat → Int32) → (Nat → Int32) → Prop) : Nat → Int32 → (Nat → Int32) → (Nat → Int32) → (Nat → Int32) → Prop
  | 0, _, _, _, _ => False
  | n + 1, v3, f_few, f_sawn, f_cut => (vp_in 0 3320 ∧ (((f_all (0 : Int32).toNatClampNeg) < (v3 + v1) → (∀ v2_25 : Int32, v2_25 = (v2 + 1) → K_14 v2_25 f_few f_sawn f_cut)) ∧ (¬ (f_all (0 : Int32).toNatClampNeg) < (v3 + v1) → (∃ k : Nat, V_X10_plan_41 v1 v2 v3 f_all (V_X10_plan_26 v1 v2 f_all K_14 n) k 0 f_few f_sawn f_cut))))
theorem V_X10_plan_26_s (v1 : Int32) (v2 : Int32) (f_all : Nat → Int32) (K_14 : Int32 → (Nat → Int32) → (Nat → Int32) → (Nat → Int32) → Prop) (n : Nat) (v3 : Int32) (f_few : Nat → Int32) (f_sawn : Nat → Int32) (f_cut : Nat → Int32) : V_X10_plan_26 v1 v2 f_all K_14 (n + 1) v3 f_few f_sawn f_cut = ((vp_in 0 3320 ∧ (((f_all (0 : Int32).toNatClampNeg) < (v3 + v1) → (∀ v2_25 : Int32, v2_25 = (v2 + 1) → K_14 v2_25 f_few f_sawn f_cut)) ∧ (¬ (f_all (0 : Int32).toNatClampNeg) < (v3 + v1) → (∃ k : Nat, V_X10_plan_41 v1 v2 v3 f_all (V_X10_plan_26 v1 v2 f_all K_14 n) k 0 f_few f_sawn f_cut))))) := rfl
def V_X10_plan_14 (v1 : Int32) (f_all : Nat → Int32) (K_2 : Int32 → (Nat → Int32) → (Nat → Int32) → (Nat → Int32) → Prop) : Nat → Int32 → (Nat → Int32) → (Nat → Int32) → (Nat → Int32) → Prop
  | 0, _, _, _, _ => False
  | n + 1, v2, f_few, f_sawn, f_cut => (vp_in 1 3320 ∧ (((f_all (1 : Int32).toNatClampNeg) < v2 → (∀ v1_26 : Int32, v1_26 = (v1 + 1) → K_2 v1_26 f_few f_sawn f_cut)) ∧ (¬ (f_all (1 : Int32).toNatClampNeg) < v2 → (∃ k : Nat, V_X10_plan_26 v1 v2 f_all (V_X10_plan_14 v1 f_all K_2 n) k 0 f_few f_sawn f_cut))))
theorem V_X10_plan_14_s (v1 : Int32) (f_all : Nat → Int32) (K_2 : Int32 → (Nat → Int32) → (Nat → Int32) → (Nat → Int32) → Prop) (n : Nat) (v2 : Int32) (f_few : Nat → Int32) (f_sawn : Nat → Int32) (f_cut : Nat → Int32) : V_X10_plan_14 v1 f_all K_2 (n + 1) v2 f_few f_sawn f_cut = ((vp_in 1 3320 ∧ (((f_all (1 : Int32).toNatClampNeg) < v2 → (∀ v1_26 : Int32, v1_26 = (v1 + 1) → K_2 v1_26 f_few f_sawn f_cut)) ∧ (¬ (f_all (1 : Int32).toNatClampNeg) < v2 → (∃ k : Nat, V_X10_plan_26 v1 v2 f_all (V_X10_plan_14 v1 f_all K_2 n) k 0 f_few f_sawn f_cut))))) := rfl
def V_X10_plan_2 (f_all : Nat → Int32) (f_todo : Nat → Int32) (post : Int32 → (Nat → Int32) → (Nat → Int32) → (Nat → Int32) → (Nat → Int32) → (Nat → Int32) → Prop) : Nat → Int32 → (Nat → Int32) → (Nat → Int32) → (Nat → Int32) → Prop
  | 0, _, _, _, _ => False
  | n + 1, v1, f_few, f_sawn, f_cut => (vp_in 0 3320 ∧ (((f_all (0 : Int32).toNatClampNeg) < v1 → (vp_in 0 3320 ∧ (vp_in 1 3320 ∧ P_X10_part 0 0 (f_all (0 : Int32).toNatClampNeg) (f_all (1 : Int32).toNatClampNeg) (fun r_27 => (vp_in r_27 4096 ∧ (((f_few r_27.toNatClampNeg) = 0 → post (-1) f_all f_few f_sawn f_cut f_todo) ∧ (¬ (f_few r_27.toNatClampNeg) = 0 → P_X10_noPlan f_all (fun f_all_28 => (vp_in r_27 4096 ∧ (vp_in 6 3320 ∧ ∀ f_all_29 : Nat → Int32, f_all_29 = upd f_all_28 (6 : Int32).toNatClampNeg (f_sawn r_27.toNatClampNeg) → (vp_in 0 3320 ∧ (vp_in 1 3320 ∧ P_X10_puts 0 0 0 (f_all_29 (0 : Int32).toNatClampNeg) (f_all_29 (1 : Int32).toNatClampNeg) f_todo (fun r_30 f_todo_31 => (∃ k : Nat, V_X10_plan_153 f_few f_sawn f_cut post k r_30 f_all_29 f_todo_31)))))))))))))) ∧ (¬ (f_all (0 : Int32).toNatClampNeg) < v1 → (∃ k : Nat, V_X10_plan_14 v1 f_all (V_X10_plan_2 f_all f_todo post n) k 1 f_few f_sawn f_cut))))
theorem V_X10_plan_2_s (f_all : Nat → Int32) (f_todo : Nat → Int32) (post : Int32 → (Nat → Int32) → (Nat → Int32) → (Nat → Int32) → (Nat → Int32) → (Nat → Int32) → Prop) (n : Nat) (v1 : Int32) (f_few : Nat → Int32) (f_sawn : Nat → Int32) (f_cut : Nat → Int32) : V_X10_plan_2 f_all f_todo post (n + 1) v1 f_few f_sawn f_cut = ((vp_in 0 3320 ∧ (((f_all (0 : Int32).toNatClampNeg) < v1 → (vp_in 0 3320 ∧ (vp_in 1 3320 ∧ P_X10_part 0 0 (f_all (0 : Int32).toNatClampNeg) (f_all (1 : Int32).toNatClampNeg) (fun r_27 => (vp_in r_27 4096 ∧ (((f_few r_27.toNatClampNeg) = 0 → post (-1) f_all f_few f_sawn f_cut f_todo) ∧ (¬ (f_few r_27.toNatClampNeg) = 0 → P_X10_noPlan f_all (fun f_all_28 => (vp_in r_27 4096 ∧ (vp_in 6 3320 ∧ ∀ f_all_29 : Nat → Int32, f_all_29 = upd f_all_28 (6 : Int32).toNatClampNeg (f_sawn r_27.toNatClampNeg) → (vp_in 0 3320 ∧ (vp_in 1 3320 ∧ P_X10_puts 0 0 0 (f_all_29 (0 : Int32).toNatClampNeg) (f_all_29 (1 : Int32).toNatClampNeg) f_todo (fun r_30 f_todo_31 => (∃ k : Nat, V_X10_plan_153 f_few f_sawn f_cut post k r_30 f_all_29 f_todo_31)))))))))))))) ∧ (¬ (f_all (0 : Int32).toNatClampNeg) < v1 → (∃ k : Nat, V_X10_plan_14 v1 f_all (V_X10_plan_2 f_all f_todo post n) k 1 f_few f_sawn f_cut))))) := rfl
def P_X10_plan (f_all : Nat → Int32) (f_few : Nat → Int32) (f_sawn : Nat → Int32) (f_cut : Nat → Int32) (f_todo : Nat → Int32) (post : Int32 → (Nat → Int32) → (Nat → Int32) → (Nat → Int32) → (Nat → Int32) → (Nat → Int32) → Prop) : Prop := (∃ k : Nat, V_X10_plan_2 f_all f_todo post k 1 f_few f_sawn f_cut)
set_option maxRecDepth 100000 in
set_option maxHeartbeats 4000000 in
theorem c_X10_plan (l : Launch) (D : va_G) (cI cB cS : ClassId) (a_this a_all a_few a_sawn a_cut a_todo a_has a_press a_gone : Nat) (f_all : Nat → Int32) (f_few : Nat → Int32) (f_sawn : Nat → Int32) (f_cut : Nat → Int32) (f_todo : Nat → Int32) (post : Int32 → (Nat → Int32) → (Nat → Int32) → (Nat → Int32) → (Nat → Int32) → (Nat → Int32) → Prop) (hV : P_X10_plan f_all f_few f_sawn f_cut f_todo post) : Ci l yX10_plan cX10_plan 8 (some .int) rm_X10_plan D cI cB cS [.ref a_this] [oc a_this 9 [.ref a_all, .ref a_has, .ref a_few, .ref a_sawn, .ref a_cut, .ref a_todo, .ref a_press, .ref a_gone], ai cI a_all 3320 f_all, ai cI a_few 4096 f_few, ai cI a_sawn 4096 f_sawn, ai cI a_cut 4096 f_cut, ai cI a_todo 256 f_todo] (fun r (u : (Nat → Int32) × (Nat → Int32) × (Nat → Int32) × (Nat → Int32) × (Nat → Int32)) => post r u.1 u.2.1 u.2.2.1 u.2.2.2.1 u.2.2.2.2) (fun (u : (Nat → Int32) × (Nat → Int32) × (Nat → Int32) × (Nat → Int32) × (Nat → Int32)) => [oc a_this 9 [.ref a_all, .ref a_has, .ref a_few, .ref a_sawn, .ref a_cut, .ref a_todo, .ref a_press, .ref a_gone], ai cI a_all 3320 (u.1), ai cI a_few 4096 (u.2.1), ai cI a_sawn 4096 (u.2.2.1), ai cI a_cut 4096 (u.2.2.2.1), ai cI a_todo 256 (u.2.2.2.2)]) := by
  refine Ci.of ok_X10_plan (Nat.le_of_ble_eq_true rfl) ?_
  intro p e s m args below meth c A Q hx hb hml hown ht hnm hK hP hA hS hret ls hl
  have hown : s.vm.findClass RX10 = some m.cls := hown
  have FX : CallFix p m c cX10_plan 8 s args tblG RX10 := ⟨hx, hb, hml, hown, ht⟩
  have hP : PD D A [oc a_this 9 [.ref a_all, .ref a_has, .ref a_few, .ref a_sawn, .ref a_cut, .ref a_todo, .ref a_press, .ref a_gone], ai cI a_all 3320 f_all, ai cI a_few 4096 f_few, ai cI a_sawn 4096 f_sawn, ai cI a_cut 4096 f_cut, ai cI a_todo 256 f_todo] s.heap := hP
  have hl : lv_has ls 8 [(0, .ref a_this)] := hl
  unfold P_X10_plan at hV
  have b329 : ∀ (f_few : Nat → Int32) (f_sawn : Nat → Int32) (f_cut : Nat → Int32) (f_todo : Nat → Int32) (k329 : Nat) (v3 : Int32) (f_all : Nat → Int32) (H : Heap) (locs : List Loc) (ls : Array Slot), PD D A [oc a_this 9 [.ref a_all, .ref a_has, .ref a_few, .ref a_sawn, .ref a_cut, .ref a_todo, .ref a_press, .ref a_gone], ai cI a_all 3320 f_all, ai cI a_few 4096 f_few, ai cI a_sawn 4096 f_sawn, ai cI a_cut 4096 f_cut, ai cI a_todo 256 f_todo] H → va_S A s.heap H locs → lv_has ls 8 [(0, .ref a_this), (3, .int v3)] → V_X10_plan_329 f_few f_sawn f_cut f_todo post k329 v3 f_all → W p l e rm_X10_plan s m args below meth c H locs 0 0 Q (F0 m 329 ls []) := by
    intro f_few f_sawn f_cut f_todo k329
    induction k329 with
    | zero => intro v3 f_all H locs ls hP hS hl hV; exact False.elim hV
    | succ k329 ih329 =>
      intro v3 f_all H locs ls hP hS hl hV
      rw [V_X10_plan_329_s] at hV
      refine lv_iload_n hx hb dX10_plan_329 rfl (lv_at hl 1 rfl) ?_
      refine lv_aload_n hx hb dX10_plan_330 rfl (lv_at hl 0 rfl) ?_
      refine gX10 hx hb ht hown hK hP 0 rfl 0 (by decide) fl_X10_7 (fun _ h => h) rfl dX10_plan_331 ?_
      refine lv_iconst (v := 5) hx hb dX10_plan_334 (by decide) ?_
      refine ild hx hb hK hP 1 rfl dX10_plan_335 hV.1 ?_
      have hV := hV.2
      refine lv_icmp_ge (tgt := 366) hx hb dX10_plan_336 (by decide) (fun h => ?_) (fun h => ?_)
      · have hV := hV.1 h
        refine lv_aload_n hx hb dX10_plan_366 rfl (lv_at hl 0 rfl) ?_
        refine gX10 hx hb ht hown hK hP 0 rfl 0 (by decide) fl_X10_7 (fun _ h => h) rfl dX10_plan_367 ?_
        refine lv_iconst (v := 5) hx hb dX10_plan_370 (by decide) ?_
        refine ild hx hb hK hP 1 rfl dX10_plan_371 hV.1 ?_
        have hV := hV.2
        exact hret _ _ _ _ _ (f_all, f_few, f_sawn, f_cut, f_todo) hS dX10_plan_372 hP hV
      · have hV := hV.2 h
        refine lv_aload_n hx hb dX10_plan_339 rfl (lv_at hl 0 rfl) ?_
        refine gX10 hx hb ht hown hK hP 0 rfl 0 (by decide) fl_X10_7 (fun _ h => h) rfl dX10_plan_340 ?_
        refine lv_sipush (v := 170) hx hb dX10_plan_343 (by decide) ?_
        refine lv_bipush (v := 8) hx hb dX10_plan_346 (by decide) ?_
        refine lv_iload_n hx hb dX10_plan_348 rfl (lv_at hl 1 rfl) ?_
        refine lv_imul hx hb dX10_plan_349 ?_
        refine lv_iadd hx hb dX10_plan_350 ?_
        refine lv_bipush (v := 6) hx hb dX10_plan_351 (by decide) ?_
        refine lv_iadd hx hb dX10_plan_353 ?_
        refine lv_aload_n hx hb dX10_plan_354 rfl (lv_at hl 0 rfl) ?_
        refine lv_iload_n hx hb dX10_plan_355 rfl (lv_at hl 1 rfl) ?_
        refine KVi (As := [.int v3]) (rest := [.int ((170 + (8 * v3)) + 6), .ref a_all]) FX (c_X10_turnOf l D cI cB cS a_this a_all a_has a_few a_sawn a_cut a_todo a_press a_gone v3 f_all _ hV) ok_X10_turnOf im_X10_turnOf se_X10_turnOf li_X10_82 dX10_plan_356 hK hP hS hA [0, 1] [2, 3, 4, 5] 0 rfl rfl rfl (by decide) rfl rfl hl.1 (Nat.le_of_ble_eq_true rfl) ⟨Nat.le_of_ble_eq_true rfl, Nat.le_of_ble_eq_true rfl⟩ ⟨Nat.le_of_ble_eq_true rfl, Nat.le_of_ble_eq_true rfl⟩ (fun r_1 _ H locs hV hP hS => ?_)
        have hP : PD D A [ai cI a_few 4096 f_few, ai cI a_sawn 4096 f_sawn, ai cI a_cut 4096 f_cut, ai cI a_todo 256 f_todo, oc a_this 9 [.ref a_all, .ref a_has, .ref a_few, .ref a_sawn, .ref a_cut, .ref a_todo, .ref a_press, .ref a_gone], ai cI a_all 3320 f_all] H := hP
        refine ist hx hb hK hP hS 5 rfl dX10_plan_359 hV.1 (fun f_all_2 e_f_all_2 H locs hP hS => ?_)
        have hV := hV.2 f_all_2 e_f_all_2
        have hP : PD D A [ai cI a_few 4096 f_few, ai cI a_sawn 4096 f_sawn, ai cI a_cut 4096 f_cut, ai cI a_todo 256 f_todo, oc a_this 9 [.ref a_all, .ref a_has, .ref a_few, .ref a_sawn, .ref a_cut, .ref a_todo, .ref a_press, .ref a_gone], ai cI a_all 3320 f_all_2] H := hP
        obtain ⟨v3_3, e_v3_3⟩ : ∃ y : Int32, y = (v3 + 1) := ⟨_, rfl⟩
        have hV := hV v3_3 e_v3_3
        refine lv_iinc (v := v3_3) (lv' := [(3, .int v3_3), (0, .ref a_this)]) hx hb dX10_plan_360 hl (k := 1) rfl (by rw [e_v3_3]; rfl) (by decide) rfl (fun ls hl => ?_)
        refine lv_goto (tgt := 329) hx hb dX10_plan_363 (by decide) ?_
        exact ih329 v3_3 f_all_2 _ _ _ (hP.sub [4, 5, 0, 1, 2, 3] rfl rfl) hS (lv_sub hl [1, 0] rfl) hV
  have b153 : ∀ (f_few : Nat → Int32) (f_sawn : Nat → Int32) (f_cut : Nat → Int32) (k153 : Nat) (v2 : Int32) (f_all : Nat → Int32) (f_todo : Nat → Int32) (H : Heap) (locs : List Loc) (ls : Array Slot), PD D A [oc a_this 9 [.ref a_all, .ref a_has, .ref a_few, .ref a_sawn, .ref a_cut, .ref a_todo, .ref a_press, .ref a_gone], ai cI a_all 3320 f_all, ai cI a_few 4096 f_few, ai cI a_sawn 4096 f_sawn, ai cI a_cut 4096 f_cut, ai cI a_todo 256 f_todo] H → va_S A s.heap H locs → lv_has ls 8 [(0, .ref a_this), (2, .int v2)] → V_X10_plan_153 f_few f_sawn f_cut post k153 v2 f_all f_todo → W p l e rm_X10_plan s m args below meth c H locs 0 0 Q (F0 m 153 ls []) := by
    intro f_few f_sawn f_cut k153
    induction k153 with
    | zero => intro v2 f_all f_todo H locs ls hP hS hl hV; exact False.elim hV
    | succ k153 ih153 =>
      intro v2 f_all f_todo H locs ls hP hS hl hV
      rw [V_X10_plan_153_s] at hV
      refine lv_iload_n hx hb dX10_plan_153 rfl (lv_at hl 1 rfl) ?_
      refine lv_if_le (tgt := 327) hx hb dX10_plan_154 (by decide) (fun h => ?_) (fun h => ?_)
      · have hV := hV.1 h
        refine lv_iconst (v := 0) hx hb dX10_plan_327 (by decide) ?_
        refine lv_istore_n (lv' := [(3, .int 0), (0, .ref a_this), (2, .int v2)]) hx hb dX10_plan_328 rfl hl (by decide) rfl (fun ls hl => ?_)
        obtain ⟨k, hV⟩ := hV
        exact b329 f_few f_sawn f_cut f_todo k 0 f_all _ _ _ hP hS (lv_sub hl [1, 0] rfl) hV
      · have hV := hV.2 h
        obtain ⟨v2_4, e_v2_4⟩ : ∃ y : Int32, y = (v2 + (-1)) := ⟨_, rfl⟩
        have hV := hV v2_4 e_v2_4
        refine lv_iinc (v := v2_4) (lv' := [(2, .int v2_4), (0, .ref a_this)]) hx hb dX10_plan_157 hl (k := 1) rfl (by rw [e_v2_4]; rfl) (by decide) rfl (fun ls hl => ?_)
        refine lv_aload_n hx hb dX10_plan_160 rfl (lv_at hl 1 rfl) ?_
        refine gX10 hx hb ht hown hK hP 0 rfl 5 (by decide) fl_X10_26 (fun _ h => h) rfl dX10_plan_161 ?_
        refine lv_iconst (v := 4) hx hb dX10_plan_164 (by decide) ?_
        refine lv_iload_n hx hb dX10_plan_165 rfl (lv_at hl 0 rfl) ?_
        refine lv_imul hx hb dX10_plan_166 ?_
        refine ild hx hb hK hP 5 rfl dX10_plan_167 hV.1 ?_
        have hV := hV.2
        refine lv_topi (fun v3_5 e_v3_5 => ?_)
        have hV := hV v3_5 e_v3_5
        refine lv_istore_n (lv' := [(3, .int v3_5), (2, .int v2_4), (0, .ref a_this)]) hx hb dX10_plan_168 rfl hl (by decide) rfl (fun ls hl => ?_)
        refine lv_aload_n hx hb dX10_plan_169 rfl (lv_at hl 2 rfl) ?_
        refine gX10 hx hb ht hown hK hP 0 rfl 5 (by decide) fl_X10_26 (fun _ h => h) rfl dX10_plan_170 ?_
        refine lv_iconst (v := 4) hx hb dX10_plan_173 (by decide) ?_
        refine lv_iload_n hx hb dX10_plan_174 rfl (lv_at hl 1 rfl) ?_
        refine lv_imul hx hb dX10_plan_175 ?_
        refine lv_iconst (v := 1) hx hb dX10_plan_176 (by decide) ?_
        refine lv_iadd hx hb dX10_plan_177 ?_
        refine ild hx hb hK hP 5 rfl dX10_plan_178 hV.1 ?_
        have hV := hV.2
        refine lv_topi (fun v4_6 e_v4_6 => ?_)
        have hV := hV v4_6 e_v4_6
        refine lv_istore (lv' := [(4, .int v4_6), (3, .int v3_5), (2, .int v2_4), (0, .ref a_this)]) hx hb dX10_plan_179 hl (by decide) rfl (fun ls hl => ?_)
        refine lv_aload_n hx hb dX10_plan_181 rfl (lv_at hl 3 rfl) ?_
        refine gX10 hx hb ht hown hK hP 0 rfl 5 (by decide) fl_X10_26 (fun _ h => h) rfl dX10_plan_182 ?_
        refine lv_iconst (v := 4) hx hb dX10_plan_185 (by decide) ?_
        refine lv_iload_n hx hb dX10_plan_186 rfl (lv_at hl 2 rfl) ?_
        refine lv_imul hx hb dX10_plan_187 ?_
        refine lv_iconst (v := 2) hx hb dX10_plan_188 (by decide) ?_
        refine lv_iadd hx hb dX10_plan_189 ?_
        refine ild hx hb hK hP 5 rfl dX10_plan_190 hV.1 ?_
        have hV := hV.2
        refine lv_topi (fun v5_7 e_v5_7 => ?_)
        have hV := hV v5_7 e_v5_7
        refine lv_istore (lv' := [(5, .int v5_7), (4, .int v4_6), (3, .int v3_5), (2, .int v2_4), (0, .ref a_this)]) hx hb dX10_plan_191 hl (by decide) rfl (fun ls hl => ?_)
        refine lv_aload_n hx hb dX10_plan_193 rfl (lv_at hl 4 rfl) ?_
        refine gX10 hx hb ht hown hK hP 0 rfl 5 (by decide) fl_X10_26 (fun _ h => h) rfl dX10_plan_194 ?_
        refine lv_iconst (v := 4) hx hb dX10_plan_197 (by decide) ?_
        refine lv_iload_n hx hb dX10_plan_198 rfl (lv_at hl 3 rfl) ?_
        refine lv_imul hx hb dX10_plan_199 ?_
        refine lv_iconst (v := 3) hx hb dX10_plan_200 (by decide) ?_
        refine lv_iadd hx hb dX10_plan_201 ?_
        refine ild hx hb hK hP 5 rfl dX10_plan_202 hV.1 ?_
        have hV := hV.2
        refine lv_topi (fun v6_8 e_v6_8 => ?_)
        have hV := hV v6_8 e_v6_8
        refine lv_istore (lv' := [(6, .int v6_8), (5, .int v5_7), (4, .int v4_6), (3, .int v3_5), (2, .int v2_4), (0, .ref a_this)]) hx hb dX10_plan_203 hl (by decide) rfl (fun ls hl => ?_)
        refine lv_aload_n hx hb dX10_plan_205 rfl (lv_at hl 5 rfl) ?_
        refine gX10 hx hb ht hown hK hP 0 rfl 4 (by decide) fl_X10_23 (fun _ h => h) rfl dX10_plan_206 ?_
        refine lv_iload_n hx hb dX10_plan_209 rfl (lv_at hl 3 rfl) ?_
        refine lv_iload hx hb dX10_plan_210 (lv_at hl 2 rfl) ?_
        refine lv_iload hx hb dX10_plan_212 (lv_at hl 1 rfl) ?_
        refine lv_iload hx hb dX10_plan_214 (lv_at hl 0 rfl) ?_
        refine KSi (As := [.int v3_5, .int v4_6, .int v5_7, .int v6_8]) (rest := [.ref a_cut]) FX (c_X10_part l D cI cB cS v3_5 v4_6 v5_7 v6_8 _ hV) ok_X10_part is_X10_part li_X10_53 dX10_plan_216 hK hP hS hA [] [0, 1, 2, 3, 4, 5] rfl rfl (by decide) rfl hl.1 (Nat.le_of_ble_eq_true rfl) ⟨Nat.le_of_ble_eq_true rfl, Nat.le_of_ble_eq_true rfl⟩ ⟨Nat.le_of_ble_eq_true rfl, Nat.le_of_ble_eq_true rfl⟩ (fun r_9 _ H locs hV hP hS => ?_)
        have hP : PD D A [oc a_this 9 [.ref a_all, .ref a_has, .ref a_few, .ref a_sawn, .ref a_cut, .ref a_todo, .ref a_press, .ref a_gone], ai cI a_all 3320 f_all, ai cI a_few 4096 f_few, ai cI a_sawn 4096 f_sawn, ai cI a_cut 4096 f_cut, ai cI a_todo 256 f_todo] H := hP
        refine ild hx hb hK hP 4 rfl dX10_plan_219 hV.1 ?_
        have hV := hV.2
        refine lv_topi (fun v7_10 e_v7_10 => ?_)
        have hV := hV v7_10 e_v7_10
        refine lv_istore (lv' := [(7, .int v7_10), (6, .int v6_8), (5, .int v5_7), (4, .int v4_6), (3, .int v3_5), (2, .int v2_4), (0, .ref a_this)]) hx hb dX10_plan_220 hl (by decide) rfl (fun ls hl => ?_)
        refine lv_iload hx hb dX10_plan_222 (lv_at hl 0 rfl) ?_
        refine lv_if_ne (tgt := 241) hx hb dX10_plan_224 (by decide) (fun h => ?_) (fun h => ?_)
        · have hV := hV.2 h
          refine lv_iload hx hb dX10_plan_241 (lv_at hl 0 rfl) ?_
          refine lv_bipush (v := 8) hx hb dX10_plan_243 (by decide) ?_
          refine lv_icmp_ge (tgt := 283) hx hb dX10_plan_245 (by decide) (fun h => ?_) (fun h => ?_)
          · have hV := hV.1 h
            refine lv_aload_n hx hb dX10_plan_283 rfl (lv_at hl 6 rfl) ?_
            refine lv_iload_n hx hb dX10_plan_284 rfl (lv_at hl 5 rfl) ?_
            refine lv_iload_n hx hb dX10_plan_285 rfl (lv_at hl 4 rfl) ?_
            refine lv_iload hx hb dX10_plan_286 (lv_at hl 3 rfl) ?_
            refine lv_iload hx hb dX10_plan_288 (lv_at hl 0 rfl) ?_
            refine lv_iadd hx hb dX10_plan_290 ?_
            refine lv_bipush (v := 8) hx hb dX10_plan_291 (by decide) ?_
            refine lv_isub hx hb dX10_plan_293 ?_
            refine lv_iload hx hb dX10_plan_294 (lv_at hl 2 rfl) ?_
            refine lv_iload hx hb dX10_plan_296 (lv_at hl 1 rfl) ?_
            refine lv_iload hx hb dX10_plan_298 (lv_at hl 0 rfl) ?_
            refine lv_isub hx hb dX10_plan_300 ?_
            refine lv_bipush (v := 8) hx hb dX10_plan_301 (by decide) ?_
            refine lv_iadd hx hb dX10_plan_303 ?_
            refine KVi (As := [.int v2_4, .int v3_5, .int ((v4_6 + v7_10) - 8), .int v5_7, .int ((v6_8 - v7_10) + 8)]) (rest := []) FX (c_X10_puts l D cI cB cS a_this a_todo a_all a_has a_few a_sawn a_cut a_press a_gone v2_4 v3_5 ((v4_6 + v7_10) - 8) v5_7 ((v6_8 - v7_10) + 8) f_todo _ hV) ok_X10_puts im_X10_puts se_X10_puts li_X10_75 dX10_plan_304 hK hP hS hA [0, 5] [1, 2, 3, 4] 0 rfl rfl rfl (by decide) rfl rfl hl.1 (Nat.le_of_ble_eq_true rfl) ⟨Nat.le_of_ble_eq_true rfl, Nat.le_of_ble_eq_true rfl⟩ ⟨Nat.le_of_ble_eq_true rfl, Nat.le_of_ble_eq_true rfl⟩ (fun r_11 f_todo_12 H locs hV hP hS => ?_)
            have hP : PD D A [ai cI a_all 3320 f_all, ai cI a_few 4096 f_few, ai cI a_sawn 4096 f_sawn, ai cI a_cut 4096 f_cut, oc a_this 9 [.ref a_all, .ref a_has, .ref a_few, .ref a_sawn, .ref a_cut, .ref a_todo, .ref a_press, .ref a_gone], ai cI a_todo 256 f_todo_12] H := hP
            refine lv_istore_n (lv' := [(2, .int r_11), (7, .int v7_10), (6, .int v6_8), (5, .int v5_7), (4, .int v4_6), (3, .int v3_5), (0, .ref a_this)]) hx hb dX10_plan_307 rfl hl (by decide) rfl (fun ls hl => ?_)
            refine lv_aload_n hx hb dX10_plan_308 rfl (lv_at hl 6 rfl) ?_
            refine lv_iload_n hx hb dX10_plan_309 rfl (lv_at hl 0 rfl) ?_
            refine lv_iload_n hx hb dX10_plan_310 rfl (lv_at hl 5 rfl) ?_
            refine lv_iload hx hb dX10_plan_311 (lv_at hl 4 rfl) ?_
            refine lv_iload hx hb dX10_plan_313 (lv_at hl 3 rfl) ?_
            refine lv_iload hx hb dX10_plan_315 (lv_at hl 1 rfl) ?_
            refine lv_bipush (v := 8) hx hb dX10_plan_317 (by decide) ?_
            refine lv_isub hx hb dX10_plan_319 ?_
            refine KVi (As := [.int r_11, .int v3_5, .int v4_6, .int v5_7, .int (v7_10 - 8)]) (rest := []) FX (c_X10_puts l D cI cB cS a_this a_todo a_all a_has a_few a_sawn a_cut a_press a_gone r_11 v3_5 v4_6 v5_7 (v7_10 - 8) f_todo_12 _ hV) ok_X10_puts im_X10_puts se_X10_puts li_X10_75 dX10_plan_320 hK hP hS hA [4, 5] [0, 1, 2, 3] 4 rfl rfl rfl (by decide) rfl rfl hl.1 (Nat.le_of_ble_eq_true rfl) ⟨Nat.le_of_ble_eq_true rfl, Nat.le_of_ble_eq_true rfl⟩ ⟨Nat.le_of_ble_eq_true rfl, Nat.le_of_ble_eq_true rfl⟩ (fun r_13 f_todo_14 H locs hV hP hS => ?_)
            have hP : PD D A [ai cI a_all 3320 f_all, ai cI a_few 4096 f_few, ai cI a_sawn 4096 f_sawn, ai cI a_cut 4096 f_cut, oc a_this 9 [.ref a_all, .ref a_has, .ref a_few, .ref a_sawn, .ref a_cut, .ref a_todo, .ref a_press, .ref a_gone], ai cI a_todo 256 f_todo_14] H := hP
            refine lv_istore_n (lv' := [(2, .int r_13), (7, .int v7_10), (6, .int v6_8), (5, .int v5_7), (4, .int v4_6), (3, .int v3_5), (0, .ref a_this)]) hx hb dX10_plan_323 rfl hl (by decide) rfl (fun ls hl => ?_)
            refine lv_goto (tgt := 153) hx hb dX10_plan_324 (by decide) ?_
            exact ih153 r_13 f_all f_todo_14 _ _ _ (hP.sub [4, 0, 1, 2, 3, 5] rfl rfl) hS (lv_sub hl [6, 0] rfl) hV
          · have hV := hV.2 h
            refine lv_aload_n hx hb dX10_plan_248 rfl (lv_at hl 6 rfl) ?_
            refine lv_iload_n hx hb dX10_plan_249 rfl (lv_at hl 5 rfl) ?_
            refine lv_iload_n hx hb dX10_plan_250 rfl (lv_at hl 4 rfl) ?_
            refine lv_iload hx hb dX10_plan_251 (lv_at hl 0 rfl) ?_
            refine lv_iadd hx hb dX10_plan_253 ?_
            refine lv_iload hx hb dX10_plan_254 (lv_at hl 3 rfl) ?_
            refine lv_iload hx hb dX10_plan_256 (lv_at hl 2 rfl) ?_
            refine lv_iload hx hb dX10_plan_258 (lv_at hl 0 rfl) ?_
            refine lv_isub hx hb dX10_plan_260 ?_
            refine lv_iload hx hb dX10_plan_261 (lv_at hl 1 rfl) ?_
            refine KVi (As := [.int v2_4, .int (v3_5 + v7_10), .int v4_6, .int (v5_7 - v7_10), .int v6_8]) (rest := []) FX (c_X10_puts l D cI cB cS a_this a_todo a_all a_has a_few a_sawn a_cut a_press a_gone v2_4 (v3_5 + v7_10) v4_6 (v5_7 - v7_10) v6_8 f_todo _ hV) ok_X10_puts im_X10_puts se_X10_puts li_X10_75 dX10_plan_263 hK hP hS hA [0, 5] [1, 2, 3, 4] 0 rfl rfl rfl (by decide) rfl rfl hl.1 (Nat.le_of_ble_eq_true rfl) ⟨Nat.le_of_ble_eq_true rfl, Nat.le_of_ble_eq_true rfl⟩ ⟨Nat.le_of_ble_eq_true rfl, Nat.le_of_ble_eq_true rfl⟩ (fun r_15 f_todo_16 H locs hV hP hS => ?_)
            have hP : PD D A [ai cI a_all 3320 f_all, ai cI a_few 4096 f_few, ai cI a_sawn 4096 f_sawn, ai cI a_cut 4096 f_cut, oc a_this 9 [.ref a_all, .ref a_has, .ref a_few, .ref a_sawn, .ref a_cut, .ref a_todo, .ref a_press, .ref a_gone], ai cI a_todo 256 f_todo_16] H := hP
            refine lv_istore_n (lv' := [(2, .int r_15), (7, .int v7_10), (6, .int v6_8), (5, .int v5_7), (4, .int v4_6), (3, .int v3_5), (0, .ref a_this)]) hx hb dX10_plan_266 rfl hl (by decide) rfl (fun ls hl => ?_)
            refine lv_aload_n hx hb dX10_plan_267 rfl (lv_at hl 6 rfl) ?_
            refine lv_iload_n hx hb dX10_plan_268 rfl (lv_at hl 0 rfl) ?_
            refine lv_iload_n hx hb dX10_plan_269 rfl (lv_at hl 5 rfl) ?_
            refine lv_iload hx hb dX10_plan_270 (lv_at hl 4 rfl) ?_
            refine lv_iload hx hb dX10_plan_272 (lv_at hl 1 rfl) ?_
            refine lv_iload hx hb dX10_plan_274 (lv_at hl 2 rfl) ?_
            refine KVi (As := [.int r_15, .int v3_5, .int v4_6, .int v7_10, .int v6_8]) (rest := []) FX (c_X10_puts l D cI cB cS a_this a_todo a_all a_has a_few a_sawn a_cut a_press a_gone r_15 v3_5 v4_6 v7_10 v6_8 f_todo_16 _ hV) ok_X10_puts im_X10_puts se_X10_puts li_X10_75 dX10_plan_276 hK hP hS hA [4, 5] [0, 1, 2, 3] 4 rfl rfl rfl (by decide) rfl rfl hl.1 (Nat.le_of_ble_eq_true rfl) ⟨Nat.le_of_ble_eq_true rfl, Nat.le_of_ble_eq_true rfl⟩ ⟨Nat.le_of_ble_eq_true rfl, Nat.le_of_ble_eq_true rfl⟩ (fun r_17 f_todo_18 H locs hV hP hS => ?_)
            have hP : PD D A [ai cI a_all 3320 f_all, ai cI a_few 4096 f_few, ai cI a_sawn 4096 f_sawn, ai cI a_cut 4096 f_cut, oc a_this 9 [.ref a_all, .ref a_has, .ref a_few, .ref a_sawn, .ref a_cut, .ref a_todo, .ref a_press, .ref a_gone], ai cI a_todo 256 f_todo_18] H := hP
            refine lv_istore_n (lv' := [(2, .int r_17), (7, .int v7_10), (6, .int v6_8), (5, .int v5_7), (4, .int v4_6), (3, .int v3_5), (0, .ref a_this)]) hx hb dX10_plan_279 rfl hl (by decide) rfl (fun ls hl => ?_)
            refine lv_goto (tgt := 324) hx hb dX10_plan_280 (by decide) ?_
            refine lv_goto (tgt := 153) hx hb dX10_plan_324 (by decide) ?_
            exact ih153 r_17 f_all f_todo_18 _ _ _ (hP.sub [4, 0, 1, 2, 3, 5] rfl rfl) hS (lv_sub hl [6, 0] rfl) hV
        · have hV := hV.1 h
          refine lv_aload_n hx hb dX10_plan_227 rfl (lv_at hl 6 rfl) ?_
          refine lv_iload_n hx hb dX10_plan_228 rfl (lv_at hl 4 rfl) ?_
          refine lv_iload hx hb dX10_plan_229 (lv_at hl 3 rfl) ?_
          refine lv_iload hx hb dX10_plan_231 (lv_at hl 2 rfl) ?_
          refine lv_iload hx hb dX10_plan_233 (lv_at hl 1 rfl) ?_
          refine KVv (As := [.int v3_5, .int v4_6, .int v5_7, .int v6_8]) (rest := []) FX (c_X10_isBlock l D cI cB cS a_this a_all a_has a_few a_sawn a_cut a_todo a_press a_gone v3_5 v4_6 v5_7 v6_8 f_all _ hV) ok_X10_isBlock im_X10_isBlock se_X10_isBlock li_X10_79 dX10_plan_235 hK hP hS hA [0, 1] [2, 3, 4, 5] 0 rfl rfl rfl (by decide) rfl rfl hl.1 (Nat.le_of_ble_eq_true rfl) ⟨Nat.le_of_ble_eq_true rfl, Nat.le_of_ble_eq_true rfl⟩ ⟨Nat.le_of_ble_eq_true rfl, Nat.le_of_ble_eq_true rfl⟩ (fun f_all_19 H locs hV hP hS => ?_)
          have hP : PD D A [ai cI a_few 4096 f_few, ai cI a_sawn 4096 f_sawn, ai cI a_cut 4096 f_cut, ai cI a_todo 256 f_todo, oc a_this 9 [.ref a_all, .ref a_has, .ref a_few, .ref a_sawn, .ref a_cut, .ref a_todo, .ref a_press, .ref a_gone], ai cI a_all 3320 f_all_19] H := hP
          refine lv_goto (tgt := 324) hx hb dX10_plan_238 (by decide) ?_
          refine lv_goto (tgt := 153) hx hb dX10_plan_324 (by decide) ?_
          exact ih153 v2_4 f_all_19 f_todo _ _ _ (hP.sub [4, 5, 0, 1, 2, 3] rfl rfl) hS (lv_sub hl [6, 5] rfl) hV
  have b2 : ∀ (f_all : Nat → Int32) (f_todo : Nat → Int32) (k2 : Nat) (v1 : Int32) (f_few : Nat → Int32) (f_sawn : Nat → Int32) (f_cut : Nat → Int32) (H : Heap) (locs : List Loc) (ls : Array Slot), PD D A [oc a_this 9 [.ref a_all, .ref a_has, .ref a_few, .ref a_sawn, .ref a_cut, .ref a_todo, .ref a_press, .ref a_gone], ai cI a_all 3320 f_all, ai cI a_few 4096 f_few, ai cI a_sawn 4096 f_sawn, ai cI a_cut 4096 f_cut, ai cI a_todo 256 f_todo] H → va_S A s.heap H locs → lv_has ls 8 [(0, .ref a_this), (1, .int v1)] → V_X10_plan_2 f_all f_todo post k2 v1 f_few f_sawn f_cut → W p l e rm_X10_plan s m args below meth c H locs 0 0 Q (F0 m 2 ls []) := by
    intro f_all f_todo k2
    induction k2 with
    | zero => intro v1 f_few f_sawn f_cut H locs ls hP hS hl hV; exact False.elim hV
    | succ k2 ih2 =>
      intro v1 f_few f_sawn f_cut H locs ls hP hS hl hV
      rw [V_X10_plan_2_s] at hV
      have b14 : ∀ (v1 : Int32) (k14 : Nat) (v2 : Int32) (f_few : Nat → Int32) (f_sawn : Nat → Int32) (f_cut : Nat → Int32) (H : Heap) (locs : List Loc) (ls : Array Slot), PD D A [oc a_this 9 [.ref a_all, .ref a_has, .ref a_few, .ref a_sawn, .ref a_cut, .ref a_todo, .ref a_press, .ref a_gone], ai cI a_all 3320 f_all, ai cI a_few 4096 f_few, ai cI a_sawn 4096 f_sawn, ai cI a_cut 4096 f_cut, ai cI a_todo 256 f_todo] H → va_S A s.heap H locs → lv_has ls 8 [(0, .ref a_this), (1, .int v1), (2, .int v2)] → V_X10_plan_14 v1 f_all (V_X10_plan_2 f_all f_todo post k2) k14 v2 f_few f_sawn f_cut → W p l e rm_X10_plan s m args below meth c H locs 0 0 Q (F0 m 14 ls []) := by
        intro v1 k14
        induction k14 with
        | zero => intro v2 f_few f_sawn f_cut H locs ls hP hS hl hV; exact False.elim hV
        | succ k14 ih14 =>
          intro v2 f_few f_sawn f_cut H locs ls hP hS hl hV
          rw [V_X10_plan_14_s] at hV
          have b26 : ∀ (v2 : Int32) (k26 : Nat) (v3 : Int32) (f_few : Nat → Int32) (f_sawn : Nat → Int32) (f_cut : Nat → Int32) (H : Heap) (locs : List Loc) (ls : Array Slot), PD D A [oc a_this 9 [.ref a_all, .ref a_has, .ref a_few, .ref a_sawn, .ref a_cut, .ref a_todo, .ref a_press, .ref a_gone], ai cI a_all 3320 f_all, ai cI a_few 4096 f_few, ai cI a_sawn 4096 f_sawn, ai cI a_cut 4096 f_cut, ai cI a_todo 256 f_todo] H → va_S A s.heap H locs → lv_has ls 8 [(0, .ref a_this), (1, .int v1), (2, .int v2), (3, .int v3)] → V_X10_plan_26 v1 v2 f_all (V_X10_plan_14 v1 f_all (V_X10_plan_2 f_all f_todo post k2) k14) k26 v3 f_few f_sawn f_cut → W p l e rm_X10_plan s m args below meth c H locs 0 0 Q (F0 m 26 ls []) := by
            intro v2 k26
            induction k26 with
            | zero => intro v3 f_few f_sawn f_cut H locs ls hP hS hl hV; exact False.elim hV
            | succ k26 ih26 =>
              intro v3 f_few f_sawn f_cut H locs ls hP hS hl hV
              rw [V_X10_plan_26_s] at hV
              have b41 : ∀ (v3 : Int32) (k41 : Nat) (v4 : Int32) (f_few : Nat → Int32) (f_sawn : Nat → Int32) (f_cut : Nat → Int32) (H : Heap) (locs : List Loc) (ls : Array Slot), PD D A [oc a_this 9 [.ref a_all, .ref a_has, .ref a_few, .ref a_sawn, .ref a_cut, .ref a_todo, .ref a_press, .ref a_gone], ai cI a_all 3320 f_all, ai cI a_few 4096 f_few, ai cI a_sawn 4096 f_sawn, ai cI a_cut 4096 f_cut, ai cI a_todo 256 f_todo] H → va_S A s.heap H locs → lv_has ls 8 [(0, .ref a_this), (1, .int v1), (2, .int v2), (3, .int v3), (4, .int v4)] → V_X10_plan_41 v1 v2 v3 f_all (V_X10_plan_26 v1 v2 f_all (V_X10_plan_14 v1 f_all (V_X10_plan_2 f_all f_todo post k2) k14) k26) k41 v4 f_few f_sawn f_cut → W p l e rm_X10_plan s m args below meth c H locs 0 0 Q (F0 m 41 ls []) := by
                intro v3 k41
                induction k41 with
                | zero => intro v4 f_few f_sawn f_cut H locs ls hP hS hl hV; exact False.elim hV
                | succ k41 ih41 =>
                  intro v4 f_few f_sawn f_cut H locs ls hP hS hl hV
                  rw [V_X10_plan_41_s] at hV
                  refine lv_iload hx hb dX10_plan_41 (lv_at hl 4 rfl) ?_
                  refine lv_iload_n hx hb dX10_plan_43 rfl (lv_at hl 2 rfl) ?_
                  refine lv_iadd hx hb dX10_plan_44 ?_
                  refine lv_aload_n hx hb dX10_plan_45 rfl (lv_at hl 0 rfl) ?_
                  refine gX10 hx hb ht hown hK hP 0 rfl 0 (by decide) fl_X10_7 (fun _ h => h) rfl dX10_plan_46 ?_
                  refine lv_iconst (v := 1) hx hb dX10_plan_49 (by decide) ?_
                  refine ild hx hb hK hP 1 rfl dX10_plan_50 hV.1 ?_
                  have hV := hV.2
                  refine lv_icmp_gt (tgt := 69) hx hb dX10_plan_51 (by decide) (fun h => ?_) (fun h => ?_)
                  · have hV := hV.1 h
                    obtain ⟨v3_20, e_v3_20⟩ : ∃ y : Int32, y = (v3 + 1) := ⟨_, rfl⟩
                    have hV := hV v3_20 e_v3_20
                    refine lv_iinc (v := v3_20) (lv' := [(3, .int v3_20), (0, .ref a_this), (1, .int v1), (2, .int v2), (4, .int v4)]) hx hb dX10_plan_69 hl (k := 3) rfl (by rw [e_v3_20]; rfl) (by decide) rfl (fun ls hl => ?_)
                    refine lv_goto (tgt := 26) hx hb dX10_plan_72 (by decide) ?_
                    exact ih26 v3_20 f_few f_sawn f_cut _ _ _ hP hS (lv_sub hl [1, 2, 3, 0] rfl) hV
                  · have hV := hV.2 h
                    refine lv_aload_n hx hb dX10_plan_54 rfl (lv_at hl 0 rfl) ?_
                    refine lv_iload_n hx hb dX10_plan_55 rfl (lv_at hl 3 rfl) ?_
                    refine lv_iload hx hb dX10_plan_56 (lv_at hl 4 rfl) ?_
                    refine lv_iload_n hx hb dX10_plan_58 rfl (lv_at hl 1 rfl) ?_
                    refine lv_iload_n hx hb dX10_plan_59 rfl (lv_at hl 2 rfl) ?_
                    refine KVv (As := [.int v3, .int v4, .int v1, .int v2]) (rest := []) FX (c_X10_settles l D cI cB cS a_this a_all a_few a_sawn a_cut a_has a_todo a_press a_gone v3 v4 v1 v2 f_all f_few f_sawn f_cut _ hV) ok_X10_settles im_X10_settles se_X10_settles li_X10_71 dX10_plan_60 hK hP hS hA [0, 1, 2, 3, 4] [5] 0 rfl rfl rfl (by decide) rfl rfl hl.1 (Nat.le_of_ble_eq_true rfl) ⟨Nat.le_of_ble_eq_true rfl, Nat.le_of_ble_eq_true rfl⟩ ⟨Nat.le_of_ble_eq_true rfl, Nat.le_of_ble_eq_true rfl⟩ (fun u H locs hV hP hS => ?_)
                    obtain ⟨f_few_21, f_sawn_22, f_cut_23⟩ := u
                    try dsimp only at hV
                    have hP : PD D A [ai cI a_todo 256 f_todo, oc a_this 9 [.ref a_all, .ref a_has, .ref a_few, .ref a_sawn, .ref a_cut, .ref a_todo, .ref a_press, .ref a_gone], ai cI a_all 3320 f_all, ai cI a_few 4096 f_few_21, ai cI a_sawn 4096 f_sawn_22, ai cI a_cut 4096 f_cut_23] H := hP
                    obtain ⟨v4_24, e_v4_24⟩ : ∃ y : Int32, y = (v4 + 1) := ⟨_, rfl⟩
                    have hV := hV v4_24 e_v4_24
                    refine lv_iinc (v := v4_24) (lv' := [(4, .int v4_24), (0, .ref a_this), (1, .int v1), (2, .int v2), (3, .int v3)]) hx hb dX10_plan_63 hl (k := 4) rfl (by rw [e_v4_24]; rfl) (by decide) rfl (fun ls hl => ?_)
                    refine lv_goto (tgt := 41) hx hb dX10_plan_66 (by decide) ?_
                    exact ih41 v4_24 f_few_21 f_sawn_22 f_cut_23 _ _ _ (hP.sub [1, 2, 3, 4, 5, 0] rfl rfl) hS (lv_sub hl [1, 2, 3, 4, 0] rfl) hV
              refine lv_iload_n hx hb dX10_plan_26 rfl (lv_at hl 3 rfl) ?_
              refine lv_iload_n hx hb dX10_plan_27 rfl (lv_at hl 1 rfl) ?_
              refine lv_iadd hx hb dX10_plan_28 ?_
              refine lv_aload_n hx hb dX10_plan_29 rfl (lv_at hl 0 rfl) ?_
              refine gX10 hx hb ht hown hK hP 0 rfl 0 (by decide) fl_X10_7 (fun _ h => h) rfl dX10_plan_30 ?_
              refine lv_iconst (v := 0) hx hb dX10_plan_33 (by decide) ?_
              refine ild hx hb hK hP 1 rfl dX10_plan_34 hV.1 ?_
              have hV := hV.2
              refine lv_icmp_gt (tgt := 75) hx hb dX10_plan_35 (by decide) (fun h => ?_) (fun h => ?_)
              · have hV := hV.1 h
                obtain ⟨v2_25, e_v2_25⟩ : ∃ y : Int32, y = (v2 + 1) := ⟨_, rfl⟩
                have hV := hV v2_25 e_v2_25
                refine lv_iinc (v := v2_25) (lv' := [(2, .int v2_25), (0, .ref a_this), (1, .int v1), (3, .int v3)]) hx hb dX10_plan_75 hl (k := 2) rfl (by rw [e_v2_25]; rfl) (by decide) rfl (fun ls hl => ?_)
                refine lv_goto (tgt := 14) hx hb dX10_plan_78 (by decide) ?_
                exact ih14 v2_25 f_few f_sawn f_cut _ _ _ hP hS (lv_sub hl [1, 2, 0] rfl) hV
              · have hV := hV.2 h
                refine lv_iconst (v := 0) hx hb dX10_plan_38 (by decide) ?_
                refine lv_istore (lv' := [(4, .int 0), (0, .ref a_this), (1, .int v1), (2, .int v2), (3, .int v3)]) hx hb dX10_plan_39 hl (by decide) rfl (fun ls hl => ?_)
                obtain ⟨k, hV⟩ := hV
                exact b41 v3 k 0 f_few f_sawn f_cut _ _ _ hP hS (lv_sub hl [1, 2, 3, 4, 0] rfl) hV
          refine lv_iload_n hx hb dX10_plan_14 rfl (lv_at hl 2 rfl) ?_
          refine lv_aload_n hx hb dX10_plan_15 rfl (lv_at hl 0 rfl) ?_
          refine gX10 hx hb ht hown hK hP 0 rfl 0 (by decide) fl_X10_7 (fun _ h => h) rfl dX10_plan_16 ?_
          refine lv_iconst (v := 1) hx hb dX10_plan_19 (by decide) ?_
          refine ild hx hb hK hP 1 rfl dX10_plan_20 hV.1 ?_
          have hV := hV.2
          refine lv_icmp_gt (tgt := 81) hx hb dX10_plan_21 (by decide) (fun h => ?_) (fun h => ?_)
          · have hV := hV.1 h
            obtain ⟨v1_26, e_v1_26⟩ : ∃ y : Int32, y = (v1 + 1) := ⟨_, rfl⟩
            have hV := hV v1_26 e_v1_26
            refine lv_iinc (v := v1_26) (lv' := [(1, .int v1_26), (0, .ref a_this), (2, .int v2)]) hx hb dX10_plan_81 hl (k := 1) rfl (by rw [e_v1_26]; rfl) (by decide) rfl (fun ls hl => ?_)
            refine lv_goto (tgt := 2) hx hb dX10_plan_84 (by decide) ?_
            exact ih2 v1_26 f_few f_sawn f_cut _ _ _ hP hS (lv_sub hl [1, 0] rfl) hV
          · have hV := hV.2 h
            refine lv_iconst (v := 0) hx hb dX10_plan_24 (by decide) ?_
            refine lv_istore_n (lv' := [(3, .int 0), (0, .ref a_this), (1, .int v1), (2, .int v2)]) hx hb dX10_plan_25 rfl hl (by decide) rfl (fun ls hl => ?_)
            obtain ⟨k, hV⟩ := hV
            exact b26 v2 k 0 f_few f_sawn f_cut _ _ _ hP hS (lv_sub hl [1, 2, 3, 0] rfl) hV
      refine lv_iload_n hx hb dX10_plan_2 rfl (lv_at hl 1 rfl) ?_
      refine lv_aload_n hx hb dX10_plan_3 rfl (lv_at hl 0 rfl) ?_
      refine gX10 hx hb ht hown hK hP 0 rfl 0 (by decide) fl_X10_7 (fun _ h => h) rfl dX10_plan_4 ?_
      refine lv_iconst (v := 0) hx hb dX10_plan_7 (by decide) ?_
      refine ild hx hb hK hP 1 rfl dX10_plan_8 hV.1 ?_
      have hV := hV.2
      refine lv_icmp_gt (tgt := 87) hx hb dX10_plan_9 (by decide) (fun h => ?_) (fun h => ?_)
      · have hV := hV.1 h
        refine lv_iconst (v := 0) hx hb dX10_plan_87 (by decide) ?_
        refine lv_iconst (v := 0) hx hb dX10_plan_88 (by decide) ?_
        refine lv_aload_n hx hb dX10_plan_89 rfl (lv_at hl 0 rfl) ?_
        refine gX10 hx hb ht hown hK hP 0 rfl 0 (by decide) fl_X10_7 (fun _ h => h) rfl dX10_plan_90 ?_
        refine lv_iconst (v := 0) hx hb dX10_plan_93 (by decide) ?_
        refine ild hx hb hK hP 1 rfl dX10_plan_94 hV.1 ?_
        have hV := hV.2
        refine lv_aload_n hx hb dX10_plan_95 rfl (lv_at hl 0 rfl) ?_
        refine gX10 hx hb ht hown hK hP 0 rfl 0 (by decide) fl_X10_7 (fun _ h => h) rfl dX10_plan_96 ?_
        refine lv_iconst (v := 1) hx hb dX10_plan_99 (by decide) ?_
        refine ild hx hb hK hP 1 rfl dX10_plan_100 hV.1 ?_
        have hV := hV.2
        refine KSi (As := [.int 0, .int 0, .int (f_all (0 : Int32).toNatClampNeg), .int (f_all (1 : Int32).toNatClampNeg)]) (rest := []) FX (c_X10_part l D cI cB cS 0 0 (f_all (0 : Int32).toNatClampNeg) (f_all (1 : Int32).toNatClampNeg) _ hV) ok_X10_part is_X10_part li_X10_53 dX10_plan_101 hK hP hS hA [] [0, 1, 2, 3, 4, 5] rfl rfl (by decide) rfl hl.1 (Nat.le_of_ble_eq_true rfl) ⟨Nat.le_of_ble_eq_true rfl, Nat.le_of_ble_eq_true rfl⟩ ⟨Nat.le_of_ble_eq_true rfl, Nat.le_of_ble_eq_true rfl⟩ (fun r_27 _ H locs hV hP hS => ?_)
        have hP : PD D A [oc a_this 9 [.ref a_all, .ref a_has, .ref a_few, .ref a_sawn, .ref a_cut, .ref a_todo, .ref a_press, .ref a_gone], ai cI a_all 3320 f_all, ai cI a_few 4096 f_few, ai cI a_sawn 4096 f_sawn, ai cI a_cut 4096 f_cut, ai cI a_todo 256 f_todo] H := hP
        refine lv_istore_n (lv' := [(1, .int r_27), (0, .ref a_this)]) hx hb dX10_plan_104 rfl hl (by decide) rfl (fun ls hl => ?_)
        refine lv_aload_n hx hb dX10_plan_105 rfl (lv_at hl 1 rfl) ?_
        refine gX10 hx hb ht hown hK hP 0 rfl 2 (by decide) fl_X10_17 (fun _ h => h) rfl dX10_plan_106 ?_
        refine lv_iload_n hx hb dX10_plan_109 rfl (lv_at hl 0 rfl) ?_
        refine ild hx hb hK hP 2 rfl dX10_plan_110 hV.1 ?_
        have hV := hV.2
        refine lv_if_ne (tgt := 116) hx hb dX10_plan_111 (by decide) (fun h => ?_) (fun h => ?_)
        · have hV := hV.2 h
          refine lv_aload_n hx hb dX10_plan_116 rfl (lv_at hl 1 rfl) ?_
          refine KVv (As := []) (rest := []) FX (c_X10_noPlan l D cI cB cS a_this a_all a_has a_few a_sawn a_cut a_todo a_press a_gone f_all _ hV) ok_X10_noPlan im_X10_noPlan se_X10_noPlan li_X10_39 dX10_plan_117 hK hP hS hA [0, 1] [2, 3, 4, 5] 0 rfl rfl rfl (by decide) rfl rfl hl.1 (Nat.le_of_ble_eq_true rfl) ⟨Nat.le_of_ble_eq_true rfl, Nat.le_of_ble_eq_true rfl⟩ ⟨Nat.le_of_ble_eq_true rfl, Nat.le_of_ble_eq_true rfl⟩ (fun f_all_28 H locs hV hP hS => ?_)
          have hP : PD D A [ai cI a_few 4096 f_few, ai cI a_sawn 4096 f_sawn, ai cI a_cut 4096 f_cut, ai cI a_todo 256 f_todo, oc a_this 9 [.ref a_all, .ref a_has, .ref a_few, .ref a_sawn, .ref a_cut, .ref a_todo, .ref a_press, .ref a_gone], ai cI a_all 3320 f_all_28] H := hP
          refine lv_aload_n hx hb dX10_plan_120 rfl (lv_at hl 1 rfl) ?_
          refine gX10 hx hb ht hown hK hP 4 rfl 0 (by decide) fl_X10_7 (fun _ h => h) rfl dX10_plan_121 ?_
          refine lv_bipush (v := 6) hx hb dX10_plan_124 (by decide) ?_
          refine lv_aload_n hx hb dX10_plan_126 rfl (lv_at hl 1 rfl) ?_
          refine gX10 hx hb ht hown hK hP 4 rfl 3 (by decide) fl_X10_20 (fun _ h => h) rfl dX10_plan_127 ?_
          refine lv_iload_n hx hb dX10_plan_130 rfl (lv_at hl 0 rfl) ?_
          refine ild hx hb hK hP 1 rfl dX10_plan_131 hV.1 ?_
          have hV := hV.2
          refine ist hx hb hK hP hS 5 rfl dX10_plan_132 hV.1 (fun f_all_29 e_f_all_29 H locs hP hS => ?_)
          have hV := hV.2 f_all_29 e_f_all_29
          have hP : PD D A [ai cI a_few 4096 f_few, ai cI a_sawn 4096 f_sawn, ai cI a_cut 4096 f_cut, ai cI a_todo 256 f_todo, oc a_this 9 [.ref a_all, .ref a_has, .ref a_few, .ref a_sawn, .ref a_cut, .ref a_todo, .ref a_press, .ref a_gone], ai cI a_all 3320 f_all_29] H := hP
          refine lv_aload_n hx hb dX10_plan_133 rfl (lv_at hl 1 rfl) ?_
          refine lv_iconst (v := 0) hx hb dX10_plan_134 (by decide) ?_
          refine lv_iconst (v := 0) hx hb dX10_plan_135 (by decide) ?_
          refine lv_iconst (v := 0) hx hb dX10_plan_136 (by decide) ?_
          refine lv_aload_n hx hb dX10_plan_137 rfl (lv_at hl 1 rfl) ?_
          refine gX10 hx hb ht hown hK hP 4 rfl 0 (by decide) fl_X10_7 (fun _ h => h) rfl dX10_plan_138 ?_
          refine lv_iconst (v := 0) hx hb dX10_plan_141 (by decide) ?_
          refine ild hx hb hK hP 5 rfl dX10_plan_142 hV.1 ?_
          have hV := hV.2
          refine lv_aload_n hx hb dX10_plan_143 rfl (lv_at hl 1 rfl) ?_
          refine gX10 hx hb ht hown hK hP 4 rfl 0 (by decide) fl_X10_7 (fun _ h => h) rfl dX10_plan_144 ?_
          refine lv_iconst (v := 1) hx hb dX10_plan_147 (by decide) ?_
          refine ild hx hb hK hP 5 rfl dX10_plan_148 hV.1 ?_
          have hV := hV.2
          refine KVi (As := [.int 0, .int 0, .int 0, .int (f_all_29 (0 : Int32).toNatClampNeg), .int (f_all_29 (1 : Int32).toNatClampNeg)]) (rest := []) FX (c_X10_puts l D cI cB cS a_this a_todo a_all a_has a_few a_sawn a_cut a_press a_gone 0 0 0 (f_all_29 (0 : Int32).toNatClampNeg) (f_all_29 (1 : Int32).toNatClampNeg) f_todo _ hV) ok_X10_puts im_X10_puts se_X10_puts li_X10_75 dX10_plan_149 hK hP hS hA [4, 3] [0, 1, 2, 5] 4 rfl rfl rfl (by decide) rfl rfl hl.1 (Nat.le_of_ble_eq_true rfl) ⟨Nat.le_of_ble_eq_true rfl, Nat.le_of_ble_eq_true rfl⟩ ⟨Nat.le_of_ble_eq_true rfl, Nat.le_of_ble_eq_true rfl⟩ (fun r_30 f_todo_31 H locs hV hP hS => ?_)
          have hP : PD D A [ai cI a_few 4096 f_few, ai cI a_sawn 4096 f_sawn, ai cI a_cut 4096 f_cut, ai cI a_all 3320 f_all_29, oc a_this 9 [.ref a_all, .ref a_has, .ref a_few, .ref a_sawn, .ref a_cut, .ref a_todo, .ref a_press, .ref a_gone], ai cI a_todo 256 f_todo_31] H := hP
          refine lv_istore_n (lv' := [(2, .int r_30), (1, .int r_27), (0, .ref a_this)]) hx hb dX10_plan_152 rfl hl (by decide) rfl (fun ls hl => ?_)
          obtain ⟨k, hV⟩ := hV
          exact b153 f_few f_sawn f_cut k r_30 f_all_29 f_todo_31 _ _ _ (hP.sub [4, 3, 0, 1, 2, 5] rfl rfl) hS (lv_sub hl [2, 0] rfl) hV
        · have hV := hV.1 h
          refine lv_iconst (v := (-1)) hx hb dX10_plan_114 (by decide) ?_
          exact hret _ _ _ _ _ (f_all, f_few, f_sawn, f_cut, f_todo) hS dX10_plan_115 hP hV
      · have hV := hV.2 h
        refine lv_iconst (v := 1) hx hb dX10_plan_12 (by decide) ?_
        refine lv_istore_n (lv' := [(2, .int 1), (0, .ref a_this), (1, .int v1)]) hx hb dX10_plan_13 rfl hl (by decide) rfl (fun ls hl => ?_)
        obtain ⟨k, hV⟩ := hV
        exact b14 v1 k 1 f_few f_sawn f_cut _ _ _ hP hS (lv_sub hl [1, 2, 0] rfl) hV
  refine lv_iconst (v := 1) hx hb dX10_plan_0 (by decide) ?_
  refine lv_istore_n (lv' := [(1, .int 1), (0, .ref a_this)]) hx hb dX10_plan_1 rfl hl (by decide) rfl (fun ls hl => ?_)
  obtain ⟨k, hV⟩ := hV
  exact b2 f_all f_todo k 1 f_few f_sawn f_cut _ _ _ hP hS (lv_sub hl [1, 0] rfl) hV
