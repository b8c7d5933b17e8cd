def rm_X4_findsPlan : Room := { frames := 5, cells := 0, slots := 0, locals := 120 }
def V_X4_findsPlan_28 (v3 : Int32) (i_limit : Int32) (f_weightTo : Nat → Int32) (f_uprightBars : Nat → Int32) (f_levelBars : Nat → Int32) (i_p1_rows : Int32) (K_17 : Int32 → (Nat → Int32) → Prop) : Nat → Int32 → (Nat → Int32) → Prop
  | 0, _, _ => False
  | n + 1, v4, f_cost => ((v4 < 0 → (∀ v3_1 : Int32, v3_1 = (v3 + 1) → K_17 v3_1 f_cost)) ∧ (¬ v4 < 0 → P_X4_findCosts v4 v3 i_p1_rows i_limit f_cost f_weightTo f_uprightBars f_levelBars (fun f_cost_2 => (∀ v4_3 : Int32, v4_3 = (v4 + (-1)) → V_X4_findsPlan_28 v3 i_limit f_weightTo f_uprightBars f_levelBars i_p1_rows K_17 n v4_3 f_cost_2))))
theorem V_X4_findsPlan_28_s (v3 : Int32) (i_limit : Int32) (f_weightTo : Nat → Int32) (f_uprightBars : Nat → Int32) (f_levelBars : Nat → Int32) (i_p1_rows : Int32) (K_17 : Int32 → (Nat → Int32) → Prop) (n : Nat) (v4 : Int32) (f_cost : Nat → Int32) : V_X4_findsPlan_28 v3 i_limit f_weightTo f_uprightBars f_levelBars i_p1_rows K_17 (n + 1) v4 f_cost = (((v4 < 0 → (∀ v3_1 : Int32, v3_1 = (v3 + 1) → K_17 v3_1 f_cost)) ∧ (¬ v4 < 0 → P_X4_findCosts v4 v3 i_p1_rows i_limit f_cost f_weightTo f_uprightBars f_levelBars (fun f_cost_2 => (∀ v4_3 : Int32, v4_3 = (v4 + (-1)) → V_X4_findsPlan_28 v3 i_limit f_weightTo f_uprightBars f_levelBars i_p1_rows K_17 n v4_3 f_cost_2))))) := rfl
def V_X4_findsPlan_17 (i_limit : Int32) (f_weightTo : Nat → Int32) (f_uprightBars : Nat → Int32) (f_levelBars : Nat → Int32) (i_p1_columns : Int32) (i_p1_rows : Int32) (post : Int32 → Int32 → (Nat → Int32) → (Nat → Int32) → (Nat → Int32) → (Nat → Int32) → Prop) : Nat → Int32 → (Nat → Int32) → Prop
  | 0, _, _ => False
  | n + 1, v3, f_cost => ((i_p1_columns ≤ v3 → P_X4_part 0 (i_p1_columns - 1) 0 (i_p1_rows - 1) (fun r_4 => (vp_in r_4 1296 ∧ ((1048576 ≤ (f_cost r_4.toNatClampNeg) → post 0 i_limit f_cost f_weightTo f_uprightBars f_levelBars) ∧ (¬ 1048576 ≤ (f_cost r_4.toNatClampNeg) → post 1 i_limit f_cost f_weightTo f_uprightBars f_levelBars))))) ∧ (¬ i_p1_columns ≤ v3 → (∃ k : Nat, V_X4_findsPlan_28 v3 i_limit f_weightTo f_uprightBars f_levelBars i_p1_rows (V_X4_findsPlan_17 i_limit f_weightTo f_uprightBars f_levelBars i_p1_columns i_p1_rows post n) k v3 f_cost)))
theorem V_X4_findsPlan_17_s (i_limit : Int32) (f_weightTo : Nat → Int32) (f_uprightBars : Nat → Int32) (f_levelBars : Nat → Int32) (i_p1_columns : Int32) (i_p1_rows : Int32) (post : Int32 → Int32 → (Nat → Int32) → (Nat → Int32) → (Nat → Int32) → (Nat → Int32) → Prop) (n : Nat) (v3 : Int32) (f_cost : Nat → Int32) : V_X4_findsPlan_17 i_limit f_weightTo f_uprightBars f_levelBars i_p1_columns i_p1_rows post (n + 1) v3 f_cost = (((i_p1_columns ≤ v3 → P_X4_part 0 (i_p1_columns - 1) 0 (i_p1_rows - 1) (fun r_4 => (vp_in r_4 1296 ∧ ((1048576 ≤ (f_cost r_4.toNatClampNeg) → post 0 i_limit f_cost f_weightTo f_uprightBars f_levelBars) ∧ (¬ 1048576 ≤ (f_cost r_4.toNatClampNeg) → post 1 i_limit f_cost f_weightTo f_uprightBars f_levelBars))))) ∧ (¬ i_p1_columns ≤ v3 → (∃ k : Nat, V_X4_findsPlan_28 v3 i_limit f_weightTo f_uprightBars f_levelBars i_p1_rows (V_X4_findsPlan_17 i_limit f_weightTo f_uprightBars f_levelBars i_p1_columns i_p1_rows post n) k v3 f_cost)))) := rfl
def P_X4_findsPlan (x2 : Int32) (f_cost : Nat → Int32) (f_weightTo : Nat → Int32) (f_uprightBars : Nat → Int32) (f_levelBars : Nat → Int32) (i_p1_columns : Int32) (i_p1_rows : Int32) (f_p1_weight : Nat → Int32) (f_p1_motif : Nat → Int32) (post : Int32 → Int32 → (Nat → Int32) → (Nat → Int32) → (Nat → Int32) → (Nat → Int32) → Prop) : Prop := P_X4_addUpWeights f_weightTo i_p1_columns i_p1_rows f_p1_weight (fun f_weightTo_5 => P_X4_findBars f_uprightBars f_levelBars i_p1_columns i_p1_rows f_p1_motif (fun f_uprightBars_6 f_levelBars_7 => (∃ k : Nat, V_X4_findsPlan_17 x2 f_weightTo_5 f_uprightBars_6 f_levelBars_7 i_p1_columns i_p1_rows post k 0 f_cost)))
set_option maxRecDepth 100000 in
set_option maxHeartbeats 4000000 in
theorem c_X4_findsPlan (l : Launch) (D : va_G) (cI cB cS : ClassId) (a_this a_cost a_weightTo a_uprightBars a_levelBars a_p1 a_p1_weight a_p1_motif : Nat) (x2 : Int32) (i_limit : Int32) (f_cost : Nat → Int32) (f_weightTo : Nat → Int32) (f_uprightBars : Nat → Int32) (f_levelBars : Nat → Int32) (i_p1_columns : Int32) (i_p1_rows : Int32) (f_p1_weight : Nat → Int32) (f_p1_motif : Nat → Int32) (post : Int32 → Int32 → (Nat → Int32) → (Nat → Int32) → (Nat → Int32) → (Nat → Int32) → Prop) (hV : P_X4_findsPlan x2 f_cost f_weightTo f_uprightBars f_levelBars i_p1_columns i_p1_rows f_p1_weight f_p1_motif post) : Ci l yX4_findsPlan cX4_findsPlan 5 (some .boolean) rm_X4_findsPlan D cI cB cS [.ref a_this, .ref a_p1, .int x2] [oc a_this 4 [.int i_limit, .ref a_cost, .ref a_weightTo, .ref a_uprightBars, .ref a_levelBars], ai cI a_cost 1296 f_cost, ai cI a_weightTo 81 f_weightTo, ai cI a_uprightBars 8 f_uprightBars, ai cI a_levelBars 8 f_levelBars, oc a_p1 6 [.int i_p1_columns, .int i_p1_rows, .ref a_p1_weight, .ref a_p1_motif], ai cI a_p1_weight 64 f_p1_weight, ai cI a_p1_motif 64 f_p1_motif] (fun r (u : Int32 × (Nat → Int32) × (Nat → Int32) × (Nat → Int32) × (Nat → Int32)) => post r u.1 u.2.1 u.2.2.1 u.2.2.2.1 u.2.2.2.2) (fun (u : Int32 × (Nat → Int32) × (Nat → Int32) × (Nat → Int32) × (Nat → Int32)) => [oc a_this 4 [.int u.1, .ref a_cost, .ref a_weightTo, .ref a_uprightBars, .ref a_levelBars], ai cI a_cost 1296 (u.2.1), ai cI a_weightTo 81 (u.2.2.1), ai cI a_uprightBars 8 (u.2.2.2.1), ai cI a_levelBars 8 (u.2.2.2.2), oc a_p1 6 [.int i_p1_columns, .int i_p1_rows, .ref a_p1_weight, .ref a_p1_motif], ai cI a_p1_weight 64 f_p1_weight, ai cI a_p1_motif 64 f_p1_motif]) := by
  refine Cz.of ok_X4_findsPlan (Nat.le_of_ble_eq_true rfl) ?_
  intro p e s m args below meth c A Q hx hb hml hown ht hnm hK hP hA hS hret ls hl
  have hown : s.vm.findClass RX4 = some m.cls := hown
  have FX : CallFix p m c cX4_findsPlan 5 s args tblG RX4 := ⟨hx, hb, hml, hown, ht⟩
  have hP : PD D A [oc a_this 4 [.int i_limit, .ref a_cost, .ref a_weightTo, .ref a_uprightBars, .ref a_levelBars], ai cI a_cost 1296 f_cost, ai cI a_weightTo 81 f_weightTo, ai cI a_uprightBars 8 f_uprightBars, ai cI a_levelBars 8 f_levelBars, oc a_p1 6 [.int i_p1_columns, .int i_p1_rows, .ref a_p1_weight, .ref a_p1_motif], ai cI a_p1_weight 64 f_p1_weight, ai cI a_p1_motif 64 f_p1_motif] s.heap := hP
  have hl : lv_has ls 5 [(0, .ref a_this), (1, .ref a_p1), (2, .int x2)] := hl
  unfold P_X4_findsPlan at hV
  have b17 : ∀ (i_limit : Int32) (f_weightTo : Nat → Int32) (f_uprightBars : Nat → Int32) (f_levelBars : Nat → Int32) (k17 : Nat) (v3 : Int32) (f_cost : Nat → Int32) (H : Heap) (locs : List Loc) (ls : Array Slot), PD D A [oc a_this 4 [.int i_limit, .ref a_cost, .ref a_weightTo, .ref a_uprightBars, .ref a_levelBars], ai cI a_cost 1296 f_cost, ai cI a_weightTo 81 f_weightTo, ai cI a_uprightBars 8 f_uprightBars, ai cI a_levelBars 8 f_levelBars, oc a_p1 6 [.int i_p1_columns, .int i_p1_rows, .ref a_p1_weight, .ref a_p1_motif], ai cI a_p1_weight 64 f_p1_weight, ai cI a_p1_motif 64 f_p1_motif] H → va_S A s.heap H locs → lv_has ls 5 [(0, .ref a_this), (1, .ref a_p1), (3, .int v3)] → V_X4_findsPlan_17 i_limit f_weightTo f_uprightBars f_levelBars i_p1_columns i_p1_rows post k17 v3 f_cost → W p l e rm_X4_findsPlan s m args below meth c H locs 0 0 Q (F0 m 17 ls []) := by
    intro i_limit f_weightTo f_uprightBars f_levelBars k17
    induction k17 with
    | zero => intro v3 f_cost H locs ls hP hS hl hV; exact False.elim hV
    | succ k17 ih17 =>
      intro v3 f_cost H locs ls hP hS hl hV
      rw [V_X4_findsPlan_17_s] at hV
      have b28 : ∀ (v3 : Int32) (k28 : Nat) (v4 : Int32) (f_cost : Nat → Int32) (H : Heap) (locs : List Loc) (ls : Array Slot), PD D A [oc a_this 4 [.int i_limit, .ref a_cost, .ref a_weightTo, .ref a_uprightBars, .ref a_levelBars], ai cI a_cost 1296 f_cost, ai cI a_weightTo 81 f_weightTo, ai cI a_uprightBars 8 f_uprightBars, ai cI a_levelBars 8 f_levelBars, oc a_p1 6 [.int i_p1_columns, .int i_p1_rows, .ref a_p1_weight, .ref a_p1_motif], ai cI a_p1_weight 64 f_p1_weight, ai cI a_p1_motif 64 f_p1_motif] H → va_S A s.heap H locs → lv_has ls 5 [(0, .ref a_this), (1, .ref a_p1), (3, .int v3), (4, .int v4)] → V_X4_findsPlan_28 v3 i_limit f_weightTo f_uprightBars f_levelBars i_p1_rows (V_X4_findsPlan_17 i_limit f_weightTo f_uprightBars f_levelBars i_p1_columns i_p1_rows post k17) k28 v4 f_cost → W p l e rm_X4_findsPlan s m args below meth c H locs 0 0 Q (F0 m 28 ls []) := by
        intro v3 k28
        induction k28 with
        | zero => intro v4 f_cost H locs ls hP hS hl hV; exact False.elim hV
        | succ k28 ih28 =>
          intro v4 f_cost H locs ls hP hS hl hV
          rw [V_X4_findsPlan_28_s] at hV
          refine lv_iload hx hb dX4_findsPlan_28 (lv_at hl 3 rfl) ?_
          refine lv_if_lt (tgt := 50) hx hb dX4_findsPlan_30 (by decide) (fun h => ?_) (fun h => ?_)
          · have hV := hV.1 h
            obtain ⟨v3_1, e_v3_1⟩ : ∃ y : Int32, y = (v3 + 1) := ⟨_, rfl⟩
            have hV := hV v3_1 e_v3_1
            refine lv_iinc (v := v3_1) (lv' := [(3, .int v3_1), (0, .ref a_this), (1, .ref a_p1), (4, .int v4)]) hx hb dX4_findsPlan_50 hl (k := 2) rfl (by rw [e_v3_1]; rfl) (by decide) rfl (fun ls hl => ?_)
            refine lv_goto (tgt := 17) hx hb dX4_findsPlan_53 (by decide) ?_
            exact ih17 v3_1 f_cost _ _ _ hP hS (lv_sub hl [1, 2, 0] rfl) hV
          · have hV := hV.2 h
            refine lv_aload_n hx hb dX4_findsPlan_33 rfl (lv_at hl 0 rfl) ?_
            refine lv_iload hx hb dX4_findsPlan_34 (lv_at hl 3 rfl) ?_
            refine lv_iload_n hx hb dX4_findsPlan_36 rfl (lv_at hl 2 rfl) ?_
            refine lv_aload_n hx hb dX4_findsPlan_37 rfl (lv_at hl 1 rfl) ?_
            refine gX7 hx hb ht hown hK hP 5 rfl 1 (by decide) fl_X4_40 (fun _ h => h) rfl dX4_findsPlan_38 ?_
            refine KVv (As := [.int v4, .int v3, .int i_p1_rows]) (rest := []) FX (c_X4_findCosts l D cI cB cS a_this a_cost a_weightTo a_uprightBars a_levelBars v4 v3 i_p1_rows i_limit f_cost f_weightTo f_uprightBars f_levelBars _ hV) ok_X4_findCosts im_X4_findCosts se_X4_findCosts li_X4_43 dX4_findsPlan_41 hK hP hS hA [0, 1, 2, 3, 4] [5, 6, 7] 0 rfl rfl rfl (by decide) rfl rfl hl.1 (Nat.le_of_ble_eq_true rfl) ⟨Nat.le_of_ble_eq_true rfl, Nat.le_of_ble_eq_true rfl⟩ ⟨Nat.le_of_ble_eq_true rfl, Nat.le_of_ble_eq_true rfl⟩ (fun f_cost_2 H locs hV hP hS => ?_)
            have hP : PD D A [oc a_p1 6 [.int i_p1_columns, .int i_p1_rows, .ref a_p1_weight, .ref a_p1_motif], ai cI a_p1_weight 64 f_p1_weight, ai cI a_p1_motif 64 f_p1_motif, oc a_this 4 [.int i_limit, .ref a_cost, .ref a_weightTo, .ref a_uprightBars, .ref a_levelBars], ai cI a_cost 1296 f_cost_2, ai cI a_weightTo 81 f_weightTo, ai cI a_uprightBars 8 f_uprightBars, ai cI a_levelBars 8 f_levelBars] H := hP
            obtain ⟨v4_3, e_v4_3⟩ : ∃ y : Int32, y = (v4 + (-1)) := ⟨_, rfl⟩
            have hV := hV v4_3 e_v4_3
            refine lv_iinc (v := v4_3) (lv' := [(4, .int v4_3), (0, .ref a_this), (1, .ref a_p1), (3, .int v3)]) hx hb dX4_findsPlan_44 hl (k := 3) rfl (by rw [e_v4_3]; rfl) (by decide) rfl (fun ls hl => ?_)
            refine lv_goto (tgt := 28) hx hb dX4_findsPlan_47 (by decide) ?_
            exact ih28 v4_3 f_cost_2 _ _ _ (hP.sub [3, 4, 5, 6, 7, 0, 1, 2] rfl rfl) hS (lv_sub hl [1, 2, 3, 0] rfl) hV
      refine lv_iload_n hx hb dX4_findsPlan_17 rfl (lv_at hl 2 rfl) ?_
      refine lv_aload_n hx hb dX4_findsPlan_18 rfl (lv_at hl 1 rfl) ?_
      refine gX7 hx hb ht hown hK hP 5 rfl 0 (by decide) fl_X4_35 (fun _ h => h) rfl dX4_findsPlan_19 ?_
      refine lv_icmp_ge (tgt := 56) hx hb dX4_findsPlan_22 (by decide) (fun h => ?_) (fun h => ?_)
      · have hV := hV.1 h
        refine lv_aload_n hx hb dX4_findsPlan_56 rfl (lv_at hl 0 rfl) ?_
        refine gX4 hx hb ht hown hK hP 0 rfl 1 (by decide) fl_X4_11 (fun _ h => h) rfl dX4_findsPlan_57 ?_
        refine lv_iconst (v := 0) hx hb dX4_findsPlan_60 (by decide) ?_
        refine lv_aload_n hx hb dX4_findsPlan_61 rfl (lv_at hl 1 rfl) ?_
        refine gX7 hx hb ht hown hK hP 5 rfl 0 (by decide) fl_X4_35 (fun _ h => h) rfl dX4_findsPlan_62 ?_
        refine lv_iconst (v := 1) hx hb dX4_findsPlan_65 (by decide) ?_
        refine lv_isub hx hb dX4_findsPlan_66 ?_
        refine lv_iconst (v := 0) hx hb dX4_findsPlan_67 (by decide) ?_
        refine lv_aload_n hx hb dX4_findsPlan_68 rfl (lv_at hl 1 rfl) ?_
        refine gX7 hx hb ht hown hK hP 5 rfl 1 (by decide) fl_X4_40 (fun _ h => h) rfl dX4_findsPlan_69 ?_
        refine lv_iconst (v := 1) hx hb dX4_findsPlan_72 (by decide) ?_
        refine lv_isub hx hb dX4_findsPlan_73 ?_
        refine KSi (As := [.int 0, .int (i_p1_columns - 1), .int 0, .int (i_p1_rows - 1)]) (rest := [.ref a_cost]) FX (c_X4_part l D cI cB cS 0 (i_p1_columns - 1) 0 (i_p1_rows - 1) _ hV) ok_X4_part is_X4_part li_X4_47 dX4_findsPlan_74 hK hP hS hA [] [0, 1, 2, 3, 4, 5, 6, 7] rfl rfl (by decide) rfl hl.1 (Nat.le_of_ble_eq_true rfl) ⟨Nat.le_of_ble_eq_true rfl, Nat.le_of_ble_eq_true rfl⟩ ⟨Nat.le_of_ble_eq_true rfl, Nat.le_of_ble_eq_true rfl⟩ (fun r_4 _ H locs hV hP hS => ?_)
        have hP : PD D A [oc a_this 4 [.int i_limit, .ref a_cost, .ref a_weightTo, .ref a_uprightBars, .ref a_levelBars], ai cI a_cost 1296 f_cost, ai cI a_weightTo 81 f_weightTo, ai cI a_uprightBars 8 f_uprightBars, ai cI a_levelBars 8 f_levelBars, oc a_p1 6 [.int i_p1_columns, .int i_p1_rows, .ref a_p1_weight, .ref a_p1_motif], ai cI a_p1_weight 64 f_p1_weight, ai cI a_p1_motif 64 f_p1_motif] H := hP
        refine ild hx hb hK hP 1 rfl dX4_findsPlan_77 hV.1 ?_
        have hV := hV.2
        refine lv_ldc hx hb hown (ht _ co_X4_51) dX4_findsPlan_78 ?_
        refine lv_icmp_ge (tgt := 87) hx hb dX4_findsPlan_80 (by decide) (fun h => ?_) (fun h => ?_)
        · have hV := hV.1 h
          refine lv_iconst (v := 0) hx hb dX4_findsPlan_87 (by decide) ?_
          exact hret _ _ _ _ _ (i_limit, f_cost, f_weightTo, f_uprightBars, f_levelBars) hS dX4_findsPlan_88 hP (by decide) hV
        · have hV := hV.2 h
          refine lv_iconst (v := 1) hx hb dX4_findsPlan_83 (by decide) ?_
          refine lv_goto (tgt := 88) hx hb dX4_findsPlan_84 (by decide) ?_
          exact hret _ _ _ _ _ (i_limit, f_cost, f_weightTo, f_uprightBars, f_levelBars) hS dX4_findsPlan_88 hP (by decide) hV
      · have hV := hV.2 h
        refine lv_iload_n hx hb dX4_findsPlan_25 rfl (lv_at hl 2 rfl) ?_
        refine lv_istore (lv' := [(4, .int v3), (0, .ref a_this), (1, .ref a_p1), (3, .int v3)]) hx hb dX4_findsPlan_26 hl (by decide) rfl (fun ls hl => ?_)
        obtain ⟨k, hV⟩ := hV
        exact b28 v3 k v3 f_cost _ _ _ hP hS (lv_sub hl [1, 2, 3, 0] rfl) hV
  refine lv_aload_n hx hb dX4_findsPlan_0 rfl (lv_at hl 0 rfl) ?_
  refine lv_iload_n hx hb dX4_findsPlan_1 rfl (lv_at hl 2 rfl) ?_
  refine pX4 hx hb ht hown hK hP hS 0 rfl 0 (by decide) fl_X4_24 (fun _ h => h) rfl (tyX4_ok 0 (by decide)) rfl rfl (Nat.le_of_ble_eq_true rfl) dX4_findsPlan_2 (fun H locs hP hS => ?_)
  have hP : PD D A [oc a_this 4 [.int x2, .ref a_cost, .ref a_weightTo, .ref a_uprightBars, .ref a_levelBars], ai cI a_cost 1296 f_cost, ai cI a_weightTo 81 f_weightTo, ai cI a_uprightBars 8 f_uprightBars, ai cI a_levelBars 8 f_levelBars, oc a_p1 6 [.int i_p1_columns, .int i_p1_rows, .ref a_p1_weight, .ref a_p1_motif], ai cI a_p1_weight 64 f_p1_weight, ai cI a_p1_motif 64 f_p1_motif] H := hP
  refine lv_aload_n hx hb dX4_findsPlan_5 rfl (lv_at hl 0 rfl) ?_
  refine lv_aload_n hx hb dX4_findsPlan_6 rfl (lv_at hl 1 rfl) ?_
  refine KVv (As := [.ref a_p1]) (rest := []) FX (c_X4_addUpWeights l D cI cB cS a_this a_weightTo a_p1 a_p1_weight a_cost a_uprightBars a_levelBars a_p1_motif x2 f_weightTo i_p1_columns i_p1_rows f_p1_weight _ hV) ok_X4_addUpWeights im_X4_addUpWeights se_X4_addUpWeights li_X4_28 dX4_findsPlan_7 hK hP hS hA [0, 2, 5, 6] [1, 3, 4, 7] 0 rfl rfl rfl (by decide) rfl rfl hl.1 (Nat.le_of_ble_eq_true rfl) ⟨Nat.le_of_ble_eq_true rfl, Nat.le_of_ble_eq_true rfl⟩ ⟨Nat.le_of_ble_eq_true rfl, Nat.le_of_ble_eq_true rfl⟩ (fun f_weightTo_5 H locs hV hP hS => ?_)
  have hP : PD D A [ai cI a_cost 1296 f_cost, ai cI a_uprightBars 8 f_uprightBars, ai cI a_levelBars 8 f_levelBars, ai cI a_p1_motif 64 f_p1_motif, oc a_this 4 [.int x2, .ref a_cost, .ref a_weightTo, .ref a_uprightBars, .ref a_levelBars], ai cI a_weightTo 81 f_weightTo_5, oc a_p1 6 [.int i_p1_columns, .int i_p1_rows, .ref a_p1_weight, .ref a_p1_motif], ai cI a_p1_weight 64 f_p1_weight] H := hP
  refine lv_aload_n hx hb dX4_findsPlan_10 rfl (lv_at hl 0 rfl) ?_
  refine lv_aload_n hx hb dX4_findsPlan_11 rfl (lv_at hl 1 rfl) ?_
  refine KVv (As := [.ref a_p1]) (rest := []) FX (c_X4_findBars l D cI cB cS a_this a_uprightBars a_levelBars a_p1 a_p1_motif a_cost a_weightTo a_p1_weight x2 f_uprightBars f_levelBars i_p1_columns i_p1_rows f_p1_motif _ hV) ok_X4_findBars im_X4_findBars se_X4_findBars li_X4_32 dX4_findsPlan_12 hK hP hS hA [4, 1, 2, 6, 3] [0, 5, 7] 4 rfl rfl rfl (by decide) rfl rfl hl.1 (Nat.le_of_ble_eq_true rfl) ⟨Nat.le_of_ble_eq_true rfl, Nat.le_of_ble_eq_true rfl⟩ ⟨Nat.le_of_ble_eq_true rfl, Nat.le_of_ble_eq_true rfl⟩ (fun u H locs hV hP hS => ?_)
  obtain ⟨f_uprightBars_6, f_levelBars_7⟩ := u
  try dsimp only at hV
  have hP : PD D A [ai cI a_cost 1296 f_cost, ai cI a_weightTo 81 f_weightTo_5, ai cI a_p1_weight 64 f_p1_weight, oc a_this 4 [.int x2, .ref a_cost, .ref a_weightTo, .ref a_uprightBars, .ref a_levelBars], ai cI a_uprightBars 8 f_uprightBars_6, ai cI a_levelBars 8 f_levelBars_7, oc a_p1 6 [.int i_p1_columns, .int i_p1_rows, .ref a_p1_weight, .ref a_p1_motif], ai cI a_p1_motif 64 f_p1_motif] H := hP
  refine lv_iconst (v := 0) hx hb dX4_findsPlan_15 (by decide) ?_
  refine lv_istore_n (lv' := [(3, .int 0), (0, .ref a_this), (1, .ref a_p1), (2, .int x2)]) hx hb dX4_findsPlan_16 rfl hl (by decide) rfl (fun ls hl => ?_)
  obtain ⟨k, hV⟩ := hV
  exact b17 x2 f_weightTo_5 f_uprightBars_6 f_levelBars_7 k 0 f_cost _ _ _ (hP.sub [3, 0, 1, 4, 5, 6, 2, 7] rfl rfl) hS (lv_sub hl [1, 2, 0] rfl) hV

def rm_X4_cutsFirst : Room := { frames := 4, cells := 0, slots := 0, locals := 83 }
def V_X4_cutsFirst_123 (x2 : Int32) (v3 : Int32) (v4 : Int32) (v5 : Int32) (v6 : Int32) (v7 : Int32) (f_cost : Nat → Int32) (f_levelBars : Nat → Int32) (i_p1_blocks : Int32) (i_p1_sawn : Int32) (f_p1_left : Nat → Int32) (f_p1_low : Nat → Int32) (f_p1_columns : Nat → Int32) (f_p1_rows : Nat → Int32) (post : Int32 → Int32 → Int32 → (Nat → Int32) → (Nat → Int32) → (Nat → Int32) → (Nat → Int32) → Prop) : Nat → Int32 → Prop
  | 0, _ => False
  | n + 1, v8 => ((v6 ≤ v8 → post 0 i_p1_blocks i_p1_sawn f_p1_left f_p1_low f_p1_columns f_p1_rows) ∧ (¬ v6 ≤ v8 → P_X4_levelCost v3 v4 v5 v6 v8 f_cost f_levelBars (fun r_1 => ((r_1 = v7 → P_X2_cutLevel x2 v8 i_p1_blocks i_p1_sawn f_p1_left f_p1_low f_p1_columns f_p1_rows (fun i_p1_blocks_3 i_p1_sawn_4 f_p1_left_5 f_p1_low_6 f_p1_columns_7 f_p1_rows_8 => post 1 i_p1_blocks_3 i_p1_sawn_4 f_p1_left_5 f_p1_low_6 f_p1_columns_7 f_p1_rows_8)) ∧ (¬ r_1 = v7 → (∀ v8_2 : Int32, v8_2 = (v8 + 1) → V_X4_cutsFirst_123 x2 v3 v4 v5 v6 v7 f_cost f_levelBars i_p1_blocks i_p1_sawn f_p1_left f_p1_low f_p1_columns f_p1_rows post n v8_2))))))
theorem V_X4_cutsFirst_123_s (x2 : Int32) (v3 : Int32) (v4 : Int32) (v5 : Int32) (v6 : Int32) (v7 : Int32) (f_cost : Nat → Int32) (f_levelBars : Nat → Int32) (i_p1_blocks : Int32) (i_p1_sawn : Int32) (f_p1_left : Nat → Int32) (f_p1_low : Nat → Int32) (f_p1_columns : Nat → Int32) (f_p1_rows : Nat → Int32) (post : Int32 → Int32 → Int32 → (Nat → Int32) → (Nat → Int32) → (Nat → Int32) → (Nat → Int32) → Prop) (n : Nat) (v8 : Int32) : V_X4_cutsFirst_123 x2 v3 v4 v5 v6 v7 f_cost f_levelBars i_p1_blocks i_p1_sawn f_p1_left f_p1_low f_p1_columns f_p1_rows post (n + 1) v8 = (((v6 ≤ v8 → post 0 i_p1_blocks i_p1_sawn f_p1_left f_p1_low f_p1_columns f_p1_rows) ∧ (¬ v6 ≤ v8 → P_X4_levelCost v3 v4 v5 v6 v8 f_cost f_levelBars (fun r_1 => ((r_1 = v7 → P_X2_cutLevel x2 v8 i_p1_blocks i_p1_sawn f_p1_left f_p1_low f_p1_columns f_p1_rows (fun i_p1_blocks_3 i_p1_sawn_4 f_p1_left_5 f_p1_low_6 f_p1_columns_7 f_p1_rows_8 => post 1 i_p1_blocks_3 i_p1_sawn_4 f_p1_left_5 f_p1_low_6 f_p1_columns_7 f_p1_rows_8)) ∧ (¬ r_1 = v7 → (∀ v8_2 : Int32, v8_2 = (v8 + 1) → V_X4_cutsFirst_123 x2 v3 v4 v5 v6 v7 f_cost f_levelBars i_p1_blocks i_p1_sawn f_p1_left f_p1_low f_p1_columns f_p1_rows post n v8_2))))))) := rfl
def V_X4_cutsFirst_79 (x2 : Int32) (v3 : Int32) (v4 : Int32) (v5 : Int32) (v6 : Int32) (v7 : Int32) (f_cost : Nat → Int32) (f_uprightBars : Nat → Int32) (f_levelBars : Nat → Int32) (i_p1_blocks : Int32) (i_p1_sawn : Int32) (f_p1_left : Nat → Int32) (f_p1_low : Nat → Int32) (f_p1_columns : Nat → Int32) (f_p1_rows : Nat → Int32) (post : Int32 → Int32 → Int32 → (Nat → Int32) → (Nat → Int32) → (Nat → Int32) → (Nat → Int32) → Prop) : Nat → Int32 → Prop
  | 0, _ => False
  | n + 1, v8 => ((v4 ≤ v8 → (∃ k : Nat, V_X4_cutsFirst_123 x2 v3 v4 v5 v6 v7 f_cost f_levelBars i_p1_blocks i_p1_sawn f_p1_left f_p1_low f_p1_columns f_p1_rows post k v5)) ∧ (¬ v4 ≤ v8 → P_X4_uprightCost v3 v4 v5 v6 v8 f_cost f_uprightBars (fun r_9 => ((r_9 = v7 → P_X2_cutUpright x2 v8 i_p1_blocks i_p1_sawn f_p1_left f_p1_low f_p1_columns f_p1_rows (fun i_p1_blocks_11 i_p1_sawn_12 f_p1_left_13 f_p1_low_14 f_p1_columns_15 f_p1_rows_16 => post 1 i_p1_blocks_11 i_p1_sawn_12 f_p1_left_13 f_p1_low_14 f_p1_columns_15 f_p1_rows_16)) ∧ (¬ r_9 = v7 → (∀ v8_10 : Int32, v8_10 = (v8 + 1) → V_X4_cutsFirst_79 x2 v3 v4 v5 v6 v7 f_cost f_uprightBars f_levelBars i_p1_blocks i_p1_sawn f_p1_left f_p1_low f_p1_columns f_p1_rows post n v8_10))))))
theorem V_X4_cutsFirst_79_s (x2 : Int32) (v3 : Int32) (v4 : Int32) (v5 : Int32) (v6 : Int32) (v7 : Int32) (f_cost : Nat → Int32) (f_uprightBars : Nat → Int32) (f_levelBars : Nat → Int32) (i_p1_blocks : Int32) (i_p1_sawn : Int32) (f_p1_left : Nat → Int32) (f_p1_low : Nat → Int32) (f_p1_columns : Nat → Int32) (f_p1_rows : Nat → Int32) (post : Int32 → Int32 → Int32 → (Nat → Int32) → (Nat → Int32) → (Nat → Int32) → (Nat → Int32) → Prop) (n : Nat) (v8 : Int32) : V_X4_cutsFirst_79 x2 v3 v4 v5 v6 v7 f_cost f_uprightBars f_levelBars i_p1_blocks i_p1_sawn f_p1_left f_p1_low f_p1_columns f_p1_rows post (n + 1) v8 = (((v4 ≤ v8 → (∃ k : Nat, V_X4_cutsFirst_123 x2 v3 v4 v5 v6 v7 f_cost f_levelBars i_p1_blocks i_p1_sawn f_p1_left f_p1_low f_p1_columns f_p1_rows post k v5)) ∧ (¬ v4 ≤ v8 → P_X4_uprightCost v3 v4 v5 v6 v8 f_cost f_uprightBars (fun r_9 => ((r_9 = v7 → P_X2_cutUpright x2 v8 i_p1_blocks i_p1_sawn f_p1_left f_p1_low f_p1_columns f_p1_rows (fun i_p1_blocks_11 i_p1_sawn_12 f_p1_left_13 f_p1_low_14 f_p1_columns_15 f_p1_rows_16 => post 1 i_p1_blocks_11 i_p1_sawn_12 f_p1_left_13 f_p1_low_14 f_p1_columns_15 f_p1_rows_16)) ∧ (¬ r_9 = v7 → (∀ v8_10 : Int32, v8_10 = (v8 + 1) → V_X4_cutsFirst_79 x2 v3 v4 v5 v6 v7 f_cost f_uprightBars f_levelBars i_p1_blocks i_p1_sawn f_p1_left f_p1_low f_p1_columns f_p1_rows post n v8_10))))))) := rfl
def P_X4_cutsFirst (x2 : Int32) (f_cost : Nat → Int32) (f_uprightBars : Nat → Int32) (f_levelBars : Nat → Int32) (i_p1_blocks : Int32) (i_p1_sawn : Int32) (f_p1_left : Nat → Int32) (f_p1_low : Nat → Int32) (f_p1_columns : Nat → Int32) (f_p1_rows : Nat → Int32) (post : Int32 → Int32 → Int32 → (Nat → Int32) → (Nat → Int32) → (Nat → Int32) → (Nat → Int32) → Prop) : Prop := (vp_in x2 64 ∧ (∀ v3_17 : Int32, v3_17 = (f_p1_left x2.toNatClampNeg) → (vp_in x2 64 ∧ (∀ v4_18 : Int32, v4_18 = ((v3_17 + (f_p1_columns x2.toNatClampNeg)) - 1) → (vp_in x2 64 ∧ (∀ v5_19 : Int32, v5_19 = (f_p1_low x2.toNatClampNeg) → (vp_in x2 64 ∧ (∀ v6_20 : Int32, v6_20 = ((v5_19 + (f_p1_rows x2.toNatClampNeg)) - 1) → P_X4_part v3_17 v4_18 v5_19 v6_20 (fun r_21 => (vp_in r_21 1296 ∧ (∀ v7_22 : Int32, v7_22 = (f_cost r_21.toNatClampNeg) → ((v7_22 = 256 → post 0 i_p1_blocks i_p1_sawn f_p1_left f_p1_low f_p1_columns f_p1_rows) ∧ (¬ v7_22 = 256 → ((i_p1_blocks < 64 → (∃ k : Nat, V_X4_cutsFirst_79 x2 v3_17 v4_18 v5_19 v6_20 v7_22 f_cost f_uprightBars f_levelBars i_p1_blocks i_p1_sawn f_p1_left f_p1_low f_p1_columns f_p1_rows post k v3_17)) ∧ (¬ i_p1_blocks < 64 → post 0 i_p1_blocks i_p1_sawn f_p1_left f_p1_low f_p1_columns f_p1_rows)))))))))))))))
set_option maxRecDepth 100000 in
set_option maxHeartbeats 4000000 in
theorem c_X4_cutsFirst (l : Launch) (D : va_G) (cI cB cS : ClassId) (a_this a_cost a_uprightBars a_levelBars a_p1 a_p1_left a_p1_low a_p1_columns a_p1_rows a_weightTo a_p1_turn a_p1_blockAt : Nat) (x2 : Int32) (i_limit : Int32) (f_cost : Nat → Int32) (f_uprightBars : Nat → Int32) (f_levelBars : Nat → Int32) (i_p1_blocks : Int32) (i_p1_sawn : Int32) (f_p1_left : Nat → Int32) (f_p1_low : Nat → Int32) (f_p1_columns : Nat → Int32) (f_p1_rows : Nat → Int32) (post : Int32 → Int32 → Int32 → (Nat → Int32) → (Nat → Int32) → (Nat → Int32) → (Nat → Int32) → Prop) (hV : P_X4_cutsFirst x2 f_cost f_uprightBars f_levelBars i_p1_blocks i_p1_sawn f_p1_left f_p1_low f_p1_columns f_p1_rows post) : Ci l yX4_cutsFirst cX4_cutsFirst 9 (some .boolean) rm_X4_cutsFirst D cI cB cS [.ref a_this, .ref a_p1, .int x2] [oc a_this 4 [.int i_limit, .ref a_cost, .ref a_weightTo, .ref a_uprightBars, .ref a_levelBars], ai cI a_cost 1296 f_cost, ai cI a_uprightBars 8 f_uprightBars, ai cI a_levelBars 8 f_levelBars, oc a_p1 2 [.int i_p1_blocks, .int i_p1_sawn, .ref a_p1_left, .ref a_p1_low, .ref a_p1_columns, .ref a_p1_rows, .ref a_p1_turn, .ref a_p1_blockAt], ai cI a_p1_left 64 f_p1_left, ai cI a_p1_low 64 f_p1_low, ai cI a_p1_columns 64 f_p1_columns, ai cI a_p1_rows 64 f_p1_rows] (fun r (u : Int32 × Int32 × (Nat → Int32) × (Nat → Int32) × (Nat → Int32) × (Nat → Int32)) => post r u.1 u.2.1 u.2.2.1 u.2.2.2.1 u.2.2.2.2.1 u.2.2.2.2.2) (fun (u : Int32 × Int32 × (Nat → Int32) × (Nat → Int32) × (Nat → Int32) × (Nat → Int32)) => [oc a_this 4 [.int i_limit, .ref a_cost, .ref a_weightTo, .ref a_uprightBars, .ref a_levelBars], ai cI a_cost 1296 f_cost, ai cI a_uprightBars 8 f_uprightBars, ai cI a_levelBars 8 f_levelBars, oc a_p1 2 [.int u.1, .int u.2.1, .ref a_p1_left, .ref a_p1_low, .ref a_p1_columns, .ref a_p1_rows, .ref a_p1_turn, .ref a_p1_blockAt], ai cI a_p1_left 64 (u.2.2.1), ai cI a_p1_low 64 (u.2.2.2.1), ai cI a_p1_columns 64 (u.2.2.2.2.1), ai cI a_p1_rows 64 (u.2.2.2.2.2)]) := by
  refine Cz.of ok_X4_cutsFirst (Nat.le_of_ble_eq_true rfl) ?_
  intro p e s m args below meth c A Q hx hb hml hown ht hnm hK hP hA hS hret ls hl
  have hown : s.vm.findClass RX4 = some m.cls := hown
  have FX : CallFix p m c cX4_cutsFirst 9 s args tblG RX4 := ⟨hx, hb, hml, hown, ht⟩
  have hP : PD D A [oc a_this 4 [.int i_limit, .ref a_cost, .ref a_weightTo, .ref a_uprightBars, .ref a_levelBars], ai cI a_cost 1296 f_cost, ai cI a_uprightBars 8 f_uprightBars, ai cI a_levelBars 8 f_levelBars, oc a_p1 2 [.int i_p1_blocks, .int i_p1_sawn, .ref a_p1_left, .ref a_p1_low, .ref a_p1_columns, .ref a_p1_rows, .ref a_p1_turn, .ref a_p1_blockAt], ai cI a_p1_left 64 f_p1_left, ai cI a_p1_low 64 f_p1_low, ai cI a_p1_columns 64 f_p1_columns, ai cI a_p1_rows 64 f_p1_rows] s.heap := hP
  have hl : lv_has ls 9 [(0, .ref a_this), (1, .ref a_p1), (2, .int x2)] := hl
  unfold P_X4_cutsFirst at hV
  have b123 : ∀ (v3 : Int32) (v4 : Int32) (v5 : Int32) (v6 : Int32) (v7 : Int32) (i_p1_blocks : Int32) (i_p1_sawn : Int32) (f_p1_left : Nat → Int32) (f_p1_low : Nat → Int32) (f_p1_columns : Nat → Int32) (f_p1_rows : Nat → Int32) (k123 : Nat) (v8 : Int32) (H : Heap) (locs : List Loc) (ls : Array Slot), PD D A [oc a_this 4 [.int i_limit, .ref a_cost, .ref a_weightTo, .ref a_uprightBars, .ref a_levelBars], ai cI a_cost 1296 f_cost, ai cI a_uprightBars 8 f_uprightBars, ai cI a_levelBars 8 f_levelBars, oc a_p1 2 [.int i_p1_blocks, .int i_p1_sawn, .ref a_p1_left, .ref a_p1_low, .ref a_p1_columns, .ref a_p1_rows, .ref a_p1_turn, .ref a_p1_blockAt], ai cI a_p1_left 64 f_p1_left, ai cI a_p1_low 64 f_p1_low, ai cI a_p1_columns 64 f_p1_columns, ai cI a_p1_rows 64 f_p1_rows] H → va_S A s.heap H locs → lv_has ls 9 [(0, .ref a_this), (1, .ref a_p1), (2, .int x2), (3, .int v3), (4, .int v4), (5, .int v5), (6, .int v6), (7, .int v7), (8, .int v8)] → V_X4_cutsFirst_123 x2 v3 v4 v5 v6 v7 f_cost f_levelBars i_p1_blocks i_p1_sawn f_p1_left f_p1_low f_p1_columns f_p1_rows post k123 v8 → W p l e rm_X4_cutsFirst s m args below meth c H locs 0 0 Q (F0 m 123 ls []) := by
    intro v3 v4 v5 v6 v7 i_p1_blocks i_p1_sawn f_p1_left f_p1_low f_p1_columns f_p1_rows k123
    induction k123 with
    | zero => intro v8 H locs ls hP hS hl hV; exact False.elim hV
    | succ k123 ih123 =>
      intro v8 H locs ls hP hS hl hV
      rw [V_X4_cutsFirst_123_s] at hV
      refine lv_iload hx hb dX4_cutsFirst_123 (lv_at hl 8 rfl) ?_
      refine lv_iload hx hb dX4_cutsFirst_125 (lv_at hl 6 rfl) ?_
      refine lv_icmp_ge (tgt := 163) hx hb dX4_cutsFirst_127 (by decide) (fun h => ?_) (fun h => ?_)
      · have hV := hV.1 h
        refine lv_iconst (v := 0) hx hb dX4_cutsFirst_163 (by decide) ?_
        exact hret _ _ _ _ _ (i_p1_blocks, i_p1_sawn, f_p1_left, f_p1_low, f_p1_columns, f_p1_rows) hS dX4_cutsFirst_164 hP (by decide) hV
      · have hV := hV.2 h
        refine lv_aload_n hx hb dX4_cutsFirst_130 rfl (lv_at hl 0 rfl) ?_
        refine lv_iload_n hx hb dX4_cutsFirst_131 rfl (lv_at hl 3 rfl) ?_
        refine lv_iload hx hb dX4_cutsFirst_132 (lv_at hl 4 rfl) ?_
        refine lv_iload hx hb dX4_cutsFirst_134 (lv_at hl 5 rfl) ?_
        refine lv_iload hx hb dX4_cutsFirst_136 (lv_at hl 6 rfl) ?_
        refine lv_iload hx hb dX4_cutsFirst_138 (lv_at hl 8 rfl) ?_
        refine KVi (As := [.int v3, .int v4, .int v5, .int v6, .int v8]) (rest := []) FX (c_X4_levelCost l D cI cB cS a_this a_cost a_levelBars a_weightTo a_uprightBars v3 v4 v5 v6 v8 i_limit f_cost f_levelBars _ hV) ok_X4_levelCost im_X4_levelCost se_X4_levelCost li_X4_88 dX4_cutsFirst_140 hK hP hS hA [0, 1, 3] [2, 4, 5, 6, 7, 8] 0 rfl rfl rfl (by decide) rfl rfl hl.1 (Nat.le_of_ble_eq_true rfl) ⟨Nat.le_of_ble_eq_true rfl, Nat.le_of_ble_eq_true rfl⟩ ⟨Nat.le_of_ble_eq_true rfl, Nat.le_of_ble_eq_true rfl⟩ (fun r_1 _ H locs hV hP hS => ?_)
        have hP : PD D A [ai cI a_uprightBars 8 f_uprightBars, oc a_p1 2 [.int i_p1_blocks, .int i_p1_sawn, .ref a_p1_left, .ref a_p1_low, .ref a_p1_columns, .ref a_p1_rows, .ref a_p1_turn, .ref a_p1_blockAt], ai cI a_p1_left 64 f_p1_left, ai cI a_p1_low 64 f_p1_low, ai cI a_p1_columns 64 f_p1_columns, ai cI a_p1_rows 64 f_p1_rows, oc a_this 4 [.int i_limit, .ref a_cost, .ref a_weightTo, .ref a_uprightBars, .ref a_levelBars], ai cI a_cost 1296 f_cost, ai cI a_levelBars 8 f_levelBars] H := hP
        refine lv_iload hx hb dX4_cutsFirst_143 (lv_at hl 7 rfl) ?_
        refine lv_icmp_ne (tgt := 157) hx hb dX4_cutsFirst_145 (by decide) (fun h => ?_) (fun h => ?_)
        · have hV := hV.2 h
          obtain ⟨v8_2, e_v8_2⟩ : ∃ y : Int32, y = (v8 + 1) := ⟨_, rfl⟩
          have hV := hV v8_2 e_v8_2
          refine lv_iinc (v := v8_2) (lv' := [(8, .int v8_2), (0, .ref a_this), (1, .ref a_p1), (2, .int x2), (3, .int v3), (4, .int v4), (5, .int v5), (6, .int v6), (7, .int v7)]) hx hb dX4_cutsFirst_157 hl (k := 8) rfl (by rw [e_v8_2]; rfl) (by decide) rfl (fun ls hl => ?_)
          refine lv_goto (tgt := 123) hx hb dX4_cutsFirst_160 (by decide) ?_
          exact ih123 v8_2 _ _ _ (hP.sub [6, 7, 0, 8, 1, 2, 3, 4, 5] rfl rfl) hS (lv_sub hl [1, 2, 3, 4, 5, 6, 7, 8, 0] rfl) hV
        · have hV := hV.1 h
          refine lv_aload_n hx hb dX4_cutsFirst_148 rfl (lv_at hl 1 rfl) ?_
          refine lv_iload_n hx hb dX4_cutsFirst_149 rfl (lv_at hl 2 rfl) ?_
          refine lv_iload hx hb dX4_cutsFirst_150 (lv_at hl 8 rfl) ?_
          refine KVv (As := [.int x2, .int v8]) (rest := []) FX (c_X2_cutLevel l D cI cB cS a_p1 a_p1_left a_p1_low a_p1_columns a_p1_rows a_p1_turn a_p1_blockAt x2 v8 i_p1_blocks i_p1_sawn f_p1_left f_p1_low f_p1_columns f_p1_rows _ hV) ok_X2_cutLevel im_X2_cutLevel se_X2_cutLevel li_X4_91 dX4_cutsFirst_152 hK hP hS hA [1, 2, 3, 4, 5] [0, 6, 7, 8] 1 rfl rfl rfl (by decide) rfl rfl hl.1 (Nat.le_of_ble_eq_true rfl) ⟨Nat.le_of_ble_eq_true rfl, Nat.le_of_ble_eq_true rfl⟩ ⟨Nat.le_of_ble_eq_true rfl, Nat.le_of_ble_eq_true rfl⟩ (fun u H locs hV hP hS => ?_)
          obtain ⟨i_p1_blocks_3, i_p1_sawn_4, f_p1_left_5, f_p1_low_6, f_p1_columns_7, f_p1_rows_8⟩ := u
          try dsimp only at hV
          have hP : PD D A [ai cI a_uprightBars 8 f_uprightBars, oc a_this 4 [.int i_limit, .ref a_cost, .ref a_weightTo, .ref a_uprightBars, .ref a_levelBars], ai cI a_cost 1296 f_cost, ai cI a_levelBars 8 f_levelBars, oc a_p1 2 [.int i_p1_blocks_3, .int i_p1_sawn_4, .ref a_p1_left, .ref a_p1_low, .ref a_p1_columns, .ref a_p1_rows, .ref a_p1_turn, .ref a_p1_blockAt], ai cI a_p1_left 64 f_p1_left_5, ai cI a_p1_low 64 f_p1_low_6, ai cI a_p1_columns 64 f_p1_columns_7, ai cI a_p1_rows 64 f_p1_rows_8] H := hP
          refine lv_iconst (v := 1) hx hb dX4_cutsFirst_155 (by decide) ?_
          exact hret _ _ _ _ _ (i_p1_blocks_3, i_p1_sawn_4, f_p1_left_5, f_p1_low_6, f_p1_columns_7, f_p1_rows_8) hS dX4_cutsFirst_156 (hP.sub [1, 2, 0, 3, 4, 5, 6, 7, 8] rfl rfl) (by decide) hV
  have b79 : ∀ (v3 : Int32) (v4 : Int32) (v5 : Int32) (v6 : Int32) (v7 : Int32) (i_p1_blocks : Int32) (i_p1_sawn : Int32) (f_p1_left : Nat → Int32) (f_p1_low : Nat → Int32) (f_p1_columns : Nat → Int32) (f_p1_rows : Nat → Int32) (k79 : Nat) (v8 : Int32) (H : Heap) (locs : List Loc) (ls : Array Slot), PD D A [oc a_this 4 [.int i_limit, .ref a_cost, .ref a_weightTo, .ref a_uprightBars, .ref a_levelBars], ai cI a_cost 1296 f_cost, ai cI a_uprightBars 8 f_uprightBars, ai cI a_levelBars 8 f_levelBars, oc a_p1 2 [.int i_p1_blocks, .int i_p1_sawn, .ref a_p1_left, .ref a_p1_low, .ref a_p1_columns, .ref a_p1_rows, .ref a_p1_turn, .ref a_p1_blockAt], ai cI a_p1_left 64 f_p1_left, ai cI a_p1_low 64 f_p1_low, ai cI a_p1_columns 64 f_p1_columns, ai cI a_p1_rows 64 f_p1_rows] H → va_S A s.heap H locs → lv_has ls 9 [(0, .ref a_this), (1, .ref a_p1), (2, .int x2), (3, .int v3), (4, .int v4), (5, .int v5), (6, .int v6), (7, .int v7), (8, .int v8)] → V_X4_cutsFirst_79 x2 v3 v4 v5 v6 v7 f_cost f_uprightBars f_levelBars i_p1_blocks i_p1_sawn f_p1_left f_p1_low f_p1_columns f_p1_rows post k79 v8 → W p l e rm_X4_cutsFirst s m args below meth c H locs 0 0 Q (F0 m 79 ls []) := by
    intro v3 v4 v5 v6 v7 i_p1_blocks i_p1_sawn f_p1_left f_p1_low f_p1_columns f_p1_rows k79
    induction k79 with
    | zero => intro v8 H locs ls hP hS hl hV; exact False.elim hV
    | succ k79 ih79 =>
      intro v8 H locs ls hP hS hl hV
      rw [V_X4_cutsFirst_79_s] at hV
      refine lv_iload hx hb dX4_cutsFirst_79 (lv_at hl 8 rfl) ?_
      refine lv_iload hx hb dX4_cutsFirst_81 (lv_at hl 4 rfl) ?_
      refine lv_icmp_ge (tgt := 119) hx hb dX4_cutsFirst_83 (by decide) (fun h => ?_) (fun h => ?_)
      · have hV := hV.1 h
        refine lv_iload hx hb dX4_cutsFirst_119 (lv_at hl 5 rfl) ?_
        refine lv_istore (lv' := [(8, .int v5), (0, .ref a_this), (1, .ref a_p1), (2, .int x2), (3, .int v3), (4, .int v4), (5, .int v5), (6, .int v6), (7, .int v7)]) hx hb dX4_cutsFirst_121 hl (by decide) rfl (fun ls hl => ?_)
        obtain ⟨k, hV⟩ := hV
        exact b123 v3 v4 v5 v6 v7 i_p1_blocks i_p1_sawn f_p1_left f_p1_low f_p1_columns f_p1_rows k v5 _ _ _ hP hS (lv_sub hl [1, 2, 3, 4, 5, 6, 7, 8, 0] rfl) hV
      · have hV := hV.2 h
        refine lv_aload_n hx hb dX4_cutsFirst_86 rfl (lv_at hl 0 rfl) ?_
        refine lv_iload_n hx hb dX4_cutsFirst_87 rfl (lv_at hl 3 rfl) ?_
        refine lv_iload hx hb dX4_cutsFirst_88 (lv_at hl 4 rfl) ?_
        refine lv_iload hx hb dX4_cutsFirst_90 (lv_at hl 5 rfl) ?_
        refine lv_iload hx hb dX4_cutsFirst_92 (lv_at hl 6 rfl) ?_
        refine lv_iload hx hb dX4_cutsFirst_94 (lv_at hl 8 rfl) ?_
        refine KVi (As := [.int v3, .int v4, .int v5, .int v6, .int v8]) (rest := []) FX (c_X4_uprightCost l D cI cB cS a_this a_cost a_uprightBars a_weightTo a_levelBars v3 v4 v5 v6 v8 i_limit f_cost f_uprightBars _ hV) ok_X4_uprightCost im_X4_uprightCost se_X4_uprightCost li_X4_81 dX4_cutsFirst_96 hK hP hS hA [0, 1, 2] [3, 4, 5, 6, 7, 8] 0 rfl rfl rfl (by decide) rfl rfl hl.1 (Nat.le_of_ble_eq_true rfl) ⟨Nat.le_of_ble_eq_true rfl, Nat.le_of_ble_eq_true rfl⟩ ⟨Nat.le_of_ble_eq_true rfl, Nat.le_of_ble_eq_true rfl⟩ (fun r_9 _ H locs hV hP hS => ?_)
        have hP : PD D A [ai cI a_levelBars 8 f_levelBars, oc a_p1 2 [.int i_p1_blocks, .int i_p1_sawn, .ref a_p1_left, .ref a_p1_low, .ref a_p1_columns, .ref a_p1_rows, .ref a_p1_turn, .ref a_p1_blockAt], ai cI a_p1_left 64 f_p1_left, ai cI a_p1_low 64 f_p1_low, ai cI a_p1_columns 64 f_p1_columns, ai cI a_p1_rows 64 f_p1_rows, oc a_this 4 [.int i_limit, .ref a_cost, .ref a_weightTo, .ref a_uprightBars, .ref a_levelBars], ai cI a_cost 1296 f_cost, ai cI a_uprightBars 8 f_uprightBars] H := hP
        refine lv_iload hx hb dX4_cutsFirst_99 (lv_at hl 7 rfl) ?_
        refine lv_icmp_ne (tgt := 113) hx hb dX4_cutsFirst_101 (by decide) (fun h => ?_) (fun h => ?_)
        · have hV := hV.2 h
          obtain ⟨v8_10, e_v8_10⟩ : ∃ y : Int32, y = (v8 + 1) := ⟨_, rfl⟩
          have hV := hV v8_10 e_v8_10
          refine lv_iinc (v := v8_10) (lv' := [(8, .int v8_10), (0, .ref a_this), (1, .ref a_p1), (2, .int x2), (3, .int v3), (4, .int v4), (5, .int v5), (6, .int v6), (7, .int v7)]) hx hb dX4_cutsFirst_113 hl (k := 8) rfl (by rw [e_v8_10]; rfl) (by decide) rfl (fun ls hl => ?_)
          refine lv_goto (tgt := 79) hx hb dX4_cutsFirst_116 (by decide) ?_
          exact ih79 v8_10 _ _ _ (hP.sub [6, 7, 8, 0, 1, 2, 3, 4, 5] rfl rfl) hS (lv_sub hl [1, 2, 3, 4, 5, 6, 7, 8, 0] rfl) hV
        · have hV := hV.1 h
          refine lv_aload_n hx hb dX4_cutsFirst_104 rfl (lv_at hl 1 rfl) ?_
          refine lv_iload_n hx hb dX4_cutsFirst_105 rfl (lv_at hl 2 rfl) ?_
          refine lv_iload hx hb dX4_cutsFirst_106 (lv_at hl 8 rfl) ?_
          refine KVv (As := [.int x2, .int v8]) (rest := []) FX (c_X2_cutUpright l D cI cB cS a_p1 a_p1_left a_p1_low a_p1_columns a_p1_rows a_p1_turn a_p1_blockAt x2 v8 i_p1_blocks i_p1_sawn f_p1_left f_p1_low f_p1_columns f_p1_rows _ hV) ok_X2_cutUpright im_X2_cutUpright se_X2_cutUpright li_X4_85 dX4_cutsFirst_108 hK hP hS hA [1, 2, 3, 4, 5] [0, 6, 7, 8] 1 rfl rfl rfl (by decide) rfl rfl hl.1 (Nat.le_of_ble_eq_true rfl) ⟨Nat.le_of_ble_eq_true rfl, Nat.le_of_ble_eq_true rfl⟩ ⟨Nat.le_of_ble_eq_true rfl, Nat.le_of_ble_eq_true rfl⟩ (fun u H locs hV hP hS => ?_)
          obtain ⟨i_p1_blocks_11, i_p1_sawn_12, f_p1_left_13, f_p1_low_14, f_p1_columns_15, f_p1_rows_16⟩ := u
          try dsimp only at hV
          have hP : PD D A [ai cI a_levelBars 8 f_levelBars, oc a_this 4 [.int i_limit, .ref a_cost, .ref a_weightTo, .ref a_uprightBars, .ref a_levelBars], ai cI a_cost 1296 f_cost, ai cI a_uprightBars 8 f_uprightBars, oc a_p1 2 [.int i_p1_blocks_11, .int i_p1_sawn_12, .ref a_p1_left, .ref a_p1_low, .ref a_p1_columns, .ref a_p1_rows, .ref a_p1_turn, .ref a_p1_blockAt], ai cI a_p1_left 64 f_p1_left_13, ai cI a_p1_low 64 f_p1_low_14, ai cI a_p1_columns 64 f_p1_columns_15, ai cI a_p1_rows 64 f_p1_rows_16] H := hP
          refine lv_iconst (v := 1) hx hb dX4_cutsFirst_111 (by decide) ?_
          exact hret _ _ _ _ _ (i_p1_blocks_11, i_p1_sawn_12, f_p1_left_13, f_p1_low_14, f_p1_columns_15, f_p1_rows_16) hS dX4_cutsFirst_112 (hP.sub [1, 2, 3, 0, 4, 5, 6, 7, 8] rfl rfl) (by decide) hV
  refine lv_aload_n hx hb dX4_cutsFirst_0 rfl (lv_at hl 1 rfl) ?_
  refine gX2 hx hb ht hown hK hP 4 rfl 2 (by decide) fl_X4_71 (fun _ h => h) rfl dX4_cutsFirst_1 ?_
  refine lv_iload_n hx hb dX4_cutsFirst_4 rfl (lv_at hl 2 rfl) ?_
  refine ild hx hb hK hP 5 rfl dX4_cutsFirst_5 hV.1 ?_
  have hV := hV.2
  refine lv_topi (fun v3_17 e_v3_17 => ?_)
  have hV := hV v3_17 e_v3_17
  refine lv_istore_n (lv' := [(3, .int v3_17), (0, .ref a_this), (1, .ref a_p1), (2, .int x2)]) hx hb dX4_cutsFirst_6 rfl hl (by decide) rfl (fun ls hl => ?_)
  refine lv_iload_n hx hb dX4_cutsFirst_7 rfl (lv_at hl 0 rfl) ?_
  refine lv_aload_n hx hb dX4_cutsFirst_8 rfl (lv_at hl 2 rfl) ?_
  refine gX2 hx hb ht hown hK hP 4 rfl 4 (by decide) fl_X4_74 (fun _ h => h) rfl dX4_cutsFirst_9 ?_
  refine lv_iload_n hx hb dX4_cutsFirst_12 rfl (lv_at hl 3 rfl) ?_
  refine ild hx hb hK hP 7 rfl dX4_cutsFirst_13 hV.1 ?_
  have hV := hV.2
  refine lv_iadd hx hb dX4_cutsFirst_14 ?_
  refine lv_iconst (v := 1) hx hb dX4_cutsFirst_15 (by decide) ?_
  refine lv_isub hx hb dX4_cutsFirst_16 ?_
  refine lv_topi (fun v4_18 e_v4_18 => ?_)
  have hV := hV v4_18 e_v4_18
  refine lv_istore (lv' := [(4, .int v4_18), (3, .int v3_17), (0, .ref a_this), (1, .ref a_p1), (2, .int x2)]) hx hb dX4_cutsFirst_17 hl (by decide) rfl (fun ls hl => ?_)
  refine lv_aload_n hx hb dX4_cutsFirst_19 rfl (lv_at hl 3 rfl) ?_
  refine gX2 hx hb ht hown hK hP 4 rfl 3 (by decide) fl_X4_76 (fun _ h => h) rfl dX4_cutsFirst_20 ?_
  refine lv_iload_n hx hb dX4_cutsFirst_23 rfl (lv_at hl 4 rfl) ?_
  refine ild hx hb hK hP 6 rfl dX4_cutsFirst_24 hV.1 ?_
  have hV := hV.2
  refine lv_topi (fun v5_19 e_v5_19 => ?_)
  have hV := hV v5_19 e_v5_19
  refine lv_istore (lv' := [(5, .int v5_19), (4, .int v4_18), (3, .int v3_17), (0, .ref a_this), (1, .ref a_p1), (2, .int x2)]) hx hb dX4_cutsFirst_25 hl (by decide) rfl (fun ls hl => ?_)
  refine lv_iload hx hb dX4_cutsFirst_27 (lv_at hl 0 rfl) ?_
  refine lv_aload_n hx hb dX4_cutsFirst_29 rfl (lv_at hl 4 rfl) ?_
  refine gX2 hx hb ht hown hK hP 4 rfl 5 (by decide) fl_X4_79 (fun _ h => h) rfl dX4_cutsFirst_30 ?_
  refine lv_iload_n hx hb dX4_cutsFirst_33 rfl (lv_at hl 5 rfl) ?_
  refine ild hx hb hK hP 8 rfl dX4_cutsFirst_34 hV.1 ?_
  have hV := hV.2
  refine lv_iadd hx hb dX4_cutsFirst_35 ?_
  refine lv_iconst (v := 1) hx hb dX4_cutsFirst_36 (by decide) ?_
  refine lv_isub hx hb dX4_cutsFirst_37 ?_
  refine lv_topi (fun v6_20 e_v6_20 => ?_)
  have hV := hV v6_20 e_v6_20
  refine lv_istore (lv' := [(6, .int v6_20), (5, .int v5_19), (4, .int v4_18), (3, .int v3_17), (0, .ref a_this), (1, .ref a_p1), (2, .int x2)]) hx hb dX4_cutsFirst_38 hl (by decide) rfl (fun ls hl => ?_)
  refine lv_aload_n hx hb dX4_cutsFirst_40 rfl (lv_at hl 4 rfl) ?_
  refine gX4 hx hb ht hown hK hP 0 rfl 1 (by decide) fl_X4_11 (fun _ h => h) rfl dX4_cutsFirst_41 ?_
  refine lv_iload_n hx hb dX4_cutsFirst_44 rfl (lv_at hl 3 rfl) ?_
  refine lv_iload hx hb dX4_cutsFirst_45 (lv_at hl 2 rfl) ?_
  refine lv_iload hx hb dX4_cutsFirst_47 (lv_at hl 1 rfl) ?_
  refine lv_iload hx hb dX4_cutsFirst_49 (lv_at hl 0 rfl) ?_
  refine KSi (As := [.int v3_17, .int v4_18, .int v5_19, .int v6_20]) (rest := [.ref a_cost]) FX (c_X4_part l D cI cB cS v3_17 v4_18 v5_19 v6_20 _ hV) ok_X4_part is_X4_part li_X4_47 dX4_cutsFirst_51 hK hP hS hA [] [0, 1, 2, 3, 4, 5, 6, 7, 8] rfl rfl (by decide) rfl hl.1 (Nat.le_of_ble_eq_true rfl) ⟨Nat.le_of_ble_eq_true rfl, Nat.le_of_ble_eq_true rfl⟩ ⟨Nat.le_of_ble_eq_true rfl, Nat.le_of_ble_eq_true rfl⟩ (fun r_21 _ H locs hV hP hS => ?_)
  have hP : PD D A [oc a_this 4 [.int i_limit, .ref a_cost, .ref a_weightTo, .ref a_uprightBars, .ref a_levelBars], ai cI a_cost 1296 f_cost, ai cI a_uprightBars 8 f_uprightBars, ai cI a_levelBars 8 f_levelBars, oc a_p1 2 [.int i_p1_blocks, .int i_p1_sawn, .ref a_p1_left, .ref a_p1_low, .ref a_p1_columns, .ref a_p1_rows, .ref a_p1_turn, .ref a_p1_blockAt], ai cI a_p1_left 64 f_p1_left, ai cI a_p1_low 64 f_p1_low, ai cI a_p1_columns 64 f_p1_columns, ai cI a_p1_rows 64 f_p1_rows] H := hP
  refine ild hx hb hK hP 1 rfl dX4_cutsFirst_54 hV.1 ?_
  have hV := hV.2
  refine lv_topi (fun v7_22 e_v7_22 => ?_)
  have hV := hV v7_22 e_v7_22
  refine lv_istore (lv' := [(7, .int v7_22), (6, .int v6_20), (5, .int v5_19), (4, .int v4_18), (3, .int v3_17), (0, .ref a_this), (1, .ref a_p1), (2, .int x2)]) hx hb dX4_cutsFirst_55 hl (by decide) rfl (fun ls hl => ?_)
  refine lv_iload hx hb dX4_cutsFirst_57 (lv_at hl 0 rfl) ?_
  refine lv_sipush (v := 256) hx hb dX4_cutsFirst_59 (by decide) ?_
  refine lv_icmp_eq (tgt := 74) hx hb dX4_cutsFirst_62 (by decide) (fun h => ?_) (fun h => ?_)
  · have hV := hV.1 h
    refine lv_iconst (v := 0) hx hb dX4_cutsFirst_74 (by decide) ?_
    exact hret _ _ _ _ _ (i_p1_blocks, i_p1_sawn, f_p1_left, f_p1_low, f_p1_columns, f_p1_rows) hS dX4_cutsFirst_75 hP (by decide) hV
  · have hV := hV.2 h
    refine lv_aload_n hx hb dX4_cutsFirst_65 rfl (lv_at hl 6 rfl) ?_
    refine gX2 hx hb ht hown hK hP 4 rfl 0 (by decide) fl_X4_58 (fun _ h => h) rfl dX4_cutsFirst_66 ?_
    refine lv_bipush (v := 64) hx hb dX4_cutsFirst_69 (by decide) ?_
    refine lv_icmp_lt (tgt := 76) hx hb dX4_cutsFirst_71 (by decide) (fun h => ?_) (fun h => ?_)
    · have hV := hV.1 h
      refine lv_iload_n hx hb dX4_cutsFirst_76 rfl (lv_at hl 4 rfl) ?_
      refine lv_istore (lv' := [(8, .int v3_17), (7, .int v7_22), (6, .int v6_20), (5, .int v5_19), (4, .int v4_18), (3, .int v3_17), (0, .ref a_this), (1, .ref a_p1), (2, .int x2)]) hx hb dX4_cutsFirst_77 hl (by decide) rfl (fun ls hl => ?_)
      obtain ⟨k, hV⟩ := hV
      exact b79 v3_17 v4_18 v5_19 v6_20 v7_22 i_p1_blocks i_p1_sawn f_p1_left f_p1_low f_p1_columns f_p1_rows k v3_17 _ _ _ hP hS (lv_sub hl [6, 7, 8, 5, 4, 3, 2, 1, 0] rfl) hV
    · have hV := hV.2 h
      refine lv_iconst (v := 0) hx hb dX4_cutsFirst_74 (by decide) ?_
      exact hret _ _ _ _ _ (i_p1_blocks, i_p1_sawn, f_p1_left, f_p1_low, f_p1_columns, f_p1_rows) hS dX4_cutsFirst_75 hP (by decide) hV

def rm_X4_cutUp : Room := { frames := 5, cells := 0, slots := 0, locals := 111 }
def V_X4_cutUp_17 (f_cost : Nat → Int32) (f_uprightBars : Nat → Int32) (f_levelBars : Nat → Int32) (i_p1_columns : Int32) (i_p1_rows : Int32) (f_p2_turn : Nat → Int32) (f_p2_blockAt : Nat → Int32) (post : Int32 → Int32 → (Nat → Int32) → (Nat → Int32) → (Nat → Int32) → (Nat → Int32) → (Nat → Int32) → (Nat → Int32) → Prop) : Nat → Int32 → Int32 → Int32 → Int32 → (Nat → Int32) → (Nat → Int32) → (Nat → Int32) → (Nat → Int32) → Prop
  | 0, _, _, _, _, _, _, _, _ => False
  | n + 1, v3, v4, i_p2_blocks, i_p2_sawn, f_p2_left, f_p2_low, f_p2_columns, f_p2_rows => ((128 ≤ v4 → P_X2_numberCells i_p2_blocks f_p2_left f_p2_low f_p2_columns f_p2_rows f_p2_blockAt (fun f_p2_blockAt_1 => P_X2_findTurns i_p1_columns i_p1_rows f_p2_left f_p2_low f_p2_turn f_p2_blockAt_1 (fun f_p2_turn_2 => post i_p2_blocks i_p2_sawn f_p2_left f_p2_low f_p2_columns f_p2_rows f_p2_turn_2 f_p2_blockAt_1))) ∧ (¬ 128 ≤ v4 → ((i_p2_blocks ≤ v3 → P_X2_numberCells i_p2_blocks f_p2_left f_p2_low f_p2_columns f_p2_rows f_p2_blockAt (fun f_p2_blockAt_3 => P_X2_findTurns i_p1_columns i_p1_rows f_p2_left f_p2_low f_p2_turn f_p2_blockAt_3 (fun f_p2_turn_4 => post i_p2_blocks i_p2_sawn f_p2_left f_p2_low f_p2_columns f_p2_rows f_p2_turn_4 f_p2_blockAt_3))) ∧ (¬ i_p2_blocks ≤ v3 → P_X4_cutsFirst v3 f_cost f_uprightBars f_levelBars i_p2_blocks i_p2_sawn f_p2_left f_p2_low f_p2_columns f_p2_rows (fun r_5 i_p2_blocks_6 i_p2_sawn_7 f_p2_left_8 f_p2_low_9 f_p2_columns_10 f_p2_rows_11 => ((r_5 = 0 → (∀ v3_13 : Int32, v3_13 = (v3 + 1) → (∀ v4_14 : Int32, v4_14 = (v4 + 1) → V_X4_cutUp_17 f_cost f_uprightBars f_levelBars i_p1_columns i_p1_rows f_p2_turn f_p2_blockAt post n v3_13 v4_14 i_p2_blocks_6 i_p2_sawn_7 f_p2_left_8 f_p2_low_9 f_p2_columns_10 f_p2_rows_11))) ∧ (¬ r_5 = 0 → (∀ v4_12 : Int32, v4_12 = (v4 + 1) → V_X4_cutUp_17 f_cost f_uprightBars f_levelBars i_p1_columns i_p1_rows f_p2_turn f_p2_blockAt post n v3 v4_12 i_p2_blocks_6 i_p2_sawn_7 f_p2_left_8 f_p2_low_9 f_p2_columns_10 f_p2_rows_11))))))))
theorem V_X4_cutUp_17_s (f_cost : Nat → Int32) (f_uprightBars : Nat → Int32) (f_levelBars : Nat → Int32) (i_p1_columns : Int32) (i_p1_rows : Int32) (f_p2_turn : Nat → Int32) (f_p2_blockAt : Nat → Int32) (post : Int32 → Int32 → (Nat → Int32) → (Nat → Int32) → (Nat → Int32) → (Nat → Int32) → (Nat → Int32) → (Nat → Int32) → Prop) (n : Nat) (v3 : Int32) (v4 : Int32) (i_p2_blocks : Int32) (i_p2_sawn : Int32) (f_p2_left : Nat → Int32) (f_p2_low : Nat → Int32) (f_p2_columns : Nat → Int32) (f_p2_rows : Nat → Int32) : V_X4_cutUp_17 f_cost f_uprightBars f_levelBars i_p1_columns i_p1_rows f_p2_turn f_p2_blockAt post (n + 1) v3 v4 i_p2_blocks i_p2_sawn f_p2_left f_p2_low f_p2_columns f_p2_rows = (((128 ≤ v4 → P_X2_numberCells i_p2_blocks f_p2_left f_p2_low f_p2_columns f_p2_rows f_p2_blockAt (fun f_p2_blockAt_1 => P_X2_findTurns i_p1_columns i_p1_rows f_p2_left f_p2_low f_p2_turn f_p2_blockAt_1 (fun f_p2_turn_2 => post i_p2_blocks i_p2_sawn f_p2_left f_p2_low f_p2_columns f_p2_rows f_p2_turn_2 f_p2_blockAt_1))) ∧ (¬ 128 ≤ v4 → ((i_p2_blocks ≤ v3 → P_X2_numberCells i_p2_blocks f_p2_left f_p2_low f_p2_columns f_p2_rows f_p2_blockAt (fun f_p2_blockAt_3 => P_X2_findTurns i_p1_columns i_p1_rows f_p2_left f_p2_low f_p2_turn f_p2_blockAt_3 (fun f_p2_turn_4 => post i_p2_blocks i_p2_sawn f_p2_left f_p2_low f_p2_columns f_p2_rows f_p2_turn_4 f_p2_blockAt_3))) ∧ (¬ i_p2_blocks ≤ v3 → P_X4_cutsFirst v3 f_cost f_uprightBars f_levelBars i_p2_blocks i_p2_sawn f_p2_left f_p2_low f_p2_columns f_p2_rows (fun r_5 i_p2_blocks_6 i_p2_sawn_7 f_p2_left_8 f_p2_low_9 f_p2_columns_10 f_p2_rows_11 => ((r_5 = 0 → (∀ v3_13 : Int32, v3_13 = (v3 + 1) → (∀ v4_14 : Int32, v4_14 = (v4 + 1) → V_X4_cutUp_17 f_cost f_uprightBars f_levelBars i_p1_columns i_p1_rows f_p2_turn f_p2_blockAt post n v3_13 v4_14 i_p2_blocks_6 i_p2_sawn_7 f_p2_left_8 f_p2_low_9 f_p2_columns_10 f_p2_rows_11))) ∧ (¬ r_5 = 0 → (∀ v4_12 : Int32, v4_12 = (v4 + 1) → V_X4_cutUp_17 f_cost f_uprightBars f_levelBars i_p1_columns i_p1_rows f_p2_turn f_p2_blockAt post n v3 v4_12 i_p2_blocks_6 i_p2_sawn_7 f_p2_left_8 f_p2_low_9 f_p2_columns_10 f_p2_rows_11))))))))) := rfl
def P_X4_cutUp (f_cost : Nat → Int32) (f_uprightBars : Nat → Int32) (f_levelBars : Nat → Int32) (i_p1_columns : Int32) (i_p1_rows : Int32) (f_p2_left : Nat → Int32) (f_p2_low : Nat → Int32) (f_p2_columns : Nat → Int32) (f_p2_rows : Nat → Int32) (f_p2_turn : Nat → Int32) (f_p2_blockAt : Nat → Int32) (post : Int32 → Int32 → (Nat → Int32) → (Nat → Int32) → (Nat → Int32) → (Nat → Int32) → (Nat → Int32) → (Nat → Int32) → Prop) : Prop := P_X2_startWith i_p1_columns i_p1_rows f_p2_left f_p2_low f_p2_columns f_p2_rows (fun i_p2_blocks_15 i_p2_sawn_16 f_p2_left_17 f_p2_low_18 f_p2_columns_19 f_p2_rows_20 => (∃ k : Nat, V_X4_cutUp_17 f_cost f_uprightBars f_levelBars i_p1_columns i_p1_rows f_p2_turn f_p2_blockAt post k 0 0 i_p2_blocks_15 i_p2_sawn_16 f_p2_left_17 f_p2_low_18 f_p2_columns_19 f_p2_rows_20))
set_option maxRecDepth 100000 in
set_option maxHeartbeats 4000000 in
theorem c_X4_cutUp (l : Launch) (D : va_G) (cI cB cS : ClassId) (a_this a_cost a_uprightBars a_levelBars a_p1 a_p2 a_p2_left a_p2_low a_p2_columns a_p2_rows a_p2_turn a_p2_blockAt a_weightTo a_p1_weight a_p1_motif : Nat) (i_limit : Int32) (f_cost : Nat → Int32) (f_uprightBars : Nat → Int32) (f_levelBars : Nat → Int32) (i_p1_columns : Int32) (i_p1_rows : Int32) (i_p2_blocks : Int32) (i_p2_sawn : Int32) (f_p2_left : Nat → Int32) (f_p2_low : Nat → Int32) (f_p2_columns : Nat → Int32) (f_p2_rows : Nat → Int32) (f_p2_turn : Nat → Int32) (f_p2_blockAt : Nat → Int32) (post : Int32 → Int32 → (Nat → Int32) → (Nat → Int32) → (Nat → Int32) → (Nat → Int32) → (Nat → Int32) → (Nat → Int32) → Prop) (hV : P_X4_cutUp f_cost f_uprightBars f_levelBars i_p1_columns i_p1_rows f_p2_left f_p2_low f_p2_columns f_p2_rows f_p2_turn f_p2_blockAt post) : Cv l yX4_cutUp cX4_cutUp 5 none rm_X4_cutUp D cI cB cS [.ref a_this, .ref a_p1, .ref a_p2] [oc a_this 4 [.int i_limit, .ref a_cost, .ref a_weightTo, .ref a_uprightBars, .ref a_levelBars], ai cI a_cost 1296 f_cost, ai cI a_uprightBars 8 f_uprightBars, ai cI a_levelBars 8 f_levelBars, oc a_p1 6 [.int i_p1_columns, .int i_p1_rows, .ref a_p1_weight, .ref a_p1_motif], oc a_p2 2 [.int i_p2_blocks, .int i_p2_sawn, .ref a_p2_left, .ref a_p2_low, .ref a_p2_columns, .ref a_p2_rows, .ref a_p2_turn, .ref a_p2_blockAt], ai cI a_p2_left 64 f_p2_left, ai cI a_p2_low 64 f_p2_low, ai cI a_p2_columns 64 f_p2_columns, ai cI a_p2_rows 64 f_p2_rows, ai cI a_p2_turn 64 f_p2_turn, ai cI a_p2_blockAt 64 f_p2_blockAt] (fun (u : Int32 × Int32 × (Nat → Int32) × (Nat → Int32) × (Nat → Int32) × (Nat → Int32) × (Nat → Int32) × (Nat → Int32)) => post u.1 u.2.1 u.2.2.1 u.2.2.2.1 u.2.2.2.2.1 u.2.2.2.2.2.1 u.2.2.2.2.2.2.1 u.2.2.2.2.2.2.2) (fun (u : Int32 × Int32 × (Nat → Int32) × (Nat → Int32) × (Nat → Int32) × (Nat → Int32) × (Nat → Int32) × (Nat → Int32)) => [oc a_this 4 [.int i_limit, .ref a_cost, .ref a_weightTo, .ref a_uprightBars, .ref a_levelBars], ai cI a_cost 1296 f_cost, ai cI a_uprightBars 8 f_uprightBars, ai cI a_levelBars 8 f_levelBars, oc a_p1 6 [.int i_p1_columns, .int i_p1_rows, .ref a_p1_weight, .ref a_p1_motif], oc a_p2 2 [.int u.1, .int u.2.1, .ref a_p2_left, .ref a_p2_low, .ref a_p2_columns, .ref a_p2_rows, .ref a_p2_turn, .ref a_p2_blockAt], ai cI a_p2_left 64 (u.2.2.1), ai cI a_p2_low 64 (u.2.2.2.1), ai cI a_p2_columns 64 (u.2.2.2.2.1), ai cI a_p2_rows 64 (u.2.2.2.2.2.1), ai cI a_p2_turn 64 (u.2.2.2.2.2.2.1), ai cI a_p2_blockAt 64 (u.2.2.2.2.2.2.2)]) := by
  refine Cv.of ok_X4_cutUp (Nat.le_of_ble_eq_true rfl) ?_
  intro p e s m args below meth c A Q hx hb hml hown ht hnm hK hP hA hS hret ls hl
  have hown : s.vm.findClass RX4 = some m.cls := hown
  have FX : CallFix p m c cX4_cutUp 5 s args tblG RX4 := ⟨hx, hb, hml, hown, ht⟩
  have hP : PD D A [oc a_this 4 [.int i_limit, .ref a_cost, .ref a_weightTo, .ref a_uprightBars, .ref a_levelBars], ai cI a_cost 1296 f_cost, ai cI a_uprightBars 8 f_uprightBars, ai cI a_levelBars 8 f_levelBars, oc a_p1 6 [.int i_p1_columns, .int i_p1_rows, .ref a_p1_weight, .ref a_p1_motif], oc a_p2 2 [.int i_p2_blocks, .int i_p2_sawn, .ref a_p2_left, .ref a_p2_low, .ref a_p2_columns, .ref a_p2_rows, .ref a_p2_turn, .ref a_p2_blockAt], ai cI a_p2_left 64 f_p2_left, ai cI a_p2_low 64 f_p2_low, ai cI a_p2_columns 64 f_p2_columns, ai cI a_p2_rows 64 f_p2_rows, ai cI a_p2_turn 64 f_p2_turn, ai cI a_p2_blockAt 64 f_p2_blockAt] s.heap := hP
  have hl : lv_has ls 5 [(0, .ref a_this), (1, .ref a_p1), (2, .ref a_p2)] := hl
  unfold P_X4_cutUp at hV
  have b17 : ∀ (f_p2_turn : Nat → Int32) (f_p2_blockAt : Nat → Int32) (k17 : Nat) (v3 : Int32) (v4 : Int32) (i_p2_blocks : Int32) (i_p2_sawn : Int32) (f_p2_left : Nat → Int32) (f_p2_low : Nat → Int32) (f_p2_columns : Nat → Int32) (f_p2_rows : Nat → Int32) (H : Heap) (locs : List Loc) (ls : Array Slot), PD D A [oc a_this 4 [.int i_limit, .ref a_cost, .ref a_weightTo, .ref a_uprightBars, .ref a_levelBars], ai cI a_cost 1296 f_cost, ai cI a_uprightBars 8 f_uprightBars, ai cI a_levelBars 8 f_levelBars, oc a_p1 6 [.int i_p1_columns, .int i_p1_rows, .ref a_p1_weight, .ref a_p1_motif], oc a_p2 2 [.int i_p2_blocks, .int i_p2_sawn, .ref a_p2_left, .ref a_p2_low, .ref a_p2_columns, .ref a_p2_rows, .ref a_p2_turn, .ref a_p2_blockAt], ai cI a_p2_left 64 f_p2_left, ai cI a_p2_low 64 f_p2_low, ai cI a_p2_columns 64 f_p2_columns, ai cI a_p2_rows 64 f_p2_rows, ai cI a_p2_turn 64 f_p2_turn, ai cI a_p2_blockAt 64 f_p2_blockAt] H → va_S A s.heap H locs → lv_has ls 5 [(0, .ref a_this), (1, .ref a_p1), (2, .ref a_p2), (3, .int v3), (4, .int v4)] → V_X4_cutUp_17 f_cost f_uprightBars f_levelBars i_p1_columns i_p1_rows f_p2_turn f_p2_blockAt post k17 v3 v4 i_p2_blocks i_p2_sawn f_p2_left f_p2_low f_p2_columns f_p2_rows → W p l e rm_X4_cutUp s m args below meth c H locs 0 0 Q (F0 m 17 ls []) := by
    intro f_p2_turn f_p2_blockAt k17
    induction k17 with
    | zero => intro v3 v4 i_p2_blocks i_p2_sawn f_p2_left f_p2_low f_p2_columns f_p2_rows H locs ls hP hS hl hV; exact False.elim hV
    | succ k17 ih17 =>
      intro v3 v4 i_p2_blocks i_p2_sawn f_p2_left f_p2_low f_p2_columns f_p2_rows H locs ls hP hS hl hV
      rw [V_X4_cutUp_17_s] at hV
      refine lv_iload hx hb dX4_cutUp_17 (lv_at hl 4 rfl) ?_
      refine lv_sipush (v := 128) hx hb dX4_cutUp_19 (by decide) ?_
      refine lv_icmp_ge (tgt := 51) hx hb dX4_cutUp_22 (by decide) (fun h => ?_) (fun h => ?_)
      · have hV := hV.1 h
        refine lv_aload_n hx hb dX4_cutUp_51 rfl (lv_at hl 2 rfl) ?_
        refine KVv (As := []) (rest := []) FX (c_X2_numberCells l D cI cB cS a_p2 a_p2_left a_p2_low a_p2_columns a_p2_rows a_p2_blockAt a_p2_turn i_p2_blocks i_p2_sawn f_p2_left f_p2_low f_p2_columns f_p2_rows f_p2_blockAt _ hV) ok_X2_numberCells im_X2_numberCells se_X2_numberCells li_X4_65 dX4_cutUp_52 hK hP hS hA [5, 6, 7, 8, 9, 11] [0, 1, 2, 3, 4, 10] 5 rfl rfl rfl (by decide) rfl rfl hl.1 (Nat.le_of_ble_eq_true rfl) ⟨Nat.le_of_ble_eq_true rfl, Nat.le_of_ble_eq_true rfl⟩ ⟨Nat.le_of_ble_eq_true rfl, Nat.le_of_ble_eq_true rfl⟩ (fun f_p2_blockAt_1 H locs hV hP hS => ?_)
        have hP : PD D A [oc a_this 4 [.int i_limit, .ref a_cost, .ref a_weightTo, .ref a_uprightBars, .ref a_levelBars], ai cI a_cost 1296 f_cost, ai cI a_uprightBars 8 f_uprightBars, ai cI a_levelBars 8 f_levelBars, oc a_p1 6 [.int i_p1_columns, .int i_p1_rows, .ref a_p1_weight, .ref a_p1_motif], ai cI a_p2_turn 64 f_p2_turn, oc a_p2 2 [.int i_p2_blocks, .int i_p2_sawn, .ref a_p2_left, .ref a_p2_low, .ref a_p2_columns, .ref a_p2_rows, .ref a_p2_turn, .ref a_p2_blockAt], ai cI a_p2_left 64 f_p2_left, ai cI a_p2_low 64 f_p2_low, ai cI a_p2_columns 64 f_p2_columns, ai cI a_p2_rows 64 f_p2_rows, ai cI a_p2_blockAt 64 f_p2_blockAt_1] H := hP
        refine lv_aload_n hx hb dX4_cutUp_55 rfl (lv_at hl 2 rfl) ?_
        refine lv_aload_n hx hb dX4_cutUp_56 rfl (lv_at hl 1 rfl) ?_
        refine gX7 hx hb ht hown hK hP 4 rfl 0 (by decide) fl_X4_35 (fun _ h => h) rfl dX4_cutUp_57 ?_
        refine lv_aload_n hx hb dX4_cutUp_60 rfl (lv_at hl 1 rfl) ?_
        refine gX7 hx hb ht hown hK hP 4 rfl 1 (by decide) fl_X4_40 (fun _ h => h) rfl dX4_cutUp_61 ?_
        refine KVv (As := [.int i_p1_columns, .int i_p1_rows]) (rest := []) FX (c_X2_findTurns l D cI cB cS a_p2 a_p2_left a_p2_low a_p2_turn a_p2_blockAt a_p2_columns a_p2_rows i_p1_columns i_p1_rows i_p2_blocks i_p2_sawn f_p2_left f_p2_low f_p2_turn f_p2_blockAt_1 _ hV) ok_X2_findTurns im_X2_findTurns se_X2_findTurns li_X4_68 dX4_cutUp_64 hK hP hS hA [6, 7, 8, 5, 11] [0, 1, 2, 3, 4, 9, 10] 6 rfl rfl rfl (by decide) rfl rfl hl.1 (Nat.le_of_ble_eq_true rfl) ⟨Nat.le_of_ble_eq_true rfl, Nat.le_of_ble_eq_true rfl⟩ ⟨Nat.le_of_ble_eq_true rfl, Nat.le_of_ble_eq_true rfl⟩ (fun f_p2_turn_2 H locs hV hP hS => ?_)
        have hP : PD D A [oc a_this 4 [.int i_limit, .ref a_cost, .ref a_weightTo, .ref a_uprightBars, .ref a_levelBars], ai cI a_cost 1296 f_cost, ai cI a_uprightBars 8 f_uprightBars, ai cI a_levelBars 8 f_levelBars, oc a_p1 6 [.int i_p1_columns, .int i_p1_rows, .ref a_p1_weight, .ref a_p1_motif], ai cI a_p2_columns 64 f_p2_columns, ai cI a_p2_rows 64 f_p2_rows, oc a_p2 2 [.int i_p2_blocks, .int i_p2_sawn, .ref a_p2_left, .ref a_p2_low, .ref a_p2_columns, .ref a_p2_rows, .ref a_p2_turn, .ref a_p2_blockAt], ai cI a_p2_left 64 f_p2_left, ai cI a_p2_low 64 f_p2_low, ai cI a_p2_turn 64 f_p2_turn_2, ai cI a_p2_blockAt 64 f_p2_blockAt_1] H := hP
        exact hret _ _ _ _ (i_p2_blocks, i_p2_sawn, f_p2_left, f_p2_low, f_p2_columns, f_p2_rows, f_p2_turn_2, f_p2_blockAt_1) hS dX4_cutUp_67 (hP.sub [0, 1, 2, 3, 4, 7, 8, 9, 5, 6, 10, 11] rfl rfl) hV
      · have hV := hV.2 h
        refine lv_iload_n hx hb dX4_cutUp_25 rfl (lv_at hl 3 rfl) ?_
        refine lv_aload_n hx hb dX4_cutUp_26 rfl (lv_at hl 2 rfl) ?_
        refine gX2 hx hb ht hown hK hP 5 rfl 0 (by decide) fl_X4_58 (fun _ h => h) rfl dX4_cutUp_27 ?_
        refine lv_icmp_ge (tgt := 51) hx hb dX4_cutUp_30 (by decide) (fun h => ?_) (fun h => ?_)
        · have hV := hV.1 h
          refine lv_aload_n hx hb dX4_cutUp_51 rfl (lv_at hl 2 rfl) ?_
          refine KVv (As := []) (rest := []) FX (c_X2_numberCells l D cI cB cS a_p2 a_p2_left a_p2_low a_p2_columns a_p2_rows a_p2_blockAt a_p2_turn i_p2_blocks i_p2_sawn f_p2_left f_p2_low f_p2_columns f_p2_rows f_p2_blockAt _ hV) ok_X2_numberCells im_X2_numberCells se_X2_numberCells li_X4_65 dX4_cutUp_52 hK hP hS hA [5, 6, 7, 8, 9, 11] [0, 1, 2, 3, 4, 10] 5 rfl rfl rfl (by decide) rfl rfl hl.1 (Nat.le_of_ble_eq_true rfl) ⟨Nat.le_of_ble_eq_true rfl, Nat.le_of_ble_eq_true rfl⟩ ⟨Nat.le_of_ble_eq_true rfl, Nat.le_of_ble_eq_true rfl⟩ (fun f_p2_blockAt_3 H locs hV hP hS => ?_)
          have hP : PD D A [oc a_this 4 [.int i_limit, .ref a_cost, .ref a_weightTo, .ref a_uprightBars, .ref a_levelBars], ai cI a_cost 1296 f_cost, ai cI a_uprightBars 8 f_uprightBars, ai cI a_levelBars 8 f_levelBars, oc a_p1 6 [.int i_p1_columns, .int i_p1_rows, .ref a_p1_weight, .ref a_p1_motif], ai cI a_p2_turn 64 f_p2_turn, oc a_p2 2 [.int i_p2_blocks, .int i_p2_sawn, .ref a_p2_left, .ref a_p2_low, .ref a_p2_columns, .ref a_p2_rows, .ref a_p2_turn, .ref a_p2_blockAt], ai cI a_p2_left 64 f_p2_left, ai cI a_p2_low 64 f_p2_low, ai cI a_p2_columns 64 f_p2_columns, ai cI a_p2_rows 64 f_p2_rows, ai cI a_p2_blockAt 64 f_p2_blockAt_3] H := hP
          refine lv_aload_n hx hb dX4_cutUp_55 rfl (lv_at hl 2 rfl) ?_
          refine lv_aload_n hx hb dX4_cutUp_56 rfl (lv_at hl 1 rfl) ?_
          refine gX7 hx hb ht hown hK hP 4 rfl 0 (by decide) fl_X4_35 (fun _ h => h) rfl dX4_cutUp_57 ?_
          refine lv_aload_n hx hb dX4_cutUp_60 rfl (lv_at hl 1 rfl) ?_
          refine gX7 hx hb ht hown hK hP 4 rfl 1 (by decide) fl_X4_40 (fun _ h => h) rfl dX4_cutUp_61 ?_
          refine KVv (As := [.int i_p1_columns, .int i_p1_rows]) (rest := []) FX (c_X2_findTurns l D cI cB cS a_p2 a_p2_left a_p2_low a_p2_turn a_p2_blockAt a_p2_columns a_p2_rows i_p1_columns i_p1_rows i_p2_blocks i_p2_sawn f_p2_left f_p2_low f_p2_turn f_p2_blockAt_3 _ hV) ok_X2_findTurns im_X2_findTurns se_X2_findTurns li_X4_68 dX4_cutUp_64 hK hP hS hA [6, 7, 8, 5, 11] [0, 1, 2, 3, 4, 9, 10] 6 rfl rfl rfl (by decide) rfl rfl hl.1 (Nat.le_of_ble_eq_true rfl) ⟨Nat.le_of_ble_eq_true rfl, Nat.le_of_ble_eq_true rfl⟩ ⟨Nat.le_of_ble_eq_true rfl, Nat.le_of_ble_eq_true rfl⟩ (fun f_p2_turn_4 H locs hV hP hS => ?_)
          have hP : PD D A [oc a_this 4 [.int i_limit, .ref a_cost, .ref a_weightTo, .ref a_uprightBars, .ref a_levelBars], ai cI a_cost 1296 f_cost, ai cI a_uprightBars 8 f_uprightBars, ai cI a_levelBars 8 f_levelBars, oc a_p1 6 [.int i_p1_columns, .int i_p1_rows, .ref a_p1_weight, .ref a_p1_motif], ai cI a_p2_columns 64 f_p2_columns, ai cI a_p2_rows 64 f_p2_rows, oc a_p2 2 [.int i_p2_blocks, .int i_p2_sawn, .ref a_p2_left, .ref a_p2_low, .ref a_p2_columns, .ref a_p2_rows, .ref a_p2_turn, .ref a_p2_blockAt], ai cI a_p2_left 64 f_p2_left, ai cI a_p2_low 64 f_p2_low, ai cI a_p2_turn 64 f_p2_turn_4, ai cI a_p2_blockAt 64 f_p2_blockAt_3] H := hP
          exact hret _ _ _ _ (i_p2_blocks, i_p2_sawn, f_p2_left, f_p2_low, f_p2_columns, f_p2_rows, f_p2_turn_4, f_p2_blockAt_3) hS dX4_cutUp_67 (hP.sub [0, 1, 2, 3, 4, 7, 8, 9, 5, 6, 10, 11] rfl rfl) hV
        · have hV := hV.2 h
          refine lv_aload_n hx hb dX4_cutUp_33 rfl (lv_at hl 0 rfl) ?_
          refine lv_aload_n hx hb dX4_cutUp_34 rfl (lv_at hl 2 rfl) ?_
          refine lv_iload_n hx hb dX4_cutUp_35 rfl (lv_at hl 3 rfl) ?_
          refine KVi (As := [.ref a_p2, .int v3]) (rest := []) FX (c_X4_cutsFirst l D cI cB cS a_this a_cost a_uprightBars a_levelBars a_p2 a_p2_left a_p2_low a_p2_columns a_p2_rows a_weightTo a_p2_turn a_p2_blockAt v3 i_limit f_cost f_uprightBars f_levelBars i_p2_blocks i_p2_sawn f_p2_left f_p2_low f_p2_columns f_p2_rows _ hV) ok_X4_cutsFirst im_X4_cutsFirst se_X4_cutsFirst li_X4_61 dX4_cutUp_36 hK hP hS hA [0, 1, 2, 3, 5, 6, 7, 8, 9] [4, 10, 11] 0 rfl rfl rfl (by decide) rfl rfl hl.1 (Nat.le_of_ble_eq_true rfl) ⟨Nat.le_of_ble_eq_true rfl, Nat.le_of_ble_eq_true rfl⟩ ⟨Nat.le_of_ble_eq_true rfl, Nat.le_of_ble_eq_true rfl⟩ (fun r_5 u H locs hV hP hS => ?_)
          obtain ⟨i_p2_blocks_6, i_p2_sawn_7, f_p2_left_8, f_p2_low_9, f_p2_columns_10, f_p2_rows_11⟩ := u
          try dsimp only at hV
          have hP : PD D A [oc a_p1 6 [.int i_p1_columns, .int i_p1_rows, .ref a_p1_weight, .ref a_p1_motif], ai cI a_p2_turn 64 f_p2_turn, ai cI a_p2_blockAt 64 f_p2_blockAt, oc a_this 4 [.int i_limit, .ref a_cost, .ref a_weightTo, .ref a_uprightBars, .ref a_levelBars], ai cI a_cost 1296 f_cost, ai cI a_uprightBars 8 f_uprightBars, ai cI a_levelBars 8 f_levelBars, oc a_p2 2 [.int i_p2_blocks_6, .int i_p2_sawn_7, .ref a_p2_left, .ref a_p2_low, .ref a_p2_columns, .ref a_p2_rows, .ref a_p2_turn, .ref a_p2_blockAt], ai cI a_p2_left 64 f_p2_left_8, ai cI a_p2_low 64 f_p2_low_9, ai cI a_p2_columns 64 f_p2_columns_10, ai cI a_p2_rows 64 f_p2_rows_11] H := hP
          refine lv_if_ne (tgt := 45) hx hb dX4_cutUp_39 (by decide) (fun h => ?_) (fun h => ?_)
          · have hV := hV.2 h
            obtain ⟨v4_12, e_v4_12⟩ : ∃ y : Int32, y = (v4 + 1) := ⟨_, rfl⟩
            have hV := hV v4_12 e_v4_12
            refine lv_iinc (v := v4_12) (lv' := [(4, .int v4_12), (0, .ref a_this), (1, .ref a_p1), (2, .ref a_p2), (3, .int v3)]) hx hb dX4_cutUp_45 hl (k := 4) rfl (by rw [e_v4_12]; rfl) (by decide) rfl (fun ls hl => ?_)
            refine lv_goto (tgt := 17) hx hb dX4_cutUp_48 (by decide) ?_
            exact ih17 v3 v4_12 i_p2_blocks_6 i_p2_sawn_7 f_p2_left_8 f_p2_low_9 f_p2_columns_10 f_p2_rows_11 _ _ _ (hP.sub [3, 4, 5, 6, 0, 7, 8, 9, 10, 11, 1, 2] rfl rfl) hS (lv_sub hl [1, 2, 3, 4, 0] rfl) hV
          · have hV := hV.1 h
            obtain ⟨v3_13, e_v3_13⟩ : ∃ y : Int32, y = (v3 + 1) := ⟨_, rfl⟩
            have hV := hV v3_13 e_v3_13
            refine lv_iinc (v := v3_13) (lv' := [(3, .int v3_13), (0, .ref a_this), (1, .ref a_p1), (2, .ref a_p2), (4, .int v4)]) hx hb dX4_cutUp_42 hl (k := 3) rfl (by rw [e_v3_13]; rfl) (by decide) rfl (fun ls hl => ?_)
            obtain ⟨v4_14, e_v4_14⟩ : ∃ y : Int32, y = (v4 + 1) := ⟨_, rfl⟩
            have hV := hV v4_14 e_v4_14
            refine lv_iinc (v := v4_14) (lv' := [(4, .int v4_14), (3, .int v3_13), (0, .ref a_this), (1, .ref a_p1), (2, .ref a_p2)]) hx hb dX4_cutUp_45 hl (k := 4) rfl (by rw [e_v4_14]; rfl) (by decide) rfl (fun ls hl => ?_)
            refine lv_goto (tgt := 17) hx hb dX4_cutUp_48 (by decide) ?_
            exact ih17 v3_13 v4_14 i_p2_blocks_6 i_p2_sawn_7 f_p2_left_8 f_p2_low_9 f_p2_columns_10 f_p2_rows_11 _ _ _ (hP.sub [3, 4, 5, 6, 0, 7, 8, 9, 10, 11, 1, 2] rfl rfl) hS (lv_sub hl [2, 3, 4, 1, 0] rfl) hV
  refine lv_aload_n hx hb dX4_cutUp_0 rfl (lv_at hl 2 rfl) ?_
  refine lv_aload_n hx hb dX4_cutUp_1 rfl (lv_at hl 1 rfl) ?_
  refine gX7 hx hb ht hown hK hP 4 rfl 0 (by decide) fl_X4_35 (fun _ h => h) rfl dX4_cutUp_2 ?_
  refine lv_aload_n hx hb dX4_cutUp_5 rfl (lv_at hl 1 rfl) ?_
  refine gX7 hx hb ht hown hK hP 4 rfl 1 (by decide) fl_X4_40 (fun _ h => h) rfl dX4_cutUp_6 ?_
  refine KVv (As := [.int i_p1_columns, .int i_p1_rows]) (rest := []) FX (c_X2_startWith l D cI cB cS a_p2 a_p2_left a_p2_low a_p2_columns a_p2_rows a_p2_turn a_p2_blockAt i_p1_columns i_p1_rows i_p2_blocks i_p2_sawn f_p2_left f_p2_low f_p2_columns f_p2_rows _ hV) ok_X2_startWith im_X2_startWith se_X2_startWith li_X4_52 dX4_cutUp_9 hK hP hS hA [5, 6, 7, 8, 9] [0, 1, 2, 3, 4, 10, 11] 5 rfl rfl rfl (by decide) rfl rfl hl.1 (Nat.le_of_ble_eq_true rfl) ⟨Nat.le_of_ble_eq_true rfl, Nat.le_of_ble_eq_true rfl⟩ ⟨Nat.le_of_ble_eq_true rfl, Nat.le_of_ble_eq_true rfl⟩ (fun u H locs hV hP hS => ?_)
  obtain ⟨i_p2_blocks_15, i_p2_sawn_16, f_p2_left_17, f_p2_low_18, f_p2_columns_19, f_p2_rows_20⟩ := u
  try dsimp only at hV
  have hP : PD D A [oc a_this 4 [.int i_limit, .ref a_cost, .ref a_weightTo, .ref a_uprightBars, .ref a_levelBars], ai cI a_cost 1296 f_cost, ai cI a_uprightBars 8 f_uprightBars, ai cI a_levelBars 8 f_levelBars, oc a_p1 6 [.int i_p1_columns, .int i_p1_rows, .ref a_p1_weight, .ref a_p1_motif], ai cI a_p2_turn 64 f_p2_turn, ai cI a_p2_blockAt 64 f_p2_blockAt, oc a_p2 2 [.int i_p2_blocks_15, .int i_p2_sawn_16, .ref a_p2_left, .ref a_p2_low, .ref a_p2_columns, .ref a_p2_rows, .ref a_p2_turn, .ref a_p2_blockAt], ai cI a_p2_left 64 f_p2_left_17, ai cI a_p2_low 64 f_p2_low_18, ai cI a_p2_columns 64 f_p2_columns_19, ai cI a_p2_rows 64 f_p2_rows_20] H := hP
  refine lv_iconst (v := 0) hx hb dX4_cutUp_12 (by decide) ?_
  refine lv_istore_n (lv' := [(3, .int 0), (0, .ref a_this), (1, .ref a_p1), (2, .ref a_p2)]) hx hb dX4_cutUp_13 rfl hl (by decide) rfl (fun ls hl => ?_)
  refine lv_iconst (v := 0) hx hb dX4_cutUp_14 (by decide) ?_
  refine lv_istore (lv' := [(4, .int 0), (3, .int 0), (0, .ref a_this), (1, .ref a_p1), (2, .ref a_p2)]) hx hb dX4_cutUp_15 hl (by decide) rfl (fun ls hl => ?_)
  obtain ⟨k, hV⟩ := hV
  exact b17 f_p2_turn f_p2_blockAt k 0 0 i_p2_blocks_15 i_p2_sawn_16 f_p2_left_17 f_p2_low_18 f_p2_columns_19 f_p2_rows_20 _ _ _ (hP.sub [0, 1, 2, 3, 4, 7, 8, 9, 10, 11, 5, 6] rfl rfl) hS (lv_sub hl [2, 3, 4, 1, 0] rfl) hV
