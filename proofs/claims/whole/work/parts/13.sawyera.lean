def rm_X4_init : Room := { frames := 1, cells := 4, slots := 1393, locals := 12 }
def P_X4_init (post : Nat → Nat → Nat → Nat → Int32 → (Nat → Int32) → (Nat → Int32) → (Nat → Int32) → (Nat → Int32) → Prop) : Prop := (∀ q8 : Nat, (∀ q16 : Nat, (∀ q24 : Nat, (∀ q32 : Nat, post q8 q16 q24 q32 0 (fun _ => 0) (fun _ => 0) (fun _ => 0) (fun _ => 0)))))
set_option maxRecDepth 100000 in
set_option maxHeartbeats 4000000 in
theorem c_X4_init (l : Launch) (D : va_G) (cI cB cS : ClassId) (a_this : Nat) (post : Nat → Nat → Nat → Nat → Int32 → (Nat → Int32) → (Nat → Int32) → (Nat → Int32) → (Nat → Int32) → Prop) (hV : P_X4_init post) : Cv l yX4_init cX4_init 1 none rm_X4_init D cI cB cS [.ref a_this] [oc a_this 4 [.int 0, .null, .null, .null, .null]] (fun (u : Nat × Nat × Nat × Nat × Int32 × (Nat → Int32) × (Nat → Int32) × (Nat → Int32) × (Nat → Int32)) => post u.1 u.2.1 u.2.2.1 u.2.2.2.1 u.2.2.2.2.1 u.2.2.2.2.2.1 u.2.2.2.2.2.2.1 u.2.2.2.2.2.2.2.1 u.2.2.2.2.2.2.2.2) (fun (u : Nat × Nat × Nat × Nat × Int32 × (Nat → Int32) × (Nat → Int32) × (Nat → Int32) × (Nat → Int32)) => [oc a_this 4 [.int u.2.2.2.2.1, .ref u.1, .ref u.2.1, .ref u.2.2.1, .ref u.2.2.2.1], ai cI u.1 1296 (u.2.2.2.2.2.1), ai cI u.2.1 81 (u.2.2.2.2.2.2.1), ai cI u.2.2.1 8 (u.2.2.2.2.2.2.2.1), ai cI u.2.2.2.1 8 (u.2.2.2.2.2.2.2.2)]) := by
  refine Cv.of ok_X4_init (Nat.le_of_ble_eq_true rfl) ?_
  intro p e s m args below meth c A Q hx hb hml hown ht hnm hK hP hA hS hret ls hl
  have hown : s.vm.findClass RX4 = some m.cls := hown
  have FX : CallFix p m c cX4_init 1 s args tblG RX4 := ⟨hx, hb, hml, hown, ht⟩
  have hP : PD D A [oc a_this 4 [.int 0, .null, .null, .null, .null]] s.heap := hP
  have hl : lv_has ls 1 [(0, .ref a_this)] := hl
  unfold P_X4_init at hV
  refine lv_aload_n hx hb dX4_init_0 rfl (lv_at hl 0 rfl) ?_
  refine oin hx hb ht hown (hml.trans hl.1.symm) li_X4_3 (Nat.le_of_ble_eq_true rfl) (Nat.le_of_ble_eq_true rfl) dX4_init_1 ?_
  refine lv_aload_n hx hb dX4_init_4 rfl (lv_at hl 0 rfl) ?_
  refine lv_sipush (v := 1296) hx hb dX4_init_5 (by decide) ?_
  refine nai hx hb ht hK hP hS hA 1296 (by decide) (by decide) (by decide) (Nat.le_of_ble_eq_true rfl) (Nat.le_of_ble_eq_true rfl) dX4_init_8 (fun q8 H hP hS => ?_)
  have hV := hV q8
  have hP : PD D A [oc a_this 4 [.int 0, .null, .null, .null, .null], ai cI q8 1296 (fun _ => 0)] H := hP
  refine qX4 hx hb ht hown hK hP hS 0 rfl 1 (by decide) fl_X4_11 (fun _ h => h) rfl hnm rfl (tyX4_ok 1 (by decide)) rfl rfl (Nat.le_of_ble_eq_true rfl) dX4_init_10 (fun H locs hP hS => ?_)
  have hP : PD D A [oc a_this 4 [.int 0, .ref q8, .null, .null, .null], ai cI q8 1296 (fun _ => 0)] H := hP
  refine lv_aload_n hx hb dX4_init_13 rfl (lv_at hl 0 rfl) ?_
  refine lv_bipush (v := 81) hx hb dX4_init_14 (by decide) ?_
  refine nai hx hb ht hK hP hS hA 81 (by decide) (by decide) (by decide) (Nat.le_of_ble_eq_true rfl) (Nat.le_of_ble_eq_true rfl) dX4_init_16 (fun q16 H hP hS => ?_)
  have hV := hV q16
  have hP : PD D A [oc a_this 4 [.int 0, .ref q8, .null, .null, .null], ai cI q8 1296 (fun _ => 0), ai cI q16 81 (fun _ => 0)] H := hP
  refine qX4 hx hb ht hown hK hP hS 0 rfl 2 (by decide) fl_X4_15 (fun _ h => h) rfl hnm rfl (tyX4_ok 2 (by decide)) rfl rfl (Nat.le_of_ble_eq_true rfl) dX4_init_18 (fun H locs hP hS => ?_)
  have hP : PD D A [oc a_this 4 [.int 0, .ref q8, .ref q16, .null, .null], ai cI q8 1296 (fun _ => 0), ai cI q16 81 (fun _ => 0)] H := hP
  refine lv_aload_n hx hb dX4_init_21 rfl (lv_at hl 0 rfl) ?_
  refine lv_bipush (v := 8) hx hb dX4_init_22 (by decide) ?_
  refine nai hx hb ht hK hP hS hA 8 (by decide) (by decide) (by decide) (Nat.le_of_ble_eq_true rfl) (Nat.le_of_ble_eq_true rfl) dX4_init_24 (fun q24 H hP hS => ?_)
  have hV := hV q24
  have hP : PD D A [oc a_this 4 [.int 0, .ref q8, .ref q16, .null, .null], ai cI q8 1296 (fun _ => 0), ai cI q16 81 (fun _ => 0), ai cI q24 8 (fun _ => 0)] H := hP
  refine qX4 hx hb ht hown hK hP hS 0 rfl 3 (by decide) fl_X4_18 (fun _ h => h) rfl hnm rfl (tyX4_ok 3 (by decide)) rfl rfl (Nat.le_of_ble_eq_true rfl) dX4_init_26 (fun H locs hP hS => ?_)
  have hP : PD D A [oc a_this 4 [.int 0, .ref q8, .ref q16, .ref q24, .null], ai cI q8 1296 (fun _ => 0), ai cI q16 81 (fun _ => 0), ai cI q24 8 (fun _ => 0)] H := hP
  refine lv_aload_n hx hb dX4_init_29 rfl (lv_at hl 0 rfl) ?_
  refine lv_bipush (v := 8) hx hb dX4_init_30 (by decide) ?_
  refine nai hx hb ht hK hP hS hA 8 (by decide) (by decide) (by decide) (Nat.le_of_ble_eq_true rfl) (Nat.le_of_ble_eq_true rfl) dX4_init_32 (fun q32 H hP hS => ?_)
  have hV := hV q32
  have hP : PD D A [oc a_this 4 [.int 0, .ref q8, .ref q16, .ref q24, .null], ai cI q8 1296 (fun _ => 0), ai cI q16 81 (fun _ => 0), ai cI q24 8 (fun _ => 0), ai cI q32 8 (fun _ => 0)] H := hP
  refine qX4 hx hb ht hown hK hP hS 0 rfl 4 (by decide) fl_X4_21 (fun _ h => h) rfl hnm rfl (tyX4_ok 4 (by decide)) rfl rfl (Nat.le_of_ble_eq_true rfl) dX4_init_34 (fun H locs hP hS => ?_)
  have hP : PD D A [oc a_this 4 [.int 0, .ref q8, .ref q16, .ref q24, .ref q32], ai cI q8 1296 (fun _ => 0), ai cI q16 81 (fun _ => 0), ai cI q24 8 (fun _ => 0), ai cI q32 8 (fun _ => 0)] H := hP
  exact hret _ _ _ _ (q8, q16, q24, q32, 0, (fun _ => 0), (fun _ => 0), (fun _ => 0), (fun _ => 0)) hS dX4_init_37 hP hV

def rm_X4_corner : Room := { frames := 0, cells := 0, slots := 0, locals := 0 }
def P_X4_corner (x0 : Int32) (x1 : Int32) (post : Int32 → Prop) : Prop := post ((x1 * 9) + x0)
set_option maxRecDepth 100000 in
set_option maxHeartbeats 4000000 in
theorem c_X4_corner (l : Launch) (D : va_G) (cI cB cS : ClassId) (x0 : Int32) (x1 : Int32) (post : Int32 → Prop) (hV : P_X4_corner x0 x1 post) : Ci l yX4_corner cX4_corner 2 (some .int) rm_X4_corner D cI cB cS [.int x0, .int x1] [] (fun r (_ : Unit) => post r) (fun (_ : Unit) => []) := by
  refine Ci.of ok_X4_corner (Nat.le_of_ble_eq_true rfl) ?_
  intro p e s m args below meth c A Q hx hb hml hown ht hnm hK hP hA hS hret ls hl
  have hown : s.vm.findClass RX4 = some m.cls := hown
  have FX : CallFix p m c cX4_corner 2 s args tblG RX4 := ⟨hx, hb, hml, hown, ht⟩
  have hP : PD D A [] s.heap := hP
  have hl : lv_has ls 2 [(0, .int x0), (1, .int x1)] := hl
  unfold P_X4_corner at hV
  refine lv_iload_n hx hb dX4_corner_0 rfl (lv_at hl 1 rfl) ?_
  refine lv_bipush (v := 9) hx hb dX4_corner_1 (by decide) ?_
  refine lv_imul hx hb dX4_corner_3 ?_
  refine lv_iload_n hx hb dX4_corner_4 rfl (lv_at hl 0 rfl) ?_
  refine lv_iadd hx hb dX4_corner_5 ?_
  exact hret _ _ _ _ _ () hS dX4_corner_6 hP hV

def rm_X4_addUpWeights : Room := { frames := 1, cells := 0, slots := 0, locals := 21 }
def V_X4_addUpWeights_15 (v2 : Int32) (i_p1_columns : Int32) (f_p1_weight : Nat → Int32) (K_2 : Int32 → (Nat → Int32) → Prop) : Nat → Int32 → Int32 → (Nat → Int32) → Prop
  | 0, _, _, _ => False
  | n + 1, v3, v4, f_weightTo => ((i_p1_columns ≤ v4 → (∀ v2_1 : Int32, v2_1 = (v2 + 1) → K_2 v2_1 f_weightTo)) ∧ (¬ i_p1_columns ≤ v4 → P_X9_place v4 v2 (fun r_2 => (vp_in r_2 64 ∧ (∀ v3_3 : Int32, v3_3 = (v3 + (f_p1_weight r_2.toNatClampNeg)) → P_X4_corner (v4 + 1) (v2 + 1) (fun r_4 => P_X4_corner (v4 + 1) v2 (fun r_5 => (vp_in r_5 81 ∧ (vp_in r_4 81 ∧ ∀ f_weightTo_6 : Nat → Int32, f_weightTo_6 = upd f_weightTo r_4.toNatClampNeg ((f_weightTo r_5.toNatClampNeg) + v3_3) → (∀ v4_7 : Int32, v4_7 = (v4 + 1) → V_X4_addUpWeights_15 v2 i_p1_columns f_p1_weight K_2 n v3_3 v4_7 f_weightTo_6))))))))))
theorem V_X4_addUpWeights_15_s (v2 : Int32) (i_p1_columns : Int32) (f_p1_weight : Nat → Int32) (K_2 : Int32 → (Nat → Int32) → Prop) (n : Nat) (v3 : Int32) (v4 : Int32) (f_weightTo : Nat → Int32) : V_X4_addUpWeights_15 v2 i_p1_columns f_p1_weight K_2 (n + 1) v3 v4 f_weightTo = (((i_p1_columns ≤ v4 → (∀ v2_1 : Int32, v2_1 = (v2 + 1) → K_2 v2_1 f_weightTo)) ∧ (¬ i_p1_columns ≤ v4 → P_X9_place v4 v2 (fun r_2 => (vp_in r_2 64 ∧ (∀ v3_3 : Int32, v3_3 = (v3 + (f_p1_weight r_2.toNatClampNeg)) → P_X4_corner (v4 + 1) (v2 + 1) (fun r_4 => P_X4_corner (v4 + 1) v2 (fun r_5 => (vp_in r_5 81 ∧ (vp_in r_4 81 ∧ ∀ f_weightTo_6 : Nat → Int32, f_weightTo_6 = upd f_weightTo r_4.toNatClampNeg ((f_weightTo r_5.toNatClampNeg) + v3_3) → (∀ v4_7 : Int32, v4_7 = (v4 + 1) → V_X4_addUpWeights_15 v2 i_p1_columns f_p1_weight K_2 n v3_3 v4_7 f_weightTo_6))))))))))) := rfl
def V_X4_addUpWeights_2 (i_p1_columns : Int32) (i_p1_rows : Int32) (f_p1_weight : Nat → Int32) (post : (Nat → Int32) → Prop) : Nat → Int32 → (Nat → Int32) → Prop
  | 0, _, _ => False
  | n + 1, v2, f_weightTo => ((i_p1_rows ≤ v2 → post f_weightTo) ∧ (¬ i_p1_rows ≤ v2 → (∃ k : Nat, V_X4_addUpWeights_15 v2 i_p1_columns f_p1_weight (V_X4_addUpWeights_2 i_p1_columns i_p1_rows f_p1_weight post n) k 0 0 f_weightTo)))
theorem V_X4_addUpWeights_2_s (i_p1_columns : Int32) (i_p1_rows : Int32) (f_p1_weight : Nat → Int32) (post : (Nat → Int32) → Prop) (n : Nat) (v2 : Int32) (f_weightTo : Nat → Int32) : V_X4_addUpWeights_2 i_p1_columns i_p1_rows f_p1_weight post (n + 1) v2 f_weightTo = (((i_p1_rows ≤ v2 → post f_weightTo) ∧ (¬ i_p1_rows ≤ v2 → (∃ k : Nat, V_X4_addUpWeights_15 v2 i_p1_columns f_p1_weight (V_X4_addUpWeights_2 i_p1_columns i_p1_rows f_p1_weight post n) k 0 0 f_weightTo)))) := rfl
def P_X4_addUpWeights (f_weightTo : Nat → Int32) (i_p1_columns : Int32) (i_p1_rows : Int32) (f_p1_weight : Nat → Int32) (post : (Nat → Int32) → Prop) : Prop := (∃ k : Nat, V_X4_addUpWeights_2 i_p1_columns i_p1_rows f_p1_weight post k 0 f_weightTo)
set_option maxRecDepth 100000 in
set_option maxHeartbeats 4000000 in
theorem c_X4_addUpWeights (l : Launch) (D : va_G) (cI cB cS : ClassId) (a_this a_weightTo a_p1 a_p1_weight a_cost a_uprightBars a_levelBars a_p1_motif : Nat) (i_limit : Int32) (f_weightTo : Nat → Int32) (i_p1_columns : Int32) (i_p1_rows : Int32) (f_p1_weight : Nat → Int32) (post : (Nat → Int32) → Prop) (hV : P_X4_addUpWeights f_weightTo i_p1_columns i_p1_rows f_p1_weight post) : Cv l yX4_addUpWeights cX4_addUpWeights 5 none rm_X4_addUpWeights D cI cB cS [.ref a_this, .ref a_p1] [oc a_this 4 [.int i_limit, .ref a_cost, .ref a_weightTo, .ref a_uprightBars, .ref a_levelBars], ai cI a_weightTo 81 f_weightTo, oc a_p1 6 [.int i_p1_columns, .int i_p1_rows, .ref a_p1_weight, .ref a_p1_motif], ai cI a_p1_weight 64 f_p1_weight] (fun (u : (Nat → Int32)) => post u) (fun (u : (Nat → Int32)) => [oc a_this 4 [.int i_limit, .ref a_cost, .ref a_weightTo, .ref a_uprightBars, .ref a_levelBars], ai cI a_weightTo 81 u, oc a_p1 6 [.int i_p1_columns, .int i_p1_rows, .ref a_p1_weight, .ref a_p1_motif], ai cI a_p1_weight 64 f_p1_weight]) := by
  refine Cv.of ok_X4_addUpWeights (Nat.le_of_ble_eq_true rfl) ?_
  intro p e s m args below meth c A Q hx hb hml hown ht hnm hK hP hA hS hret ls hl
  have hown : s.vm.findClass RX4 = some m.cls := hown
  have FX : CallFix p m c cX4_addUpWeights 5 s args tblG RX4 := ⟨hx, hb, hml, hown, ht⟩
  have hP : PD D A [oc a_this 4 [.int i_limit, .ref a_cost, .ref a_weightTo, .ref a_uprightBars, .ref a_levelBars], ai cI a_weightTo 81 f_weightTo, oc a_p1 6 [.int i_p1_columns, .int i_p1_rows, .ref a_p1_weight, .ref a_p1_motif], ai cI a_p1_weight 64 f_p1_weight] s.heap := hP
  have hl : lv_has ls 5 [(0, .ref a_this), (1, .ref a_p1)] := hl
  unfold P_X4_addUpWeights at hV
  have b2 : ∀  (k2 : Nat) (v2 : Int32) (f_weightTo : Nat → Int32) (H : Heap) (locs : List Loc) (ls : Array Slot), PD D A [oc a_this 4 [.int i_limit, .ref a_cost, .ref a_weightTo, .ref a_uprightBars, .ref a_levelBars], ai cI a_weightTo 81 f_weightTo, oc a_p1 6 [.int i_p1_columns, .int i_p1_rows, .ref a_p1_weight, .ref a_p1_motif], ai cI a_p1_weight 64 f_p1_weight] H → va_S A s.heap H locs → lv_has ls 5 [(0, .ref a_this), (1, .ref a_p1), (2, .int v2)] → V_X4_addUpWeights_2 i_p1_columns i_p1_rows f_p1_weight post k2 v2 f_weightTo → W p l e rm_X4_addUpWeights s m args below meth c H locs 0 0 Q (F0 m 2 ls []) := by
    intro  k2
    induction k2 with
    | zero => intro v2 f_weightTo H locs ls hP hS hl hV; exact False.elim hV
    | succ k2 ih2 =>
      intro v2 f_weightTo H locs ls hP hS hl hV
      rw [V_X4_addUpWeights_2_s] at hV
      have b15 : ∀ (v2 : Int32) (k15 : Nat) (v3 : Int32) (v4 : Int32) (f_weightTo : Nat → Int32) (H : Heap) (locs : List Loc) (ls : Array Slot), PD D A [oc a_this 4 [.int i_limit, .ref a_cost, .ref a_weightTo, .ref a_uprightBars, .ref a_levelBars], ai cI a_weightTo 81 f_weightTo, oc a_p1 6 [.int i_p1_columns, .int i_p1_rows, .ref a_p1_weight, .ref a_p1_motif], ai cI a_p1_weight 64 f_p1_weight] H → va_S A s.heap H locs → lv_has ls 5 [(0, .ref a_this), (1, .ref a_p1), (2, .int v2), (3, .int v3), (4, .int v4)] → V_X4_addUpWeights_15 v2 i_p1_columns f_p1_weight (V_X4_addUpWeights_2 i_p1_columns i_p1_rows f_p1_weight post k2) k15 v3 v4 f_weightTo → W p l e rm_X4_addUpWeights s m args below meth c H locs 0 0 Q (F0 m 15 ls []) := by
        intro v2 k15
        induction k15 with
        | zero => intro v3 v4 f_weightTo H locs ls hP hS hl hV; exact False.elim hV
        | succ k15 ih15 =>
          intro v3 v4 f_weightTo H locs ls hP hS hl hV
          rw [V_X4_addUpWeights_15_s] at hV
          refine lv_iload hx hb dX4_addUpWeights_15 (lv_at hl 4 rfl) ?_
          refine lv_aload_n hx hb dX4_addUpWeights_17 rfl (lv_at hl 1 rfl) ?_
          refine gX7 hx hb ht hown hK hP 2 rfl 0 (by decide) fl_X4_35 (fun _ h => h) rfl dX4_addUpWeights_18 ?_
          refine lv_icmp_ge (tgt := 74) hx hb dX4_addUpWeights_21 (by decide) (fun h => ?_) (fun h => ?_)
          · have hV := hV.1 h
            obtain ⟨v2_1, e_v2_1⟩ : ∃ y : Int32, y = (v2 + 1) := ⟨_, rfl⟩
            have hV := hV v2_1 e_v2_1
            refine lv_iinc (v := v2_1) (lv' := [(2, .int v2_1), (0, .ref a_this), (1, .ref a_p1), (3, .int v3), (4, .int v4)]) hx hb dX4_addUpWeights_74 hl (k := 2) rfl (by rw [e_v2_1]; rfl) (by decide) rfl (fun ls hl => ?_)
            refine lv_goto (tgt := 2) hx hb dX4_addUpWeights_77 (by decide) ?_
            exact ih2 v2_1 f_weightTo _ _ _ hP hS (lv_sub hl [1, 2, 0] rfl) hV
          · have hV := hV.2 h
            refine lv_iload_n hx hb dX4_addUpWeights_24 rfl (lv_at hl 3 rfl) ?_
            refine lv_aload_n hx hb dX4_addUpWeights_25 rfl (lv_at hl 1 rfl) ?_
            refine gX7 hx hb ht hown hK hP 2 rfl 2 (by decide) fl_X4_94 (fun _ h => h) rfl dX4_addUpWeights_26 ?_
            refine lv_iload hx hb dX4_addUpWeights_29 (lv_at hl 4 rfl) ?_
            refine lv_iload_n hx hb dX4_addUpWeights_31 rfl (lv_at hl 2 rfl) ?_
            refine KNi (As := [.int v4, .int v2]) (rest := [.ref a_p1_weight, .int v3]) FX (c_X9_place l D cI cB cS v4 v2 _ hV) ok_X9_place is_X9_place nq_X4_97 dX4_addUpWeights_32 hK hP hS hA [] [0, 1, 2, 3] rfl rfl (by decide) rfl hl.1 (Nat.le_of_ble_eq_true rfl) ⟨Nat.le_of_ble_eq_true rfl, Nat.le_of_ble_eq_true rfl⟩ ⟨Nat.le_of_ble_eq_true rfl, Nat.le_of_ble_eq_true rfl⟩ (fun r_2 _ H locs hV hP hS => ?_)
            have hP : PD D A [oc a_this 4 [.int i_limit, .ref a_cost, .ref a_weightTo, .ref a_uprightBars, .ref a_levelBars], ai cI a_weightTo 81 f_weightTo, oc a_p1 6 [.int i_p1_columns, .int i_p1_rows, .ref a_p1_weight, .ref a_p1_motif], ai cI a_p1_weight 64 f_p1_weight] H := hP
            refine ild hx hb hK hP 3 rfl dX4_addUpWeights_35 hV.1 ?_
            have hV := hV.2
            refine lv_iadd hx hb dX4_addUpWeights_36 ?_
            refine lv_topi (fun v3_3 e_v3_3 => ?_)
            have hV := hV v3_3 e_v3_3
            refine lv_istore_n (lv' := [(3, .int v3_3), (0, .ref a_this), (1, .ref a_p1), (2, .int v2), (4, .int v4)]) hx hb dX4_addUpWeights_37 rfl hl (by decide) rfl (fun ls hl => ?_)
            refine lv_aload_n hx hb dX4_addUpWeights_38 rfl (lv_at hl 1 rfl) ?_
            refine gX4 hx hb ht hown hK hP 0 rfl 2 (by decide) fl_X4_15 (fun _ h => h) rfl dX4_addUpWeights_39 ?_
            refine lv_iload hx hb dX4_addUpWeights_42 (lv_at hl 4 rfl) ?_
            refine lv_iconst (v := 1) hx hb dX4_addUpWeights_44 (by decide) ?_
            refine lv_iadd hx hb dX4_addUpWeights_45 ?_
            refine lv_iload_n hx hb dX4_addUpWeights_46 rfl (lv_at hl 3 rfl) ?_
            refine lv_iconst (v := 1) hx hb dX4_addUpWeights_47 (by decide) ?_
            refine lv_iadd hx hb dX4_addUpWeights_48 ?_
            refine KSi (As := [.int (v4 + 1), .int (v2 + 1)]) (rest := [.ref a_weightTo]) FX (c_X4_corner l D cI cB cS (v4 + 1) (v2 + 1) _ hV) ok_X4_corner is_X4_corner li_X4_101 dX4_addUpWeights_49 hK hP hS hA [] [0, 1, 2, 3] rfl rfl (by decide) rfl hl.1 (Nat.le_of_ble_eq_true rfl) ⟨Nat.le_of_ble_eq_true rfl, Nat.le_of_ble_eq_true rfl⟩ ⟨Nat.le_of_ble_eq_true rfl, Nat.le_of_ble_eq_true rfl⟩ (fun r_4 _ H locs hV hP hS => ?_)
            have hP : PD D A [oc a_this 4 [.int i_limit, .ref a_cost, .ref a_weightTo, .ref a_uprightBars, .ref a_levelBars], ai cI a_weightTo 81 f_weightTo, oc a_p1 6 [.int i_p1_columns, .int i_p1_rows, .ref a_p1_weight, .ref a_p1_motif], ai cI a_p1_weight 64 f_p1_weight] H := hP
            refine lv_aload_n hx hb dX4_addUpWeights_52 rfl (lv_at hl 1 rfl) ?_
            refine gX4 hx hb ht hown hK hP 0 rfl 2 (by decide) fl_X4_15 (fun _ h => h) rfl dX4_addUpWeights_53 ?_
            refine lv_iload hx hb dX4_addUpWeights_56 (lv_at hl 4 rfl) ?_
            refine lv_iconst (v := 1) hx hb dX4_addUpWeights_58 (by decide) ?_
            refine lv_iadd hx hb dX4_addUpWeights_59 ?_
            refine lv_iload_n hx hb dX4_addUpWeights_60 rfl (lv_at hl 3 rfl) ?_
            refine KSi (As := [.int (v4 + 1), .int v2]) (rest := [.ref a_weightTo, .int r_4, .ref a_weightTo]) FX (c_X4_corner l D cI cB cS (v4 + 1) v2 _ hV) ok_X4_corner is_X4_corner li_X4_101 dX4_addUpWeights_61 hK hP hS hA [] [0, 1, 2, 3] rfl rfl (by decide) rfl hl.1 (Nat.le_of_ble_eq_true rfl) ⟨Nat.le_of_ble_eq_true rfl, Nat.le_of_ble_eq_true rfl⟩ ⟨Nat.le_of_ble_eq_true rfl, Nat.le_of_ble_eq_true rfl⟩ (fun r_5 _ H locs hV hP hS => ?_)
            have hP : PD D A [oc a_this 4 [.int i_limit, .ref a_cost, .ref a_weightTo, .ref a_uprightBars, .ref a_levelBars], ai cI a_weightTo 81 f_weightTo, oc a_p1 6 [.int i_p1_columns, .int i_p1_rows, .ref a_p1_weight, .ref a_p1_motif], ai cI a_p1_weight 64 f_p1_weight] H := hP
            refine ild hx hb hK hP 1 rfl dX4_addUpWeights_64 hV.1 ?_
            have hV := hV.2
            refine lv_iload_n hx hb dX4_addUpWeights_65 rfl (lv_at hl 0 rfl) ?_
            refine lv_iadd hx hb dX4_addUpWeights_66 ?_
            refine ist hx hb hK hP hS 1 rfl dX4_addUpWeights_67 hV.1 (fun f_weightTo_6 e_f_weightTo_6 H locs hP hS => ?_)
            have hV := hV.2 f_weightTo_6 e_f_weightTo_6
            have hP : PD D A [oc a_this 4 [.int i_limit, .ref a_cost, .ref a_weightTo, .ref a_uprightBars, .ref a_levelBars], ai cI a_weightTo 81 f_weightTo_6, oc a_p1 6 [.int i_p1_columns, .int i_p1_rows, .ref a_p1_weight, .ref a_p1_motif], ai cI a_p1_weight 64 f_p1_weight] H := hP
            obtain ⟨v4_7, e_v4_7⟩ : ∃ y : Int32, y = (v4 + 1) := ⟨_, rfl⟩
            have hV := hV v4_7 e_v4_7
            refine lv_iinc (v := v4_7) (lv' := [(4, .int v4_7), (3, .int v3_3), (0, .ref a_this), (1, .ref a_p1), (2, .int v2)]) hx hb dX4_addUpWeights_68 hl (k := 4) rfl (by rw [e_v4_7]; rfl) (by decide) rfl (fun ls hl => ?_)
            refine lv_goto (tgt := 15) hx hb dX4_addUpWeights_71 (by decide) ?_
            exact ih15 v3_3 v4_7 f_weightTo_6 _ _ _ hP hS (lv_sub hl [2, 3, 4, 1, 0] rfl) hV
      refine lv_iload_n hx hb dX4_addUpWeights_2 rfl (lv_at hl 2 rfl) ?_
      refine lv_aload_n hx hb dX4_addUpWeights_3 rfl (lv_at hl 1 rfl) ?_
      refine gX7 hx hb ht hown hK hP 2 rfl 1 (by decide) fl_X4_40 (fun _ h => h) rfl dX4_addUpWeights_4 ?_
      refine lv_icmp_ge (tgt := 80) hx hb dX4_addUpWeights_7 (by decide) (fun h => ?_) (fun h => ?_)
      · have hV := hV.1 h
        exact hret _ _ _ _ f_weightTo hS dX4_addUpWeights_80 hP hV
      · have hV := hV.2 h
        refine lv_iconst (v := 0) hx hb dX4_addUpWeights_10 (by decide) ?_
        refine lv_istore_n (lv' := [(3, .int 0), (0, .ref a_this), (1, .ref a_p1), (2, .int v2)]) hx hb dX4_addUpWeights_11 rfl hl (by decide) rfl (fun ls hl => ?_)
        refine lv_iconst (v := 0) hx hb dX4_addUpWeights_12 (by decide) ?_
        refine lv_istore (lv' := [(4, .int 0), (3, .int 0), (0, .ref a_this), (1, .ref a_p1), (2, .int v2)]) hx hb dX4_addUpWeights_13 hl (by decide) rfl (fun ls hl => ?_)
        obtain ⟨k, hV⟩ := hV
        exact b15 v2 k 0 0 f_weightTo _ _ _ hP hS (lv_sub hl [2, 3, 4, 1, 0] rfl) hV
  refine lv_iconst (v := 0) hx hb dX4_addUpWeights_0 (by decide) ?_
  refine lv_istore_n (lv' := [(2, .int 0), (0, .ref a_this), (1, .ref a_p1)]) hx hb dX4_addUpWeights_1 rfl hl (by decide) rfl (fun ls hl => ?_)
  obtain ⟨k, hV⟩ := hV
  exact b2 k 0 f_weightTo _ _ _ hP hS (lv_sub hl [1, 2, 0] rfl) hV

def rm_X4_findBarsOf : Room := { frames := 2, cells := 0, slots := 0, locals := 44 }
def J_X4_findBarsOf_46 (x2 : Int32) (x3 : Int32) (i_p1_columns : Int32) (i_p1_rows : Int32) (f_p1_motif : Nat → Int32) (post : (Nat → Int32) → (Nat → Int32) → Prop) (v4 : Int32) (f_uprightBars : Nat → Int32) (f_levelBars : Nat → Int32) : Prop := P_X7_has x2 (x3 + 1) i_p1_columns i_p1_rows (fun r_1 => ((r_1 = 0 → post f_uprightBars f_levelBars) ∧ (¬ r_1 = 0 → P_X9_place x2 (x3 + 1) (fun r_2 => P_X7_isOneCarving v4 r_2 f_p1_motif (fun r_3 => ((r_3 = 0 → post f_uprightBars f_levelBars) ∧ (¬ r_3 = 0 → (vp_in x3 8 ∧ (vp_in x3 8 ∧ ∀ f_levelBars_4 : Nat → Int32, f_levelBars_4 = upd f_levelBars x3.toNatClampNeg ((f_levelBars x3.toNatClampNeg) ||| (1 <<< (x2 &&& 31))) → post f_uprightBars f_levelBars_4)))))))))
def P_X4_findBarsOf (x2 : Int32) (x3 : Int32) (f_uprightBars : Nat → Int32) (f_levelBars : Nat → Int32) (i_p1_columns : Int32) (i_p1_rows : Int32) (f_p1_motif : Nat → Int32) (post : (Nat → Int32) → (Nat → Int32) → Prop) : Prop := P_X9_place x2 x3 (fun r_5 => P_X7_has (x2 + 1) x3 i_p1_columns i_p1_rows (fun r_6 => ((r_6 = 0 → J_X4_findBarsOf_46 x2 x3 i_p1_columns i_p1_rows f_p1_motif post r_5 f_uprightBars f_levelBars) ∧ (¬ r_6 = 0 → P_X9_place (x2 + 1) x3 (fun r_7 => P_X7_isOneCarving r_5 r_7 f_p1_motif (fun r_8 => ((r_8 = 0 → J_X4_findBarsOf_46 x2 x3 i_p1_columns i_p1_rows f_p1_motif post r_5 f_uprightBars f_levelBars) ∧ (¬ r_8 = 0 → (vp_in x2 8 ∧ (vp_in x2 8 ∧ ∀ f_uprightBars_9 : Nat → Int32, f_uprightBars_9 = upd f_uprightBars x2.toNatClampNeg ((f_uprightBars x2.toNatClampNeg) ||| (1 <<< (x3 &&& 31))) → J_X4_findBarsOf_46 x2 x3 i_p1_columns i_p1_rows f_p1_motif post r_5 f_uprightBars_9 f_levelBars))))))))))
set_option maxRecDepth 100000 in
set_option maxHeartbeats 4000000 in
theorem c_X4_findBarsOf (l : Launch) (D : va_G) (cI cB cS : ClassId) (a_this a_uprightBars a_levelBars a_p1 a_p1_motif a_cost a_weightTo a_p1_weight : Nat) (x2 : Int32) (x3 : Int32) (i_limit : Int32) (f_uprightBars : Nat → Int32) (f_levelBars : Nat → Int32) (i_p1_columns : Int32) (i_p1_rows : Int32) (f_p1_motif : Nat → Int32) (post : (Nat → Int32) → (Nat → Int32) → Prop) (hV : P_X4_findBarsOf x2 x3 f_uprightBars f_levelBars i_p1_columns i_p1_rows f_p1_motif post) : Cv l yX4_findBarsOf cX4_findBarsOf 5 none rm_X4_findBarsOf D cI cB cS [.ref a_this, .ref a_p1, .int x2, .int x3] [oc a_this 4 [.int i_limit, .ref a_cost, .ref a_weightTo, .ref a_uprightBars, .ref a_levelBars], ai cI a_uprightBars 8 f_uprightBars, ai cI a_levelBars 8 f_levelBars, oc a_p1 6 [.int i_p1_columns, .int i_p1_rows, .ref a_p1_weight, .ref a_p1_motif], ai cI a_p1_motif 64 f_p1_motif] (fun (u : (Nat → Int32) × (Nat → Int32)) => post u.1 u.2) (fun (u : (Nat → Int32) × (Nat → Int32)) => [oc a_this 4 [.int i_limit, .ref a_cost, .ref a_weightTo, .ref a_uprightBars, .ref a_levelBars], ai cI a_uprightBars 8 (u.1), ai cI a_levelBars 8 (u.2), oc a_p1 6 [.int i_p1_columns, .int i_p1_rows, .ref a_p1_weight, .ref a_p1_motif], ai cI a_p1_motif 64 f_p1_motif]) := by
  refine Cv.of ok_X4_findBarsOf (Nat.le_of_ble_eq_true rfl) ?_
  intro p e s m args below meth c A Q hx hb hml hown ht hnm hK hP hA hS hret ls hl
  have hown : s.vm.findClass RX4 = some m.cls := hown
  have FX : CallFix p m c cX4_findBarsOf 5 s args tblG RX4 := ⟨hx, hb, hml, hown, ht⟩
  have hP : PD D A [oc a_this 4 [.int i_limit, .ref a_cost, .ref a_weightTo, .ref a_uprightBars, .ref a_levelBars], ai cI a_uprightBars 8 f_uprightBars, ai cI a_levelBars 8 f_levelBars, oc a_p1 6 [.int i_p1_columns, .int i_p1_rows, .ref a_p1_weight, .ref a_p1_motif], ai cI a_p1_motif 64 f_p1_motif] s.heap := hP
  have hl : lv_has ls 5 [(0, .ref a_this), (1, .ref a_p1), (2, .int x2), (3, .int x3)] := hl
  unfold P_X4_findBarsOf at hV
  have b46 : ∀ (v4 : Int32) (f_uprightBars : Nat → Int32) (f_levelBars : Nat → Int32) (H : Heap) (locs : List Loc) (ls : Array Slot), PD D A [oc a_this 4 [.int i_limit, .ref a_cost, .ref a_weightTo, .ref a_uprightBars, .ref a_levelBars], ai cI a_uprightBars 8 f_uprightBars, ai cI a_levelBars 8 f_levelBars, oc a_p1 6 [.int i_p1_columns, .int i_p1_rows, .ref a_p1_weight, .ref a_p1_motif], ai cI a_p1_motif 64 f_p1_motif] H → va_S A s.heap H locs → lv_has ls 5 [(0, .ref a_this), (1, .ref a_p1), (2, .int x2), (3, .int x3), (4, .int v4)] → J_X4_findBarsOf_46 x2 x3 i_p1_columns i_p1_rows f_p1_motif post v4 f_uprightBars f_levelBars → W p l e rm_X4_findBarsOf s m args below meth c H locs 0 0 Q (F0 m 46 ls []) := by
    intro v4 f_uprightBars f_levelBars H locs ls hP hS hl hV
    unfold J_X4_findBarsOf_46 at hV
    refine lv_aload_n hx hb dX4_findBarsOf_46 rfl (lv_at hl 1 rfl) ?_
    refine lv_iload_n hx hb dX4_findBarsOf_47 rfl (lv_at hl 2 rfl) ?_
    refine lv_iload_n hx hb dX4_findBarsOf_48 rfl (lv_at hl 3 rfl) ?_
    refine lv_iconst (v := 1) hx hb dX4_findBarsOf_49 (by decide) ?_
    refine lv_iadd hx hb dX4_findBarsOf_50 ?_
    refine KVi (As := [.int x2, .int (x3 + 1)]) (rest := []) FX (c_X7_has l D cI cB cS a_p1 a_p1_weight a_p1_motif x2 (x3 + 1) i_p1_columns i_p1_rows _ hV) ok_X7_has im_X7_has se_X7_has li_X4_114 dX4_findBarsOf_51 hK hP hS hA [3] [0, 1, 2, 4] 3 rfl rfl rfl (by decide) rfl rfl hl.1 (Nat.le_of_ble_eq_true rfl) ⟨Nat.le_of_ble_eq_true rfl, Nat.le_of_ble_eq_true rfl⟩ ⟨Nat.le_of_ble_eq_true rfl, Nat.le_of_ble_eq_true rfl⟩ (fun r_1 _ H locs hV hP hS => ?_)
    have hP : PD D A [oc a_this 4 [.int i_limit, .ref a_cost, .ref a_weightTo, .ref a_uprightBars, .ref a_levelBars], ai cI a_uprightBars 8 f_uprightBars, ai cI a_levelBars 8 f_levelBars, ai cI a_p1_motif 64 f_p1_motif, oc a_p1 6 [.int i_p1_columns, .int i_p1_rows, .ref a_p1_weight, .ref a_p1_motif]] H := hP
    refine lv_if_eq (tgt := 85) hx hb dX4_findBarsOf_54 (by decide) (fun h => ?_) (fun h => ?_)
    · have hV := hV.1 h
      exact hret _ _ _ _ (f_uprightBars, f_levelBars) hS dX4_findBarsOf_85 (hP.sub [0, 1, 2, 4, 3] rfl rfl) hV
    · have hV := hV.2 h
      refine lv_aload_n hx hb dX4_findBarsOf_57 rfl (lv_at hl 1 rfl) ?_
      refine lv_iload hx hb dX4_findBarsOf_58 (lv_at hl 4 rfl) ?_
      refine lv_iload_n hx hb dX4_findBarsOf_60 rfl (lv_at hl 2 rfl) ?_
      refine lv_iload_n hx hb dX4_findBarsOf_61 rfl (lv_at hl 3 rfl) ?_
      refine lv_iconst (v := 1) hx hb dX4_findBarsOf_62 (by decide) ?_
      refine lv_iadd hx hb dX4_findBarsOf_63 ?_
      refine KNi (As := [.int x2, .int (x3 + 1)]) (rest := [.int v4, .ref a_p1]) FX (c_X9_place l D cI cB cS x2 (x3 + 1) _ hV) ok_X9_place is_X9_place nq_X4_97 dX4_findBarsOf_64 hK hP hS hA [] [0, 1, 2, 3, 4] rfl rfl (by decide) rfl hl.1 (Nat.le_of_ble_eq_true rfl) ⟨Nat.le_of_ble_eq_true rfl, Nat.le_of_ble_eq_true rfl⟩ ⟨Nat.le_of_ble_eq_true rfl, Nat.le_of_ble_eq_true rfl⟩ (fun r_2 _ H locs hV hP hS => ?_)
      have hP : PD D A [oc a_this 4 [.int i_limit, .ref a_cost, .ref a_weightTo, .ref a_uprightBars, .ref a_levelBars], ai cI a_uprightBars 8 f_uprightBars, ai cI a_levelBars 8 f_levelBars, ai cI a_p1_motif 64 f_p1_motif, oc a_p1 6 [.int i_p1_columns, .int i_p1_rows, .ref a_p1_weight, .ref a_p1_motif]] H := hP
      refine KVi (As := [.int v4, .int r_2]) (rest := []) FX (c_X7_isOneCarving l D cI cB cS a_p1 a_p1_motif a_p1_weight v4 r_2 i_p1_columns i_p1_rows f_p1_motif _ hV) ok_X7_isOneCarving im_X7_isOneCarving se_X7_isOneCarving li_X4_118 dX4_findBarsOf_67 hK hP hS hA [4, 3] [0, 1, 2] 4 rfl rfl rfl (by decide) rfl rfl hl.1 (Nat.le_of_ble_eq_true rfl) ⟨Nat.le_of_ble_eq_true rfl, Nat.le_of_ble_eq_true rfl⟩ ⟨Nat.le_of_ble_eq_true rfl, Nat.le_of_ble_eq_true rfl⟩ (fun r_3 _ H locs hV hP hS => ?_)
      have hP : PD D A [oc a_this 4 [.int i_limit, .ref a_cost, .ref a_weightTo, .ref a_uprightBars, .ref a_levelBars], ai cI a_uprightBars 8 f_uprightBars, ai cI a_levelBars 8 f_levelBars, oc a_p1 6 [.int i_p1_columns, .int i_p1_rows, .ref a_p1_weight, .ref a_p1_motif], ai cI a_p1_motif 64 f_p1_motif] H := hP
      refine lv_if_eq (tgt := 85) hx hb dX4_findBarsOf_70 (by decide) (fun h => ?_) (fun h => ?_)
      · have hV := hV.1 h
        exact hret _ _ _ _ (f_uprightBars, f_levelBars) hS dX4_findBarsOf_85 hP hV
      · have hV := hV.2 h
        refine lv_aload_n hx hb dX4_findBarsOf_73 rfl (lv_at hl 0 rfl) ?_
        refine gX4 hx hb ht hown hK hP 0 rfl 4 (by decide) fl_X4_21 (fun _ h => h) rfl dX4_findBarsOf_74 ?_
        refine lv_iload_n hx hb dX4_findBarsOf_77 rfl (lv_at hl 3 rfl) ?_
        refine lv_dup2_11 hx hb dX4_findBarsOf_78 rfl rfl ?_
        refine ild hx hb hK hP 2 rfl dX4_findBarsOf_79 hV.1 ?_
        have hV := hV.2
        refine lv_iconst (v := 1) hx hb dX4_findBarsOf_80 (by decide) ?_
        refine lv_iload_n hx hb dX4_findBarsOf_81 rfl (lv_at hl 2 rfl) ?_
        refine lv_ishl hx hb dX4_findBarsOf_82 ?_
        refine lv_ior hx hb dX4_findBarsOf_83 ?_
        refine ist hx hb hK hP hS 2 rfl dX4_findBarsOf_84 hV.1 (fun f_levelBars_4 e_f_levelBars_4 H locs hP hS => ?_)
        have hV := hV.2 f_levelBars_4 e_f_levelBars_4
        have hP : PD D A [oc a_this 4 [.int i_limit, .ref a_cost, .ref a_weightTo, .ref a_uprightBars, .ref a_levelBars], ai cI a_uprightBars 8 f_uprightBars, ai cI a_levelBars 8 f_levelBars_4, oc a_p1 6 [.int i_p1_columns, .int i_p1_rows, .ref a_p1_weight, .ref a_p1_motif], ai cI a_p1_motif 64 f_p1_motif] H := hP
        exact hret _ _ _ _ (f_uprightBars, f_levelBars_4) hS dX4_findBarsOf_85 hP hV
  refine lv_iload_n hx hb dX4_findBarsOf_0 rfl (lv_at hl 2 rfl) ?_
  refine lv_iload_n hx hb dX4_findBarsOf_1 rfl (lv_at hl 3 rfl) ?_
  refine KNi (As := [.int x2, .int x3]) (rest := []) FX (c_X9_place l D cI cB cS x2 x3 _ hV) ok_X9_place is_X9_place nq_X4_97 dX4_findBarsOf_2 hK hP hS hA [] [0, 1, 2, 3, 4] rfl rfl (by decide) rfl hl.1 (Nat.le_of_ble_eq_true rfl) ⟨Nat.le_of_ble_eq_true rfl, Nat.le_of_ble_eq_true rfl⟩ ⟨Nat.le_of_ble_eq_true rfl, Nat.le_of_ble_eq_true rfl⟩ (fun r_5 _ H locs hV hP hS => ?_)
  have hP : PD D A [oc a_this 4 [.int i_limit, .ref a_cost, .ref a_weightTo, .ref a_uprightBars, .ref a_levelBars], ai cI a_uprightBars 8 f_uprightBars, ai cI a_levelBars 8 f_levelBars, oc a_p1 6 [.int i_p1_columns, .int i_p1_rows, .ref a_p1_weight, .ref a_p1_motif], ai cI a_p1_motif 64 f_p1_motif] H := hP
  refine lv_istore (lv' := [(4, .int r_5), (0, .ref a_this), (1, .ref a_p1), (2, .int x2), (3, .int x3)]) hx hb dX4_findBarsOf_5 hl (by decide) rfl (fun ls hl => ?_)
  refine lv_aload_n hx hb dX4_findBarsOf_7 rfl (lv_at hl 2 rfl) ?_
  refine lv_iload_n hx hb dX4_findBarsOf_8 rfl (lv_at hl 3 rfl) ?_
  refine lv_iconst (v := 1) hx hb dX4_findBarsOf_9 (by decide) ?_
  refine lv_iadd hx hb dX4_findBarsOf_10 ?_
  refine lv_iload_n hx hb dX4_findBarsOf_11 rfl (lv_at hl 4 rfl) ?_
  refine KVi (As := [.int (x2 + 1), .int x3]) (rest := []) FX (c_X7_has l D cI cB cS a_p1 a_p1_weight a_p1_motif (x2 + 1) x3 i_p1_columns i_p1_rows _ hV) ok_X7_has im_X7_has se_X7_has li_X4_114 dX4_findBarsOf_12 hK hP hS hA [3] [0, 1, 2, 4] 3 rfl rfl rfl (by decide) rfl rfl hl.1 (Nat.le_of_ble_eq_true rfl) ⟨Nat.le_of_ble_eq_true rfl, Nat.le_of_ble_eq_true rfl⟩ ⟨Nat.le_of_ble_eq_true rfl, Nat.le_of_ble_eq_true rfl⟩ (fun r_6 _ H locs hV hP hS => ?_)
  have hP : PD D A [oc a_this 4 [.int i_limit, .ref a_cost, .ref a_weightTo, .ref a_uprightBars, .ref a_levelBars], ai cI a_uprightBars 8 f_uprightBars, ai cI a_levelBars 8 f_levelBars, ai cI a_p1_motif 64 f_p1_motif, oc a_p1 6 [.int i_p1_columns, .int i_p1_rows, .ref a_p1_weight, .ref a_p1_motif]] H := hP
  refine lv_if_eq (tgt := 46) hx hb dX4_findBarsOf_15 (by decide) (fun h => ?_) (fun h => ?_)
  · have hV := hV.1 h
    exact b46 r_5 f_uprightBars f_levelBars _ _ _ (hP.sub [0, 1, 2, 4, 3] rfl rfl) hS (lv_sub hl [1, 2, 3, 4, 0] rfl) hV
  · have hV := hV.2 h
    refine lv_aload_n hx hb dX4_findBarsOf_18 rfl (lv_at hl 2 rfl) ?_
    refine lv_iload hx hb dX4_findBarsOf_19 (lv_at hl 0 rfl) ?_
    refine lv_iload_n hx hb dX4_findBarsOf_21 rfl (lv_at hl 3 rfl) ?_
    refine lv_iconst (v := 1) hx hb dX4_findBarsOf_22 (by decide) ?_
    refine lv_iadd hx hb dX4_findBarsOf_23 ?_
    refine lv_iload_n hx hb dX4_findBarsOf_24 rfl (lv_at hl 4 rfl) ?_
    refine KNi (As := [.int (x2 + 1), .int x3]) (rest := [.int r_5, .ref a_p1]) FX (c_X9_place l D cI cB cS (x2 + 1) x3 _ hV) ok_X9_place is_X9_place nq_X4_97 dX4_findBarsOf_25 hK hP hS hA [] [0, 1, 2, 3, 4] rfl rfl (by decide) rfl hl.1 (Nat.le_of_ble_eq_true rfl) ⟨Nat.le_of_ble_eq_true rfl, Nat.le_of_ble_eq_true rfl⟩ ⟨Nat.le_of_ble_eq_true rfl, Nat.le_of_ble_eq_true rfl⟩ (fun r_7 _ H locs hV hP hS => ?_)
    have hP : PD D A [oc a_this 4 [.int i_limit, .ref a_cost, .ref a_weightTo, .ref a_uprightBars, .ref a_levelBars], ai cI a_uprightBars 8 f_uprightBars, ai cI a_levelBars 8 f_levelBars, ai cI a_p1_motif 64 f_p1_motif, oc a_p1 6 [.int i_p1_columns, .int i_p1_rows, .ref a_p1_weight, .ref a_p1_motif]] H := hP
    refine KVi (As := [.int r_5, .int r_7]) (rest := []) FX (c_X7_isOneCarving l D cI cB cS a_p1 a_p1_motif a_p1_weight r_5 r_7 i_p1_columns i_p1_rows f_p1_motif _ hV) ok_X7_isOneCarving im_X7_isOneCarving se_X7_isOneCarving li_X4_118 dX4_findBarsOf_28 hK hP hS hA [4, 3] [0, 1, 2] 4 rfl rfl rfl (by decide) rfl rfl hl.1 (Nat.le_of_ble_eq_true rfl) ⟨Nat.le_of_ble_eq_true rfl, Nat.le_of_ble_eq_true rfl⟩ ⟨Nat.le_of_ble_eq_true rfl, Nat.le_of_ble_eq_true rfl⟩ (fun r_8 _ H locs hV hP hS => ?_)
    have hP : PD D A [oc a_this 4 [.int i_limit, .ref a_cost, .ref a_weightTo, .ref a_uprightBars, .ref a_levelBars], ai cI a_uprightBars 8 f_uprightBars, ai cI a_levelBars 8 f_levelBars, oc a_p1 6 [.int i_p1_columns, .int i_p1_rows, .ref a_p1_weight, .ref a_p1_motif], ai cI a_p1_motif 64 f_p1_motif] H := hP
    refine lv_if_eq (tgt := 46) hx hb dX4_findBarsOf_31 (by decide) (fun h => ?_) (fun h => ?_)
    · have hV := hV.1 h
      exact b46 r_5 f_uprightBars f_levelBars _ _ _ hP hS (lv_sub hl [1, 2, 3, 4, 0] rfl) hV
    · have hV := hV.2 h
      refine lv_aload_n hx hb dX4_findBarsOf_34 rfl (lv_at hl 1 rfl) ?_
      refine gX4 hx hb ht hown hK hP 0 rfl 3 (by decide) fl_X4_18 (fun _ h => h) rfl dX4_findBarsOf_35 ?_
      refine lv_iload_n hx hb dX4_findBarsOf_38 rfl (lv_at hl 3 rfl) ?_
      refine lv_dup2_11 hx hb dX4_findBarsOf_39 rfl rfl ?_
      refine ild hx hb hK hP 1 rfl dX4_findBarsOf_40 hV.1 ?_
      have hV := hV.2
      refine lv_iconst (v := 1) hx hb dX4_findBarsOf_41 (by decide) ?_
      refine lv_iload_n hx hb dX4_findBarsOf_42 rfl (lv_at hl 4 rfl) ?_
      refine lv_ishl hx hb dX4_findBarsOf_43 ?_
      refine lv_ior hx hb dX4_findBarsOf_44 ?_
      refine ist hx hb hK hP hS 1 rfl dX4_findBarsOf_45 hV.1 (fun f_uprightBars_9 e_f_uprightBars_9 H locs hP hS => ?_)
      have hV := hV.2 f_uprightBars_9 e_f_uprightBars_9
      have hP : PD D A [oc a_this 4 [.int i_limit, .ref a_cost, .ref a_weightTo, .ref a_uprightBars, .ref a_levelBars], ai cI a_uprightBars 8 f_uprightBars_9, ai cI a_levelBars 8 f_levelBars, oc a_p1 6 [.int i_p1_columns, .int i_p1_rows, .ref a_p1_weight, .ref a_p1_motif], ai cI a_p1_motif 64 f_p1_motif] H := hP
      exact b46 r_5 f_uprightBars_9 f_levelBars _ _ _ hP hS (lv_sub hl [1, 2, 3, 4, 0] rfl) hV

def rm_X4_findBars : Room := { frames := 3, cells := 0, slots := 0, locals := 68 }
def V_X4_findBars_28 (v2 : Int32) (i_p1_columns : Int32) (i_p1_rows : Int32) (f_p1_motif : Nat → Int32) (K_18 : Int32 → (Nat → Int32) → (Nat → Int32) → Prop) : Nat → Int32 → (Nat → Int32) → (Nat → Int32) → Prop
  | 0, _, _, _ => False
  | n + 1, v3, f_uprightBars, f_levelBars => ((i_p1_columns ≤ v3 → (∀ v2_1 : Int32, v2_1 = (v2 + 1) → K_18 v2_1 f_uprightBars f_levelBars)) ∧ (¬ i_p1_columns ≤ v3 → P_X4_findBarsOf v3 v2 f_uprightBars f_levelBars i_p1_columns i_p1_rows f_p1_motif (fun f_uprightBars_2 f_levelBars_3 => (∀ v3_4 : Int32, v3_4 = (v3 + 1) → V_X4_findBars_28 v2 i_p1_columns i_p1_rows f_p1_motif K_18 n v3_4 f_uprightBars_2 f_levelBars_3))))
theorem V_X4_findBars_28_s (v2 : Int32) (i_p1_columns : Int32) (i_p1_rows : Int32) (f_p1_motif : Nat → Int32) (K_18 : Int32 → (Nat → Int32) → (Nat → Int32) → Prop) (n : Nat) (v3 : Int32) (f_uprightBars : Nat → Int32) (f_levelBars : Nat → Int32) : V_X4_findBars_28 v2 i_p1_columns i_p1_rows f_p1_motif K_18 (n + 1) v3 f_uprightBars f_levelBars = (((i_p1_columns ≤ v3 → (∀ v2_1 : Int32, v2_1 = (v2 + 1) → K_18 v2_1 f_uprightBars f_levelBars)) ∧ (¬ i_p1_columns ≤ v3 → P_X4_findBarsOf v3 v2 f_uprightBars f_levelBars i_p1_columns i_p1_rows f_p1_motif (fun f_uprightBars_2 f_levelBars_3 => (∀ v3_4 : Int32, v3_4 = (v3 + 1) → V_X4_findBars_28 v2 i_p1_columns i_p1_rows f_p1_motif K_18 n v3_4 f_uprightBars_2 f_levelBars_3))))) := rfl
def V_X4_findBars_18 (i_p1_columns : Int32) (i_p1_rows : Int32) (f_p1_motif : Nat → Int32) (post : (Nat → Int32) → (Nat → Int32) → Prop) : Nat → Int32 → (Nat → Int32) → (Nat → Int32) → Prop
  | 0, _, _, _ => False
  | n + 1, v2, f_uprightBars, f_levelBars => ((i_p1_rows ≤ v2 → post f_uprightBars f_levelBars) ∧ (¬ i_p1_rows ≤ v2 → (∃ k : Nat, V_X4_findBars_28 v2 i_p1_columns i_p1_rows f_p1_motif (V_X4_findBars_18 i_p1_columns i_p1_rows f_p1_motif post n) k 0 f_uprightBars f_levelBars)))
theorem V_X4_findBars_18_s (i_p1_columns : Int32) (i_p1_rows : Int32) (f_p1_motif : Nat → Int32) (post : (Nat → Int32) → (Nat → Int32) → Prop) (n : Nat) (v2 : Int32) (f_uprightBars : Nat → Int32) (f_levelBars : Nat → Int32) : V_X4_findBars_18 i_p1_columns i_p1_rows f_p1_motif post (n + 1) v2 f_uprightBars f_levelBars = (((i_p1_rows ≤ v2 → post f_uprightBars f_levelBars) ∧ (¬ i_p1_rows ≤ v2 → (∃ k : Nat, V_X4_findBars_28 v2 i_p1_columns i_p1_rows f_p1_motif (V_X4_findBars_18 i_p1_columns i_p1_rows f_p1_motif post n) k 0 f_uprightBars f_levelBars)))) := rfl
def P_X4_findBars (f_uprightBars : Nat → Int32) (f_levelBars : Nat → Int32) (i_p1_columns : Int32) (i_p1_rows : Int32) (f_p1_motif : Nat → Int32) (post : (Nat → Int32) → (Nat → Int32) → Prop) : Prop := P_J7_fill_53178 8 0 f_uprightBars (fun f_uprightBars_5 => P_J7_fill_53178 8 0 f_levelBars (fun f_levelBars_6 => (∃ k : Nat, V_X4_findBars_18 i_p1_columns i_p1_rows f_p1_motif post k 0 f_uprightBars_5 f_levelBars_6)))
set_option maxRecDepth 100000 in
set_option maxHeartbeats 4000000 in
theorem c_X4_findBars (l : Launch) (D : va_G) (cI cB cS : ClassId) (a_this a_uprightBars a_levelBars a_p1 a_p1_motif a_cost a_weightTo a_p1_weight : Nat) (i_limit : Int32) (f_uprightBars : Nat → Int32) (f_levelBars : Nat → Int32) (i_p1_columns : Int32) (i_p1_rows : Int32) (f_p1_motif : Nat → Int32) (post : (Nat → Int32) → (Nat → Int32) → Prop) (hV : P_X4_findBars f_uprightBars f_levelBars i_p1_columns i_p1_rows f_p1_motif post) : Cv l yX4_findBars cX4_findBars 4 none rm_X4_findBars D cI cB cS [.ref a_this, .ref a_p1] [oc a_this 4 [.int i_limit, .ref a_cost, .ref a_weightTo, .ref a_uprightBars, .ref a_levelBars], ai cI a_uprightBars 8 f_uprightBars, ai cI a_levelBars 8 f_levelBars, oc a_p1 6 [.int i_p1_columns, .int i_p1_rows, .ref a_p1_weight, .ref a_p1_motif], ai cI a_p1_motif 64 f_p1_motif] (fun (u : (Nat → Int32) × (Nat → Int32)) => post u.1 u.2) (fun (u : (Nat → Int32) × (Nat → Int32)) => [oc a_this 4 [.int i_limit, .ref a_cost, .ref a_weightTo, .ref a_uprightBars, .ref a_levelBars], ai cI a_uprightBars 8 (u.1), ai cI a_levelBars 8 (u.2), oc a_p1 6 [.int i_p1_columns, .int i_p1_rows, .ref a_p1_weight, .ref a_p1_motif], ai cI a_p1_motif 64 f_p1_motif]) := by
  refine Cv.of ok_X4_findBars (Nat.le_of_ble_eq_true rfl) ?_
  intro p e s m args below meth c A Q hx hb hml hown ht hnm hK hP hA hS hret ls hl
  have hown : s.vm.findClass RX4 = some m.cls := hown
  have FX : CallFix p m c cX4_findBars 4 s args tblG RX4 := ⟨hx, hb, hml, hown, ht⟩
  have hP : PD D A [oc a_this 4 [.int i_limit, .ref a_cost, .ref a_weightTo, .ref a_uprightBars, .ref a_levelBars], ai cI a_uprightBars 8 f_uprightBars, ai cI a_levelBars 8 f_levelBars, oc a_p1 6 [.int i_p1_columns, .int i_p1_rows, .ref a_p1_weight, .ref a_p1_motif], ai cI a_p1_motif 64 f_p1_motif] s.heap := hP
  have hl : lv_has ls 4 [(0, .ref a_this), (1, .ref a_p1)] := hl
  unfold P_X4_findBars at hV
  have b18 : ∀  (k18 : Nat) (v2 : Int32) (f_uprightBars : Nat → Int32) (f_levelBars : Nat → Int32) (H : Heap) (locs : List Loc) (ls : Array Slot), PD D A [oc a_this 4 [.int i_limit, .ref a_cost, .ref a_weightTo, .ref a_uprightBars, .ref a_levelBars], ai cI a_uprightBars 8 f_uprightBars, ai cI a_levelBars 8 f_levelBars, oc a_p1 6 [.int i_p1_columns, .int i_p1_rows, .ref a_p1_weight, .ref a_p1_motif], ai cI a_p1_motif 64 f_p1_motif] H → va_S A s.heap H locs → lv_has ls 4 [(0, .ref a_this), (1, .ref a_p1), (2, .int v2)] → V_X4_findBars_18 i_p1_columns i_p1_rows f_p1_motif post k18 v2 f_uprightBars f_levelBars → W p l e rm_X4_findBars s m args below meth c H locs 0 0 Q (F0 m 18 ls []) := by
    intro  k18
    induction k18 with
    | zero => intro v2 f_uprightBars f_levelBars H locs ls hP hS hl hV; exact False.elim hV
    | succ k18 ih18 =>
      intro v2 f_uprightBars f_levelBars H locs ls hP hS hl hV
      rw [V_X4_findBars_18_s] at hV
      have b28 : ∀ (v2 : Int32) (k28 : Nat) (v3 : Int32) (f_uprightBars : Nat → Int32) (f_levelBars : Nat → Int32) (H : Heap) (locs : List Loc) (ls : Array Slot), PD D A [oc a_this 4 [.int i_limit, .ref a_cost, .ref a_weightTo, .ref a_uprightBars, .ref a_levelBars], ai cI a_uprightBars 8 f_uprightBars, ai cI a_levelBars 8 f_levelBars, oc a_p1 6 [.int i_p1_columns, .int i_p1_rows, .ref a_p1_weight, .ref a_p1_motif], ai cI a_p1_motif 64 f_p1_motif] H → va_S A s.heap H locs → lv_has ls 4 [(0, .ref a_this), (1, .ref a_p1), (2, .int v2), (3, .int v3)] → V_X4_findBars_28 v2 i_p1_columns i_p1_rows f_p1_motif (V_X4_findBars_18 i_p1_columns i_p1_rows f_p1_motif post k18) k28 v3 f_uprightBars f_levelBars → W p l e rm_X4_findBars s m args below meth c H locs 0 0 Q (F0 m 28 ls []) := by
        intro v2 k28
        induction k28 with
        | zero => intro v3 f_uprightBars f_levelBars H locs ls hP hS hl hV; exact False.elim hV
        | succ k28 ih28 =>
          intro v3 f_uprightBars f_levelBars H locs ls hP hS hl hV
          rw [V_X4_findBars_28_s] at hV
          refine lv_iload_n hx hb dX4_findBars_28 rfl (lv_at hl 3 rfl) ?_
          refine lv_aload_n hx hb dX4_findBars_29 rfl (lv_at hl 1 rfl) ?_
          refine gX7 hx hb ht hown hK hP 3 rfl 0 (by decide) fl_X4_35 (fun _ h => h) rfl dX4_findBars_30 ?_
          refine lv_icmp_ge (tgt := 49) hx hb dX4_findBars_33 (by decide) (fun h => ?_) (fun h => ?_)
          · have hV := hV.1 h
            obtain ⟨v2_1, e_v2_1⟩ : ∃ y : Int32, y = (v2 + 1) := ⟨_, rfl⟩
            have hV := hV v2_1 e_v2_1
            refine lv_iinc (v := v2_1) (lv' := [(2, .int v2_1), (0, .ref a_this), (1, .ref a_p1), (3, .int v3)]) hx hb dX4_findBars_49 hl (k := 2) rfl (by rw [e_v2_1]; rfl) (by decide) rfl (fun ls hl => ?_)
            refine lv_goto (tgt := 18) hx hb dX4_findBars_52 (by decide) ?_
            exact ih18 v2_1 f_uprightBars f_levelBars _ _ _ hP hS (lv_sub hl [1, 2, 0] rfl) hV
          · have hV := hV.2 h
            refine lv_aload_n hx hb dX4_findBars_36 rfl (lv_at hl 0 rfl) ?_
            refine lv_aload_n hx hb dX4_findBars_37 rfl (lv_at hl 1 rfl) ?_
            refine lv_iload_n hx hb dX4_findBars_38 rfl (lv_at hl 3 rfl) ?_
            refine lv_iload_n hx hb dX4_findBars_39 rfl (lv_at hl 2 rfl) ?_
            refine KVv (As := [.ref a_p1, .int v3, .int v2]) (rest := []) FX (c_X4_findBarsOf l D cI cB cS a_this a_uprightBars a_levelBars a_p1 a_p1_motif a_cost a_weightTo a_p1_weight v3 v2 i_limit f_uprightBars f_levelBars i_p1_columns i_p1_rows f_p1_motif _ hV) ok_X4_findBarsOf im_X4_findBarsOf se_X4_findBarsOf li_X4_110 dX4_findBars_40 hK hP hS hA [0, 1, 2, 3, 4] [] 0 rfl rfl rfl (by decide) rfl rfl hl.1 (Nat.le_of_ble_eq_true rfl) ⟨Nat.le_of_ble_eq_true rfl, Nat.le_of_ble_eq_true rfl⟩ ⟨Nat.le_of_ble_eq_true rfl, Nat.le_of_ble_eq_true rfl⟩ (fun u H locs hV hP hS => ?_)
            obtain ⟨f_uprightBars_2, f_levelBars_3⟩ := u
            try dsimp only at hV
            have hP : PD D A [oc a_this 4 [.int i_limit, .ref a_cost, .ref a_weightTo, .ref a_uprightBars, .ref a_levelBars], ai cI a_uprightBars 8 f_uprightBars_2, ai cI a_levelBars 8 f_levelBars_3, oc a_p1 6 [.int i_p1_columns, .int i_p1_rows, .ref a_p1_weight, .ref a_p1_motif], ai cI a_p1_motif 64 f_p1_motif] H := hP
            obtain ⟨v3_4, e_v3_4⟩ : ∃ y : Int32, y = (v3 + 1) := ⟨_, rfl⟩
            have hV := hV v3_4 e_v3_4
            refine lv_iinc (v := v3_4) (lv' := [(3, .int v3_4), (0, .ref a_this), (1, .ref a_p1), (2, .int v2)]) hx hb dX4_findBars_43 hl (k := 3) rfl (by rw [e_v3_4]; rfl) (by decide) rfl (fun ls hl => ?_)
            refine lv_goto (tgt := 28) hx hb dX4_findBars_46 (by decide) ?_
            exact ih28 v3_4 f_uprightBars_2 f_levelBars_3 _ _ _ hP hS (lv_sub hl [1, 2, 3, 0] rfl) hV
      refine lv_iload_n hx hb dX4_findBars_18 rfl (lv_at hl 2 rfl) ?_
      refine lv_aload_n hx hb dX4_findBars_19 rfl (lv_at hl 1 rfl) ?_
      refine gX7 hx hb ht hown hK hP 3 rfl 1 (by decide) fl_X4_40 (fun _ h => h) rfl dX4_findBars_20 ?_
      refine lv_icmp_ge (tgt := 55) hx hb dX4_findBars_23 (by decide) (fun h => ?_) (fun h => ?_)
      · have hV := hV.1 h
        exact hret _ _ _ _ (f_uprightBars, f_levelBars) hS dX4_findBars_55 hP hV
      · have hV := hV.2 h
        refine lv_iconst (v := 0) hx hb dX4_findBars_26 (by decide) ?_
        refine lv_istore_n (lv' := [(3, .int 0), (0, .ref a_this), (1, .ref a_p1), (2, .int v2)]) hx hb dX4_findBars_27 rfl hl (by decide) rfl (fun ls hl => ?_)
        obtain ⟨k, hV⟩ := hV
        exact b28 v2 k 0 f_uprightBars f_levelBars _ _ _ hP hS (lv_sub hl [1, 2, 3, 0] rfl) hV
  refine lv_aload_n hx hb dX4_findBars_0 rfl (lv_at hl 0 rfl) ?_
  refine gX4 hx hb ht hown hK hP 0 rfl 3 (by decide) fl_X4_18 (fun _ h => h) rfl dX4_findBars_1 ?_
  refine lv_iconst (v := 0) hx hb dX4_findBars_4 (by decide) ?_
  refine KSv (As := [.ref a_uprightBars, .int 0]) (rest := []) FX (c_J7_fill_53178 l D cI cB cS a_uprightBars 8 0 f_uprightBars _ hV) ok_J7_fill_53178 is_J7_fill_53178 li_X4_104 dX4_findBars_5 hK hP hS hA [1] [0, 2, 3, 4] rfl rfl (by decide) rfl hl.1 (Nat.le_of_ble_eq_true rfl) ⟨Nat.le_of_ble_eq_true rfl, Nat.le_of_ble_eq_true rfl⟩ ⟨Nat.le_of_ble_eq_true rfl, Nat.le_of_ble_eq_true rfl⟩ (fun f_uprightBars_5 H locs hV hP hS => ?_)
  have hP : PD D A [oc a_this 4 [.int i_limit, .ref a_cost, .ref a_weightTo, .ref a_uprightBars, .ref a_levelBars], ai cI a_levelBars 8 f_levelBars, oc a_p1 6 [.int i_p1_columns, .int i_p1_rows, .ref a_p1_weight, .ref a_p1_motif], ai cI a_p1_motif 64 f_p1_motif, ai cI a_uprightBars 8 f_uprightBars_5] H := hP
  refine lv_aload_n hx hb dX4_findBars_8 rfl (lv_at hl 0 rfl) ?_
  refine gX4 hx hb ht hown hK hP 0 rfl 4 (by decide) fl_X4_21 (fun _ h => h) rfl dX4_findBars_9 ?_
  refine lv_iconst (v := 0) hx hb dX4_findBars_12 (by decide) ?_
  refine KSv (As := [.ref a_levelBars, .int 0]) (rest := []) FX (c_J7_fill_53178 l D cI cB cS a_levelBars 8 0 f_levelBars _ hV) ok_J7_fill_53178 is_J7_fill_53178 li_X4_104 dX4_findBars_13 hK hP hS hA [1] [0, 2, 3, 4] rfl rfl (by decide) rfl hl.1 (Nat.le_of_ble_eq_true rfl) ⟨Nat.le_of_ble_eq_true rfl, Nat.le_of_ble_eq_true rfl⟩ ⟨Nat.le_of_ble_eq_true rfl, Nat.le_of_ble_eq_true rfl⟩ (fun f_levelBars_6 H locs hV hP hS => ?_)
  have hP : PD D A [oc a_this 4 [.int i_limit, .ref a_cost, .ref a_weightTo, .ref a_uprightBars, .ref a_levelBars], oc a_p1 6 [.int i_p1_columns, .int i_p1_rows, .ref a_p1_weight, .ref a_p1_motif], ai cI a_p1_motif 64 f_p1_motif, ai cI a_uprightBars 8 f_uprightBars_5, ai cI a_levelBars 8 f_levelBars_6] H := hP
  refine lv_iconst (v := 0) hx hb dX4_findBars_16 (by decide) ?_
  refine lv_istore_n (lv' := [(2, .int 0), (0, .ref a_this), (1, .ref a_p1)]) hx hb dX4_findBars_17 rfl hl (by decide) rfl (fun ls hl => ?_)
  obtain ⟨k, hV⟩ := hV
  exact b18 k 0 f_uprightBars_5 f_levelBars_6 _ _ _ (hP.sub [0, 3, 4, 1, 2] rfl rfl) hS (lv_sub hl [1, 2, 0] rfl) hV

def rm_X4_isBarred : Room := { frames := 0, cells := 0, slots := 0, locals := 0 }
def P_X4_isBarred (x0 : Int32) (x1 : Int32) (x2 : Int32) (post : Int32 → Prop) : Prop := ((((x0 >>> (x1 &&& 31)) &&& ((1 <<< (((x2 - x1) + 1) &&& 31)) - 1)) = 0 → post 0) ∧ (¬ ((x0 >>> (x1 &&& 31)) &&& ((1 <<< (((x2 - x1) + 1) &&& 31)) - 1)) = 0 → post 1))
set_option maxRecDepth 100000 in
set_option maxHeartbeats 4000000 in
theorem c_X4_isBarred (l : Launch) (D : va_G) (cI cB cS : ClassId) (x0 : Int32) (x1 : Int32) (x2 : Int32) (post : Int32 → Prop) (hV : P_X4_isBarred x0 x1 x2 post) : Ci l yX4_isBarred cX4_isBarred 3 (some .boolean) rm_X4_isBarred D cI cB cS [.int x0, .int x1, .int x2] [] (fun r (_ : Unit) => post r) (fun (_ : Unit) => []) := by
  refine Cz.of ok_X4_isBarred (Nat.le_of_ble_eq_true rfl) ?_
  intro p e s m args below meth c A Q hx hb hml hown ht hnm hK hP hA hS hret ls hl
  have hown : s.vm.findClass RX4 = some m.cls := hown
  have FX : CallFix p m c cX4_isBarred 3 s args tblG RX4 := ⟨hx, hb, hml, hown, ht⟩
  have hP : PD D A [] s.heap := hP
  have hl : lv_has ls 3 [(0, .int x0), (1, .int x1), (2, .int x2)] := hl
  unfold P_X4_isBarred at hV
  refine lv_iload_n hx hb dX4_isBarred_0 rfl (lv_at hl 0 rfl) ?_
  refine lv_iload_n hx hb dX4_isBarred_1 rfl (lv_at hl 1 rfl) ?_
  refine lv_ishr hx hb dX4_isBarred_2 ?_
  refine lv_iconst (v := 1) hx hb dX4_isBarred_3 (by decide) ?_
  refine lv_iload_n hx hb dX4_isBarred_4 rfl (lv_at hl 2 rfl) ?_
  refine lv_iload_n hx hb dX4_isBarred_5 rfl (lv_at hl 1 rfl) ?_
  refine lv_isub hx hb dX4_isBarred_6 ?_
  refine lv_iconst (v := 1) hx hb dX4_isBarred_7 (by decide) ?_
  refine lv_iadd hx hb dX4_isBarred_8 ?_
  refine lv_ishl hx hb dX4_isBarred_9 ?_
  refine lv_iconst (v := 1) hx hb dX4_isBarred_10 (by decide) ?_
  refine lv_isub hx hb dX4_isBarred_11 ?_
  refine lv_iand hx hb dX4_isBarred_12 ?_
  refine lv_if_eq (tgt := 20) hx hb dX4_isBarred_13 (by decide) (fun h => ?_) (fun h => ?_)
  · have hV := hV.1 h
    refine lv_iconst (v := 0) hx hb dX4_isBarred_20 (by decide) ?_
    exact hret _ _ _ _ _ () hS dX4_isBarred_21 hP (by decide) hV
  · have hV := hV.2 h
    refine lv_iconst (v := 1) hx hb dX4_isBarred_16 (by decide) ?_
    refine lv_goto (tgt := 21) hx hb dX4_isBarred_17 (by decide) ?_
    exact hret _ _ _ _ _ () hS dX4_isBarred_21 hP (by decide) hV

def rm_X4_span : Room := { frames := 0, cells := 0, slots := 0, locals := 0 }
def P_X4_span (x0 : Int32) (x1 : Int32) (post : Int32 → Prop) : Prop := post (((x1 * (x1 + 1)) / 2) + x0)
set_option maxRecDepth 100000 in
set_option maxHeartbeats 4000000 in
theorem c_X4_span (l : Launch) (D : va_G) (cI cB cS : ClassId) (x0 : Int32) (x1 : Int32) (post : Int32 → Prop) (hV : P_X4_span x0 x1 post) : Ci l yX4_span cX4_span 2 (some .int) rm_X4_span D cI cB cS [.int x0, .int x1] [] (fun r (_ : Unit) => post r) (fun (_ : Unit) => []) := by
  refine Ci.of ok_X4_span (Nat.le_of_ble_eq_true rfl) ?_
  intro p e s m args below meth c A Q hx hb hml hown ht hnm hK hP hA hS hret ls hl
  have hown : s.vm.findClass RX4 = some m.cls := hown
  have FX : CallFix p m c cX4_span 2 s args tblG RX4 := ⟨hx, hb, hml, hown, ht⟩
  have hP : PD D A [] s.heap := hP
  have hl : lv_has ls 2 [(0, .int x0), (1, .int x1)] := hl
  unfold P_X4_span at hV
  refine lv_iload_n hx hb dX4_span_0 rfl (lv_at hl 1 rfl) ?_
  refine lv_iload_n hx hb dX4_span_1 rfl (lv_at hl 1 rfl) ?_
  refine lv_iconst (v := 1) hx hb dX4_span_2 (by decide) ?_
  refine lv_iadd hx hb dX4_span_3 ?_
  refine lv_imul hx hb dX4_span_4 ?_
  refine lv_iconst (v := 2) hx hb dX4_span_5 (by decide) ?_
  refine lv_idiv hx hb dX4_span_6 (by decide) ?_
  refine lv_iload_n hx hb dX4_span_7 rfl (lv_at hl 0 rfl) ?_
  refine lv_iadd hx hb dX4_span_8 ?_
  exact hret _ _ _ _ _ () hS dX4_span_9 hP hV

def rm_X4_part : Room := { frames := 1, cells := 0, slots := 0, locals := 21 }
def P_X4_part (x0 : Int32) (x1 : Int32) (x2 : Int32) (x3 : Int32) (post : Int32 → Prop) : Prop := P_X4_span x0 x1 (fun r_1 => P_X4_span x2 x3 (fun r_2 => post ((r_1 * 36) + r_2)))
set_option maxRecDepth 100000 in
set_option maxHeartbeats 4000000 in
theorem c_X4_part (l : Launch) (D : va_G) (cI cB cS : ClassId) (x0 : Int32) (x1 : Int32) (x2 : Int32) (x3 : Int32) (post : Int32 → Prop) (hV : P_X4_part x0 x1 x2 x3 post) : Ci l yX4_part cX4_part 4 (some .int) rm_X4_part D cI cB cS [.int x0, .int x1, .int x2, .int x3] [] (fun r (_ : Unit) => post r) (fun (_ : Unit) => []) := by
  refine Ci.of ok_X4_part (Nat.le_of_ble_eq_true rfl) ?_
  intro p e s m args below meth c A Q hx hb hml hown ht hnm hK hP hA hS hret ls hl
  have hown : s.vm.findClass RX4 = some m.cls := hown
  have FX : CallFix p m c cX4_part 4 s args tblG RX4 := ⟨hx, hb, hml, hown, ht⟩
  have hP : PD D A [] s.heap := hP
  have hl : lv_has ls 4 [(0, .int x0), (1, .int x1), (2, .int x2), (3, .int x3)] := hl
  unfold P_X4_part at hV
  refine lv_iload_n hx hb dX4_part_0 rfl (lv_at hl 0 rfl) ?_
  refine lv_iload_n hx hb dX4_part_1 rfl (lv_at hl 1 rfl) ?_
  refine KSi (As := [.int x0, .int x1]) (rest := []) FX (c_X4_span l D cI cB cS x0 x1 _ hV) ok_X4_span is_X4_span li_X4_136 dX4_part_2 hK hP hS hA [] [] rfl rfl (by decide) rfl hl.1 (Nat.le_of_ble_eq_true rfl) ⟨Nat.le_of_ble_eq_true rfl, Nat.le_of_ble_eq_true rfl⟩ ⟨Nat.le_of_ble_eq_true rfl, Nat.le_of_ble_eq_true rfl⟩ (fun r_1 _ H locs hV hP hS => ?_)
  have hP : PD D A [] H := hP
  refine lv_bipush (v := 36) hx hb dX4_part_5 (by decide) ?_
  refine lv_imul hx hb dX4_part_7 ?_
  refine lv_iload_n hx hb dX4_part_8 rfl (lv_at hl 2 rfl) ?_
  refine lv_iload_n hx hb dX4_part_9 rfl (lv_at hl 3 rfl) ?_
  refine KSi (As := [.int x2, .int x3]) (rest := [.int (r_1 * 36)]) FX (c_X4_span l D cI cB cS x2 x3 _ hV) ok_X4_span is_X4_span li_X4_136 dX4_part_10 hK hP hS hA [] [] rfl rfl (by decide) rfl hl.1 (Nat.le_of_ble_eq_true rfl) ⟨Nat.le_of_ble_eq_true rfl, Nat.le_of_ble_eq_true rfl⟩ ⟨Nat.le_of_ble_eq_true rfl, Nat.le_of_ble_eq_true rfl⟩ (fun r_2 _ H locs hV hP hS => ?_)
  have hP : PD D A [] H := hP
  refine lv_iadd hx hb dX4_part_13 ?_
  exact hret _ _ _ _ _ () hS dX4_part_14 hP hV

def rm_X4_levelCost : Room := { frames := 2, cells := 0, slots := 0, locals := 44 }
def P_X4_levelCost (x1 : Int32) (x2 : Int32) (x3 : Int32) (x4 : Int32) (x5 : Int32) (f_cost : Nat → Int32) (f_levelBars : Nat → Int32) (post : Int32 → Prop) : Prop := (vp_in x5 8 ∧ P_X4_isBarred (f_levelBars x5.toNatClampNeg) x1 x2 (fun r_1 => ((r_1 = 0 → P_X4_part x1 x2 x3 x5 (fun r_2 => (vp_in r_2 1296 ∧ P_X4_part x1 x2 (x5 + 1) x4 (fun r_3 => (vp_in r_3 1296 ∧ post (((((f_cost r_2.toNatClampNeg) + (f_cost r_3.toNatClampNeg)) + x2) - x1) + 1)))))) ∧ (¬ r_1 = 0 → post 1048576))))
set_option maxRecDepth 100000 in
set_option maxHeartbeats 4000000 in
theorem c_X4_levelCost (l : Launch) (D : va_G) (cI cB cS : ClassId) (a_this a_cost a_levelBars a_weightTo a_uprightBars : Nat) (x1 : Int32) (x2 : Int32) (x3 : Int32) (x4 : Int32) (x5 : Int32) (i_limit : Int32) (f_cost : Nat → Int32) (f_levelBars : Nat → Int32) (post : Int32 → Prop) (hV : P_X4_levelCost x1 x2 x3 x4 x5 f_cost f_levelBars post) : Ci l yX4_levelCost cX4_levelCost 6 (some .int) rm_X4_levelCost D cI cB cS [.ref a_this, .int x1, .int x2, .int x3, .int x4, .int x5] [oc a_this 4 [.int i_limit, .ref a_cost, .ref a_weightTo, .ref a_uprightBars, .ref a_levelBars], ai cI a_cost 1296 f_cost, ai cI a_levelBars 8 f_levelBars] (fun r (_ : Unit) => post r) (fun (_ : Unit) => [oc a_this 4 [.int i_limit, .ref a_cost, .ref a_weightTo, .ref a_uprightBars, .ref a_levelBars], ai cI a_cost 1296 f_cost, ai cI a_levelBars 8 f_levelBars]) := by
  refine Ci.of ok_X4_levelCost (Nat.le_of_ble_eq_true rfl) ?_
  intro p e s m args below meth c A Q hx hb hml hown ht hnm hK hP hA hS hret ls hl
  have hown : s.vm.findClass RX4 = some m.cls := hown
  have FX : CallFix p m c cX4_levelCost 6 s args tblG RX4 := ⟨hx, hb, hml, hown, ht⟩
  have hP : PD D A [oc a_this 4 [.int i_limit, .ref a_cost, .ref a_weightTo, .ref a_uprightBars, .ref a_levelBars], ai cI a_cost 1296 f_cost, ai cI a_levelBars 8 f_levelBars] s.heap := hP
  have hl : lv_has ls 6 [(0, .ref a_this), (1, .int x1), (2, .int x2), (3, .int x3), (4, .int x4), (5, .int x5)] := hl
  unfold P_X4_levelCost at hV
  refine lv_aload_n hx hb dX4_levelCost_0 rfl (lv_at hl 0 rfl) ?_
  refine gX4 hx hb ht hown hK hP 0 rfl 4 (by decide) fl_X4_21 (fun _ h => h) rfl dX4_levelCost_1 ?_
  refine lv_iload hx hb dX4_levelCost_4 (lv_at hl 5 rfl) ?_
  refine ild hx hb hK hP 2 rfl dX4_levelCost_6 hV.1 ?_
  have hV := hV.2
  refine lv_iload_n hx hb dX4_levelCost_7 rfl (lv_at hl 1 rfl) ?_
  refine lv_iload_n hx hb dX4_levelCost_8 rfl (lv_at hl 2 rfl) ?_
  refine KSi (As := [.int (f_levelBars x5.toNatClampNeg), .int x1, .int x2]) (rest := []) FX (c_X4_isBarred l D cI cB cS (f_levelBars x5.toNatClampNeg) x1 x2 _ hV) ok_X4_isBarred is_X4_isBarred li_X4_132 dX4_levelCost_9 hK hP hS hA [] [0, 1, 2] rfl rfl (by decide) rfl hl.1 (Nat.le_of_ble_eq_true rfl) ⟨Nat.le_of_ble_eq_true rfl, Nat.le_of_ble_eq_true rfl⟩ ⟨Nat.le_of_ble_eq_true rfl, Nat.le_of_ble_eq_true rfl⟩ (fun r_1 _ H locs hV hP hS => ?_)
  have hP : PD D A [oc a_this 4 [.int i_limit, .ref a_cost, .ref a_weightTo, .ref a_uprightBars, .ref a_levelBars], ai cI a_cost 1296 f_cost, ai cI a_levelBars 8 f_levelBars] H := hP
  refine lv_if_eq (tgt := 18) hx hb dX4_levelCost_12 (by decide) (fun h => ?_) (fun h => ?_)
  · have hV := hV.1 h
    refine lv_aload_n hx hb dX4_levelCost_18 rfl (lv_at hl 0 rfl) ?_
    refine gX4 hx hb ht hown hK hP 0 rfl 1 (by decide) fl_X4_11 (fun _ h => h) rfl dX4_levelCost_19 ?_
    refine lv_iload_n hx hb dX4_levelCost_22 rfl (lv_at hl 1 rfl) ?_
    refine lv_iload_n hx hb dX4_levelCost_23 rfl (lv_at hl 2 rfl) ?_
    refine lv_iload_n hx hb dX4_levelCost_24 rfl (lv_at hl 3 rfl) ?_
    refine lv_iload hx hb dX4_levelCost_25 (lv_at hl 5 rfl) ?_
    refine KSi (As := [.int x1, .int x2, .int x3, .int x5]) (rest := [.ref a_cost]) FX (c_X4_part l D cI cB cS x1 x2 x3 x5 _ hV) ok_X4_part is_X4_part li_X4_47 dX4_levelCost_27 hK hP hS hA [] [0, 1, 2] rfl rfl (by decide) rfl hl.1 (Nat.le_of_ble_eq_true rfl) ⟨Nat.le_of_ble_eq_true rfl, Nat.le_of_ble_eq_true rfl⟩ ⟨Nat.le_of_ble_eq_true rfl, Nat.le_of_ble_eq_true rfl⟩ (fun r_2 _ H locs hV hP hS => ?_)
    have hP : PD D A [oc a_this 4 [.int i_limit, .ref a_cost, .ref a_weightTo, .ref a_uprightBars, .ref a_levelBars], ai cI a_cost 1296 f_cost, ai cI a_levelBars 8 f_levelBars] H := hP
    refine ild hx hb hK hP 1 rfl dX4_levelCost_30 hV.1 ?_
    have hV := hV.2
    refine lv_aload_n hx hb dX4_levelCost_31 rfl (lv_at hl 0 rfl) ?_
    refine gX4 hx hb ht hown hK hP 0 rfl 1 (by decide) fl_X4_11 (fun _ h => h) rfl dX4_levelCost_32 ?_
    refine lv_iload_n hx hb dX4_levelCost_35 rfl (lv_at hl 1 rfl) ?_
    refine lv_iload_n hx hb dX4_levelCost_36 rfl (lv_at hl 2 rfl) ?_
    refine lv_iload hx hb dX4_levelCost_37 (lv_at hl 5 rfl) ?_
    refine lv_iconst (v := 1) hx hb dX4_levelCost_39 (by decide) ?_
    refine lv_iadd hx hb dX4_levelCost_40 ?_
    refine lv_iload hx hb dX4_levelCost_41 (lv_at hl 4 rfl) ?_
    refine KSi (As := [.int x1, .int x2, .int (x5 + 1), .int x4]) (rest := [.ref a_cost, .int (f_cost r_2.toNatClampNeg)]) FX (c_X4_part l D cI cB cS x1 x2 (x5 + 1) x4 _ hV) ok_X4_part is_X4_part li_X4_47 dX4_levelCost_43 hK hP hS hA [] [0, 1, 2] rfl rfl (by decide) rfl hl.1 (Nat.le_of_ble_eq_true rfl) ⟨Nat.le_of_ble_eq_true rfl, Nat.le_of_ble_eq_true rfl⟩ ⟨Nat.le_of_ble_eq_true rfl, Nat.le_of_ble_eq_true rfl⟩ (fun r_3 _ H locs hV hP hS => ?_)
    have hP : PD D A [oc a_this 4 [.int i_limit, .ref a_cost, .ref a_weightTo, .ref a_uprightBars, .ref a_levelBars], ai cI a_cost 1296 f_cost, ai cI a_levelBars 8 f_levelBars] H := hP
    refine ild hx hb hK hP 1 rfl dX4_levelCost_46 hV.1 ?_
    have hV := hV.2
    refine lv_iadd hx hb dX4_levelCost_47 ?_
    refine lv_iload_n hx hb dX4_levelCost_48 rfl (lv_at hl 2 rfl) ?_
    refine lv_iadd hx hb dX4_levelCost_49 ?_
    refine lv_iload_n hx hb dX4_levelCost_50 rfl (lv_at hl 1 rfl) ?_
    refine lv_isub hx hb dX4_levelCost_51 ?_
    refine lv_iconst (v := 1) hx hb dX4_levelCost_52 (by decide) ?_
    refine lv_iadd hx hb dX4_levelCost_53 ?_
    exact hret _ _ _ _ _ () hS dX4_levelCost_54 hP hV
  · have hV := hV.2 h
    refine lv_ldc hx hb hown (ht _ co_X4_51) dX4_levelCost_15 ?_
    exact hret _ _ _ _ _ () hS dX4_levelCost_17 hP hV

def rm_X4_uprightCost : Room := { frames := 2, cells := 0, slots := 0, locals := 44 }
def P_X4_uprightCost (x1 : Int32) (x2 : Int32) (x3 : Int32) (x4 : Int32) (x5 : Int32) (f_cost : Nat → Int32) (f_uprightBars : Nat → Int32) (post : Int32 → Prop) : Prop := (vp_in x5 8 ∧ P_X4_isBarred (f_uprightBars x5.toNatClampNeg) x3 x4 (fun r_1 => ((r_1 = 0 → P_X4_part x1 x5 x3 x4 (fun r_2 => (vp_in r_2 1296 ∧ P_X4_part (x5 + 1) x2 x3 x4 (fun r_3 => (vp_in r_3 1296 ∧ post (((((f_cost r_2.toNatClampNeg) + (f_cost r_3.toNatClampNeg)) + x4) - x3) + 1)))))) ∧ (¬ r_1 = 0 → post 1048576))))
set_option maxRecDepth 100000 in
set_option maxHeartbeats 4000000 in
theorem c_X4_uprightCost (l : Launch) (D : va_G) (cI cB cS : ClassId) (a_this a_cost a_uprightBars a_weightTo a_levelBars : Nat) (x1 : Int32) (x2 : Int32) (x3 : Int32) (x4 : Int32) (x5 : Int32) (i_limit : Int32) (f_cost : Nat → Int32) (f_uprightBars : Nat → Int32) (post : Int32 → Prop) (hV : P_X4_uprightCost x1 x2 x3 x4 x5 f_cost f_uprightBars post) : Ci l yX4_uprightCost cX4_uprightCost 6 (some .int) rm_X4_uprightCost D cI cB cS [.ref a_this, .int x1, .int x2, .int x3, .int x4, .int x5] [oc a_this 4 [.int i_limit, .ref a_cost, .ref a_weightTo, .ref a_uprightBars, .ref a_levelBars], ai cI a_cost 1296 f_cost, ai cI a_uprightBars 8 f_uprightBars] (fun r (_ : Unit) => post r) (fun (_ : Unit) => [oc a_this 4 [.int i_limit, .ref a_cost, .ref a_weightTo, .ref a_uprightBars, .ref a_levelBars], ai cI a_cost 1296 f_cost, ai cI a_uprightBars 8 f_uprightBars]) := by
  refine Ci.of ok_X4_uprightCost (Nat.le_of_ble_eq_true rfl) ?_
  intro p e s m args below meth c A Q hx hb hml hown ht hnm hK hP hA hS hret ls hl
  have hown : s.vm.findClass RX4 = some m.cls := hown
  have FX : CallFix p m c cX4_uprightCost 6 s args tblG RX4 := ⟨hx, hb, hml, hown, ht⟩
  have hP : PD D A [oc a_this 4 [.int i_limit, .ref a_cost, .ref a_weightTo, .ref a_uprightBars, .ref a_levelBars], ai cI a_cost 1296 f_cost, ai cI a_uprightBars 8 f_uprightBars] s.heap := hP
  have hl : lv_has ls 6 [(0, .ref a_this), (1, .int x1), (2, .int x2), (3, .int x3), (4, .int x4), (5, .int x5)] := hl
  unfold P_X4_uprightCost at hV
  refine lv_aload_n hx hb dX4_uprightCost_0 rfl (lv_at hl 0 rfl) ?_
  refine gX4 hx hb ht hown hK hP 0 rfl 3 (by decide) fl_X4_18 (fun _ h => h) rfl dX4_uprightCost_1 ?_
  refine lv_iload hx hb dX4_uprightCost_4 (lv_at hl 5 rfl) ?_
  refine ild hx hb hK hP 2 rfl dX4_uprightCost_6 hV.1 ?_
  have hV := hV.2
  refine lv_iload_n hx hb dX4_uprightCost_7 rfl (lv_at hl 3 rfl) ?_
  refine lv_iload hx hb dX4_uprightCost_8 (lv_at hl 4 rfl) ?_
  refine KSi (As := [.int (f_uprightBars x5.toNatClampNeg), .int x3, .int x4]) (rest := []) FX (c_X4_isBarred l D cI cB cS (f_uprightBars x5.toNatClampNeg) x3 x4 _ hV) ok_X4_isBarred is_X4_isBarred li_X4_132 dX4_uprightCost_10 hK hP hS hA [] [0, 1, 2] rfl rfl (by decide) rfl hl.1 (Nat.le_of_ble_eq_true rfl) ⟨Nat.le_of_ble_eq_true rfl, Nat.le_of_ble_eq_true rfl⟩ ⟨Nat.le_of_ble_eq_true rfl, Nat.le_of_ble_eq_true rfl⟩ (fun r_1 _ H locs hV hP hS => ?_)
  have hP : PD D A [oc a_this 4 [.int i_limit, .ref a_cost, .ref a_weightTo, .ref a_uprightBars, .ref a_levelBars], ai cI a_cost 1296 f_cost, ai cI a_uprightBars 8 f_uprightBars] H := hP
  refine lv_if_eq (tgt := 19) hx hb dX4_uprightCost_13 (by decide) (fun h => ?_) (fun h => ?_)
  · have hV := hV.1 h
    refine lv_aload_n hx hb dX4_uprightCost_19 rfl (lv_at hl 0 rfl) ?_
    refine gX4 hx hb ht hown hK hP 0 rfl 1 (by decide) fl_X4_11 (fun _ h => h) rfl dX4_uprightCost_20 ?_
    refine lv_iload_n hx hb dX4_uprightCost_23 rfl (lv_at hl 1 rfl) ?_
    refine lv_iload hx hb dX4_uprightCost_24 (lv_at hl 5 rfl) ?_
    refine lv_iload_n hx hb dX4_uprightCost_26 rfl (lv_at hl 3 rfl) ?_
    refine lv_iload hx hb dX4_uprightCost_27 (lv_at hl 4 rfl) ?_
    refine KSi (As := [.int x1, .int x5, .int x3, .int x4]) (rest := [.ref a_cost]) FX (c_X4_part l D cI cB cS x1 x5 x3 x4 _ hV) ok_X4_part is_X4_part li_X4_47 dX4_uprightCost_29 hK hP hS hA [] [0, 1, 2] rfl rfl (by decide) rfl hl.1 (Nat.le_of_ble_eq_true rfl) ⟨Nat.le_of_ble_eq_true rfl, Nat.le_of_ble_eq_true rfl⟩ ⟨Nat.le_of_ble_eq_true rfl, Nat.le_of_ble_eq_true rfl⟩ (fun r_2 _ H locs hV hP hS => ?_)
    have hP : PD D A [oc a_this 4 [.int i_limit, .ref a_cost, .ref a_weightTo, .ref a_uprightBars, .ref a_levelBars], ai cI a_cost 1296 f_cost, ai cI a_uprightBars 8 f_uprightBars] H := hP
    refine ild hx hb hK hP 1 rfl dX4_uprightCost_32 hV.1 ?_
    have hV := hV.2
    refine lv_aload_n hx hb dX4_uprightCost_33 rfl (lv_at hl 0 rfl) ?_
    refine gX4 hx hb ht hown hK hP 0 rfl 1 (by decide) fl_X4_11 (fun _ h => h) rfl dX4_uprightCost_34 ?_
    refine lv_iload hx hb dX4_uprightCost_37 (lv_at hl 5 rfl) ?_
    refine lv_iconst (v := 1) hx hb dX4_uprightCost_39 (by decide) ?_
    refine lv_iadd hx hb dX4_uprightCost_40 ?_
    refine lv_iload_n hx hb dX4_uprightCost_41 rfl (lv_at hl 2 rfl) ?_
    refine lv_iload_n hx hb dX4_uprightCost_42 rfl (lv_at hl 3 rfl) ?_
    refine lv_iload hx hb dX4_uprightCost_43 (lv_at hl 4 rfl) ?_
    refine KSi (As := [.int (x5 + 1), .int x2, .int x3, .int x4]) (rest := [.ref a_cost, .int (f_cost r_2.toNatClampNeg)]) FX (c_X4_part l D cI cB cS (x5 + 1) x2 x3 x4 _ hV) ok_X4_part is_X4_part li_X4_47 dX4_uprightCost_45 hK hP hS hA [] [0, 1, 2] rfl rfl (by decide) rfl hl.1 (Nat.le_of_ble_eq_true rfl) ⟨Nat.le_of_ble_eq_true rfl, Nat.le_of_ble_eq_true rfl⟩ ⟨Nat.le_of_ble_eq_true rfl, Nat.le_of_ble_eq_true rfl⟩ (fun r_3 _ H locs hV hP hS => ?_)
    have hP : PD D A [oc a_this 4 [.int i_limit, .ref a_cost, .ref a_weightTo, .ref a_uprightBars, .ref a_levelBars], ai cI a_cost 1296 f_cost, ai cI a_uprightBars 8 f_uprightBars] H := hP
    refine ild hx hb hK hP 1 rfl dX4_uprightCost_48 hV.1 ?_
    have hV := hV.2
    refine lv_iadd hx hb dX4_uprightCost_49 ?_
    refine lv_iload hx hb dX4_uprightCost_50 (lv_at hl 4 rfl) ?_
    refine lv_iadd hx hb dX4_uprightCost_52 ?_
    refine lv_iload_n hx hb dX4_uprightCost_53 rfl (lv_at hl 3 rfl) ?_
    refine lv_isub hx hb dX4_uprightCost_54 ?_
    refine lv_iconst (v := 1) hx hb dX4_uprightCost_55 (by decide) ?_
    refine lv_iadd hx hb dX4_uprightCost_56 ?_
    exact hret _ _ _ _ _ () hS dX4_uprightCost_57 hP hV
  · have hV := hV.2 h
    refine lv_ldc hx hb hown (ht _ co_X4_51) dX4_uprightCost_16 ?_
    exact hret _ _ _ _ _ () hS dX4_uprightCost_18 hP hV

def rm_X4_weightOfPart : Room := { frames := 1, cells := 0, slots := 0, locals := 21 }
def P_X4_weightOfPart (x1 : Int32) (x2 : Int32) (x3 : Int32) (x4 : Int32) (f_weightTo : Nat → Int32) (post : Int32 → Prop) : Prop := P_X4_corner (x2 + 1) (x4 + 1) (fun r_1 => (vp_in r_1 81 ∧ P_X4_corner x1 (x4 + 1) (fun r_2 => (vp_in r_2 81 ∧ P_X4_corner (x2 + 1) x3 (fun r_3 => (vp_in r_3 81 ∧ P_X4_corner x1 x3 (fun r_4 => (vp_in r_4 81 ∧ post ((((f_weightTo r_1.toNatClampNeg) - (f_weightTo r_2.toNatClampNeg)) - (f_weightTo r_3.toNatClampNeg)) + (f_weightTo r_4.toNatClampNeg))))))))))
set_option maxRecDepth 100000 in
set_option maxHeartbeats 4000000 in
theorem c_X4_weightOfPart (l : Launch) (D : va_G) (cI cB cS : ClassId) (a_this a_weightTo a_cost a_uprightBars a_levelBars : Nat) (x1 : Int32) (x2 : Int32) (x3 : Int32) (x4 : Int32) (i_limit : Int32) (f_weightTo : Nat → Int32) (post : Int32 → Prop) (hV : P_X4_weightOfPart x1 x2 x3 x4 f_weightTo post) : Ci l yX4_weightOfPart cX4_weightOfPart 5 (some .int) rm_X4_weightOfPart D cI cB cS [.ref a_this, .int x1, .int x2, .int x3, .int x4] [oc a_this 4 [.int i_limit, .ref a_cost, .ref a_weightTo, .ref a_uprightBars, .ref a_levelBars], ai cI a_weightTo 81 f_weightTo] (fun r (_ : Unit) => post r) (fun (_ : Unit) => [oc a_this 4 [.int i_limit, .ref a_cost, .ref a_weightTo, .ref a_uprightBars, .ref a_levelBars], ai cI a_weightTo 81 f_weightTo]) := by
  refine Ci.of ok_X4_weightOfPart (Nat.le_of_ble_eq_true rfl) ?_
  intro p e s m args below meth c A Q hx hb hml hown ht hnm hK hP hA hS hret ls hl
  have hown : s.vm.findClass RX4 = some m.cls := hown
  have FX : CallFix p m c cX4_weightOfPart 5 s args tblG RX4 := ⟨hx, hb, hml, hown, ht⟩
  have hP : PD D A [oc a_this 4 [.int i_limit, .ref a_cost, .ref a_weightTo, .ref a_uprightBars, .ref a_levelBars], ai cI a_weightTo 81 f_weightTo] s.heap := hP
  have hl : lv_has ls 5 [(0, .ref a_this), (1, .int x1), (2, .int x2), (3, .int x3), (4, .int x4)] := hl
  unfold P_X4_weightOfPart at hV
  refine lv_aload_n hx hb dX4_weightOfPart_0 rfl (lv_at hl 0 rfl) ?_
  refine gX4 hx hb ht hown hK hP 0 rfl 2 (by decide) fl_X4_15 (fun _ h => h) rfl dX4_weightOfPart_1 ?_
  refine lv_iload_n hx hb dX4_weightOfPart_4 rfl (lv_at hl 2 rfl) ?_
  refine lv_iconst (v := 1) hx hb dX4_weightOfPart_5 (by decide) ?_
  refine lv_iadd hx hb dX4_weightOfPart_6 ?_
  refine lv_iload hx hb dX4_weightOfPart_7 (lv_at hl 4 rfl) ?_
  refine lv_iconst (v := 1) hx hb dX4_weightOfPart_9 (by decide) ?_
  refine lv_iadd hx hb dX4_weightOfPart_10 ?_
  refine KSi (As := [.int (x2 + 1), .int (x4 + 1)]) (rest := [.ref a_weightTo]) FX (c_X4_corner l D cI cB cS (x2 + 1) (x4 + 1) _ hV) ok_X4_corner is_X4_corner li_X4_101 dX4_weightOfPart_11 hK hP hS hA [] [0, 1] rfl rfl (by decide) rfl hl.1 (Nat.le_of_ble_eq_true rfl) ⟨Nat.le_of_ble_eq_true rfl, Nat.le_of_ble_eq_true rfl⟩ ⟨Nat.le_of_ble_eq_true rfl, Nat.le_of_ble_eq_true rfl⟩ (fun r_1 _ H locs hV hP hS => ?_)
  have hP : PD D A [oc a_this 4 [.int i_limit, .ref a_cost, .ref a_weightTo, .ref a_uprightBars, .ref a_levelBars], ai cI a_weightTo 81 f_weightTo] H := hP
  refine ild hx hb hK hP 1 rfl dX4_weightOfPart_14 hV.1 ?_
  have hV := hV.2
  refine lv_aload_n hx hb dX4_weightOfPart_15 rfl (lv_at hl 0 rfl) ?_
  refine gX4 hx hb ht hown hK hP 0 rfl 2 (by decide) fl_X4_15 (fun _ h => h) rfl dX4_weightOfPart_16 ?_
  refine lv_iload_n hx hb dX4_weightOfPart_19 rfl (lv_at hl 1 rfl) ?_
  refine lv_iload hx hb dX4_weightOfPart_20 (lv_at hl 4 rfl) ?_
  refine lv_iconst (v := 1) hx hb dX4_weightOfPart_22 (by decide) ?_
  refine lv_iadd hx hb dX4_weightOfPart_23 ?_
  refine KSi (As := [.int x1, .int (x4 + 1)]) (rest := [.ref a_weightTo, .int (f_weightTo r_1.toNatClampNeg)]) FX (c_X4_corner l D cI cB cS x1 (x4 + 1) _ hV) ok_X4_corner is_X4_corner li_X4_101 dX4_weightOfPart_24 hK hP hS hA [] [0, 1] rfl rfl (by decide) rfl hl.1 (Nat.le_of_ble_eq_true rfl) ⟨Nat.le_of_ble_eq_true rfl, Nat.le_of_ble_eq_true rfl⟩ ⟨Nat.le_of_ble_eq_true rfl, Nat.le_of_ble_eq_true rfl⟩ (fun r_2 _ H locs hV hP hS => ?_)
  have hP : PD D A [oc a_this 4 [.int i_limit, .ref a_cost, .ref a_weightTo, .ref a_uprightBars, .ref a_levelBars], ai cI a_weightTo 81 f_weightTo] H := hP
  refine ild hx hb hK hP 1 rfl dX4_weightOfPart_27 hV.1 ?_
  have hV := hV.2
  refine lv_isub hx hb dX4_weightOfPart_28 ?_
  refine lv_aload_n hx hb dX4_weightOfPart_29 rfl (lv_at hl 0 rfl) ?_
  refine gX4 hx hb ht hown hK hP 0 rfl 2 (by decide) fl_X4_15 (fun _ h => h) rfl dX4_weightOfPart_30 ?_
  refine lv_iload_n hx hb dX4_weightOfPart_33 rfl (lv_at hl 2 rfl) ?_
  refine lv_iconst (v := 1) hx hb dX4_weightOfPart_34 (by decide) ?_
  refine lv_iadd hx hb dX4_weightOfPart_35 ?_
  refine lv_iload_n hx hb dX4_weightOfPart_36 rfl (lv_at hl 3 rfl) ?_
  refine KSi (As := [.int (x2 + 1), .int x3]) (rest := [.ref a_weightTo, .int ((f_weightTo r_1.toNatClampNeg) - (f_weightTo r_2.toNatClampNeg))]) FX (c_X4_corner l D cI cB cS (x2 + 1) x3 _ hV) ok_X4_corner is_X4_corner li_X4_101 dX4_weightOfPart_37 hK hP hS hA [] [0, 1] rfl rfl (by decide) rfl hl.1 (Nat.le_of_ble_eq_true rfl) ⟨Nat.le_of_ble_eq_true rfl, Nat.le_of_ble_eq_true rfl⟩ ⟨Nat.le_of_ble_eq_true rfl, Nat.le_of_ble_eq_true rfl⟩ (fun r_3 _ H locs hV hP hS => ?_)
  have hP : PD D A [oc a_this 4 [.int i_limit, .ref a_cost, .ref a_weightTo, .ref a_uprightBars, .ref a_levelBars], ai cI a_weightTo 81 f_weightTo] H := hP
  refine ild hx hb hK hP 1 rfl dX4_weightOfPart_40 hV.1 ?_
  have hV := hV.2
  refine lv_isub hx hb dX4_weightOfPart_41 ?_
  refine lv_aload_n hx hb dX4_weightOfPart_42 rfl (lv_at hl 0 rfl) ?_
  refine gX4 hx hb ht hown hK hP 0 rfl 2 (by decide) fl_X4_15 (fun _ h => h) rfl dX4_weightOfPart_43 ?_
  refine lv_iload_n hx hb dX4_weightOfPart_46 rfl (lv_at hl 1 rfl) ?_
  refine lv_iload_n hx hb dX4_weightOfPart_47 rfl (lv_at hl 3 rfl) ?_
  refine KSi (As := [.int x1, .int x3]) (rest := [.ref a_weightTo, .int (((f_weightTo r_1.toNatClampNeg) - (f_weightTo r_2.toNatClampNeg)) - (f_weightTo r_3.toNatClampNeg))]) FX (c_X4_corner l D cI cB cS x1 x3 _ hV) ok_X4_corner is_X4_corner li_X4_101 dX4_weightOfPart_48 hK hP hS hA [] [0, 1] rfl rfl (by decide) rfl hl.1 (Nat.le_of_ble_eq_true rfl) ⟨Nat.le_of_ble_eq_true rfl, Nat.le_of_ble_eq_true rfl⟩ ⟨Nat.le_of_ble_eq_true rfl, Nat.le_of_ble_eq_true rfl⟩ (fun r_4 _ H locs hV hP hS => ?_)
  have hP : PD D A [oc a_this 4 [.int i_limit, .ref a_cost, .ref a_weightTo, .ref a_uprightBars, .ref a_levelBars], ai cI a_weightTo 81 f_weightTo] H := hP
  refine ild hx hb hK hP 1 rfl dX4_weightOfPart_51 hV.1 ?_
  have hV := hV.2
  refine lv_iadd hx hb dX4_weightOfPart_52 ?_
  exact hret _ _ _ _ _ () hS dX4_weightOfPart_53 hP hV

def rm_X4_leastCost : Room := { frames := 3, cells := 0, slots := 0, locals := 69 }
def V_X4_leastCost_60 (x1 : Int32) (x2 : Int32) (x3 : Int32) (x4 : Int32) (f_cost : Nat → Int32) (f_levelBars : Nat → Int32) (post : Int32 → Prop) : Nat → Int32 → Int32 → Prop
  | 0, _, _ => False
  | n + 1, v5, v6 => ((x4 ≤ v6 → post v5) ∧ (¬ x4 ≤ v6 → P_X4_levelCost x1 x2 x3 x4 v6 f_cost f_levelBars (fun r_1 => (∀ m_2 : Int32, m_2 = (if r_1 < v5 then r_1 else v5) → (∀ v6_3 : Int32, v6_3 = (v6 + 1) → V_X4_leastCost_60 x1 x2 x3 x4 f_cost f_levelBars post n m_2 v6_3)))))
theorem V_X4_leastCost_60_s (x1 : Int32) (x2 : Int32) (x3 : Int32) (x4 : Int32) (f_cost : Nat → Int32) (f_levelBars : Nat → Int32) (post : Int32 → Prop) (n : Nat) (v5 : Int32) (v6 : Int32) : V_X4_leastCost_60 x1 x2 x3 x4 f_cost f_levelBars post (n + 1) v5 v6 = (((x4 ≤ v6 → post v5) ∧ (¬ x4 ≤ v6 → P_X4_levelCost x1 x2 x3 x4 v6 f_cost f_levelBars (fun r_1 => (∀ m_2 : Int32, m_2 = (if r_1 < v5 then r_1 else v5) → (∀ v6_3 : Int32, v6_3 = (v6 + 1) → V_X4_leastCost_60 x1 x2 x3 x4 f_cost f_levelBars post n m_2 v6_3)))))) := rfl
def V_X4_leastCost_27 (x1 : Int32) (x2 : Int32) (x3 : Int32) (x4 : Int32) (f_cost : Nat → Int32) (f_uprightBars : Nat → Int32) (f_levelBars : Nat → Int32) (post : Int32 → Prop) : Nat → Int32 → Int32 → Prop
  | 0, _, _ => False
  | n + 1, v5, v6 => ((x2 ≤ v6 → (∃ k : Nat, V_X4_leastCost_60 x1 x2 x3 x4 f_cost f_levelBars post k v5 x3)) ∧ (¬ x2 ≤ v6 → P_X4_uprightCost x1 x2 x3 x4 v6 f_cost f_uprightBars (fun r_4 => (∀ m_5 : Int32, m_5 = (if r_4 < v5 then r_4 else v5) → (∀ v6_6 : Int32, v6_6 = (v6 + 1) → V_X4_leastCost_27 x1 x2 x3 x4 f_cost f_uprightBars f_levelBars post n m_5 v6_6)))))
theorem V_X4_leastCost_27_s (x1 : Int32) (x2 : Int32) (x3 : Int32) (x4 : Int32) (f_cost : Nat → Int32) (f_uprightBars : Nat → Int32) (f_levelBars : Nat → Int32) (post : Int32 → Prop) (n : Nat) (v5 : Int32) (v6 : Int32) : V_X4_leastCost_27 x1 x2 x3 x4 f_cost f_uprightBars f_levelBars post (n + 1) v5 v6 = (((x2 ≤ v6 → (∃ k : Nat, V_X4_leastCost_60 x1 x2 x3 x4 f_cost f_levelBars post k v5 x3)) ∧ (¬ x2 ≤ v6 → P_X4_uprightCost x1 x2 x3 x4 v6 f_cost f_uprightBars (fun r_4 => (∀ m_5 : Int32, m_5 = (if r_4 < v5 then r_4 else v5) → (∀ v6_6 : Int32, v6_6 = (v6 + 1) → V_X4_leastCost_27 x1 x2 x3 x4 f_cost f_uprightBars f_levelBars post n m_5 v6_6)))))) := rfl
def P_X4_leastCost (x1 : Int32) (x2 : Int32) (x3 : Int32) (x4 : Int32) (i_limit : Int32) (f_cost : Nat → Int32) (f_weightTo : Nat → Int32) (f_uprightBars : Nat → Int32) (f_levelBars : Nat → Int32) (post : Int32 → Prop) : Prop := P_X4_weightOfPart x1 x2 x3 x4 f_weightTo (fun r_7 => ((i_limit < r_7 → (∃ k : Nat, V_X4_leastCost_27 x1 x2 x3 x4 f_cost f_uprightBars f_levelBars post k 1048576 x1)) ∧ (¬ i_limit < r_7 → post 256)))
set_option maxRecDepth 100000 in
set_option maxHeartbeats 4000000 in
theorem c_X4_leastCost (l : Launch) (D : va_G) (cI cB cS : ClassId) (a_this a_cost a_weightTo a_uprightBars a_levelBars : Nat) (x1 : Int32) (x2 : Int32) (x3 : Int32) (x4 : Int32) (i_limit : Int32) (f_cost : Nat → Int32) (f_weightTo : Nat → Int32) (f_uprightBars : Nat → Int32) (f_levelBars : Nat → Int32) (post : Int32 → Prop) (hV : P_X4_leastCost x1 x2 x3 x4 i_limit f_cost f_weightTo f_uprightBars f_levelBars post) : Ci l yX4_leastCost cX4_leastCost 7 (some .int) rm_X4_leastCost D cI cB cS [.ref a_this, .int x1, .int x2, .int x3, .int x4] [oc a_this 4 [.int i_limit, .ref a_cost, .ref a_weightTo, .ref a_uprightBars, .ref a_levelBars], ai cI a_cost 1296 f_cost, ai cI a_weightTo 81 f_weightTo, ai cI a_uprightBars 8 f_uprightBars, ai cI a_levelBars 8 f_levelBars] (fun r (_ : Unit) => post r) (fun (_ : Unit) => [oc a_this 4 [.int i_limit, .ref a_cost, .ref a_weightTo, .ref a_uprightBars, .ref a_levelBars], ai cI a_cost 1296 f_cost, ai cI a_weightTo 81 f_weightTo, ai cI a_uprightBars 8 f_uprightBars, ai cI a_levelBars 8 f_levelBars]) := by
  refine Ci.of ok_X4_leastCost (Nat.le_of_ble_eq_true rfl) ?_
  intro p e s m args below meth c A Q hx hb hml hown ht hnm hK hP hA hS hret ls hl
  have hown : s.vm.findClass RX4 = some m.cls := hown
  have FX : CallFix p m c cX4_leastCost 7 s args tblG RX4 := ⟨hx, hb, hml, hown, ht⟩
  have hP : PD D A [oc a_this 4 [.int i_limit, .ref a_cost, .ref a_weightTo, .ref a_uprightBars, .ref a_levelBars], ai cI a_cost 1296 f_cost, ai cI a_weightTo 81 f_weightTo, ai cI a_uprightBars 8 f_uprightBars, ai cI a_levelBars 8 f_levelBars] s.heap := hP
  have hl : lv_has ls 7 [(0, .ref a_this), (1, .int x1), (2, .int x2), (3, .int x3), (4, .int x4)] := hl
  unfold P_X4_leastCost at hV
  have b60 : ∀  (k60 : Nat) (v5 : Int32) (v6 : Int32) (H : Heap) (locs : List Loc) (ls : Array Slot), PD D A [oc a_this 4 [.int i_limit, .ref a_cost, .ref a_weightTo, .ref a_uprightBars, .ref a_levelBars], ai cI a_cost 1296 f_cost, ai cI a_weightTo 81 f_weightTo, ai cI a_uprightBars 8 f_uprightBars, ai cI a_levelBars 8 f_levelBars] H → va_S A s.heap H locs → lv_has ls 7 [(0, .ref a_this), (1, .int x1), (2, .int x2), (3, .int x3), (4, .int x4), (5, .int v5), (6, .int v6)] → V_X4_leastCost_60 x1 x2 x3 x4 f_cost f_levelBars post k60 v5 v6 → W p l e rm_X4_leastCost s m args below meth c H locs 0 0 Q (F0 m 60 ls []) := by
    intro  k60
    induction k60 with
    | zero => intro v5 v6 H locs ls hP hS hl hV; exact False.elim hV
    | succ k60 ih60 =>
      intro v5 v6 H locs ls hP hS hl hV
      rw [V_X4_leastCost_60_s] at hV
      refine lv_iload hx hb dX4_leastCost_60 (lv_at hl 6 rfl) ?_
      refine lv_iload hx hb dX4_leastCost_62 (lv_at hl 4 rfl) ?_
      refine lv_icmp_ge (tgt := 91) hx hb dX4_leastCost_64 (by decide) (fun h => ?_) (fun h => ?_)
      · have hV := hV.1 h
        refine lv_iload hx hb dX4_leastCost_91 (lv_at hl 5 rfl) ?_
        exact hret _ _ _ _ _ () hS dX4_leastCost_93 hP hV
      · have hV := hV.2 h
        refine lv_iload hx hb dX4_leastCost_67 (lv_at hl 5 rfl) ?_
        refine lv_aload_n hx hb dX4_leastCost_69 rfl (lv_at hl 0 rfl) ?_
        refine lv_iload_n hx hb dX4_leastCost_70 rfl (lv_at hl 1 rfl) ?_
        refine lv_iload_n hx hb dX4_leastCost_71 rfl (lv_at hl 2 rfl) ?_
        refine lv_iload_n hx hb dX4_leastCost_72 rfl (lv_at hl 3 rfl) ?_
        refine lv_iload hx hb dX4_leastCost_73 (lv_at hl 4 rfl) ?_
        refine lv_iload hx hb dX4_leastCost_75 (lv_at hl 6 rfl) ?_
        refine KVi (As := [.int x1, .int x2, .int x3, .int x4, .int v6]) (rest := [.int v5]) FX (c_X4_levelCost l D cI cB cS a_this a_cost a_levelBars a_weightTo a_uprightBars x1 x2 x3 x4 v6 i_limit f_cost f_levelBars _ hV) ok_X4_levelCost im_X4_levelCost se_X4_levelCost li_X4_88 dX4_leastCost_77 hK hP hS hA [0, 1, 4] [2, 3] 0 rfl rfl rfl (by decide) rfl rfl hl.1 (Nat.le_of_ble_eq_true rfl) ⟨Nat.le_of_ble_eq_true rfl, Nat.le_of_ble_eq_true rfl⟩ ⟨Nat.le_of_ble_eq_true rfl, Nat.le_of_ble_eq_true rfl⟩ (fun r_1 _ H locs hV hP hS => ?_)
        have hP : PD D A [ai cI a_weightTo 81 f_weightTo, ai cI a_uprightBars 8 f_uprightBars, oc a_this 4 [.int i_limit, .ref a_cost, .ref a_weightTo, .ref a_uprightBars, .ref a_levelBars], ai cI a_cost 1296 f_cost, ai cI a_levelBars 8 f_levelBars] H := hP
        refine mmin hx hb (hml.trans hl.1.symm) ht hown li_X4_127 (Nat.le_of_ble_eq_true rfl) (Nat.le_of_ble_eq_true rfl) ⟨Nat.le_of_ble_eq_true rfl, Nat.le_of_ble_eq_true rfl⟩ dX4_leastCost_80 ?_
        refine lv_topi (fun m_2 e_m_2 => ?_)
        have hV := hV m_2 e_m_2
        refine lv_istore (lv' := [(5, .int m_2), (0, .ref a_this), (1, .int x1), (2, .int x2), (3, .int x3), (4, .int x4), (6, .int v6)]) hx hb dX4_leastCost_83 hl (by decide) rfl (fun ls hl => ?_)
        obtain ⟨v6_3, e_v6_3⟩ : ∃ y : Int32, y = (v6 + 1) := ⟨_, rfl⟩
        have hV := hV v6_3 e_v6_3
        refine lv_iinc (v := v6_3) (lv' := [(6, .int v6_3), (5, .int m_2), (0, .ref a_this), (1, .int x1), (2, .int x2), (3, .int x3), (4, .int x4)]) hx hb dX4_leastCost_85 hl (k := 6) rfl (by rw [e_v6_3]; rfl) (by decide) rfl (fun ls hl => ?_)
        refine lv_goto (tgt := 60) hx hb dX4_leastCost_88 (by decide) ?_
        exact ih60 m_2 v6_3 _ _ _ (hP.sub [2, 3, 0, 1, 4] rfl rfl) hS (lv_sub hl [2, 3, 4, 5, 6, 1, 0] rfl) hV
  have b27 : ∀  (k27 : Nat) (v5 : Int32) (v6 : Int32) (H : Heap) (locs : List Loc) (ls : Array Slot), PD D A [oc a_this 4 [.int i_limit, .ref a_cost, .ref a_weightTo, .ref a_uprightBars, .ref a_levelBars], ai cI a_cost 1296 f_cost, ai cI a_weightTo 81 f_weightTo, ai cI a_uprightBars 8 f_uprightBars, ai cI a_levelBars 8 f_levelBars] H → va_S A s.heap H locs → lv_has ls 7 [(0, .ref a_this), (1, .int x1), (2, .int x2), (3, .int x3), (4, .int x4), (5, .int v5), (6, .int v6)] → V_X4_leastCost_27 x1 x2 x3 x4 f_cost f_uprightBars f_levelBars post k27 v5 v6 → W p l e rm_X4_leastCost s m args below meth c H locs 0 0 Q (F0 m 27 ls []) := by
    intro  k27
    induction k27 with
    | zero => intro v5 v6 H locs ls hP hS hl hV; exact False.elim hV
    | succ k27 ih27 =>
      intro v5 v6 H locs ls hP hS hl hV
      rw [V_X4_leastCost_27_s] at hV
      refine lv_iload hx hb dX4_leastCost_27 (lv_at hl 6 rfl) ?_
      refine lv_iload_n hx hb dX4_leastCost_29 rfl (lv_at hl 2 rfl) ?_
      refine lv_icmp_ge (tgt := 57) hx hb dX4_leastCost_30 (by decide) (fun h => ?_) (fun h => ?_)
      · have hV := hV.1 h
        refine lv_iload_n hx hb dX4_leastCost_57 rfl (lv_at hl 3 rfl) ?_
        refine lv_istore (lv' := [(6, .int x3), (0, .ref a_this), (1, .int x1), (2, .int x2), (3, .int x3), (4, .int x4), (5, .int v5)]) hx hb dX4_leastCost_58 hl (by decide) rfl (fun ls hl => ?_)
        obtain ⟨k, hV⟩ := hV
        exact b60 k v5 x3 _ _ _ hP hS (lv_sub hl [1, 2, 3, 4, 5, 6, 0] rfl) hV
      · have hV := hV.2 h
        refine lv_iload hx hb dX4_leastCost_33 (lv_at hl 5 rfl) ?_
        refine lv_aload_n hx hb dX4_leastCost_35 rfl (lv_at hl 0 rfl) ?_
        refine lv_iload_n hx hb dX4_leastCost_36 rfl (lv_at hl 1 rfl) ?_
        refine lv_iload_n hx hb dX4_leastCost_37 rfl (lv_at hl 2 rfl) ?_
        refine lv_iload_n hx hb dX4_leastCost_38 rfl (lv_at hl 3 rfl) ?_
        refine lv_iload hx hb dX4_leastCost_39 (lv_at hl 4 rfl) ?_
        refine lv_iload hx hb dX4_leastCost_41 (lv_at hl 6 rfl) ?_
        refine KVi (As := [.int x1, .int x2, .int x3, .int x4, .int v6]) (rest := [.int v5]) FX (c_X4_uprightCost l D cI cB cS a_this a_cost a_uprightBars a_weightTo a_levelBars x1 x2 x3 x4 v6 i_limit f_cost f_uprightBars _ hV) ok_X4_uprightCost im_X4_uprightCost se_X4_uprightCost li_X4_81 dX4_leastCost_43 hK hP hS hA [0, 1, 3] [2, 4] 0 rfl rfl rfl (by decide) rfl rfl hl.1 (Nat.le_of_ble_eq_true rfl) ⟨Nat.le_of_ble_eq_true rfl, Nat.le_of_ble_eq_true rfl⟩ ⟨Nat.le_of_ble_eq_true rfl, Nat.le_of_ble_eq_true rfl⟩ (fun r_4 _ H locs hV hP hS => ?_)
        have hP : PD D A [ai cI a_weightTo 81 f_weightTo, ai cI a_levelBars 8 f_levelBars, oc a_this 4 [.int i_limit, .ref a_cost, .ref a_weightTo, .ref a_uprightBars, .ref a_levelBars], ai cI a_cost 1296 f_cost, ai cI a_uprightBars 8 f_uprightBars] H := hP
        refine mmin hx hb (hml.trans hl.1.symm) ht hown li_X4_127 (Nat.le_of_ble_eq_true rfl) (Nat.le_of_ble_eq_true rfl) ⟨Nat.le_of_ble_eq_true rfl, Nat.le_of_ble_eq_true rfl⟩ dX4_leastCost_46 ?_
        refine lv_topi (fun m_5 e_m_5 => ?_)
        have hV := hV m_5 e_m_5
        refine lv_istore (lv' := [(5, .int m_5), (0, .ref a_this), (1, .int x1), (2, .int x2), (3, .int x3), (4, .int x4), (6, .int v6)]) hx hb dX4_leastCost_49 hl (by decide) rfl (fun ls hl => ?_)
        obtain ⟨v6_6, e_v6_6⟩ : ∃ y : Int32, y = (v6 + 1) := ⟨_, rfl⟩
        have hV := hV v6_6 e_v6_6
        refine lv_iinc (v := v6_6) (lv' := [(6, .int v6_6), (5, .int m_5), (0, .ref a_this), (1, .int x1), (2, .int x2), (3, .int x3), (4, .int x4)]) hx hb dX4_leastCost_51 hl (k := 6) rfl (by rw [e_v6_6]; rfl) (by decide) rfl (fun ls hl => ?_)
        refine lv_goto (tgt := 27) hx hb dX4_leastCost_54 (by decide) ?_
        exact ih27 m_5 v6_6 _ _ _ (hP.sub [2, 3, 0, 4, 1] rfl rfl) hS (lv_sub hl [2, 3, 4, 5, 6, 1, 0] rfl) hV
  refine lv_aload_n hx hb dX4_leastCost_0 rfl (lv_at hl 0 rfl) ?_
  refine lv_iload_n hx hb dX4_leastCost_1 rfl (lv_at hl 1 rfl) ?_
  refine lv_iload_n hx hb dX4_leastCost_2 rfl (lv_at hl 2 rfl) ?_
  refine lv_iload_n hx hb dX4_leastCost_3 rfl (lv_at hl 3 rfl) ?_
  refine lv_iload hx hb dX4_leastCost_4 (lv_at hl 4 rfl) ?_
  refine KVi (As := [.int x1, .int x2, .int x3, .int x4]) (rest := []) FX (c_X4_weightOfPart l D cI cB cS a_this a_weightTo a_cost a_uprightBars a_levelBars x1 x2 x3 x4 i_limit f_weightTo _ hV) ok_X4_weightOfPart im_X4_weightOfPart se_X4_weightOfPart li_X4_124 dX4_leastCost_6 hK hP hS hA [0, 2] [1, 3, 4] 0 rfl rfl rfl (by decide) rfl rfl hl.1 (Nat.le_of_ble_eq_true rfl) ⟨Nat.le_of_ble_eq_true rfl, Nat.le_of_ble_eq_true rfl⟩ ⟨Nat.le_of_ble_eq_true rfl, Nat.le_of_ble_eq_true rfl⟩ (fun r_7 _ H locs hV hP hS => ?_)
  have hP : PD D A [ai cI a_cost 1296 f_cost, ai cI a_uprightBars 8 f_uprightBars, ai cI a_levelBars 8 f_levelBars, oc a_this 4 [.int i_limit, .ref a_cost, .ref a_weightTo, .ref a_uprightBars, .ref a_levelBars], ai cI a_weightTo 81 f_weightTo] H := hP
  refine lv_aload_n hx hb dX4_leastCost_9 rfl (lv_at hl 0 rfl) ?_
  refine gX4 hx hb ht hown hK hP 3 rfl 0 (by decide) fl_X4_24 (fun _ h => h) rfl dX4_leastCost_10 ?_
  refine lv_icmp_gt (tgt := 20) hx hb dX4_leastCost_13 (by decide) (fun h => ?_) (fun h => ?_)
  · have hV := hV.1 h
    refine lv_ldc hx hb hown (ht _ co_X4_51) dX4_leastCost_20 ?_
    refine lv_istore (lv' := [(5, .int 1048576), (0, .ref a_this), (1, .int x1), (2, .int x2), (3, .int x3), (4, .int x4)]) hx hb dX4_leastCost_22 hl (by decide) rfl (fun ls hl => ?_)
    refine lv_iload_n hx hb dX4_leastCost_24 rfl (lv_at hl 2 rfl) ?_
    refine lv_istore (lv' := [(6, .int x1), (5, .int 1048576), (0, .ref a_this), (1, .int x1), (2, .int x2), (3, .int x3), (4, .int x4)]) hx hb dX4_leastCost_25 hl (by decide) rfl (fun ls hl => ?_)
    obtain ⟨k, hV⟩ := hV
    exact b27 k 1048576 x1 _ _ _ (hP.sub [3, 0, 4, 1, 2] rfl rfl) hS (lv_sub hl [2, 3, 4, 5, 6, 1, 0] rfl) hV
  · have hV := hV.2 h
    refine lv_sipush (v := 256) hx hb dX4_leastCost_16 (by decide) ?_
    exact hret _ _ _ _ _ () hS dX4_leastCost_19 (hP.sub [3, 0, 4, 1, 2] rfl rfl) hV

def rm_X4_findCosts : Room := { frames := 4, cells := 0, slots := 0, locals := 95 }
def V_X4_findCosts_13 (x1 : Int32) (x2 : Int32) (v4 : Int32) (i_limit : Int32) (f_weightTo : Nat → Int32) (f_uprightBars : Nat → Int32) (f_levelBars : Nat → Int32) (K_3 : Int32 → (Nat → Int32) → Prop) : Nat → Int32 → (Nat → Int32) → Prop
  | 0, _, _ => False
  | n + 1, v5, f_cost => ((v5 < 0 → (∀ v4_1 : Int32, v4_1 = (v4 + 1) → K_3 v4_1 f_cost)) ∧ (¬ v5 < 0 → P_X4_part x1 x2 v5 v4 (fun r_2 => P_X4_leastCost x1 x2 v5 v4 i_limit f_cost f_weightTo f_uprightBars f_levelBars (fun r_3 => (vp_in r_2 1296 ∧ ∀ f_cost_4 : Nat → Int32, f_cost_4 = upd f_cost r_2.toNatClampNeg r_3 → (∀ v5_5 : Int32, v5_5 = (v5 + (-1)) → V_X4_findCosts_13 x1 x2 v4 i_limit f_weightTo f_uprightBars f_levelBars K_3 n v5_5 f_cost_4))))))
theorem V_X4_findCosts_13_s (x1 : Int32) (x2 : Int32) (v4 : Int32) (i_limit : Int32) (f_weightTo : Nat → Int32) (f_uprightBars : Nat → Int32) (f_levelBars : Nat → Int32) (K_3 : Int32 → (Nat → Int32) → Prop) (n : Nat) (v5 : Int32) (f_cost : Nat → Int32) : V_X4_findCosts_13 x1 x2 v4 i_limit f_weightTo f_uprightBars f_levelBars K_3 (n + 1) v5 f_cost = (((v5 < 0 → (∀ v4_1 : Int32, v4_1 = (v4 + 1) → K_3 v4_1 f_cost)) ∧ (¬ v5 < 0 → P_X4_part x1 x2 v5 v4 (fun r_2 => P_X4_leastCost x1 x2 v5 v4 i_limit f_cost f_weightTo f_uprightBars f_levelBars (fun r_3 => (vp_in r_2 1296 ∧ ∀ f_cost_4 : Nat → Int32, f_cost_4 = upd f_cost r_2.toNatClampNeg r_3 → (∀ v5_5 : Int32, v5_5 = (v5 + (-1)) → V_X4_findCosts_13 x1 x2 v4 i_limit f_weightTo f_uprightBars f_levelBars K_3 n v5_5 f_cost_4))))))) := rfl
def V_X4_findCosts_3 (x1 : Int32) (x2 : Int32) (x3 : Int32) (i_limit : Int32) (f_weightTo : Nat → Int32) (f_uprightBars : Nat → Int32) (f_levelBars : Nat → Int32) (post : (Nat → Int32) → Prop) : Nat → Int32 → (Nat → Int32) → Prop
  | 0, _, _ => False
  | n + 1, v4, f_cost => ((x3 ≤ v4 → post f_cost) ∧ (¬ x3 ≤ v4 → (∃ k : Nat, V_X4_findCosts_13 x1 x2 v4 i_limit f_weightTo f_uprightBars f_levelBars (V_X4_findCosts_3 x1 x2 x3 i_limit f_weightTo f_uprightBars f_levelBars post n) k v4 f_cost)))
theorem V_X4_findCosts_3_s (x1 : Int32) (x2 : Int32) (x3 : Int32) (i_limit : Int32) (f_weightTo : Nat → Int32) (f_uprightBars : Nat → Int32) (f_levelBars : Nat → Int32) (post : (Nat → Int32) → Prop) (n : Nat) (v4 : Int32) (f_cost : Nat → Int32) : V_X4_findCosts_3 x1 x2 x3 i_limit f_weightTo f_uprightBars f_levelBars post (n + 1) v4 f_cost = (((x3 ≤ v4 → post f_cost) ∧ (¬ x3 ≤ v4 → (∃ k : Nat, V_X4_findCosts_13 x1 x2 v4 i_limit f_weightTo f_uprightBars f_levelBars (V_X4_findCosts_3 x1 x2 x3 i_limit f_weightTo f_uprightBars f_levelBars post n) k v4 f_cost)))) := rfl
def P_X4_findCosts (x1 : Int32) (x2 : Int32) (x3 : Int32) (i_limit : Int32) (f_cost : Nat → Int32) (f_weightTo : Nat → Int32) (f_uprightBars : Nat → Int32) (f_levelBars : Nat → Int32) (post : (Nat → Int32) → Prop) : Prop := (∃ k : Nat, V_X4_findCosts_3 x1 x2 x3 i_limit f_weightTo f_uprightBars f_levelBars post k 0 f_cost)
set_option maxRecDepth 100000 in
set_option maxHeartbeats 4000000 in
theorem c_X4_findCosts (l : Launch) (D : va_G) (cI cB cS : ClassId) (a_this a_cost a_weightTo a_uprightBars a_levelBars : Nat) (x1 : Int32) (x2 : Int32) (x3 : Int32) (i_limit : Int32) (f_cost : Nat → Int32) (f_weightTo : Nat → Int32) (f_uprightBars : Nat → Int32) (f_levelBars : Nat → Int32) (post : (Nat → Int32) → Prop) (hV : P_X4_findCosts x1 x2 x3 i_limit f_cost f_weightTo f_uprightBars f_levelBars post) : Cv l yX4_findCosts cX4_findCosts 6 none rm_X4_findCosts D cI cB cS [.ref a_this, .int x1, .int x2, .int x3] [oc a_this 4 [.int i_limit, .ref a_cost, .ref a_weightTo, .ref a_uprightBars, .ref a_levelBars], ai cI a_cost 1296 f_cost, ai cI a_weightTo 81 f_weightTo, ai cI a_uprightBars 8 f_uprightBars, ai cI a_levelBars 8 f_levelBars] (fun (u : (Nat → Int32)) => post u) (fun (u : (Nat → Int32)) => [oc a_this 4 [.int i_limit, .ref a_cost, .ref a_weightTo, .ref a_uprightBars, .ref a_levelBars], ai cI a_cost 1296 u, ai cI a_weightTo 81 f_weightTo, ai cI a_uprightBars 8 f_uprightBars, ai cI a_levelBars 8 f_levelBars]) := by
  refine Cv.of ok_X4_findCosts (Nat.le_of_ble_eq_true rfl) ?_
  intro p e s m args below meth c A Q hx hb hml hown ht hnm hK hP hA hS hret ls hl
  have hown : s.vm.findClass RX4 = some m.cls := hown
  have FX : CallFix p m c cX4_findCosts 6 s args tblG RX4 := ⟨hx, hb, hml, hown, ht⟩
  have hP : PD D A [oc a_this 4 [.int i_limit, .ref a_cost, .ref a_weightTo, .ref a_uprightBars, .ref a_levelBars], ai cI a_cost 1296 f_cost, ai cI a_weightTo 81 f_weightTo, ai cI a_uprightBars 8 f_uprightBars, ai cI a_levelBars 8 f_levelBars] s.heap := hP
  have hl : lv_has ls 6 [(0, .ref a_this), (1, .int x1), (2, .int x2), (3, .int x3)] := hl
  unfold P_X4_findCosts at hV
  have b3 : ∀  (k3 : Nat) (v4 : Int32) (f_cost : Nat → Int32) (H : Heap) (locs : List Loc) (ls : Array Slot), PD D A [oc a_this 4 [.int i_limit, .ref a_cost, .ref a_weightTo, .ref a_uprightBars, .ref a_levelBars], ai cI a_cost 1296 f_cost, ai cI a_weightTo 81 f_weightTo, ai cI a_uprightBars 8 f_uprightBars, ai cI a_levelBars 8 f_levelBars] H → va_S A s.heap H locs → lv_has ls 6 [(0, .ref a_this), (1, .int x1), (2, .int x2), (3, .int x3), (4, .int v4)] → V_X4_findCosts_3 x1 x2 x3 i_limit f_weightTo f_uprightBars f_levelBars post k3 v4 f_cost → W p l e rm_X4_findCosts s m args below meth c H locs 0 0 Q (F0 m 3 ls []) := by
    intro  k3
    induction k3 with
    | zero => intro v4 f_cost H locs ls hP hS hl hV; exact False.elim hV
    | succ k3 ih3 =>
      intro v4 f_cost H locs ls hP hS hl hV
      rw [V_X4_findCosts_3_s] at hV
      have b13 : ∀ (v4 : Int32) (k13 : Nat) (v5 : Int32) (f_cost : Nat → Int32) (H : Heap) (locs : List Loc) (ls : Array Slot), PD D A [oc a_this 4 [.int i_limit, .ref a_cost, .ref a_weightTo, .ref a_uprightBars, .ref a_levelBars], ai cI a_cost 1296 f_cost, ai cI a_weightTo 81 f_weightTo, ai cI a_uprightBars 8 f_uprightBars, ai cI a_levelBars 8 f_levelBars] H → va_S A s.heap H locs → lv_has ls 6 [(0, .ref a_this), (1, .int x1), (2, .int x2), (3, .int x3), (4, .int v4), (5, .int v5)] → V_X4_findCosts_13 x1 x2 v4 i_limit f_weightTo f_uprightBars f_levelBars (V_X4_findCosts_3 x1 x2 x3 i_limit f_weightTo f_uprightBars f_levelBars post k3) k13 v5 f_cost → W p l e rm_X4_findCosts s m args below meth c H locs 0 0 Q (F0 m 13 ls []) := by
        intro v4 k13
        induction k13 with
        | zero => intro v5 f_cost H locs ls hP hS hl hV; exact False.elim hV
        | succ k13 ih13 =>
          intro v5 f_cost H locs ls hP hS hl hV
          rw [V_X4_findCosts_13_s] at hV
          refine lv_iload hx hb dX4_findCosts_13 (lv_at hl 5 rfl) ?_
          refine lv_if_lt (tgt := 48) hx hb dX4_findCosts_15 (by decide) (fun h => ?_) (fun h => ?_)
          · have hV := hV.1 h
            obtain ⟨v4_1, e_v4_1⟩ : ∃ y : Int32, y = (v4 + 1) := ⟨_, rfl⟩
            have hV := hV v4_1 e_v4_1
            refine lv_iinc (v := v4_1) (lv' := [(4, .int v4_1), (0, .ref a_this), (1, .int x1), (2, .int x2), (3, .int x3), (5, .int v5)]) hx hb dX4_findCosts_48 hl (k := 4) rfl (by rw [e_v4_1]; rfl) (by decide) rfl (fun ls hl => ?_)
            refine lv_goto (tgt := 3) hx hb dX4_findCosts_51 (by decide) ?_
            exact ih3 v4_1 f_cost _ _ _ hP hS (lv_sub hl [1, 2, 3, 4, 0] rfl) hV
          · have hV := hV.2 h
            refine lv_aload_n hx hb dX4_findCosts_18 rfl (lv_at hl 0 rfl) ?_
            refine gX4 hx hb ht hown hK hP 0 rfl 1 (by decide) fl_X4_11 (fun _ h => h) rfl dX4_findCosts_19 ?_
            refine lv_iload_n hx hb dX4_findCosts_22 rfl (lv_at hl 1 rfl) ?_
            refine lv_iload_n hx hb dX4_findCosts_23 rfl (lv_at hl 2 rfl) ?_
            refine lv_iload hx hb dX4_findCosts_24 (lv_at hl 5 rfl) ?_
            refine lv_iload hx hb dX4_findCosts_26 (lv_at hl 4 rfl) ?_
            refine KSi (As := [.int x1, .int x2, .int v5, .int v4]) (rest := [.ref a_cost]) FX (c_X4_part l D cI cB cS x1 x2 v5 v4 _ hV) ok_X4_part is_X4_part li_X4_47 dX4_findCosts_28 hK hP hS hA [] [0, 1, 2, 3, 4] rfl rfl (by decide) rfl hl.1 (Nat.le_of_ble_eq_true rfl) ⟨Nat.le_of_ble_eq_true rfl, Nat.le_of_ble_eq_true rfl⟩ ⟨Nat.le_of_ble_eq_true rfl, Nat.le_of_ble_eq_true rfl⟩ (fun r_2 _ H locs hV hP hS => ?_)
            have hP : PD D A [oc a_this 4 [.int i_limit, .ref a_cost, .ref a_weightTo, .ref a_uprightBars, .ref a_levelBars], ai cI a_cost 1296 f_cost, ai cI a_weightTo 81 f_weightTo, ai cI a_uprightBars 8 f_uprightBars, ai cI a_levelBars 8 f_levelBars] H := hP
            refine lv_aload_n hx hb dX4_findCosts_31 rfl (lv_at hl 0 rfl) ?_
            refine lv_iload_n hx hb dX4_findCosts_32 rfl (lv_at hl 1 rfl) ?_
            refine lv_iload_n hx hb dX4_findCosts_33 rfl (lv_at hl 2 rfl) ?_
            refine lv_iload hx hb dX4_findCosts_34 (lv_at hl 5 rfl) ?_
            refine lv_iload hx hb dX4_findCosts_36 (lv_at hl 4 rfl) ?_
            refine KVi (As := [.int x1, .int x2, .int v5, .int v4]) (rest := [.int r_2, .ref a_cost]) FX (c_X4_leastCost l D cI cB cS a_this a_cost a_weightTo a_uprightBars a_levelBars x1 x2 v5 v4 i_limit f_cost f_weightTo f_uprightBars f_levelBars _ hV) ok_X4_leastCost im_X4_leastCost se_X4_leastCost li_X4_121 dX4_findCosts_38 hK hP hS hA [0, 1, 2, 3, 4] [] 0 rfl rfl rfl (by decide) rfl rfl hl.1 (Nat.le_of_ble_eq_true rfl) ⟨Nat.le_of_ble_eq_true rfl, Nat.le_of_ble_eq_true rfl⟩ ⟨Nat.le_of_ble_eq_true rfl, Nat.le_of_ble_eq_true rfl⟩ (fun r_3 _ H locs hV hP hS => ?_)
            have hP : PD D A [oc a_this 4 [.int i_limit, .ref a_cost, .ref a_weightTo, .ref a_uprightBars, .ref a_levelBars], ai cI a_cost 1296 f_cost, ai cI a_weightTo 81 f_weightTo, ai cI a_uprightBars 8 f_uprightBars, ai cI a_levelBars 8 f_levelBars] H := hP
            refine ist hx hb hK hP hS 1 rfl dX4_findCosts_41 hV.1 (fun f_cost_4 e_f_cost_4 H locs hP hS => ?_)
            have hV := hV.2 f_cost_4 e_f_cost_4
            have hP : PD D A [oc a_this 4 [.int i_limit, .ref a_cost, .ref a_weightTo, .ref a_uprightBars, .ref a_levelBars], ai cI a_cost 1296 f_cost_4, ai cI a_weightTo 81 f_weightTo, ai cI a_uprightBars 8 f_uprightBars, ai cI a_levelBars 8 f_levelBars] H := hP
            obtain ⟨v5_5, e_v5_5⟩ : ∃ y : Int32, y = (v5 + (-1)) := ⟨_, rfl⟩
            have hV := hV v5_5 e_v5_5
            refine lv_iinc (v := v5_5) (lv' := [(5, .int v5_5), (0, .ref a_this), (1, .int x1), (2, .int x2), (3, .int x3), (4, .int v4)]) hx hb dX4_findCosts_42 hl (k := 5) rfl (by rw [e_v5_5]; rfl) (by decide) rfl (fun ls hl => ?_)
            refine lv_goto (tgt := 13) hx hb dX4_findCosts_45 (by decide) ?_
            exact ih13 v5_5 f_cost_4 _ _ _ hP hS (lv_sub hl [1, 2, 3, 4, 5, 0] rfl) hV
      refine lv_iload hx hb dX4_findCosts_3 (lv_at hl 4 rfl) ?_
      refine lv_iload_n hx hb dX4_findCosts_5 rfl (lv_at hl 3 rfl) ?_
      refine lv_icmp_ge (tgt := 54) hx hb dX4_findCosts_6 (by decide) (fun h => ?_) (fun h => ?_)
      · have hV := hV.1 h
        exact hret _ _ _ _ f_cost hS dX4_findCosts_54 hP hV
      · have hV := hV.2 h
        refine lv_iload hx hb dX4_findCosts_9 (lv_at hl 4 rfl) ?_
        refine lv_istore (lv' := [(5, .int v4), (0, .ref a_this), (1, .int x1), (2, .int x2), (3, .int x3), (4, .int v4)]) hx hb dX4_findCosts_11 hl (by decide) rfl (fun ls hl => ?_)
        obtain ⟨k, hV⟩ := hV
        exact b13 v4 k v4 f_cost _ _ _ hP hS (lv_sub hl [1, 2, 3, 4, 5, 0] rfl) hV
  refine lv_iconst (v := 0) hx hb dX4_findCosts_0 (by decide) ?_
  refine lv_istore (lv' := [(4, .int 0), (0, .ref a_this), (1, .int x1), (2, .int x2), (3, .int x3)]) hx hb dX4_findCosts_1 hl (by decide) rfl (fun ls hl => ?_)
  obtain ⟨k, hV⟩ := hV
  exact b3 k 0 f_cost _ _ _ hP hS (lv_sub hl [1, 2, 3, 4, 0] rfl) hV
