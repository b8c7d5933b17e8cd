def rm_X3_firstDayOver : Room := { frames := 0, cells := 0, slots := 0, locals := 0 }
def V_X3_firstDayOver_2 (x1 : Int32) (f_height : Nat → Int32) (post : Int32 → Prop) : Nat → Int32 → Prop
  | 0, _ => False
  | n + 1, v2 => ((12 ≤ v2 → post (-1)) ∧ (¬ 12 ≤ v2 → (vp_in v2 12 ∧ (((f_height v2.toNatClampNeg) ≤ x1 → (∀ v2_1 : Int32, v2_1 = (v2 + 1) → V_X3_firstDayOver_2 x1 f_height post n v2_1)) ∧ (¬ (f_height v2.toNatClampNeg) ≤ x1 → post (v2 * 30))))))
theorem V_X3_firstDayOver_2_s (x1 : Int32) (f_height : Nat → Int32) (post : Int32 → Prop) (n : Nat) (v2 : Int32) : V_X3_firstDayOver_2 x1 f_height post (n + 1) v2 = (((12 ≤ v2 → post (-1)) ∧ (¬ 12 ≤ v2 → (vp_in v2 12 ∧ (((f_height v2.toNatClampNeg) ≤ x1 → (∀ v2_1 : Int32, v2_1 = (v2 + 1) → V_X3_firstDayOver_2 x1 f_height post n v2_1)) ∧ (¬ (f_height v2.toNatClampNeg) ≤ x1 → post (v2 * 30))))))) := rfl
def P_X3_firstDayOver (x1 : Int32) (f_height : Nat → Int32) (post : Int32 → Prop) : Prop := (∃ k : Nat, V_X3_firstDayOver_2 x1 f_height post k 0)
set_option maxRecDepth 100000 in
set_option maxHeartbeats 4000000 in
theorem c_X3_firstDayOver (l : Launch) (D : va_G) (cI cB cS : ClassId) (a_this a_height : Nat) (x1 : Int32) (f_height : Nat → Int32) (post : Int32 → Prop) (hV : P_X3_firstDayOver x1 f_height post) : Ci l yX3_firstDayOver cX3_firstDayOver 3 (some .int) rm_X3_firstDayOver D cI cB cS [.ref a_this, .int x1] [oc a_this 3 [.ref a_height], ai cI a_height 12 f_height] (fun r (_ : Unit) => post r) (fun (_ : Unit) => [oc a_this 3 [.ref a_height], ai cI a_height 12 f_height]) := by
  refine Ci.of ok_X3_firstDayOver (Nat.le_of_ble_eq_true rfl) ?_
  intro p e s m args below meth c A Q hx hb hml hown ht hnm hK hP hA hS hret ls hl
  have hown : s.vm.findClass RX3 = some m.cls := hown
  have FX : CallFix p m c cX3_firstDayOver 3 s args tblG RX3 := ⟨hx, hb, hml, hown, ht⟩
  have hP : PD D A [oc a_this 3 [.ref a_height], ai cI a_height 12 f_height] s.heap := hP
  have hl : lv_has ls 3 [(0, .ref a_this), (1, .int x1)] := hl
  unfold P_X3_firstDayOver at hV
  have b2 : ∀  (k2 : Nat) (v2 : Int32) (H : Heap) (locs : List Loc) (ls : Array Slot), PD D A [oc a_this 3 [.ref a_height], ai cI a_height 12 f_height] H → va_S A s.heap H locs → lv_has ls 3 [(0, .ref a_this), (1, .int x1), (2, .int v2)] → V_X3_firstDayOver_2 x1 f_height post k2 v2 → W p l e rm_X3_firstDayOver s m args below meth c H locs 0 0 Q (F0 m 2 ls []) := by
    intro  k2
    induction k2 with
    | zero => intro v2 H locs ls hP hS hl hV; exact False.elim hV
    | succ k2 ih2 =>
      intro v2 H locs ls hP hS hl hV
      rw [V_X3_firstDayOver_2_s] at hV
      refine lv_iload_n hx hb dX3_firstDayOver_2 rfl (lv_at hl 2 rfl) ?_
      refine lv_bipush (v := 12) hx hb dX3_firstDayOver_3 (by decide) ?_
      refine lv_icmp_ge (tgt := 29) hx hb dX3_firstDayOver_5 (by decide) (fun h => ?_) (fun h => ?_)
      · have hV := hV.1 h
        refine lv_iconst (v := (-1)) hx hb dX3_firstDayOver_29 (by decide) ?_
        exact hret _ _ _ _ _ () hS dX3_firstDayOver_30 hP hV
      · have hV := hV.2 h
        refine lv_iload_n hx hb dX3_firstDayOver_8 rfl (lv_at hl 1 rfl) ?_
        refine lv_aload_n hx hb dX3_firstDayOver_9 rfl (lv_at hl 0 rfl) ?_
        refine gX3 hx hb ht hown hK hP 0 rfl 0 (by decide) fl_X3_9 (fun _ h => h) rfl dX3_firstDayOver_10 ?_
        refine lv_iload_n hx hb dX3_firstDayOver_13 rfl (lv_at hl 2 rfl) ?_
        refine ild hx hb hK hP 1 rfl dX3_firstDayOver_14 hV.1 ?_
        have hV := hV.2
        refine lv_icmp_ge (tgt := 23) hx hb dX3_firstDayOver_15 (by decide) (fun h => ?_) (fun h => ?_)
        · have hV := hV.1 h
          obtain ⟨v2_1, e_v2_1⟩ : ∃ y : Int32, y = (v2 + 1) := ⟨_, rfl⟩
          have hV := hV v2_1 e_v2_1
          refine lv_iinc (v := v2_1) (lv' := [(2, .int v2_1), (0, .ref a_this), (1, .int x1)]) hx hb dX3_firstDayOver_23 hl (k := 2) rfl (by rw [e_v2_1]; rfl) (by decide) rfl (fun ls hl => ?_)
          refine lv_goto (tgt := 2) hx hb dX3_firstDayOver_26 (by decide) ?_
          exact ih2 v2_1 _ _ _ hP hS (lv_sub hl [1, 2, 0] rfl) hV
        · have hV := hV.2 h
          refine lv_iload_n hx hb dX3_firstDayOver_18 rfl (lv_at hl 2 rfl) ?_
          refine lv_bipush (v := 30) hx hb dX3_firstDayOver_19 (by decide) ?_
          refine lv_imul hx hb dX3_firstDayOver_21 ?_
          exact hret _ _ _ _ _ () hS dX3_firstDayOver_22 hP hV
  refine lv_iconst (v := 0) hx hb dX3_firstDayOver_0 (by decide) ?_
  refine lv_istore_n (lv' := [(2, .int 0), (0, .ref a_this), (1, .int x1)]) hx hb dX3_firstDayOver_1 rfl hl (by decide) rfl (fun ls hl => ?_)
  obtain ⟨k, hV⟩ := hV
  exact b2 k 0 _ _ _ hP hS (lv_sub hl [1, 2, 0] rfl) hV

def rm_X9_place : Room := { frames := 0, cells := 0, slots := 0, locals := 0 }
def P_X9_place (x0 : Int32) (x1 : Int32) (post : Int32 → Prop) : Prop := post ((x1 * 8) + x0)
set_option maxRecDepth 100000 in
set_option maxHeartbeats 4000000 in
theorem c_X9_place (l : Launch) (D : va_G) (cI cB cS : ClassId) (x0 : Int32) (x1 : Int32) (post : Int32 → Prop) (hV : P_X9_place x0 x1 post) : Ci l yX9_place cX9_place 2 (some .int) rm_X9_place D cI cB cS [.int x0, .int x1] [] (fun r (_ : Unit) => post r) (fun (_ : Unit) => []) := by
  refine Ci.of ok_X9_place (Nat.le_of_ble_eq_true rfl) ?_
  intro p e s m args below meth c A Q hx hb hml hown ht hnm hK hP hA hS hret ls hl
  have hown : s.vm.findClass RX9 = some m.cls := hown
  have FX : CallFix p m c cX9_place 2 s args tblG RX9 := ⟨hx, hb, hml, hown, ht⟩
  have hP : PD D A [] s.heap := hP
  have hl : lv_has ls 2 [(0, .int x0), (1, .int x1)] := hl
  unfold P_X9_place at hV
  refine lv_iload_n hx hb dX9_place_0 rfl (lv_at hl 1 rfl) ?_
  refine lv_bipush (v := 8) hx hb dX9_place_1 (by decide) ?_
  refine lv_imul hx hb dX9_place_3 ?_
  refine lv_iload_n hx hb dX9_place_4 rfl (lv_at hl 0 rfl) ?_
  refine lv_iadd hx hb dX9_place_5 ?_
  exact hret _ _ _ _ _ () hS dX9_place_6 hP hV

def rm_X1_add : Room := { frames := 0, cells := 0, slots := 0, locals := 0 }
def P_X1_add (x1 : Int32) (i_places : Int32) (f_block : Nat → Int32) (post : Int32 → (Nat → Int32) → Prop) : Prop := ((64 ≤ i_places → post i_places f_block) ∧ (¬ 64 ≤ i_places → (vp_in i_places 64 ∧ ∀ f_block_1 : Nat → Int32, f_block_1 = upd f_block i_places.toNatClampNeg x1 → (∀ i_places_2 : Int32, i_places_2 = (i_places + 1) → post i_places_2 f_block_1))))
set_option maxRecDepth 100000 in
set_option maxHeartbeats 4000000 in
theorem c_X1_add (l : Launch) (D : va_G) (cI cB cS : ClassId) (a_this a_block : Nat) (x1 : Int32) (i_places : Int32) (f_block : Nat → Int32) (post : Int32 → (Nat → Int32) → Prop) (hV : P_X1_add x1 i_places f_block post) : Cv l yX1_add cX1_add 2 none rm_X1_add D cI cB cS [.ref a_this, .int x1] [oc a_this 1 [.int i_places, .ref a_block], ai cI a_block 64 f_block] (fun (u : Int32 × (Nat → Int32)) => post u.1 u.2) (fun (u : Int32 × (Nat → Int32)) => [oc a_this 1 [.int u.1, .ref a_block], ai cI a_block 64 (u.2)]) := by
  refine Cv.of ok_X1_add (Nat.le_of_ble_eq_true rfl) ?_
  intro p e s m args below meth c A Q hx hb hml hown ht hnm hK hP hA hS hret ls hl
  have hown : s.vm.findClass RX1 = some m.cls := hown
  have FX : CallFix p m c cX1_add 2 s args tblG RX1 := ⟨hx, hb, hml, hown, ht⟩
  have hP : PD D A [oc a_this 1 [.int i_places, .ref a_block], ai cI a_block 64 f_block] s.heap := hP
  have hl : lv_has ls 2 [(0, .ref a_this), (1, .int x1)] := hl
  unfold P_X1_add at hV
  refine lv_aload_n hx hb dX1_add_0 rfl (lv_at hl 0 rfl) ?_
  refine gX1 hx hb ht hown hK hP 0 rfl 0 (by decide) fl_X1_15 (fun _ h => h) rfl dX1_add_1 ?_
  refine lv_bipush (v := 64) hx hb dX1_add_4 (by decide) ?_
  refine lv_icmp_ge (tgt := 29) hx hb dX1_add_6 (by decide) (fun h => ?_) (fun h => ?_)
  · have hV := hV.1 h
    exact hret _ _ _ _ (i_places, f_block) hS dX1_add_29 hP hV
  · have hV := hV.2 h
    refine lv_aload_n hx hb dX1_add_9 rfl (lv_at hl 0 rfl) ?_
    refine gX1 hx hb ht hown hK hP 0 rfl 1 (by decide) fl_X1_9 (fun _ h => h) rfl dX1_add_10 ?_
    refine lv_aload_n hx hb dX1_add_13 rfl (lv_at hl 0 rfl) ?_
    refine gX1 hx hb ht hown hK hP 0 rfl 0 (by decide) fl_X1_15 (fun _ h => h) rfl dX1_add_14 ?_
    refine lv_iload_n hx hb dX1_add_17 rfl (lv_at hl 1 rfl) ?_
    refine ist hx hb hK hP hS 1 rfl dX1_add_18 hV.1 (fun f_block_1 e_f_block_1 H locs hP hS => ?_)
    have hV := hV.2 f_block_1 e_f_block_1
    have hP : PD D A [oc a_this 1 [.int i_places, .ref a_block], ai cI a_block 64 f_block_1] H := hP
    refine lv_aload_n hx hb dX1_add_19 rfl (lv_at hl 0 rfl) ?_
    refine lv_dup hx hb dX1_add_20 rfl ?_
    refine gX1 hx hb ht hown hK hP 0 rfl 0 (by decide) fl_X1_15 (fun _ h => h) rfl dX1_add_21 ?_
    refine lv_iconst (v := 1) hx hb dX1_add_24 (by decide) ?_
    refine lv_iadd hx hb dX1_add_25 ?_
    refine lv_topi (fun i_places_2 e_i_places_2 => ?_)
    have hV := hV i_places_2 e_i_places_2
    refine pX1 hx hb ht hown hK hP hS 0 rfl 0 (by decide) fl_X1_15 (fun _ h => h) rfl (tyX1_ok 0 (by decide)) rfl rfl (Nat.le_of_ble_eq_true rfl) dX1_add_26 (fun H locs hP hS => ?_)
    have hP : PD D A [oc a_this 1 [.int i_places_2, .ref a_block], ai cI a_block 64 f_block_1] H := hP
    exact hret _ _ _ _ (i_places_2, f_block_1) hS dX1_add_29 hP hV

def rm_X1_clear : Room := { frames := 0, cells := 0, slots := 0, locals := 0 }
def P_X1_clear (post : Int32 → Prop) : Prop := post 0
set_option maxRecDepth 100000 in
set_option maxHeartbeats 4000000 in
theorem c_X1_clear (l : Launch) (D : va_G) (cI cB cS : ClassId) (a_this a_block : Nat) (i_places : Int32) (post : Int32 → Prop) (hV : P_X1_clear post) : Cv l yX1_clear cX1_clear 1 none rm_X1_clear D cI cB cS [.ref a_this] [oc a_this 1 [.int i_places, .ref a_block]] (fun (u : Int32) => post u) (fun (u : Int32) => [oc a_this 1 [.int u, .ref a_block]]) := by
  refine Cv.of ok_X1_clear (Nat.le_of_ble_eq_true rfl) ?_
  intro p e s m args below meth c A Q hx hb hml hown ht hnm hK hP hA hS hret ls hl
  have hown : s.vm.findClass RX1 = some m.cls := hown
  have FX : CallFix p m c cX1_clear 1 s args tblG RX1 := ⟨hx, hb, hml, hown, ht⟩
  have hP : PD D A [oc a_this 1 [.int i_places, .ref a_block]] s.heap := hP
  have hl : lv_has ls 1 [(0, .ref a_this)] := hl
  unfold P_X1_clear at hV
  refine lv_aload_n hx hb dX1_clear_0 rfl (lv_at hl 0 rfl) ?_
  refine lv_iconst (v := 0) hx hb dX1_clear_1 (by decide) ?_
  refine pX1 hx hb ht hown hK hP hS 0 rfl 0 (by decide) fl_X1_15 (fun _ h => h) rfl (tyX1_ok 0 (by decide)) rfl rfl (Nat.le_of_ble_eq_true rfl) dX1_clear_2 (fun H locs hP hS => ?_)
  have hP : PD D A [oc a_this 1 [.int 0, .ref a_block]] H := hP
  exact hret _ _ _ _ 0 hS dX1_clear_5 hP hV

def rm_X1_init : Room := { frames := 1, cells := 1, slots := 64, locals := 12 }
def P_X1_init (post : Nat → Int32 → (Nat → Int32) → Prop) : Prop := (∀ q7 : Nat, post q7 0 (fun _ => 0))
set_option maxRecDepth 100000 in
set_option maxHeartbeats 4000000 in
theorem c_X1_init (l : Launch) (D : va_G) (cI cB cS : ClassId) (a_this : Nat) (post : Nat → Int32 → (Nat → Int32) → Prop) (hV : P_X1_init post) : Cv l yX1_init cX1_init 1 none rm_X1_init D cI cB cS [.ref a_this] [oc a_this 1 [.int 0, .null]] (fun (u : Nat × Int32 × (Nat → Int32)) => post u.1 u.2.1 u.2.2) (fun (u : Nat × Int32 × (Nat → Int32)) => [oc a_this 1 [.int u.2.1, .ref u.1], ai cI u.1 64 (u.2.2)]) := by
  refine Cv.of ok_X1_init (Nat.le_of_ble_eq_true rfl) ?_
  intro p e s m args below meth c A Q hx hb hml hown ht hnm hK hP hA hS hret ls hl
  have hown : s.vm.findClass RX1 = some m.cls := hown
  have FX : CallFix p m c cX1_init 1 s args tblG RX1 := ⟨hx, hb, hml, hown, ht⟩
  have hP : PD D A [oc a_this 1 [.int 0, .null]] s.heap := hP
  have hl : lv_has ls 1 [(0, .ref a_this)] := hl
  unfold P_X1_init at hV
  refine lv_aload_n hx hb dX1_init_0 rfl (lv_at hl 0 rfl) ?_
  refine oin hx hb ht hown (hml.trans hl.1.symm) li_X1_3 (Nat.le_of_ble_eq_true rfl) (Nat.le_of_ble_eq_true rfl) dX1_init_1 ?_
  refine lv_aload_n hx hb dX1_init_4 rfl (lv_at hl 0 rfl) ?_
  refine lv_bipush (v := 64) hx hb dX1_init_5 (by decide) ?_
  refine nai hx hb ht hK hP hS hA 64 (by decide) (by decide) (by decide) (Nat.le_of_ble_eq_true rfl) (Nat.le_of_ble_eq_true rfl) dX1_init_7 (fun q7 H hP hS => ?_)
  have hV := hV q7
  have hP : PD D A [oc a_this 1 [.int 0, .null], ai cI q7 64 (fun _ => 0)] H := hP
  refine qX1 hx hb ht hown hK hP hS 0 rfl 1 (by decide) fl_X1_9 (fun _ h => h) rfl hnm rfl (tyX1_ok 1 (by decide)) rfl rfl (Nat.le_of_ble_eq_true rfl) dX1_init_9 (fun H locs hP hS => ?_)
  have hP : PD D A [oc a_this 1 [.int 0, .ref q7], ai cI q7 64 (fun _ => 0)] H := hP
  exact hret _ _ _ _ (q7, 0, (fun _ => 0)) hS dX1_init_12 hP hV

def rm_X9_copyRow : Room := { frames := 1, cells := 0, slots := 0, locals := 18 }
def P_X9_copyRow (n_this : Nat) (n_p1 : Nat) (f_this : Nat → Int32) (f_p1 : Nat → Int32) (post : (Nat → Int32) → Prop) : Prop := (∀ m_1 : Int32, m_1 = (if (nI n_p1) < (nI n_this) then (nI n_p1) else (nI n_this)) → (((¬ (0 : Int32) < 0 ∧ ¬ (0 : Int32) < 0 ∧ ¬ m_1 < 0) ∧ (0 : Int32).toNatClampNeg + m_1.toNatClampNeg ≤ n_this ∧ (0 : Int32).toNatClampNeg + m_1.toNatClampNeg ≤ n_p1) ∧ ∀ f_p1_2 : Nat → Int32, f_p1_2 = va_cpy f_this f_p1 (0 : Int32).toNatClampNeg (0 : Int32).toNatClampNeg m_1.toNatClampNeg → post f_p1_2))
set_option maxRecDepth 100000 in
set_option maxHeartbeats 4000000 in
theorem c_X9_copyRow (l : Launch) (D : va_G) (cI cB cS : ClassId) (a_this a_p1 : Nat) (n_this : Nat) (n_p1 : Nat) (f_this : Nat → Int32) (f_p1 : Nat → Int32) (post : (Nat → Int32) → Prop) (hV : P_X9_copyRow n_this n_p1 f_this f_p1 post) : Cv l yX9_copyRow cX9_copyRow 2 none rm_X9_copyRow D cI cB cS [.ref a_this, .ref a_p1] [ai cI a_this n_this f_this, ai cI a_p1 n_p1 f_p1] (fun (u : (Nat → Int32)) => post u) (fun (u : (Nat → Int32)) => [ai cI a_this n_this f_this, ai cI a_p1 n_p1 u]) := by
  refine Cv.of ok_X9_copyRow (Nat.le_of_ble_eq_true rfl) ?_
  intro p e s m args below meth c A Q hx hb hml hown ht hnm hK hP hA hS hret ls hl
  have hown : s.vm.findClass RX9 = some m.cls := hown
  have FX : CallFix p m c cX9_copyRow 2 s args tblG RX9 := ⟨hx, hb, hml, hown, ht⟩
  have hP : PD D A [ai cI a_this n_this f_this, ai cI a_p1 n_p1 f_p1] s.heap := hP
  have hl : lv_has ls 2 [(0, .ref a_this), (1, .ref a_p1)] := hl
  unfold P_X9_copyRow at hV
  refine lv_aload_n hx hb dX9_copyRow_0 rfl (lv_at hl 0 rfl) ?_
  refine lv_iconst (v := 0) hx hb dX9_copyRow_1 (by decide) ?_
  refine lv_aload_n hx hb dX9_copyRow_2 rfl (lv_at hl 1 rfl) ?_
  refine lv_iconst (v := 0) hx hb dX9_copyRow_3 (by decide) ?_
  refine lv_aload_n hx hb dX9_copyRow_4 rfl (lv_at hl 0 rfl) ?_
  refine iln hx hb hK hP 0 rfl dX9_copyRow_5 ?_
  refine lv_aload_n hx hb dX9_copyRow_6 rfl (lv_at hl 1 rfl) ?_
  refine iln hx hb hK hP 1 rfl dX9_copyRow_7 ?_
  refine mmin hx hb (hml.trans hl.1.symm) ht hown li_X9_221 (Nat.le_of_ble_eq_true rfl) (Nat.le_of_ble_eq_true rfl) ⟨Nat.le_of_ble_eq_true rfl, Nat.le_of_ble_eq_true rfl⟩ dX9_copyRow_8 ?_
  refine lv_topi (fun m_1 e_m_1 => ?_)
  have hV := hV m_1 e_m_1
  refine cpi (rest := []) hx hb (hml.trans hl.1.symm) ht hown hK hP hS 0 1 li_X9_226 rfl rfl (Nat.le_of_ble_eq_true rfl) (Nat.le_of_ble_eq_true rfl) dX9_copyRow_11 hV.1 (fun f_p1_2 e_f_p1_2 H locs hP hS => ?_)
  have hV := hV.2 f_p1_2 e_f_p1_2
  have hP : PD D A [ai cI a_this n_this f_this, ai cI a_p1 n_p1 f_p1_2] H := hP
  exact hret _ _ _ _ f_p1_2 hS dX9_copyRow_14 hP hV

def rm_X1_become : Room := { frames := 2, cells := 0, slots := 0, locals := 39 }
def P_X1_become (f_block : Nat → Int32) (i_p1_places : Int32) (f_p1_block : Nat → Int32) (post : Int32 → (Nat → Int32) → Prop) : Prop := P_X9_copyRow 64 64 f_p1_block f_block (fun f_block_1 => post i_p1_places f_block_1)
set_option maxRecDepth 100000 in
set_option maxHeartbeats 4000000 in
theorem c_X1_become (l : Launch) (D : va_G) (cI cB cS : ClassId) (a_this a_block a_p1 a_p1_block : Nat) (i_places : Int32) (f_block : Nat → Int32) (i_p1_places : Int32) (f_p1_block : Nat → Int32) (post : Int32 → (Nat → Int32) → Prop) (hV : P_X1_become f_block i_p1_places f_p1_block post) : Cv l yX1_become cX1_become 2 none rm_X1_become D cI cB cS [.ref a_this, .ref a_p1] [oc a_this 1 [.int i_places, .ref a_block], ai cI a_block 64 f_block, oc a_p1 1 [.int i_p1_places, .ref a_p1_block], ai cI a_p1_block 64 f_p1_block] (fun (u : Int32 × (Nat → Int32)) => post u.1 u.2) (fun (u : Int32 × (Nat → Int32)) => [oc a_this 1 [.int u.1, .ref a_block], ai cI a_block 64 (u.2), oc a_p1 1 [.int i_p1_places, .ref a_p1_block], ai cI a_p1_block 64 f_p1_block]) := by
  refine Cv.of ok_X1_become (Nat.le_of_ble_eq_true rfl) ?_
  intro p e s m args below meth c A Q hx hb hml hown ht hnm hK hP hA hS hret ls hl
  have hown : s.vm.findClass RX1 = some m.cls := hown
  have FX : CallFix p m c cX1_become 2 s args tblG RX1 := ⟨hx, hb, hml, hown, ht⟩
  have hP : PD D A [oc a_this 1 [.int i_places, .ref a_block], ai cI a_block 64 f_block, oc a_p1 1 [.int i_p1_places, .ref a_p1_block], ai cI a_p1_block 64 f_p1_block] s.heap := hP
  have hl : lv_has ls 2 [(0, .ref a_this), (1, .ref a_p1)] := hl
  unfold P_X1_become at hV
  refine lv_aload_n hx hb dX1_become_0 rfl (lv_at hl 0 rfl) ?_
  refine lv_aload_n hx hb dX1_become_1 rfl (lv_at hl 1 rfl) ?_
  refine gX1 hx hb ht hown hK hP 2 rfl 0 (by decide) fl_X1_15 (fun _ h => h) rfl dX1_become_2 ?_
  refine pX1 hx hb ht hown hK hP hS 0 rfl 0 (by decide) fl_X1_15 (fun _ h => h) rfl (tyX1_ok 0 (by decide)) rfl rfl (Nat.le_of_ble_eq_true rfl) dX1_become_5 (fun H locs hP hS => ?_)
  have hP : PD D A [oc a_this 1 [.int i_p1_places, .ref a_block], ai cI a_block 64 f_block, oc a_p1 1 [.int i_p1_places, .ref a_p1_block], ai cI a_p1_block 64 f_p1_block] H := hP
  refine lv_aload_n hx hb dX1_become_8 rfl (lv_at hl 1 rfl) ?_
  refine gX1 hx hb ht hown hK hP 2 rfl 1 (by decide) fl_X1_9 (fun _ h => h) rfl dX1_become_9 ?_
  refine lv_aload_n hx hb dX1_become_12 rfl (lv_at hl 0 rfl) ?_
  refine gX1 hx hb ht hown hK hP 0 rfl 1 (by decide) fl_X1_9 (fun _ h => h) rfl dX1_become_13 ?_
  refine KNv (As := [.ref a_p1_block, .ref a_block]) (rest := []) FX (c_X9_copyRow l D cI cB cS a_p1_block a_block 64 64 f_p1_block f_block _ hV) ok_X9_copyRow is_X9_copyRow nq_X1_19 dX1_become_16 hK hP hS hA [3, 1] [0, 2] rfl rfl (by decide) rfl hl.1 (Nat.le_of_ble_eq_true rfl) ⟨Nat.le_of_ble_eq_true rfl, Nat.le_of_ble_eq_true rfl⟩ ⟨Nat.le_of_ble_eq_true rfl, Nat.le_of_ble_eq_true rfl⟩ (fun f_block_1 H locs hV hP hS => ?_)
  have hP : PD D A [oc a_this 1 [.int i_p1_places, .ref a_block], oc a_p1 1 [.int i_p1_places, .ref a_p1_block], ai cI a_p1_block 64 f_p1_block, ai cI a_block 64 f_block_1] H := hP
  exact hret _ _ _ _ (i_p1_places, f_block_1) hS dX1_become_19 (hP.sub [0, 3, 1, 2] rfl rfl) hV

def rm_X9_within : Room := { frames := 0, cells := 0, slots := 0, locals := 0 }
def P_X9_within (x0 : Int32) (x1 : Int32) (x2 : Int32) (post : Int32 → Prop) : Prop := ((x0 < x1 → post 0) ∧ (¬ x0 < x1 → ((x2 < x0 → post 0) ∧ (¬ x2 < x0 → post 1))))
set_option maxRecDepth 100000 in
set_option maxHeartbeats 4000000 in
theorem c_X9_within (l : Launch) (D : va_G) (cI cB cS : ClassId) (x0 : Int32) (x1 : Int32) (x2 : Int32) (post : Int32 → Prop) (hV : P_X9_within x0 x1 x2 post) : Ci l yX9_within cX9_within 3 (some .boolean) rm_X9_within D cI cB cS [.int x0, .int x1, .int x2] [] (fun r (_ : Unit) => post r) (fun (_ : Unit) => []) := by
  refine Cz.of ok_X9_within (Nat.le_of_ble_eq_true rfl) ?_
  intro p e s m args below meth c A Q hx hb hml hown ht hnm hK hP hA hS hret ls hl
  have hown : s.vm.findClass RX9 = some m.cls := hown
  have FX : CallFix p m c cX9_within 3 s args tblG RX9 := ⟨hx, hb, hml, hown, ht⟩
  have hP : PD D A [] s.heap := hP
  have hl : lv_has ls 3 [(0, .int x0), (1, .int x1), (2, .int x2)] := hl
  unfold P_X9_within at hV
  refine lv_iload_n hx hb dX9_within_0 rfl (lv_at hl 0 rfl) ?_
  refine lv_iload_n hx hb dX9_within_1 rfl (lv_at hl 1 rfl) ?_
  refine lv_icmp_lt (tgt := 14) hx hb dX9_within_2 (by decide) (fun h => ?_) (fun h => ?_)
  · have hV := hV.1 h
    refine lv_iconst (v := 0) hx hb dX9_within_14 (by decide) ?_
    exact hret _ _ _ _ _ () hS dX9_within_15 hP (by decide) hV
  · have hV := hV.2 h
    refine lv_iload_n hx hb dX9_within_5 rfl (lv_at hl 0 rfl) ?_
    refine lv_iload_n hx hb dX9_within_6 rfl (lv_at hl 2 rfl) ?_
    refine lv_icmp_gt (tgt := 14) hx hb dX9_within_7 (by decide) (fun h => ?_) (fun h => ?_)
    · have hV := hV.1 h
      refine lv_iconst (v := 0) hx hb dX9_within_14 (by decide) ?_
      exact hret _ _ _ _ _ () hS dX9_within_15 hP (by decide) hV
    · have hV := hV.2 h
      refine lv_iconst (v := 1) hx hb dX9_within_10 (by decide) ?_
      refine lv_goto (tgt := 15) hx hb dX9_within_11 (by decide) ?_
      exact hret _ _ _ _ _ () hS dX9_within_15 hP (by decide) hV

def rm_X3_init : Room := { frames := 1, cells := 1, slots := 12, locals := 12 }
def P_X3_init (post : Nat → (Nat → Int32) → Prop) : Prop := (∀ q7 : Nat, post q7 (fun _ => 0))
set_option maxRecDepth 100000 in
set_option maxHeartbeats 4000000 in
theorem c_X3_init (l : Launch) (D : va_G) (cI cB cS : ClassId) (a_this : Nat) (post : Nat → (Nat → Int32) → Prop) (hV : P_X3_init post) : Cv l yX3_init cX3_init 1 none rm_X3_init D cI cB cS [.ref a_this] [oc a_this 3 [.null]] (fun (u : Nat × (Nat → Int32)) => post u.1 u.2) (fun (u : Nat × (Nat → Int32)) => [oc a_this 3 [.ref u.1], ai cI u.1 12 (u.2)]) := by
  refine Cv.of ok_X3_init (Nat.le_of_ble_eq_true rfl) ?_
  intro p e s m args below meth c A Q hx hb hml hown ht hnm hK hP hA hS hret ls hl
  have hown : s.vm.findClass RX3 = some m.cls := hown
  have FX : CallFix p m c cX3_init 1 s args tblG RX3 := ⟨hx, hb, hml, hown, ht⟩
  have hP : PD D A [oc a_this 3 [.null]] s.heap := hP
  have hl : lv_has ls 1 [(0, .ref a_this)] := hl
  unfold P_X3_init at hV
  refine lv_aload_n hx hb dX3_init_0 rfl (lv_at hl 0 rfl) ?_
  refine oin hx hb ht hown (hml.trans hl.1.symm) li_X3_3 (Nat.le_of_ble_eq_true rfl) (Nat.le_of_ble_eq_true rfl) dX3_init_1 ?_
  refine lv_aload_n hx hb dX3_init_4 rfl (lv_at hl 0 rfl) ?_
  refine lv_bipush (v := 12) hx hb dX3_init_5 (by decide) ?_
  refine nai hx hb ht hK hP hS hA 12 (by decide) (by decide) (by decide) (Nat.le_of_ble_eq_true rfl) (Nat.le_of_ble_eq_true rfl) dX3_init_7 (fun q7 H hP hS => ?_)
  have hV := hV q7
  have hP : PD D A [oc a_this 3 [.null], ai cI q7 12 (fun _ => 0)] H := hP
  refine qX3 hx hb ht hown hK hP hS 0 rfl 0 (by decide) fl_X3_9 (fun _ h => h) rfl hnm rfl (tyX3_ok 0 (by decide)) rfl rfl (Nat.le_of_ble_eq_true rfl) dX3_init_9 (fun H locs hP hS => ?_)
  have hP : PD D A [oc a_this 3 [.ref q7], ai cI q7 12 (fun _ => 0)] H := hP
  exact hret _ _ _ _ (q7, (fun _ => 0)) hS dX3_init_12 hP hV

def rm_X3_covers : Room := { frames := 1, cells := 0, slots := 0, locals := 13 }
def P_X3_covers (x1 : Int32) (x2 : Int32) (f_height : Nat → Int32) (post : Int32 → Prop) : Prop := (∀ m_1 : Int32, m_1 = (if 11 < (x2 / 30) then 11 else (x2 / 30)) → (vp_in m_1 12 ∧ (((f_height m_1.toNatClampNeg) ≤ x1 → post 0) ∧ (¬ (f_height m_1.toNatClampNeg) ≤ x1 → post 1))))
set_option maxRecDepth 100000 in
set_option maxHeartbeats 4000000 in
theorem c_X3_covers (l : Launch) (D : va_G) (cI cB cS : ClassId) (a_this a_height : Nat) (x1 : Int32) (x2 : Int32) (f_height : Nat → Int32) (post : Int32 → Prop) (hV : P_X3_covers x1 x2 f_height post) : Ci l yX3_covers cX3_covers 4 (some .boolean) rm_X3_covers D cI cB cS [.ref a_this, .int x1, .int x2] [oc a_this 3 [.ref a_height], ai cI a_height 12 f_height] (fun r (_ : Unit) => post r) (fun (_ : Unit) => [oc a_this 3 [.ref a_height], ai cI a_height 12 f_height]) := by
  refine Cz.of ok_X3_covers (Nat.le_of_ble_eq_true rfl) ?_
  intro p e s m args below meth c A Q hx hb hml hown ht hnm hK hP hA hS hret ls hl
  have hown : s.vm.findClass RX3 = some m.cls := hown
  have FX : CallFix p m c cX3_covers 4 s args tblG RX3 := ⟨hx, hb, hml, hown, ht⟩
  have hP : PD D A [oc a_this 3 [.ref a_height], ai cI a_height 12 f_height] s.heap := hP
  have hl : lv_has ls 4 [(0, .ref a_this), (1, .int x1), (2, .int x2)] := hl
  unfold P_X3_covers at hV
  refine lv_iload_n hx hb dX3_covers_0 rfl (lv_at hl 2 rfl) ?_
  refine lv_bipush (v := 30) hx hb dX3_covers_1 (by decide) ?_
  refine lv_idiv hx hb dX3_covers_3 (by decide) ?_
  refine lv_bipush (v := 11) hx hb dX3_covers_4 (by decide) ?_
  refine mmin hx hb (hml.trans hl.1.symm) ht hown li_X3_15 (Nat.le_of_ble_eq_true rfl) (Nat.le_of_ble_eq_true rfl) ⟨Nat.le_of_ble_eq_true rfl, Nat.le_of_ble_eq_true rfl⟩ dX3_covers_6 ?_
  refine lv_topi (fun m_1 e_m_1 => ?_)
  have hV := hV m_1 e_m_1
  refine lv_istore_n (lv' := [(3, .int m_1), (0, .ref a_this), (1, .int x1), (2, .int x2)]) hx hb dX3_covers_9 rfl hl (by decide) rfl (fun ls hl => ?_)
  refine lv_iload_n hx hb dX3_covers_10 rfl (lv_at hl 2 rfl) ?_
  refine lv_aload_n hx hb dX3_covers_11 rfl (lv_at hl 1 rfl) ?_
  refine gX3 hx hb ht hown hK hP 0 rfl 0 (by decide) fl_X3_9 (fun _ h => h) rfl dX3_covers_12 ?_
  refine lv_iload_n hx hb dX3_covers_15 rfl (lv_at hl 0 rfl) ?_
  refine ild hx hb hK hP 1 rfl dX3_covers_16 hV.1 ?_
  have hV := hV.2
  refine lv_icmp_ge (tgt := 24) hx hb dX3_covers_17 (by decide) (fun h => ?_) (fun h => ?_)
  · have hV := hV.1 h
    refine lv_iconst (v := 0) hx hb dX3_covers_24 (by decide) ?_
    exact hret _ _ _ _ _ () hS dX3_covers_25 hP (by decide) hV
  · have hV := hV.2 h
    refine lv_iconst (v := 1) hx hb dX3_covers_20 (by decide) ?_
    refine lv_goto (tgt := 25) hx hb dX3_covers_21 (by decide) ?_
    exact hret _ _ _ _ _ () hS dX3_covers_25 hP (by decide) hV

def rm_X3_become : Room := { frames := 2, cells := 0, slots := 0, locals := 39 }
def P_X3_become (f_height : Nat → Int32) (f_p1_height : Nat → Int32) (post : (Nat → Int32) → Prop) : Prop := P_X9_copyRow 12 12 f_p1_height f_height (fun f_height_1 => post f_height_1)
set_option maxRecDepth 100000 in
set_option maxHeartbeats 4000000 in
theorem c_X3_become (l : Launch) (D : va_G) (cI cB cS : ClassId) (a_this a_height a_p1 a_p1_height : Nat) (f_height : Nat → Int32) (f_p1_height : Nat → Int32) (post : (Nat → Int32) → Prop) (hV : P_X3_become f_height f_p1_height post) : Cv l yX3_become cX3_become 2 none rm_X3_become D cI cB cS [.ref a_this, .ref a_p1] [oc a_this 3 [.ref a_height], ai cI a_height 12 f_height, oc a_p1 3 [.ref a_p1_height], ai cI a_p1_height 12 f_p1_height] (fun (u : (Nat → Int32)) => post u) (fun (u : (Nat → Int32)) => [oc a_this 3 [.ref a_height], ai cI a_height 12 u, oc a_p1 3 [.ref a_p1_height], ai cI a_p1_height 12 f_p1_height]) := by
  refine Cv.of ok_X3_become (Nat.le_of_ble_eq_true rfl) ?_
  intro p e s m args below meth c A Q hx hb hml hown ht hnm hK hP hA hS hret ls hl
  have hown : s.vm.findClass RX3 = some m.cls := hown
  have FX : CallFix p m c cX3_become 2 s args tblG RX3 := ⟨hx, hb, hml, hown, ht⟩
  have hP : PD D A [oc a_this 3 [.ref a_height], ai cI a_height 12 f_height, oc a_p1 3 [.ref a_p1_height], ai cI a_p1_height 12 f_p1_height] s.heap := hP
  have hl : lv_has ls 2 [(0, .ref a_this), (1, .ref a_p1)] := hl
  unfold P_X3_become at hV
  refine lv_aload_n hx hb dX3_become_0 rfl (lv_at hl 1 rfl) ?_
  refine gX3 hx hb ht hown hK hP 2 rfl 0 (by decide) fl_X3_9 (fun _ h => h) rfl dX3_become_1 ?_
  refine lv_aload_n hx hb dX3_become_4 rfl (lv_at hl 0 rfl) ?_
  refine gX3 hx hb ht hown hK hP 0 rfl 0 (by decide) fl_X3_9 (fun _ h => h) rfl dX3_become_5 ?_
  refine KNv (As := [.ref a_p1_height, .ref a_height]) (rest := []) FX (c_X9_copyRow l D cI cB cS a_p1_height a_height 12 12 f_p1_height f_height _ hV) ok_X9_copyRow is_X9_copyRow nq_X3_21 dX3_become_8 hK hP hS hA [3, 1] [0, 2] rfl rfl (by decide) rfl hl.1 (Nat.le_of_ble_eq_true rfl) ⟨Nat.le_of_ble_eq_true rfl, Nat.le_of_ble_eq_true rfl⟩ ⟨Nat.le_of_ble_eq_true rfl, Nat.le_of_ble_eq_true rfl⟩ (fun f_height_1 H locs hV hP hS => ?_)
  have hP : PD D A [oc a_this 3 [.ref a_height], oc a_p1 3 [.ref a_p1_height], ai cI a_p1_height 12 f_p1_height, ai cI a_height 12 f_height_1] H := hP
  exact hret _ _ _ _ f_height_1 hS dX3_become_11 (hP.sub [0, 3, 1, 2] rfl rfl) hV

def rm_J7_fill_53178 : Room := { frames := 0, cells := 0, slots := 0, locals := 0 }
def V_J7_fill_53178_5 (n_this : Nat) (x1 : Int32) (v3 : Int32) (post : (Nat → Int32) → Prop) : Nat → Int32 → (Nat → Int32) → Prop
  | 0, _, _ => False
  | n + 1, v2, f_this => ((v3 ≤ v2 → post f_this) ∧ (¬ v3 ≤ v2 → (vp_in v2 n_this ∧ ∀ f_this_1 : Nat → Int32, f_this_1 = upd f_this v2.toNatClampNeg x1 → (∀ v2_2 : Int32, v2_2 = (v2 + 1) → V_J7_fill_53178_5 n_this x1 v3 post n v2_2 f_this_1))))
theorem V_J7_fill_53178_5_s (n_this : Nat) (x1 : Int32) (v3 : Int32) (post : (Nat → Int32) → Prop) (n : Nat) (v2 : Int32) (f_this : Nat → Int32) : V_J7_fill_53178_5 n_this x1 v3 post (n + 1) v2 f_this = (((v3 ≤ v2 → post f_this) ∧ (¬ v3 ≤ v2 → (vp_in v2 n_this ∧ ∀ f_this_1 : Nat → Int32, f_this_1 = upd f_this v2.toNatClampNeg x1 → (∀ v2_2 : Int32, v2_2 = (v2 + 1) → V_J7_fill_53178_5 n_this x1 v3 post n v2_2 f_this_1))))) := rfl
def P_J7_fill_53178 (n_this : Nat) (x1 : Int32) (f_this : Nat → Int32) (post : (Nat → Int32) → Prop) : Prop := (∀ v3_3 : Int32, v3_3 = (nI n_this) → (∃ k : Nat, V_J7_fill_53178_5 n_this x1 v3_3 post k 0 f_this))
set_option maxRecDepth 100000 in
set_option maxHeartbeats 4000000 in
theorem c_J7_fill_53178 (l : Launch) (D : va_G) (cI cB cS : ClassId) (a_this : Nat) (n_this : Nat) (x1 : Int32) (f_this : Nat → Int32) (post : (Nat → Int32) → Prop) (hV : P_J7_fill_53178 n_this x1 f_this post) : Cv l yJ7_fill_53178 cJ7_fill_53178 4 none rm_J7_fill_53178 D cI cB cS [.ref a_this, .int x1] [ai cI a_this n_this f_this] (fun (u : (Nat → Int32)) => post u) (fun (u : (Nat → Int32)) => [ai cI a_this n_this u]) := by
  refine Cv.of ok_J7_fill_53178 (Nat.le_of_ble_eq_true rfl) ?_
  intro p e s m args below meth c A Q hx hb hml hown ht hnm hK hP hA hS hret ls hl
  have hown : s.vm.findClass RJ7 = some m.cls := hown
  have FX : CallFix p m c cJ7_fill_53178 4 s args tblG RJ7 := ⟨hx, hb, hml, hown, ht⟩
  have hP : PD D A [ai cI a_this n_this f_this] s.heap := hP
  have hl : lv_has ls 4 [(0, .ref a_this), (1, .int x1)] := hl
  unfold P_J7_fill_53178 at hV
  have b5 : ∀ (v3 : Int32) (k5 : Nat) (v2 : Int32) (f_this : Nat → Int32) (H : Heap) (locs : List Loc) (ls : Array Slot), PD D A [ai cI a_this n_this f_this] H → va_S A s.heap H locs → lv_has ls 4 [(0, .ref a_this), (1, .int x1), (2, .int v2), (3, .int v3)] → V_J7_fill_53178_5 n_this x1 v3 post k5 v2 f_this → W p l e rm_J7_fill_53178 s m args below meth c H locs 0 0 Q (F0 m 5 ls []) := by
    intro v3 k5
    induction k5 with
    | zero => intro v2 f_this H locs ls hP hS hl hV; exact False.elim hV
    | succ k5 ih5 =>
      intro v2 f_this H locs ls hP hS hl hV
      rw [V_J7_fill_53178_5_s] at hV
      refine lv_iload_n hx hb dJ7_fill_53178_5 rfl (lv_at hl 2 rfl) ?_
      refine lv_iload_n hx hb dJ7_fill_53178_6 rfl (lv_at hl 3 rfl) ?_
      refine lv_icmp_ge (tgt := 20) hx hb dJ7_fill_53178_7 (by decide) (fun h => ?_) (fun h => ?_)
      · have hV := hV.1 h
        exact hret _ _ _ _ f_this hS dJ7_fill_53178_20 hP hV
      · have hV := hV.2 h
        refine lv_aload_n hx hb dJ7_fill_53178_10 rfl (lv_at hl 0 rfl) ?_
        refine lv_iload_n hx hb dJ7_fill_53178_11 rfl (lv_at hl 2 rfl) ?_
        refine lv_iload_n hx hb dJ7_fill_53178_12 rfl (lv_at hl 1 rfl) ?_
        refine ist hx hb hK hP hS 0 rfl dJ7_fill_53178_13 hV.1 (fun f_this_1 e_f_this_1 H locs hP hS => ?_)
        have hV := hV.2 f_this_1 e_f_this_1
        have hP : PD D A [ai cI a_this n_this f_this_1] H := hP
        obtain ⟨v2_2, e_v2_2⟩ : ∃ y : Int32, y = (v2 + 1) := ⟨_, rfl⟩
        have hV := hV v2_2 e_v2_2
        refine lv_iinc (v := v2_2) (lv' := [(2, .int v2_2), (0, .ref a_this), (1, .int x1), (3, .int v3)]) hx hb dJ7_fill_53178_14 hl (k := 2) rfl (by rw [e_v2_2]; rfl) (by decide) rfl (fun ls hl => ?_)
        refine lv_goto (tgt := 5) hx hb dJ7_fill_53178_17 (by decide) ?_
        exact ih5 v2_2 f_this_1 _ _ _ hP hS (lv_sub hl [1, 2, 0, 3] rfl) hV
  refine lv_iconst (v := 0) hx hb dJ7_fill_53178_0 (by decide) ?_
  refine lv_istore_n (lv' := [(2, .int 0), (0, .ref a_this), (1, .int x1)]) hx hb dJ7_fill_53178_1 rfl hl (by decide) rfl (fun ls hl => ?_)
  refine lv_aload_n hx hb dJ7_fill_53178_2 rfl (lv_at hl 1 rfl) ?_
  refine iln hx hb hK hP 0 rfl dJ7_fill_53178_3 ?_
  refine lv_topi (fun v3_3 e_v3_3 => ?_)
  have hV := hV v3_3 e_v3_3
  refine lv_istore_n (lv' := [(3, .int v3_3), (2, .int 0), (0, .ref a_this), (1, .int x1)]) hx hb dJ7_fill_53178_4 rfl hl (by decide) rfl (fun ls hl => ?_)
  obtain ⟨k, hV⟩ := hV
  exact b5 v3_3 k 0 f_this _ _ _ hP hS (lv_sub hl [2, 3, 1, 0] rfl) hV

def rm_X6_direction : Room := { frames := 1, cells := 0, slots := 0, locals := 13 }
def P_X6_direction (x0 : Int32) (post : Int32 → Prop) : Prop := (∀ m_1 : Int32, m_1 = (if 0 ≤ (((4 * x0) - (4 * x0) / 1460 * 1460) - 730) then (((4 * x0) - (4 * x0) / 1460 * 1460) - 730) else 0 - (((4 * x0) - (4 * x0) / 1460 * 1460) - 730)) → post (m_1 - 365))
set_option maxRecDepth 100000 in
set_option maxHeartbeats 4000000 in
theorem c_X6_direction (l : Launch) (D : va_G) (cI cB cS : ClassId) (x0 : Int32) (post : Int32 → Prop) (hV : P_X6_direction x0 post) : Ci l yX6_direction cX6_direction 1 (some .int) rm_X6_direction D cI cB cS [.int x0] [] (fun r (_ : Unit) => post r) (fun (_ : Unit) => []) := by
  refine Ci.of ok_X6_direction (Nat.le_of_ble_eq_true rfl) ?_
  intro p e s m args below meth c A Q hx hb hml hown ht hnm hK hP hA hS hret ls hl
  have hown : s.vm.findClass RX6 = some m.cls := hown
  have FX : CallFix p m c cX6_direction 1 s args tblG RX6 := ⟨hx, hb, hml, hown, ht⟩
  have hP : PD D A [] s.heap := hP
  have hl : lv_has ls 1 [(0, .int x0)] := hl
  unfold P_X6_direction at hV
  refine lv_iconst (v := 4) hx hb dX6_direction_0 (by decide) ?_
  refine lv_iload_n hx hb dX6_direction_1 rfl (lv_at hl 0 rfl) ?_
  refine lv_imul hx hb dX6_direction_2 ?_
  refine lv_sipush (v := 1460) hx hb dX6_direction_3 (by decide) ?_
  refine lv_irem hx hb dX6_direction_6 (by decide) ?_
  refine lv_sipush (v := 730) hx hb dX6_direction_7 (by decide) ?_
  refine lv_isub hx hb dX6_direction_10 ?_
  refine mabs hx hb (hml.trans hl.1.symm) ht hown li_X6_9 (Nat.le_of_ble_eq_true rfl) (Nat.le_of_ble_eq_true rfl) ⟨Nat.le_of_ble_eq_true rfl, Nat.le_of_ble_eq_true rfl⟩ dX6_direction_11 ?_
  refine lv_topi (fun m_1 e_m_1 => ?_)
  have hV := hV m_1 e_m_1
  refine lv_sipush (v := 365) hx hb dX6_direction_14 (by decide) ?_
  refine lv_isub hx hb dX6_direction_17 ?_
  exact hret _ _ _ _ _ () hS dX6_direction_18 hP hV

def rm_X6_daysUpTo : Room := { frames := 0, cells := 0, slots := 0, locals := 0 }
def P_X6_daysUpTo (x0 : Int32) (post : Int32 → Prop) : Prop := (((-363) ≤ x0 → ((x0 < 365 → post (2 * (((x0 - (-363)) / 4) + 1))) ∧ (¬ x0 < 365 → post 365))) ∧ (¬ (-363) ≤ x0 → post 0))
set_option maxRecDepth 100000 in
set_option maxHeartbeats 4000000 in
theorem c_X6_daysUpTo (l : Launch) (D : va_G) (cI cB cS : ClassId) (x0 : Int32) (post : Int32 → Prop) (hV : P_X6_daysUpTo x0 post) : Ci l yX6_daysUpTo cX6_daysUpTo 1 (some .int) rm_X6_daysUpTo D cI cB cS [.int x0] [] (fun r (_ : Unit) => post r) (fun (_ : Unit) => []) := by
  refine Ci.of ok_X6_daysUpTo (Nat.le_of_ble_eq_true rfl) ?_
  intro p e s m args below meth c A Q hx hb hml hown ht hnm hK hP hA hS hret ls hl
  have hown : s.vm.findClass RX6 = some m.cls := hown
  have FX : CallFix p m c cX6_daysUpTo 1 s args tblG RX6 := ⟨hx, hb, hml, hown, ht⟩
  have hP : PD D A [] s.heap := hP
  have hl : lv_has ls 1 [(0, .int x0)] := hl
  unfold P_X6_daysUpTo at hV
  refine lv_iload_n hx hb dX6_daysUpTo_0 rfl (lv_at hl 0 rfl) ?_
  refine lv_sipush (v := (-363)) hx hb dX6_daysUpTo_1 (by decide) ?_
  refine lv_icmp_ge (tgt := 9) hx hb dX6_daysUpTo_4 (by decide) (fun h => ?_) (fun h => ?_)
  · have hV := hV.1 h
    refine lv_iload_n hx hb dX6_daysUpTo_9 rfl (lv_at hl 0 rfl) ?_
    refine lv_sipush (v := 365) hx hb dX6_daysUpTo_10 (by decide) ?_
    refine lv_icmp_lt (tgt := 20) hx hb dX6_daysUpTo_13 (by decide) (fun h => ?_) (fun h => ?_)
    · have hV := hV.1 h
      refine lv_iconst (v := 2) hx hb dX6_daysUpTo_20 (by decide) ?_
      refine lv_iload_n hx hb dX6_daysUpTo_21 rfl (lv_at hl 0 rfl) ?_
      refine lv_sipush (v := (-363)) hx hb dX6_daysUpTo_22 (by decide) ?_
      refine lv_isub hx hb dX6_daysUpTo_25 ?_
      refine lv_iconst (v := 4) hx hb dX6_daysUpTo_26 (by decide) ?_
      refine lv_idiv hx hb dX6_daysUpTo_27 (by decide) ?_
      refine lv_iconst (v := 1) hx hb dX6_daysUpTo_28 (by decide) ?_
      refine lv_iadd hx hb dX6_daysUpTo_29 ?_
      refine lv_imul hx hb dX6_daysUpTo_30 ?_
      exact hret _ _ _ _ _ () hS dX6_daysUpTo_31 hP hV
    · have hV := hV.2 h
      refine lv_sipush (v := 365) hx hb dX6_daysUpTo_16 (by decide) ?_
      exact hret _ _ _ _ _ () hS dX6_daysUpTo_19 hP hV
  · have hV := hV.2 h
    refine lv_iconst (v := 0) hx hb dX6_daysUpTo_7 (by decide) ?_
    exact hret _ _ _ _ _ () hS dX6_daysUpTo_8 hP hV

def rm_X6_daysBetween : Room := { frames := 1, cells := 0, slots := 0, locals := 20 }
def P_X6_daysBetween (x0 : Int32) (x1 : Int32) (post : Int32 → Prop) : Prop := ((x0 ≤ x1 → P_X6_daysUpTo x1 (fun r_1 => P_X6_daysUpTo (x0 - 1) (fun r_2 => post (r_1 - r_2)))) ∧ (¬ x0 ≤ x1 → post 0))
set_option maxRecDepth 100000 in
set_option maxHeartbeats 4000000 in
theorem c_X6_daysBetween (l : Launch) (D : va_G) (cI cB cS : ClassId) (x0 : Int32) (x1 : Int32) (post : Int32 → Prop) (hV : P_X6_daysBetween x0 x1 post) : Ci l yX6_daysBetween cX6_daysBetween 2 (some .int) rm_X6_daysBetween D cI cB cS [.int x0, .int x1] [] (fun r (_ : Unit) => post r) (fun (_ : Unit) => []) := by
  refine Ci.of ok_X6_daysBetween (Nat.le_of_ble_eq_true rfl) ?_
  intro p e s m args below meth c A Q hx hb hml hown ht hnm hK hP hA hS hret ls hl
  have hown : s.vm.findClass RX6 = some m.cls := hown
  have FX : CallFix p m c cX6_daysBetween 2 s args tblG RX6 := ⟨hx, hb, hml, hown, ht⟩
  have hP : PD D A [] s.heap := hP
  have hl : lv_has ls 2 [(0, .int x0), (1, .int x1)] := hl
  unfold P_X6_daysBetween at hV
  refine lv_iload_n hx hb dX6_daysBetween_0 rfl (lv_at hl 0 rfl) ?_
  refine lv_iload_n hx hb dX6_daysBetween_1 rfl (lv_at hl 1 rfl) ?_
  refine lv_icmp_le (tgt := 9) hx hb dX6_daysBetween_2 (by decide) (fun h => ?_) (fun h => ?_)
  · have hV := hV.1 h
    refine lv_iload_n hx hb dX6_daysBetween_9 rfl (lv_at hl 1 rfl) ?_
    refine KSi (As := [.int x1]) (rest := []) FX (c_X6_daysUpTo l D cI cB cS x1 _ hV) ok_X6_daysUpTo is_X6_daysUpTo li_X6_15 dX6_daysBetween_10 hK hP hS hA [] [] rfl rfl (by decide) rfl hl.1 (Nat.le_of_ble_eq_true rfl) ⟨Nat.le_of_ble_eq_true rfl, Nat.le_of_ble_eq_true rfl⟩ ⟨Nat.le_of_ble_eq_true rfl, Nat.le_of_ble_eq_true rfl⟩ (fun r_1 _ H locs hV hP hS => ?_)
    have hP : PD D A [] H := hP
    refine lv_iload_n hx hb dX6_daysBetween_13 rfl (lv_at hl 0 rfl) ?_
    refine lv_iconst (v := 1) hx hb dX6_daysBetween_14 (by decide) ?_
    refine lv_isub hx hb dX6_daysBetween_15 ?_
    refine KSi (As := [.int (x0 - 1)]) (rest := [.int r_1]) FX (c_X6_daysUpTo l D cI cB cS (x0 - 1) _ hV) ok_X6_daysUpTo is_X6_daysUpTo li_X6_15 dX6_daysBetween_16 hK hP hS hA [] [] rfl rfl (by decide) rfl hl.1 (Nat.le_of_ble_eq_true rfl) ⟨Nat.le_of_ble_eq_true rfl, Nat.le_of_ble_eq_true rfl⟩ ⟨Nat.le_of_ble_eq_true rfl, Nat.le_of_ble_eq_true rfl⟩ (fun r_2 _ H locs hV hP hS => ?_)
    have hP : PD D A [] H := hP
    refine lv_isub hx hb dX6_daysBetween_19 ?_
    exact hret _ _ _ _ _ () hS dX6_daysBetween_20 hP hV
  · have hV := hV.2 h
    refine lv_iconst (v := 0) hx hb dX6_daysBetween_5 (by decide) ?_
    refine lv_goto (tgt := 20) hx hb dX6_daysBetween_6 (by decide) ?_
    exact hret _ _ _ _ _ () hS dX6_daysBetween_20 hP hV

def rm_X6_mostAlike : Room := { frames := 2, cells := 0, slots := 0, locals := 41 }
def V_X6_mostAlike_25 (x0 : Int32) (x1 : Int32) (x2 : Int32) (v3 : Int32) (post : Int32 → Prop) : Nat → Int32 → Int32 → Int32 → Prop
  | 0, _, _, _ => False
  | n + 1, v4, v5, v6 => ((400 < v6 → post v4) ∧ (¬ 400 < v6 → P_X6_daysBetween (v6 - x2) (v6 + x2) (fun r_1 => (∀ m_2 : Int32, m_2 = (if (x0 - x1) < (v6 - x2) then (v6 - x2) else (x0 - x1)) → (∀ m_3 : Int32, m_3 = (if (v6 + x2) < (x0 + x1) then (v6 + x2) else (x0 + x1)) → P_X6_daysBetween m_2 m_3 (fun r_4 => (∀ v9_5 : Int32, v9_5 = ((v3 + r_1) - (2 * r_4)) → ((v5 ≤ v9_5 → (∀ v6_6 : Int32, v6_6 = (v6 + 1) → V_X6_mostAlike_25 x0 x1 x2 v3 post n v4 v5 v6_6)) ∧ (¬ v5 ≤ v9_5 → (∀ v6_7 : Int32, v6_7 = (v6 + 1) → V_X6_mostAlike_25 x0 x1 x2 v3 post n v6 v9_5 v6_7))))))))))
theorem V_X6_mostAlike_25_s (x0 : Int32) (x1 : Int32) (x2 : Int32) (v3 : Int32) (post : Int32 → Prop) (n : Nat) (v4 : Int32) (v5 : Int32) (v6 : Int32) : V_X6_mostAlike_25 x0 x1 x2 v3 post (n + 1) v4 v5 v6 = (((400 < v6 → post v4) ∧ (¬ 400 < v6 → P_X6_daysBetween (v6 - x2) (v6 + x2) (fun r_1 => (∀ m_2 : Int32, m_2 = (if (x0 - x1) < (v6 - x2) then (v6 - x2) else (x0 - x1)) → (∀ m_3 : Int32, m_3 = (if (v6 + x2) < (x0 + x1) then (v6 + x2) else (x0 + x1)) → P_X6_daysBetween m_2 m_3 (fun r_4 => (∀ v9_5 : Int32, v9_5 = ((v3 + r_1) - (2 * r_4)) → ((v5 ≤ v9_5 → (∀ v6_6 : Int32, v6_6 = (v6 + 1) → V_X6_mostAlike_25 x0 x1 x2 v3 post n v4 v5 v6_6)) ∧ (¬ v5 ≤ v9_5 → (∀ v6_7 : Int32, v6_7 = (v6 + 1) → V_X6_mostAlike_25 x0 x1 x2 v3 post n v6 v9_5 v6_7))))))))))) := rfl
def P_X6_mostAlike (x0 : Int32) (x1 : Int32) (x2 : Int32) (post : Int32 → Prop) : Prop := P_X6_daysBetween (x0 - x1) (x0 + x1) (fun r_8 => (∃ k : Nat, V_X6_mostAlike_25 x0 x1 x2 r_8 post k (-400) 730 (-400)))
set_option maxRecDepth 100000 in
set_option maxHeartbeats 4000000 in
theorem c_X6_mostAlike (l : Launch) (D : va_G) (cI cB cS : ClassId) (x0 : Int32) (x1 : Int32) (x2 : Int32) (post : Int32 → Prop) (hV : P_X6_mostAlike x0 x1 x2 post) : Ci l yX6_mostAlike cX6_mostAlike 10 (some .int) rm_X6_mostAlike D cI cB cS [.int x0, .int x1, .int x2] [] (fun r (_ : Unit) => post r) (fun (_ : Unit) => []) := by
  refine Ci.of ok_X6_mostAlike (Nat.le_of_ble_eq_true rfl) ?_
  intro p e s m args below meth c A Q hx hb hml hown ht hnm hK hP hA hS hret ls hl
  have hown : s.vm.findClass RX6 = some m.cls := hown
  have FX : CallFix p m c cX6_mostAlike 10 s args tblG RX6 := ⟨hx, hb, hml, hown, ht⟩
  have hP : PD D A [] s.heap := hP
  have hl : lv_has ls 10 [(0, .int x0), (1, .int x1), (2, .int x2)] := hl
  unfold P_X6_mostAlike at hV
  have b25 : ∀ (v3 : Int32) (k25 : Nat) (v4 : Int32) (v5 : Int32) (v6 : Int32) (H : Heap) (locs : List Loc) (ls : Array Slot), PD D A [] H → va_S A s.heap H locs → lv_has ls 10 [(0, .int x0), (1, .int x1), (2, .int x2), (3, .int v3), (4, .int v4), (5, .int v5), (6, .int v6)] → V_X6_mostAlike_25 x0 x1 x2 v3 post k25 v4 v5 v6 → W p l e rm_X6_mostAlike s m args below meth c H locs 0 0 Q (F0 m 25 ls []) := by
    intro v3 k25
    induction k25 with
    | zero => intro v4 v5 v6 H locs ls hP hS hl hV; exact False.elim hV
    | succ k25 ih25 =>
      intro v4 v5 v6 H locs ls hP hS hl hV
      rw [V_X6_mostAlike_25_s] at hV
      refine lv_iload hx hb dX6_mostAlike_25 (lv_at hl 6 rfl) ?_
      refine lv_sipush (v := 400) hx hb dX6_mostAlike_27 (by decide) ?_
      refine lv_icmp_gt (tgt := 103) hx hb dX6_mostAlike_30 (by decide) (fun h => ?_) (fun h => ?_)
      · have hV := hV.1 h
        refine lv_iload hx hb dX6_mostAlike_103 (lv_at hl 4 rfl) ?_
        exact hret _ _ _ _ _ () hS dX6_mostAlike_105 hP hV
      · have hV := hV.2 h
        refine lv_iload hx hb dX6_mostAlike_33 (lv_at hl 6 rfl) ?_
        refine lv_iload_n hx hb dX6_mostAlike_35 rfl (lv_at hl 2 rfl) ?_
        refine lv_isub hx hb dX6_mostAlike_36 ?_
        refine lv_iload hx hb dX6_mostAlike_37 (lv_at hl 6 rfl) ?_
        refine lv_iload_n hx hb dX6_mostAlike_39 rfl (lv_at hl 2 rfl) ?_
        refine lv_iadd hx hb dX6_mostAlike_40 ?_
        refine KSi (As := [.int (v6 - x2), .int (v6 + x2)]) (rest := []) FX (c_X6_daysBetween l D cI cB cS (v6 - x2) (v6 + x2) _ hV) ok_X6_daysBetween is_X6_daysBetween li_X6_20 dX6_mostAlike_41 hK hP hS hA [] [] rfl rfl (by decide) rfl hl.1 (Nat.le_of_ble_eq_true rfl) ⟨Nat.le_of_ble_eq_true rfl, Nat.le_of_ble_eq_true rfl⟩ ⟨Nat.le_of_ble_eq_true rfl, Nat.le_of_ble_eq_true rfl⟩ (fun r_1 _ H locs hV hP hS => ?_)
        have hP : PD D A [] H := hP
        refine lv_istore (lv' := [(7, .int r_1), (0, .int x0), (1, .int x1), (2, .int x2), (3, .int v3), (4, .int v4), (5, .int v5), (6, .int v6)]) hx hb dX6_mostAlike_44 hl (by decide) rfl (fun ls hl => ?_)
        refine lv_iload_n hx hb dX6_mostAlike_46 rfl (lv_at hl 1 rfl) ?_
        refine lv_iload_n hx hb dX6_mostAlike_47 rfl (lv_at hl 2 rfl) ?_
        refine lv_isub hx hb dX6_mostAlike_48 ?_
        refine lv_iload hx hb dX6_mostAlike_49 (lv_at hl 7 rfl) ?_
        refine lv_iload_n hx hb dX6_mostAlike_51 rfl (lv_at hl 3 rfl) ?_
        refine lv_isub hx hb dX6_mostAlike_52 ?_
        refine mmax hx hb (hml.trans hl.1.symm) ht hown li_X6_24 (Nat.le_of_ble_eq_true rfl) (Nat.le_of_ble_eq_true rfl) ⟨Nat.le_of_ble_eq_true rfl, Nat.le_of_ble_eq_true rfl⟩ dX6_mostAlike_53 ?_
        refine lv_topi (fun m_2 e_m_2 => ?_)
        have hV := hV m_2 e_m_2
        refine lv_iload_n hx hb dX6_mostAlike_56 rfl (lv_at hl 1 rfl) ?_
        refine lv_iload_n hx hb dX6_mostAlike_57 rfl (lv_at hl 2 rfl) ?_
        refine lv_iadd hx hb dX6_mostAlike_58 ?_
        refine lv_iload hx hb dX6_mostAlike_59 (lv_at hl 7 rfl) ?_
        refine lv_iload_n hx hb dX6_mostAlike_61 rfl (lv_at hl 3 rfl) ?_
        refine lv_iadd hx hb dX6_mostAlike_62 ?_
        refine mmin hx hb (hml.trans hl.1.symm) ht hown li_X6_27 (Nat.le_of_ble_eq_true rfl) (Nat.le_of_ble_eq_true rfl) ⟨Nat.le_of_ble_eq_true rfl, Nat.le_of_ble_eq_true rfl⟩ dX6_mostAlike_63 ?_
        refine lv_topi (fun m_3 e_m_3 => ?_)
        have hV := hV m_3 e_m_3
        refine KSi (As := [.int m_2, .int m_3]) (rest := []) FX (c_X6_daysBetween l D cI cB cS m_2 m_3 _ hV) ok_X6_daysBetween is_X6_daysBetween li_X6_20 dX6_mostAlike_66 hK hP hS hA [] [] rfl rfl (by decide) rfl hl.1 (Nat.le_of_ble_eq_true rfl) ⟨Nat.le_of_ble_eq_true rfl, Nat.le_of_ble_eq_true rfl⟩ ⟨Nat.le_of_ble_eq_true rfl, Nat.le_of_ble_eq_true rfl⟩ (fun r_4 _ H locs hV hP hS => ?_)
        have hP : PD D A [] H := hP
        refine lv_istore (lv' := [(8, .int r_4), (7, .int r_1), (0, .int x0), (1, .int x1), (2, .int x2), (3, .int v3), (4, .int v4), (5, .int v5), (6, .int v6)]) hx hb dX6_mostAlike_69 hl (by decide) rfl (fun ls hl => ?_)
        refine lv_iload_n hx hb dX6_mostAlike_71 rfl (lv_at hl 5 rfl) ?_
        refine lv_iload hx hb dX6_mostAlike_72 (lv_at hl 1 rfl) ?_
        refine lv_iadd hx hb dX6_mostAlike_74 ?_
        refine lv_iconst (v := 2) hx hb dX6_mostAlike_75 (by decide) ?_
        refine lv_iload hx hb dX6_mostAlike_76 (lv_at hl 0 rfl) ?_
        refine lv_imul hx hb dX6_mostAlike_78 ?_
        refine lv_isub hx hb dX6_mostAlike_79 ?_
        refine lv_topi (fun v9_5 e_v9_5 => ?_)
        have hV := hV v9_5 e_v9_5
        refine lv_istore (lv' := [(9, .int v9_5), (8, .int r_4), (7, .int r_1), (0, .int x0), (1, .int x1), (2, .int x2), (3, .int v3), (4, .int v4), (5, .int v5), (6, .int v6)]) hx hb dX6_mostAlike_80 hl (by decide) rfl (fun ls hl => ?_)
        refine lv_iload hx hb dX6_mostAlike_82 (lv_at hl 0 rfl) ?_
        refine lv_iload hx hb dX6_mostAlike_84 (lv_at hl 8 rfl) ?_
        refine lv_icmp_ge (tgt := 97) hx hb dX6_mostAlike_86 (by decide) (fun h => ?_) (fun h => ?_)
        · have hV := hV.1 h
          obtain ⟨v6_6, e_v6_6⟩ : ∃ y : Int32, y = (v6 + 1) := ⟨_, rfl⟩
          have hV := hV v6_6 e_v6_6
          refine lv_iinc (v := v6_6) (lv' := [(6, .int v6_6), (9, .int v9_5), (8, .int r_4), (7, .int r_1), (0, .int x0), (1, .int x1), (2, .int x2), (3, .int v3), (4, .int v4), (5, .int v5)]) hx hb dX6_mostAlike_97 hl (k := 9) rfl (by rw [e_v6_6]; rfl) (by decide) rfl (fun ls hl => ?_)
          refine lv_goto (tgt := 25) hx hb dX6_mostAlike_100 (by decide) ?_
          exact ih25 v4 v5 v6_6 _ _ _ hP hS (lv_sub hl [4, 5, 6, 7, 8, 9, 0] rfl) hV
        · have hV := hV.2 h
          refine lv_iload hx hb dX6_mostAlike_89 (lv_at hl 9 rfl) ?_
          refine lv_istore (lv' := [(4, .int v6), (9, .int v9_5), (8, .int r_4), (7, .int r_1), (0, .int x0), (1, .int x1), (2, .int x2), (3, .int v3), (5, .int v5), (6, .int v6)]) hx hb dX6_mostAlike_91 hl (by decide) rfl (fun ls hl => ?_)
          refine lv_iload hx hb dX6_mostAlike_93 (lv_at hl 1 rfl) ?_
          refine lv_istore (lv' := [(5, .int v9_5), (4, .int v6), (9, .int v9_5), (8, .int r_4), (7, .int r_1), (0, .int x0), (1, .int x1), (2, .int x2), (3, .int v3), (6, .int v6)]) hx hb dX6_mostAlike_95 hl (by decide) rfl (fun ls hl => ?_)
          obtain ⟨v6_7, e_v6_7⟩ : ∃ y : Int32, y = (v6 + 1) := ⟨_, rfl⟩
          have hV := hV v6_7 e_v6_7
          refine lv_iinc (v := v6_7) (lv' := [(6, .int v6_7), (5, .int v9_5), (4, .int v6), (9, .int v9_5), (8, .int r_4), (7, .int r_1), (0, .int x0), (1, .int x1), (2, .int x2), (3, .int v3)]) hx hb dX6_mostAlike_97 hl (k := 9) rfl (by rw [e_v6_7]; rfl) (by decide) rfl (fun ls hl => ?_)
          refine lv_goto (tgt := 25) hx hb dX6_mostAlike_100 (by decide) ?_
          exact ih25 v6 v9_5 v6_7 _ _ _ hP hS (lv_sub hl [6, 7, 8, 9, 2, 1, 0] rfl) hV
  refine lv_iload_n hx hb dX6_mostAlike_0 rfl (lv_at hl 0 rfl) ?_
  refine lv_iload_n hx hb dX6_mostAlike_1 rfl (lv_at hl 1 rfl) ?_
  refine lv_isub hx hb dX6_mostAlike_2 ?_
  refine lv_iload_n hx hb dX6_mostAlike_3 rfl (lv_at hl 0 rfl) ?_
  refine lv_iload_n hx hb dX6_mostAlike_4 rfl (lv_at hl 1 rfl) ?_
  refine lv_iadd hx hb dX6_mostAlike_5 ?_
  refine KSi (As := [.int (x0 - x1), .int (x0 + x1)]) (rest := []) FX (c_X6_daysBetween l D cI cB cS (x0 - x1) (x0 + x1) _ hV) ok_X6_daysBetween is_X6_daysBetween li_X6_20 dX6_mostAlike_6 hK hP hS hA [] [] rfl rfl (by decide) rfl hl.1 (Nat.le_of_ble_eq_true rfl) ⟨Nat.le_of_ble_eq_true rfl, Nat.le_of_ble_eq_true rfl⟩ ⟨Nat.le_of_ble_eq_true rfl, Nat.le_of_ble_eq_true rfl⟩ (fun r_8 _ H locs hV hP hS => ?_)
  have hP : PD D A [] H := hP
  refine lv_istore_n (lv' := [(3, .int r_8), (0, .int x0), (1, .int x1), (2, .int x2)]) hx hb dX6_mostAlike_9 rfl hl (by decide) rfl (fun ls hl => ?_)
  refine lv_sipush (v := (-400)) hx hb dX6_mostAlike_10 (by decide) ?_
  refine lv_istore (lv' := [(4, .int (-400)), (3, .int r_8), (0, .int x0), (1, .int x1), (2, .int x2)]) hx hb dX6_mostAlike_13 hl (by decide) rfl (fun ls hl => ?_)
  refine lv_sipush (v := 730) hx hb dX6_mostAlike_15 (by decide) ?_
  refine lv_istore (lv' := [(5, .int 730), (4, .int (-400)), (3, .int r_8), (0, .int x0), (1, .int x1), (2, .int x2)]) hx hb dX6_mostAlike_18 hl (by decide) rfl (fun ls hl => ?_)
  refine lv_sipush (v := (-400)) hx hb dX6_mostAlike_20 (by decide) ?_
  refine lv_istore (lv' := [(6, .int (-400)), (5, .int 730), (4, .int (-400)), (3, .int r_8), (0, .int x0), (1, .int x1), (2, .int x2)]) hx hb dX6_mostAlike_23 hl (by decide) rfl (fun ls hl => ?_)
  obtain ⟨k, hV⟩ := hV
  exact b25 r_8 k (-400) 730 (-400) _ _ _ hP hS (lv_sub hl [4, 5, 6, 3, 2, 1, 0] rfl) hV

def rm_X9_halfByte : Room := { frames := 0, cells := 0, slots := 0, locals := 0 }
def P_X9_halfByte (x0 : Int32) (x1 : Int32) (post : Int32 → Prop) : Prop := post ((((x0).toUInt32 >>> (((4 * (7 - x1))).toUInt32 &&& Int32.toUInt32 31)).toInt32) &&& 15)
set_option maxRecDepth 100000 in
set_option maxHeartbeats 4000000 in
theorem c_X9_halfByte (l : Launch) (D : va_G) (cI cB cS : ClassId) (x0 : Int32) (x1 : Int32) (post : Int32 → Prop) (hV : P_X9_halfByte x0 x1 post) : Ci l yX9_halfByte cX9_halfByte 2 (some .int) rm_X9_halfByte D cI cB cS [.int x0, .int x1] [] (fun r (_ : Unit) => post r) (fun (_ : Unit) => []) := by
  refine Ci.of ok_X9_halfByte (Nat.le_of_ble_eq_true rfl) ?_
  intro p e s m args below meth c A Q hx hb hml hown ht hnm hK hP hA hS hret ls hl
  have hown : s.vm.findClass RX9 = some m.cls := hown
  have FX : CallFix p m c cX9_halfByte 2 s args tblG RX9 := ⟨hx, hb, hml, hown, ht⟩
  have hP : PD D A [] s.heap := hP
  have hl : lv_has ls 2 [(0, .int x0), (1, .int x1)] := hl
  unfold P_X9_halfByte at hV
  refine lv_iload_n hx hb dX9_halfByte_0 rfl (lv_at hl 0 rfl) ?_
  refine lv_iconst (v := 4) hx hb dX9_halfByte_1 (by decide) ?_
  refine lv_bipush (v := 7) hx hb dX9_halfByte_2 (by decide) ?_
  refine lv_iload_n hx hb dX9_halfByte_4 rfl (lv_at hl 1 rfl) ?_
  refine lv_isub hx hb dX9_halfByte_5 ?_
  refine lv_imul hx hb dX9_halfByte_6 ?_
  refine lv_iushr hx hb dX9_halfByte_7 rfl ?_
  refine lv_bipush (v := 15) hx hb dX9_halfByte_8 (by decide) ?_
  refine lv_iand hx hb dX9_halfByte_10 ?_
  exact hret _ _ _ _ _ () hS dX9_halfByte_11 hP hV

def rm_X9_areMotifs : Room := { frames := 1, cells := 0, slots := 0, locals := 21 }
def V_X9_areMotifs_2 (x0 : Int32) (post : Int32 → Prop) : Nat → Int32 → Prop
  | 0, _ => False
  | n + 1, v1 => ((8 ≤ v1 → post 1) ∧ (¬ 8 ≤ v1 → P_X9_halfByte x0 v1 (fun r_1 => ((r_1 ≤ 9 → (∀ v1_2 : Int32, v1_2 = (v1 + 1) → V_X9_areMotifs_2 x0 post n v1_2)) ∧ (¬ r_1 ≤ 9 → post 0)))))
theorem V_X9_areMotifs_2_s (x0 : Int32) (post : Int32 → Prop) (n : Nat) (v1 : Int32) : V_X9_areMotifs_2 x0 post (n + 1) v1 = (((8 ≤ v1 → post 1) ∧ (¬ 8 ≤ v1 → P_X9_halfByte x0 v1 (fun r_1 => ((r_1 ≤ 9 → (∀ v1_2 : Int32, v1_2 = (v1 + 1) → V_X9_areMotifs_2 x0 post n v1_2)) ∧ (¬ r_1 ≤ 9 → post 0)))))) := rfl
def P_X9_areMotifs (x0 : Int32) (post : Int32 → Prop) : Prop := (∃ k : Nat, V_X9_areMotifs_2 x0 post k 0)
set_option maxRecDepth 100000 in
set_option maxHeartbeats 4000000 in
theorem c_X9_areMotifs (l : Launch) (D : va_G) (cI cB cS : ClassId) (x0 : Int32) (post : Int32 → Prop) (hV : P_X9_areMotifs x0 post) : Ci l yX9_areMotifs cX9_areMotifs 2 (some .boolean) rm_X9_areMotifs D cI cB cS [.int x0] [] (fun r (_ : Unit) => post r) (fun (_ : Unit) => []) := by
  refine Cz.of ok_X9_areMotifs (Nat.le_of_ble_eq_true rfl) ?_
  intro p e s m args below meth c A Q hx hb hml hown ht hnm hK hP hA hS hret ls hl
  have hown : s.vm.findClass RX9 = some m.cls := hown
  have FX : CallFix p m c cX9_areMotifs 2 s args tblG RX9 := ⟨hx, hb, hml, hown, ht⟩
  have hP : PD D A [] s.heap := hP
  have hl : lv_has ls 2 [(0, .int x0)] := hl
  unfold P_X9_areMotifs at hV
  have b2 : ∀  (k2 : Nat) (v1 : Int32) (H : Heap) (locs : List Loc) (ls : Array Slot), PD D A [] H → va_S A s.heap H locs → lv_has ls 2 [(0, .int x0), (1, .int v1)] → V_X9_areMotifs_2 x0 post k2 v1 → W p l e rm_X9_areMotifs s m args below meth c H locs 0 0 Q (F0 m 2 ls []) := by
    intro  k2
    induction k2 with
    | zero => intro v1 H locs ls hP hS hl hV; exact False.elim hV
    | succ k2 ih2 =>
      intro v1 H locs ls hP hS hl hV
      rw [V_X9_areMotifs_2_s] at hV
      refine lv_iload_n hx hb dX9_areMotifs_2 rfl (lv_at hl 1 rfl) ?_
      refine lv_bipush (v := 8) hx hb dX9_areMotifs_3 (by decide) ?_
      refine lv_icmp_ge (tgt := 26) hx hb dX9_areMotifs_5 (by decide) (fun h => ?_) (fun h => ?_)
      · have hV := hV.1 h
        refine lv_iconst (v := 1) hx hb dX9_areMotifs_26 (by decide) ?_
        exact hret _ _ _ _ _ () hS dX9_areMotifs_27 hP (by decide) hV
      · have hV := hV.2 h
        refine lv_iload_n hx hb dX9_areMotifs_8 rfl (lv_at hl 0 rfl) ?_
        refine lv_iload_n hx hb dX9_areMotifs_9 rfl (lv_at hl 1 rfl) ?_
        refine KSi (As := [.int x0, .int v1]) (rest := []) FX (c_X9_halfByte l D cI cB cS x0 v1 _ hV) ok_X9_halfByte is_X9_halfByte li_X9_74 dX9_areMotifs_10 hK hP hS hA [] [] rfl rfl (by decide) rfl hl.1 (Nat.le_of_ble_eq_true rfl) ⟨Nat.le_of_ble_eq_true rfl, Nat.le_of_ble_eq_true rfl⟩ ⟨Nat.le_of_ble_eq_true rfl, Nat.le_of_ble_eq_true rfl⟩ (fun r_1 _ H locs hV hP hS => ?_)
        have hP : PD D A [] H := hP
        refine lv_bipush (v := 9) hx hb dX9_areMotifs_13 (by decide) ?_
        refine lv_icmp_le (tgt := 20) hx hb dX9_areMotifs_15 (by decide) (fun h => ?_) (fun h => ?_)
        · have hV := hV.1 h
          obtain ⟨v1_2, e_v1_2⟩ : ∃ y : Int32, y = (v1 + 1) := ⟨_, rfl⟩
          have hV := hV v1_2 e_v1_2
          refine lv_iinc (v := v1_2) (lv' := [(1, .int v1_2), (0, .int x0)]) hx hb dX9_areMotifs_20 hl (k := 1) rfl (by rw [e_v1_2]; rfl) (by decide) rfl (fun ls hl => ?_)
          refine lv_goto (tgt := 2) hx hb dX9_areMotifs_23 (by decide) ?_
          exact ih2 v1_2 _ _ _ hP hS (lv_sub hl [1, 0] rfl) hV
        · have hV := hV.2 h
          refine lv_iconst (v := 0) hx hb dX9_areMotifs_18 (by decide) ?_
          exact hret _ _ _ _ _ () hS dX9_areMotifs_19 hP (by decide) hV
  refine lv_iconst (v := 0) hx hb dX9_areMotifs_0 (by decide) ?_
  refine lv_istore_n (lv' := [(1, .int 0), (0, .int x0)]) hx hb dX9_areMotifs_1 rfl hl (by decide) rfl (fun ls hl => ?_)
  obtain ⟨k, hV⟩ := hV
  exact b2 k 0 _ _ _ hP hS (lv_sub hl [1, 0] rfl) hV

def rm_X9_isPlace : Room := { frames := 1, cells := 0, slots := 0, locals := 22 }
def P_X9_isPlace (x0 : Int32) (x1 : Int32) (post : Int32 → Prop) : Prop := P_X9_within x0 (-400) 400 (fun r_1 => ((r_1 = 0 → post 0) ∧ (¬ r_1 = 0 → P_X9_within x1 0 400 (fun r_2 => ((r_2 = 0 → post 0) ∧ (¬ r_2 = 0 → post 1))))))
set_option maxRecDepth 100000 in
set_option maxHeartbeats 4000000 in
theorem c_X9_isPlace (l : Launch) (D : va_G) (cI cB cS : ClassId) (x0 : Int32) (x1 : Int32) (post : Int32 → Prop) (hV : P_X9_isPlace x0 x1 post) : Ci l yX9_isPlace cX9_isPlace 2 (some .boolean) rm_X9_isPlace D cI cB cS [.int x0, .int x1] [] (fun r (_ : Unit) => post r) (fun (_ : Unit) => []) := by
  refine Cz.of ok_X9_isPlace (Nat.le_of_ble_eq_true rfl) ?_
  intro p e s m args below meth c A Q hx hb hml hown ht hnm hK hP hA hS hret ls hl
  have hown : s.vm.findClass RX9 = some m.cls := hown
  have FX : CallFix p m c cX9_isPlace 2 s args tblG RX9 := ⟨hx, hb, hml, hown, ht⟩
  have hP : PD D A [] s.heap := hP
  have hl : lv_has ls 2 [(0, .int x0), (1, .int x1)] := hl
  unfold P_X9_isPlace at hV
  refine lv_iload_n hx hb dX9_isPlace_0 rfl (lv_at hl 0 rfl) ?_
  refine lv_sipush (v := (-400)) hx hb dX9_isPlace_1 (by decide) ?_
  refine lv_sipush (v := 400) hx hb dX9_isPlace_4 (by decide) ?_
  refine KSi (As := [.int x0, .int (-400), .int 400]) (rest := []) FX (c_X9_within l D cI cB cS x0 (-400) 400 _ hV) ok_X9_within is_X9_within li_X9_34 dX9_isPlace_7 hK hP hS hA [] [] rfl rfl (by decide) rfl hl.1 (Nat.le_of_ble_eq_true rfl) ⟨Nat.le_of_ble_eq_true rfl, Nat.le_of_ble_eq_true rfl⟩ ⟨Nat.le_of_ble_eq_true rfl, Nat.le_of_ble_eq_true rfl⟩ (fun r_1 _ H locs hV hP hS => ?_)
  have hP : PD D A [] H := hP
  refine lv_if_eq (tgt := 28) hx hb dX9_isPlace_10 (by decide) (fun h => ?_) (fun h => ?_)
  · have hV := hV.1 h
    refine lv_iconst (v := 0) hx hb dX9_isPlace_28 (by decide) ?_
    exact hret _ _ _ _ _ () hS dX9_isPlace_29 hP (by decide) hV
  · have hV := hV.2 h
    refine lv_iload_n hx hb dX9_isPlace_13 rfl (lv_at hl 1 rfl) ?_
    refine lv_iconst (v := 0) hx hb dX9_isPlace_14 (by decide) ?_
    refine lv_sipush (v := 400) hx hb dX9_isPlace_15 (by decide) ?_
    refine KSi (As := [.int x1, .int 0, .int 400]) (rest := []) FX (c_X9_within l D cI cB cS x1 0 400 _ hV) ok_X9_within is_X9_within li_X9_34 dX9_isPlace_18 hK hP hS hA [] [] rfl rfl (by decide) rfl hl.1 (Nat.le_of_ble_eq_true rfl) ⟨Nat.le_of_ble_eq_true rfl, Nat.le_of_ble_eq_true rfl⟩ ⟨Nat.le_of_ble_eq_true rfl, Nat.le_of_ble_eq_true rfl⟩ (fun r_2 _ H locs hV hP hS => ?_)
    have hP : PD D A [] H := hP
    refine lv_if_eq (tgt := 28) hx hb dX9_isPlace_21 (by decide) (fun h => ?_) (fun h => ?_)
    · have hV := hV.1 h
      refine lv_iconst (v := 0) hx hb dX9_isPlace_28 (by decide) ?_
      exact hret _ _ _ _ _ () hS dX9_isPlace_29 hP (by decide) hV
    · have hV := hV.2 h
      refine lv_iconst (v := 1) hx hb dX9_isPlace_24 (by decide) ?_
      refine lv_goto (tgt := 29) hx hb dX9_isPlace_25 (by decide) ?_
      exact hret _ _ _ _ _ () hS dX9_isPlace_29 hP (by decide) hV
