theorem KK_start {s : State} {args : Array Value} (hts : ∀ w ∈ lw_tbl, w.before args s = true) : ∃ (D : va_G) (cI cB cS : ClassId), KK D cI cB cS s := by
  have ht : ∀ w ∈ tblG, w.before args s = true := fun w h => hts w (List.mem_filter.mp h).1
  obtain ⟨c0, i0, k0⟩ := u_known (C := RX0) (T := TX0) (N := 1) (n := 1) ht uw_X0 (ht _ it_X0)
  obtain ⟨c1, i1, k1⟩ := u_known (C := RX1) (T := TX1) (N := 2) (n := 2) ht uw_X1 (ht _ it_X1)
  obtain ⟨c2, i2, k2⟩ := u_known (C := RX2) (T := TX2) (N := 8) (n := 8) ht uw_X2 (ht _ it_X2)
  obtain ⟨c3, i3, k3⟩ := u_known (C := RX3) (T := TX3) (N := 1) (n := 1) ht uw_X3 (ht _ it_X3)
  obtain ⟨c4, i4, k4⟩ := u_known (C := RX4) (T := TX4) (N := 5) (n := 5) ht uw_X4 (ht _ it_X4)
  obtain ⟨c5, i5, k5⟩ := u_known (C := RX5) (T := TX5) (N := 8) (n := 8) ht uw_X5 (ht _ it_X5)
  obtain ⟨c6, i6, k6⟩ := u_known (C := RX7) (T := TX7) (N := 4) (n := 4) ht uw_X7 (ht _ it_X7)
  obtain ⟨c7, i7, k7⟩ := u_known (C := RX8) (T := TX8) (N := 6) (n := 6) ht uw_X8 (ht _ it_X8)
  obtain ⟨c8, i8, k8⟩ := u_known (C := RX9) (T := TX9) (N := 4) (n := 4) ht uw_X9 (ht _ it_X9)
  obtain ⟨c9, i9, k9⟩ := u_known (C := RX10) (T := TX10) (N := 8) (n := 8) ht uw_X10 (ht _ it_X10)
  obtain ⟨cI, kI, pI, f1, f2, f3⟩ := Cond.arrayClass_spec (ht _ ac_int)
  obtain ⟨cB, kB, pB, g1, g2, g3⟩ := Cond.arrayClass_spec (ht _ ac_boolean)
  have hov : (Cond.arrayOver (.object "TempleRaised$Site")).before args s = true := hts _ (List.mem_of_getElem? (i := 289) (by decide +kernel))
  obtain ⟨pS, cS, kS, s1, s2, s3, s4, s5⟩ := Cond.arrayOver_spec hov
  refine ⟨(fun k => match k with | 0 => c0 | 1 => c1 | 2 => c2 | 3 => c3 | 4 => c4 | 5 => c5 | 6 => c6 | 7 => c7 | 8 => c8 | _ => c9, fun k => match k with | 0 => i0 | 1 => i1 | 2 => i2 | 3 => i3 | 4 => i4 | 5 => i5 | 6 => i6 | 7 => i7 | 8 => i8 | _ => i9), cI, cB, cS, ⟨?_, ?_⟩, ?_, va_AO.of hov⟩
  · intro k q hq
    match k, hq with
    | 0, hq => cases hq; exact k0
    | 1, hq => cases hq; exact k1
    | 2, hq => cases hq; exact k2
    | 3, hq => cases hq; exact k3
    | 4, hq => cases hq; exact k4
    | 5, hq => cases hq; exact k5
    | 6, hq => cases hq; exact k6
    | 7, hq => cases hq; exact k7
    | 8, hq => cases hq; exact k8
    | 9, hq => cases hq; exact k9
    | k + 10, hq => simp [vwCl] at hq
  · intro k q hq
    match k, hq with
    | 0, hq => cases hq; exact ⟨fun _ _ => ⟨fun k h => (by cases h), kI, f2, pI, f3⟩, f1⟩
    | 1, hq => cases hq; exact ⟨fun _ _ => ⟨fun k h => (by cases h), kB, g2, pB, g3⟩, g1⟩
    | 2, hq => cases hq; exact ⟨fun _ _ => ⟨fun k h => (by cases h), kS, s3, pS, s4⟩, kS, pS, s3, s4, s1, s5⟩
    | k + 3, hq => simp [tys3] at hq
  · intro q hq
    exact va_Nw.of rfl (hts _ ((by decide +kernel : ∀ q ∈ nestL, Cond.methodLinkNest q.1 q.2.1 q.2.2.1 q.2.2.2 ∈ lw_tbl) q hq))
/-! THE CLAIM OUT OF ONE WALK OF THE LAW'S BODY. Your part is whole_start (and what it stands on); all else here is the same for every law, but numbers. -/
def R_law : String := "TempleRaisedLaw"
def lw_P (b : Addr) (xs : List Int32) (args : Array Value) (s : State) : Prop := args = #[.ref b] ∧ s.IntsAt b xs ∧ xs.length ≤ 2560 ∧ (Jvm.Cond.and given_1 narrow_1).before args s = true
def lw_Q (_ : Array Value) (s : State) (o : Outcome) (t : State) : Prop := o = .returned (some (.int 1)) ∧ Framed s o t [] 600000 7302250
def lw_Z (below : List Frame) (a : Array Value) (s : State) : State → Prop := fun t => ∃ o, t.status = .running ∧ Ended t below o ∧ lw_Q a s o t
/-- the law's own end, with 1 on the stack, nothing written that was there before, its room as the claim has it -/
theorem lw_ret {p : Program} {l : Launch} {e : Env} {s : State} {m : MethodId} {below : List Frame} {meth : Method} {c : Code} {b : Nat} (hx : p.tables.exec = Jvm.exec) (hb : c.code = code) (hr : meth.sig.returnType = ret) (hlocks : meth.locks = false) {pc : Nat} {H : Heap} {ls : Array Slot} (hdg : decode code pc = .ok (.ireturn, 1)) : W p l e room_1 s m #[Value.ref b] below meth c H [] 600000 7302250 (lw_Z below #[Value.ref b] s) (F0 m pc ls [.int 1]) := by
  intro T hT X
  obtain ⟨fs, hret, hrun, hended, hW, hframe⟩ := X.leave (v := some (.int 1)) (hlocks := hlocks) (fun h => by rw [hr] at h; cases h)
  have hmeth' : T.vm.method? m = some meth := X.method'
  refine ⟨T.setFrames fs, ?_, .returned (some (.int 1)), hrun, hended, rfl, ⟨_, rfl⟩, hW, hframe⟩
  jvm_step X.here [X.here.top, hx, hb, hdg, hmeth', hr, ret, narrow_b1]
  (try refine ⟨rfl, ?_⟩); (try refine ⟨rfl, ?_⟩)
  first | (intro acts; rw [hret _ acts rfl rfl rfl]) | rw [hret _ _ rfl rfl rfl]
  exact Steps.refl _
/-- what holds at the law's entry: the machine, the code, the tables' words (any of lw_tbl by 'hts w (by decide +kernel)'), the script of L ints xs at the cell b, what the Statement gives of the start (any of its parts by flat_of_before) -/
def lw_At (p : Program) (s : State) (m : MethodId) (meth : Method) (c : Code) (b L : Nat) (xs : Nat → Int32) : Prop :=
  p.tables.exec = Jvm.exec ∧ c.code = code ∧ meth.sig.returnType = ret ∧ c.maxLocals = 4 ∧ s.vm.findClass R_law = some m.cls ∧ (∀ w ∈ lw_tbl, w.before #[Value.ref b] s = true) ∧ va_X b L xs s s.heap ∧ b < s.heap.size ∧ meth.locks = false ∧ (Jvm.Cond.and given_1 narrow_1).before #[Value.ref b] s = true
set_option maxRecDepth 100000 in
set_option maxHeartbeats 4000000 in
theorem whole_start {p : Program} {e : Env} {s : State} {m : MethodId} {below : List Frame} {meth : Method} {c : Code} (l : Launch) {b L : Nat} {xs : Nat → Int32} (hL : L ≤ 2560) (C0 : lw_At p s m meth c b L xs) : W p l e room_1 s m #[Value.ref b] below meth c s.heap [] 0 0 (lw_Z below #[Value.ref b] s) (entryFrame m ([Value.ref b] : List Value).toArray 4) := by
  obtain ⟨hx, hb, hr, hml, hown, hts, hX, hbl, hlocks, hgv⟩ := C0
  obtain ⟨D, cI, cB, cS, hK⟩ := KK_start hts
  have ht : ∀ w ∈ tblG, w.before #[Value.ref b] s = true := fun w h => hts w (List.mem_filter.mp h).1
  have hown : s.vm.findClass RL = some m.cls := hown
  have X : LX p s m c b L xs #[Value.ref b] := ⟨hx, hb, hml, hown, ht, hX, hbl⟩
  have hA : ∀ q, s.heap.size ≤ q → AL s q := fun _ h => h
  have FX : CallFix p m c code 4 s #[Value.ref b] tblG RL := ⟨hx, hb, hml, hown, ht⟩
  have hS : va_S (AL s) s.heap s.heap [] := va_S.rf
  have hP : PD D (AL s) [] s.heap := ⟨fun k q h => by simp at h, fun i j p q h => by simp at h, fun k q h => by simp at h⟩
  have hret : ∀ (H : Heap) (locs : List Loc) (ls : Array Slot) (cells slots : Nat), cells ≤ 600000 → slots ≤ 7302250 → va_S (AL s) s.heap H locs → W p l e room_1 s m #[Value.ref b] below meth c H locs cells slots (lw_Z below #[Value.ref b] s) (F0 m 732 ls [.int 1]) :=
    fun H locs ls cells slots h1 h2 hS => va_forget (fun q hq => hS.2.2 q hq) (W.widen (k := 600000) (n := 7302250) h1 h2 (lw_ret hx hb hr hlocks dL_law_732))
  have hl := lv_entry ([.ref b]) (n := 4) (Nat.le_of_ble_eq_true rfl)
  rw [lg_entry_eq]
  generalize (lg_sl ([.ref b]) ++ List.replicate (4 - (lg_sl ([.ref b])).length) Slot.unset).toArray = ls at hl ⊢
  have hl : lv_has ls 4 [(0, .ref b)] := hl
  have hV := core_init
  refine nX9 hx hb ht hown hK hP hS hA cl_L_7 [.null, .null, .null, .null] (fun j hj => by rcases (show j = 0 ∨ j = 1 ∨ j = 2 ∨ j = 3 by omega) with rfl | rfl | rfl | rfl <;> rfl) (Nat.le_of_ble_eq_true rfl) (Nat.le_of_ble_eq_true rfl) dL_law_0 (fun q0 H hP hS => ?_)
  have hV := hV q0
  have hP : PD D (AL s) [oc q0 8 [.null, .null, .null, .null]] H := hP
  refine lv_dup hx hb dL_law_3 rfl ?_
  refine KIv (As := []) (rest := [.ref q0]) FX (c_X9_init l D cI cB cS q0 _ hV) ok_X9_init im_X9_init rfl li_L_9 dL_law_4 hK hP hS hA [0] [] rfl rfl (by decide) rfl hl.1 (Nat.le_of_ble_eq_true rfl) ⟨Nat.le_of_ble_eq_true rfl, Nat.le_of_ble_eq_true rfl⟩ ⟨Nat.le_of_ble_eq_true rfl, Nat.le_of_ble_eq_true rfl⟩ (fun u H locs hV hP hS => ?_)
  obtain ⟨q_1, q_2, q_3, q_4, q_5, q_6, q_7, q_8, q_9, q_10, q_11, q_12, q_13, q_14, q_15, q_16, q_17, q_18, q_19, q_20, q_21, q_22, q_23, q_24, q_25, q_26, q_27, q_28, i_29, i_30, i_31, i_32, i_33, f_34, f_35, i_36, i_37, f_38, f_39, f_40, f_41, f_42, f_43, f_44, i_45, i_46, f_47, f_48, f_49, f_50, i_51, f_52, i_53, f_54, f_55, f_56, f_57, f_58, f_59⟩ := u
  try dsimp only at hV
  have hP : PD D (AL s) [oc q0 8 [.ref q_1, .ref q_21, .ref q_26, .ref q_28], oc q_1 5 [.int i_29, .int i_30, .int i_31, .ref q_2, .ref q_5, .ref q_12, .ref q_14, .ref q_19], oc q_2 6 [.int i_32, .int i_33, .ref q_3, .ref q_4], ai cI q_3 64 f_34, ai cI q_4 64 f_35, oc q_5 2 [.int i_36, .int i_37, .ref q_6, .ref q_7, .ref q_8, .ref q_9, .ref q_10, .ref q_11], ai cI q_6 64 f_38, ai cI q_7 64 f_39, ai cI q_8 64 f_40, ai cI q_9 64 f_41, ai cI q_10 64 f_42, ai cI q_11 64 f_43, oc q_12 3 [.ref q_13], ai cI q_13 12 f_44, oc q_14 7 [.int i_45, .int i_46, .ref q_17, .ref q_18, .ref q_15, .ref q_16], ai cI q_15 64 f_47, ai cI q_16 64 f_48, ai cI q_17 64 f_49, ai cI q_18 64 f_50, oc q_19 1 [.int i_51, .ref q_20], ai cI q_20 64 f_52, oc q_21 4 [.int i_53, .ref q_22, .ref q_23, .ref q_24, .ref q_25], ai cI q_22 1296 f_54, ai cI q_23 81 f_55, ai cI q_24 8 f_56, ai cI q_25 8 f_57, oc q_26 0 [.ref q_27], ai cI q_27 64 f_58, aq cS q_28 3 f_59] H := hP
  refine lv_astore_n (lv' := [(1, .ref q0), (0, .ref b)]) hx hb dL_law_7 rfl hl (by decide) rfl (fun ls hl => ?_)
  refine nX10 hx hb ht hown hK hP hS hA cl_L_10 [.null, .null, .null, .null, .null, .null, .null, .null] (fun j hj => by rcases (show j = 0 ∨ j = 1 ∨ j = 2 ∨ j = 3 ∨ j = 4 ∨ j = 5 ∨ j = 6 ∨ j = 7 by omega) with rfl | rfl | rfl | rfl | rfl | rfl | rfl | rfl <;> rfl) (Nat.le_of_ble_eq_true rfl) (Nat.le_of_ble_eq_true rfl) dL_law_8 (fun q8 H hP hS => ?_)
  have hV := hV q8
  have hP : PD D (AL s) [oc q0 8 [.ref q_1, .ref q_21, .ref q_26, .ref q_28], oc q_1 5 [.int i_29, .int i_30, .int i_31, .ref q_2, .ref q_5, .ref q_12, .ref q_14, .ref q_19], oc q_2 6 [.int i_32, .int i_33, .ref q_3, .ref q_4], ai cI q_3 64 f_34, ai cI q_4 64 f_35, oc q_5 2 [.int i_36, .int i_37, .ref q_6, .ref q_7, .ref q_8, .ref q_9, .ref q_10, .ref q_11], ai cI q_6 64 f_38, ai cI q_7 64 f_39, ai cI q_8 64 f_40, ai cI q_9 64 f_41, ai cI q_10 64 f_42, ai cI q_11 64 f_43, oc q_12 3 [.ref q_13], ai cI q_13 12 f_44, oc q_14 7 [.int i_45, .int i_46, .ref q_17, .ref q_18, .ref q_15, .ref q_16], ai cI q_15 64 f_47, ai cI q_16 64 f_48, ai cI q_17 64 f_49, ai cI q_18 64 f_50, oc q_19 1 [.int i_51, .ref q_20], ai cI q_20 64 f_52, oc q_21 4 [.int i_53, .ref q_22, .ref q_23, .ref q_24, .ref q_25], ai cI q_22 1296 f_54, ai cI q_23 81 f_55, ai cI q_24 8 f_56, ai cI q_25 8 f_57, oc q_26 0 [.ref q_27], ai cI q_27 64 f_58, aq cS q_28 3 f_59, oc q8 9 [.null, .null, .null, .null, .null, .null, .null, .null]] H := hP
  refine lv_dup hx hb dL_law_11 rfl ?_
  refine KIv (As := []) (rest := [.ref q8]) FX (c_X10_init l D cI cB cS q8 _ hV) ok_X10_init im_X10_init rfl li_L_12 dL_law_12 hK hP hS hA [29] [0, 1, 2, 3, 4, 5, 6, 7, 8, 9, 10, 11, 12, 13, 14, 15, 16, 17, 18, 19, 20, 21, 22, 23, 24, 25, 26, 27, 28] rfl rfl (by decide) rfl hl.1 (Nat.le_of_ble_eq_true rfl) ⟨Nat.le_of_ble_eq_true rfl, Nat.le_of_ble_eq_true rfl⟩ ⟨Nat.le_of_ble_eq_true rfl, Nat.le_of_ble_eq_true rfl⟩ (fun u H locs hV hP hS => ?_)
  obtain ⟨q_60, q_61, q_62, q_63, q_64, q_65, q_66, q_67, f_68, f_69, f_70, f_71, f_72, f_73, f_74, f_75⟩ := u
  try dsimp only at hV
  have hP : PD D (AL s) [oc q0 8 [.ref q_1, .ref q_21, .ref q_26, .ref q_28], oc q_1 5 [.int i_29, .int i_30, .int i_31, .ref q_2, .ref q_5, .ref q_12, .ref q_14, .ref q_19], oc q_2 6 [.int i_32, .int i_33, .ref q_3, .ref q_4], ai cI q_3 64 f_34, ai cI q_4 64 f_35, oc q_5 2 [.int i_36, .int i_37, .ref q_6, .ref q_7, .ref q_8, .ref q_9, .ref q_10, .ref q_11], ai cI q_6 64 f_38, ai cI q_7 64 f_39, ai cI q_8 64 f_40, ai cI q_9 64 f_41, ai cI q_10 64 f_42, ai cI q_11 64 f_43, oc q_12 3 [.ref q_13], ai cI q_13 12 f_44, oc q_14 7 [.int i_45, .int i_46, .ref q_17, .ref q_18, .ref q_15, .ref q_16], ai cI q_15 64 f_47, ai cI q_16 64 f_48, ai cI q_17 64 f_49, ai cI q_18 64 f_50, oc q_19 1 [.int i_51, .ref q_20], ai cI q_20 64 f_52, oc q_21 4 [.int i_53, .ref q_22, .ref q_23, .ref q_24, .ref q_25], ai cI q_22 1296 f_54, ai cI q_23 81 f_55, ai cI q_24 8 f_56, ai cI q_25 8 f_57, oc q_26 0 [.ref q_27], ai cI q_27 64 f_58, aq cS q_28 3 f_59, oc q8 9 [.ref q_67, .ref q_60, .ref q_61, .ref q_62, .ref q_63, .ref q_64, .ref q_65, .ref q_66], ai cB q_60 3 f_68, ai cI q_61 4096 f_69, ai cI q_62 4096 f_70, ai cI q_63 4096 f_71, ai cI q_64 256 f_72, ai cI q_65 64 f_73, ai cB q_66 64 f_74, ai cI q_67 3320 f_75] H := hP
  refine lv_astore_n (lv' := [(2, .ref q8), (1, .ref q0), (0, .ref b)]) hx hb dL_law_15 rfl hl (by decide) rfl (fun ls hl => ?_)
  refine lv_iconst (v := 0) hx hb dL_law_16 (by decide) ?_
  refine lv_istore_n (lv' := [(3, .int 0), (2, .ref q8), (1, .ref q0), (0, .ref b)]) hx hb dL_law_17 rfl hl (by decide) rfl (fun ls hl => ?_)
  obtain ⟨hR, hg, hh, hw⟩ := hV
  exact law_loop hL X hK hret (L + 6) 0 (by omega) (by omega) (fun j => match j with | 0 => q0 | 1 => q_1 | 2 => q_2 | 3 => q_3 | 4 => q_4 | 5 => q_5 | 6 => q_6 | 7 => q_7 | 8 => q_8 | 9 => q_9 | 10 => q_10 | 11 => q_11 | 12 => q_12 | 13 => q_13 | 14 => q_14 | 15 => q_17 | 16 => q_18 | 17 => q_15 | 18 => q_16 | 19 => q_19 | 20 => q_20 | 21 => q_21 | 22 => q_22 | 23 => q_23 | 24 => q_24 | 25 => q_25 | 26 => q_26 | 27 => q_27 | _ => q_28) (fun j => match j with | 0 => q8 | 1 => q_67 | 2 => q_60 | 3 => q_61 | 4 => q_62 | 5 => q_63 | 6 => q_64 | 7 => q_65 | _ => q_66) (mkI i_29 i_30 i_31 i_32 i_33 i_36 i_37 i_45 i_46 i_51) (mkF f_34 f_35 f_38 f_39 f_40 f_41 f_42 f_43 f_44 f_49 f_50 f_47 f_48 f_52) i_53 f_54 f_55 f_56 f_57 f_58 f_59 f_75 f_68 f_69 f_70 f_71 f_72 f_73 f_74 (fun _ => false) (fun _ _ => 0) (fun _ _ => 0) (fun _ _ _ => 0) 0 _ _ _ _ _ rfl (Nat.le_of_ble_eq_true rfl) (Nat.le_of_ble_eq_true rfl) ⟨hR, hw⟩ (fun k hk => ⟨fun q => Bool.noConfusion q, fun _ => hh k⟩) (fun k hk => hg k) (hP.sub [0, 1, 2, 3, 4, 5, 6, 7, 8, 9, 10, 11, 12, 13, 14, 17, 18, 15, 16, 19, 20, 21, 22, 23, 24, 25, 26, 27, 28, 29, 37, 30, 31, 32, 33, 34, 35, 36] rfl rfl) hS (lv_sub hl [3, 2, 1, 0] rfl)
