/-! the plan, side by side -/
theorem s_cutUpAll {wt mo : Nat → Nat} {lim W H : Nat} {C : Nat → Nat → Nat → Nat → Nat} {F U L F2 F3 F4 F5 F6 F7 : Nat → Int32} {post : Int32 → Int32 → (Nat → Int32) → (Nat → Int32) → (Nat → Int32) → (Nat → Int32) → (Nat → Int32) → (Nat → Int32) → Prop} (hC : Cst wt mo lim C) (hW : 1 ≤ W ∧ W ≤ 8) (hH : 1 ≤ H ∧ H ≤ 8) (hU : UB mo W H 0 U) (hL : LB mo W H H 0 L) (hA : AllC C W H F) (hlt : C 0 0 W H < 1048576)
    (hp : ∀ Z, fin (cu wt mo lim C) 128 [] [(0, 0, W, H)] = Z → Pt W H Z → Z.length ≤ 64 → ∀ F2 F3 F4 F5 F6 F7 : Nat → Int32, RC F2 F3 F4 F5 Z → (∀ b x y, b < Z.length → inB (fun b => (gZ Z b).1) (fun b => (gZ Z b).2.1) (fun b => (gZ Z b).2.2.1) (fun b => (gZ Z b).2.2.2) b x y → F7 (8 * y + x) = nI b) → (∀ b, b < Z.length → F6 b = nI (nx Z.length (fun b => (gZ Z b).1) (fun b => (gZ Z b).2.1) (gZ Z b).2.1 (gZ Z b).1)) → post (nI Z.length) (nI (C 0 0 W H % 256)) F2 F3 F4 F5 F6 F7) : P_X4_cutUp F U L (nI W) (nI H) F2 F3 F4 F5 F6 F7 post := by
  have hwh := le64 hW.2 hH.2
  refine ⟨vi 0 (by decide), fun G2 e2 => ⟨vi 0 (by decide), fun G3 e3 => ⟨vi 0 (by decide), fun G4 e4 => ⟨vi 0 (by decide), fun G5 e5 => ⟨128, ?_⟩⟩⟩⟩⟩
  have c0 : (0 : Int32).toNatClampNeg = 0 := by decide
  rw [c0] at e2 e3 e4 e5
  refine v_cutUp (Z := fin (cu wt mo lim C) 128 [] [(0, 0, W, H)]) hC hW.2 hH.2 hU hL hA (fun K2 K3 K4 K5 hR hPt hlen => ?_) 128 128 0 [] [(0, 0, W, H)] 0 G2 G3 G4 G5 (by simp only [mu]; omega) (by simp only [mu]; omega) (by simp only [mu]; omega) ⟨⟨fun p hp => ?_, List.pairwise_singleton _ _, fun x y hx hy => ⟨(0, 0, W, H), List.mem_singleton.mpr rfl, ?_⟩⟩, by simp [ar], fun p hp => ?_, by simp [sws]⟩ (fun j p hj => ?_) rfl
  · have G := hPt.geo
    have ee : ∀ b, b < (fin (cu wt mo lim C) 128 [] [(0, 0, W, H)]).length → _ := fun b hb => hR.at hb
    exact s_number hW.2 hH.2 G hlen ee (fun K7 h7 => s_turns hW.2 hH.2 G hlen (fun b hb => ⟨(ee b hb).1, (ee b hb).2.1⟩) h7 (fun K6 h6 => hp _ rfl hPt hlen K2 K3 K4 K5 K6 K7 hR h7 h6))
  · rw [List.nil_append] at hp
    rw [List.mem_singleton.mp hp]
    exact ⟨hW.1, hH.1, by simp, by simp⟩
  · exact ⟨by simp, by simpa using hx, by simp, by simpa using hy⟩
  · rw [List.mem_singleton.mp hp]
    exact hlt
  · match j, hj with
    | 0, hj =>
      have e : (0, 0, W, H) = p := Option.some.inj hj
      rw [← e, e2, e3, e4, e5, upd_eq, upd_eq, upd_eq, upd_eq]
      exact ⟨rfl, rfl, rfl, rfl⟩
    | j + 1, hj => simp at hj
theorem core_5 (i : Nat → Int32) (f : Nat → Nat → Int32) (sl : Int32) (cost wtt ubr lbr prs : Nat → Int32) (g : Nat → Option Nat) (all has mfew msawn mcut mtodo mpress mgone : Nat → Int32)  (NX : Int32 → Int32 → (Nat → Int32) → (Nat → Int32) → (Nat → Int32) → (Nat → Int32) → (Nat → Int32) → (Nat → Int32) → Int32 → Int32 → (Nat → Int32) → (Nat → Int32) → Int32 → Int32 → (Nat → Int32) → (Nat → Int32) → (Nat → Int32) → (Nat → Int32) → (Nat → Int32) → (Nat → Int32) → (Nat → Int32) → (Nat → Int32) → (Nat → Int32) → Prop) (h : Rel i f all) (hw : SW wtt) (hN : ∀ (c0 : Int32) (c1 : Int32) (c2 : Nat → Int32) (c3 : Nat → Int32) (c4 : Nat → Int32) (c5 : Nat → Int32) (c6 : Nat → Int32) (c7 : Nat → Int32) (c8 : Int32) (c9 : Int32) (c10 : Nat → Int32) (c11 : Nat → Int32) (c12 : Int32) (c13 : Int32) (c14 : Nat → Int32) (c15 : Nat → Int32) (c16 : Nat → Int32) (c17 : Nat → Int32) (d0 : Nat → Int32) (d1 : Nat → Int32) (d2 : Nat → Int32) (d3 : Nat → Int32) (d4 : Nat → Int32), Rel (mkI (i 0) (i 1) (i 2) (i 3) (i 4) c0 c1 c8 c9 c12) (mkF (f 0) (f 1) c2 c3 c4 c5 c6 c7 (f 8) c10 c11 (f 11) (f 12) (f 13)) d0 → (∀ j, 830 ≤ j → d0 j = all j) → SW c15 → NX c0 c1 c2 c3 c4 c5 c6 c7 c8 c9 c10 c11 c12 c13 c14 c15 c16 c17 d0 d1 d2 d3 d4) : P_X9_plan (i 0) (i 3) (i 4) (f 0) (f 1) (i 5) (i 6) (f 2) (f 3) (f 4) (f 5) (f 6) (f 7) (i 7) (i 8) (f 9) (f 10) (i 9) cost wtt ubr lbr (fun r c0 c1 c2 c3 c4 c5 c6 c7 c8 c9 c10 c11 c12 c13 c14 c15 c16 c17 => P_X10_plan all mfew msawn mcut mtodo (fun r' d0 d1 d2 d3 d4 => r = r' ∧ NX c0 c1 c2 c3 c4 c5 c6 c7 c8 c9 c10 c11 c12 c13 c14 c15 c16 c17 d0 d1 d2 d3 d4)) := by
  obtain ⟨lim, sw, dy, W, H, B0, T0, pn0, O0, wt, mo, hh, l0, lo0, c0, r0, tn0, bA0, q0, h1, h2, h3, h4, h5, h6⟩ := id h
  obtain ⟨C, hC⟩ := Cst.ex wt mo lim
  obtain ⟨⟨i0, a2, l1, l2⟩, s1, s2, ⟨i3, a0, w1, w2⟩, ⟨i4, a1, v1, v2⟩⟩ := id h1
  have hA : WM wt mo lim W H all := ⟨a0, a1, a2, fun k hk => ⟨(h2 k hk).2.2.1, (h2 k hk).2.2.2⟩, fun k hk => ⟨(h2 k hk).1.2.1, (h2 k hk).1.2.2.2⟩, l2, w1, w2, v1, v2⟩
  unfold P_X9_plan
  rw [i0, i3, i4]
  refine s_findsPlan hC ⟨w1, w2⟩ ⟨v1, v2⟩ l2 (fun k hk => ⟨(h2 k hk).1.1, (h2 k hk).1.2.2.2⟩) (fun k hk => ⟨(h2 k hk).2.1, (h2 k hk).2.2.2⟩) hw (fun F G U L sG hU hL hF => bsp (fun z => s_planM hC hA (fun F' S' Q' hS => ?_)) (fun z => s_drop (fun g9 g10 e9 e10 => s_cutUpAll hC ⟨w1, w2⟩ ⟨v1, v2⟩ hU hL hF z (fun Z hZ hPt hlen F2 F3 F4 F5 F6 F7 hR h7 h6' => s_planM hC hA (fun F' S' Q' hS => ?_)))))
  · have a0' : all (0 : Int32).toNatClampNeg = nI W := a0
    have a1' : all (1 : Int32).toNatClampNeg = nI H := a1
    unfold PB
    rw [a0', a1']
    refine s_partM (x := 0) (y := 0) w1 v1 ⟨vi _ (pM_lt w1 v1 (by omega) (by omega)), ?_⟩
    have i := pM_lt w1 v1 (show 0 + W ≤ 8 by omega) (show 0 + H ≤ 8 by omega)
    rw [nI_clamp (by omega)]
    refine ⟨fun _ => ⟨rfl, hN _ _ _ _ _ _ _ _ _ _ _ _ _ _ _ _ _ _ _ _ _ _ _ h.same (fun _ _ => rfl) sG⟩, fun q => absurd ((hS 0 0 W H w1 v1 (by omega) (by omega)).1.lt q) z⟩
  · have a0' : all (0 : Int32).toNatClampNeg = nI W := a0
    have a1' : all (1 : Int32).toNatClampNeg = nI H := a1
    have i := pM_lt w1 v1 (show 0 + W ≤ 8 by omega) (show 0 + H ≤ 8 by omega)
    have hFS := (hS 0 0 W H w1 v1 (by omega) (by omega)).1
    have c6 : (6 : Int32).toNatClampNeg = 6 := by decide
    have k0 : (0 : Int32).toNatClampNeg = 0 := by decide
    have k1 : (1 : Int32).toNatClampNeg = 1 := by decide
    unfold PB
    rw [a0', a1']
    refine s_partM (x := 0) (y := 0) w1 v1 ⟨vi _ i, ?_⟩
    rw [nI_clamp (by omega)]
    refine ⟨fun q => absurd (hFS.z q) (by omega), fun q => s_noPlan (fun d dz dd => ⟨vi _ i, vi 6 (by decide), fun A0 eA => ⟨vi 0 (by decide), vi 1 (by decide), ?_⟩⟩)⟩
    rw [c6] at eA
    have A00 : A0 0 = nI W := by rw [eA, upd_ne (by omega), dd 0 (by omega)]; exact a0
    have A01 : A0 1 = nI H := by rw [eA, upd_ne (by omega), dd 1 (by omega)]; exact a1
    have A06 : A0 6 = nI (C 0 0 W H % 256) := by
      rw [eA, upd_eq]
      rcases hFS with ⟨e1, e2⟩ | ⟨n, s, e1, e2, e3, e4, e5, e6⟩
      · omega
      · rw [e6]; congr 1; omega
    have A05 : A0 5 = nI 0 := by rw [eA, upd_ne (by omega)]; exact dz.1
    have A0o : ∀ j, j < 5 ∨ 9 ≤ j → A0 j = all j := fun j hj => by rw [eA, upd_ne (by omega), dd j hj]
    have A07 : A0 7 = nI 0 := by rw [eA, upd_ne (by omega)]; exact dz.2.2.1
    have A08 : A0 8 = nI 0 := by rw [eA, upd_ne (by omega)]; exact dz.2.2.2
    rw [k0, k1, A00, A01]
    have hwh := le64 w2 v2
    refine s_puts (i := 0) (a := 0) (b := 0) (by omega) (fun T1 t1 t2 => ⟨128, ?_⟩)
    refine v_153 (A0 := A0) (Z := Z) hC w2 v2 hS (fun A T hM => ?_) 128 128 [] [(0, 0, W, H)] 0 A0 T1 (by simp only [mu]; omega) (by simp only [mu]; omega) ⟨⟨fun p hp => ?_, List.pairwise_singleton _ _, fun x y hx hy => ⟨(0, 0, W, H), List.mem_singleton.mpr rfl, ?_⟩⟩, by simp [ar], fun p hp => ?_, by simp [sws]⟩ ⟨A05, fun j _ _ => rfl, fun j p hj => by simp at hj⟩ (fun j p hj => ?_) hZ
    · have G := hPt.geo
      obtain ⟨m1, m2, m3⟩ := hM
      have m3' : ∀ b, b < Z.length → _ := fun b hb => m3 b (gZ Z b) (gZ_some hb)
      refine ⟨Z.length + 1, v_329 (B := Z.length) (l := fun b => (gZ Z b).1) (lo := fun b => (gZ Z b).2.1) hlen m1 (fun a ha => ⟨(m3' a ha).1, (m3' a ha).2.1, by have := G.1 a ha; simp only at this ⊢; omega, by have := G.1 a ha; simp only at this ⊢; omega⟩) (fun A' t6 o => ⟨rfl, ?_⟩) (Z.length + 1) 0 A (by omega) (by omega) (fun b' hb' => by omega) (fun _ _ => rfl)⟩
      have oo : ∀ j, j ≠ 5 → j < 170 ∨ 682 ≤ j → A' j = A0 j := fun j hj hj2 => by
        rw [o j (fun b hb => by omega)]; exact m2 j hj hj2
      have oa : ∀ j, (j < 5 ∨ 9 ≤ j) → j < 170 ∨ 682 ≤ j → A' j = all j := fun j hj hj2 => by
        rw [oo j (by omega) hj2]; exact A0o j hj
      obtain ⟨geo, h7'⟩ := G.geo hlen h7
      refine hN _ _ _ _ _ _ _ _ _ _ _ _ _ _ _ _ _ _ _ _ _ _ _ ⟨lim, sw, dy, W, H, Z.length, 0, 0, 0, wt, mo, hh, fun b => (gZ Z b).1, fun b => (gZ Z b).2.1, fun b => (gZ Z b).2.2.1, fun b => (gZ Z b).2.2.2, fun b => nx Z.length (fun b => (gZ Z b).1) (fun b => (gZ Z b).2.1) (gZ Z b).2.1 (gZ Z b).1, fun k => (F7 k).toNatClampNeg, q0, ?_, ?_, ?_, ?_, ?_, ?_⟩ (fun j hj => oa j (by omega) (by omega)) sG
      · exact h1.view (fun j hj => oa j (by omega) (by omega))
      · exact h2.view (fun j hj hj2 => oa j (by omega) (by omega))
      · exact h3.view (fun j hj hj2 => oa j (by omega) (by omega))
      · refine ⟨⟨rfl, ?_, hlen, ?_⟩, fun b hb => ?_, fun _ x y hx hy => h7' x y hx hy, geo⟩
        · rw [o 5 (fun b hb => by omega)]; exact m1
        · show A' 6 = nI (C 0 0 W H % 256)
          rw [oo 6 (by omega) (by omega)]; exact A06
        · obtain ⟨r1, r2, r3, r4⟩ := hR.at hb
          obtain ⟨n1, n2, n3, n4, n5, n6⟩ := m3' b hb
          rw [o (170 + 8 * b) (fun b hb => by omega), o (170 + 8 * b + 1) (fun b hb => by omega), o (170 + 8 * b + 2) (fun b hb => by omega), o (170 + 8 * b + 3) (fun b hb => by omega)]
          exact ⟨⟨r1, n1⟩, ⟨r2, n2⟩, ⟨r3, n3⟩, ⟨r4, n4⟩, h6' b hb, t6 b hb, Nat.lt_of_lt_of_le (nx_lt (W := W) (H := H) (l := fun b => (gZ Z b).1) (lo := fun b => (gZ Z b).2.1) hb) hlen⟩
      · refine ⟨⟨rfl, rfl, ?_, by omega, by omega, ?_⟩, fun b hb => ?_, fun k hk => by omega, fun k j hk => by omega, fun b hb hz => absurd (e9 b (by omega)) hz, fun p hp => by omega, fun a b ha hb _ hz => absurd (e9 b (by omega)) hz⟩
        · rw [oo 7 (by omega) (by omega)]; exact A07
        · refine (ct_none _ (fun j hj => decide_eq_false (fun hz => hz (e9 j (by omega))))).symm
        · obtain ⟨n1, n2, n3, n4, n5, n6⟩ := m3' b hb
          rw [o (170 + 8 * b + 4) (fun b hb => by omega), o (170 + 8 * b + 5) (fun b hb => by omega), n5, n6]
          exact ⟨(e9 b (by omega)).symm, (e10 b (by omega)).symm, Or.inl ⟨e9 b (by omega), e10 b (by omega)⟩⟩
      · refine ⟨rfl, ?_, by omega, fun k hk => by omega⟩
        rw [oo 8 (by omega) (by omega)]; exact A08
    · rw [List.nil_append] at hp
      rw [List.mem_singleton.mp hp]
      exact ⟨w1, v1, by simp, by simp⟩
    · exact ⟨by simp, by simpa using hx, by simp, by simpa using hy⟩
    · rw [List.mem_singleton.mp hp]
      exact z
    · match j, hj with
      | 0, hj =>
        have e : (0, 0, W, H) = p := Option.some.inj hj
        rw [← e]
        exact t1
      | j + 1, hj => simp at hj
