theorem core_3 (i : Nat → Int32) (f : Nat → Nat → Int32) (sl : Int32) (cost wtt ubr lbr prs : Nat → Int32) (g : Nat → Option Nat) (all has mfew msawn mcut mtodo mpress mgone : Nat → Int32) (y1 : Int32) (NX : Int32 → (Nat → Int32) → Prop) (h : Rel i f all) (hN : ∀ (c0 : Int32) (d0 : Nat → Int32), Rel (mkI c0 (i 1) (i 2) (i 3) (i 4) (i 5) (i 6) (i 7) (i 8) (i 9)) f d0 → (∀ j, 830 ≤ j → d0 j = all j) → NX c0 d0) : P_X9_limit y1 (i 0) (fun r c0 => P_X10_limit y1 all (fun r' d0 => r = r' ∧ NX c0 d0)) := by
  unfold P_X9_limit P_X10_limit
  refine s_within (bsp (fun hc => ?_) (fun hc => ?_))
  · refine s_isIn (bsp (fun _ => ⟨rfl, hN _ _ h.same (fun _ _ => rfl)⟩) (fun q => absurd q hc))
  · refine s_isIn (bsp (fun q => absurd hc q) (fun _ => ⟨vi 2 (by decide), fun d0 e => ⟨rfl, ?_⟩⟩))
    obtain ⟨k, k1, k2, rfl⟩ := rng (a := 1) (b := 3200) (by decide) (by decide) hc
    obtain ⟨lim, sw, dy, w, h', B, T, pn, O, wt, mo, hh, l, lo, c, r, tn, bA, q, h1, h2, h3, h4, h5, h6⟩ := h
    have ha : ∀ j, j ≠ 2 → d0 j = all j := fun j hj => by rw [e]; exact upd_ne hj
    have ha2 : d0 2 = nI k := by rw [e]; exact upd_eq
    refine hN _ _ ⟨k, sw, dy, w, h', B, T, pn, O, wt, mo, hh, l, lo, c, r, tn, bA, q, ?_, h2.view (fun j _ _ => ha j (by omega)), h3.view (fun j _ _ => ha j (by omega)), RPl.view (i := i) h4 (ha 5 (by omega)) (ha 6 (by omega)) (fun b j _ _ _ _ => ha _ (by omega)), RYd.view (i := i) h5 (ha 7 (by omega)) (fun b j _ _ => ha _ (by omega)) (fun k _ => ha _ (by omega)), ROd.view (i := i) h6 (ha 8 (by omega)) (fun k _ => ha _ (by omega))⟩ (fun j hj => ha j (by omega))
    unfold RSc at *
    rw [ha2, ha 3 (by omega), ha 4 (by omega), ha 0 (by omega), ha 1 (by omega)]
    exact ⟨⟨rfl, rfl, k1, k2⟩, h1.2⟩
theorem core_4 (i : Nat → Int32) (f : Nat → Nat → Int32) (sl : Int32) (cost wtt ubr lbr prs : Nat → Int32) (g : Nat → Option Nat) (all has mfew msawn mcut mtodo mpress mgone : Nat → Int32) (y1 : Int32) (NX : Int32 → (Nat → Int32) → Prop) (h : Rel i f all) (hN : ∀ (c0 : Int32) (d0 : Nat → Int32), Rel (mkI (i 0) c0 (i 2) (i 3) (i 4) (i 5) (i 6) (i 7) (i 8) (i 9)) f d0 → (∀ j, 830 ≤ j → d0 j = all j) → NX c0 d0) : P_X9_saw y1 (i 1) (fun r c0 => P_X10_saw y1 all (fun r' d0 => r = r' ∧ NX c0 d0)) := by
  unfold P_X9_saw P_X10_saw
  refine s_within (bsp (fun hc => ?_) (fun hc => ?_))
  · refine s_isIn (bsp (fun _ => ⟨rfl, hN _ _ h.same (fun _ _ => rfl)⟩) (fun q => absurd q hc))
  · refine s_isIn (bsp (fun q => absurd hc q) (fun _ => ⟨vi 3 (by decide), fun d0 e => ⟨rfl, ?_⟩⟩))
    obtain ⟨k, k1, k2, rfl⟩ := rng (a := 1) (b := 9) (by decide) (by decide) hc
    obtain ⟨lim, sw, dy, w, h', B, T, pn, O, wt, mo, hh, l, lo, c, r, tn, bA, q, h1, h2, h3, h4, h5, h6⟩ := h
    have ha : ∀ j, j ≠ 3 → d0 j = all j := fun j hj => by rw [e]; exact upd_ne hj
    have ha2 : d0 3 = nI k := by rw [e]; exact upd_eq
    refine hN _ _ ⟨lim, k, dy, w, h', B, T, pn, O, wt, mo, hh, l, lo, c, r, tn, bA, q, ?_, h2.view (fun j _ _ => ha j (by omega)), h3.view (fun j _ _ => ha j (by omega)), RPl.view (i := i) h4 (ha 5 (by omega)) (ha 6 (by omega)) (fun b j _ _ _ _ => ha _ (by omega)), RYd.view (i := i) h5 (ha 7 (by omega)) (fun b j _ _ => ha _ (by omega)) (fun k _ => ha _ (by omega)), ROd.view (i := i) h6 (ha 8 (by omega)) (fun k _ => ha _ (by omega))⟩ (fun j hj => ha j (by omega))
    unfold RSc at *
    rw [ha2, ha 2 (by omega), ha 4 (by omega), ha 0 (by omega), ha 1 (by omega)]
    exact ⟨h1.1, ⟨rfl, rfl, k1, k2⟩, h1.2.2⟩
theorem core_9 (i : Nat → Int32) (f : Nat → Nat → Int32) (sl : Int32) (cost wtt ubr lbr prs : Nat → Int32) (g : Nat → Option Nat) (all has mfew msawn mcut mtodo mpress mgone : Nat → Int32) (y1 : Int32) (y2 : Int32) (NX : (Nat → Int32) → (Nat → Int32) → Prop) (h : Rel i f all) (hN : ∀ (c0 : Nat → Int32) (d0 : Nat → Int32), Rel i (mkF (f 0) (f 1) (f 2) (f 3) (f 4) (f 5) (f 6) (f 7) c0 (f 9) (f 10) (f 11) (f 12) (f 13)) d0 → (∀ j, 830 ≤ j → d0 j = all j) → NX c0 d0) : P_X9_river y1 y2 (f 8) (fun r c0 => P_X10_river y1 y2 all (fun r' d0 => r = r' ∧ NX c0 d0)) := by
  unfold P_X9_river P_X10_river
  refine s_within (bsp (fun hc => ?_) (fun hc => ?_))
  · refine s_isIn (bsp (fun _ => ⟨rfl, hN _ _ h.same (fun _ _ => rfl)⟩) (fun q => absurd q hc))
  · refine s_within (bsp (fun hd => ?_) (fun hd => ?_))
    · refine s_isIn (bsp (fun q => absurd hc q) (fun _ => s_isIn (bsp (fun _ => ⟨rfl, hN _ _ h.same (fun _ _ => rfl)⟩) (fun q => absurd q hd))))
    · obtain ⟨m, k1, k2, rfl⟩ := rng (a := 0) (b := 11) (by decide) (by decide) hc
      obtain ⟨k, k3, k4, rfl⟩ := rng (a := 0) (b := 9) (by decide) (by decide) hd
      have e1 : (10 + nI m) = nI (10 + m) := by rw [L10, nI_add]
      refine ⟨vi m (by omega), fun c0 e0 => s_isIn (bsp (fun q => absurd hc q) (fun _ => s_isIn (bsp (fun q => absurd hd q) (fun _ => ?_))))⟩
      rw [nI_clamp (by omega)] at e0
      rw [e1, nI_clamp (by omega)]
      refine ⟨vi _ (by omega), fun d0 e => ⟨rfl, ?_⟩⟩
      obtain ⟨lim, sw, dy, w, h', B, T, pn, O, wt, mo, hh, l, lo, c, r, tn, bA, q, h1, h2, h3, h4, h5, h6⟩ := h
      have ha : ∀ j, j ≠ 10 + m → d0 j = all j := fun j hj => by rw [e]; exact upd_ne hj
      have ha2 : d0 (10 + m) = nI k := by rw [e]; exact upd_eq
      refine hN _ _ ⟨lim, sw, dy, w, h', B, T, pn, O, wt, mo, (va_up hh m k), l, lo, c, r, tn, bA, q, h1.view (fun j _ => ha j (by omega)), h2.view (fun j _ _ => ha j (by omega)), ?_, RPl.view (f := f) h4 (ha 5 (by omega)) (ha 6 (by omega)) (fun b j _ _ _ _ => ha _ (by omega)), RYd.view (f := f) h5 (ha 7 (by omega)) (fun b j _ _ => ha _ (by omega)) (fun k _ => ha _ (by omega)), ROd.view (f := f) h6 (ha 8 (by omega)) (fun k _ => ha _ (by omega))⟩ (fun j hj => ha j (by omega))
      intro j hj
      show c0 j = _ ∧ _
      by_cases hjm : j = m
      · subst hjm
        rw [ha2, e0, upd_eq, vaup_eq]
        exact ⟨rfl, rfl, k4⟩
      · rw [ha _ (by omega), e0, upd_ne hjm, vaup_ne hjm]
        exact h3 j hj
theorem core_10 (i : Nat → Int32) (f : Nat → Nat → Int32) (sl : Int32) (cost wtt ubr lbr prs : Nat → Int32) (g : Nat → Option Nat) (all has mfew msawn mcut mtodo mpress mgone : Nat → Int32) (y1 : Int32) (NX : Int32 → (Nat → Int32) → Prop) (h : Rel i f all) (hN : ∀ (c0 : Int32) (d0 : Nat → Int32), Rel (mkI (i 0) (i 1) c0 (i 3) (i 4) (i 5) (i 6) (i 7) (i 8) (i 9)) f d0 → (∀ j, 830 ≤ j → d0 j = all j) → NX c0 d0) : P_X9_days y1 (i 2) (fun r c0 => P_X10_days y1 all (fun r' d0 => r = r' ∧ NX c0 d0)) := by
  obtain ⟨lim, sw, dy, w, h', B, T, pn, O, wt, mo, hh, l, lo, c, r, tn, bA, q, h1, h2, h3, h4, h5, h6⟩ := id h
  obtain ⟨-, -, ⟨d1, d2, d3⟩, -⟩ := id h1
  have a4 : all (4 : Int32).toNatClampNeg = nI dy := d2
  unfold P_X9_days P_X10_days
  rw [d1, a4]
  refine s_within (bsp (fun hc => ?_) (fun hc => ?_))
  · refine s_isIn (bsp (fun _ => ⟨rfl, hN _ _ (by rw [← d1]; exact h.same) (fun _ _ => rfl)⟩) (fun q => absurd q hc))
  · obtain ⟨k, k1, k2, rfl⟩ := rng (a := 1) (b := 100) (by decide) (by decide) hc
    refine ⟨fun q => fun c0 e0 => ?_, fun q => ?_⟩
    · refine s_isIn (bsp (fun q => absurd hc q) (fun _ => ⟨vi 4 (by decide), fun _ => ⟨vi 4 (by decide), vi 4 (by decide), fun d0 e => ⟨vi 4 (by decide), ?_⟩⟩, fun q2 => absurd q q2⟩))
      have ha : ∀ j, j ≠ 4 → d0 j = all j := fun j hj => by rw [e]; exact upd_ne hj
      have ha2 : d0 4 = nI dy + nI k := by rw [e]; exact upd_eq
      refine ⟨by rw [e0]; exact ha2.symm, ?_⟩
      rw [nI_add, L5000, nI_leI (by omega) (by decide)] at q
      rw [nI_add] at e0 ha2
      refine hN _ _ ⟨lim, sw, dy + k, w, h', B, T, pn, O, wt, mo, hh, l, lo, c, r, tn, bA, ‹Nat → Nat›, ?_, h2.view (fun j _ _ => ha j (by omega)), h3.view (fun j _ _ => ha j (by omega)), RPl.view (i := i) h4 (ha 5 (by omega)) (ha 6 (by omega)) (fun b j _ _ _ _ => ha _ (by omega)), RYd.view (i := i) h5 (ha 7 (by omega)) (fun b j _ _ => ha _ (by omega)) (fun k _ => ha _ (by omega)), ROd.view (i := i) h6 (ha 8 (by omega)) (fun k _ => ha _ (by omega))⟩ (fun j hj => ha j (by omega))
      unfold RSc at *
      rw [ha2, ha 2 (by omega), ha 3 (by omega), ha 0 (by omega), ha 1 (by omega)]
      exact ⟨h1.1, h1.2.1, ⟨e0, rfl, q⟩, h1.2.2.2⟩
    · refine s_isIn (bsp (fun q => absurd hc q) (fun _ => ⟨vi 4 (by decide), fun q2 => absurd q2 q, fun _ => ⟨rfl, hN _ _ (by rw [← d1]; exact h.same) (fun _ _ => rfl)⟩⟩))
theorem core_13 (i : Nat → Int32) (f : Nat → Nat → Int32) (sl : Int32) (cost wtt ubr lbr prs : Nat → Int32) (g : Nat → Option Nat) (all has mfew msawn mcut mtodo mpress mgone : Nat → Int32) (y1 : Int32) (NX : Prop) (h : Rel i f all) (hN : NX) : P_X9_ordered y1 (i 9) (f 13) (fun r => P_X10_ordered y1 all (fun r' => r = r' ∧ NX)) := by
  obtain ⟨lim, sw, dy, w, h', B, T, pn, O, wt, mo, hh, l, lo, c, r, tn, bA, q, h1, h2, h3, h4, h5, h6⟩ := h
  obtain ⟨g1, g2, g3, g4⟩ := h6
  have a8 : all (8 : Int32).toNatClampNeg = nI O := g2
  unfold P_X9_ordered P_X10_ordered
  rw [g1, a8]
  refine s_within (bsp (fun hc => ⟨vi 8 (by decide), s_isIn (bsp (fun _ => ⟨rfl, hN⟩) (fun q => absurd q hc))⟩) (fun hc => ?_))
  have hO : 0 < O := by
    rcases Nat.eq_zero_or_pos O with q | q
    · subst q
      have h1 := i32_le.mp hc.1
      have h2 := i32_le.mp hc.2
      have e1 : (nI 0 - 1).toInt = -1 := by decide
      have e2 : (0 : Int32).toInt = 0 := by decide
      omega
    · exact q
  have e1 : nI O - 1 = nI (O - 1) := by rw [L1, pk_sub (by omega)]
  rw [e1] at hc ⊢
  obtain ⟨k, k1, k2, rfl⟩ := rng (a := 0) (by decide) (by omega) hc
  have e2 : (690 + nI k) = nI (690 + k) := by rw [L690, nI_add]
  refine ⟨vi k (by omega), vi 8 (by decide), s_isIn (bsp (fun q => absurd hc q) (fun _ => ?_))⟩
  rw [e2, nI_clamp (by omega), nI_clamp (by omega)]
  exact ⟨vi _ (by omega), (g4 k (by omega)).symm, hN⟩
