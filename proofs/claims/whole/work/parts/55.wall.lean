/-! bits: the family b_ of kit/laws/BITS.to-paste, pasted -/
def bt (x : Int32) (i : Nat) : Bool := x.toBitVec.getLsbD i
theorem b_ext {x y : Int32} (h : ∀ i, i < 32 → bt x i = bt y i) : x = y := Int32.toBitVec_inj.mp (BitVec.eq_of_getLsbD_eq (fun i hi => h i hi))
theorem b_or (x y : Int32) (i : Nat) : bt (x ||| y) i = (bt x i || bt y i) := by unfold bt; rw [Int32.toBitVec_or, BitVec.getLsbD_or]
theorem b_and (x y : Int32) (i : Nat) : bt (x &&& y) i = (bt x i && bt y i) := by unfold bt; rw [Int32.toBitVec_and, BitVec.getLsbD_and]
theorem b_xor (x y : Int32) (i : Nat) : bt (x ^^^ y) i = (bt x i ^^ bt y i) := by unfold bt; rw [Int32.toBitVec_xor, BitVec.getLsbD_xor]
theorem b_big {x : Int32} {i : Nat} (h : 32 ≤ i) : bt x i = false := BitVec.getLsbD_of_ge _ _ h
theorem b_255 (i : Nat) : bt 255 i = decide (i < 8) := by
  rcases Nat.lt_or_ge i 32 with h | h
  · exact (by decide +kernel : ∀ i, i < 32 → bt 255 i = decide (i < 8)) i h
  · rw [b_big h, decide_eq_false (by omega)]
theorem b_65535 (i : Nat) : bt 65535 i = decide (i < 16) := by
  rcases Nat.lt_or_ge i 32 with h | h
  · exact (by decide +kernel : ∀ i, i < 32 → bt 65535 i = decide (i < 16)) i h
  · rw [b_big h, decide_eq_false (by omega)]
theorem b_m1 : ∀ i, i < 32 → bt (-1) i = true := by decide +kernel
theorem b_0 (i : Nat) : bt 0 i = false := BitVec.getLsbD_zero
theorem s_l : ∀ n, n < 32 → ((nI n &&& 31).toBitVec.smod 32).toNat = n := by decide +kernel
theorem s_u : ∀ n, n < 32 → (((nI n).toUInt32 &&& Int32.toUInt32 31).toBitVec % 32).toNat = n := by decide +kernel
theorem b_shl (n : Nat) (hn : n < 32) (x : Int32) {i : Nat} (hi : i < 32) : bt (x <<< (nI n &&& 31)) i = (decide (n ≤ i) && bt x (i - n)) := by
  unfold bt
  rw [Int32.toBitVec_shiftLeft]
  show (x.toBitVec <<< ((nI n &&& 31).toBitVec.smod 32).toNat).getLsbD i = _
  rw [s_l n hn, BitVec.getLsbD_shiftLeft]
  rcases Nat.lt_or_ge i n with h | h
  · simp [h, Nat.not_le.mpr h]
  · simp [hi, h, Nat.not_lt.mpr h]
theorem b_ushr (n : Nat) (hn : n < 32) (x : Int32) (i : Nat) : bt ((x.toUInt32 >>> ((nI n).toUInt32 &&& Int32.toUInt32 31)).toInt32) i = bt x (n + i) := by
  show (x.toUInt32 >>> ((nI n).toUInt32 &&& Int32.toUInt32 31)).toBitVec.getLsbD i = x.toUInt32.toBitVec.getLsbD (n + i)
  rw [UInt32.toBitVec_shiftRight]
  show (x.toUInt32.toBitVec >>> (((nI n).toUInt32 &&& Int32.toUInt32 31).toBitVec % 32).toNat).getLsbD i = _
  rw [s_u n hn, BitVec.getLsbD_ushiftRight]
theorem b_sshr (n : Nat) (hn : n < 32) (x : Int32) {i : Nat} (hi : i < 32) : bt (x >>> (nI n &&& 31)) i = if n + i < 32 then bt x (n + i) else bt x 31 := by
  unfold bt
  rw [Int32.toBitVec_shiftRight]
  show (x.toBitVec.sshiftRight ((nI n &&& 31).toBitVec.smod 32).toNat).getLsbD i = _
  rw [s_l n hn, BitVec.getLsbD_sshiftRight, BitVec.msb_eq_getLsbD_last]
  simp [hi]
theorem b_15 (i : Nat) : bt 15 i = decide (i < 4) := by
  rcases Nat.lt_or_ge i 32 with h | h
  · exact (by decide +kernel : ∀ i, i < 32 → bt 15 i = decide (i < 4)) i h
  · rw [b_big h, decide_eq_false (by omega)]
/-- a half byte, as both cut it out -/
def nib (x : Int32) (c : Nat) : Int32 := (((x).toUInt32 >>> ((nI (28 - 4 * c)).toUInt32 &&& Int32.toUInt32 31)).toInt32) &&& 15
theorem nibM (x : Int32) {c : Nat} (hc : c < 8) : (x >>> ((28 - (4 * nI c)) &&& 31)) &&& 15 = nib x c := by
  have e : (28 : Int32) - 4 * nI c = nI (28 - 4 * c) := by rw [show (28 : Int32) = nI 28 from rfl, L4, pk_mul, pk_sub (by omega)]
  rw [e]
  unfold nib
  refine b_ext (fun i hi => ?_)
  rw [b_and, b_and, b_sshr _ (by omega) _ hi, b_ushr _ (by omega), b_15]
  by_cases h4 : i < 4
  · rw [if_pos (by omega)]
  · simp [h4]
theorem nib_in (x : Int32) (c : Nat) : ∃ k, k < 16 ∧ nib x c = nI k := by
  obtain ⟨j, hj, e⟩ := pk_andE (((x).toUInt32 >>> ((nI (28 - 4 * c)).toUInt32 &&& Int32.toUInt32 31)).toInt32) (m := 15) 4 (by decide)
  exact ⟨j, hj, e⟩
theorem s_half {x : Int32} {c : Nat} {post : Int32 → Prop} (hc : c < 8) (h : post (nib x c)) : P_X9_halfByte x (nI c) post := by
  unfold P_X9_halfByte
  have e : (4 : Int32) * (7 - nI c) = nI (28 - 4 * c) := by
    rw [L7, pk_sub (by omega), L4, pk_mul]
    congr 1
    omega
  rw [e]
  exact h
theorem v_fill {n : Nat} {x : Int32} {post : (Nat → Int32) → Prop} (hn : n < 2 ^ 31) (h : ∀ g : Nat → Int32, (∀ k, k < n → g k = x) → post g) : ∀ k j g, n - j < k → j ≤ n → (∀ i, i < j → g i = x) → V_J7_fill_53178_5 n x (nI n) post k (nI j) g := by
  intro k
  induction k with
  | zero => intro j g h; omega
  | succ k ih =>
    intro j g h1 h2 h3
    rw [V_J7_fill_53178_5_s, nI_leI (by omega) (by omega), nI_clamp (by omega)]
    refine ⟨fun q => h g (fun i hi => h3 i (by omega)), fun q => ⟨vin (by omega) |>.mpr (by omega), fun g' e v ev => ?_⟩⟩
    rw [ev, nI_1]
    refine ih (j + 1) g' (by omega) (by omega) (fun i hi => ?_)
    rw [e]
    by_cases hij : i = j
    · rw [hij]; exact upd_eq
    · rw [upd_ne hij]; exact h3 i (by omega)
theorem s_fill {n : Nat} {x : Int32} {f : Nat → Int32} {post : (Nat → Int32) → Prop} (hn : n < 2 ^ 31) (h : ∀ g : Nat → Int32, (∀ k, k < n → g k = x) → post g) : P_J7_fill_53178 n x f post := fun v ev => by
  rw [ev]
  exact ⟨n + 1, v_fill hn h (n + 1) 0 f (by omega) (by omega) (fun i hi => by omega)⟩
theorem s_drop {f9 f10 : Nat → Int32} {post : Int32 → Int32 → Int32 → Int32 → (Nat → Int32) → (Nat → Int32) → Int32 → Prop} (h : ∀ g9 g10 : Nat → Int32, (∀ k, k < 64 → g9 k = -1) → (∀ k, k < 64 → g10 k = -1) → post 0 0 0 0 g9 g10 0) : P_X5_dropPlan f9 f10 post :=
  s_fill (by decide) (fun g9 h9 => s_fill (by decide) (fun g10 h10 => h g9 g10 h9 h10))
theorem s_noPlan {all : Nat → Int32} {post : (Nat → Int32) → Prop} (h : ∀ d : Nat → Int32, (d 5 = 0 ∧ d 6 = 0 ∧ d 7 = 0 ∧ d 8 = 0) → (∀ j, j < 5 ∨ 9 ≤ j → d j = all j) → post d) : P_X10_noPlan all post := by
  refine ⟨vi 5 (by decide), fun d1 e1 => ⟨vi 6 (by decide), fun d2 e2 => ⟨vi 7 (by decide), fun d3 e3 => ⟨vi 8 (by decide), fun d4 e4 => h d4 ⟨?_, ?_, ?_, ?_⟩ (fun j hj => ?_)⟩⟩⟩⟩
  · rw [e4, upd_ne (by decide), e3, upd_ne (by decide), e2, upd_ne (by decide), e1]; exact upd_eq
  · rw [e4, upd_ne (by decide), e3, upd_ne (by decide), e2]; exact upd_eq
  · rw [e4, upd_ne (by decide), e3]; exact upd_eq
  · rw [e4]; exact upd_eq
  · have a5 : (5 : Int32).toNatClampNeg = 5 := by decide
    have a6 : (6 : Int32).toNatClampNeg = 6 := by decide
    have a7 : (7 : Int32).toNatClampNeg = 7 := by decide
    have a8 : (8 : Int32).toNatClampNeg = 8 := by decide
    rw [e4, upd_ne (by omega), e3, upd_ne (by omega), e2, upd_ne (by omega), e1, upd_ne (by omega)]
theorem v_begins {post : (Nat → Int32) → Prop} {all : Nat → Int32} (h : ∀ d : Nat → Int32, (d 5 = 0 ∧ d 6 = 0 ∧ d 7 = 0 ∧ d 8 = 0) → (∀ k, k < 64 → d (30 + k) = nI 10 ∧ d (100 + k) = nI 0) → (∀ j, j < 5 ∨ (9 ≤ j ∧ j < 30) ∨ 164 ≤ j → d j = all j) → post d) : ∀ k j d, 64 - j < k → j ≤ 64 → (∀ i, i < j → d (30 + i) = nI 10 ∧ d (100 + i) = nI 0) → (∀ j, j < 30 ∨ 164 ≤ j → d j = all j) → V_X10_begins_16 post k (nI j) d := by
  intro k
  induction k with
  | zero => intro j d h; omega
  | succ k ih =>
    intro j d h1 h2 h3 h4
    rw [V_X10_begins_16_s, L64, nI_leI (by decide) (by omega), L30, L100, nI_add, nI_add, nI_clamp (by omega), nI_clamp (by omega)]
    refine ⟨fun q => s_noPlan (fun d' z o => h d' z (fun k hk => ?_) (fun i hi => ?_)), fun q => ⟨vi _ (by omega), fun d1 e1 => ⟨vi _ (by omega), fun d2 e2 v ev => ?_⟩⟩⟩
    · rw [o _ (by omega), o _ (by omega)]; exact h3 k (by omega)
    · rw [o _ (by omega)]; exact h4 i (by omega)
    · rw [ev, nI_1]
      refine ih (j + 1) d2 (by omega) (by omega) (fun i hi => ?_) (fun i hi => ?_)
      · by_cases hij : i = j
        · rw [hij, e2, upd_ne (by omega), e1, upd_eq, upd_eq]; exact ⟨rfl, rfl⟩
        · rw [e2, upd_ne (by omega), upd_ne (by omega), e1, upd_ne (by omega), upd_ne (by omega)]; exact h3 i (by omega)
      · rw [e2, upd_ne (by omega), e1, upd_ne (by omega)]; exact h4 i hi
theorem s_begins {x1 x2 : Int32} {all : Nat → Int32} {post : (Nat → Int32) → Prop} (h : ∀ d : Nat → Int32, d 0 = x1 → d 1 = x2 → (d 5 = 0 ∧ d 6 = 0 ∧ d 7 = 0 ∧ d 8 = 0) → (∀ k, k < 64 → d (30 + k) = nI 10 ∧ d (100 + k) = nI 0) → (∀ j, (2 ≤ j ∧ j < 5) ∨ (9 ≤ j ∧ j < 30) ∨ 164 ≤ j → d j = all j) → post d) : P_X10_begins x1 x2 all post := by
  refine ⟨vi 0 (by decide), fun d1 e1 => ⟨vi 1 (by decide), fun d2 e2 => ⟨65, ?_⟩⟩⟩
  have a0 : (0 : Int32).toNatClampNeg = 0 := by decide
  have a1 : (1 : Int32).toNatClampNeg = 1 := by decide
  refine v_begins (all := d2) (fun d z c o => h d ?_ ?_ z c (fun j hj => ?_)) 65 0 d2 (by omega) (by omega) (fun i hi => by omega) (fun j _ => rfl)
  · rw [o 0 (by omega), e2, a1, upd_ne (by omega), e1, a0, upd_eq]
  · rw [o 1 (by omega), e2, a1, upd_eq]
  · rw [o j (by omega), e2, upd_ne (by omega), e1, upd_ne (by omega)]
/-- a site without a plan -/
theorem Rel_none {i : Nat → Int32} {f : Nat → Nat → Int32} {A : Nat → Int32} {lim sw dy w h : Nat} {wt mo hh : Nat → Nat} (h1 : RSc i A lim sw dy w h) (h2 : RWl f A wt mo) (h3 : RRv f A hh) (hi : i 5 = 0 ∧ i 6 = 0 ∧ i 7 = 0 ∧ i 8 = 0 ∧ i 9 = 0) (hA : A 5 = 0 ∧ A 6 = 0 ∧ A 7 = 0 ∧ A 8 = 0) : Rel i f A := by
  obtain ⟨i5, i6, i7, i8, i9⟩ := hi
  obtain ⟨a5, a6, a7, a8⟩ := hA
  refine ⟨lim, sw, dy, w, h, 0, 0, 0, 0, wt, mo, hh, hh, hh, hh, hh, hh, hh, hh, h1, h2, h3, ?_, ?_, ?_⟩
  · exact ⟨⟨i5, a5, by omega, by rw [a6, i6]⟩, fun b hb => by omega, fun q => by omega, fun b hb => by omega, fun q => by omega, fun b x y hb => by omega⟩
  · exact ⟨⟨i7, i8, a7, by omega, by omega, rfl⟩, fun b hb => by omega, fun b hb => by omega, fun k j hk => by omega, fun b hb => by omega, fun b hb => by omega, fun a b hb => by omega⟩
  · exact ⟨i9, a8, by omega, fun k hk => by omega⟩
theorem core_0 (i : Nat → Int32) (f : Nat → Nat → Int32) (sl : Int32) (cost wtt ubr lbr prs : Nat → Int32) (g : Nat → Option Nat) (all has mfew msawn mcut mtodo mpress mgone : Nat → Int32) (y1 : Int32) (y2 : Int32) (NX : Int32 → Int32 → (Nat → Int32) → (Nat → Int32) → Int32 → Int32 → Int32 → Int32 → (Nat → Int32) → (Nat → Int32) → Int32 → (Nat → Int32) → Prop) (h : Rel i f all) (hN : ∀ (c0 : Int32) (c1 : Int32) (c2 : Nat → Int32) (c3 : Nat → Int32) (c4 : Int32) (c5 : Int32) (c6 : Int32) (c7 : Int32) (c8 : Nat → Int32) (c9 : Nat → Int32) (c10 : Int32) (d0 : Nat → Int32), Rel (mkI (i 0) (i 1) (i 2) c0 c1 c4 c5 c6 c7 c10) (mkF c2 c3 (f 2) (f 3) (f 4) (f 5) (f 6) (f 7) (f 8) c8 c9 (f 11) (f 12) (f 13)) d0 → (∀ j, 830 ≤ j → d0 j = all j) → NX c0 c1 c2 c3 c4 c5 c6 c7 c8 c9 c10 d0) : P_X9_wall y1 y2 (i 3) (i 4) (f 0) (f 1) (i 5) (i 6) (i 7) (i 8) (f 9) (f 10) (i 9) (fun r c0 c1 c2 c3 c4 c5 c6 c7 c8 c9 c10 => P_X10_wall y1 y2 all (fun r' d0 => r = r' ∧ NX c0 c1 c2 c3 c4 c5 c6 c7 c8 c9 c10 d0)) := by
  have same := hN _ _ _ _ _ _ _ _ _ _ _ _ h.same (fun _ _ => rfl)
  unfold P_X9_wall P_X10_wall
  refine s_within (bsp (fun hc => s_isIn (bsp (fun _ => ⟨rfl, same⟩) (fun q => absurd q hc))) (fun hc => ?_))
  refine s_within (bsp (fun hd => s_isIn (bsp (fun q => absurd hc q) (fun _ => s_isIn (bsp (fun _ => ⟨rfl, same⟩) (fun q => absurd q hd))))) (fun hd => ?_))
  obtain ⟨x, x1, x2, rfl⟩ := rng (a := 1) (b := 8) (by decide) (by decide) hc
  obtain ⟨y, y1, y2, rfl⟩ := rng (a := 1) (b := 8) (by decide) (by decide) hd
  refine s_fill (by decide) (fun g0 e0 => s_fill (by decide) (fun g1 e1 => s_drop (fun g9 g10 e9 e10 => ?_)))
  refine s_isIn (bsp (fun q => absurd hc q) (fun _ => s_isIn (bsp (fun q => absurd hd q) (fun _ => s_begins (fun d d0 d1 dz dc dd => ⟨rfl, ?_⟩)))))
  obtain ⟨lim, sw, dy, w, h', B, T, pn, O, wt, mo, hh, l, lo, c, r, tn, bA, q, h1, h2, h3, h4, h5, h6⟩ := h
  refine hN _ _ _ _ _ _ _ _ _ _ _ _ (Rel_none (lim := lim) (sw := sw) (dy := dy) (w := x) (h := y) (wt := fun _ => 10) (mo := fun _ => 0) (hh := hh) ?_ ?_ ?_ ⟨rfl, rfl, rfl, rfl, rfl⟩ dz) (fun j hj => dd j (by omega))
  · unfold RSc at *
    rw [dd 2 (by omega), dd 3 (by omega), dd 4 (by omega)]
    exact ⟨h1.1, h1.2.1, h1.2.2.1, ⟨rfl, d0, x1, x2⟩, ⟨rfl, d1, y1, y2⟩⟩
  · intro k hk
    exact ⟨⟨e0 k hk, (dc k hk).1, Nat.le_of_ble_eq_true rfl, Nat.le_of_ble_eq_true rfl⟩, e1 k hk, (dc k hk).2, Nat.le_of_ble_eq_true rfl⟩
  · exact h3.view (fun j _ _ => dd j (by omega))
theorem s_isCell {x y : Int32} {w h : Nat} {all : Nat → Int32} {post : Int32 → Prop} (e0 : all 0 = nI w) (e1 : all 1 = nI h) (H : post (bI ((0 ≤ x ∧ x ≤ nI w - 1) ∧ (0 ≤ y ∧ y ≤ nI h - 1)))) : P_X10_isCell x y all post := by
  have e0' : all (0 : Int32).toNatClampNeg = nI w := e0
  have e1' : all (1 : Int32).toNatClampNeg = nI h := e1
  unfold P_X10_isCell
  rw [e0', e1']
  refine ⟨vi 0 (by decide), s_isIn (bsp (fun q => ?_) (fun q => ⟨vi 1 (by decide), s_isIn (bsp (fun q2 => ?_) (fun q2 => ?_))⟩))⟩
  · rwa [bI_f (fun z => q z.1)] at H
  · rwa [bI_f (fun z => q2 z.2)] at H
  · rwa [bI_t ⟨q, q2⟩] at H
theorem core_1 (i : Nat → Int32) (f : Nat → Nat → Int32) (sl : Int32) (cost wtt ubr lbr prs : Nat → Int32) (g : Nat → Option Nat) (all has mfew msawn mcut mtodo mpress mgone : Nat → Int32) (y1 : Int32) (y2 : Int32) (y3 : Int32) (y4 : Int32) (NX : (Nat → Int32) → (Nat → Int32) → Int32 → Int32 → Int32 → Int32 → (Nat → Int32) → (Nat → Int32) → Int32 → (Nat → Int32) → Prop) (h : Rel i f all) (hN : ∀ (c0 : Nat → Int32) (c1 : Nat → Int32) (c2 : Int32) (c3 : Int32) (c4 : Int32) (c5 : Int32) (c6 : Nat → Int32) (c7 : Nat → Int32) (c8 : Int32) (d0 : Nat → Int32), Rel (mkI (i 0) (i 1) (i 2) (i 3) (i 4) c2 c3 c4 c5 c8) (mkF c0 c1 (f 2) (f 3) (f 4) (f 5) (f 6) (f 7) (f 8) c6 c7 (f 11) (f 12) (f 13)) d0 → (∀ j, 830 ≤ j → d0 j = all j) → NX c0 c1 c2 c3 c4 c5 c6 c7 c8 d0) : P_X9_cell y1 y2 y3 y4 (i 3) (i 4) (f 0) (f 1) (i 5) (i 6) (i 7) (i 8) (f 9) (f 10) (i 9) (fun r c0 c1 c2 c3 c4 c5 c6 c7 c8 => P_X10_cell y1 y2 y3 y4 all (fun r' d0 => r = r' ∧ NX c0 c1 c2 c3 c4 c5 c6 c7 c8 d0)) := by
  have same := hN _ _ _ _ _ _ _ _ _ _ h.same (fun _ _ => rfl)
  obtain ⟨lim, sw, dy, w, h', B, T, pn, O, wt, mo, hh, l, lo, c, r, tn, bA, q, h1, h2, h3, h4, h5, h6⟩ := h
  obtain ⟨-, -, -, ⟨w1, w2, w3, w4⟩, ⟨v1, v2, v3, v4⟩⟩ := id h1
  unfold P_X9_cell P_X10_cell
  rw [w1, v1]
  refine s_hasW (bsp (fun ha => s_isCell w2 v2 (bsp (fun _ => ⟨rfl, same⟩) (fun q => absurd q ha))) (fun ha => ?_))
  refine s_within (bsp (fun hc => s_isCell w2 v2 (bsp (fun q => absurd ha q) (fun _ => s_isIn (bsp (fun _ => ⟨rfl, same⟩) (fun q => absurd q hc))))) (fun hc => ?_))
  refine s_within (bsp (fun hd => s_isCell w2 v2 (bsp (fun q => absurd ha q) (fun _ => s_isIn (bsp (fun q => absurd hc q) (fun _ => s_isIn (bsp (fun _ => ⟨rfl, same⟩) (fun q => absurd q hd))))))) (fun hd => ?_))
  obtain ⟨x, hx, rfl⟩ := idx (by omega) ha.1
  obtain ⟨y, hy, rfl⟩ := idx (by omega) ha.2
  obtain ⟨g, g1, g2, rfl⟩ := rng (a := 1) (b := 50) (by decide) (by decide) hc
  obtain ⟨u, u1, u2, rfl⟩ := rng (a := 0) (b := 9) (by decide) (by decide) hd
  have e1 : nI y * 8 + nI x = nI (8 * y + x) := by rw [L8, pk_mul, nI_add, Nat.mul_comm]
  have e2 : (30 + (8 * nI y)) + nI x = nI (30 + (8 * y + x)) := by rw [L30, L8, pk_mul, nI_add, nI_add, Nat.add_assoc]
  have e3 : (100 + (8 * nI y)) + nI x = nI (100 + (8 * y + x)) := by rw [L100, L8, pk_mul, nI_add, nI_add, Nat.add_assoc]
  rw [e2, e3, nI_clamp (n := 30 + (8 * y + x)) (by omega), nI_clamp (n := 100 + (8 * y + x)) (by omega)]
  refine s_place ?_
  rw [e1, nI_clamp (by omega)]
  refine ⟨vi _ (by omega), fun c0 k0 => s_place ?_⟩
  rw [e1, nI_clamp (by omega)]
  refine ⟨vi _ (by omega), fun c1 k1 => s_drop (fun g9 g10 e9 e10 => ?_)⟩
  refine s_isCell w2 v2 (bsp (fun q => absurd ha q) (fun _ => s_isIn (bsp (fun q => absurd hc q) (fun _ => s_isIn (bsp (fun q => absurd hd q) (fun _ => ⟨vi _ (by omega), fun d1 z1 => ⟨vi _ (by omega), fun d2 z2 => s_noPlan (fun d dz dd => ⟨rfl, ?_⟩)⟩⟩))))))
  have all' : ∀ j, (j < 5 ∨ 9 ≤ j) → j ≠ 30 + (8 * y + x) → j ≠ 100 + (8 * y + x) → d j = all j := fun j q1 q2 q3 => by rw [dd j q1, z2, upd_ne q3, z1, upd_ne q2]
  refine hN _ _ _ _ _ _ _ _ _ _ (Rel_none (lim := lim) (sw := sw) (dy := dy) (w := w) (h := h') (wt := va_up wt (8 * y + x) g) (mo := va_up mo (8 * y + x) u) (hh := hh) (h1.view (fun j hj => all' j (by omega) (by omega) (by omega))) ?_ (h3.view (fun j _ _ => all' j (by omega) (by omega) (by omega))) ⟨rfl, rfl, rfl, rfl, rfl⟩ dz) (fun j hj => all' j (by omega) (by omega) (by omega))
  intro k hk
  show (c0 k = _ ∧ _) ∧ (c1 k = _ ∧ _)
  by_cases hkk : k = 8 * y + x
  · rw [hkk, vaup_eq, vaup_eq, k0, k1, upd_eq, upd_eq, dd _ (by omega), dd _ (by omega), z2, upd_eq, upd_ne (by omega), z1, upd_eq]
    exact ⟨⟨rfl, rfl, g1, g2⟩, rfl, rfl, u2⟩
  · rw [vaup_ne hkk, vaup_ne hkk, k0, k1, upd_ne hkk, upd_ne hkk, all' (30 + k) (by omega) (by omega) (by omega), all' (100 + k) (by omega) (by omega) (by omega)]
    exact h2 k hk
theorem v_are {x : Int32} {post : Int32 → Prop} (h : post (bI (∀ c, c < 8 → nib x c ≤ 9))) : ∀ k j, 8 - j < k → j ≤ 8 → (∀ c, c < j → nib x c ≤ 9) → V_X9_areMotifs_2 x post k (nI j) := by
  intro k
  induction k with
  | zero => intro j h; omega
  | succ k ih =>
    intro j h1 h2 h3
    rw [V_X9_areMotifs_2_s, L8, nI_leI (by decide) (by omega)]
    refine ⟨fun q => ?_, fun q => s_half (by omega) ⟨fun z v ev => ?_, fun z => ?_⟩⟩
    · rwa [bI_t (fun c hc => h3 c (by omega))] at h
    · rw [ev, nI_1]
      refine ih (j + 1) (by omega) (by omega) (fun c hc => ?_)
      rcases Nat.lt_or_ge c j with g | g
      · exact h3 c g
      · rw [show c = j by omega]; exact z
    · rwa [bI_f (fun g => z (g j (by omega)))] at h
theorem v_mot20 {x y : Int32} {all : Nat → Int32} {post : Int32 → (Nat → Int32) → Prop} (ht : (∀ c, c < 8 → nib y c ≤ 9) → ∃ k, V_X10_motifs_52 x y post k 0 all) (hf : ¬ (∀ c, c < 8 → nib y c ≤ 9) → post 0 all) : ∀ k j, 8 - j < k → j ≤ 8 → (∀ c, c < j → nib y c ≤ 9) → V_X10_motifs_20 x y all post k (nI j) := by
  intro k
  induction k with
  | zero => intro j h; omega
  | succ k ih =>
    intro j h1 h2 h3
    rw [V_X10_motifs_20_s]
    refine ⟨fun q => ?_, fun q => ?_⟩
    · rw [L8, nI_leI (by decide) (by omega)] at q
      exact ht (fun c hc => h3 c (by omega))
    · rw [L8, nI_leI (by decide) (by omega)] at q
      rw [nibM y (by omega)]
      refine ⟨fun z v ev => ?_, fun z => hf (fun g => z (g j (by omega)))⟩
      rw [ev, nI_1]
      refine ih (j + 1) (by omega) (by omega) (fun c hc => ?_)
      rcases Nat.lt_or_ge c j with g | g
      · exact h3 c g
      · rw [show c = j by omega]; exact z
theorem v_mot26 {y w : Nat} {x : Int32} {F f9 f10 : Nat → Int32} {post : Int32 → (Nat → Int32) → Int32 → Int32 → Int32 → Int32 → (Nat → Int32) → (Nat → Int32) → Int32 → Prop} (hy : y < 8) (hw : w ≤ 8) (h : ∀ g g9 g10 : Nat → Int32, (∀ c, c < w → g (8 * y + c) = nib x c) → (∀ k, k < 8 * y ∨ 8 * y + w ≤ k → g k = F k) → (∀ k, k < 64 → g9 k = -1) → (∀ k, k < 64 → g10 k = -1) → post 1 g 0 0 0 0 g9 g10 0) : ∀ k j g, w - j < k → j ≤ w → (∀ c, c < j → g (8 * y + c) = nib x c) → (∀ k, k < 8 * y ∨ 8 * y + j ≤ k → g k = F k) → V_X9_motifs_26 (nI y) x (nI w) f9 f10 post k (nI j) g := by
  intro k
  induction k with
  | zero => intro j g h; omega
  | succ k ih =>
    intro j g h1 h2 h3 h4
    rw [V_X9_motifs_26_s, nI_leI (by omega) (by omega)]
    refine ⟨fun q => s_drop (fun g9 g10 e9 e10 => h g g9 g10 (fun c hc => h3 c (by omega)) (fun k hk => h4 k (by omega)) e9 e10), fun q => s_place (s_half (by omega) ?_)⟩
    have e1 : nI y * 8 + nI j = nI (8 * y + j) := by rw [L8, pk_mul, nI_add, Nat.mul_comm]
    rw [e1, nI_clamp (by omega)]
    refine ⟨vi _ (by omega), fun g' e v ev => ?_⟩
    rw [ev, nI_1]
    refine ih (j + 1) g' (by omega) (by omega) (fun c hc => ?_) (fun k hk => ?_)
    · rw [e]
      by_cases hcj : c = j
      · rw [hcj]; exact upd_eq
      · rw [upd_ne (by omega)]; exact h3 c (by omega)
    · rw [e, upd_ne (by omega)]; exact h4 k (by omega)
theorem v_mot52 {y w : Nat} {x : Int32} {all : Nat → Int32} {post : Int32 → (Nat → Int32) → Prop} (hy : y < 8) (hw : w ≤ 8) (e0 : all 0 = nI w) (h : ∀ d : Nat → Int32, (d 5 = 0 ∧ d 6 = 0 ∧ d 7 = 0 ∧ d 8 = 0) → (∀ c, c < w → d (100 + (8 * y + c)) = nib x c) → (∀ j, j < 5 ∨ (9 ≤ j ∧ j < 100 + 8 * y) ∨ 100 + 8 * y + w ≤ j → d j = all j) → post 1 d) : ∀ k j d, w - j < k → j ≤ w → (∀ c, c < j → d (100 + (8 * y + c)) = nib x c) → (∀ k, k < 100 + 8 * y ∨ 100 + 8 * y + j ≤ k → d k = all k) → V_X10_motifs_52 (nI y) x post k (nI j) d := by
  intro k
  induction k with
  | zero => intro j d h; omega
  | succ k ih =>
    intro j d h1 h2 h3 h4
    have e0' : d (0 : Int32).toNatClampNeg = nI w := (h4 0 (by omega)).trans e0
    rw [V_X10_motifs_52_s, e0', nI_leI (by omega) (by omega)]
    refine ⟨vi 0 (by decide), fun q => s_noPlan (fun d' dz dd => h d' dz (fun c hc => ?_) (fun j hj => ?_)), fun q => ?_⟩
    · rw [dd _ (by omega)]; exact h3 c (by omega)
    · rw [dd _ (by omega)]; exact h4 j (by omega)
    · have e3 : (100 + (8 * nI y)) + nI j = nI (100 + (8 * y + j)) := by rw [L100, L8, pk_mul, nI_add, nI_add, Nat.add_assoc]
      rw [e3, nI_clamp (by omega), nibM x (by omega)]
      refine ⟨vi _ (by omega), fun d' e v ev => ?_⟩
      rw [ev, nI_1]
      refine ih (j + 1) d' (by omega) (by omega) (fun c hc => ?_) (fun k hk => ?_)
      · rw [e]
        by_cases hcj : c = j
        · rw [hcj]; exact upd_eq
        · rw [upd_ne (by omega)]; exact h3 c (by omega)
      · rw [e, upd_ne (by omega)]; exact h4 k (by omega)
theorem core_2 (i : Nat → Int32) (f : Nat → Nat → Int32) (sl : Int32) (cost wtt ubr lbr prs : Nat → Int32) (g : Nat → Option Nat) (all has mfew msawn mcut mtodo mpress mgone : Nat → Int32) (y1 : Int32) (y2 : Int32) (NX : (Nat → Int32) → Int32 → Int32 → Int32 → Int32 → (Nat → Int32) → (Nat → Int32) → Int32 → (Nat → Int32) → Prop) (h : Rel i f all) (hN : ∀ (c0 : Nat → Int32) (c1 : Int32) (c2 : Int32) (c3 : Int32) (c4 : Int32) (c5 : Nat → Int32) (c6 : Nat → Int32) (c7 : Int32) (d0 : Nat → Int32), Rel (mkI (i 0) (i 1) (i 2) (i 3) (i 4) c1 c2 c3 c4 c7) (mkF (f 0) c0 (f 2) (f 3) (f 4) (f 5) (f 6) (f 7) (f 8) c5 c6 (f 11) (f 12) (f 13)) d0 → (∀ j, 830 ≤ j → d0 j = all j) → NX c0 c1 c2 c3 c4 c5 c6 c7 d0) : P_X9_motifs y1 y2 (i 3) (i 4) (f 1) (i 5) (i 6) (i 7) (i 8) (f 9) (f 10) (i 9) (fun r c0 c1 c2 c3 c4 c5 c6 c7 => P_X10_motifs y1 y2 all (fun r' d0 => r = r' ∧ NX c0 c1 c2 c3 c4 c5 c6 c7 d0)) := by
  have same := hN _ _ _ _ _ _ _ _ _ h.same (fun _ _ => rfl)
  obtain ⟨lim, sw, dy, w, h', B, T, pn, O, wt, mo, hh, l, lo, c, r, tn, bA, q, h1, h2, h3, h4, h5, h6⟩ := h
  obtain ⟨-, -, -, ⟨w1, w2, w3, w4⟩, ⟨v1, v2, v3, v4⟩⟩ := id h1
  have a1 : all (1 : Int32).toNatClampNeg = nI h' := v2
  unfold P_X9_motifs P_X10_motifs
  rw [w1, v1, a1]
  have h00 : (0 : Int32) ≤ 0 ∧ 0 ≤ nI w - 1 := idx_in (k := 0) (by omega) (by omega)
  refine s_hasW (bsp (fun ha => ⟨vi 1 (by decide), s_isIn (bsp (fun _ => ⟨rfl, same⟩) (fun q => absurd ⟨h00, q⟩ ha))⟩) (fun ha => ?_))
  refine ⟨9, v_are (bsp (fun hb => ?_) (fun hb => ?_)) 9 0 (by omega) (by omega) (fun c hc => by omega)⟩
  · exact ⟨vi 1 (by decide), s_isIn (bsp (fun q => absurd ha.2 q) (fun _ => ⟨9, v_mot20 (fun g => absurd g hb) (fun _ => ⟨rfl, same⟩) 9 0 (by omega) (by omega) (fun c hc => by omega)⟩))⟩
  · obtain ⟨y, hy, rfl⟩ := idx (by omega) ha.2
    refine ⟨w + 1, v_mot26 (F := f 1) (by omega) w4 (fun g g9 g10 e1 e2 e9 e10 => ?_) (w + 1) 0 _ (by omega) (by omega) (fun c hc => by omega) (fun _ _ => rfl)⟩
    refine ⟨vi 1 (by decide), s_isIn (bsp (fun q => absurd ha.2 q) (fun _ => ⟨9, v_mot20 (fun _ => ?_) (fun g => absurd hb g) 9 0 (by omega) (by omega) (fun c hc => by omega)⟩))⟩
    refine ⟨w + 1, v_mot52 (by omega) w4 w2 (fun d dz dc dd => ⟨rfl, ?_⟩) (w + 1) 0 _ (by omega) (by omega) (fun c hc => by omega) (fun _ _ => rfl)⟩
    refine hN _ _ _ _ _ _ _ _ _ (Rel_none (lim := lim) (sw := sw) (dy := dy) (w := w) (h := h') (wt := wt) (mo := fun k => if 8 * y ≤ k ∧ k < 8 * y + w then (nib y2 (k - 8 * y)).toNatClampNeg else mo k) (hh := hh) (h1.view (fun j hj => dd j (by omega))) ?_ (h3.view (fun j _ _ => dd j (by omega))) ⟨rfl, rfl, rfl, rfl, rfl⟩ dz) (fun j hj => dd j (by omega))
    intro k hk
    show (f 0 k = _ ∧ _) ∧ (g k = _ ∧ _)
    refine ⟨by rw [dd (30 + k) (by omega)]; exact (h2 k hk).1, ?_⟩
    by_cases hkk : 8 * y ≤ k ∧ k < 8 * y + w
    · simp only [if_pos hkk]
      obtain ⟨j, hj, ej⟩ := nib_in y2 (k - 8 * y)
      have hle := hb (k - 8 * y) (by omega)
      have e3 := e1 (k - 8 * y) (by omega)
      have e4 := dc (k - 8 * y) (by omega)
      rw [show 8 * y + (k - 8 * y) = k by omega] at e3 e4
      rw [ej] at hle e3 e4 ⊢
      rw [L9, nI_leI (by omega) (by decide)] at hle
      rw [nI_clamp (by omega), e3, e4]
      exact ⟨rfl, rfl, hle⟩
    · simp only [if_neg hkk]
      rw [e2 k (by omega), dd (100 + k) (by omega)]
      exact (h2 k hk).2
theorem core_init : (∀ q0 : Nat, P_X9_init (fun q_1 q_2 q_3 q_4 q_5 q_6 q_7 q_8 q_9 q_10 q_11 q_12 q_13 q_14 q_15 q_16 q_17 q_18 q_19 q_20 q_21 q_22 q_23 q_24 q_25 q_26 q_27 q_28 i_29 i_30 i_31 i_32 i_33 f_34 f_35 i_36 i_37 f_38 f_39 f_40 f_41 f_42 f_43 f_44 i_45 i_46 f_47 f_48 f_49 f_50 i_51 f_52 i_53 f_54 f_55 f_56 f_57 f_58 f_59 => (∀ q8 : Nat, P_X10_init (fun q_60 q_61 q_62 q_63 q_64 q_65 q_66 q_67 f_68 f_69 f_70 f_71 f_72 f_73 f_74 f_75 => Rel (mkI i_29 i_30 i_31 i_32 i_33 i_36 i_37 i_45 i_46 i_51) (mkF f_34 f_35 f_38 f_39 f_40 f_41 f_42 f_43 f_44 f_49 f_50 f_47 f_48 f_52) f_75 ∧ (∀ k, f_59 k = none) ∧ (∀ k, f_68 k = 0) ∧ SW f_55)))) := by
  intro q0
  intro q5 q21 q7 q15
  refine s_fill (by decide) (fun g0 e0 => s_fill (by decide) (fun g1 e1 => ?_))
  intro q32 q_1 q_2 q_3 q_4 q_5 q_6 q43 q_7 q54 q_8 q_9 q_10 q_11
  refine s_fill (by decide) (fun g9 e9 => s_fill (by decide) (fun g10 e10 => ?_))
  intro q65 q_12 q16 q_13 q_14 q_15 q_16 q27 q_17 q39 q8
  intro p8 p15 p24 p33 p42 p51 p59 p67
  refine ⟨vi 2 (by decide), fun d1 z1 => ⟨vi 3 (by decide), fun d2 z2 => s_begins (fun d d0 d1' dz dc dd => ⟨?_, fun _ => rfl, fun _ => rfl, fun _ _ _ _ _ => rfl⟩)⟩⟩
  have a2 : (2 : Int32).toNatClampNeg = 2 := by decide
  have a3 : (3 : Int32).toNatClampNeg = 3 := by decide
  refine Rel_none (lim := 40) (sw := 1) (dy := 0) (w := 4) (h := 4) (wt := fun _ => 10) (mo := fun _ => 0) (hh := fun _ => 0) ?_ ?_ ?_ ⟨rfl, rfl, rfl, rfl, rfl⟩ dz
  · refine ⟨⟨rfl, ?_, by omega, by omega⟩, ⟨rfl, ?_, by omega, by omega⟩, ⟨rfl, ?_, by omega⟩, ⟨rfl, d0, by omega, by omega⟩, ⟨rfl, d1', by omega, by omega⟩⟩
    · rw [dd 2 (by omega), z2, upd_ne (by omega), z1, a2, upd_eq]; rfl
    · rw [dd 3 (by omega), z2, a3, upd_eq]; rfl
    · rw [dd 4 (by omega), z2, upd_ne (by omega), z1, upd_ne (by omega)]; rfl
  · intro k hk
    exact ⟨⟨e0 k hk, (dc k hk).1, Nat.le_of_ble_eq_true rfl, Nat.le_of_ble_eq_true rfl⟩, e1 k hk, (dc k hk).2, Nat.le_of_ble_eq_true rfl⟩
  · intro k hk
    refine ⟨rfl, ?_, Nat.le_of_ble_eq_true rfl⟩
    rw [dd _ (by omega), z2, upd_ne (by omega), z1, upd_ne (by omega)]; rfl
