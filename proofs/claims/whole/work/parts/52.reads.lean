theorem core_8 (i : Nat → Int32) (f : Nat → Nat → Int32) (sl : Int32) (cost wtt ubr lbr prs : Nat → Int32) (g : Nat → Option Nat) (all has mfew msawn mcut mtodo mpress mgone : Nat → Int32) (y1 : Int32) (y2 : Int32) (NX : Prop) (h : Rel i f all) (hN : NX) : P_X9_above y1 y2 (i 5) (f 2) (f 3) (f 4) (f 5) (fun r => P_X10_above y1 y2 all (fun r' => r = r' ∧ NX)) := by
  obtain ⟨lim, sw, dy, w, h', B, T, pn, O, wt, mo, hh, l, lo, c, r, tn, bA, q, h1, h2, h3, h4, h5, h6⟩ := h
  obtain ⟨-, -, -, ⟨w1, w2, w3, w4⟩, ⟨v1, v2, v3, v4⟩⟩ := h1
  obtain ⟨b1, b2, b3, b4⟩ := id h4.1
  unfold P_X9_above P_X10_above
  rw [b1]
  refine s_hasP (bsp (fun hc => s_isThere b2 (bsp (fun _ => ⟨rfl, hN⟩) (fun q => absurd q hc))) (fun hc => ?_))
  refine s_hasP (bsp (fun hd => s_isThere b2 (bsp (fun q => absurd hc q) (fun _ => s_isThere b2 (bsp (fun _ => ⟨rfl, hN⟩) (fun q => absurd q hd))))) (fun hd => ?_))
  obtain ⟨x, hx, rfl⟩ := idx (by omega) hc
  obtain ⟨y, hy, rfl⟩ := idx (by omega) hd
  refine s_abvC (by omega) (by omega) (h4.blC (by omega) (by omega) hx) (h4.blC (by omega) (by omega) hy) ?_
  refine bsp (fun q => ?_) (fun q => ?_) <;> refine s_isThere b2 (bsp (fun q => absurd hc q) (fun _ => s_isThere b2 (bsp (fun q => absurd hd q) (fun _ => s_abvM (by omega) (by omega) (h4.blM (by omega) (by omega) hx) (h4.blM (by omega) (by omega) hy) ?_))))
  · exact bsp (fun _ => ⟨rfl, hN⟩) (fun z => absurd z q)
  · exact bsp (fun z => absurd q z) (fun _ => ⟨rfl, hN⟩)
theorem v_at {all : Nat → Int32} {B : Nat} {l lo c r : Nat → Nat} {x y : Int32} {post : Int32 → Prop} {v : Int32} (hB : B ≤ 64) (e : all 5 = nI B) (hM : ∀ b, b < B → BlM all l lo c r b)
    (hf : ∀ b, b < B → (nI (l b) ≤ x ∧ x ≤ nI (l b) + nI (c b) - 1) ∧ (nI (lo b) ≤ y ∧ y ≤ nI (lo b) + nI (r b) - 1) → (∀ b', b' < b → ¬ ((nI (l b') ≤ x ∧ x ≤ nI (l b') + nI (c b') - 1) ∧ (nI (lo b') ≤ y ∧ y ≤ nI (lo b') + nI (r b') - 1))) → post (nI b))
    (hn : (∀ b', b' < B → ¬ ((nI (l b') ≤ x ∧ x ≤ nI (l b') + nI (c b') - 1) ∧ (nI (lo b') ≤ y ∧ y ≤ nI (lo b') + nI (r b') - 1))) → post (-1)) : ∀ n b, B - b < n → b ≤ B → (∀ b', b' < b → ¬ ((nI (l b') ≤ x ∧ x ≤ nI (l b') + nI (c b') - 1) ∧ (nI (lo b') ≤ y ∧ y ≤ nI (lo b') + nI (r b') - 1))) → V_X10_at_2 x y all post n (nI b) := by
  intro n
  induction n with
  | zero => intro b hb; omega
  | succ n ih =>
    intro b hb hbB hp
    have e' : all (5 : Int32).toNatClampNeg = nI B := e
    rw [V_X10_at_2_s, e', nI_leI (by omega) (by omega)]
    refine ⟨vi 5 (by decide), fun q => hn (fun b' hb' => hp b' (by omega)), fun q => ?_⟩
    obtain ⟨m1, m2, m3, m4, m5, m6⟩ := hM b (by omega)
    have nx : ¬ ((nI (l b) ≤ x ∧ x ≤ nI (l b) + nI (c b) - 1) ∧ (nI (lo b) ≤ y ∧ y ≤ nI (lo b) + nI (r b) - 1)) → ∀ v : Int32, v = nI b + 1 → V_X10_at_2 x y all post n v := fun z v ev => by
      rw [ev, nI_1]
      refine ih (b + 1) (by omega) (by omega) (fun b' hb' => ?_)
      rcases Nat.lt_or_ge b' b with g | g
      · exact hp b' g
      · rw [show b' = b by omega]; exact z
    refine s_of (j := 0) (by omega) (by decide) (s_of (j := 0) (by omega) (by decide) (s_of (j := 2) (by omega) (by decide) ?_))
    rw [m1, m3]
    refine s_isIn (bsp (fun z => nx (fun g => z g.1)) (fun z => ?_))
    refine s_of (j := 1) (by omega) (by decide) (s_of (j := 1) (by omega) (by decide) (s_of (j := 3) (by omega) (by decide) ?_))
    rw [m2, m4]
    exact s_isIn (bsp (fun z2 => nx (fun g => z2 g.2)) (fun z2 => hf b (by omega) ⟨z, z2⟩ hp))
theorem inR {a n k : Nat} (ha : a + n ≤ 8) (hn : 1 ≤ n) (hk : k < 2 ^ 30) : (nI a ≤ nI k ∧ nI k ≤ nI a + nI n - 1) ↔ a ≤ k ∧ k < a + n := by
  rw [nI_add, L1, pk_sub (by omega), nI_leI (by omega) (by omega), nI_leI (by omega) (by omega)]
  omega
theorem inR_out {a n w : Nat} {x : Int32} (ha : a + n ≤ w) (hw : w ≤ 8) (hn : 1 ≤ n) (h : nI a ≤ x ∧ x ≤ nI a + nI n - 1) : 0 ≤ x ∧ x ≤ nI w - 1 := by
  rw [nI_add, L1, pk_sub (by omega)] at h
  obtain ⟨k, k1, k2, rfl⟩ := rng (by omega) (by omega) h
  exact idx_in (by omega) (by omega)
theorem core_7 (i : Nat → Int32) (f : Nat → Nat → Int32) (sl : Int32) (cost wtt ubr lbr prs : Nat → Int32) (g : Nat → Option Nat) (all has mfew msawn mcut mtodo mpress mgone : Nat → Int32) (y1 : Int32) (y2 : Int32) (NX : Prop) (h : Rel i f all) (hN : NX) : P_X9_at y1 y2 (i 3) (i 4) (i 5) (f 7) (fun r => P_X10_at y1 y2 all (fun r' => r = r' ∧ NX)) := by
  obtain ⟨lim, sw, dy, w, h', B, T, pn, O, wt, mo, hh, l, lo, c, r, tn, bA, q, h1, h2, h3, h4, h5, h6⟩ := h
  obtain ⟨-, -, -, ⟨w1, w2, w3, w4⟩, ⟨v1, v2, v3, v4⟩⟩ := h1
  obtain ⟨b1, b2, b3, b4⟩ := id h4.1
  obtain ⟨g1, g2, g3⟩ := h4.2.2.2
  have hM : ∀ b, b < B → BlM all l lo c r b := fun b hb => h4.blM (by omega) (by omega) hb
  unfold P_X9_at P_X10_at
  rw [b1, w1, v1]
  have start : ∀ post : Int32 → Prop, _ → _ → ∃ k, V_X10_at_2 y1 y2 all post k 0 := fun post hf hn => ⟨B + 1, v_at (post := post) (v := 0) b3 b2 hM hf hn (B + 1) 0 (by omega) (by omega) (fun b' hb' => by omega)⟩
  refine ⟨fun q0 => ?_, fun q0 => s_hasW (bsp (fun hc => ?_) (fun hc => ?_))⟩
  · have hB0 : B = 0 := (nI_eq (by omega) (by decide)).mp q0
    refine start _ (fun b hb => by omega) (fun _ => ⟨rfl, hN⟩)
  · refine start _ (fun b hb hin _ => ?_) (fun _ => ⟨rfl, hN⟩)
    have gb := g1 b hb
    exact absurd ⟨inR_out gb.2.2.1 w4 gb.1 hin.1, inR_out gb.2.2.2 v4 gb.2.1 hin.2⟩ hc
  · obtain ⟨x, hx, rfl⟩ := idx (by omega) hc.1
    obtain ⟨y, hy, rfl⟩ := idx (by omega) hc.2
    have hB : 0 < B := by
      rcases Nat.eq_zero_or_pos B with z | z
      · exact absurd (by rw [z]; rfl) q0
      · exact z
    have e1 : nI y * 8 + nI x = nI (8 * y + x) := by rw [L8, pk_mul, nI_add, Nat.mul_comm]
    obtain ⟨g4, g5⟩ := g2 hB x y hx hy
    refine s_place ?_
    rw [e1, nI_clamp (by omega), h4.2.2.1 hB x y hx hy]
    refine ⟨vi _ (by omega), start _ (fun b hb hin _ => ?_) (fun hno => ?_)⟩
    · have gb := g1 b hb
      rw [inR (by omega) gb.1 (by omega), inR (by omega) gb.2.1 (by omega)] at hin
      exact ⟨by rw [g3 b x y hb ⟨hin.1.1, hin.1.2, hin.2.1, hin.2.2⟩], hN⟩
    · have gb := g1 _ g4
      refine absurd ?_ (hno _ g4)
      rw [inR (by omega) gb.1 (by omega), inR (by omega) gb.2.1 (by omega)]
      exact ⟨⟨g5.1, g5.2.1⟩, g5.2.2.1, g5.2.2.2⟩
