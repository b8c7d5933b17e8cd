/-- free, with some gone -/
def frT (B : Nat) (l lo c r : Nat → Nat) (gn : Nat → Bool) (b : Nat) : Prop := gn b = false ∧ ∀ a, a < B → abv l lo c r a b → gn a = true
theorem v_frT {A Fg : Nat → Int32} {B b : Nat} {l lo c r : Nat → Nat} {gn : Nat → Bool} {post : Int32 → Prop} (hB : B ≤ 64) (hb : b < B) (e5 : A 5 = nI B) (hM : ∀ a, a < B → BlM A l lo c r a) (hg : ∀ a, a < B → (Fg a = 0 ↔ gn a = false)) (hp : post (bI (frT B l lo c r gn b))) : ∀ k a v, B - a < k → a ≤ B → v = bI (gn b = false ∧ ∀ a', a' < a → abv l lo c r a' b → gn a' = true) → V_X10_isFreeThen_17 (nI b) A Fg post k v (nI a) := by
  intro k
  induction k with
  | zero => intro a v h; omega
  | succ k ih =>
    intro a v h1 h2 hv
    have e5' : A (5 : Int32).toNatClampNeg = nI B := e5
    rw [V_X10_isFreeThen_17_s, e5', nI_leI (by omega) (by omega)]
    refine ⟨vi 5 (by decide), fun q => ?_, fun q => ?_⟩
    · rw [show a = B by omega] at hv
      rw [hv]
      exact ⟨bI_01 _, hp⟩
    · rw [hv]
      refine bsp (fun z v3 e3 => ?_) (fun z => s_abvM (by omega) (by omega) (hM a (by omega)) (hM b hb) (bsp (fun z2 v3 e3 => ?_) (fun z2 => ?_)))
      · rw [e3, nI_1]
        refine ih (a + 1) _ (by omega) (by omega) ?_
        rw [bI_f]
        exact fun g => z ⟨g.1, fun a' ha' => g.2 a' (by omega)⟩
      · rw [e3, nI_1]
        refine ih (a + 1) _ (by omega) (by omega) ?_
        rw [bI_t]
        refine ⟨z.1, fun a' ha' hab => ?_⟩
        rcases Nat.lt_or_ge a' a with g | g
        · exact z.2 a' g hab
        · rw [show a' = a by omega] at hab; exact absurd hab z2
      · rw [nI_clamp (by omega), hg a (by omega)]
        refine ⟨vi _ (by omega), fun z3 v3 e3 => ?_, fun z3 v3 e3 => ?_⟩
        · rw [e3, nI_1]
          refine ih (a + 1) _ (by omega) (by omega) ?_
          rw [bI_f]
          exact fun g => by have := g.2 a (by omega) z2; rw [z3] at this; cases this
        · rw [e3, nI_1]
          refine ih (a + 1) _ (by omega) (by omega) ?_
          rw [bI_t]
          refine ⟨z.1, fun a' ha' hab => ?_⟩
          rcases Nat.lt_or_ge a' a with g | g
          · exact z.2 a' g hab
          · rw [show a' = a by omega]; simpa using z3
theorem s_frT {A Fg : Nat → Int32} {B b : Nat} {l lo c r : Nat → Nat} {gn : Nat → Bool} {post : Int32 → Prop} (hB : B ≤ 64) (hb : b < B) (e5 : A 5 = nI B) (hM : ∀ a, a < B → BlM A l lo c r a) (hg : ∀ a, a < B → (Fg a = 0 ↔ gn a = false)) (hp : post (bI (frT B l lo c r gn b))) : P_X10_isFreeThen (nI b) A Fg post := by
  unfold P_X10_isFreeThen J_X10_isFreeThen_14
  rw [nI_clamp (by omega), hg b hb]
  refine ⟨vi _ (by omega), fun z => ⟨B + 1, v_frT hB hb e5 hM hg hp (B + 1) 0 _ (by omega) (by omega) ?_⟩, fun z => ⟨B + 1, v_frT hB hb e5 hM hg hp (B + 1) 0 _ (by omega) (by omega) ?_⟩⟩
  · rw [bI_t ⟨z, fun a' ha' => by omega⟩]
  · rw [bI_f (fun g => z g.1)]
theorem v_next {A Fp Fg : Nat → Int32} {B : Nat} {l lo c r : Nat → Nat} {gn : Nat → Bool} {post : Int32 → Prop} (hB : B ≤ 64) (e5 : A 5 = nI B) (hM : ∀ a, a < B → BlM A l lo c r a) (hg : ∀ a, a < B → (Fg a = 0 ↔ gn a = false)) (hn : (∀ b, b < B → ¬ frT B l lo c r gn b) → post (-1)) (hs : ∀ m, m < B → frT B l lo c r gn m → (∀ b, b < B → frT B l lo c r gn b → (Fp m).toInt ≤ (Fp b).toInt) → (∀ b, b < m → frT B l lo c r gn b → (Fp m).toInt < (Fp b).toInt) → post (nI m)) : ∀ k b v, B - b < k → b ≤ B → (v = -1 ∧ (∀ b', b' < b → ¬ frT B l lo c r gn b') ∨ ∃ m, m < b ∧ v = nI m ∧ frT B l lo c r gn m ∧ (∀ b', b' < b → frT B l lo c r gn b' → (Fp m).toInt ≤ (Fp b').toInt) ∧ (∀ b', b' < m → frT B l lo c r gn b' → (Fp m).toInt < (Fp b').toInt)) → V_X10_nextBlock_4 A Fp Fg post k v (nI b) := by
  intro k
  induction k with
  | zero => intro b v h; omega
  | succ k ih =>
    intro b v h1 h2 hv
    have e5' : A (5 : Int32).toNatClampNeg = nI B := e5
    rw [V_X10_nextBlock_4_s, e5', nI_leI (by omega) (by omega)]
    refine ⟨vi 5 (by decide), fun q => ?_, fun q => s_frT hB (by omega) e5 hM hg (bsp (fun z v2 e2 => ?_) (fun z => ?_))⟩
    · rw [show b = B by omega] at hv
      rcases hv with ⟨e, hv⟩ | ⟨m, m1, e, m3, m4, m5⟩
      · rw [e]; exact hn hv
      · rw [e]; exact hs m m1 m3 m4 m5
    · rw [e2, nI_1]
      refine ih (b + 1) v (by omega) (by omega) ?_
      rcases hv with ⟨e, hv⟩ | ⟨m, m1, e, m3, m4, m5⟩
      · refine Or.inl ⟨e, fun b' hb' => ?_⟩
        rcases Nat.lt_or_ge b' b with g | g
        · exact hv b' g
        · rw [show b' = b by omega]; exact z
      · refine Or.inr ⟨m, by omega, e, m3, fun b' hb' hf => ?_, m5⟩
        rcases Nat.lt_or_ge b' b with g | g
        · exact m4 b' g hf
        · rw [show b' = b by omega] at hf; exact absurd hf z
    · rcases hv with ⟨e, hv⟩ | ⟨m, m1, e, m3, m4, m5⟩
      · rw [e]
        refine ⟨fun _ v2 e2 => ?_, fun w => absurd (by decide) w⟩
        rw [e2, nI_1]
        refine ih (b + 1) _ (by omega) (by omega) (Or.inr ⟨b, by omega, rfl, z, fun b' hb' hf => ?_, fun b' hb' hf => absurd hf (hv b' hb')⟩)
        rcases Nat.lt_or_ge b' b with g | g
        · exact absurd hf (hv b' g)
        · rw [show b' = b by omega]; omega
      · rw [e]
        refine ⟨fun w => absurd w (nI_pos (by omega)), fun _ => ?_⟩
        rw [nI_clamp (by omega), nI_clamp (by omega)]
        refine ⟨vi _ (by omega), vi _ (by omega), fun w v2 e2 => ?_, fun w v2 e2 => ?_⟩
        · rw [i32_le] at w
          rw [e2, nI_1]
          refine ih (b + 1) _ (by omega) (by omega) (Or.inr ⟨m, by omega, rfl, m3, fun b' hb' hf => ?_, m5⟩)
          rcases Nat.lt_or_ge b' b with g | g
          · exact m4 b' g hf
          · rw [show b' = b by omega]; exact w
        · rw [i32_le] at w
          rw [e2, nI_1]
          refine ih (b + 1) _ (by omega) (by omega) (Or.inr ⟨b, by omega, rfl, z, fun b' hb' hf => ?_, fun b' hb' hf => ?_⟩)
          · rcases Nat.lt_or_ge b' b with g | g
            · have := m4 b' g hf; omega
            · rw [show b' = b by omega]; omega
          · have := m4 b' hb' hf; omega
theorem s_next {A Fp Fg : Nat → Int32} {B : Nat} {l lo c r : Nat → Nat} {gn : Nat → Bool} {post : Int32 → Prop} (hB : B ≤ 64) (e5 : A 5 = nI B) (hM : ∀ a, a < B → BlM A l lo c r a) (hg : ∀ a, a < B → (Fg a = 0 ↔ gn a = false)) (hn : (∀ b, b < B → ¬ frT B l lo c r gn b) → post (-1)) (hs : ∀ m, m < B → frT B l lo c r gn m → (∀ b, b < B → frT B l lo c r gn b → (Fp m).toInt ≤ (Fp b).toInt) → (∀ b, b < m → frT B l lo c r gn b → (Fp m).toInt < (Fp b).toInt) → post (nI m)) : P_X10_nextBlock A Fp Fg post := ⟨B + 1, v_next hB e5 hM hg hn hs (B + 1) 0 _ (by omega) (by omega) (Or.inl ⟨rfl, fun b' hb' => by omega⟩)⟩
/-- the first with the least press of all that are left is free; so it is the reference's choice too -/
theorem am_free {B : Nat} {l lo c r hh : Nat → Nat} {g : Nat → Int} {gn : Nat → Bool} (hg : PR B l lo c r hh g) (hx : ∃ b, b < B ∧ gn b = false) : am (keyZ g gn) B < B ∧ gn (am (keyZ g gn) B) = false ∧ frT B l lo c r gn (am (keyZ g gn) B) ∧ (∀ b, b < B → gn b = false → g (am (keyZ g gn) B) ≤ g b) ∧ (∀ b, b < am (keyZ g gn) B → gn b = false → g (am (keyZ g gn) B) < g b) := by
  obtain ⟨b0, hb0, hg0⟩ := hx
  obtain ⟨h1, h2, h3⟩ := am_spec (keyZ g gn) B (by omega)
  generalize am (keyZ g gn) B = m at *
  have key : ∀ b, gn b = false → keyZ g gn b = g b := fun b hb => by unfold keyZ; rw [if_neg (by simp [hb])]
  have hgm : gn m = false := by
    cases e : gn m with
    | false => rfl
    | true =>
      exfalso
      have k1 : keyZ g gn m = 100001 := by unfold keyZ; rw [if_pos e]
      have := h2 b0 hb0
      rw [k1, key b0 hg0] at this
      have := (hg b0 hb0).1
      have := duZ_b hh (lo b0)
      omega
  rw [key m hgm] at h2 h3
  refine ⟨h1, hgm, ⟨hgm, fun a ha hab => ?_⟩, fun b hb hgb => by have := h2 b hb; rwa [key b hgb] at this, fun b hb hgb => by have := h3 b hb; rwa [key b hgb] at this⟩
  cases e : gn a with
  | true => rfl
  | false =>
    exfalso
    have := h2 a ha
    rw [key a e] at this
    have := (hg a ha).2.1 m h1 hab
    omega
theorem ct_full {p : Nat → Bool} : ∀ {n : Nat}, n ≤ ct p n → ∀ b, b < n → p b = true := by
  intro n
  induction n with
  | zero => intro _ b h; omega
  | succ n ih =>
    intro h b hb
    rw [ct] at h
    have := ct_le p n
    by_cases hp : p n = true
    · rw [if_pos hp] at h
      rcases Nat.lt_or_ge b n with g | g
      · exact ih (by omega) b g
      · rw [show b = n by omega]; exact hp
    · rw [if_neg hp] at h; omega
theorem ct_room {p : Nat → Bool} {n : Nat} (h : ct p n < n) : ∃ b, b < n ∧ p b = false := by
  apply Classical.byContradiction
  intro hno
  have e : ct p n = ct (fun _ => true) n := ct_cong (fun k hk => by
    cases e : p k with
    | true => rfl
    | false => exact absurd ⟨k, hk, e⟩ hno)
  have e2 : ∀ n, ct (fun _ => true) n = n := fun n => by
    induction n with
    | zero => rfl
    | succ n ih => rw [ct, ih]; simp
  rw [e, e2] at h
  omega
theorem gs_ct {B T : Nat} {l lo c r hh : Nat → Nat} {g : Nat → Int} {t0 : Nat → Bool} (hg : PR B l lo c r hh g) (hT : ct t0 B = T) : ∀ k, T + k ≤ B → ct (gs g t0 B k) B = T + k := by
  intro k
  induction k with
  | zero => intro _; exact hT
  | succ k ih =>
    intro hk
    have e := ih (by omega)
    obtain ⟨h1, h2, -⟩ := am_free hg (ct_room (show ct (gs g t0 B k) B < B by omega))
    rw [gs, ct_set (p := gs g t0 B k) (b := am (keyZ g (gs g t0 B k)) B) h2 vaup_eq (fun x hx => vaup_ne hx), if_pos h1]
    omega
theorem gs_t0 {B : Nat} {g : Nat → Int} {t0 : Nat → Bool} : ∀ k b, gs g t0 B k b = false → t0 b = false := by
  intro k
  induction k with
  | zero => intro b h; exact h
  | succ k ih =>
    intro b h
    rw [gs] at h
    by_cases e : b = am (keyZ g (gs g t0 B k)) B
    · rw [e, vaup_eq] at h; cases h
    · rw [vaup_ne e] at h; exact ih b h
/-- what the reference's order leaves as it was -/
def OdA (A0 A : Nat → Int32) (g : Nat → Int) (t0 : Nat → Bool) (B k : Nat) : Prop := A 8 = nI k ∧ (∀ j, j < k → A (690 + j) = nI (ordN g t0 B j)) ∧ ∀ j, j ≠ 8 → (j < 690 ∨ 754 ≤ j) → A j = A0 j
theorem s_nextK {A0 A Fp Fg : Nat → Int32} {f : Nat → Nat → Int32} {B T k : Nat} {l lo c r hh : Nat → Nat} {g : Nat → Int} {t0 : Nat → Bool} {post : Int32 → Prop} (hB : B ≤ 64) (e5 : A0 5 = nI B) (hM : ∀ a, a < B → BlM A0 l lo c r a) (hg : PR B l lo c r hh g) (hT : ct t0 B = T) (hA : OdA A0 A g t0 B k) (hF : ∀ b, b < B → t0 b = false → (Fp b).toInt = g b) (hgn : ∀ a, a < B → (Fg a = 0 ↔ gs g t0 B k a = false)) (hk : T + k ≤ B) (hp : post (if T + k < B then nI (ordN g t0 B k) else -1)) : P_X10_nextBlock A Fp Fg post := by
  have e5' : A 5 = nI B := (hA.2.2 5 (by decide) (by omega)).trans e5
  have hM' : ∀ a, a < B → BlM A l lo c r a := fun a ha => by
    obtain ⟨m1, m2, m3, m4, m5⟩ := hM a ha
    exact ⟨(hA.2.2 _ (by omega) (by omega)).trans m1, (hA.2.2 _ (by omega) (by omega)).trans m2, (hA.2.2 _ (by omega) (by omega)).trans m3, (hA.2.2 _ (by omega) (by omega)).trans m4, m5⟩
  have ec := gs_ct hg hT k hk
  have fg : ∀ b, b < B → gs g t0 B k b = false → (Fp b).toInt = g b := fun b hb h => hF b hb (gs_t0 k b h)
  by_cases hlt : T + k < B
  · rw [if_pos hlt] at hp
    obtain ⟨a1, a2, a3, a4, a5⟩ := am_free hg (ct_room (show ct (gs g t0 B k) B < B by omega))
    refine s_next hB e5' hM' hgn (fun hno => absurd a3 (hno _ a1)) (fun m m1 m2 m3 m4 => ?_)
    have e : m = ordN g t0 B k := by
      unfold ordN
      generalize am (keyZ g (gs g t0 B k)) B = u at *
      have k1 := m3 u a1 a3
      rw [fg m m1 m2.1, fg u a1 a2] at k1
      have k2 := a4 m m1 m2.1
      rcases Nat.lt_trichotomy m u with w | w | w
      · have := a5 m w m2.1; omega
      · exact w
      · have := m4 u w a3
        rw [fg m m1 m2.1, fg u a1 a2] at this
        omega
    rw [e]; exact hp
  · rw [if_neg hlt] at hp
    refine s_next hB e5' hM' hgn (fun _ => hp) (fun m m1 m2 => ?_)
    have := ct_full (p := gs g t0 B k) (by omega) m m1
    rw [m2.1] at this
    cases this
theorem v_od67 {A0 Fp : Nat → Int32} {f : Nat → Nat → Int32} {B T dy : Nat} {l lo c r hh : Nat → Nat} {g : Nat → Int} {t0 : Nat → Bool} {post : Int32 → (Nat → Int32) → (Nat → Int32) → (Nat → Int32) → Prop} (hB : B ≤ 64) (hTB : T ≤ B) (hdy : dy ≤ 5000) (hr : ∀ b, b < B → lo b ≤ 7) (e5 : A0 5 = nI B) (e4 : A0 4 = nI dy) (hM : ∀ a, a < B → BlM A0 l lo c r a) (h3 : RRv f A0 hh) (hg : PR B l lo c r hh g) (hT : ct t0 B = T) (hF : ∀ b, b < B → t0 b = false → (Fp b).toInt = g b)
    (hp : ∀ A Fg, OdA A0 A g t0 B (B - T) → post (nI (ltN g t0 B hh lo dy (B - T))) A Fp Fg) : ∀ n k A Fg, B - T - k < n → T + k ≤ B → OdA A0 A g t0 B k → (∀ a, a < B → (Fg a = 0 ↔ gs g t0 B k a = false)) → V_X10_order_67 Fp post n (nI (ltN g t0 B hh lo dy k)) (if T + k < B then nI (ordN g t0 B k) else -1) A Fg := by
  intro n
  induction n with
  | zero => intro k A Fg h; omega
  | succ n ih =>
    intro k A Fg g1 g2 g3 g4
    rw [V_X10_order_67_s]
    by_cases hlt : T + k < B
    · rw [if_pos hlt]
      have ec := gs_ct hg hT k g2
      obtain ⟨a1, a2, -⟩ := am_free hg (ct_room (show ct (gs g t0 B k) B < B by omega))
      have a1' : ordN g t0 B k < B := a1
      refine ⟨fun z => absurd z (nI_pos (by omega)), fun _ => ?_⟩
      rw [nI_clamp (by omega)]
      refine ⟨vi _ (by omega), fun Fg' eF => ?_⟩
      have hl := hr _ a1'
      have m2 : A (170 + 8 * ordN g t0 B k + 1) = nI (lo (ordN g t0 B k)) := (g3.2.2 _ (by omega) (by omega)).trans (hM _ a1').2.1
      have h3' : RRv f A hh := h3.view (fun j _ _ => g3.2.2 j (by omega) (by omega))
      have a4 : A (4 : Int32).toNatClampNeg = nI dy := (g3.2.2 4 (by omega) (by omega)).trans e4
      have a8 : A (8 : Int32).toNatClampNeg = nI k := g3.1
      have hgn' : ∀ a, a < B → (Fg' a = 0 ↔ gs g t0 B (k + 1) a = false) := fun a ha => by
        rw [eF, gs]
        by_cases e : a = ordN g t0 B k
        · rw [e, upd_eq, show am (keyZ g (gs g t0 B k)) B = ordN g t0 B k from rfl, vaup_eq]; decide
        · rw [upd_ne e, vaup_ne (show a ≠ am (keyZ g (gs g t0 B k)) B from e)]; exact g4 a ha
      have fin : ∀ s1 : Nat, ltN g t0 B hh lo dy k + s1 = ltN g t0 B hh lo dy (k + 1) → J_X10_order_114 Fp (V_X10_order_67 Fp post n) (nI (ltN g t0 B hh lo dy k)) (nI s1) (nI (ordN g t0 B k)) A Fg' := fun s1 es v1 ev1 => by
        rw [ev1, nI_add, es, a8, L690, nI_add, nI_clamp (by omega)]
        have eight : (8 : Int32).toNatClampNeg = 8 := by decide
        refine ⟨vi 8 (by decide), vi _ (by omega), fun A1 eA1 => ⟨vi 8 (by decide), vi 8 (by decide), fun A2 eA2 => ?_⟩⟩
        rw [eight] at eA2
        have q8 : A1 8 = nI k := by rw [eA1, upd_ne (by omega)]; exact g3.1
        rw [q8, nI_1] at eA2
        have hA2 : OdA A0 A2 g t0 B (k + 1) := by
          refine ⟨by rw [eA2, upd_eq], fun j hj => ?_, fun j j1 j2 => ?_⟩
          · rw [eA2, upd_ne (by omega), eA1]
            by_cases e : j = k
            · rw [e, upd_eq]
            · rw [upd_ne (by omega)]; exact g3.2.1 j (by omega)
          · rw [eA2, upd_ne j1, eA1, upd_ne (by omega)]; exact g3.2.2 j j1 j2
        exact s_nextK (f := f) hB e5 hM hg hT hA2 hF hgn' (by omega) (ih (k + 1) A2 Fg' (by omega) (by omega) hA2 hgn')
      have hd : dueI hh (lo (ordN g t0 B k)) < 0 ↔ dueI hh (lo (ordN g t0 B k)) = -1 := by
        rcases dueI_cases hh (lo (ordN g t0 B k)) with h | ⟨d, hd, h⟩
        · rw [h]; decide
        · rw [h]; exact ⟨fun z => absurd z (nI_pos (by omega)), fun z => absurd z (ne_mOne (by omega))⟩
      refine s_dueM (lo := lo (ordN g t0 B k)) (by omega) (by omega) m2 h3' ?_
      rw [hd]
      refine ⟨fun z => ?_, fun z => ⟨vi 4 (by decide), vi 8 (by decide), s_dueM (lo := lo (ordN g t0 B k)) (by omega) (by omega) m2 h3' ?_⟩⟩
      · exact fin 0 (by rw [ltN, @if_neg _ (Classical.propDecidable _) (fun w => w.1 z)])
      · rw [a4, a8, nI_add]
        refine ⟨fun z2 => ?_, fun z2 => ?_⟩
        · exact fin 0 (by rw [ltN, @if_neg _ (Classical.propDecidable _) (fun w => i32_nlt.mpr w.2 z2)])
        · exact fin 1 (by rw [ltN, @if_pos _ (Classical.propDecidable _) ⟨z, i32_nlt.mp z2⟩])
    · rw [if_neg hlt]
      rw [show k = B - T by omega] at g3 ⊢
      exact ⟨fun _ => hp A Fg g3, fun z => absurd (by decide) z⟩
theorem v_od17 {A0 Fp : Nat → Int32} {f : Nat → Nat → Int32} {B : Nat} {post : Int32 → (Nat → Int32) → (Nat → Int32) → (Nat → Int32) → Prop} (hB : B ≤ 64) (e5 : A0 5 = nI B) (h4 : ∀ a, a < B → A0 (170 + 8 * a + 4) = f 9 a ∧ Dy (f 9 a)) (hp : ∀ Fg : Nat → Int32, (∀ a, a < B → (Fg a = 0 ↔ decide (¬ f 9 a = -1) = false)) → ∀ A, A = upd A0 8 0 → P_X10_nextBlock A Fp Fg (fun r => ∃ k : Nat, V_X10_order_67 Fp post k 0 r A Fg)) : ∀ k b Fg, B - b < k → b ≤ B → (∀ a, a < b → (Fg a = 0 ↔ decide (¬ f 9 a = -1) = false)) → V_X10_order_17 A0 Fp post k (nI b) Fg := by
  intro k
  induction k with
  | zero => intro b Fg h; omega
  | succ k ih =>
    intro b Fg g1 g2 g3
    have e5' : A0 (5 : Int32).toNatClampNeg = nI B := e5
    rw [V_X10_order_17_s, e5', nI_leI (by omega) (by omega)]
    have nx : ∀ r : Int32, (r = 0 ↔ decide (¬ f 9 b = -1) = false) → ∀ F' : Nat → Int32, F' = upd Fg b r → ∀ v : Int32, v = nI b + 1 → b < B → V_X10_order_17 A0 Fp post k v F' := fun r er F' eF v ev hlt => by
      rw [ev, nI_1]
      refine ih (b + 1) F' (by omega) (by omega) (fun a ha => ?_)
      rw [eF]
      by_cases e : a = b
      · rw [e, upd_eq]; exact er
      · rw [upd_ne e]; exact g3 a (by omega)
    refine ⟨vi 5 (by decide), fun q => ⟨vi 8 (by decide), fun A eA => hp Fg (fun a ha => g3 a (by omega)) A eA⟩, fun q => s_stands (by omega) (h4 b (by omega)).1 (h4 b (by omega)).2 (bsp (fun z => ⟨vi _ (by omega), fun F' eF v ev => ?_⟩) (fun z => ⟨vi _ (by omega), fun F' eF v ev => ?_⟩))⟩
    · rw [nI_clamp (by omega)] at eF
      exact nx 1 ⟨fun h => absurd h (by decide), fun h => by simp [z] at h⟩ F' eF v ev (by omega)
    · rw [nI_clamp (by omega)] at eF
      exact nx 0 ⟨fun _ => by simp [z], fun _ => rfl⟩ F' eF v ev (by omega)
theorem core_12 (i : Nat → Int32) (f : Nat → Nat → Int32) (sl : Int32) (cost wtt ubr lbr prs : Nat → Int32) (g : Nat → Option Nat) (all has mfew msawn mcut mtodo mpress mgone : Nat → Int32)  (NX : Int32 → (Nat → Int32) → (Nat → Int32) → (Nat → Int32) → (Nat → Int32) → (Nat → Int32) → Prop) (h : Rel i f all) (hN : ∀ (c0 : Int32) (c1 : Nat → Int32) (c2 : Nat → Int32) (d0 : Nat → Int32) (d1 : Nat → Int32) (d2 : Nat → Int32), Rel (mkI (i 0) (i 1) (i 2) (i 3) (i 4) (i 5) (i 6) (i 7) (i 8) c0) (mkF (f 0) (f 1) (f 2) (f 3) (f 4) (f 5) (f 6) (f 7) (f 8) (f 9) (f 10) (f 11) (f 12) c1) d0 → (∀ j, 830 ≤ j → d0 j = all j) → NX c0 c1 c2 d0 d1 d2) : P_X9_order (i 2) (i 3) (i 4) (i 5) (f 3) (f 7) (f 8) (i 7) (f 9) (i 9) (f 13) prs (fun r c0 c1 c2 => P_X10_order all mpress mgone (fun r' d0 d1 d2 => r = r' ∧ NX c0 c1 c2 d0 d1 d2)) := by
  have same := fun F G H => hN _ _ F _ G H h.same (fun _ _ => rfl)
  obtain ⟨lim, sw, dy, w, h', B, T, pn, O, wt, mo, hh, l, lo, c, r, tn, bA, q, h1, h2, h3, h4, h5, h6⟩ := h
  obtain ⟨-, -, ⟨d1, d2, d3⟩, ⟨w1, w2, w3, w4⟩, ⟨v1, v2, v3, v4⟩⟩ := id h1
  obtain ⟨b1, b2, b3, b4⟩ := id h4.1
  obtain ⟨t1, t2, t3, t4, t5, t6⟩ := id h5.1
  have hG := h4.2.2.2
  have hM : ∀ a, a < B → BlM all l lo c r a := fun a ha => h4.blM (by omega) (by omega) ha
  have hD : ∀ a, a < B → all (170 + 8 * a + 4) = f 9 a ∧ Dy (f 9 a) := fun a ha => ⟨(h5.2.1 a ha).1, h5.dy ha⟩
  have a5 : all (5 : Int32).toNatClampNeg = nI B := b2
  have hlo7 : ∀ b, b < B → lo b ≤ 7 := fun b hb => by have := hG.1 b hb; omega
  unfold P_X9_order P_X10_order
  rw [b1, a5]
  refine ⟨fun z => ⟨vi 5 (by decide), fun _ => ⟨rfl, same _ _ _⟩, fun z2 => absurd z z2⟩, fun z => ?_⟩
  have hB : 0 < B := by
    rcases Nat.eq_zero_or_pos B with g | g
    · rw [g] at z; exact absurd rfl z
    · exact g
  rw [d1, w1, v1, t1]
  refine s_findPress (l := l) (lo := lo) (c := c) (r := r) (hh := hh) (A := all) hG hB b3 w4 v4 v3 h3 (fun b hb => (h4.2.1 b hb).2.1.1) (h4.2.2.1 hB) (fun F hF => ?_)
  refine s_pass b3 (fun F1 hF1 => fun v3' e3 => ?_)
  rw [pk_sub t4] at e3
  rw [e3]
  refine ⟨B - T + 1, v_arr (A := all) (g := fun b => (F b).toInt) (t0 := fun b => decide (¬ f 9 b = -1)) (hh := hh) (lo := lo) hB b3 (by omega) d3 (fun b hb => ⟨(h4.2.1 b hb).2.1.1, by have := hlo7 b hb; omega⟩) h3 (fun F2 O2 hO2 => ?_) (B - T + 1) 0 F1 _ (by omega) (by omega) hF1 (fun j hj => by omega)⟩
  refine ⟨vi 5 (by decide), fun z2 => absurd z2 z, fun _ => ⟨B + 1, v_pm2 (f := f) (g := fun b => (F b).toInt) b3 hlo7 b2 hM hD h3 hF (fun Fp p1 p2 => ?_) (B + 1) 0 _ (by omega) (by omega) (fun b' hb' => by omega)⟩⟩
  have hU : ∀ a b, a < B → b < B → abv l lo c r a b → f 9 a = -1 → f 9 b = -1 := fun a b ha hb hab hs => Classical.byContradiction (fun g => h5.2.2.2.2.2.2 a b ha hb hab g hs)
  have hFp : ∀ b, b < B → decide (¬ f 9 b = -1) = false → (Fp b).toInt = (F b).toInt := fun b hb hs => PM.eq hF hU (fun b hb => (hG.1 b hb).2.1) p1 p2 8 b hb (by have := hlo7 b hb; omega) (by simpa using hs)
  refine ⟨B + 1, v_od17 (f := f) b3 b2 hD (fun Fg hFg A eA => ?_) (B + 1) 0 _ (by omega) (by omega) (fun a ha => by omega)⟩
  have hA0 : OdA all A (fun b => (F b).toInt) (fun b => decide (¬ f 9 b = -1)) B 0 := ⟨by rw [eA, upd_eq]; rfl, fun j hj => by omega, fun j j1 j2 => by rw [eA, upd_ne j1]⟩
  refine s_nextK (f := f) (T := T) b3 b2 hM hF t6.symm hA0 hFp hFg (by omega) ⟨B - T + 1, v_od67 (f := f) (dy := dy) (hh := hh) b3 t4 d3 hlo7 b2 d2 hM h3 hF t6.symm hFp (fun A' Fg' hA' => ⟨rfl, hN _ _ _ _ _ _ ?_ (fun j hj => hA'.2.2 j (by omega) (by omega))⟩) (B - T + 1) 0 A Fg (by omega) (by omega) hA0 hFg⟩
  have hv : ∀ j, j ≠ 8 → (j < 690 ∨ 754 ≤ j) → A' j = all j := hA'.2.2
  refine ⟨lim, sw, dy, w, h', B, T, pn, B - T, wt, mo, hh, l, lo, c, r, tn, bA, q, h1.view (fun j hj => hv j (by omega) (by omega)), h2.view (fun j _ _ => hv j (by omega) (by omega)), h3.view (fun j _ _ => hv j (by omega) (by omega)), RPl.view (i := i) (f := f) h4 (hv 5 (by omega) (by omega)) (hv 6 (by omega) (by omega)) (fun b j _ _ _ _ => hv _ (by omega) (by omega)), RYd.view (i := i) (f := f) h5 (hv 7 (by omega) (by omega)) (fun b j _ _ => hv _ (by omega) (by omega)) (fun k _ => hv _ (by omega) (by omega)), ⟨rfl, hA'.1, by omega, fun k hk => ?_⟩⟩
  exact (hA'.2.1 k hk).trans (hO2 k hk).symm
