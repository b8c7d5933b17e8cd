/-! the press of the blocks -/
def duZ (hh : Nat → Nat) (x : Nat) : Int := if dueI hh x = -1 then 100000 else (dueI hh x).toInt
theorem duZ_b (hh : Nat → Nat) (x : Nat) : 0 ≤ duZ hh x ∧ duZ hh x ≤ 100000 := by
  unfold duZ
  rcases dueI_cases hh x with h | ⟨d, hd, h⟩
  · rw [if_pos h]; omega
  · rw [if_neg (by rw [h]; exact ne_mOne (by omega)), h, nI_toInt (by omega)]; omega
theorem sub1 {x : Int32} (h : -1000000 ≤ x.toInt) : (x - 1).toInt = x.toInt - 1 := by
  have h2 : x.toInt < 2 ^ 31 := Int32.toInt_lt x
  rw [Int32.toInt_sub]
  have e : (1 : Int32).toInt = 1 := by decide
  rw [e, Int.bmod_eq_of_le (by omega) (by omega)]
/-- the press: at most the due, less than that of what is below; and one of these -/
def PR (B : Nat) (l lo c r hh : Nat → Nat) (g : Nat → Int) : Prop := ∀ b, b < B → (-(lo b : Int) ≤ g b ∧ g b ≤ duZ hh (lo b)) ∧ (∀ a, a < B → abv l lo c r b a → g b ≤ g a - 1) ∧ (g b = duZ hh (lo b) ∨ ∃ a, a < B ∧ abv l lo c r b a ∧ g b = g a - 1)
/-- as far as the class has come: rows below y, and of row y the columns below x -/
def PRy (w h B : Nat) (l lo c r hh bA : Nat → Nat) (y x : Nat) (g : Nat → Int) : Prop := (∀ b, b < B → (-(lo b : Int) ≤ g b ∧ g b ≤ duZ hh (lo b)) ∧ (lo b < y → ∀ a, a < B → abv l lo c r b a → g b ≤ g a - 1) ∧ (g b = duZ hh (lo b) ∨ (lo b ≤ y ∧ ∃ a, a < B ∧ abv l lo c r b a ∧ g b = g a - 1))) ∧ ∀ x', x' < x → bA (8 * y + x') ≠ bA (8 * (y - 1) + x') → g (bA (8 * y + x')) ≤ g (bA (8 * (y - 1) + x')) - 1
/-- two blocks one over the other in a column -/
theorem Geo.col {w h B : Nat} {l lo c r bA : Nat → Nat} (G : Geo w h B l lo c r bA) {x y : Nat} (hB : 0 < B) (hx : x < w) (hy : y < h) (hy1 : 1 ≤ y) (hne : bA (8 * y + x) ≠ bA (8 * (y - 1) + x)) : abv l lo c r (bA (8 * y + x)) (bA (8 * (y - 1) + x)) ∧ lo (bA (8 * y + x)) = y := by
  obtain ⟨g1, g2, g3⟩ := G
  obtain ⟨a1, a2⟩ := g2 hB x y hx hy
  obtain ⟨b1, b2⟩ := g2 hB x (y - 1) hx (by omega)
  generalize bA (8 * y + x) = a at *
  generalize bA (8 * (y - 1) + x) = b at *
  unfold inB at a2 b2
  have e1 : lo a = y := by
    rcases Nat.lt_or_ge (lo a) y with q | q
    · exact absurd ((g3 a x (y - 1) a1 ⟨by omega, by omega, by omega, by omega⟩).symm.trans (g3 b x (y - 1) b1 ⟨by omega, by omega, by omega, by omega⟩)) hne
    · omega
  have e2 : lo b + r b = y := by
    rcases Nat.lt_or_ge y (lo b + r b) with q | q
    · exact absurd ((g3 a x y a1 ⟨by omega, by omega, by omega, by omega⟩).symm.trans (g3 b x y b1 ⟨by omega, by omega, by omega, by omega⟩)) hne
    · omega
  exact ⟨⟨by omega, by omega, by omega⟩, e1⟩
theorem PRy.next {w h B : Nat} {l lo c r hh bA : Nat → Nat} {y : Nat} {g : Nat → Int} (G : Geo w h B l lo c r bA) (hy : 1 ≤ y) (H : PRy w h B l lo c r hh bA y w g) : PRy w h B l lo c r hh bA (y + 1) 0 g := by
  refine ⟨fun b hb => ?_, fun x' hx' => by omega⟩
  obtain ⟨h1, h2, h3⟩ := H.1 b hb
  refine ⟨h1, fun hlt a ha hab => ?_, h3.imp id (fun ⟨q, q2⟩ => ⟨by omega, q2⟩)⟩
  rcases Nat.lt_or_ge (lo b) y with q | q
  · exact h2 q a ha hab
  · have hly : lo b = y := by omega
    obtain ⟨k1, x, x1, x2, x3⟩ := G.dn hb ha hab
    have gb := G.1 b hb
    have ga := G.1 a ha
    have e0 : lo a + r a = y := by have := hab.1; omega
    rw [e0] at x3
    have e1 : bA (8 * (y - 1) + x) = a := G.2.2 a x (y - 1) ha ⟨by omega, by omega, by omega, by omega⟩
    have := H.2 x (by omega) (by rw [x3, e1]; intro e; subst e; have := hab.1; omega)
    rw [x3, e1] at this
    exact this
theorem PRy.step {w h B : Nat} {l lo c r hh bA : Nat → Nat} {y x : Nat} {g g' : Nat → Int} (G : Geo w h B l lo c r bA) (hB : 0 < B) (hx : x < w) (hyh : y < h) (hy : 1 ≤ y) (H : PRy w h B l lo c r hh bA y x g)
    (hg : (bA (8 * y + x) = bA (8 * (y - 1) + x) ∧ ∀ b, b < B → g' b = g b) ∨ (bA (8 * y + x) ≠ bA (8 * (y - 1) + x) ∧ g' (bA (8 * y + x)) = min (g (bA (8 * (y - 1) + x)) - 1) (g (bA (8 * y + x))) ∧ ∀ b, b < B → b ≠ bA (8 * y + x) → g' b = g b)) : PRy w h B l lo c r hh bA y (x + 1) g' := by
  rcases hg with ⟨e, eg⟩ | ⟨ne, eu, eg⟩
  · refine ⟨fun b hb => ?_, fun x' hx' hne => ?_⟩
    · obtain ⟨h1, h2, h3⟩ := H.1 b hb
      rw [eg b hb]
      refine ⟨h1, fun q a ha hab => by rw [eg a ha]; exact h2 q a ha hab, h3.imp id (fun ⟨q, a, ha, hab, e⟩ => ⟨q, a, ha, hab, by rw [eg a ha]; exact e⟩)⟩
    · rcases Nat.lt_or_ge x' x with q | q
      · have k1 := (G.2.1 hB x' y (by omega) hyh).1
        have k2 := (G.2.1 hB x' (y - 1) (by omega) (by omega)).1
        rw [eg _ k1, eg _ k2]; exact H.2 x' q hne
      · rw [show x' = x by omega] at hne; exact absurd e hne
  · obtain ⟨hab, hlo⟩ := G.col hB hx hyh hy ne
    have k1 := (G.2.1 hB x y hx hyh).1
    have k2 := (G.2.1 hB x (y - 1) hx (by omega)).1
    generalize hU : bA (8 * y + x) = u at *
    have hlow : ∀ b, b < B → lo b < y → g' b = g b := fun b hb q => eg b hb (fun e => by rw [e] at q; omega)
    have hle : ∀ b, b < B → g' b ≤ g b := fun b hb => by
      by_cases e : b = u
      · rw [e, eu]; omega
      · rw [eg b hb e]; omega
    have hll : lo (bA (8 * (y - 1) + x)) < y := by
      have := (G.2.1 hB x (y - 1) hx (by omega)).2
      unfold inB at this; omega
    generalize hL : bA (8 * (y - 1) + x) = v at *
    refine ⟨fun b hb => ?_, fun x' hx' hne => ?_⟩
    · obtain ⟨h1, h2, h3⟩ := H.1 b hb
      by_cases e : b = u
      · subst e
        have hv := (H.1 v k2).1
        refine ⟨?_, fun q => by omega, ?_⟩
        · rw [eu]; omega
        · rcases Int.lt_or_le (g v - 1) (g b) with q | q
          · right
            exact ⟨by omega, v, k2, hab, by rw [eu, hlow v k2 hll]; omega⟩
          · have : g' b = g b := by rw [eu]; omega
            rw [this]
            refine h3.imp id (fun ⟨q2, a, ha, hba, e⟩ => ⟨q2, a, ha, hba, ?_⟩)
            have := hba.1
            have ra := (G.1 a ha).2.1
            rw [hlow a ha (by omega)]; exact e
      · rw [eg b hb e]
        refine ⟨h1, fun q a ha hba => ?_, h3.imp id (fun ⟨q2, a, ha, hba, e⟩ => ⟨q2, a, ha, hba, ?_⟩)⟩
        · have := hba.1
          have ra := (G.1 a ha).2.1
          rw [hlow a ha (by omega)]; exact h2 q a ha hba
        · have := hba.1
          have ra := (G.1 a ha).2.1
          rw [hlow a ha (by omega)]; exact e
    · have kv := (G.2.1 hB x' (y - 1) (by omega) (by omega))
      have hlv : lo (bA (8 * (y - 1) + x')) < y := by have := kv.2; unfold inB at this; omega
      rw [hlow _ kv.1 hlv]
      rcases Nat.lt_or_ge x' x with q | q
      · have := H.2 x' q hne
        have := hle _ (G.2.1 hB x' y (by omega) hyh).1
        omega
      · have hxx : x' = x := by omega
        subst hxx
        rw [hL] at hne ⊢
        have hu := hU
        rw [hu, eu]; omega
