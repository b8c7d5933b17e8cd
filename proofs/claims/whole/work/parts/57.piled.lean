theorem v_blockIn {B : Nat} {x1 x2 : Int32} {F10 F11 : Nat → Int32} {post : Int32 → Prop} (hB : B ≤ 64) (hf : ∀ b, b < B → F10 b = x1 → F11 b = x2 → post (nI b)) (hn : (∀ b, b < B → ¬ (F10 b = x1 ∧ F11 b = x2)) → post (-1)) : ∀ k b, B - b < k → b ≤ B → (∀ b', b' < b → ¬ (F10 b' = x1 ∧ F11 b' = x2)) → V_X8_blockIn_3 x1 x2 (nI B) F10 F11 post k (nI b) := by
  intro k
  induction k with
  | zero => intro b h; omega
  | succ k ih =>
    intro b h1 h2 h3
    rw [V_X8_blockIn_3_s, nI_leI (by omega) (by omega), nI_clamp (by omega)]
    refine ⟨fun q => hn (fun b' hb' => h3 b' (by omega)), fun q => ?_⟩
    have nx : ¬ (F10 b = x1 ∧ F11 b = x2) → ∀ v : Int32, v = nI b + 1 → V_X8_blockIn_3 x1 x2 (nI B) F10 F11 post k v := fun z v ev => by
      rw [ev, nI_1]
      refine ih (b + 1) (by omega) (by omega) (fun b' hb' => ?_)
      rcases Nat.lt_or_ge b' b with g | g
      · exact h3 b' g
      · rw [show b' = b by omega]; exact z
    exact ⟨vi _ (by omega), fun z => ⟨vi _ (by omega), fun z2 => hf b (by omega) z z2, fun z2 => nx (fun g => z2 g.2)⟩, fun z => nx (fun g => z g.1)⟩
/-- of the list of those taken: what lies in it, on which pile, in which place -/
def Tk (f : Nat → Nat → Int32) (A : Nat → Int32) (B T : Nat) (q : Nat → Nat) : Prop := ∀ k, k < T → q k < B ∧ A (760 + k) = nI (q k) ∧ A (170 + 8 * q k + 5) = f 10 (q k) ∧ f 11 (q k) = nI (ct (fun j => decide (f 10 (q j) = f 10 (q k))) k)
theorem RYd.tk {i : Nat → Int32} {f : Nat → Nat → Int32} {A : Nat → Int32} {B T pn : Nat} {l lo c r q : Nat → Nat} (H : RYd i f A B T pn l lo c r q) : Tk f A B T q := fun k hk => by
  obtain ⟨z1, z2, z3, z4⟩ := H.2.2.1 k hk
  exact ⟨z1, z2, (H.2.1 _ z1).2.1, z4⟩
theorem v_piledM {f : Nat → Nat → Int32} {A : Nat → Int32} {B T : Nat} {q : Nat → Nat} {x1 x2 : Int32} {post : Int32 → Prop} (hB : B ≤ 64) (hT : T ≤ B) (hTk : ∀ P : Int32 → Prop, P (nI T) → P_X10_taken A P) (hq : Tk f A B T q) (hf : ∀ i, i < T → f 10 (q i) = x1 → f 11 (q i) = x2 → post (nI (q i))) (hn : (∀ i, i < T → ¬ (f 10 (q i) = x1 ∧ f 11 (q i) = x2)) → post (-1)) : ∀ k i, T - i < k → i ≤ T → (∀ i', i' < i → ¬ (f 10 (q i') = x1 ∧ f 11 (q i') = x2)) → V_X10_piled_5 x1 x2 A post k (nI (ct (fun j => decide (f 10 (q j) = x1)) i)) (nI i) := by
  intro k
  induction k with
  | zero => intro i h; omega
  | succ k ih =>
    intro i h1 h2 h3
    rw [V_X10_piled_5_s]
    refine hTk _ ?_
    rw [nI_leI (by omega) (by omega)]
    refine ⟨fun z => hn (fun b' hb' => h3 b' (by omega)), fun z => ⟨fun z0 => hn (fun i' hi' g => ?_), fun z0 => ?_⟩⟩
    · have := (hq i' hi').2.2.2
      rw [g.2] at this
      rw [this] at z0
      exact absurd z0 (nI_pos (by have := ct_le (fun j => decide (f 10 (q j) = f 10 (q i'))) i'; omega))
    · obtain ⟨z1, z2, z3, z4⟩ := hq i (by omega)
      have e1 : (760 + nI i) = nI (760 + i) := by rw [L760, nI_add]
      rw [e1, nI_clamp (by omega), z2]
      refine ⟨vi _ (by omega), fun v ev => ?_⟩
      rw [ev]
      refine s_of (j := 5) (by omega) (by decide) ?_
      rw [z3]
      have nx : ∀ n', ct (fun j => decide (f 10 (q j) = x1)) (i + 1) = n' → ¬ (f 10 (q i) = x1 ∧ f 11 (q i) = x2) → V_X10_piled_5 x1 x2 A post k (nI n') (nI (i + 1)) := fun n' e z => by
        rw [← e]
        refine ih (i + 1) (by omega) (by omega) (fun i' hi' => ?_)
        rcases Nat.lt_or_ge i' i with g | g
        · exact h3 i' g
        · rw [show i' = i by omega]; exact z
      refine ⟨fun y => ?_, fun y v4 e4 => ?_⟩
      · have e5 : f 11 (q i) = nI (ct (fun j => decide (f 10 (q j) = x1)) i) := by rw [z4, y]
        refine ⟨fun y2 => hf i (by omega) y (e5.trans y2), fun y2 v3 e3 v4 e4 => ?_⟩
        rw [e3, e4, nI_1, nI_1]
        exact nx _ (by rw [ct, if_pos (by simpa using y)]) (fun g => y2 (e5.symm.trans g.2))
      · rw [e4, nI_1]
        exact nx _ (by rw [ct, if_neg (by simpa using y)]; rfl) (fun g => y g.1)
theorem ct_mono (p : Nat → Bool) {m n : Nat} (h : m ≤ n) : ct p m ≤ ct p n := by
  induction n with
  | zero => rw [show m = 0 by omega]; exact Nat.le_refl _
  | succ n ih =>
    rcases Nat.lt_or_ge m (n + 1) with g | g
    · have := ih (by omega); rw [ct]; omega
    · rw [show m = n + 1 by omega]; exact Nat.le_refl _
/-- one place of one pile has one block -/
theorem Tk.one {f : Nat → Nat → Int32} {A : Nat → Int32} {B T : Nat} {q : Nat → Nat} (hB : B ≤ 64) (hT : T ≤ B) (H : Tk f A B T q) {i j : Nat} (hi : i < T) (hj : j < T) (h1 : f 10 (q i) = f 10 (q j)) (h2 : f 11 (q i) = f 11 (q j)) : i = j := by
  have key : ∀ i j, i < j → j < T → f 10 (q i) = f 10 (q j) → ¬ f 11 (q i) = f 11 (q j) := fun i j hij hj h1 h2 => by
    have e1 := (H i (by omega)).2.2.2
    have e2 := (H j hj).2.2.2
    rw [h1] at e1
    rw [e1, e2] at h2
    have c1 := ct_le (fun k => decide (f 10 (q k) = f 10 (q j))) i
    have c2 := ct_le (fun k => decide (f 10 (q k) = f 10 (q j))) j
    rw [nI_eq (by omega) (by omega)] at h2
    have c3 := ct_mono (fun k => decide (f 10 (q k) = f 10 (q j))) (show i + 1 ≤ j by omega)
    rw [ct, if_pos (by simpa using h1)] at c3
    omega
  rcases Nat.lt_trichotomy i j with g | g | g
  · exact absurd h2 (key i j g hj h1)
  · exact g
  · exact absurd h2.symm (key j i g hi h1.symm)
theorem core_14 (i : Nat → Int32) (f : Nat → Nat → Int32) (sl : Int32) (cost wtt ubr lbr prs : Nat → Int32) (g : Nat → Option Nat) (all has mfew msawn mcut mtodo mpress mgone : Nat → Int32) (y1 : Int32) (y2 : Int32) (NX : Prop) (h : Rel i f all) (hN : NX) : P_X9_piled y1 y2 (i 5) (i 8) (f 10) (f 11) (fun r => P_X10_piled y1 y2 all (fun r' => r = r' ∧ NX)) := by
  obtain ⟨lim, sw, dy, w, h', B, T, pn, O, wt, mo, hh, l, lo, c, r, tn, bA, q, h1, h2, h3, h4, h5, h6⟩ := h
  obtain ⟨b1, b2, b3, b4⟩ := id h4.1
  obtain ⟨t1, t2, t3, t4, t5, t6⟩ := id h5.1
  have hD : ∀ a, a < B → all (170 + 8 * a + 4) = f 9 a ∧ Dy (f 9 a) := fun a ha => ⟨(h5.2.1 a ha).1, h5.dy ha⟩
  have hTk : ∀ P : Int32 → Prop, P (nI T) → P_X10_taken all P := fun P hP => s_takenM b3 b2 hD (by rw [← t6]; exact hP)
  have tk := h5.tk
  have st : ∀ P : Int32 → Prop, (∀ i, i < T → f 10 (q i) = y1 → f 11 (q i) = y2 → P (nI (q i))) → ((∀ i, i < T → ¬ (f 10 (q i) = y1 ∧ f 11 (q i) = y2)) → P (-1)) → P_X10_piled y1 y2 all P := fun P hf hn => ⟨T + 1, v_piledM b3 t4 hTk tk hf hn (T + 1) 0 (by omega) (by omega) (fun i' hi' => by omega)⟩
  unfold P_X9_piled
  rw [b1, t2]
  refine s_within (bsp (fun hc => st _ (fun i hi e1 e2 => ?_) (fun _ => ⟨rfl, hN⟩)) (fun hc => ⟨B + 1, v_blockIn b3 (fun b hb e1 e2 => ?_) (fun hno => ?_) (B + 1) 0 (by omega) (by omega) (fun b' hb' => by omega)⟩))
  · exfalso
    obtain ⟨z1, z2, z3, z4⟩ := h5.2.2.1 i hi
    rcases (h5.2.1 _ z1).2.2 with g | ⟨d, p, d1, d2, d3, d4⟩
    · exact z3 g.1
    · rw [← e1, d4] at hc
      exact hc (idx_in (by omega) d2)
  · have hbt : ¬ f 9 b = -1 := fun g => by
      rcases (h5.2.1 b hb).2.2 with g2 | ⟨d, p, d1, d2, d3, d4⟩
      · rw [e1] at g2
        obtain ⟨p, hp, e⟩ := idx (by omega) hc
        rw [e] at g2
        exact ne_mOne (by omega) g2.2
      · rw [d3] at g; exact ne_mOne (by omega) g
    obtain ⟨j, hj, ej⟩ := h5.2.2.2.2.1 b hb hbt
    refine st _ (fun i hi g1 g2 => ⟨?_, hN⟩) (fun hno => absurd ⟨by rw [ej]; exact e1, by rw [ej]; exact e2⟩ (hno j hj))
    have := tk.one b3 t4 hi hj (by rw [ej, g1, e1]) (by rw [ej, g2, e2])
    rw [this, ej]
  · exact st _ (fun i hi g1 g2 => absurd ⟨g1, g2⟩ (hno _ (tk i hi).1)) (fun _ => ⟨rfl, hN⟩)
