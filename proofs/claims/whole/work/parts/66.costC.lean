/-! the class: weights up to a corner, bars, and what each part costs -/
theorem rowS_add (wt : Nat → Nat) (x y : Nat) : ∀ n, rowS wt 0 y (x + n) = rowS wt 0 y x + rowS wt x y n := by
  intro n
  induction n with
  | zero => rfl
  | succ n ih => rw [← Nat.add_assoc, rowS, rowS, ih, Nat.zero_add, Nat.add_assoc]
theorem recS_add (wt : Nat → Nat) (x w y : Nat) : ∀ n, recS wt 0 (x + w) 0 (y + n) + recS wt 0 x 0 y = recS wt 0 x 0 (y + n) + recS wt 0 (x + w) 0 y + recS wt x w y n := by
  intro n
  induction n with
  | zero => simp only [Nat.add_zero, recS]; omega
  | succ n ih =>
    rw [← Nat.add_assoc, recS, recS, recS, Nat.zero_add]
    have := rowS_add wt x (y + n) w
    omega
theorem recS_mono (wt : Nat → Nat) (x w : Nat) : ∀ n, recS wt 0 x 0 n ≤ recS wt 0 (x + w) 0 n := by
  intro n
  induction n with
  | zero => exact Nat.le_refl _
  | succ n ih =>
    rw [recS, recS]
    have := rowS_add wt x (0 + n) w
    omega
theorem recS_z (wt : Nat → Nat) : ∀ n, recS wt 0 0 0 n = 0 := by
  intro n
  induction n with
  | zero => rfl
  | succ n ih => rw [recS, ih]; rfl
def WT (wt : Nat → Nat) (W y x : Nat) (F : Nat → Int32) : Prop := SW F ∧ ∀ r c, r ≤ 8 → c ≤ W → (r ≤ y ∨ (r = y + 1 ∧ c ≤ x)) → F (9 * r + c) = nI (recS wt 0 c 0 r)
theorem s_corner {c r : Nat} {post : Int32 → Prop} (h : post (nI (9 * r + c))) : P_X4_corner (nI c) (nI r) post := by
  unfold P_X4_corner
  rw [L9, pk_mul, nI_add, Nat.mul_comm]
  exact h
theorem v_add15 {wt : Nat → Nat} {W y : Nat} {G : Nat → Int32} {K : Int32 → (Nat → Int32) → Prop} (hW : W ≤ 8) (hy : y < 8) (hw : ∀ k, k < 64 → G k = nI (wt k)) (hK : ∀ F : Nat → Int32, WT wt W y W F → K (nI (y + 1)) F) : ∀ n x F, W - x < n → x ≤ W → WT wt W y x F → V_X4_addUpWeights_15 (nI y) (nI W) G K n (nI (rowS wt 0 y x)) (nI x) F := by
  intro n
  induction n with
  | zero => intro x F h; omega
  | succ n ih =>
    intro x F h1 h2 hF
    rw [V_X4_addUpWeights_15_s, nI_leI (by omega) (by omega)]
    refine ⟨fun q v e => ?_, fun q => s_place ?_⟩
    · rw [e, nI_1]
      rw [show x = W by omega] at hF
      exact hK F hF
    · have e1 : nI y * 8 + nI x = nI (8 * y + x) := by rw [L8, pk_mul, nI_add, Nat.mul_comm]
      rw [e1, nI_clamp (by omega), hw _ (by omega)]
      refine ⟨vi _ (by omega), fun v3 e3 => ?_⟩
      rw [nI_1, nI_1]
      refine s_corner (s_corner ?_)
      rw [nI_clamp (by omega), nI_clamp (by omega)]
      refine ⟨vi _ (by omega), vi _ (by omega), fun F' eF v4 ev => ?_⟩
      rw [ev, e3, nI_add]
      have e6 : rowS wt 0 y x + wt (8 * y + x) = rowS wt 0 y (x + 1) := by rw [rowS, Nat.zero_add]
      rw [e3, nI_add, e6, hF.2 y (x + 1) (by omega) (by omega) (by omega), nI_add] at eF
      rw [e6]
      refine ih (x + 1) F' (by omega) (by omega) ⟨fun r c a b z => ?_, fun r c r8 a z => ?_⟩
      · rw [eF, upd_ne (by omega)]; exact hF.1 r c a b z
      · by_cases hne : r = y + 1 ∧ c = x + 1
        · rw [hne.1, hne.2, eF, upd_eq]
          congr 1
          rw [recS, Nat.zero_add]
        · rw [eF, upd_ne (by omega)]
          exact hF.2 r c r8 a (by omega)
theorem v_add2 {wt : Nat → Nat} {W H : Nat} {G : Nat → Int32} {post : (Nat → Int32) → Prop} (hW : W ≤ 8) (hH : H ≤ 8) (hw : ∀ k, k < 64 → G k = nI (wt k)) (hK : ∀ F : Nat → Int32, WT wt W H 0 F → post F) : ∀ n y F, H - y < n → y ≤ H → WT wt W y 0 F → V_X4_addUpWeights_2 (nI W) (nI H) G post n (nI y) F := by
  intro n
  induction n with
  | zero => intro x F h; omega
  | succ n ih =>
    intro y F h1 h2 hF
    rw [V_X4_addUpWeights_2_s, nI_leI (by omega) (by omega)]
    refine ⟨fun q => hK F (by rw [show H = y by omega]; exact hF), fun q => ⟨W + 1, v_add15 hW (by omega) hw (fun F' hF' => ih (y + 1) F' (by omega) (by omega) ⟨hF'.1, fun r c r8 a z => ?_⟩) (W + 1) 0 F (by omega) (by omega) hF⟩⟩
    rcases z with z | ⟨z1, z2⟩
    · exact hF'.2 r c r8 a (by omega)
    · rw [show c = 0 by omega, recS_z]
      exact hF'.1 r 0 r8 (by omega) (Or.inr rfl)
theorem s_addUp {wt : Nat → Nat} {W H : Nat} {G F : Nat → Int32} {post : (Nat → Int32) → Prop} (hW : W ≤ 8) (hH : H ≤ 8) (hw : ∀ k, k < 64 → G k = nI (wt k)) (hF : SW F) (hK : ∀ F : Nat → Int32, SW F → (∀ r c, c ≤ W → r ≤ H → F (9 * r + c) = nI (recS wt 0 c 0 r)) → post F) : P_X4_addUpWeights F (nI W) (nI H) G post := by
  refine ⟨H + 1, v_add2 hW hH hw (fun F hF => hK F hF.1 (fun r c a b => hF.2 r c (by omega) a (Or.inl b))) (H + 1) 0 F (by omega) (by omega) ⟨hF, fun r c r8 a z => ?_⟩⟩
  rcases z with z | ⟨z1, z2⟩
  · rw [show r = 0 by omega]; exact hF 0 c (by omega) (by omega) (Or.inl rfl)
  · rw [z1, show c = 0 by omega, recS_z]; exact hF 1 0 (by omega) (by omega) (Or.inr rfl)
theorem s_weightP {wt : Nat → Nat} {W H x y w h : Nat} {F : Nat → Int32} {post : Int32 → Prop} (hW : W ≤ 8) (hH : H ≤ 8) (h1 : 1 ≤ w) (h2 : 1 ≤ h) (hx : x + w ≤ W) (hy : y + h ≤ H) (hF : ∀ r c, c ≤ W → r ≤ H → F (9 * r + c) = nI (recS wt 0 c 0 r)) (hp : post (nI (recS wt x w y h))) : P_X4_weightOfPart (nI x) (nI (x + w - 1)) (nI y) (nI (y + h - 1)) F post := by
  unfold P_X4_weightOfPart P_X4_corner
  have e1 : nI (x + w - 1) + 1 = nI (x + w) := by rw [nI_1]; congr 1; omega
  have e2 : nI (y + h - 1) + 1 = nI (y + h) := by rw [nI_1]; congr 1; omega
  simp only [e1, e2, L9, pk_mul, nI_add]
  rw [Nat.mul_comm (y + h) 9, Nat.mul_comm y 9, nI_clamp (by omega), nI_clamp (by omega), nI_clamp (by omega), nI_clamp (by omega), hF _ _ (by omega) (by omega), hF _ _ (by omega) (by omega), hF _ _ (by omega) (by omega), hF _ _ (by omega) (by omega)]
  refine ⟨vi _ (by omega), vi _ (by omega), vi _ (by omega), vi _ (by omega), ?_⟩
  have a := recS_add wt x w y h
  have b := recS_mono wt x w (y + h)
  rw [pk_sub b]
  have e : ∀ p c d : Nat, c ≤ p + d → nI p - nI c + nI d = nI (p + d - c) := fun p c d g => by
    rw [Int32.sub_eq_add_neg, Int32.add_assoc, Int32.add_comm (-nI c) (nI d), ← Int32.add_assoc, ← Int32.sub_eq_add_neg, nI_add, pk_sub g]
  rw [e _ _ _ (by omega)]
  rw [show recS wt 0 (x + w) 0 (y + h) - recS wt 0 x 0 (y + h) + recS wt 0 x 0 y - recS wt 0 (x + w) 0 y = recS wt x w y h by omega]
  exact hp
/-! bars -/
theorem b_one : ∀ y, y < 8 → ∀ r, r < 8 → bt (1 <<< (nI y &&& 31)) r = decide (r = y) := by decide +kernel
theorem b_msk : ∀ h, h < 9 → ∀ i, i < 32 → bt ((1 <<< (nI h &&& 31)) - 1) i = decide (i < h) := by decide +kernel
theorem s_isBarred {b : Int32} {y h : Nat} {post : Int32 → Prop} (h1 : 1 ≤ h) (hy : y + h ≤ 8) (hp : post (bI (∃ j, j < h ∧ bt b (y + j) = true))) : P_X4_isBarred b (nI y) (nI (y + h - 1)) post := by
  unfold P_X4_isBarred
  have e : nI (y + h - 1) - nI y + 1 = nI h := by rw [pk_sub (by omega), nI_1]; congr 1; omega
  rw [e]
  have hz : ((b >>> (nI y &&& 31)) &&& ((1 <<< (nI h &&& 31)) - 1)) = 0 ↔ ¬ ∃ j, j < h ∧ bt b (y + j) = true := by
    constructor
    · rintro q ⟨j, hj, g⟩
      have := congrArg (fun z => bt z j) q
      simp only [b_and, b_0, b_sshr y (by omega) b (show j < 32 by omega), b_msk h (by omega) j (by omega)] at this
      rw [if_pos (by omega), g, decide_eq_true hj] at this
      exact absurd this (by decide)
    · intro q
      refine b_ext (fun i hi => ?_)
      rw [b_and, b_0, b_sshr y (by omega) b hi, b_msk h (by omega) i hi]
      by_cases hj : i < h
      · rw [if_pos (by omega), decide_eq_true hj, Bool.and_true]
        cases hb : bt b (y + i) with
        | false => rfl
        | true => exact absurd ⟨i, hj, hb⟩ q
      · rw [decide_eq_false hj, Bool.and_false]
  refine ⟨fun q => ?_, fun q => ?_⟩
  · rwa [bI_f (hz.mp q)] at hp
  · rwa [bI_t (Classical.not_not.mp (mt hz.mpr q))] at hp
theorem s_oneCarv {G : Nat → Int32} {mo : Nat → Nat} {p q : Nat} {post : Int32 → Prop} (hm : ∀ k, k < 64 → G k = nI (mo k) ∧ mo k ≤ 9) (hp : p < 64) (hq : q < 64) (h : post (bI (br mo p q))) : P_X7_isOneCarving (nI p) (nI q) G post := by
  have m1 := hm p hp
  have m2 := hm q hq
  unfold P_X7_isOneCarving
  rw [nI_clamp (by omega), nI_clamp (by omega), m1.1, m2.1, L0, nI_eq (by omega) (by omega), nI_eq (by omega) (by omega)]
  refine ⟨vi _ (by omega), fun g => ?_, fun g => ⟨vi _ (by omega), vi _ (by omega), fun g2 => ?_, fun g2 => ?_⟩⟩
  · rw [bI_f (by unfold br; omega)] at h; exact h
  · rw [bI_t (show br mo p q from ⟨by omega, g2⟩)] at h; exact h
  · rw [bI_f (fun z : br mo p q => g2 z.2)] at h; exact h
/-- the bars of what has been seen -/
def UB (mo : Nat → Nat) (W y x : Nat) (U : Nat → Int32) : Prop := ∀ c r, c < 8 → r < 8 → (bt (U c) r = true ↔ (r < y ∨ (r = y ∧ c < x)) ∧ c + 1 < W ∧ br mo (8 * r + c) (8 * r + (c + 1)))
def LB (mo : Nat → Nat) (W H y x : Nat) (U : Nat → Int32) : Prop := ∀ c r, c < W → r < 8 → (bt (U r) c = true ↔ (r < y ∨ (r = y ∧ c < x)) ∧ r + 1 < H ∧ br mo (8 * r + c) (8 * (r + 1) + c))
theorem has_iff {x y W H : Nat} (hW : 1 ≤ W ∧ W ≤ 8) (hH : 1 ≤ H ∧ H ≤ 8) (hx : x ≤ 8) (hy : y ≤ 8) : ((0 ≤ nI x ∧ nI x ≤ nI W - 1) ∧ (0 ≤ nI y ∧ nI y ≤ nI H - 1)) ↔ x < W ∧ y < H := by
  rw [L1, pk_sub hW.1, pk_sub hH.1, nI_leI (by omega) (by omega), nI_leI (by omega) (by omega)]
  have a := nI_pos' (show x < 2 ^ 31 by omega)
  have b := nI_pos' (show y < 2 ^ 31 by omega)
  constructor
  · rintro ⟨⟨_, h1⟩, _, h2⟩; omega
  · intro h; exact ⟨⟨a, by omega⟩, b, by omega⟩
theorem UB.skip {mo : Nat → Nat} {W y x : Nat} {U : Nat → Int32} (h : UB mo W y x U) (hn : ¬ (x + 1 < W ∧ br mo (8 * y + x) (8 * y + (x + 1)))) : UB mo W y (x + 1) U := by
  intro c r hc hr
  rw [h c r hc hr]
  constructor
  · rintro ⟨a, b, d⟩; exact ⟨by omega, b, d⟩
  · rintro ⟨a, b, d⟩
    refine ⟨?_, b, d⟩
    by_cases e : r = y ∧ c = x
    · obtain ⟨rfl, rfl⟩ := e; exact absurd ⟨b, d⟩ hn
    · omega
theorem UB.put {mo : Nat → Nat} {W y x : Nat} {U U' : Nat → Int32} (h : UB mo W y x U) (hy : y < 8) (hx : x < 8) (hn : x + 1 < W ∧ br mo (8 * y + x) (8 * y + (x + 1))) (e : U' = upd U x (U x ||| (1 <<< (nI y &&& 31)))) : UB mo W y (x + 1) U' := by
  intro c r hc hr
  have old := h c r hc hr
  by_cases hcx : c = x
  · subst hcx
    rw [e, upd_eq, b_or, b_one y hy r hr, Bool.or_eq_true, decide_eq_true_iff, old]
    constructor
    · rintro (⟨a, b, d⟩ | rfl)
      · exact ⟨by omega, b, d⟩
      · exact ⟨by omega, hn⟩
    · rintro ⟨a, b, d⟩
      by_cases q : r = y
      · exact Or.inr q
      · exact Or.inl ⟨by omega, b, d⟩
  · rw [e, upd_ne hcx, old]
    constructor
    · rintro ⟨a, b, d⟩; exact ⟨by omega, b, d⟩
    · rintro ⟨a, b, d⟩; exact ⟨by omega, b, d⟩
theorem LB.skip {mo : Nat → Nat} {W H y x : Nat} {U : Nat → Int32} (h : LB mo W H y x U) (hn : ¬ (y + 1 < H ∧ br mo (8 * y + x) (8 * (y + 1) + x))) : LB mo W H y (x + 1) U := by
  intro c r hc hr
  rw [h c r hc hr]
  constructor
  · rintro ⟨a, b, d⟩; exact ⟨by omega, b, d⟩
  · rintro ⟨a, b, d⟩
    refine ⟨?_, b, d⟩
    by_cases e : r = y ∧ c = x
    · obtain ⟨rfl, rfl⟩ := e; exact absurd ⟨b, d⟩ hn
    · omega
theorem LB.put {mo : Nat → Nat} {W H y x : Nat} {U U' : Nat → Int32} (hW : W ≤ 8) (h : LB mo W H y x U) (hy : y < 8) (hx : x < 8) (hn : y + 1 < H ∧ br mo (8 * y + x) (8 * (y + 1) + x)) (e : U' = upd U y (U y ||| (1 <<< (nI x &&& 31)))) : LB mo W H y (x + 1) U' := by
  intro c r hc hr
  have old := h c r hc hr
  by_cases hcx : r = y
  · subst hcx
    rw [e, upd_eq, b_or, b_one x hx c (by omega), Bool.or_eq_true, decide_eq_true_iff, old]
    constructor
    · rintro (⟨a, b, d⟩ | rfl)
      · exact ⟨by omega, b, d⟩
      · exact ⟨by omega, hn⟩
    · rintro ⟨a, b, d⟩
      by_cases q : c = x
      · exact Or.inr q
      · exact Or.inl ⟨by omega, b, d⟩
  · rw [e, upd_ne hcx, old]
    constructor
    · rintro ⟨a, b, d⟩; exact ⟨by omega, b, d⟩
    · rintro ⟨a, b, d⟩; exact ⟨by omega, b, d⟩
theorem s_bars46 {mo : Nat → Nat} {W H x y : Nat} {G U L : Nat → Int32} {post : (Nat → Int32) → (Nat → Int32) → Prop} (hW : 1 ≤ W ∧ W ≤ 8) (hH : 1 ≤ H ∧ H ≤ 8) (hx : x < W) (hy : y < H) (hm : ∀ k, k < 64 → G k = nI (mo k) ∧ mo k ≤ 9) (hL : LB mo W H y x L) (hp : ∀ L' : Nat → Int32, LB mo W H y (x + 1) L' → post U L') : J_X4_findBarsOf_46 (nI x) (nI y) (nI W) (nI H) G post (nI (8 * y + x)) U L := by
  unfold J_X4_findBarsOf_46
  rw [nI_1]
  refine s_hasW ?_
  rw [bI_congr (has_iff hW hH (show x ≤ 8 by omega) (show y + 1 ≤ 8 by omega))]
  refine bsp (fun z => hp L (hL.skip (by omega))) (fun z => s_place ?_)
  have e1 : nI (y + 1) * 8 + nI x = nI (8 * (y + 1) + x) := by rw [L8, pk_mul, nI_add, Nat.mul_comm]
  rw [e1, nI_clamp (by omega)]
  refine s_oneCarv hm (by omega) (by omega) (bsp (fun z2 => hp L (hL.skip (fun g => z2 g.2))) (fun z2 => ⟨vi _ (by omega), vi _ (by omega), fun L' e => hp L' (hL.put hW.2 (by omega) (by omega) ⟨z.2, z2⟩ e)⟩))
theorem s_barsOf {mo : Nat → Nat} {W H x y : Nat} {G U L : Nat → Int32} {post : (Nat → Int32) → (Nat → Int32) → Prop} (hW : 1 ≤ W ∧ W ≤ 8) (hH : 1 ≤ H ∧ H ≤ 8) (hx : x < W) (hy : y < H) (hm : ∀ k, k < 64 → G k = nI (mo k) ∧ mo k ≤ 9) (hU : UB mo W y x U) (hL : LB mo W H y x L) (hp : ∀ U' L' : Nat → Int32, UB mo W y (x + 1) U' → LB mo W H y (x + 1) L' → post U' L') : P_X4_findBarsOf (nI x) (nI y) U L (nI W) (nI H) G post := by
  unfold P_X4_findBarsOf
  refine s_place ?_
  have e0 : nI y * 8 + nI x = nI (8 * y + x) := by rw [L8, pk_mul, nI_add, Nat.mul_comm]
  rw [e0, nI_1]
  refine s_hasW ?_
  rw [bI_congr (has_iff hW hH (show x + 1 ≤ 8 by omega) (show y ≤ 8 by omega))]
  refine bsp (fun z => s_bars46 hW hH hx hy hm hL (fun L' hL' => hp U L' (hU.skip (by omega)) hL')) (fun z => s_place ?_)
  have e1 : nI y * 8 + nI (x + 1) = nI (8 * y + (x + 1)) := by rw [L8, pk_mul, nI_add, Nat.mul_comm]
  rw [e1, nI_clamp (by omega)]
  refine s_oneCarv hm (by omega) (by omega) (bsp (fun z2 => s_bars46 hW hH hx hy hm hL (fun L' hL' => hp U L' (hU.skip (fun g => z2 g.2)) hL')) (fun z2 => ⟨vi _ (by omega), vi _ (by omega), fun U' e => s_bars46 hW hH hx hy hm hL (fun L' hL' => hp U' L' (hU.put (by omega) (by omega) ⟨z.1, z2⟩ e) hL')⟩))
theorem v_bars28 {mo : Nat → Nat} {W H y : Nat} {G : Nat → Int32} {K : Int32 → (Nat → Int32) → (Nat → Int32) → Prop} (hW : 1 ≤ W ∧ W ≤ 8) (hH : 1 ≤ H ∧ H ≤ 8) (hy : y < H) (hm : ∀ k, k < 64 → G k = nI (mo k) ∧ mo k ≤ 9) (hK : ∀ U L : Nat → Int32, UB mo W (y + 1) 0 U → LB mo W H (y + 1) 0 L → K (nI (y + 1)) U L) : ∀ n x U L, W - x < n → x ≤ W → UB mo W y x U → LB mo W H y x L → V_X4_findBars_28 (nI y) (nI W) (nI H) G K n (nI x) U L := by
  intro n
  induction n with
  | zero => intro x U L h; omega
  | succ n ih =>
    intro x U L h1 h2 hU hL
    rw [V_X4_findBars_28_s, nI_leI (by omega) (by omega)]
    refine ⟨fun q v e => ?_, fun q => s_barsOf hW hH (by omega) hy hm hU hL (fun U' L' hU' hL' v e => ?_)⟩
    · rw [e, nI_1]
      have hxW : x = W := by omega
      refine hK U L (fun c r hc hr => ?_) (fun c r hc hr => ?_)
      · rw [hU c r hc hr]
        constructor
        · rintro ⟨a, b⟩; exact ⟨by omega, b⟩
        · rintro ⟨a, b⟩; exact ⟨by omega, b⟩
      · rw [hL c r hc hr]
        constructor
        · rintro ⟨a, b⟩; exact ⟨by omega, b⟩
        · rintro ⟨a, b⟩; exact ⟨by omega, b⟩
    · rw [e, nI_1]
      exact ih (x + 1) U' L' (by omega) (by omega) hU' hL'
theorem v_bars18 {mo : Nat → Nat} {W H : Nat} {G : Nat → Int32} {post : (Nat → Int32) → (Nat → Int32) → Prop} (hW : 1 ≤ W ∧ W ≤ 8) (hH : 1 ≤ H ∧ H ≤ 8) (hm : ∀ k, k < 64 → G k = nI (mo k) ∧ mo k ≤ 9) (hK : ∀ U L : Nat → Int32, UB mo W H 0 U → LB mo W H H 0 L → post U L) : ∀ n y U L, H - y < n → y ≤ H → UB mo W y 0 U → LB mo W H y 0 L → V_X4_findBars_18 (nI W) (nI H) G post n (nI y) U L := by
  intro n
  induction n with
  | zero => intro x U L h; omega
  | succ n ih =>
    intro y U L h1 h2 hU hL
    rw [V_X4_findBars_18_s, nI_leI (by omega) (by omega)]
    refine ⟨fun q => hK U L ?_ ?_, fun q => ⟨W + 1, v_bars28 hW hH (by omega) hm (fun U' L' hU' hL' => ih (y + 1) U' L' (by omega) (by omega) hU' hL') (W + 1) 0 U L (by omega) (by omega) hU hL⟩⟩
    · rwa [show y = H by omega] at hU
    · rwa [show y = H by omega] at hL
theorem s_bars {mo : Nat → Nat} {W H : Nat} {G U L : Nat → Int32} {post : (Nat → Int32) → (Nat → Int32) → Prop} (hW : 1 ≤ W ∧ W ≤ 8) (hH : 1 ≤ H ∧ H ≤ 8) (hm : ∀ k, k < 64 → G k = nI (mo k) ∧ mo k ≤ 9) (hK : ∀ U L : Nat → Int32, UB mo W H 0 U → LB mo W H H 0 L → post U L) : P_X4_findBars U L (nI W) (nI H) G post := by
  refine s_fill (by decide) (fun U eU => s_fill (by decide) (fun L eL => ⟨H + 1, v_bars18 hW hH hm hK (H + 1) 0 U L (by omega) (by omega) (fun c r hc hr => ?_) (fun c r hc hr => ?_)⟩))
  · rw [eU c hc, b_0]
    exact ⟨fun g => absurd g (by decide), fun g => by omega⟩
  · rw [eL r hr, b_0]
    exact ⟨fun g => absurd g (by decide), fun g => by omega⟩
/-! costs -/
def sp (a b : Nat) : Nat := b * (b + 1) / 2 + a
theorem sp_lt : ∀ b, b < 8 → ∀ a, a ≤ b → sp a b < 36 := by decide +kernel
theorem sp_mono : ∀ b, b < 8 → ∀ a, a ≤ b → ∀ b', b' < 8 → b < b' → sp a b < sp 0 b' := by decide +kernel
theorem sp_0 (a b : Nat) : sp a b = sp 0 b + a := rfl
theorem sp_inj (b : Nat) (hb : b < 8) (a : Nat) (ha : a ≤ b) (b' : Nat) (hb' : b' < 8) (a' : Nat) (ha' : a' ≤ b') (e : sp a b = sp a' b') : a = a' ∧ b = b' := by
  rcases Nat.lt_trichotomy b b' with q | q | q
  · have := sp_mono b hb a ha b' hb' q
    have := sp_0 a' b'
    omega
  · subst q
    have := sp_0 a b
    have := sp_0 a' b
    omega
  · have := sp_mono b' hb' a' ha' b hb q
    have := sp_0 a b
    omega
def pC (l r lo hi : Nat) : Nat := sp l r * 36 + sp lo hi
theorem pC_lt {l r lo hi : Nat} (h1 : l ≤ r) (h2 : r < 8) (h3 : lo ≤ hi) (h4 : hi < 8) : pC l r lo hi < 1296 := by
  have := sp_lt r h2 l h1
  have := sp_lt hi h4 lo h3
  unfold pC; omega
theorem pC_inj {l r lo hi l' r' lo' hi' : Nat} (h1 : l ≤ r) (h2 : r < 8) (h3 : lo ≤ hi) (h4 : hi < 8) (h1' : l' ≤ r') (h2' : r' < 8) (h3' : lo' ≤ hi') (h4' : hi' < 8) (e : pC l r lo hi = pC l' r' lo' hi') : l = l' ∧ r = r' ∧ lo = lo' ∧ hi = hi' := by
  have a1 := sp_lt hi h4 lo h3
  have a2 := sp_lt hi' h4' lo' h3'
  unfold pC at e
  have e1 : sp l r = sp l' r' ∧ sp lo hi = sp lo' hi' := by omega
  obtain ⟨b1, b2⟩ := sp_inj r h2 l h1 r' h2' l' h1' e1.1
  obtain ⟨b3, b4⟩ := sp_inj hi h4 lo h3 hi' h4' lo' h3' e1.2
  exact ⟨b1, b2, b3, b4⟩
theorem s_partC {l r lo hi : Nat} {post : Int32 → Prop} (h2 : r < 8) (h4 : hi < 8) (hp : post (nI (pC l r lo hi))) : P_X4_part (nI l) (nI r) (nI lo) (nI hi) post := by
  unfold P_X4_part P_X4_span
  have a1 : r * (r + 1) ≤ 8 * 9 := Nat.mul_le_mul (by omega) (by omega)
  have a2 : hi * (hi + 1) ≤ 8 * 9 := Nat.mul_le_mul (by omega) (by omega)
  have e : ((nI r * (nI r + 1)) / 2 + nI l) * 36 + ((nI hi * (nI hi + 1)) / 2 + nI lo) = nI (pC l r lo hi) := by
    rw [nI_1, nI_1, pk_mul, pk_mul, L2, pk_div (by omega) (by decide) (by decide), pk_div (by omega) (by decide) (by decide), nI_add, nI_add, L36, pk_mul, nI_add]; rfl
  show post _
  rw [e]; exact hp
/-- the costs of the parts that a cut of this part makes -/
def SC (C : Nat → Nat → Nat → Nat → Nat) (F : Nat → Int32) (x y w h : Nat) : Prop := (∀ k, k + 1 < w → F (pC x (x + k) y (y + h - 1)) = nI (C x y (k + 1) h) ∧ F (pC (x + (k + 1)) (x + w - 1) y (y + h - 1)) = nI (C (x + (k + 1)) y (w - (k + 1)) h)) ∧ (∀ k, k + 1 < h → F (pC x (x + w - 1) y (y + k)) = nI (C x y w (k + 1)) ∧ F (pC x (x + w - 1) (y + (k + 1)) (y + h - 1)) = nI (C x (y + (k + 1)) w (h - (k + 1))))
theorem s_upC {wt mo : Nat → Nat} {lim W H x y w h k : Nat} {C : Nat → Nat → Nat → Nat → Nat} {F U : Nat → Int32} {post : Int32 → Prop} (hC : Cst wt mo lim C) (hW : W ≤ 8) (hH : H ≤ 8) (h1 : 1 ≤ w) (h2 : 1 ≤ h) (hx : x + w ≤ W) (hy : y + h ≤ H) (hk : k + 1 < w) (hU : UB mo W H 0 U) (hF : SC C F x y w h) (hp : post (nI (uc mo C x y w h k))) : P_X4_uprightCost (nI x) (nI (x + w - 1)) (nI y) (nI (y + h - 1)) (nI (x + k)) F U post := by
  obtain ⟨f1, f2⟩ := hF.1 k hk
  unfold P_X4_uprightCost
  have hb : (∃ j, j < h ∧ bt (U (x + k)) (y + j) = true) ↔ ¬ upOK mo x y h k := by
    unfold upOK
    constructor
    · rintro ⟨j, hj, g⟩ q
      exact q j hj ((hU (x + k) (y + j) (by omega) (by omega)).mp g).2.2
    · intro q
      obtain ⟨j, g⟩ := Classical.not_forall.mp q
      obtain ⟨hj, g⟩ := Classical.not_imp.mp g
      exact ⟨j, hj, (hU (x + k) (y + j) (by omega) (by omega)).mpr ⟨by omega, by omega, Classical.not_not.mp g⟩⟩
  rw [nI_clamp (by omega), nI_1]
  refine ⟨vi _ (by omega), s_isBarred h2 (by omega) ?_⟩
  rw [bI_congr hb]
  refine bsp (fun z => s_partC (by omega) (by omega) ⟨vi _ (pC_lt (by omega) (by omega) (by omega) (by omega)), s_partC (by omega) (by omega) ⟨vi _ (pC_lt (by omega) (by omega) (by omega) (by omega)), ?_⟩⟩) (fun z => ?_)
  · have c1 := Cst_le hC (x := x) (y := y) (w := k + 1) (h := h) (by omega) h2
    have c2 := Cst_le hC (x := x + (k + 1)) (y := y) (w := w - (k + 1)) (h := h) (by omega) h2
    have i1 := pC_lt (l := x) (r := x + k) (lo := y) (hi := y + h - 1) (by omega) (by omega) (by omega) (by omega)
    have i2 := pC_lt (l := x + k + 1) (r := x + w - 1) (lo := y) (hi := y + h - 1) (by omega) (by omega) (by omega) (by omega)
    rw [nI_clamp (by omega), nI_clamp (by omega), f1, Nat.add_assoc x k 1, f2, nI_add, nI_add, pk_sub (by omega), nI_1]
    unfold uc at hp
    rw [pif_t (Classical.not_not.mp z)] at hp
    rw [show C x y (k + 1) h + C (x + (k + 1)) y (w - (k + 1)) h + (y + h - 1) - y + 1 = C x y (k + 1) h + C (x + (k + 1)) y (w - (k + 1)) h + h by omega]
    exact hp
  · unfold uc at hp
    rw [pif_f z] at hp
    exact hp
theorem s_lvC {wt mo : Nat → Nat} {lim W H x y w h k : Nat} {C : Nat → Nat → Nat → Nat → Nat} {F U : Nat → Int32} {post : Int32 → Prop} (hC : Cst wt mo lim C) (hW : W ≤ 8) (hH : H ≤ 8) (h1 : 1 ≤ w) (h2 : 1 ≤ h) (hx : x + w ≤ W) (hy : y + h ≤ H) (hk : k + 1 < h) (hU : LB mo W H H 0 U) (hF : SC C F x y w h) (hp : post (nI (lc mo C x y w h k))) : P_X4_levelCost (nI x) (nI (x + w - 1)) (nI y) (nI (y + h - 1)) (nI (y + k)) F U post := by
  obtain ⟨f1, f2⟩ := hF.2 k hk
  unfold P_X4_levelCost
  have hb : (∃ j, j < w ∧ bt (U (y + k)) (x + j) = true) ↔ ¬ lvOK mo x y w k := by
    unfold lvOK
    constructor
    · rintro ⟨j, hj, g⟩ q
      exact q j hj ((hU (x + j) (y + k) (by omega) (by omega)).mp g).2.2
    · intro q
      obtain ⟨j, g⟩ := Classical.not_forall.mp q
      obtain ⟨hj, g⟩ := Classical.not_imp.mp g
      exact ⟨j, hj, (hU (x + j) (y + k) (by omega) (by omega)).mpr ⟨by omega, by omega, Classical.not_not.mp g⟩⟩
  rw [nI_clamp (by omega), nI_1]
  refine ⟨vi _ (by omega), s_isBarred h1 (by omega) ?_⟩
  rw [bI_congr hb]
  refine bsp (fun z => s_partC (by omega) (by omega) ⟨vi _ (pC_lt (by omega) (by omega) (by omega) (by omega)), s_partC (by omega) (by omega) ⟨vi _ (pC_lt (by omega) (by omega) (by omega) (by omega)), ?_⟩⟩) (fun z => ?_)
  · have c1 := Cst_le hC (x := x) (y := y) (w := w) (h := k + 1) h1 (by omega)
    have c2 := Cst_le hC (x := x) (y := y + (k + 1)) (w := w) (h := h - (k + 1)) h1 (by omega)
    have i1 := pC_lt (l := x) (r := x + w - 1) (lo := y) (hi := y + k) (by omega) (by omega) (by omega) (by omega)
    have i2 := pC_lt (l := x) (r := x + w - 1) (lo := y + k + 1) (hi := y + h - 1) (by omega) (by omega) (by omega) (by omega)
    rw [nI_clamp (by omega), nI_clamp (by omega), f1, Nat.add_assoc y k 1, f2, nI_add, nI_add, pk_sub (by omega), nI_1]
    unfold lc at hp
    rw [pif_t (Classical.not_not.mp z)] at hp
    rw [show C x y w (k + 1) + C x (y + (k + 1)) w (h - (k + 1)) + (x + w - 1) - x + 1 = C x y w (k + 1) + C x (y + (k + 1)) w (h - (k + 1)) + w by omega]
    exact hp
  · unfold lc at hp
    rw [pif_f z] at hp
    exact hp
