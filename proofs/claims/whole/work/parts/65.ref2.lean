/-! the reference: all parts, small ones ahead of those made of them -/
theorem rowS_le {wt : Nat → Nat} (hw : ∀ k, k < 64 → wt k ≤ 50) {x y : Nat} (hy : y < 8) : ∀ n, x + n ≤ 8 → rowS wt x y n ≤ 50 * n := by
  intro n
  induction n with
  | zero => intro _; exact Nat.le_refl _
  | succ n ih =>
    intro h
    have := ih (by omega)
    have := hw (8 * y + (x + n)) (by omega)
    rw [rowS]; omega
theorem recS_le {wt : Nat → Nat} (hw : ∀ k, k < 64 → wt k ≤ 50) {x w y : Nat} (hx : x + w ≤ 8) : ∀ n, y + n ≤ 8 → recS wt x w y n ≤ 400 * n := by
  intro n
  induction n with
  | zero => intro _; exact Nat.le_refl _
  | succ n ih =>
    intro h
    have := ih (by omega)
    have := rowS_le hw (x := x) (y := y + n) (by omega) w hx
    rw [recS]; omega
def Dn (w h x y x' y' w' h' : Nat) : Prop := w' < w ∨ (w' = w ∧ (h' < h ∨ (h' = h ∧ (x' < x ∨ (x' = x ∧ y' < y)))))
def DI (wt mo : Nat → Nat) (lim : Nat) (C : Nat → Nat → Nat → Nat → Nat) (W H w h x y : Nat) (F S Q : Nat → Int32) : Prop := ∀ x' y' w' h', 1 ≤ w' → 1 ≤ h' → x' + w' ≤ W → y' + h' ≤ H → Dn w h x y x' y' w' h' → Sd wt mo lim C x' y' w' h' F S Q
/-- what the reference's wall is -/
def WM (wt mo : Nat → Nat) (lim W H : Nat) (A : Nat → Int32) : Prop := A 0 = nI W ∧ A 1 = nI H ∧ A 2 = nI lim ∧ (∀ k, k < 64 → A (100 + k) = nI (mo k) ∧ mo k ≤ 9) ∧ (∀ k, k < 64 → A (30 + k) = nI (wt k) ∧ wt k ≤ 50) ∧ lim ≤ 3200 ∧ 1 ≤ W ∧ W ≤ 8 ∧ 1 ≤ H ∧ H ≤ 8
theorem v_p41 {wt mo : Nat → Nat} {lim W H x w h : Nat} {C : Nat → Nat → Nat → Nat → Nat} {A : Nat → Int32} {K : Int32 → (Nat → Int32) → (Nat → Int32) → (Nat → Int32) → Prop} (hC : Cst wt mo lim C) (hA : WM wt mo lim W H A) (h1 : 1 ≤ w) (h2 : 1 ≤ h) (hx : x + w ≤ W) (hK : ∀ F S Q : Nat → Int32, DI wt mo lim C W H w h (x + 1) 0 F S Q → K (nI (x + 1)) F S Q) : ∀ n y F S Q, H + 1 - y < n → y + h ≤ H + 1 → DI wt mo lim C W H w h x y F S Q → V_X10_plan_41 (nI w) (nI h) (nI x) A K n (nI y) F S Q := by
  obtain ⟨a0, a1, a2, a3, a4, a5, a6, a7, a8, a9⟩ := hA
  intro n
  induction n with
  | zero => intro y F S Q h; omega
  | succ n ih =>
    intro y F S Q g1 g2 hD
    have a1' : A (1 : Int32).toNatClampNeg = nI H := a1
    rw [V_X10_plan_41_s, a1', nI_add, nI_ltI (by omega) (by omega)]
    refine ⟨vi 1 (by decide), fun q v e => ?_, fun q => ?_⟩
    · rw [e, nI_1]
      refine hK F S Q (fun x' y' w' h' b1 b2 b3 b4 b5 => hD x' y' w' h' b1 b2 b3 b4 ?_)
      unfold Dn at *
      omega
    · have hrs := recS_le (fun k hk => (a4 k hk).2) (x := x) (w := w) (y := y) (by omega) h (by omega)
      refine s_settles hC a3 a4 a2 a5 h1 h2 hx (by omega) a7 a9 (fun x' y' w' h' b1 b2 b3 b4 b5 b6 b7 => (hD x' y' w' h' b1 b2 b3 b4 (by unfold Dn; omega)).1) (by omega) (fun F' S' Q' o sd v e => ?_)
      rw [e, nI_1]
      refine ih (y + 1) F' S' Q' (by omega) (by omega) (fun x' y' w' h' b1 b2 b3 b4 b5 => ?_)
      by_cases hne : pM x' y' w' h' = pM x y w h
      · obtain ⟨rfl, rfl, rfl, rfl⟩ := pM_ne b1 b2 (by omega) (by omega) h1 h2 (by omega) (by omega) hne
        exact sd
      · have := hD x' y' w' h' b1 b2 b3 b4 (by
          have : ¬ (x' = x ∧ y' = y ∧ w' = w ∧ h' = h) := fun ⟨e1, e2, e3, e4⟩ => hne (by rw [e1, e2, e3, e4])
          unfold Dn at *; omega)
        unfold Sd at *
        obtain ⟨o1, o2, o3⟩ := o _ hne
        rw [o1, o2, o3]; exact this
theorem v_p26 {wt mo : Nat → Nat} {lim W H w h : Nat} {C : Nat → Nat → Nat → Nat → Nat} {A : Nat → Int32} {K : Int32 → (Nat → Int32) → (Nat → Int32) → (Nat → Int32) → Prop} (hC : Cst wt mo lim C) (hA : WM wt mo lim W H A) (h1 : 1 ≤ w) (h2 : 1 ≤ h) (hw : w ≤ W) (hh : h ≤ H) (hK : ∀ F S Q : Nat → Int32, DI wt mo lim C W H w (h + 1) 0 0 F S Q → K (nI (h + 1)) F S Q) : ∀ n x F S Q, W + 1 - x < n → x + w ≤ W + 1 → DI wt mo lim C W H w h x 0 F S Q → V_X10_plan_26 (nI w) (nI h) A K n (nI x) F S Q := by
  intro n
  induction n with
  | zero => intro x F S Q h; omega
  | succ n ih =>
    intro x F S Q g1 g2 hD
    obtain ⟨a0, a1, a2, a3, a4, a5, a6, a7, a8, a9⟩ := id hA
    have a0' : A (0 : Int32).toNatClampNeg = nI W := a0
    rw [V_X10_plan_26_s, a0', nI_add, nI_ltI (by omega) (by omega)]
    refine ⟨vi 0 (by decide), fun q v e => ?_, fun q => ⟨H + 2, v_p41 hC hA h1 h2 (by omega) (fun F S Q hD => ih (x + 1) F S Q (by omega) (by omega) hD) (H + 2) 0 F S Q (by omega) (by omega) hD⟩⟩
    rw [e, nI_1]
    refine hK F S Q (fun x' y' w' h' b1 b2 b3 b4 b5 => hD x' y' w' h' b1 b2 b3 b4 ?_)
    unfold Dn at *
    omega
theorem v_p14 {wt mo : Nat → Nat} {lim W H w : Nat} {C : Nat → Nat → Nat → Nat → Nat} {A : Nat → Int32} {K : Int32 → (Nat → Int32) → (Nat → Int32) → (Nat → Int32) → Prop} (hC : Cst wt mo lim C) (hA : WM wt mo lim W H A) (h1 : 1 ≤ w) (hw : w ≤ W) (hK : ∀ F S Q : Nat → Int32, DI wt mo lim C W H (w + 1) 1 0 0 F S Q → K (nI (w + 1)) F S Q) : ∀ n h F S Q, H + 1 - h < n → 1 ≤ h → h ≤ H + 1 → DI wt mo lim C W H w h 0 0 F S Q → V_X10_plan_14 (nI w) A K n (nI h) F S Q := by
  intro n
  induction n with
  | zero => intro x F S Q h; omega
  | succ n ih =>
    intro h F S Q g1 g2 g3 hD
    obtain ⟨a0, a1, a2, a3, a4, a5, a6, a7, a8, a9⟩ := id hA
    have a1' : A (1 : Int32).toNatClampNeg = nI H := a1
    rw [V_X10_plan_14_s, a1', nI_ltI (by omega) (by omega)]
    refine ⟨vi 1 (by decide), fun q v e => ?_, fun q => ⟨W + 2, v_p26 hC hA h1 g2 hw (by omega) (fun F S Q hD => ih (h + 1) F S Q (by omega) (by omega) (by omega) hD) (W + 2) 0 F S Q (by omega) (by omega) hD⟩⟩
    rw [e, nI_1]
    refine hK F S Q (fun x' y' w' h' b1 b2 b3 b4 b5 => hD x' y' w' h' b1 b2 b3 b4 ?_)
    unfold Dn at *
    omega
def AllS (wt mo : Nat → Nat) (lim : Nat) (C : Nat → Nat → Nat → Nat → Nat) (W H : Nat) (F S Q : Nat → Int32) : Prop := ∀ x' y' w' h', 1 ≤ w' → 1 ≤ h' → x' + w' ≤ W → y' + h' ≤ H → Sd wt mo lim C x' y' w' h' F S Q
/-- what the reference does behind these loops -/
def PB (A T : Nat → Int32) (post : Int32 → (Nat → Int32) → (Nat → Int32) → (Nat → Int32) → (Nat → Int32) → (Nat → Int32) → Prop) (F S Q : Nat → Int32) : Prop := P_X10_part 0 0 (A (0 : Int32).toNatClampNeg) (A (1 : Int32).toNatClampNeg) (fun r_27 => (vp_in r_27 4096 ∧ (((F r_27.toNatClampNeg) = 0 → post (-1) A F S Q T) ∧ (¬ (F r_27.toNatClampNeg) = 0 → P_X10_noPlan A (fun f_all_28 => (vp_in r_27 4096 ∧ (vp_in 6 3320 ∧ ∀ f_all_29 : Nat → Int32, f_all_29 = upd f_all_28 (6 : Int32).toNatClampNeg (S r_27.toNatClampNeg) → (vp_in 0 3320 ∧ (vp_in 1 3320 ∧ P_X10_puts 0 0 0 (f_all_29 (0 : Int32).toNatClampNeg) (f_all_29 (1 : Int32).toNatClampNeg) T (fun r_30 f_todo_31 => (∃ k : Nat, V_X10_plan_153 F S Q post k r_30 f_all_29 f_todo_31)))))))))))
theorem v_p2 {wt mo : Nat → Nat} {lim W H : Nat} {C : Nat → Nat → Nat → Nat → Nat} {A T : Nat → Int32} {post : Int32 → (Nat → Int32) → (Nat → Int32) → (Nat → Int32) → (Nat → Int32) → (Nat → Int32) → Prop} (hC : Cst wt mo lim C) (hA : WM wt mo lim W H A) (hK : ∀ F S Q : Nat → Int32, AllS wt mo lim C W H F S Q → PB A T post F S Q) : ∀ n w F S Q, W + 1 - w < n → 1 ≤ w → w ≤ W + 1 → DI wt mo lim C W H w 1 0 0 F S Q → V_X10_plan_2 A T post n (nI w) F S Q := by
  intro n
  induction n with
  | zero => intro x F S Q h; omega
  | succ n ih =>
    intro w F S Q g1 g2 g3 hD
    obtain ⟨a0, a1, a2, a3, a4, a5, a6, a7, a8, a9⟩ := id hA
    have a0' : A (0 : Int32).toNatClampNeg = nI W := a0
    rw [V_X10_plan_2_s]
    have hlt : (A (0 : Int32).toNatClampNeg < nI w) ↔ W < w := by rw [a0']; exact nI_ltI (by omega) (by omega)
    refine ⟨vi 0 (by decide), fun q => ⟨vi 0 (by decide), vi 1 (by decide), hK F S Q (fun x' y' w' h' b1 b2 b3 b4 => hD x' y' w' h' b1 b2 b3 b4 ?_)⟩, fun q => ⟨H + 2, v_p14 hC hA g2 (by have := mt hlt.mpr q; omega) (fun F S Q hD => ih (w + 1) F S Q (by have := mt hlt.mpr q; omega) (by omega) (by have := mt hlt.mpr q; omega) hD) (H + 2) 1 F S Q (by omega) (by omega) (by omega) hD⟩⟩
    have := hlt.mp q
    unfold Dn
    omega
theorem s_planM {wt mo : Nat → Nat} {lim W H : Nat} {C : Nat → Nat → Nat → Nat → Nat} {A T F S Q : Nat → Int32} {post : Int32 → (Nat → Int32) → (Nat → Int32) → (Nat → Int32) → (Nat → Int32) → (Nat → Int32) → Prop} (hC : Cst wt mo lim C) (hA : WM wt mo lim W H A) (hK : ∀ F S Q : Nat → Int32, AllS wt mo lim C W H F S Q → PB A T post F S Q) : P_X10_plan A F S Q T post := by
  refine ⟨W + 2, v_p2 hC hA hK (W + 2) 1 F S Q (by omega) (by omega) (by omega) (fun x' y' w' h' b1 b2 b3 b4 b5 => ?_)⟩
  unfold Dn at b5
  omega
