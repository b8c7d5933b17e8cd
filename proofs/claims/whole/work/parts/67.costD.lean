/-! the class: all costs -/
theorem ifI {a b : Nat} (ha : a < 2 ^ 31) (hb : b < 2 ^ 31) : (if nI a < nI b then nI a else nI b) = nI (if a < b then a else b) := by
  by_cases h : a < b
  · rw [if_pos h, if_pos ((nI_ltI ha hb).mpr h)]
  · rw [if_neg h, if_neg (mt (nI_ltI ha hb).mp h)]
theorem uc_le {wt mo : Nat → Nat} {lim x y w h k : Nat} {C : Nat → Nat → Nat → Nat → Nat} (hC : Cst wt mo lim C) (h2 : 1 ≤ h) (h8 : h ≤ 8) (hk : k + 1 < w) : uc mo C x y w h k < 2 ^ 31 := by
  have c1 := Cst_le hC (x := x) (y := y) (w := k + 1) (h := h) (by omega) h2
  have c2 := Cst_le hC (x := x + (k + 1)) (y := y) (w := w - (k + 1)) (h := h) (by omega) h2
  unfold uc
  by_cases q : upOK mo x y h k
  · rw [pif_t q]; omega
  · rw [pif_f q]; omega
theorem lc_le {wt mo : Nat → Nat} {lim x y w h k : Nat} {C : Nat → Nat → Nat → Nat → Nat} (hC : Cst wt mo lim C) (h1 : 1 ≤ w) (h8 : w ≤ 8) (hk : k + 1 < h) : lc mo C x y w h k < 2 ^ 31 := by
  have c1 := Cst_le hC (x := x) (y := y) (w := w) (h := k + 1) h1 (by omega)
  have c2 := Cst_le hC (x := x) (y := y + (k + 1)) (w := w) (h := h - (k + 1)) h1 (by omega)
  unfold lc
  by_cases q : lvOK mo x y w k
  · rw [pif_t q]; omega
  · rw [pif_f q]; omega
theorem v_lc60 {wt mo : Nat → Nat} {lim W H x y w h B : Nat} {C : Nat → Nat → Nat → Nat → Nat} {F U : Nat → Int32} {post : Int32 → Prop} (hC : Cst wt mo lim C) (hW : W ≤ 8) (hH : H ≤ 8) (h1 : 1 ≤ w) (h2 : 1 ≤ h) (hx : x + w ≤ W) (hy : y + h ≤ H) (hU : LB mo W H H 0 U) (hF : SC C F x y w h) (hB : B ≤ 1048576) (hp : post (nI (mn B (lc mo C x y w h) (h - 1)))) : ∀ n k, h - k < n → k + 1 ≤ h → V_X4_leastCost_60 (nI x) (nI (x + w - 1)) (nI y) (nI (y + h - 1)) F U post n (nI (mn B (lc mo C x y w h) k)) (nI (y + k)) := by
  intro n
  induction n with
  | zero => intro k h; omega
  | succ n ih =>
    intro k g1 g2
    rw [V_X4_leastCost_60_s, nI_leI (by omega) (by omega)]
    refine ⟨fun q => by rw [show k = h - 1 by omega]; exact hp, fun q => s_lvC hC hW hH h1 h2 hx hy (by omega) hU hF (fun m em v ev => ?_)⟩
    have := mn_b B (lc mo C x y w h) k
    rw [em, ev, nI_1, Nat.add_assoc, ifI (lc_le hC h1 (by omega) (by omega)) (by omega)]
    exact ih (k + 1) (by omega) (by omega)
theorem v_lc27 {wt mo : Nat → Nat} {lim W H x y w h : Nat} {C : Nat → Nat → Nat → Nat → Nat} {F U L : Nat → Int32} {post : Int32 → Prop} (hC : Cst wt mo lim C) (hW : W ≤ 8) (hH : H ≤ 8) (h1 : 1 ≤ w) (h2 : 1 ≤ h) (hx : x + w ≤ W) (hy : y + h ≤ H) (hU : UB mo W H 0 U) (hL : LB mo W H H 0 L) (hF : SC C F x y w h) (hp : post (nI (mn (mn 1048576 (uc mo C x y w h) (w - 1)) (lc mo C x y w h) (h - 1)))) : ∀ n k, w - k < n → k + 1 ≤ w → V_X4_leastCost_27 (nI x) (nI (x + w - 1)) (nI y) (nI (y + h - 1)) F U L post n (nI (mn 1048576 (uc mo C x y w h) k)) (nI (x + k)) := by
  intro n
  induction n with
  | zero => intro k h; omega
  | succ n ih =>
    intro k g1 g2
    have := mn_b 1048576 (uc mo C x y w h) k
    rw [V_X4_leastCost_27_s, nI_leI (by omega) (by omega)]
    refine ⟨fun q => ?_, fun q => s_upC hC hW hH h1 h2 hx hy (by omega) hU hF (fun m em v ev => ?_)⟩
    · rw [show k = w - 1 by omega]
      exact ⟨h + 1, v_lc60 hC hW hH h1 h2 hx hy hL hF (mn_b _ _ _) hp (h + 1) 0 (by omega) (by omega)⟩
    · rw [em, ev, nI_1, Nat.add_assoc, ifI (uc_le hC h2 (by omega) (by omega)) (by omega)]
      exact ih (k + 1) (by omega) (by omega)
theorem s_least {wt mo : Nat → Nat} {lim W H x y w h : Nat} {C : Nat → Nat → Nat → Nat → Nat} {F G U L : Nat → Int32} {post : Int32 → Prop} (hC : Cst wt mo lim C) (hW : W ≤ 8) (hH : H ≤ 8) (hlim : lim ≤ 3200) (h50 : ∀ k, k < 64 → wt k ≤ 50) (h1 : 1 ≤ w) (h2 : 1 ≤ h) (hx : x + w ≤ W) (hy : y + h ≤ H) (hG : ∀ r c, c ≤ W → r ≤ H → G (9 * r + c) = nI (recS wt 0 c 0 r)) (hU : UB mo W H 0 U) (hL : LB mo W H H 0 L) (hF : SC C F x y w h) (hp : post (nI (C x y w h))) : P_X4_leastCost (nI x) (nI (x + w - 1)) (nI y) (nI (y + h - 1)) (nI lim) F G U L post := by
  have hrs := recS_le h50 (x := x) (w := w) (y := y) (by omega) h (by omega)
  rw [hC x y w h h1 h2] at hp
  unfold cF at hp
  unfold P_X4_leastCost
  refine s_weightP hW hH h1 h2 hx hy hG ?_
  rw [nI_ltI (by omega) (by omega)]
  refine ⟨fun q => ⟨w + 1, v_lc27 hC hW hH h1 h2 hx hy hU hL hF (by rwa [if_neg (by omega)] at hp) (w + 1) 0 (by omega) (by omega)⟩, fun q => by rwa [if_pos (by omega)] at hp⟩
theorem dwn (j : Nat) : nI (j + 1) + (-1) = nI j := by
  rw [← nI_1, Int32.add_assoc, show (1 : Int32) + -1 = 0 by decide, Int32.add_zero]
theorem dwn0 : nI 0 + (-1) < 0 := by decide
theorem dwnS (j : Nat) (h : j < 2 ^ 31) : ¬ nI j < 0 := by
  rw [L0, nI_ltI h (by decide)]; omega
/-- the parts whose costs stand: all up to the right end R (l from L on), and of (L - 1, R) those up to hi, lo from M on -/
def Dc (R L hi M l r lo hj : Nat) : Prop := r < R ∨ (r = R ∧ (L ≤ l ∨ (l + 1 = L ∧ (hj < hi ∨ (hj = hi ∧ M ≤ lo)))))
def CI (C : Nat → Nat → Nat → Nat → Nat) (W H R L hi M : Nat) (F : Nat → Int32) : Prop := ∀ l r lo hj, l ≤ r → r < W → lo ≤ hj → hj < H → Dc R L hi M l r lo hj → F (pC l r lo hj) = nI (C l lo (r + 1 - l) (hj + 1 - lo))
theorem v_fc13 {wt mo : Nat → Nat} {lim W H l R hi : Nat} {C : Nat → Nat → Nat → Nat → Nat} {G U L : Nat → Int32} {K : Int32 → (Nat → Int32) → Prop} (hC : Cst wt mo lim C) (hW : W ≤ 8) (hH : H ≤ 8) (hlim : lim ≤ 3200) (h50 : ∀ k, k < 64 → wt k ≤ 50) (hG : ∀ r c, c ≤ W → r ≤ H → G (9 * r + c) = nI (recS wt 0 c 0 r)) (hU : UB mo W H 0 U) (hL : LB mo W H H 0 L) (hl : l ≤ R) (hR : R < W) (hh : hi < H) (hK : ∀ F : Nat → Int32, CI C W H R (l + 1) (hi + 1) (hi + 2) F → K (nI (hi + 1)) F) : ∀ n M F, M < n → M ≤ hi + 1 → CI C W H R (l + 1) hi M F → V_X4_findCosts_13 (nI l) (nI R) (nI hi) (nI lim) G U L K n (nI M + (-1)) F := by
  intro n
  induction n with
  | zero => intro M F h; omega
  | succ n ih =>
    intro M F g1 g2 hF
    rw [V_X4_findCosts_13_s]
    rcases Nat.eq_zero_or_pos M with q | q
    · subst q
      refine ⟨fun _ v e => ?_, fun q => absurd dwn0 q⟩
      rw [e, nI_1]
      refine hK F (fun a b c d b1 b2 b3 b4 b5 => hF a b c d b1 b2 b3 b4 ?_)
      unfold Dc at *
      omega
    · obtain ⟨y, rfl⟩ : ∃ y, M = y + 1 := ⟨M - 1, by omega⟩
      rw [dwn]
      refine ⟨fun q => absurd q (dwnS y (by omega)), fun _ => s_partC (by omega) (by omega) ?_⟩
      have e1 : nI R = nI (l + (R + 1 - l) - 1) := by congr 1; omega
      have e2 : nI hi = nI (y + (hi + 1 - y) - 1) := by congr 1; omega
      have hls := pC_lt (l := l) (r := R) (lo := y) (hi := hi) hl (by omega) (by omega) (by omega)
      have hleast : P_X4_leastCost (nI l) (nI R) (nI y) (nI hi) (nI lim) F G U L (fun r_3 => (vp_in (nI (pC l R y hi)) 1296 ∧ ∀ f_cost_4 : Nat → Int32, f_cost_4 = upd F (nI (pC l R y hi)).toNatClampNeg r_3 → (∀ v5_5 : Int32, v5_5 = (nI y + (-1)) → V_X4_findCosts_13 (nI l) (nI R) (nI hi) (nI lim) G U L K n v5_5 f_cost_4))) := by
        rw [e1, e2]
        refine s_least hC hW hH hlim h50 (by omega) (by omega) (by omega) (by omega) hG hU hL ⟨fun k hk => ⟨?_, ?_⟩, fun k hk => ⟨?_, ?_⟩⟩ ?_
        · have := hF l (l + k) y hi (by omega) (by omega) (by omega) (by omega) (by unfold Dc; omega)
          rw [show l + k + 1 - l = k + 1 by omega] at this
          rw [show y + (hi + 1 - y) - 1 = hi by omega]; exact this
        · have := hF (l + (k + 1)) R y hi (by omega) (by omega) (by omega) (by omega) (by unfold Dc; omega)
          rw [show R + 1 - (l + (k + 1)) = R + 1 - l - (k + 1) by omega] at this
          rw [show y + (hi + 1 - y) - 1 = hi by omega, show l + (R + 1 - l) - 1 = R by omega]; exact this
        · have := hF l R y (y + k) (by omega) (by omega) (by omega) (by omega) (by unfold Dc; omega)
          rw [show y + k + 1 - y = k + 1 by omega] at this
          rw [show l + (R + 1 - l) - 1 = R by omega]; exact this
        · have := hF l R (y + (k + 1)) hi (by omega) (by omega) (by omega) (by omega) (by unfold Dc; omega)
          rw [show hi + 1 - (y + (k + 1)) = hi + 1 - y - (k + 1) by omega] at this
          rw [show y + (hi + 1 - y) - 1 = hi by omega, show l + (R + 1 - l) - 1 = R by omega]; exact this
        · rw [← e1, ← e2, nI_clamp (by omega)]
          refine ⟨vi _ hls, fun F' eF v ev => ?_⟩
          rw [ev]
          refine ih y F' (by omega) (by omega) (fun a b c d b1 b2 b3 b4 b5 => ?_)
          by_cases hne : pC a b c d = pC l R y hi
          · obtain ⟨rfl, rfl, rfl, rfl⟩ := pC_inj b1 (by omega) b3 (by omega) hl (by omega) (by omega) (by omega) hne
            rw [eF, upd_eq]
          · rw [eF, upd_ne hne]
            refine hF a b c d b1 b2 b3 b4 ?_
            have : ¬ (a = l ∧ b = R ∧ c = y ∧ d = hi) := fun ⟨e1, e2, e3, e4⟩ => hne (by rw [e1, e2, e3, e4])
            unfold Dc at *
            omega
      exact hleast
theorem v_fc3 {wt mo : Nat → Nat} {lim W H l R : Nat} {C : Nat → Nat → Nat → Nat → Nat} {G U L : Nat → Int32} {post : (Nat → Int32) → Prop} (hC : Cst wt mo lim C) (hW : W ≤ 8) (hH : H ≤ 8) (hlim : lim ≤ 3200) (h50 : ∀ k, k < 64 → wt k ≤ 50) (hG : ∀ r c, c ≤ W → r ≤ H → G (9 * r + c) = nI (recS wt 0 c 0 r)) (hU : UB mo W H 0 U) (hL : LB mo W H H 0 L) (hl : l ≤ R) (hR : R < W) (hK : ∀ F : Nat → Int32, CI C W H R l 0 1 F → post F) : ∀ n hi F, H - hi < n → hi ≤ H → CI C W H R (l + 1) hi (hi + 1) F → V_X4_findCosts_3 (nI l) (nI R) (nI H) (nI lim) G U L post n (nI hi) F := by
  intro n
  induction n with
  | zero => intro M F h; omega
  | succ n ih =>
    intro hi F g1 g2 hF
    rw [V_X4_findCosts_3_s, nI_leI (by omega) (by omega)]
    refine ⟨fun q => hK F (fun a b c d b1 b2 b3 b4 b5 => hF a b c d b1 b2 b3 b4 (by unfold Dc at *; omega)), fun q => ⟨hi + 2, ?_⟩⟩
    have z := v_fc13 hC hW hH hlim h50 hG hU hL hl hR (by omega) (fun F' hF' => ih (hi + 1) F' (by omega) (by omega) hF') (hi + 2) (hi + 1) F (by omega) (by omega) hF
    rw [dwn] at z
    exact z
def AllC (C : Nat → Nat → Nat → Nat → Nat) (W H : Nat) (F : Nat → Int32) : Prop := ∀ l r lo hj, l ≤ r → r < W → lo ≤ hj → hj < H → F (pC l r lo hj) = nI (C l lo (r + 1 - l) (hj + 1 - lo))
theorem v_fp28 {wt mo : Nat → Nat} {lim W H R : Nat} {C : Nat → Nat → Nat → Nat → Nat} {G U L : Nat → Int32} {K : Int32 → (Nat → Int32) → Prop} (hC : Cst wt mo lim C) (hW : W ≤ 8) (hH : H ≤ 8) (hlim : lim ≤ 3200) (h50 : ∀ k, k < 64 → wt k ≤ 50) (hG : ∀ r c, c ≤ W → r ≤ H → G (9 * r + c) = nI (recS wt 0 c 0 r)) (hU : UB mo W H 0 U) (hL : LB mo W H H 0 L) (hR : R < W) (hK : ∀ F : Nat → Int32, CI C W H (R + 1) (R + 2) 0 1 F → K (nI (R + 1)) F) : ∀ n j F, j < n → j ≤ R + 1 → CI C W H R j 0 1 F → V_X4_findsPlan_28 (nI R) (nI lim) G U L (nI H) K n (nI j + (-1)) F := by
  intro n
  induction n with
  | zero => intro M F h; omega
  | succ n ih =>
    intro j F g1 g2 hF
    rw [V_X4_findsPlan_28_s]
    rcases Nat.eq_zero_or_pos j with q | q
    · subst q
      refine ⟨fun _ v e => ?_, fun q => absurd dwn0 q⟩
      rw [e, nI_1]
      refine hK F (fun a b c d b1 b2 b3 b4 b5 => hF a b c d b1 b2 b3 b4 ?_)
      unfold Dc at *
      omega
    · obtain ⟨l, rfl⟩ : ∃ y, j = y + 1 := ⟨j - 1, by omega⟩
      rw [dwn]
      refine ⟨fun q => absurd q (dwnS l (by omega)), fun _ => ⟨H + 1, v_fc3 hC hW hH hlim h50 hG hU hL (by omega) hR (fun F' hF' v e => ?_) (H + 1) 0 F (by omega) (by omega) hF⟩⟩
      rw [e]
      exact ih l F' (by omega) (by omega) hF'
theorem v_fpl17 {wt mo : Nat → Nat} {lim W H : Nat} {C : Nat → Nat → Nat → Nat → Nat} {G U L : Nat → Int32} {post : Int32 → Int32 → (Nat → Int32) → (Nat → Int32) → (Nat → Int32) → (Nat → Int32) → Prop} (hC : Cst wt mo lim C) (hW1 : 1 ≤ W) (hH1 : 1 ≤ H) (hW : W ≤ 8) (hH : H ≤ 8) (hlim : lim ≤ 3200) (h50 : ∀ k, k < 64 → wt k ≤ 50) (hG : ∀ r c, c ≤ W → r ≤ H → G (9 * r + c) = nI (recS wt 0 c 0 r)) (hU : UB mo W H 0 U) (hL : LB mo W H H 0 L) (hp : ∀ F : Nat → Int32, AllC C W H F → post (bI (C 0 0 W H < 1048576)) (nI lim) F G U L) : ∀ n R F, W - R < n → R ≤ W → CI C W H R (R + 1) 0 1 F → V_X4_findsPlan_17 (nI lim) G U L (nI W) (nI H) post n (nI R) F := by
  intro n
  induction n with
  | zero => intro M F h; omega
  | succ n ih =>
    intro R F g1 g2 hF
    rw [V_X4_findsPlan_17_s, nI_leI (by omega) (by omega), L1, pk_sub hW1, pk_sub hH1]
    refine ⟨fun q => s_partC (l := 0) (lo := 0) (by omega) (by omega) ?_, fun q => ⟨R + 2, ?_⟩⟩
    · have hA : AllC C W H F := fun a b c d b1 b2 b3 b4 => hF a b c d b1 b2 b3 b4 (by unfold Dc; omega)
      have i := pC_lt (l := 0) (r := W - 1) (lo := 0) (hi := H - 1) (by omega) (by omega) (by omega) (by omega)
      have e := hA 0 (W - 1) 0 (H - 1) (by omega) (by omega) (by omega) (by omega)
      rw [show W - 1 + 1 - 0 = W by omega, show H - 1 + 1 - 0 = H by omega] at e
      have le := Cst_le hC (x := 0) (y := 0) hW1 hH1
      have p := hp F hA
      rw [nI_clamp (by omega), e, L1048576, nI_leI (by omega) (by omega)]
      refine ⟨vi _ i, fun g => ?_, fun g => ?_⟩
      · rwa [bI_f (by omega)] at p
      · rwa [bI_t (by omega)] at p
    · have z := v_fp28 hC hW hH hlim h50 hG hU hL (by omega) (fun F' hF' => ih (R + 1) F' (by omega) (by omega) hF') (R + 2) (R + 1) F (by omega) (by omega) hF
      rw [dwn] at z
      exact z
theorem s_findsPlan {wt mo : Nat → Nat} {lim W H : Nat} {C : Nat → Nat → Nat → Nat → Nat} {F G U L f0 f1 : Nat → Int32} {post : Int32 → Int32 → (Nat → Int32) → (Nat → Int32) → (Nat → Int32) → (Nat → Int32) → Prop} (hC : Cst wt mo lim C) (hW : 1 ≤ W ∧ W ≤ 8) (hH : 1 ≤ H ∧ H ≤ 8) (hlim : lim ≤ 3200) (h0 : ∀ k, k < 64 → f0 k = nI (wt k) ∧ wt k ≤ 50) (h1 : ∀ k, k < 64 → f1 k = nI (mo k) ∧ mo k ≤ 9) (hG : SW G) (hp : ∀ F G U L : Nat → Int32, SW G → UB mo W H 0 U → LB mo W H H 0 L → AllC C W H F → post (bI (C 0 0 W H < 1048576)) (nI lim) F G U L) : P_X4_findsPlan (nI lim) F G U L (nI W) (nI H) f0 f1 post := by
  refine s_addUp hW.2 hH.2 (fun k hk => (h0 k hk).1) hG (fun G' sG hG' => s_bars hW hH h1 (fun U' L' hU hL => ⟨W + 1, v_fpl17 hC hW.1 hH.1 hW.2 hH.2 hlim (fun k hk => (h0 k hk).2) hG' hU hL (fun F' hF' => hp F' G' U' L' sG hU hL hF') (W + 1) 0 F (by omega) (by omega) (fun a b c d b1 b2 b3 b4 b5 => ?_)⟩))
  unfold Dc at b5
  omega
