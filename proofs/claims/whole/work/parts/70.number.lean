/-! the class: it numbers the cells and finds the turns -/
def gZ (Z : List (Nat × Nat × Nat × Nat)) (b : Nat) : Nat × Nat × Nat × Nat := (Z[b]?).getD (0, 0, 0, 0)
theorem gZ_some {Z : List (Nat × Nat × Nat × Nat)} {b : Nat} (h : b < Z.length) : Z[b]? = some (gZ Z b) := by
  unfold gZ
  rw [List.getElem?_eq_getElem h]; rfl
/-- the blocks make up the wall -/
def Geo0 (W H B : Nat) (l lo c r : Nat → Nat) : Prop := (∀ b, b < B → 1 ≤ c b ∧ 1 ≤ r b ∧ l b + c b ≤ W ∧ lo b + r b ≤ H) ∧ (∀ x y, x < W → y < H → ∃ b, b < B ∧ inB l lo c r b x y) ∧ (∀ b b' x y, b < B → b' < B → inB l lo c r b x y → inB l lo c r b' x y → b = b')
theorem Pt.geo {W H : Nat} {Z : List (Nat × Nat × Nat × Nat)} (h : Pt W H Z) : Geo0 W H Z.length (fun b => (gZ Z b).1) (fun b => (gZ Z b).2.1) (fun b => (gZ Z b).2.2.1) (fun b => (gZ Z b).2.2.2) := by
  obtain ⟨h1, h2, h3⟩ := h
  refine ⟨fun b hb => h1 _ (List.mem_of_getElem? (gZ_some hb)), fun x y hx hy => ?_, fun b b' x y hb hb' g g' => ?_⟩
  · obtain ⟨p, hp, g⟩ := h3 x y hx hy
    obtain ⟨b, e⟩ := List.mem_iff_getElem?.mp hp
    have hb := (List.getElem?_eq_some_iff.mp e).1
    have e2 := gZ_some hb
    rw [e] at e2
    have e3 : p = gZ Z b := Option.some.inj e2
    rw [e3] at g
    exact ⟨b, hb, g⟩
  · have key : ∀ i j, i < j → j < Z.length → ∀ x y, inb (gZ Z i) x y → inb (gZ Z j) x y → False := fun i j hij hj x y gi gj => by
      have := List.pairwise_iff_getElem.mp h2 i j (by omega) hj hij
      have ei : Z[i] = gZ Z i := Option.some.inj ((List.getElem?_eq_getElem (show i < Z.length by omega)).symm.trans (gZ_some (by omega)))
      have ej : Z[j] = gZ Z j := Option.some.inj ((List.getElem?_eq_getElem hj).symm.trans (gZ_some hj))
      rw [ei, ej] at this
      exact this x y ⟨gi, gj⟩
    rcases Nat.lt_trichotomy b b' with q | q | q
    · exact (key b b' q hb' x y g g').elim
    · exact q
    · exact (key b' b q hb x y g' g).elim
theorem RC.at {F2 F3 F4 F5 : Nat → Int32} {Z : List (Nat × Nat × Nat × Nat)} (h : RC F2 F3 F4 F5 Z) {b : Nat} (hb : b < Z.length) : F2 b = nI (gZ Z b).1 ∧ F3 b = nI (gZ Z b).2.1 ∧ F4 b = nI (gZ Z b).2.2.1 ∧ F5 b = nI (gZ Z b).2.2.2 := h _ _ (gZ_some hb)
/-- the cells that have their block's number: of blocks before b, and of b those before (x, y) -/
def NC (B : Nat) (l lo c r : Nat → Nat) (b y x : Nat) (F : Nat → Int32) : Prop := ∀ b' x' y', b' < B → inB l lo c r b' x' y' → (b' < b ∨ (b' = b ∧ (y' < y ∨ (y' = y ∧ x' < x)))) → F (8 * y' + x') = nI b'
theorem v_nc31 {W H B b y : Nat} {l lo c r : Nat → Nat} {F2 F4 : Nat → Int32} {K : Int32 → (Nat → Int32) → Prop} (hW : W ≤ 8) (hH : H ≤ 8) (G : Geo0 W H B l lo c r) (hb : b < B) (hB : B ≤ 64) (hy1 : lo b ≤ y) (hy2 : y < lo b + r b) (e2 : F2 b = nI (l b)) (e4 : F4 b = nI (c b)) (hK : ∀ F : Nat → Int32, NC B l lo c r b (y + 1) 0 F → K (nI (y + 1)) F) : ∀ n j F, c b - j < n → j ≤ c b → NC B l lo c r b y (l b + j) F → V_X2_numberCellsOf_31 (nI b) (nI y) F2 F4 K n (nI (l b + j)) F := by
  have gb := G.1 b hb
  intro n
  induction n with
  | zero => intro j F h; omega
  | succ n ih =>
    intro j F h1 h2 hF
    rw [V_X2_numberCellsOf_31_s, nI_clamp (by omega), e2, e4, nI_add, nI_leI (by omega) (by omega)]
    refine ⟨vi _ (by omega), vi _ (by omega), fun q v e => ?_, fun q => s_place ?_⟩
    · rw [e, nI_1]
      refine hK F (fun b' x' y' g1 g2 g3 => hF b' x' y' g1 g2 ?_)
      rcases g3 with g3 | ⟨rfl, g3⟩
      · exact Or.inl g3
      · refine Or.inr ⟨rfl, ?_⟩
        unfold inB at g2
        omega
    · have e1 : nI y * 8 + nI (l b + j) = nI (8 * y + (l b + j)) := by rw [L8, pk_mul, nI_add, Nat.mul_comm]
      rw [e1, nI_clamp (by omega)]
      refine ⟨vi _ (by omega), fun F' eF v ev => ?_⟩
      rw [ev, nI_1, Nat.add_assoc]
      refine ih (j + 1) F' (by omega) (by omega) (fun b' x' y' g1 g2 g3 => ?_)
      have gb' := G.1 b' g1
      by_cases hc : x' = l b + j ∧ y' = y
      · obtain ⟨rfl, rfl⟩ := hc
        have := G.2.2 b' b _ _ g1 hb g2 ⟨by omega, by omega, by omega, by omega⟩
        rw [this, eF, upd_eq]
      · have hne : 8 * y' + x' ≠ 8 * y + (l b + j) := by unfold inB at g2; omega
        rw [eF, upd_ne hne]
        exact hF b' x' y' g1 g2 (by omega)
theorem v_nc7 {W H B b : Nat} {l lo c r : Nat → Nat} {F2 F3 F4 F5 : Nat → Int32} {post : (Nat → Int32) → Prop} (hW : W ≤ 8) (hH : H ≤ 8) (G : Geo0 W H B l lo c r) (hb : b < B) (hB : B ≤ 64) (e2 : F2 b = nI (l b)) (e3 : F3 b = nI (lo b)) (e4 : F4 b = nI (c b)) (e5 : F5 b = nI (r b)) (hK : ∀ F : Nat → Int32, NC B l lo c r (b + 1) 0 0 F → post F) : ∀ n j F, r b - j < n → j ≤ r b → NC B l lo c r b (lo b + j) 0 F → V_X2_numberCellsOf_7 (nI b) F2 F3 F4 F5 post n (nI (lo b + j)) F := by
  have gb := G.1 b hb
  intro n
  induction n with
  | zero => intro j F h; omega
  | succ n ih =>
    intro j F h1 h2 hF
    rw [V_X2_numberCellsOf_7_s, nI_clamp (by omega), e3, e5, nI_add, nI_leI (by omega) (by omega)]
    refine ⟨vi _ (by omega), vi _ (by omega), fun q => hK F (fun b' x' y' g1 g2 g3 => hF b' x' y' g1 g2 ?_), fun q => ⟨vi _ (by omega), fun v e => ?_⟩⟩
    · rcases g3 with g3 | ⟨g4, g3⟩
      · by_cases hbb : b' = b
        · refine Or.inr ⟨hbb, ?_⟩
          subst hbb
          unfold inB at g2
          omega
        · exact Or.inl (by omega)
      · omega
    · rw [e, e2]
      refine ⟨c b + 1, v_nc31 (y := lo b + j) hW hH G hb hB (by omega) (by omega) e2 e4 (fun F' hF' => ih (j + 1) F' (by omega) (by omega) hF') (c b + 1) 0 F (by omega) (by omega) (fun b' x' y' g1 g2 g3 => hF b' x' y' g1 g2 ?_)⟩
      rcases g3 with g3 | ⟨rfl, g3⟩
      · exact Or.inl g3
      · refine Or.inr ⟨rfl, ?_⟩
        unfold inB at g2
        omega
theorem v_nc2 {W H B : Nat} {l lo c r : Nat → Nat} {F2 F3 F4 F5 : Nat → Int32} {post : (Nat → Int32) → Prop} (hW : W ≤ 8) (hH : H ≤ 8) (G : Geo0 W H B l lo c r) (hB : B ≤ 64) (e : ∀ b, b < B → F2 b = nI (l b) ∧ F3 b = nI (lo b) ∧ F4 b = nI (c b) ∧ F5 b = nI (r b)) (hK : ∀ F : Nat → Int32, (∀ b x y, b < B → inB l lo c r b x y → F (8 * y + x) = nI b) → post F) : ∀ n b F, B - b < n → b ≤ B → NC B l lo c r b 0 0 F → V_X2_numberCells_2 (nI B) F2 F3 F4 F5 post n (nI b) F := by
  intro n
  induction n with
  | zero => intro j F h; omega
  | succ n ih =>
    intro b F h1 h2 hF
    rw [V_X2_numberCells_2_s, nI_leI (by omega) (by omega)]
    refine ⟨fun q => hK F (fun b' x y hb g => hF b' x y hb g (Or.inl (by omega))), fun q => ?_⟩
    obtain ⟨a2, a3, a4, a5⟩ := e b (by omega)
    unfold P_X2_numberCellsOf
    rw [nI_clamp (by omega), a3]
    refine ⟨vi _ (by omega), fun v ev => ⟨r b + 1, ?_⟩⟩
    rw [ev]
    refine v_nc7 hW hH G (by omega) hB a2 a3 a4 a5 (fun F' hF' v1 e1 => ?_) (r b + 1) 0 F (by omega) (by omega) (fun b' x' y' g1 g2 g3 => hF b' x' y' g1 g2 ?_)
    · rw [e1, nI_1]
      exact ih (b + 1) F' (by omega) (by omega) hF'
    · rcases g3 with g3 | ⟨rfl, g3⟩
      · exact Or.inl g3
      · unfold inB at g2
        omega
theorem s_number {W H B : Nat} {l lo c r : Nat → Nat} {F2 F3 F4 F5 F7 : Nat → Int32} {post : (Nat → Int32) → Prop} (hW : W ≤ 8) (hH : H ≤ 8) (G : Geo0 W H B l lo c r) (hB : B ≤ 64) (e : ∀ b, b < B → F2 b = nI (l b) ∧ F3 b = nI (lo b) ∧ F4 b = nI (c b) ∧ F5 b = nI (r b)) (hK : ∀ F : Nat → Int32, (∀ b x y, b < B → inB l lo c r b x y → F (8 * y + x) = nI b) → post F) : P_X2_numberCells (nI B) F2 F3 F4 F5 F7 post :=
  ⟨B + 1, v_nc2 hW hH G hB e hK (B + 1) 0 F7 (by omega) (by omega) (fun b' x' y' g1 g2 g3 => by omega)⟩
/-- how many blocks begin before (x, y), row by row -/
def nx (B : Nat) (l lo : Nat → Nat) (y x : Nat) : Nat := ct (fun a => decide (a < B ∧ (lo a < y ∨ (lo a = y ∧ l a < x)))) B
theorem v_ft14 {W H B y : Nat} {l lo c r : Nat → Nat} {F2 F3 F7 : Nat → Int32} {K : Int32 → Int32 → (Nat → Int32) → Prop} (hW : W ≤ 8) (hH : H ≤ 8) (hy : y < H) (G : Geo0 W H B l lo c r) (hB : B ≤ 64) (e : ∀ b, b < B → F2 b = nI (l b) ∧ F3 b = nI (lo b)) (h7 : ∀ b x y, b < B → inB l lo c r b x y → F7 (8 * y + x) = nI b) (hK : ∀ F : Nat → Int32, (∀ b, b < B → lo b < y + 1 → F b = nI (nx B l lo (lo b) (l b))) → K (nI (nx B l lo (y + 1) 0)) (nI (y + 1)) F) : ∀ n x F, W - x < n → x ≤ W → (∀ b, b < B → (lo b < y ∨ (lo b = y ∧ l b < x)) → F b = nI (nx B l lo (lo b) (l b))) → V_X2_findTurns_14 (nI W) (nI y) F2 F3 F7 K n (nI (nx B l lo y x)) (nI x) F := by
  intro n
  induction n with
  | zero => intro j F h; omega
  | succ n ih =>
    intro x F h1 h2 hF
    rw [V_X2_findTurns_14_s, nI_leI (by omega) (by omega)]
    refine ⟨fun q v ev => ?_, fun q => s_place ?_⟩
    · rw [ev, nI_1]
      have : nx B l lo y x = nx B l lo (y + 1) 0 := by
        refine ct_cong (fun a ha => ?_)
        have := G.1 a ha
        rw [decide_eq_decide]
        omega
      rw [this]
      refine hK F (fun b hb hlo => hF b hb ?_)
      have := G.1 b hb
      omega
    · obtain ⟨b, hb, hin⟩ := G.2.1 x y (by omega) hy
      have e1 : nI y * 8 + nI x = nI (8 * y + x) := by rw [L8, pk_mul, nI_add, Nat.mul_comm]
      rw [e1, nI_clamp (by omega), h7 b x y hb hin]
      have only : ∀ a, a < B → lo a = y → l a = x → a = b := fun a ha e1 e2 => by
        have := G.1 a ha
        exact G.2.2 a b x y ha hb ⟨by omega, by omega, by omega, by omega⟩ hin
      have skip : ¬ (lo b = y ∧ l b = x) → V_X2_findTurns_14 (nI W) (nI y) F2 F3 F7 K n (nI (nx B l lo y x)) (nI (x + 1)) F := fun z => by
        have no : ∀ a, a < B → ¬ (lo a = y ∧ l a = x) := fun a ha g => z (by have := only a ha g.1 g.2; rw [← this]; exact g)
        have : nx B l lo y x = nx B l lo y (x + 1) := by
          refine ct_cong (fun a ha => ?_)
          have := no a ha
          rw [decide_eq_decide]
          omega
        rw [this]
        refine ih (x + 1) F (by omega) (by omega) (fun a ha g => hF a ha ?_)
        have := no a ha
        omega
      refine ⟨vi _ (by omega), fun v6 e6 => ?_⟩
      obtain ⟨a2, a3⟩ := e b hb
      have gb := G.1 b hb
      rw [e6, nI_clamp (by omega), a2, a3, nI_eq (by omega) (by omega), nI_eq (by omega) (by omega)]
      refine ⟨vi _ (by omega), fun z => ⟨vi _ (by omega), fun z2 => ⟨vi _ (by omega), fun F' eF v3 e3 v5 e5 => ?_⟩, fun z2 v5 e5 => ?_⟩, fun z v5 e5 => ?_⟩
      · rw [e3, e5, nI_1, nI_1]
        have en : nx B l lo y (x + 1) = nx B l lo y x + 1 := by
          have := ct_set (p := fun a => decide (a < B ∧ (lo a < y ∨ (lo a = y ∧ l a < x)))) (p' := fun a => decide (a < B ∧ (lo a < y ∨ (lo a = y ∧ l a < x + 1)))) (b := b) (by rw [decide_eq_false]; omega) (by rw [decide_eq_true]; omega) (fun a ha => by
            rw [decide_eq_decide]
            have : a < B → ¬ (lo a = y ∧ l a = x) := fun g g2 => ha (only a g g2.1 g2.2)
            omega) B
          rw [if_pos hb] at this
          exact this
        rw [← en]
        refine ih (x + 1) F' (by omega) (by omega) (fun a ha g => ?_)
        by_cases hab : a = b
        · rw [hab, eF, upd_eq, z, z2]
        · rw [eF, upd_ne hab]
          refine hF a ha ?_
          have : ¬ (lo a = y ∧ l a = x) := fun g2 => hab (only a ha g2.1 g2.2)
          omega
      · rw [e5, nI_1]; exact skip (fun g => z2 g.2)
      · rw [e5, nI_1]; exact skip (fun g => z g.1)
theorem v_ft5 {W H B : Nat} {l lo c r : Nat → Nat} {F2 F3 F7 : Nat → Int32} {post : (Nat → Int32) → Prop} (hW : W ≤ 8) (hH : H ≤ 8) (G : Geo0 W H B l lo c r) (hB : B ≤ 64) (e : ∀ b, b < B → F2 b = nI (l b) ∧ F3 b = nI (lo b)) (h7 : ∀ b x y, b < B → inB l lo c r b x y → F7 (8 * y + x) = nI b) (hK : ∀ F : Nat → Int32, (∀ b, b < B → F b = nI (nx B l lo (lo b) (l b))) → post F) : ∀ n y F, H - y < n → y ≤ H → (∀ b, b < B → lo b < y → F b = nI (nx B l lo (lo b) (l b))) → V_X2_findTurns_5 (nI W) (nI H) F2 F3 F7 post n (nI (nx B l lo y 0)) (nI y) F := by
  intro n
  induction n with
  | zero => intro j F h; omega
  | succ n ih =>
    intro y F h1 h2 hF
    rw [V_X2_findTurns_5_s, nI_leI (by omega) (by omega)]
    refine ⟨fun q => hK F (fun b hb => hF b hb (by have := G.1 b hb; omega)), fun q => ⟨W + 1, v_ft14 hW hH (by omega) G hB e h7 (fun F' hF' => ih (y + 1) F' (by omega) (by omega) hF') (W + 1) 0 F (by omega) (by omega) (fun b hb g => hF b hb (by omega))⟩⟩
theorem s_turns {W H B : Nat} {l lo c r : Nat → Nat} {F2 F3 F6 F7 : Nat → Int32} {post : (Nat → Int32) → Prop} (hW : W ≤ 8) (hH : H ≤ 8) (G : Geo0 W H B l lo c r) (hB : B ≤ 64) (e : ∀ b, b < B → F2 b = nI (l b) ∧ F3 b = nI (lo b)) (h7 : ∀ b x y, b < B → inB l lo c r b x y → F7 (8 * y + x) = nI b) (hK : ∀ F : Nat → Int32, (∀ b, b < B → F b = nI (nx B l lo (lo b) (l b))) → post F) : P_X2_findTurns (nI W) (nI H) F2 F3 F6 F7 post := by
  have z : nx B l lo 0 0 = 0 := ct_none B (fun j hj => decide_eq_false (by omega))
  have := v_ft5 hW hH G hB e h7 hK (H + 1) 0 F6 (by omega) (by omega) (fun b hb g => by omega)
  rw [z] at this
  exact ⟨H + 1, this⟩
theorem nx_lt {W H B : Nat} {l lo : Nat → Nat} {b : Nat} (hb : b < B) : nx B l lo (lo b) (l b) < B := ct_lt hb (decide_eq_false (by omega))
theorem Geo0.geo {W H B : Nat} {l lo c r : Nat → Nat} {F7 : Nat → Int32} (G : Geo0 W H B l lo c r) (hB : B ≤ 64) (h7 : ∀ b x y, b < B → inB l lo c r b x y → F7 (8 * y + x) = nI b) : Geo W H B l lo c r (fun k => (F7 k).toNatClampNeg) ∧ ∀ x y, x < W → y < H → F7 (8 * y + x) = nI (F7 (8 * y + x)).toNatClampNeg := by
  have key : ∀ b x y, b < B → inB l lo c r b x y → (F7 (8 * y + x)).toNatClampNeg = b := fun b x y hb g => by
    rw [h7 b x y hb g, nI_clamp (by omega)]
  refine ⟨⟨G.1, fun _ x y hx hy => ?_, fun b x y hb g => key b x y hb g⟩, fun x y hx hy => ?_⟩
  · obtain ⟨b, hb, g⟩ := G.2.1 x y hx hy
    show (F7 (8 * y + x)).toNatClampNeg < B ∧ inB l lo c r (F7 (8 * y + x)).toNatClampNeg x y
    rw [key b x y hb g]
    exact ⟨hb, g⟩
  · obtain ⟨b, hb, g⟩ := G.2.1 x y hx hy
    rw [key b x y hb g]
    exact h7 b x y hb g
