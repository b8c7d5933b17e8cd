/-- the weight of n cells from (x, y) on, and of a part -/
def rowS (g : Nat → Nat) (x y : Nat) : Nat → Nat
  | 0 => 0
  | n + 1 => rowS g x y n + g (8 * y + (x + n))
def recS (g : Nat → Nat) (x w y : Nat) : Nat → Nat
  | 0 => 0
  | n + 1 => recS g x w y n + rowS g x (y + n) w
theorem v_wC {F : Nat → Int32} {wt : Nat → Nat} {x n y s : Nat} {K : Int32 → Int32 → Prop} (hx : x + n ≤ 8) (hy : y < 8) (hF : ∀ k, k < 64 → F k = nI (wt k)) (hK : K (nI (s + rowS wt x y n)) (nI (y + 1))) : ∀ k j, n - j < k → j ≤ n → V_X7_weightOf_18 (nI x) (nI n) (nI y) F K k (nI (s + rowS wt x y j)) (nI (x + j)) := by
  intro k
  induction k with
  | zero => intro j h; omega
  | succ k ih =>
    intro j h1 h2
    rw [V_X7_weightOf_18_s, nI_add, nI_leI (by omega) (by omega)]
    refine ⟨fun q v e => ?_, fun q => s_place ?_⟩
    · rw [e, nI_1, show j = n by omega]; exact hK
    · have e1 : nI y * 8 + nI (x + j) = nI (8 * y + (x + j)) := by rw [L8, pk_mul, nI_add, Nat.mul_comm]
      rw [e1, nI_clamp (by omega), hF _ (by omega)]
      refine ⟨vi _ (by omega), fun v5 e5 v7 e7 => ?_⟩
      rw [e5, e7, nI_add, nI_1, Nat.add_assoc, Nat.add_assoc]
      exact ih (j + 1) (by omega) (by omega)
theorem v_wC2 {F : Nat → Int32} {wt : Nat → Nat} {x w y h : Nat} {post : Int32 → Prop} (hx : x + w ≤ 8) (hy : y + h ≤ 8) (hF : ∀ k, k < 64 → F k = nI (wt k)) (hp : post (nI (recS wt x w y h))) : ∀ k j, h - j < k → j ≤ h → V_X7_weightOf_6 (nI x) (nI w) (nI y) (nI h) F post k (nI (recS wt x w y j)) (nI (y + j)) := by
  intro k
  induction k with
  | zero => intro j h; omega
  | succ k ih =>
    intro j h1 h2
    rw [V_X7_weightOf_6_s, nI_add, nI_leI (by omega) (by omega)]
    refine ⟨fun q => ?_, fun q => ?_⟩
    · rw [show j = h by omega]; exact hp
    · exact ⟨w + 1, v_wC (y := y + j) hx (by omega) hF (ih (j + 1) (by omega) (by omega)) (w + 1) 0 (by omega) (by omega)⟩
theorem s_weightC {F : Nat → Int32} {wt : Nat → Nat} {x w y h : Nat} {post : Int32 → Prop} (hx : x + w ≤ 8) (hy : y + h ≤ 8) (hF : ∀ k, k < 64 → F k = nI (wt k)) (hp : post (nI (recS wt x w y h))) : P_X7_weightOf (nI x) (nI w) (nI y) (nI h) F post := ⟨h + 1, v_wC2 hx hy hF hp (h + 1) 0 (by omega) (by omega)⟩
theorem v_wM {A : Nat → Int32} {wt : Nat → Nat} {x n y s : Nat} {K : Int32 → Int32 → Prop} (hx : x + n ≤ 8) (hy : y < 8) (hF : ∀ k, k < 64 → A (30 + k) = nI (wt k)) (hK : K (nI (s + rowS wt x y n)) (nI (y + 1))) : ∀ k j, n - j < k → j ≤ n → V_X10_weight_18 (nI x) (nI n) (nI y) A K k (nI (s + rowS wt x y j)) (nI (x + j)) := by
  intro k
  induction k with
  | zero => intro j h; omega
  | succ k ih =>
    intro j h1 h2
    rw [V_X10_weight_18_s, nI_add, nI_leI (by omega) (by omega)]
    refine ⟨fun q v e => ?_, fun q => ?_⟩
    · rw [e, nI_1, show j = n by omega]; exact hK
    · have e1 : (30 + (8 * nI y)) + nI (x + j) = nI (30 + (8 * y + (x + j))) := by rw [L30, L8, pk_mul, nI_add, nI_add, Nat.add_assoc]
      rw [e1, nI_clamp (by omega), hF _ (by omega)]
      refine ⟨vi _ (by omega), fun v5 e5 v7 e7 => ?_⟩
      rw [e5, e7, nI_add, nI_1, Nat.add_assoc, Nat.add_assoc]
      exact ih (j + 1) (by omega) (by omega)
theorem v_wM2 {A : Nat → Int32} {wt : Nat → Nat} {x w y h : Nat} {post : Int32 → Prop} (hx : x + w ≤ 8) (hy : y + h ≤ 8) (hF : ∀ k, k < 64 → A (30 + k) = nI (wt k)) (hp : post (nI (recS wt x w y h))) : ∀ k j, h - j < k → j ≤ h → V_X10_weight_6 (nI x) (nI y) (nI w) (nI h) A post k (nI (recS wt x w y j)) (nI (y + j)) := by
  intro k
  induction k with
  | zero => intro j h; omega
  | succ k ih =>
    intro j h1 h2
    rw [V_X10_weight_6_s, nI_add, nI_leI (by omega) (by omega)]
    refine ⟨fun q => ?_, fun q => ?_⟩
    · rw [show j = h by omega]; exact hp
    · exact ⟨w + 1, v_wM (y := y + j) hx (by omega) hF (ih (j + 1) (by omega) (by omega)) (w + 1) 0 (by omega) (by omega)⟩
theorem s_weightM {A : Nat → Int32} {wt : Nat → Nat} {x w y h : Nat} {post : Int32 → Prop} (hx : x + w ≤ 8) (hy : y + h ≤ 8) (hF : ∀ k, k < 64 → A (30 + k) = nI (wt k)) (hp : post (nI (recS wt x w y h))) : P_X10_weight (nI x) (nI y) (nI w) (nI h) A post := ⟨h + 1, v_wM2 hx hy hF hp (h + 1) 0 (by omega) (by omega)⟩
/-- the first day on which a row is under water -/
def dueF (hh : Nat → Nat) (lo : Nat) : Nat → Nat → Int32
  | 0, _ => -1
  | n + 1, m => if lo < hh m then nI (30 * m) else dueF hh lo n (m + 1)
def dueI (hh : Nat → Nat) (lo : Nat) : Int32 := dueF hh lo 12 0
theorem dueF_cases (hh : Nat → Nat) (lo : Nat) : ∀ n m, m + n ≤ 12 → dueF hh lo n m = -1 ∨ ∃ d, d ≤ 330 ∧ dueF hh lo n m = nI d := by
  intro n
  induction n with
  | zero => intro m _; exact Or.inl rfl
  | succ n ih =>
    intro m hm
    unfold dueF
    split
    · exact Or.inr ⟨30 * m, by omega, rfl⟩
    · exact ih (m + 1) (by omega)
theorem dueI_cases (hh : Nat → Nat) (lo : Nat) : dueI hh lo = -1 ∨ ∃ d, d ≤ 330 ∧ dueI hh lo = nI d := dueF_cases hh lo 12 0 (by omega)
theorem v_dueC {F : Nat → Int32} {hh : Nat → Nat} {lo : Nat} {post : Int32 → Prop} (hlo : lo < 64) (hF : ∀ k, k < 12 → F k = nI (hh k) ∧ hh k ≤ 9) : ∀ n m k, m + n = 12 → n < k → post (dueF hh lo n m) → V_X3_firstDayOver_2 (nI lo) F post k (nI m) := by
  intro n
  induction n with
  | zero =>
    intro m k hm hk hp
    obtain ⟨k, rfl⟩ : ∃ j, k = j + 1 := ⟨k - 1, by omega⟩
    rw [V_X3_firstDayOver_2_s, L12, nI_leI (by decide) (by omega)]
    exact ⟨fun _ => hp, fun q => absurd (by omega) q⟩
  | succ n ih =>
    intro m k hm hk hp
    obtain ⟨k, rfl⟩ : ∃ j, k = j + 1 := ⟨k - 1, by omega⟩
    obtain ⟨f1, f2⟩ := hF m (by omega)
    rw [V_X3_firstDayOver_2_s, L12, nI_leI (by decide) (by omega), nI_clamp (by omega), f1, nI_leI (by omega) (by omega)]
    unfold dueF at hp
    refine ⟨fun q => by omega, fun _ => ⟨vi _ (by omega), fun q v e => ?_, fun q => ?_⟩⟩
    · rw [if_neg (by omega)] at hp
      rw [e, nI_1]
      exact ih (m + 1) k (by omega) (by omega) hp
    · rw [if_pos (by omega)] at hp
      rw [L30, pk_mul, Nat.mul_comm]
      exact hp
theorem v_dueM {A : Nat → Int32} {hh : Nat → Nat} {b lo : Nat} {post : Int32 → Prop} (hb : b < 64) (hlo : lo < 64) (hA : A (170 + 8 * b + 1) = nI lo) (hF : ∀ k, k < 12 → A (10 + k) = nI (hh k) ∧ hh k ≤ 9) : ∀ n m k, m + n = 12 → n < k → post (dueF hh lo n m) → V_X10_due_2 (nI b) A post k (nI m) := by
  intro n
  induction n with
  | zero =>
    intro m k hm hk hp
    obtain ⟨k, rfl⟩ : ∃ j, k = j + 1 := ⟨k - 1, by omega⟩
    rw [V_X10_due_2_s, L12, nI_leI (by decide) (by omega)]
    exact ⟨fun _ => hp, fun q => absurd (by omega) q⟩
  | succ n ih =>
    intro m k hm hk hp
    obtain ⟨k, rfl⟩ : ∃ j, k = j + 1 := ⟨k - 1, by omega⟩
    obtain ⟨f1, f2⟩ := hF m (by omega)
    rw [V_X10_due_2_s, L12, nI_leI (by decide) (by omega), L10, nI_add, nI_clamp (by omega), f1]
    unfold dueF at hp
    refine ⟨fun q => by omega, fun _ => ⟨vi _ (by omega), s_of (j := 1) hb (by decide) ?_⟩⟩
    rw [hA, nI_leI (by omega) (by omega)]
    refine ⟨fun q v e => ?_, fun q => ?_⟩
    · rw [if_neg (by omega)] at hp
      rw [e, nI_1]
      exact ih (m + 1) k (by omega) (by omega) hp
    · rw [if_pos (by omega)] at hp
      rw [L30, pk_mul]
      exact hp
theorem s_dueC {f : Nat → Nat → Int32} {A : Nat → Int32} {hh : Nat → Nat} {b lo : Nat} {post : Int32 → Prop} (hb : b < 64) (hlo : lo < 64) (hf : f 3 b = nI lo) (hF : RRv f A hh) (hp : post (dueI hh lo)) : P_X5_dueOf (nI b) (f 3) (f 8) post := by
  unfold P_X5_dueOf
  rw [nI_clamp (by omega), hf]
  exact ⟨vi _ hb, 13, v_dueC hlo (fun k hk => ⟨(hF k hk).1, (hF k hk).2.2⟩) 12 0 13 rfl (by decide) hp⟩
theorem s_dueM {f : Nat → Nat → Int32} {A : Nat → Int32} {hh : Nat → Nat} {b lo : Nat} {post : Int32 → Prop} (hb : b < 64) (hlo : lo < 64) (hA : A (170 + 8 * b + 1) = nI lo) (hF : RRv f A hh) (hp : post (dueI hh lo)) : P_X10_due (nI b) A post := ⟨13, v_dueM hb hlo hA (fun k hk => ⟨(hF k hk).2.1, (hF k hk).2.2⟩) 12 0 13 rfl (by decide) hp⟩
theorem s_isTaken {F : Nat → Int32} {b : Nat} {post : Int32 → Prop} (hb : b < 64) (h : post (bI (¬ F b = -1))) : P_X8_isTaken (nI b) F post := by
  unfold P_X8_isTaken
  rw [nI_clamp (by omega)]
  refine ⟨vi _ hb, fun q => ?_, fun q => ?_⟩
  · rwa [bI_f (fun z => z q)] at h
  · rwa [bI_t q] at h
/-- a block stands: its day is -1, else it is a day -/
def Dy (t : Int32) : Prop := t = -1 ∨ ∃ d, d ≤ 5000 ∧ t = nI d
theorem Dy.ge {t : Int32} (h : Dy t) : 0 ≤ t ↔ ¬ t = -1 := by
  rcases h with rfl | ⟨d, hd, rfl⟩
  · exact ⟨fun q => absurd q (by decide), fun q => absurd rfl q⟩
  · exact ⟨fun _ => ne_mOne (by omega), fun _ => nI_pos' (by omega)⟩
theorem s_stands {A : Nat → Int32} {b : Nat} {t : Int32} {post : Int32 → Prop} (hb : b < 64) (hA : A (170 + 8 * b + 4) = t) (hD : Dy t) (h : post (bI (t = -1))) : P_X10_stands (nI b) A post := by
  unfold P_X10_stands
  refine s_of (j := 4) hb (by decide) ?_
  rw [hA, hD.ge]
  refine ⟨fun q => ?_, fun q => ?_⟩
  · rwa [bI_f q] at h
  · rwa [bI_t (Classical.not_not.mp q)] at h
theorem RYd.dy {i : Nat → Int32} {f : Nat → Nat → Int32} {A : Nat → Int32} {B T pn : Nat} {l lo c r q : Nat → Nat} (H : RYd i f A B T pn l lo c r q) {b : Nat} (hb : b < B) : Dy (f 9 b) := by
  obtain ⟨-, -, g⟩ := H.2.1 b hb
  rcases g with g | ⟨d, p, d1, d2, d3, d4⟩
  · exact Or.inl g.1
  · exact Or.inr ⟨d, d1, d3⟩
/-- a block is free: it stands, and all above it are taken -/
def freeP (f : Nat → Nat → Int32) (B : Nat) (l lo c r : Nat → Nat) (b : Nat) : Prop := f 9 b = -1 ∧ ∀ a, a < B → abv l lo c r a b → ¬ f 9 a = -1
/-- what lies right above a block's cells is above it -/
theorem Geo.up {w h B : Nat} {l lo c r bA : Nat → Nat} (G : Geo w h B l lo c r bA) {b x : Nat} (hb : b < B) (hx : l b ≤ x) (hx2 : x < l b + c b) (hh : lo b + r b < h) : bA (8 * (lo b + r b) + x) < B ∧ abv l lo c r (bA (8 * (lo b + r b) + x)) b := by
  obtain ⟨g1, g2, g3⟩ := G
  have gb := g1 b hb
  obtain ⟨k1, k2⟩ := g2 (by omega) x (lo b + r b) (by omega) hh
  refine ⟨k1, ?_⟩
  generalize bA (8 * (lo b + r b) + x) = a at k1 k2
  unfold inB at k2
  have ga := g1 a k1
  have : lo a = lo b + r b := by
    rcases Nat.lt_or_ge (lo a) (lo b + r b) with q | q
    · exfalso
      have e1 := g3 a x (lo b + r b - 1) k1 ⟨by omega, by omega, by omega, by omega⟩
      have e2 := g3 b x (lo b + r b - 1) hb ⟨by omega, by omega, by omega, by omega⟩
      have : a = b := e1.symm.trans e2
      subst this
      omega
    · omega
  exact ⟨this, by omega, by omega⟩
/-- and what is above it has one of these cells -/
theorem Geo.dn {w h B : Nat} {l lo c r bA : Nat → Nat} (G : Geo w h B l lo c r bA) {a b : Nat} (ha : a < B) (hb : b < B) (hab : abv l lo c r a b) : lo b + r b < h ∧ ∃ x, l b ≤ x ∧ x < l b + c b ∧ bA (8 * (lo b + r b) + x) = a := by
  obtain ⟨g1, g2, g3⟩ := G
  obtain ⟨e1, e2, e3⟩ := hab
  have ga := g1 a ha
  have gb := g1 b hb
  refine ⟨by omega, ?_⟩
  rcases Nat.lt_or_ge (l a) (l b) with q | q
  · exact ⟨l b, by omega, by omega, g3 a (l b) (lo b + r b) ha ⟨by omega, by omega, by omega, by omega⟩⟩
  · exact ⟨l a, by omega, by omega, g3 a (l a) (lo b + r b) ha ⟨by omega, by omega, by omega, by omega⟩⟩
theorem v_freeC {f : Nat → Nat → Int32} {B w h b : Nat} {l lo c r bA : Nat → Nat} {post : Int32 → Prop} (G : Geo w h B l lo c r bA) (hw : w ≤ 8) (hh : h ≤ 8) (hB : B ≤ 64) (hb : b < B) (hC : BlC f l lo c r b) (h7 : ∀ x y, x < w → y < h → f 7 (8 * y + x) = nI (bA (8 * y + x))) (hlt : lo b + r b < h) (hs : f 9 b = -1) (hp : post (bI (freeP f B l lo c r b))) : ∀ k j, c b - j < k → j ≤ c b → (∀ x, l b ≤ x → x < l b + j → ¬ f 9 (bA (8 * (lo b + r b) + x)) = -1) → V_X5_isFree_56 (nI b) (nI (lo b + r b)) (f 2) (f 4) (f 7) (f 9) post k (nI (l b + j)) := by
  intro k
  induction k with
  | zero => intro j h; omega
  | succ k ih =>
    intro j h1 h2 hd
    obtain ⟨c1, c2, c3, c4, c5, c6⟩ := hC
    have gb := G.1 b hb
    rw [V_X5_isFree_56_s, nI_clamp (by omega), c1, c3, nI_add, nI_leI (by omega) (by omega)]
    refine ⟨vi _ (by omega), vi _ (by omega), fun q => ?_, fun q => s_place ?_⟩
    · have hf : freeP f B l lo c r b := ⟨hs, fun a ha hab => by
        obtain ⟨_, x, x1, x2, x3⟩ := G.dn ha hb hab
        rw [← x3]
        exact hd x x1 (by omega)⟩
      rwa [bI_t hf] at hp
    · have e1 : nI (lo b + r b) * 8 + nI (l b + j) = nI (8 * (lo b + r b) + (l b + j)) := by rw [L8, pk_mul, nI_add, Nat.mul_comm]
      obtain ⟨k1, k2⟩ := G.up hb (x := l b + j) (by omega) (by omega) hlt
      rw [e1, nI_clamp (by omega), h7 _ _ (by omega) hlt]
      refine ⟨vi _ (by omega), s_isTaken (by omega) (bsp (fun z => ?_) (fun z v e => ?_))⟩
      · have hf : ¬ freeP f B l lo c r b := fun hf => z (hf.2 _ k1 k2)
        rwa [bI_f hf] at hp
      · rw [e, nI_1]
        refine ih (j + 1) (by omega) (by omega) (fun x x1 x2 => ?_)
        rcases Nat.lt_or_ge x (l b + j) with g | g
        · exact hd x x1 g
        · rw [show x = l b + j by omega]; exact z
theorem s_freeC {f : Nat → Nat → Int32} {B w h b : Nat} {l lo c r bA : Nat → Nat} {post : Int32 → Prop} (G : Geo w h B l lo c r bA) (hw : w ≤ 8) (hh : h ≤ 8) (hB : B ≤ 64) (hb : b < B) (hC : BlC f l lo c r b) (h7 : ∀ x y, x < w → y < h → f 7 (8 * y + x) = nI (bA (8 * y + x))) (hp : post (bI (freeP f B l lo c r b))) : P_X5_isFree (nI b) (nI h) (f 2) (f 3) (f 4) (f 5) (f 7) (f 9) post := by
  obtain ⟨c1, c2, c3, c4, c5, c6⟩ := id hC
  unfold P_X5_isFree
  refine s_isTaken (by omega) (bsp (fun z => ?_) (fun z => ?_))
  · have hs : f 9 b = -1 := Classical.not_not.mp z
    rw [nI_clamp (by omega), c1, c2, c4, nI_add]
    refine ⟨vi _ (by omega), vi _ (by omega), fun v2 e2 => ?_⟩
    rw [e2, nI_ltI (by omega) (by omega)]
    refine ⟨fun q => ⟨vi _ (by omega), fun v3 e3 => ?_⟩, fun q => ?_⟩
    · rw [e3]
      exact ⟨c b + 1, v_freeC G hw hh hB hb hC h7 q hs hp (c b + 1) 0 (by omega) (by omega) (fun x _ _ => by omega)⟩
    · have hf : freeP f B l lo c r b := ⟨hs, fun a ha hab => absurd (G.dn ha hb hab).1 q⟩
      rwa [bI_t hf] at hp
  · have hf : ¬ freeP f B l lo c r b := fun hf => z hf.1
    rwa [bI_f hf] at hp
theorem v_freeM {f : Nat → Nat → Int32} {A : Nat → Int32} {B b : Nat} {l lo c r : Nat → Nat} {post : Int32 → Prop} (hB : B ≤ 64) (hb : b < B) (e5 : A 5 = nI B) (hM : ∀ a, a < B → BlM A l lo c r a) (h4 : ∀ a, a < B → A (170 + 8 * a + 4) = f 9 a ∧ Dy (f 9 a)) (hp : post (bI (freeP f B l lo c r b))) : ∀ k a v, B - a < k → a ≤ B → v = bI (f 9 b = -1 ∧ ∀ a', a' < a → abv l lo c r a' b → ¬ f 9 a' = -1) → V_X10_isFree_8 (nI b) A post k v (nI a) := by
  intro k
  induction k with
  | zero => intro a v h; omega
  | succ k ih =>
    intro a v h1 h2 hv
    have e5' : A (5 : Int32).toNatClampNeg = nI B := e5
    rw [V_X10_isFree_8_s, e5', nI_leI (by omega) (by omega)]
    refine ⟨vi 5 (by decide), fun q => ?_, fun q => ?_⟩
    · rw [show a = B by omega] at hv
      rw [hv]
      exact ⟨bI_01 _, hp⟩
    · rw [hv]
      refine bsp (fun z v3 e3 => ?_) (fun z => s_abvM (by omega) (by omega) (hM a (by omega)) (hM b hb) (bsp (fun z2 v3 e3 => ?_) (fun z2 => s_stands (by omega) (h4 a (by omega)).1 (h4 a (by omega)).2 (bsp (fun z3 v3 e3 => ?_) (fun z3 v3 e3 => ?_)))))
      · rw [e3, nI_1]
        refine ih (a + 1) _ (by omega) (by omega) ?_
        rw [bI_f]
        exact fun g => z ⟨g.1, fun a' ha' => g.2 a' (by omega)⟩
      · rw [e3, nI_1]
        refine ih (a + 1) _ (by omega) (by omega) ?_
        rw [bI_t]
        refine ⟨z.1, fun a' ha' hab => ?_⟩
        rcases Nat.lt_or_ge a' a with g | g
        · exact z.2 a' g hab
        · rw [show a' = a by omega] at hab; exact absurd hab z2
      · rw [e3, nI_1]
        refine ih (a + 1) _ (by omega) (by omega) ?_
        rw [bI_t]
        refine ⟨z.1, fun a' ha' hab => ?_⟩
        rcases Nat.lt_or_ge a' a with g | g
        · exact z.2 a' g hab
        · rw [show a' = a by omega]; exact z3
      · rw [e3, nI_1]
        refine ih (a + 1) _ (by omega) (by omega) ?_
        rw [bI_f]
        exact fun g => g.2 a (by omega) z2 z3
theorem s_freeM {f : Nat → Nat → Int32} {A : Nat → Int32} {B b : Nat} {l lo c r : Nat → Nat} {post : Int32 → Prop} (hB : B ≤ 64) (hb : b < B) (e5 : A 5 = nI B) (hM : ∀ a, a < B → BlM A l lo c r a) (h4 : ∀ a, a < B → A (170 + 8 * a + 4) = f 9 a ∧ Dy (f 9 a)) (hp : post (bI (freeP f B l lo c r b))) : P_X10_isFree (nI b) A post :=
  s_stands (by omega) (h4 b hb).1 (h4 b hb).2 ⟨B + 1, v_freeM hB hb e5 hM h4 hp (B + 1) 0 _ (by omega) (by omega) (bI_congr ⟨fun g => ⟨g, fun a' ha' => by omega⟩, fun g => g.1⟩)⟩
theorem v_takenM {f : Nat → Nat → Int32} {A : Nat → Int32} {B : Nat} {post : Int32 → Prop} (hB : B ≤ 64) (e5 : A 5 = nI B) (h4 : ∀ a, a < B → A (170 + 8 * a + 4) = f 9 a ∧ Dy (f 9 a)) (hp : post (nI (ct (fun b => decide (¬ f 9 b = -1)) B))) : ∀ k a, B - a < k → a ≤ B → V_X10_taken_4 A post k (nI (ct (fun b => decide (¬ f 9 b = -1)) a)) (nI a) := by
  intro k
  induction k with
  | zero => intro a h; omega
  | succ k ih =>
    intro a h1 h2
    have e5' : A (5 : Int32).toNatClampNeg = nI B := e5
    rw [V_X10_taken_4_s, e5', nI_leI (by omega) (by omega)]
    refine ⟨vi 5 (by decide), fun q => ?_, fun q => s_stands (by omega) (h4 a (by omega)).1 (h4 a (by omega)).2 (bsp (fun z v1 e1 v2 e2 => ?_) (fun z v1 e1 v2 e2 => ?_))⟩
    · rw [show a = B by omega]; exact hp
    · have := ih (a + 1) (by omega) (by omega)
      rw [ct, if_pos (by simpa using z)] at this
      rw [e1, e2, nI_1, nI_1]
      exact this
    · have := ih (a + 1) (by omega) (by omega)
      rw [ct, if_neg (by simpa using z)] at this
      rw [e1, e2, L0, nI_add, nI_1]
      exact this
theorem s_takenM {f : Nat → Nat → Int32} {A : Nat → Int32} {B : Nat} {post : Int32 → Prop} (hB : B ≤ 64) (e5 : A 5 = nI B) (h4 : ∀ a, a < B → A (170 + 8 * a + 4) = f 9 a ∧ Dy (f 9 a)) (hp : post (nI (ct (fun b => decide (¬ f 9 b = -1)) B))) : P_X10_taken A post := ⟨B + 1, v_takenM hB e5 h4 hp (B + 1) 0 (by omega) (by omega)⟩
theorem s_wideC {f : Nat → Nat → Int32} {w sw b : Nat} {l lo c r : Nat → Nat} {post : Int32 → Prop} (hb : b < 64) (hw : w ≤ 8) (hs : sw ≤ 9) (hc : 1 ≤ c b) (hC : BlC f l lo c r b) (hp : post (nI (200 * c b - ((if 0 < l b then 1 else 0) + (if l b + c b < w then 1 else 0)) * sw))) : P_X5_wideOf (nI b) (nI sw) (nI w) (f 2) (f 4) post := by
  obtain ⟨c1, c2, c3, c4, c5, c6⟩ := hC
  unfold P_X5_wideOf J_X5_wideOf_33
  rw [nI_clamp (by omega), c1, c3, L200, pk_mul]
  have h2 : w ≤ 8 := hw
  refine ⟨vi _ (by omega), fun v2 e2 => ⟨vi _ (by omega), ?_⟩⟩
  rw [e2, L0, nI_leI (by omega) (by decide)]
  refine ⟨fun q => ⟨vi _ (by omega), vi _ (by omega), ?_⟩, fun q v e => ⟨vi _ (by omega), vi _ (by omega), ?_⟩⟩
  · rw [nI_add, nI_leI (by omega) (by omega)]
    rw [if_neg (by omega)] at hp
    refine ⟨fun q2 => ?_, fun q2 v e => ?_⟩
    · rw [if_neg (by omega)] at hp; simpa using hp
    · rw [if_pos (by omega)] at hp
      rw [e, pk_sub (by omega)]; simpa using hp
  · rw [nI_add, nI_leI (by omega) (by omega), e, pk_sub (by omega)]
    rw [if_pos (by omega)] at hp
    refine ⟨fun q2 => ?_, fun q2 v e => ?_⟩
    · rw [if_neg (by omega)] at hp; simpa using hp
    · rw [if_pos (by omega)] at hp
      rw [e, pk_sub (by omega), show 200 * c b - sw - sw = 200 * c b - (1 + 1) * sw by omega]; exact hp
theorem s_wideM {A : Nat → Int32} {w sw b : Nat} {l lo c r : Nat → Nat} {post : Int32 → Prop} (hb : b < 64) (hw : w ≤ 8) (hs : sw ≤ 9) (hc : 1 ≤ c b) (hM : BlM A l lo c r b) (e0 : A 0 = nI w) (e3 : A 3 = nI sw) (hp : post (nI (200 * c b - ((if 0 < l b then 1 else 0) + (if l b + c b < w then 1 else 0)) * sw))) : P_X10_wideOf (nI b) A post := by
  obtain ⟨c1, c2, c3, c4, c5, c6⟩ := hM
  have e0' : A (0 : Int32).toNatClampNeg = nI w := e0
  have e3' : A (3 : Int32).toNatClampNeg = nI sw := e3
  have fin : ∀ k1 k2 : Nat, k1 = (if 0 < l b then 1 else 0) → k2 = (if l b + c b < w then 1 else 0) → J_X10_wideOf_41 (nI b) A post (nI k1) (nI k2) := fun k1 k2 h1 h2 => by
    unfold J_X10_wideOf_41
    intro v ev
    refine s_of (j := 2) hb (by decide) ?_
    have hk : (k1 + k2) * sw ≤ 18 := by
      have : k1 ≤ 1 := by rw [h1]; split <;> omega
      have : k2 ≤ 1 := by rw [h2]; split <;> omega
      calc (k1 + k2) * sw ≤ 2 * 9 := Nat.mul_le_mul (by omega) hs
        _ = 18 := rfl
    rw [c3, e3', ev, nI_add, pk_mul, L200, pk_mul, pk_sub (by omega), h1, h2]
    exact ⟨vi 3 (by decide), hp⟩
  have mid : ∀ k1 : Nat, k1 = (if 0 < l b then 1 else 0) → J_X10_wideOf_14 (nI b) A post (nI k1) := fun k1 h1 => by
    unfold J_X10_wideOf_14
    refine s_of (j := 0) hb (by decide) (s_of (j := 2) hb (by decide) ?_)
    rw [c1, c3, e0', nI_add, nI_leI (by omega) (by omega)]
    exact ⟨vi 0 (by decide), fun q => fin k1 0 h1 (by rw [if_neg (by omega)]), fun q => fin k1 1 h1 (by rw [if_pos (by omega)])⟩
  unfold P_X10_wideOf
  refine s_of (j := 0) hb (by decide) ?_
  rw [c1, L0, nI_leI (by omega) (by decide)]
  exact ⟨fun q => mid 0 (by rw [if_neg (by omega)]), fun q => mid 1 (by rw [if_pos (by omega)])⟩
theorem core_6 (i : Nat → Int32) (f : Nat → Nat → Int32) (sl : Int32) (cost wtt ubr lbr prs : Nat → Int32) (g : Nat → Option Nat) (all has mfew msawn mcut mtodo mpress mgone : Nat → Int32) (y1 : Int32) (y2 : Int32) (NX : Prop) (h : Rel i f all) (hN : NX) : P_X9_block y1 y2 (i 1) (i 3) (i 4) (f 0) (i 5) (f 2) (f 3) (f 4) (f 5) (f 6) (f 7) (f 8) (f 9) (f 10) (fun r => P_X10_block y1 y2 all (fun r' => r = r' ∧ NX)) := by
  obtain ⟨lim, sw, dy, w, h', B, T, pn, O, wt, mo, hh, l, lo, c, r, tn, bA, q, h1, h2, h3, h4, h5, h6⟩ := h
  obtain ⟨-, ⟨s1, s2, s3, s4⟩, -, ⟨w1, w2, w3, w4⟩, ⟨v1, v2, v3, v4⟩⟩ := h1
  obtain ⟨b1, b2, b3, b4⟩ := id h4.1
  have hG := h4.2.2.2
  have hM : ∀ a, a < B → BlM all l lo c r a := fun a ha => h4.blM (by omega) (by omega) ha
  have hD : ∀ a, a < B → all (170 + 8 * a + 4) = f 9 a ∧ Dy (f 9 a) := fun a ha => ⟨(h5.2.1 a ha).1, h5.dy ha⟩
  unfold P_X9_block P_X10_block
  rw [s1, w1, v1, b1]
  refine s_hasP (bsp (fun hc => s_isThere b2 (bsp (fun _ => ⟨rfl, hN⟩) (fun q => absurd q hc))) (fun hc => ?_))
  obtain ⟨b, hb, rfl⟩ := idx (by omega) hc
  have hb64 : b < 64 := by omega
  have hC := h4.blC (by omega) (by omega) hb
  obtain ⟨c1, c2, c3, c4, c5, c6⟩ := id hC
  obtain ⟨m1, m2, m3, m4, m5, m6⟩ := id (hM b hb)
  obtain ⟨-, -, -, -, t1, t2, t3⟩ := h4.2.1 b hb
  obtain ⟨p1, p2, p3⟩ := h5.2.1 b hb
  have gb := hG.1 b hb
  have st : ∀ X : Int32 → Prop, X (bI (0 ≤ nI b ∧ nI b ≤ nI B - 1)) → P_X10_isThere (nI b) all X := fun X hX => s_isThere b2 hX
  refine ⟨fun e0 => ?_, fun n0 => ?_⟩
  · refine ⟨vi _ hb64, ?_⟩
    rw [nI_clamp (by omega), c1]
    refine st _ (bsp (fun q => absurd hc q) (fun _ => ⟨fun _ => (by rw [e0]; exact s_of (j := 0) hb64 (by decide) ⟨m1.symm, hN⟩), fun q => absurd e0 q⟩))
  refine ⟨fun e1 => ?_, fun n1 => ?_⟩
  · refine ⟨vi _ hb64, ?_⟩
    rw [nI_clamp (by omega), c2]
    refine st _ (bsp (fun q => absurd hc q) (fun _ => ⟨fun q => absurd q n0, fun _ => ⟨fun _ => (by rw [e1]; exact s_of (j := 1) hb64 (by decide) ⟨m2.symm, hN⟩), fun q => absurd e1 q⟩⟩))
  refine ⟨fun e2 => ?_, fun n2 => ?_⟩
  · refine ⟨vi _ hb64, ?_⟩
    rw [nI_clamp (by omega), c3]
    refine st _ (bsp (fun q => absurd hc q) (fun _ => ⟨fun q => absurd q n0, fun _ => ⟨fun q => absurd q n1, fun _ => ⟨fun _ => (by rw [e2]; exact s_of (j := 2) hb64 (by decide) ⟨m3.symm, hN⟩), fun q => absurd e2 q⟩⟩⟩))
  refine ⟨fun e3 => ?_, fun n3 => ?_⟩
  · refine ⟨vi _ hb64, ?_⟩
    rw [nI_clamp (by omega), c4]
    refine st _ (bsp (fun q => absurd hc q) (fun _ => ⟨fun q => absurd q n0, fun _ => ⟨fun q => absurd q n1, fun _ => ⟨fun q => absurd q n2, fun _ => ⟨fun _ => (by rw [e3]; exact s_of (j := 3) hb64 (by decide) ⟨m4.symm, hN⟩), fun q => absurd e3 q⟩⟩⟩⟩))
  refine ⟨fun e4 => ?_, fun n4 => ?_⟩
  · unfold P_X5_weightOf
    rw [nI_clamp (by omega), c1, c2, c3, c4]
    refine ⟨vi _ hb64, vi _ hb64, vi _ hb64, vi _ hb64, s_weightC (wt := wt) (by omega) (by omega) (fun k hk => (h2 k hk).1.1) ?_⟩
    exact st _ (bsp (fun q => absurd hc q) (fun _ => ⟨fun q => absurd q n0, fun _ => ⟨fun q => absurd q n1, fun _ => ⟨fun q => absurd q n2, fun _ => ⟨fun q => absurd q n3, fun _ => ⟨fun _ => s_of (j := 0) hb64 (by decide) (s_of (j := 1) hb64 (by decide) (s_of (j := 2) hb64 (by decide) (s_of (j := 3) hb64 (by decide) (by rw [m1, m2, m3, m4]; exact s_weightM (wt := wt) (by omega) (by omega) (fun k hk => (h2 k hk).1.2.1) ⟨rfl, hN⟩)))), fun q => absurd e4 q⟩⟩⟩⟩⟩))
  refine ⟨fun e5 => ?_, fun n5 => ?_⟩
  · refine s_dueC (lo := lo b) hb64 (by omega) c2 h3 ?_
    exact st _ (bsp (fun q => absurd hc q) (fun _ => ⟨fun q => absurd q n0, fun _ => ⟨fun q => absurd q n1, fun _ => ⟨fun q => absurd q n2, fun _ => ⟨fun q => absurd q n3, fun _ => ⟨fun q => absurd q n4, fun _ => ⟨fun _ => s_dueM (lo := lo b) hb64 (by omega) m2 h3 ⟨rfl, hN⟩, fun q => absurd e5 q⟩⟩⟩⟩⟩⟩))
  refine ⟨fun e6 => ?_, fun n6 => ?_⟩
  · refine ⟨vi _ hb64, ?_⟩
    rw [nI_clamp (by omega), t1]
    exact st _ (bsp (fun q => absurd hc q) (fun _ => ⟨fun q => absurd q n0, fun _ => ⟨fun q => absurd q n1, fun _ => ⟨fun q => absurd q n2, fun _ => ⟨fun q => absurd q n3, fun _ => ⟨fun q => absurd q n4, fun _ => ⟨fun q => absurd q n5, fun _ => ⟨fun _ => s_of (j := 6) hb64 (by decide) ⟨t2.symm, hN⟩, fun q => absurd e6 q⟩⟩⟩⟩⟩⟩⟩))
  refine ⟨fun e7 => ?_, fun n7 => ?_⟩
  · refine s_isTaken hb64 (bsp (fun z => ?_) (fun z => ?_))
    · exact st _ (bsp (fun q => absurd hc q) (fun _ => ⟨fun q => absurd q n0, fun _ => ⟨fun q => absurd q n1, fun _ => ⟨fun q => absurd q n2, fun _ => ⟨fun q => absurd q n3, fun _ => ⟨fun q => absurd q n4, fun _ => ⟨fun q => absurd q n5, fun _ => ⟨fun q => absurd q n6, fun _ => ⟨fun _ => s_stands hb64 (hD b hb).1 (hD b hb).2 (bsp (fun y => absurd (Classical.not_not.mp z) y) (fun _ => ⟨rfl, hN⟩)), fun q => absurd e7 q⟩⟩⟩⟩⟩⟩⟩⟩))
    · exact st _ (bsp (fun q => absurd hc q) (fun _ => ⟨fun q => absurd q n0, fun _ => ⟨fun q => absurd q n1, fun _ => ⟨fun q => absurd q n2, fun _ => ⟨fun q => absurd q n3, fun _ => ⟨fun q => absurd q n4, fun _ => ⟨fun q => absurd q n5, fun _ => ⟨fun q => absurd q n6, fun _ => ⟨fun _ => s_stands hb64 (hD b hb).1 (hD b hb).2 (bsp (fun _ => ⟨rfl, hN⟩) (fun y => absurd y z)), fun q => absurd e7 q⟩⟩⟩⟩⟩⟩⟩⟩))
  refine ⟨fun e8 => ?_, fun n8 => ?_⟩
  · refine s_freeC hG w4 v4 b3 hb hC (h4.2.2.1 (by omega)) (bsp (fun z => ?_) (fun z => ?_))
    · exact st _ (bsp (fun q => absurd hc q) (fun _ => ⟨fun q => absurd q n0, fun _ => ⟨fun q => absurd q n1, fun _ => ⟨fun q => absurd q n2, fun _ => ⟨fun q => absurd q n3, fun _ => ⟨fun q => absurd q n4, fun _ => ⟨fun q => absurd q n5, fun _ => ⟨fun q => absurd q n6, fun _ => ⟨fun q => absurd q n7, fun _ => ⟨fun _ => s_freeM b3 hb b2 hM hD (bsp (fun _ => ⟨rfl, hN⟩) (fun y => absurd y z)), fun q => absurd e8 q⟩⟩⟩⟩⟩⟩⟩⟩⟩))
    · exact st _ (bsp (fun q => absurd hc q) (fun _ => ⟨fun q => absurd q n0, fun _ => ⟨fun q => absurd q n1, fun _ => ⟨fun q => absurd q n2, fun _ => ⟨fun q => absurd q n3, fun _ => ⟨fun q => absurd q n4, fun _ => ⟨fun q => absurd q n5, fun _ => ⟨fun q => absurd q n6, fun _ => ⟨fun q => absurd q n7, fun _ => ⟨fun _ => s_freeM b3 hb b2 hM hD (bsp (fun y => absurd z y) (fun _ => ⟨rfl, hN⟩)), fun q => absurd e8 q⟩⟩⟩⟩⟩⟩⟩⟩⟩))
  refine ⟨fun e9 => ?_, fun n9 => ?_⟩
  · refine ⟨vi _ hb64, ?_⟩
    rw [nI_clamp (by omega)]
    exact st _ (bsp (fun q => absurd hc q) (fun _ => ⟨fun q => absurd q n0, fun _ => ⟨fun q => absurd q n1, fun _ => ⟨fun q => absurd q n2, fun _ => ⟨fun q => absurd q n3, fun _ => ⟨fun q => absurd q n4, fun _ => ⟨fun q => absurd q n5, fun _ => ⟨fun q => absurd q n6, fun _ => ⟨fun q => absurd q n7, fun _ => ⟨fun q => absurd q n8, fun _ => ⟨fun _ => s_of (j := 5) hb64 (by decide) ⟨p2.symm, hN⟩, fun q => absurd e9 q⟩⟩⟩⟩⟩⟩⟩⟩⟩⟩))
  refine ⟨fun e10 => ?_, fun n10 => ?_⟩
  · refine s_wideC hb64 w4 s4 gb.1 hC ?_
    exact st _ (bsp (fun q => absurd hc q) (fun _ => ⟨fun q => absurd q n0, fun _ => ⟨fun q => absurd q n1, fun _ => ⟨fun q => absurd q n2, fun _ => ⟨fun q => absurd q n3, fun _ => ⟨fun q => absurd q n4, fun _ => ⟨fun q => absurd q n5, fun _ => ⟨fun q => absurd q n6, fun _ => ⟨fun q => absurd q n7, fun _ => ⟨fun q => absurd q n8, fun _ => ⟨fun q => absurd q n9, fun _ => ⟨fun _ => s_wideM hb64 w4 s4 gb.1 (hM b hb) w2 s2 ⟨rfl, hN⟩, fun q => absurd e10 q⟩⟩⟩⟩⟩⟩⟩⟩⟩⟩⟩))
  refine ⟨fun e11 => ?_, fun n11 => ?_⟩
  · refine ⟨vi _ hb64, ?_⟩
    rw [nI_clamp (by omega)]
    exact st _ (bsp (fun q => absurd hc q) (fun _ => ⟨fun q => absurd q n0, fun _ => ⟨fun q => absurd q n1, fun _ => ⟨fun q => absurd q n2, fun _ => ⟨fun q => absurd q n3, fun _ => ⟨fun q => absurd q n4, fun _ => ⟨fun q => absurd q n5, fun _ => ⟨fun q => absurd q n6, fun _ => ⟨fun q => absurd q n7, fun _ => ⟨fun q => absurd q n8, fun _ => ⟨fun q => absurd q n9, fun _ => ⟨fun q => absurd q n10, fun _ => ⟨fun _ => s_of (j := 4) hb64 (by decide) ⟨p1.symm, hN⟩, fun q => absurd e11 q⟩⟩⟩⟩⟩⟩⟩⟩⟩⟩⟩⟩))
  exact st _ (bsp (fun q => absurd hc q) (fun _ => ⟨fun q => absurd q n0, fun _ => ⟨fun q => absurd q n1, fun _ => ⟨fun q => absurd q n2, fun _ => ⟨fun q => absurd q n3, fun _ => ⟨fun q => absurd q n4, fun _ => ⟨fun q => absurd q n5, fun _ => ⟨fun q => absurd q n6, fun _ => ⟨fun q => absurd q n7, fun _ => ⟨fun q => absurd q n8, fun _ => ⟨fun q => absurd q n9, fun _ => ⟨fun q => absurd q n10, fun _ => ⟨fun q => absurd q n11, fun _ => ⟨rfl, hN⟩⟩⟩⟩⟩⟩⟩⟩⟩⟩⟩⟩⟩))
theorem core_18 (i : Nat → Int32) (f : Nat → Nat → Int32) (sl : Int32) (cost wtt ubr lbr prs : Nat → Int32) (g : Nat → Option Nat) (all has mfew msawn mcut mtodo mpress mgone : Nat → Int32) (y1 : Int32) (NX : Prop) (h : Rel i f all) (hN : NX) : P_X9_count y1 (i 0) (i 1) (i 2) (i 3) (i 4) (f 0) (i 5) (i 6) (i 7) (i 8) (i 9) (fun r => P_X10_count y1 all (fun r' => r = r' ∧ NX)) := by
  obtain ⟨lim, sw, dy, w, h', B, T, pn, O, wt, mo, hh, l, lo, c, r, tn, bA, q, h1, h2, h3, h4, h5, h6⟩ := h
  obtain ⟨⟨l1, l2, -, -⟩, ⟨s1, s2, s3, s4⟩, ⟨d1, d2, -⟩, ⟨w1, w2, w3, w4⟩, ⟨v1, v2, v3, v4⟩⟩ := h1
  obtain ⟨b1, b2, b3, b4⟩ := id h4.1
  obtain ⟨t1, t2, t3, t4, t5, t6⟩ := id h5.1
  have hD : ∀ a, a < B → all (170 + 8 * a + 4) = f 9 a ∧ Dy (f 9 a) := fun a ha => ⟨(h5.2.1 a ha).1, h5.dy ha⟩
  have a0 : all (0 : Int32).toNatClampNeg = nI w := w2
  have a1 : all (1 : Int32).toNatClampNeg = nI h' := v2
  unfold P_X9_count P_X10_count
  refine ⟨fun e0 => ?_, fun n0 => ?_⟩
  · exact ⟨fun _ => ⟨vi 0 (by decide), by rw [w1]; exact w2.symm, hN⟩, fun q => absurd e0 q⟩
  refine ⟨fun e1 => ?_, fun n1 => ?_⟩
  · exact ⟨fun q => absurd q n0, fun _ => ⟨fun _ => ⟨vi 1 (by decide), by rw [v1]; exact v2.symm, hN⟩, fun q => absurd e1 q⟩⟩
  refine ⟨fun e2 => ?_, fun n2 => ?_⟩
  · exact ⟨fun q => absurd q n0, fun _ => ⟨fun q => absurd q n1, fun _ => ⟨fun _ => ⟨vi 5 (by decide), by rw [b1]; exact b2.symm, hN⟩, fun q => absurd e2 q⟩⟩⟩
  refine ⟨fun e3 => ?_, fun n3 => ?_⟩
  · exact ⟨fun q => absurd q n0, fun _ => ⟨fun q => absurd q n1, fun _ => ⟨fun q => absurd q n2, fun _ => ⟨fun _ => s_takenM b3 b2 hD ⟨by rw [t1, ← t6], hN⟩, fun q => absurd e3 q⟩⟩⟩⟩
  refine ⟨fun e4 => ?_, fun n4 => ?_⟩
  · exact ⟨fun q => absurd q n0, fun _ => ⟨fun q => absurd q n1, fun _ => ⟨fun q => absurd q n2, fun _ => ⟨fun q => absurd q n3, fun _ => ⟨fun _ => ⟨vi 6 (by decide), b4.symm, hN⟩, fun q => absurd e4 q⟩⟩⟩⟩⟩
  refine ⟨fun e5 => ?_, fun n5 => ?_⟩
  · exact ⟨fun q => absurd q n0, fun _ => ⟨fun q => absurd q n1, fun _ => ⟨fun q => absurd q n2, fun _ => ⟨fun q => absurd q n3, fun _ => ⟨fun q => absurd q n4, fun _ => ⟨fun _ => ⟨vi 7 (by decide), by rw [t2]; exact t3.symm, hN⟩, fun q => absurd e5 q⟩⟩⟩⟩⟩⟩
  refine ⟨fun e6 => ?_, fun n6 => ?_⟩
  · exact ⟨fun q => absurd q n0, fun _ => ⟨fun q => absurd q n1, fun _ => ⟨fun q => absurd q n2, fun _ => ⟨fun q => absurd q n3, fun _ => ⟨fun q => absurd q n4, fun _ => ⟨fun q => absurd q n5, fun _ => ⟨fun _ => ⟨vi 4 (by decide), by rw [d1]; exact d2.symm, hN⟩, fun q => absurd e6 q⟩⟩⟩⟩⟩⟩⟩
  refine ⟨fun e7 => ?_, fun n7 => ?_⟩
  · rw [w1, v1]
    refine s_weightC (x := 0) (y := 0) (wt := wt) (by omega) (by omega) (fun k hk => (h2 k hk).1.1) ?_
    exact ⟨fun q => absurd q n0, fun _ => ⟨fun q => absurd q n1, fun _ => ⟨fun q => absurd q n2, fun _ => ⟨fun q => absurd q n3, fun _ => ⟨fun q => absurd q n4, fun _ => ⟨fun q => absurd q n5, fun _ => ⟨fun q => absurd q n6, fun _ => ⟨fun _ => ⟨vi 0 (by decide), vi 1 (by decide), by rw [a0, a1]; exact s_weightM (x := 0) (y := 0) (wt := wt) (by omega) (by omega) (fun k hk => (h2 k hk).1.2.1) ⟨rfl, hN⟩⟩, fun q => absurd e7 q⟩⟩⟩⟩⟩⟩⟩⟩
  refine ⟨fun e8 => ?_, fun n8 => ?_⟩
  · exact ⟨fun q => absurd q n0, fun _ => ⟨fun q => absurd q n1, fun _ => ⟨fun q => absurd q n2, fun _ => ⟨fun q => absurd q n3, fun _ => ⟨fun q => absurd q n4, fun _ => ⟨fun q => absurd q n5, fun _ => ⟨fun q => absurd q n6, fun _ => ⟨fun q => absurd q n7, fun _ => ⟨fun _ => ⟨vi 2 (by decide), by rw [l1]; exact l2.symm, hN⟩, fun q => absurd e8 q⟩⟩⟩⟩⟩⟩⟩⟩⟩
  refine ⟨fun e9 => ?_, fun n9 => ?_⟩
  · exact ⟨fun q => absurd q n0, fun _ => ⟨fun q => absurd q n1, fun _ => ⟨fun q => absurd q n2, fun _ => ⟨fun q => absurd q n3, fun _ => ⟨fun q => absurd q n4, fun _ => ⟨fun q => absurd q n5, fun _ => ⟨fun q => absurd q n6, fun _ => ⟨fun q => absurd q n7, fun _ => ⟨fun q => absurd q n8, fun _ => ⟨fun _ => ⟨vi 3 (by decide), by rw [s1]; exact s2.symm, hN⟩, fun q => absurd e9 q⟩⟩⟩⟩⟩⟩⟩⟩⟩⟩
  refine ⟨fun e10 => ?_, fun n10 => ?_⟩
  · exact ⟨fun q => absurd q n0, fun _ => ⟨fun q => absurd q n1, fun _ => ⟨fun q => absurd q n2, fun _ => ⟨fun q => absurd q n3, fun _ => ⟨fun q => absurd q n4, fun _ => ⟨fun q => absurd q n5, fun _ => ⟨fun q => absurd q n6, fun _ => ⟨fun q => absurd q n7, fun _ => ⟨fun q => absurd q n8, fun _ => ⟨fun q => absurd q n9, fun _ => ⟨fun _ => ⟨vi 8 (by decide), by rw [h6.1]; exact h6.2.1.symm, hN⟩, fun q => absurd e10 q⟩⟩⟩⟩⟩⟩⟩⟩⟩⟩⟩
  exact ⟨fun q => absurd q n0, fun _ => ⟨fun q => absurd q n1, fun _ => ⟨fun q => absurd q n2, fun _ => ⟨fun q => absurd q n3, fun _ => ⟨fun q => absurd q n4, fun _ => ⟨fun q => absurd q n5, fun _ => ⟨fun q => absurd q n6, fun _ => ⟨fun q => absurd q n7, fun _ => ⟨fun q => absurd q n8, fun _ => ⟨fun q => absurd q n9, fun _ => ⟨fun q => absurd q n10, fun _ => ⟨rfl, hN⟩⟩⟩⟩⟩⟩⟩⟩⟩⟩⟩⟩
