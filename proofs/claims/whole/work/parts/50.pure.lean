/-- the first row and the first column of corners stay empty -/
def SW (F : Nat → Int32) : Prop := ∀ r c, r ≤ 8 → c ≤ 8 → (r = 0 ∨ c = 0) → F (9 * r + c) = 0
/-! numbers: Int32 as naturals -/
def mOne : Int32 := -1
theorem neg_nI1 : -nI 1 = mOne := by decide
theorem neg_1 : (-1 : Int32) = mOne := rfl
theorem mOne_ne {k : Nat} (h : k < 2 ^ 31) : ¬ mOne = nI k := fun e => by
  have h1 := congrArg Int32.toInt e
  rw [nI_toInt h] at h1
  have h2 : mOne.toInt = -1 := by decide
  omega
theorem ne_mOne {k : Nat} (h : k < 2 ^ 31) : ¬ nI k = mOne := fun e => mOne_ne h e.symm
theorem mOne_neg : mOne < nI 0 := by decide
theorem mOne_nle : ¬ nI 0 ≤ mOne := by decide
theorem vin {k n : Nat} (hk : k < 2 ^ 31) : vp_in (nI k) n ↔ k < n := by
  rw [vp_in_iff, nI_toInt hk]
  omega
theorem upd_eq {f : Nat → Int32} {k : Nat} {x : Int32} : upd f k x k = x := by simp [upd]
theorem upd_ne {f : Nat → Int32} {k j : Nat} {x : Int32} (h : j ≠ k) : upd f k x j = f j := by simp [upd, h]
theorem upd_at {f : Nat → Int32} {k j : Nat} {x : Int32} : upd f k x j = if j = k then x else f j := rfl
theorem L0 : (0 : Int32) = nI 0 := rfl
theorem L1 : (1 : Int32) = nI 1 := rfl
theorem L2 : (2 : Int32) = nI 2 := rfl
theorem L3 : (3 : Int32) = nI 3 := rfl
theorem L4 : (4 : Int32) = nI 4 := rfl
theorem L5 : (5 : Int32) = nI 5 := rfl
theorem L6 : (6 : Int32) = nI 6 := rfl
theorem L7 : (7 : Int32) = nI 7 := rfl
theorem L8 : (8 : Int32) = nI 8 := rfl
theorem L9 : (9 : Int32) = nI 9 := rfl
theorem L10 : (10 : Int32) = nI 10 := rfl
theorem L11 : (11 : Int32) = nI 11 := rfl
theorem L12 : (12 : Int32) = nI 12 := rfl
theorem L30 : (30 : Int32) = nI 30 := rfl
theorem L36 : (36 : Int32) = nI 36 := rfl
theorem L50 : (50 : Int32) = nI 50 := rfl
theorem L64 : (64 : Int32) = nI 64 := rfl
theorem L100 : (100 : Int32) = nI 100 := rfl
theorem L128 : (128 : Int32) = nI 128 := rfl
theorem L170 : (170 : Int32) = nI 170 := rfl
theorem L200 : (200 : Int32) = nI 200 := rfl
theorem L256 : (256 : Int32) = nI 256 := rfl
theorem L690 : (690 : Int32) = nI 690 := rfl
theorem L760 : (760 : Int32) = nI 760 := rfl
theorem L830 : (830 : Int32) = nI 830 := rfl
theorem L3200 : (3200 : Int32) = nI 3200 := rfl
theorem L5000 : (5000 : Int32) = nI 5000 := rfl
theorem L100000 : (100000 : Int32) = nI 100000 := rfl
theorem L1048576 : (1048576 : Int32) = nI 1048576 := rfl
/-- a boolean as an int -/
noncomputable def bI (c : Prop) : Int32 := @ite _ c (Classical.propDecidable c) 1 0
theorem bI_t {c : Prop} (h : c) : bI c = 1 := @if_pos c (Classical.propDecidable c) h _ _ _
theorem bI_f {c : Prop} (h : ¬ c) : bI c = 0 := @if_neg c (Classical.propDecidable c) h _ _ _
theorem bI_01 (c : Prop) : bI c = 0 ∨ bI c = 1 := (Classical.em c).elim (fun h => Or.inr (bI_t h)) (fun h => Or.inl (bI_f h))
theorem bI_0 {c : Prop} : bI c = 0 ↔ ¬ c := ⟨fun h q => by rw [bI_t q] at h; exact absurd h (by decide), bI_f⟩
/-- a branch on a boolean -/
theorem bsp {c : Prop} {A B : Prop} (hf : ¬ c → A) (ht : c → B) : (bI c = 0 → A) ∧ (¬ bI c = 0 → B) := ⟨fun h => hf (bI_0.mp h), fun h => ht (Classical.not_not.mp (fun q => h (bI_0.mpr q)))⟩
theorem bI_congr {c d : Prop} (h : c ↔ d) : bI c = bI d := by rw [propext h]
theorem i32_lt {a b : Int32} : a < b ↔ a.toInt < b.toInt := Int32.lt_iff_toInt_lt
theorem i32_le {a b : Int32} : a ≤ b ↔ a.toInt ≤ b.toInt := Int32.le_iff_toInt_le
theorem i32_nlt {a b : Int32} : ¬ a < b ↔ b ≤ a := by rw [i32_lt, i32_le]; omega
theorem i32_nle {a b : Int32} : ¬ a ≤ b ↔ b < a := by rw [i32_lt, i32_le]; omega
/-- a number in a range of naturals -/
theorem rng {y : Int32} {a b : Nat} (ha : a < 2 ^ 31) (hb : b < 2 ^ 31) (h : nI a ≤ y ∧ y ≤ nI b) : ∃ k, a ≤ k ∧ k ≤ b ∧ y = nI k := by
  have h1 := i32_le.mp h.1
  rw [nI_toInt ha] at h1
  have h0 : ¬ y < 0 := fun q => by
    have := i32_lt.mp q
    have e0 : (0 : Int32).toInt = 0 := by decide
    omega
  obtain ⟨j, hj, e⟩ := nI_of h0
  subst e
  exact ⟨j, (nI_leI ha hj).mp h.1, (nI_leI hj hb).mp h.2, rfl⟩
theorem s_within {x a b : Int32} {post : Int32 → Prop} (h : post (bI (a ≤ x ∧ x ≤ b))) : P_X9_within x a b post := by
  unfold P_X9_within
  refine ⟨fun q => ?_, fun q => ⟨fun q2 => ?_, fun q2 => ?_⟩⟩
  · rwa [bI_f (fun c => i32_nlt.mpr c.1 q)] at h
  · rwa [bI_f (fun c => i32_nlt.mpr c.2 q2)] at h
  · rwa [bI_t ⟨i32_nlt.mp q, i32_nlt.mp q2⟩] at h
theorem s_isIn {x a b : Int32} {post : Int32 → Prop} (h : post (bI (a ≤ x ∧ x ≤ b))) : P_X10_isIn x a b post := by
  unfold P_X10_isIn
  refine ⟨fun q => ?_, fun q => ⟨fun q2 => ?_, fun q2 => ?_⟩⟩
  · rwa [bI_f (fun c => i32_nlt.mpr c.1 q)] at h
  · rwa [bI_f (fun c => i32_nlt.mpr c.2 q2)] at h
  · rwa [bI_t ⟨i32_nlt.mp q, i32_nlt.mp q2⟩] at h
theorem s_place {x y : Int32} {post : Int32 → Prop} (h : post (y * 8 + x)) : P_X9_place x y post := h

theorem RSc.view {i A A' : Nat → Int32} {lim sw dy w h : Nat} (H : RSc i A lim sw dy w h) (ha : ∀ j, j < 5 → A' j = A j) : RSc i A' lim sw dy w h := by
  unfold RSc at *
  rw [ha 2 (by omega), ha 3 (by omega), ha 4 (by omega), ha 0 (by omega), ha 1 (by omega)]
  exact H
theorem RWl.view {f : Nat → Nat → Int32} {A A' : Nat → Int32} {wt mo : Nat → Nat} (H : RWl f A wt mo) (ha : ∀ j, 30 ≤ j → j < 164 → A' j = A j) : RWl f A' wt mo := by
  intro k hk
  rw [ha (30 + k) (by omega) (by omega), ha (100 + k) (by omega) (by omega)]
  exact H k hk
theorem RRv.view {f : Nat → Nat → Int32} {A A' : Nat → Int32} {hh : Nat → Nat} (H : RRv f A hh) (ha : ∀ j, 10 ≤ j → j < 22 → A' j = A j) : RRv f A' hh := by
  intro k hk
  rw [ha (10 + k) (by omega) (by omega)]
  exact H k hk
theorem RPl.view {i : Nat → Int32} {f : Nat → Nat → Int32} {A A' : Nat → Int32} {w h B : Nat} {l lo c r tn bA : Nat → Nat} (H : RPl i f A w h B l lo c r tn bA) (h5 : A' 5 = A 5) (h6 : A' 6 = A 6) (ha : ∀ b j, b < B → j < 8 → j ≠ 4 → j ≠ 5 → A' (170 + 8 * b + j) = A (170 + 8 * b + j)) : RPl i f A' w h B l lo c r tn bA := by
  refine ⟨by rw [h5, h6]; exact H.1, fun b hb => ?_, H.2.2⟩
  rw [show A' (170 + 8 * b) = A (170 + 8 * b) from ha b 0 hb (by omega) (by omega) (by omega), ha b 1 hb (by omega) (by omega) (by omega), ha b 2 hb (by omega) (by omega) (by omega), ha b 3 hb (by omega) (by omega) (by omega), ha b 6 hb (by omega) (by omega) (by omega)]
  exact H.2.1 b hb
theorem RYd.view {i : Nat → Int32} {f : Nat → Nat → Int32} {A A' : Nat → Int32} {B T pn : Nat} {l lo c r q : Nat → Nat} (H : RYd i f A B T pn l lo c r q) (h7 : A' 7 = A 7) (ha : ∀ b j, b < B → (j = 4 ∨ j = 5) → A' (170 + 8 * b + j) = A (170 + 8 * b + j)) (hq : ∀ k, k < T → A' (760 + k) = A (760 + k)) : RYd i f A' B T pn l lo c r q := by
  refine ⟨by rw [h7]; exact H.1, fun b hb => ?_, fun k hk => ?_, H.2.2.2⟩
  · rw [ha b 4 hb (Or.inl rfl), ha b 5 hb (Or.inr rfl)]
    exact H.2.1 b hb
  · rw [hq k hk]
    exact H.2.2.1 k hk
theorem ROd.view {i : Nat → Int32} {f : Nat → Nat → Int32} {A A' : Nat → Int32} {O : Nat} (H : ROd i f A O) (h8 : A' 8 = A 8) (ha : ∀ k, k < O → A' (690 + k) = A (690 + k)) : ROd i f A' O := by
  refine ⟨H.1, by rw [h8]; exact H.2.1, H.2.2.1, fun k hk => ?_⟩
  rw [ha k hk]
  exact H.2.2.2 k hk
theorem vi (k : Nat) {n : Nat} (h : k < n) (hn : n < 2 ^ 31 := by decide) : vp_in (nI k) n := vp_in_nI h hn
theorem ix170 (b j : Nat) : (170 + 8 * nI b) + nI j = nI (170 + 8 * b + j) := by rw [L170, L8, pk_mul, nI_add, nI_add]
theorem s_of {b j : Nat} {all : Nat → Int32} {post : Int32 → Prop} (hb : b < 64) (hj : j < 8) (h : post (all (170 + 8 * b + j))) : P_X10_of (nI b) (nI j) all post := by
  unfold P_X10_of
  rw [ix170, nI_clamp (by omega)]
  exact ⟨vi _ (by omega), h⟩
theorem vaup_eq {α : Type} {f : Nat → α} {k : Nat} {x : α} : va_up f k x k = x := by simp [va_up]
theorem vaup_ne {α : Type} {f : Nat → α} {k j : Nat} {x : α} (h : j ≠ k) : va_up f k x j = f j := by simp [va_up, h]
theorem idx {x : Int32} {B : Nat} (hB : B < 2 ^ 30) (h : 0 ≤ x ∧ x ≤ nI B - 1) : ∃ k, k < B ∧ x = nI k := by
  rcases Nat.eq_zero_or_pos B with q | q
  · subst q
    have h1 := i32_le.mp h.1
    have h2 := i32_le.mp h.2
    have e1 : (nI 0 - 1).toInt = -1 := by decide
    have e2 : (0 : Int32).toInt = 0 := by decide
    omega
  · rw [L1, pk_sub (by omega)] at h
    obtain ⟨k, _, h2, e⟩ := rng (a := 0) (by decide) (by omega) h
    exact ⟨k, by omega, e⟩
theorem idx_in {k B : Nat} (hB : B < 2 ^ 30) (h : k < B) : 0 ≤ nI k ∧ nI k ≤ nI B - 1 := by
  rw [L1, pk_sub (by omega)]
  exact ⟨nI_pos' (by omega), nI_le (by omega) (by omega)⟩
theorem s_hasP {x B : Int32} {post : Int32 → Prop} (h : post (bI (0 ≤ x ∧ x ≤ B - 1))) : P_X2_has x B post := s_within ⟨bI_01 _, h⟩
theorem s_isThere {x : Int32} {B : Nat} {all : Nat → Int32} {post : Int32 → Prop} (e : all 5 = nI B) (h : post (bI (0 ≤ x ∧ x ≤ nI B - 1))) : P_X10_isThere x all post := by
  have e' : all (5 : Int32).toNatClampNeg = nI B := e
  unfold P_X10_isThere
  rw [e']
  exact ⟨vi 5 (by decide), s_isIn ⟨bI_01 _, h⟩⟩
theorem s_hasW {x y : Int32} {w h : Int32} {post : Int32 → Prop} (H : post (bI ((0 ≤ x ∧ x ≤ w - 1) ∧ (0 ≤ y ∧ y ≤ h - 1)))) : P_X7_has x y w h post := by
  unfold P_X7_has
  refine s_within (bsp (fun q => ?_) (fun q => s_within (bsp (fun q2 => ?_) (fun q2 => ?_))))
  · rwa [bI_f (fun z => q z.1)] at H
  · rwa [bI_f (fun z => q2 z.2)] at H
  · rwa [bI_t ⟨q, q2⟩] at H
/-- a block's numbers, in the class's rows -/
def BlC (f : Nat → Nat → Int32) (l lo c r : Nat → Nat) (b : Nat) : Prop := f 2 b = nI (l b) ∧ f 3 b = nI (lo b) ∧ f 4 b = nI (c b) ∧ f 5 b = nI (r b) ∧ l b + c b ≤ 8 ∧ lo b + r b ≤ 8
/-- a block's numbers, in the reference's row -/
def BlM (A : Nat → Int32) (l lo c r : Nat → Nat) (b : Nat) : Prop := A (170 + 8 * b + 0) = nI (l b) ∧ A (170 + 8 * b + 1) = nI (lo b) ∧ A (170 + 8 * b + 2) = nI (c b) ∧ A (170 + 8 * b + 3) = nI (r b) ∧ l b + c b ≤ 8 ∧ lo b + r b ≤ 8
theorem RPl.blC {i : Nat → Int32} {f : Nat → Nat → Int32} {A : Nat → Int32} {w h B : Nat} {l lo c r tn bA : Nat → Nat} (H : RPl i f A w h B l lo c r tn bA) (hw : w ≤ 8) (hh : h ≤ 8) {b : Nat} (hb : b < B) : BlC f l lo c r b := by
  obtain ⟨h1, h2, h3, h4⟩ := H
  obtain ⟨a1, a2, a3, a4, a5⟩ := h2 b hb
  have := h4.1 b hb
  exact ⟨a1.1, a2.1, a3.1, a4.1, by omega, by omega⟩
theorem RPl.blM {i : Nat → Int32} {f : Nat → Nat → Int32} {A : Nat → Int32} {w h B : Nat} {l lo c r tn bA : Nat → Nat} (H : RPl i f A w h B l lo c r tn bA) (hw : w ≤ 8) (hh : h ≤ 8) {b : Nat} (hb : b < B) : BlM A l lo c r b := by
  obtain ⟨h1, h2, h3, h4⟩ := H
  obtain ⟨a1, a2, a3, a4, a5⟩ := h2 b hb
  have := h4.1 b hb
  exact ⟨a1.2, a2.2, a3.2, a4.2, by omega, by omega⟩
theorem s_abvC {f : Nat → Nat → Int32} {l lo c r : Nat → Nat} {a b : Nat} {post : Int32 → Prop} (ha : a < 64) (hb : b < 64) (A : BlC f l lo c r a) (B : BlC f l lo c r b) (h : post (bI (abv l lo c r a b))) : P_X2_isAbove (nI a) (nI b) (f 2) (f 3) (f 4) (f 5) post := by
  obtain ⟨a1, a2, a3, a4, a5, a6⟩ := A
  obtain ⟨b1, b2, b3, b4, b5, b6⟩ := B
  have h0 : ¬ abv l lo c r a b → post 0 := fun q => by rwa [bI_f q] at h
  have h1 : abv l lo c r a b → post 1 := fun q => by rwa [bI_t q] at h
  unfold P_X2_isAbove
  simp (disch := omega) only [nI_clamp, vin, a1, a2, a3, a4, b1, b2, b3, b4, nI_add, nI_eq, nI_leI, ha, hb, true_and]
  unfold abv at h0 h1
  exact ⟨fun q => ⟨fun q2 => h0 (by omega), fun q2 => ⟨fun q3 => h0 (by omega), fun q3 => h1 (by omega)⟩⟩, fun q => h0 (by omega)⟩
theorem s_abvM {A : Nat → Int32} {l lo c r : Nat → Nat} {a b : Nat} {post : Int32 → Prop} (ha : a < 64) (hb : b < 64) (HA : BlM A l lo c r a) (HB : BlM A l lo c r b) (h : post (bI (abv l lo c r a b))) : P_X10_isAbove (nI a) (nI b) A post := by
  obtain ⟨a1, a2, a3, a4, a5, a6⟩ := HA
  obtain ⟨b1, b2, b3, b4, b5, b6⟩ := HB
  have h0 : ¬ abv l lo c r a b → post 0 := fun q => by rwa [bI_f q] at h
  have h1 : abv l lo c r a b → post 1 := fun q => by rwa [bI_t q] at h
  unfold abv at h0 h1
  unfold P_X10_isAbove
  refine s_of (j := 1) ha (by decide) (s_of (j := 1) hb (by decide) (s_of (j := 3) hb (by decide) ?_))
  rw [a2, b2, b4, nI_add, nI_eq (by omega) (by omega)]
  refine ⟨fun q => s_of (j := 0) ha (by decide) (s_of (j := 0) hb (by decide) (s_of (j := 2) hb (by decide) ?_)), fun q => h0 (by omega)⟩
  rw [a1, b1, b3, nI_add, nI_leI (by omega) (by omega)]
  refine ⟨fun q2 => h0 (by omega), fun q2 => s_of (j := 0) hb (by decide) (s_of (j := 0) ha (by decide) (s_of (j := 2) ha (by decide) ?_))⟩
  rw [b1, a1, a3, nI_add, nI_leI (by omega) (by omega)]
  exact ⟨fun q3 => h0 (by omega), fun q3 => h1 (by omega)⟩
