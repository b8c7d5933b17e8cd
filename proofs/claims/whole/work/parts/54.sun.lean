/-! the sun: Int32 as integers -/
theorem bI_iff {c d : Prop} (h : bI c = bI d) : c ↔ d := by
  by_cases hc : c <;> by_cases hd : d
  · exact ⟨fun _ => hd, fun _ => hc⟩
  · rw [bI_t hc, bI_f hd] at h; exact absurd h (by decide)
  · rw [bI_f hc, bI_t hd] at h; exact absurd h (by decide)
  · exact ⟨fun q => absurd q hc, fun q => absurd q hd⟩
def zI (z : Int) : Int32 := Int32.ofInt z
theorem zI_add (a b : Int) : zI a + zI b = zI (a + b) := (Int32.ofInt_add a b).symm
theorem zI_sub (a b : Int) : zI a - zI b = zI (a - b) := (Int32.ofInt_sub a b).symm
theorem zI_neg (a : Int) : -zI a = zI (-a) := (Int32.ofInt_neg a).symm
theorem nz (n : Nat) : nI n = zI (n : Int) := Int32.ofInt_eq_ofNat.symm
theorem zI_toInt {z : Int} (h1 : -2000000 ≤ z) (h2 : z ≤ 2000000) : (zI z).toInt = z := Int32.toInt_ofInt_of_le (by omega) (by omega)
theorem zI_le {a b : Int} (h1 : -2000000 ≤ a ∧ a ≤ 2000000) (h2 : -2000000 ≤ b ∧ b ≤ 2000000) : zI a ≤ zI b ↔ a ≤ b := by rw [i32_le, zI_toInt h1.1 h1.2, zI_toInt h2.1 h2.2]
theorem zI_lt {a b : Int} (h1 : -2000000 ≤ a ∧ a ≤ 2000000) (h2 : -2000000 ≤ b ∧ b ≤ 2000000) : zI a < zI b ↔ a < b := by rw [i32_lt, zI_toInt h1.1 h1.2, zI_toInt h2.1 h2.2]
theorem zrng {y : Int32} {a b : Int} (ha : -2000000 ≤ a ∧ a ≤ 2000000) (hb : -2000000 ≤ b ∧ b ≤ 2000000) (h : zI a ≤ y ∧ y ≤ zI b) : ∃ z, a ≤ z ∧ z ≤ b ∧ y = zI z := by
  have h1 := i32_le.mp h.1
  have h2 := i32_le.mp h.2
  rw [zI_toInt ha.1 ha.2] at h1
  rw [zI_toInt hb.1 hb.2] at h2
  exact ⟨y.toInt, h1, h2, (Int32.ofInt_toInt y).symm⟩
theorem ct_cong {p q : Nat → Bool} : ∀ {n : Nat}, (∀ k, k < n → p k = q k) → ct p n = ct q n := by
  intro n
  induction n with
  | zero => intro _; rfl
  | succ n ih =>
    intro h
    rw [ct, ct, ih (fun k hk => h k (by omega)), h n (by omega)]
theorem ct_le (p : Nat → Bool) : ∀ n, ct p n ≤ n := by
  intro n
  induction n with
  | zero => exact Nat.le_refl 0
  | succ n ih => rw [ct]; split <;> omega
theorem ct_sum {p q r : Nat → Bool} (h : ∀ k, (if p k then 1 else 0) + (if q k then 1 else 0) = (if r k then 1 else 0 : Nat)) : ∀ n, ct p n + ct q n = ct r n := by
  intro n
  induction n with
  | zero => rfl
  | succ n ih => rw [ct, ct, ct]; have := h n; omega
theorem ct_iv (a b : Nat) : ∀ n, ct (fun d => decide (a ≤ d ∧ d ≤ b)) n = min n (b + 1) - a := by
  intro n
  induction n with
  | zero => rw [ct]; omega
  | succ n ih =>
    rw [ct, ih]
    by_cases h : a ≤ n ∧ n ≤ b
    · rw [if_pos (by simpa using h)]; omega
    · rw [if_neg (by simpa using h)]; omega
/-- the sun's direction on a day -/
def dirZ (d : Nat) : Int := (if 0 ≤ (4 * (d : Int) - 730) then 4 * (d : Int) - 730 else 0 - (4 * (d : Int) - 730)) - 365
theorem dirZ_b (d : Nat) (hd : d < 365) : -363 ≤ dirZ d ∧ dirZ d ≤ 365 := by unfold dirZ; split <;> omega
theorem e4d {d : Nat} (hd : d < 365) : (4 * nI d) - (4 * nI d) / 1460 * 1460 - 730 = zI (4 * (d : Int) - 730) := by
  have e1 : (4 * nI d) - (4 * nI d) / 1460 * 1460 = nI (4 * d) := by
    rw [L4, pk_mul]
    have := pk_rem (a := 4 * d) (d := 1460) (by omega) (by decide) (by decide)
    rw [show (1460 : Int32) = nI 1460 from rfl, this, Nat.mod_eq_of_lt (by omega)]
  rw [e1, nz, show (730 : Int32) = zI 730 from rfl, zI_sub]
  congr 1
theorem s_dirC {d : Nat} {post : Int32 → Prop} (hd : d < 365) (h : post (zI (dirZ d))) : P_X6_direction (nI d) post := by
  unfold P_X6_direction
  rw [e4d hd]
  intro m em
  rw [em, show (0 : Int32) = zI 0 from rfl, show (365 : Int32) = zI 365 from rfl]
  unfold dirZ at h
  split at h
  · rw [if_pos (by rw [zI_le (by omega) (by omega)]; assumption), zI_sub]; exact h
  · rw [if_neg (by rw [zI_le (by omega) (by omega)]; assumption), zI_sub, zI_sub]; exact h
theorem s_dirM {d : Nat} {post : Int32 → Prop} (hd : d < 365) (h : post (zI (dirZ d))) : P_X10_direction (nI d) post := by
  unfold P_X10_direction
  rw [e4d hd]
  intro m em
  rw [em, show (0 : Int32) = zI 0 from rfl, show (365 : Int32) = zI 365 from rfl, zI_le (by omega) (by omega)]
  unfold dirZ at h
  refine ⟨fun q => ?_, fun q => ?_⟩
  · rw [if_pos q] at h
    rw [zI_sub]; exact h
  · rw [if_neg q] at h
    rw [zI_neg, zI_sub, show -(4 * (d : Int) - 730) = 0 - (4 * (d : Int) - 730) by omega]; exact h
theorem core_15 (i : Nat → Int32) (f : Nat → Nat → Int32) (sl : Int32) (cost wtt ubr lbr prs : Nat → Int32) (g : Nat → Option Nat) (all has mfew msawn mcut mtodo mpress mgone : Nat → Int32) (y1 : Int32) (NX : Prop) (h : Rel i f all) (hN : NX) : P_X9_sun y1 (fun r => P_X10_sun y1 (fun r' => r = r' ∧ NX)) := by
  unfold P_X9_sun P_X10_sun
  refine s_within (bsp (fun hc => s_isIn (bsp (fun _ => ⟨rfl, hN⟩) (fun q => absurd q hc))) (fun hc => ?_))
  obtain ⟨k, k1, k2, rfl⟩ := rng (a := 0) (b := 364) (by decide) (by decide) hc
  exact s_dirC (by omega) (s_isIn (bsp (fun q => absurd hc q) (fun _ => s_dirM (by omega) ⟨rfl, hN⟩)))
/-- on how many days the sun stands between a and b -/
def cnt (a b : Int) : Nat := ct (fun d => decide (a ≤ dirZ d ∧ dirZ d ≤ b)) 365
def upTo (x : Int) : Nat := ct (fun d => decide (dirZ d ≤ x)) 365
theorem upTo_lo {x : Int} (h : x < -363) : upTo x = 0 := by
  unfold upTo
  have e : ct (fun d => decide (dirZ d ≤ x)) 365 = ct (fun d => decide (1 ≤ d ∧ d ≤ 0)) 365 := ct_cong (fun k hk => by
    have := dirZ_b k hk
    rw [decide_eq_decide]
    omega)
  rw [e, ct_iv]
  omega
theorem upTo_hi {x : Int} (h : 365 ≤ x) : upTo x = 365 := by
  unfold upTo
  have e : ct (fun d => decide (dirZ d ≤ x)) 365 = ct (fun d => decide (0 ≤ d ∧ d ≤ 364)) 365 := ct_cong (fun k hk => by
    have := dirZ_b k hk
    rw [decide_eq_decide]
    omega)
  rw [e, ct_iv]
  omega
theorem upTo_mid {q s : Nat} (hs : s < 4) (hq : q ≤ 181) : upTo (-363 + 4 * (q : Int) + s) = 2 * (q + 1) := by
  unfold upTo
  have e : ct (fun d => decide (dirZ d ≤ -363 + 4 * (q : Int) + s)) 365 = ct (fun d => decide (182 - q ≤ d ∧ d ≤ 183 + q)) 365 := ct_cong (fun k hk => by
    rw [decide_eq_decide]
    unfold dirZ
    split <;> omega)
  rw [e, ct_iv]
  omega
theorem s_upTo {x : Int} {post : Int32 → Prop} (hx : -1000 ≤ x ∧ x ≤ 1000) (h : post (nI (upTo x))) : P_X6_daysUpTo (zI x) post := by
  unfold P_X6_daysUpTo
  rw [show (-363 : Int32) = zI (-363) from rfl, show (365 : Int32) = zI 365 from rfl, zI_le (by omega) (by omega), zI_lt (by omega) (by omega)]
  refine ⟨fun q1 => ⟨fun q2 => ?_, fun q2 => ?_⟩, fun q1 => ?_⟩
  · obtain ⟨q, s, hs, e⟩ : ∃ q s : Nat, s < 4 ∧ x = -363 + 4 * (q : Int) + s := ⟨((x + 363) / 4).toNat, ((x + 363) % 4).toNat, by omega, by omega⟩
    rw [e, upTo_mid hs (by omega)] at h
    have e1 : zI x - zI (-363) = nI (4 * q + s) := by rw [zI_sub, nz]; congr 1; omega
    rw [e1, L4, pk_div (by omega) (by decide) (by decide), nI_1, L2, pk_mul, show (4 * q + s) / 4 = q by omega]
    exact h
  · rw [upTo_hi (by omega)] at h; exact h
  · rw [upTo_lo (by omega)] at h; exact h
theorem s_between {a b : Int} {post : Int32 → Prop} (ha : -900 ≤ a ∧ a ≤ 900) (hb : -900 ≤ b ∧ b ≤ 900) (h : post (nI (cnt a b))) : P_X6_daysBetween (zI a) (zI b) post := by
  unfold P_X6_daysBetween
  rw [zI_le (by omega) (by omega), show (1 : Int32) = zI 1 from rfl, zI_sub]
  refine ⟨fun q => s_upTo (by omega) (s_upTo (by omega) ?_), fun q => ?_⟩
  · have e : cnt a b + upTo (a - 1) = upTo b := ct_sum (fun k => by
      by_cases h1 : a ≤ dirZ k <;> by_cases h2 : dirZ k ≤ b
      · rw [if_pos (by simp [h1, h2]), if_neg (by simp; omega), if_pos (by simp [h2])]
      · rw [if_neg (by simp [h2]), if_neg (by simp; omega), if_neg (by simp; omega)]
      · rw [if_neg (by simp [h1]), if_pos (by simp; omega), if_pos (by simp [h2])]
      · omega) 365
    have h1 := ct_le (fun d => decide (dirZ d ≤ b)) 365
    rw [pk_sub (by omega), show upTo b - upTo (a - 1) = cnt a b by omega]
    exact h
  · have e : cnt a b = 0 := by
      unfold cnt
      have e : ct (fun d => decide (a ≤ dirZ d ∧ dirZ d ≤ b)) 365 = ct (fun d => decide (1 ≤ d ∧ d ≤ 0)) 365 := ct_cong (fun k hk => by
        rw [decide_eq_decide]
        omega)
      rw [e, ct_iv]; omega
    rw [e] at h
    exact h
theorem s_isPlaceC {x y : Int32} {post : Int32 → Prop} (H : post (bI ((zI (-400) ≤ x ∧ x ≤ zI 400) ∧ (zI 0 ≤ y ∧ y ≤ zI 400)))) : P_X9_isPlace x y post := by
  unfold P_X9_isPlace
  refine s_within (bsp (fun q => ?_) (fun q => s_within (bsp (fun q2 => ?_) (fun q2 => ?_))))
  · rwa [bI_f (fun z => q z.1)] at H
  · rwa [bI_f (fun z => q2 z.2)] at H
  · rwa [bI_t ⟨q, q2⟩] at H
theorem s_isPlaceM {x y : Int32} {post : Int32 → Prop} (H : post (bI ((zI (-400) ≤ x ∧ x ≤ zI 400) ∧ (zI 0 ≤ y ∧ y ≤ zI 400)))) : P_X10_isPlace x y post := by
  unfold P_X10_isPlace
  refine s_isIn (bsp (fun q => ?_) (fun q => s_isIn (bsp (fun q2 => ?_) (fun q2 => ?_))))
  · rwa [bI_f (fun z => q z.1)] at H
  · rwa [bI_f (fun z => q2 z.2)] at H
  · rwa [bI_t ⟨q, q2⟩] at H
theorem s_strikesOn {d : Nat} {g n : Int} {post : Int32 → Prop} (hd : d < 365) (hg : -400 ≤ g ∧ g ≤ 400) (hn : 0 ≤ n ∧ n ≤ 400) (h : post (bI (g - n ≤ dirZ d ∧ dirZ d ≤ g + n))) : P_X10_strikesOn (nI d) (zI g) (zI n) post := by
  have hb := dirZ_b d hd
  unfold P_X10_strikesOn
  rw [zI_add, zI_sub]
  refine s_dirM hd (s_isIn ⟨bI_01 _, ?_⟩)
  rw [zI_le (by omega) (by omega), zI_le (by omega) (by omega)]
  exact h
theorem v_strikes {g n : Int} {post : Int32 → Prop} (hg : -400 ≤ g ∧ g ≤ 400) (hn : 0 ≤ n ∧ n ≤ 400) (h : post (nI (cnt (g - n) (g + n)))) : ∀ k d, 365 - d < k → d ≤ 365 → V_X10_strikes_15 (zI g) (zI n) post k (nI (ct (fun d => decide (g - n ≤ dirZ d ∧ dirZ d ≤ g + n)) d)) (nI d) := by
  intro k
  induction k with
  | zero => intro d h; omega
  | succ k ih =>
    intro d h1 h2
    rw [V_X10_strikes_15_s, show (365 : Int32) = nI 365 from rfl, nI_leI (by decide) (by omega)]
    refine ⟨fun q => by rw [show d = 365 by omega]; exact h, fun q => s_strikesOn (by omega) hg hn (bsp (fun z v3 e3 v4 e4 => ?_) (fun z v3 e3 v4 e4 => ?_))⟩
    · have := ih (d + 1) (by omega) (by omega)
      rw [ct, if_neg (by simpa using z)] at this
      rw [e3, e4, L0, nI_add, nI_1]; exact this
    · have := ih (d + 1) (by omega) (by omega)
      rw [ct, if_pos (by simpa using z)] at this
      rw [e3, e4, nI_1, nI_1]; exact this
theorem core_16 (i : Nat → Int32) (f : Nat → Nat → Int32) (sl : Int32) (cost wtt ubr lbr prs : Nat → Int32) (g : Nat → Option Nat) (all has mfew msawn mcut mtodo mpress mgone : Nat → Int32) (y1 : Int32) (y2 : Int32) (NX : Prop) (h : Rel i f all) (hN : NX) : P_X9_strikes y1 y2 (fun r => P_X10_strikes y1 y2 (fun r' => r = r' ∧ NX)) := by
  unfold P_X9_strikes P_X10_strikes
  refine s_isPlaceC (bsp (fun hc => s_isPlaceM (bsp (fun _ => ⟨rfl, hN⟩) (fun q => absurd q hc))) (fun hc => ?_))
  obtain ⟨g, g1, g2, rfl⟩ := zrng (by omega) (by omega) hc.1
  obtain ⟨n, n1, n2, rfl⟩ := zrng (by omega) (by omega) hc.2
  rw [zI_sub, zI_add]
  refine s_between (by omega) (by omega) (s_isPlaceM (bsp (fun q => absurd hc q) (fun _ => ?_)))
  exact ⟨366, v_strikes ⟨g1, g2⟩ ⟨n1, n2⟩ ⟨rfl, hN⟩ 366 0 (by omega) (by omega)⟩
/-- on how many days it strikes in one of both places alone -/
def unl (g n v m : Int) : Nat → Nat := ct (fun d => decide (¬ ((g - n ≤ dirZ d ∧ dirZ d ≤ g + n) ↔ (v - m ≤ dirZ d ∧ dirZ d ≤ v + m))))
def bst (g n m : Int) : Nat → Int × Nat
  | 0 => (-400, unl g n (-400) m 365)
  | j + 1 => if unl g n (-399 + j) m 365 < (bst g n m j).2 then (-399 + (j : Int), unl g n (-399 + j) m 365) else bst g n m j
theorem bst_b (g n m : Int) : ∀ j : Nat, j ≤ 800 → (-400 ≤ (bst g n m j).1 ∧ (bst g n m j).1 ≤ 400) ∧ (bst g n m j).2 ≤ 365 := by
  intro j
  induction j with
  | zero => intro _; exact ⟨by simp [bst], ct_le _ _⟩
  | succ j ih =>
    intro hj
    rw [bst]
    split
    · exact ⟨by simp; omega, ct_le _ _⟩
    · exact ih (by omega)
theorem unl_sum (g n v m : Int) : unl g n v m 365 + 2 * cnt (max (g - n) (v - m)) (min (g + n) (v + m)) = cnt (g - n) (g + n) + cnt (v - m) (v + m) := by
  unfold unl cnt
  generalize (365 : Nat) = N
  induction N with
  | zero => rfl
  | succ d ih =>
    rw [ct, ct, ct, ct]
    by_cases h1 : g - n ≤ dirZ d ∧ dirZ d ≤ g + n <;> by_cases h2 : v - m ≤ dirZ d ∧ dirZ d ≤ v + m
    · rw [if_neg (by simp [h1, h2]), if_pos (by simp; omega), if_pos (by simp [h1]), if_pos (by simp [h2])]; omega
    · rw [if_pos (by rw [decide_eq_true_eq]; exact fun q => h2 (q.mp h1)), if_neg (by rw [decide_eq_true_eq]; omega), if_pos (by simp [h1]), if_neg (by rw [decide_eq_true_eq]; exact h2)]; omega
    · rw [if_pos (by rw [decide_eq_true_eq]; exact fun q => h1 (q.mpr h2)), if_neg (by rw [decide_eq_true_eq]; omega), if_neg (by rw [decide_eq_true_eq]; exact h1), if_pos (by simp [h2])]; omega
    · rw [if_neg (by rw [decide_eq_true_eq]; exact fun q => q ⟨fun a => absurd a h1, fun a => absurd a h2⟩), if_neg (by rw [decide_eq_true_eq]; omega), if_neg (by rw [decide_eq_true_eq]; exact h1), if_neg (by rw [decide_eq_true_eq]; exact h2)]; omega
theorem v_like47 {g n m v : Int} {x4 x5 : Int32} {K : Int32 → Int32 → Int32 → Prop} (hg : -400 ≤ g ∧ g ≤ 400) (hn : 0 ≤ n ∧ n ≤ 400) (hm : 0 ≤ m ∧ m ≤ 400) (hv : -400 ≤ v ∧ v ≤ 400) (h : (nI (unl g n v m 365) < x5 → K (zI v) (nI (unl g n v m 365)) (zI (v + 1))) ∧ (¬ nI (unl g n v m 365) < x5 → K x4 x5 (zI (v + 1)))) : ∀ k d, 365 - d < k → d ≤ 365 → V_X10_like_47 (zI g) (zI n) (zI m) x4 x5 (zI v) K k (nI (unl g n v m d)) (nI d) := by
  intro k
  induction k with
  | zero => intro d h; omega
  | succ k ih =>
    intro d h1 h2
    rw [V_X10_like_47_s, show (365 : Int32) = nI 365 from rfl, nI_leI (by decide) (by omega)]
    refine ⟨fun q => ?_, fun q => s_strikesOn (by omega) hg hn (s_strikesOn (by omega) hv hm ⟨fun z v7 e7 v8 e8 => ?_, fun z v7 e7 v8 e8 => ?_⟩)⟩
    · rw [show d = 365 by omega]
      refine ⟨fun q2 v6 e6 => ?_, fun q2 v6 e6 => ?_⟩
      · rw [e6, show (1 : Int32) = zI 1 from rfl, zI_add]; exact h.1 q2
      · rw [e6, show (1 : Int32) = zI 1 from rfl, zI_add]; exact h.2 q2
    · have := ih (d + 1) (by omega) (by omega)
      have zz : (g - n ≤ dirZ d ∧ dirZ d ≤ g + n) ↔ (v - m ≤ dirZ d ∧ dirZ d ≤ v + m) := bI_iff z
      rw [e7, e8, L0, nI_add, nI_1]
      unfold unl at this ⊢
      rw [ct, if_neg (by rw [decide_eq_true_eq]; exact fun q => q zz)] at this
      exact this
    · have := ih (d + 1) (by omega) (by omega)
      rw [e7, e8, nI_1, nI_1]
      unfold unl at this ⊢
      rw [ct, if_pos (by rw [decide_eq_true_eq]; exact fun q => z (bI_congr q))] at this
      exact this
theorem v_like33 {g n m : Int} {post : Int32 → Prop} (hg : -400 ≤ g ∧ g ≤ 400) (hn : 0 ≤ n ∧ n ≤ 400) (hm : 0 ≤ m ∧ m ≤ 400) (h : post (zI (bst g n m 800).1)) : ∀ k j, 800 - j < k → j ≤ 800 → V_X10_like_33 (zI g) (zI n) (zI m) post k (zI (bst g n m j).1) (nI (bst g n m j).2) (zI (-399 + j)) := by
  intro k
  induction k with
  | zero => intro j h; omega
  | succ k ih =>
    intro j h1 h2
    have hb := bst_b g n m j h2
    rw [V_X10_like_33_s, show (400 : Int32) = zI 400 from rfl, zI_lt (by omega) (by omega)]
    refine ⟨fun q => by rw [show j = 800 by omega]; exact h, fun q => ⟨366, v_like47 hg hn hm (by omega) ?_ 366 0 (by omega) (by omega)⟩⟩
    have hu := ct_le (fun d => decide (¬ ((g - n ≤ dirZ d ∧ dirZ d ≤ g + n) ↔ ((-399 + (j : Int)) - m ≤ dirZ d ∧ dirZ d ≤ (-399 + (j : Int)) + m)))) 365
    have hi := ih (j + 1) (by omega) (by omega)
    rw [bst] at hi
    rw [nI_ltI (by unfold unl; omega) (by omega), show (-399 + (j : Int)) + 1 = -399 + ((j + 1 : Nat) : Int) by omega]
    refine ⟨fun q2 => ?_, fun q2 => ?_⟩
    · rw [if_pos q2] at hi; exact hi
    · rw [if_neg q2] at hi; exact hi
theorem zmax {a b : Int} (ha : -2000000 ≤ a ∧ a ≤ 2000000) (hb : -2000000 ≤ b ∧ b ≤ 2000000) : (if zI a < zI b then zI b else zI a) = zI (max a b) := by
  by_cases h : a < b
  · rw [if_pos ((zI_lt ha hb).mpr h), Int.max_eq_right (by omega)]
  · rw [if_neg (fun q => h ((zI_lt ha hb).mp q)), Int.max_eq_left (by omega)]
theorem zmin {a b : Int} (ha : -2000000 ≤ a ∧ a ≤ 2000000) (hb : -2000000 ≤ b ∧ b ≤ 2000000) : (if zI b < zI a then zI b else zI a) = zI (min a b) := by
  by_cases h : b < a
  · rw [if_pos ((zI_lt hb ha).mpr h), Int.min_eq_right (by omega)]
  · rw [if_neg (fun q => h ((zI_lt hb ha).mp q)), Int.min_eq_left (by omega)]
theorem b_like {g n m v : Int} {A : Int32 → Prop} (hg : -400 ≤ g ∧ g ≤ 400) (hn : 0 ≤ n ∧ n ≤ 400) (hm : 0 ≤ m ∧ m ≤ 400) (hv : -400 ≤ v ∧ v ≤ 400) (h : A (nI (unl g n v m 365))) : P_X6_daysBetween (zI v - zI m) (zI v + zI m) (fun r_1 => (∀ m_2 : Int32, m_2 = (if (zI g - zI n) < (zI v - zI m) then (zI v - zI m) else (zI g - zI n)) → (∀ m_3 : Int32, m_3 = (if (zI v + zI m) < (zI g + zI n) then (zI v + zI m) else (zI g + zI n)) → P_X6_daysBetween m_2 m_3 (fun r_4 => (∀ v9_5 : Int32, v9_5 = ((nI (cnt (g - n) (g + n)) + r_1) - (2 * r_4)) → A v9_5))))) := by
  rw [zI_sub, zI_add, zI_sub, zI_add]
  refine s_between (by omega) (by omega) (fun m2 e2 m3 e3 => ?_)
  rw [zmax (by omega) (by omega)] at e2
  rw [zmin (by omega) (by omega)] at e3
  rw [e2, e3]
  refine s_between (by omega) (by omega) (fun v9 e9 => ?_)
  have hs := unl_sum g n v m
  have c1 := ct_le (fun d => decide (g - n ≤ dirZ d ∧ dirZ d ≤ g + n)) 365
  have c2 := ct_le (fun d => decide (v - m ≤ dirZ d ∧ dirZ d ≤ v + m)) 365
  rw [e9, nI_add, L2, pk_mul, pk_sub (by omega), show cnt (g - n) (g + n) + cnt (v - m) (v + m) - 2 * cnt (max (g - n) (v - m)) (min (g + n) (v + m)) = unl g n v m 365 by omega]
  exact h
theorem v_like25 {g n m : Int} {post : Int32 → Prop} (hg : -400 ≤ g ∧ g ≤ 400) (hn : 0 ≤ n ∧ n ≤ 400) (hm : 0 ≤ m ∧ m ≤ 400) (h : post (zI (bst g n m 800).1)) : ∀ k j, 800 - j < k → j ≤ 800 → V_X6_mostAlike_25 (zI g) (zI n) (zI m) (nI (cnt (g - n) (g + n))) post k (zI (bst g n m j).1) (nI (bst g n m j).2) (zI (-399 + j)) := by
  intro k
  induction k with
  | zero => intro j h; omega
  | succ k ih =>
    intro j h1 h2
    have hb := bst_b g n m j h2
    rw [V_X6_mostAlike_25_s, show (400 : Int32) = zI 400 from rfl, zI_lt (by omega) (by omega)]
    refine ⟨fun q => by rw [show j = 800 by omega]; exact h, fun q => b_like hg hn hm (by omega) ?_⟩
    have hu := ct_le (fun d => decide (¬ ((g - n ≤ dirZ d ∧ dirZ d ≤ g + n) ↔ ((-399 + (j : Int)) - m ≤ dirZ d ∧ dirZ d ≤ (-399 + (j : Int)) + m)))) 365
    have hi := ih (j + 1) (by omega) (by omega)
    rw [bst] at hi
    rw [nI_leI (by omega) (by unfold unl; omega), show (1 : Int32) = zI 1 from rfl, zI_add, show (-399 + (j : Int)) + 1 = -399 + ((j + 1 : Nat) : Int) by omega]
    refine ⟨fun q2 v6 e6 => ?_, fun q2 v6 e6 => ?_⟩
    · rw [if_neg (by omega)] at hi; rw [e6]; exact hi
    · rw [if_pos (by omega)] at hi; rw [e6]; exact hi
theorem core_17 (i : Nat → Int32) (f : Nat → Nat → Int32) (sl : Int32) (cost wtt ubr lbr prs : Nat → Int32) (g : Nat → Option Nat) (all has mfew msawn mcut mtodo mpress mgone : Nat → Int32) (y1 : Int32) (y2 : Int32) (y3 : Int32) (NX : Prop) (h : Rel i f all) (hN : NX) : P_X9_like y1 y2 y3 (fun r => P_X10_like y1 y2 y3 (fun r' => r = r' ∧ NX)) := by
  unfold P_X9_like P_X10_like
  refine s_isPlaceC (bsp (fun hc => s_isPlaceM (bsp (fun _ => ⟨rfl, hN⟩) (fun q => absurd q hc))) (fun hc => ?_))
  have h00 : zI (-400) ≤ 0 ∧ (0 : Int32) ≤ zI 400 := by decide
  refine s_isPlaceC (bsp (fun hd => s_isPlaceM (bsp (fun q => absurd hc q) (fun _ => s_isPlaceM (bsp (fun _ => ⟨rfl, hN⟩) (fun q => absurd ⟨hc.1, q.2⟩ hd))))) (fun hd => ?_))
  obtain ⟨g, g1, g2, rfl⟩ := zrng (by omega) (by omega) hc.1
  obtain ⟨n, n1, n2, rfl⟩ := zrng (by omega) (by omega) hc.2
  obtain ⟨m, m1, m2, rfl⟩ := zrng (by omega) (by omega) hd.2
  have hg : -400 ≤ g ∧ g ≤ 400 := ⟨g1, g2⟩
  have hn : 0 ≤ n ∧ n ≤ 400 := ⟨n1, n2⟩
  have hm : 0 ≤ m ∧ m ≤ 400 := ⟨m1, m2⟩
  have hu := ct_le (fun d => decide (¬ ((g - n ≤ dirZ d ∧ dirZ d ≤ g + n) ↔ (-400 - m ≤ dirZ d ∧ dirZ d ≤ -400 + m)))) 365
  have hb := bst_b g n m 800 (by omega)
  unfold P_X6_mostAlike
  rw [show zI g - zI n = zI (g - n) from zI_sub g n, show zI g + zI n = zI (g + n) from zI_add g n]
  refine s_between (by omega) (by omega) ⟨802, ?_⟩
  rw [V_X6_mostAlike_25_s, show (-400 : Int32) = zI (-400) from rfl, show (400 : Int32) = zI 400 from rfl, zI_lt (by omega) (by omega)]
  refine ⟨fun q => by omega, fun _ => b_like hg hn hm (by omega) ?_⟩
  rw [show (730 : Int32) = nI 730 from rfl, nI_leI (by decide) (by unfold unl; omega)]
  refine ⟨fun q => by unfold unl at q; omega, fun _ v6 e6 => ?_⟩
  rw [e6, show (1 : Int32) = zI 1 from rfl, zI_add]
  refine v_like25 hg hn hm ?_ 801 0 (by omega) (by omega)
  refine s_isPlaceM (bsp (fun q => absurd hc q) (fun _ => s_isPlaceM (bsp (fun q => absurd ⟨h00, hd.2⟩ q) (fun _ => ⟨802, ?_⟩))))
  rw [V_X10_like_33_s, show (400 : Int32) = zI 400 from rfl, zI_lt (by omega) (by omega)]
  refine ⟨fun q => by omega, fun _ => ⟨366, v_like47 hg hn hm (by omega) ?_ 366 0 (by omega) (by omega)⟩⟩
  rw [show (366 : Int32) = nI 366 from rfl, nI_ltI (by unfold unl; omega) (by decide)]
  refine ⟨fun _ => v_like33 hg hn hm ⟨rfl, hN⟩ 801 0 (by omega) (by omega), fun q => absurd (by unfold unl; omega) q⟩
