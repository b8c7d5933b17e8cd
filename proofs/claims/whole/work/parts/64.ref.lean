/-! the reference: which cuts it may make -/
theorem s_isOneM {A : Nat → Int32} {mo : Nat → Nat} {p q : Nat} {post : Int32 → Prop} (hm : ∀ k, k < 64 → A (100 + k) = nI (mo k) ∧ mo k ≤ 9) (hp : p < 64) (hq : q < 64) (h : post (bI (br mo p q))) : P_X10_isOne (nI p) (nI q) A post := by
  have m1 := hm p hp
  have m2 := hm q hq
  unfold P_X10_isOne
  rw [L100, nI_add, nI_add, nI_clamp (by omega), nI_clamp (by omega), m1.1, m2.1, L0, nI_leI (by omega) (by omega), nI_eq (by omega) (by omega)]
  refine ⟨vi _ (by omega), fun g => ?_, fun g => ⟨vi _ (by omega), vi _ (by omega), fun g2 => ?_, fun g2 => ?_⟩⟩
  · rw [bI_f (by unfold br; omega)] at h; exact h
  · rw [bI_t (show br mo p q from ⟨by omega, g2⟩)] at h; exact h
  · rw [bI_f (fun z : br mo p q => g2 z.2)] at h; exact h
theorem v_mayU {A : Nat → Int32} {mo : Nat → Nat} {x y h k : Nat} {post : Int32 → Prop} (hm : ∀ k, k < 64 → A (100 + k) = nI (mo k) ∧ mo k ≤ 9) (hx : x + k + 1 < 8) (hy : y + h ≤ 8) (hp : post (bI (upOK mo x y h k))) : ∀ n j, h - j < n → j ≤ h → V_X10_mayUpright_6 (nI x) (nI y) (nI h) (nI (k + 1)) A post n (bI (∀ i, i < j → ¬ br mo (8 * (y + i) + (x + k)) (8 * (y + i) + (x + k + 1)))) (nI (y + j)) := by
  intro n
  induction n with
  | zero => intro j h; omega
  | succ n ih =>
    intro j h1 h2
    rw [V_X10_mayUpright_6_s, nI_add, nI_leI (by omega) (by omega)]
    refine ⟨fun q => ?_, fun q => bsp (fun z v e => ?_) (fun z => ?_)⟩
    · rw [show j = h by omega]
      exact ⟨bI_01 _, hp⟩
    · rw [e, nI_1, Nat.add_assoc]
      have := ih (j + 1) (by omega) (by omega)
      rwa [bI_f (fun g => z (fun i hi => g i (by omega)))] at this
    · have e1 : (((8 * nI (y + j)) + nI x) + nI (k + 1)) - 1 = nI (8 * (y + j) + (x + k)) := by
        rw [L8, pk_mul, nI_add, nI_add, L1, pk_sub (by omega)]; congr 1; omega
      have e2 : ((8 * nI (y + j)) + nI x) + nI (k + 1) = nI (8 * (y + j) + (x + k + 1)) := by
        rw [L8, pk_mul, nI_add, nI_add]; congr 1; omega
      rw [e1, e2]
      refine s_isOneM hm (by omega) (by omega) (bsp (fun z2 v e => ?_) (fun z2 v e => ?_))
      · rw [e, nI_1, Nat.add_assoc]
        have := ih (j + 1) (by omega) (by omega)
        rw [bI_t] at this
        · exact this
        · intro i hi
          rcases Nat.lt_or_ge i j with g | g
          · exact z i g
          · rw [show i = j by omega]; exact z2
      · rw [e, nI_1, Nat.add_assoc]
        have := ih (j + 1) (by omega) (by omega)
        rwa [bI_f (fun g => g j (by omega) z2)] at this
theorem s_mayU {A : Nat → Int32} {mo : Nat → Nat} {x y h k : Nat} {post : Int32 → Prop} (hm : ∀ k, k < 64 → A (100 + k) = nI (mo k) ∧ mo k ≤ 9) (hx : x + k + 1 < 8) (hy : y + h ≤ 8) (hp : post (bI (upOK mo x y h k))) : P_X10_mayUpright (nI x) (nI y) (nI h) (nI (k + 1)) A post := by
  refine ⟨h + 1, ?_⟩
  have := v_mayU hm hx hy hp (h + 1) 0 (by omega) (by omega)
  rwa [bI_t (fun i hi => by omega)] at this
theorem v_mayL {A : Nat → Int32} {mo : Nat → Nat} {x y w k : Nat} {post : Int32 → Prop} (hm : ∀ k, k < 64 → A (100 + k) = nI (mo k) ∧ mo k ≤ 9) (hx : x + w ≤ 8) (hy : y + k + 1 < 8) (hp : post (bI (lvOK mo x y w k))) : ∀ n j, w - j < n → j ≤ w → V_X10_mayLevel_6 (nI x) (nI y) (nI w) (nI (k + 1)) A post n (bI (∀ i, i < j → ¬ br mo (8 * (y + k) + (x + i)) (8 * (y + k + 1) + (x + i)))) (nI (x + j)) := by
  intro n
  induction n with
  | zero => intro j h; omega
  | succ n ih =>
    intro j h1 h2
    rw [V_X10_mayLevel_6_s, nI_add, nI_leI (by omega) (by omega)]
    refine ⟨fun q => ?_, fun q => bsp (fun z v e => ?_) (fun z => ?_)⟩
    · rw [show j = w by omega]
      exact ⟨bI_01 _, hp⟩
    · rw [e, nI_1, Nat.add_assoc]
      have := ih (j + 1) (by omega) (by omega)
      rwa [bI_f (fun g => z (fun i hi => g i (by omega)))] at this
    · have e1 : (8 * ((nI y + nI (k + 1)) - 1)) + nI (x + j) = nI (8 * (y + k) + (x + j)) := by
        rw [L8, nI_add, L1, pk_sub (by omega), pk_mul, nI_add]; congr 1
      have e2 : (8 * (nI y + nI (k + 1))) + nI (x + j) = nI (8 * (y + k + 1) + (x + j)) := by
        rw [L8, nI_add, pk_mul, nI_add]; congr 1
      rw [e1, e2]
      refine s_isOneM hm (by omega) (by omega) (bsp (fun z2 v e => ?_) (fun z2 v e => ?_))
      · rw [e, nI_1, Nat.add_assoc]
        have := ih (j + 1) (by omega) (by omega)
        rw [bI_t] at this
        · exact this
        · intro i hi
          rcases Nat.lt_or_ge i j with g | g
          · exact z i g
          · rw [show i = j by omega]; exact z2
      · rw [e, nI_1, Nat.add_assoc]
        have := ih (j + 1) (by omega) (by omega)
        rwa [bI_f (fun g => g j (by omega) z2)] at this
theorem s_mayL {A : Nat → Int32} {mo : Nat → Nat} {x y w k : Nat} {post : Int32 → Prop} (hm : ∀ k, k < 64 → A (100 + k) = nI (mo k) ∧ mo k ≤ 9) (hx : x + w ≤ 8) (hy : y + k + 1 < 8) (hp : post (bI (lvOK mo x y w k))) : P_X10_mayLevel (nI x) (nI y) (nI w) (nI (k + 1)) A post := by
  refine ⟨w + 1, ?_⟩
  have := v_mayL hm hx hy hp (w + 1) 0 (by omega) (by omega)
  rwa [bI_t (fun i hi => by omega)] at this
/-- a part's place in the reference's rows -/
def pM (x y w h : Nat) : Nat := ((x * 8 + y) * 8 + w - 1) * 8 + h - 1
theorem s_partM {x y w h : Nat} {post : Int32 → Prop} (hw : 1 ≤ w) (hh : 1 ≤ h) (hp : post (nI (pM x y w h))) : P_X10_part (nI x) (nI y) (nI w) (nI h) post := by
  unfold P_X10_part
  have e : (((((((nI x * 8) + nI y) * 8) + nI w) - 1) * 8) + nI h) - 1 = nI (pM x y w h) := by
    unfold pM
    rw [L8, L1, pk_mul, nI_add, pk_mul, nI_add, pk_sub (by omega), pk_mul, nI_add, pk_sub (by omega)]
  rw [e]; exact hp
theorem pM_lt {x y w h : Nat} (hw : 1 ≤ w) (hh : 1 ≤ h) (hx : x + w ≤ 8) (hy : y + h ≤ 8) : pM x y w h < 4096 := by unfold pM; omega
theorem pM_ne {x y w h x' y' w' h' : Nat} (hw : 1 ≤ w) (hh : 1 ≤ h) (hx : x + w ≤ 8) (hy : y + h ≤ 8) (hw' : 1 ≤ w') (hh' : 1 ≤ h') (hx' : x' + w' ≤ 8) (hy' : y' + h' ≤ 8) (e : pM x y w h = pM x' y' w' h') : x = x' ∧ y = y' ∧ w = w' ∧ h = h' := by
  unfold pM at e
  have e1 : (x * 8 + y) * 8 + w - 1 = (x' * 8 + y') * 8 + w' - 1 ∧ h = h' := by
    generalize (x * 8 + y) * 8 + w - 1 = p at *
    generalize (x' * 8 + y') * 8 + w' - 1 = p' at *
    omega
  have e2 : x * 8 + y = x' * 8 + y' ∧ w = w' := by
    have := e1.1
    generalize x * 8 + y = p at *
    generalize x' * 8 + y' = p' at *
    omega
  exact ⟨by omega, by omega, e2.2, e1.2⟩
/-- how the reference holds a cost -/
def FS (K : Nat) (a b : Int32) : Prop := (K = 1048576 ∧ a = nI 0) ∨ ∃ n s, K = 256 * n + s ∧ 1 ≤ n ∧ n ≤ 64 ∧ s ≤ 112 ∧ a = nI n ∧ b = nI s
theorem FS.lt {K : Nat} {a b : Int32} (h : FS K a b) : ¬ a = 0 → K < 1048576 := by
  rcases h with ⟨h1, h2⟩ | ⟨n, s, h1, h2, h3, h4, h5, h6⟩
  · intro q; exact absurd h2 q
  · intro _; omega
theorem FS.z {K : Nat} {a b : Int32} (h : FS K a b) : a = 0 → K = 1048576 := by
  rcases h with ⟨h1, h2⟩ | ⟨n, s, h1, h2, h3, h4, h5, h6⟩
  · intro q; exact h1
  · intro q; rw [h5, L0, nI_eq (by omega) (by omega)] at q; omega
/-- one try: m is the least up to here -/
theorem s_tries {F S Q : Nat → Int32} {i a b len cd m Ka Kb w h : Nat} {post : (Nat → Int32) → (Nat → Int32) → (Nat → Int32) → Prop} (hi : i < 4096) (ha : a < 4096) (hb : b < 4096) (hl : len ≤ 8) (hm : FS m (F i) (S i)) (hA : FS Ka (F a) (S a)) (hB : FS Kb (F b) (S b)) (hn : Ka + Kb + len < 1048576 → nf w h (Ka + Kb + len)) (hw8 : w ≤ 8) (hh8 : h ≤ 8)
    (hT : ∀ F' S' Q' : Nat → Int32, Ka + Kb + len < m → (∀ j, j ≠ i → F' j = F j ∧ S' j = S j ∧ Q' j = Q j) → FS (Ka + Kb + len) (F' i) (S' i) → Q' i = nI cd → post F' S' Q') (hO : ¬ Ka + Kb + len < m → post F S Q) : P_X10_tries (nI i) (nI a) (nI b) (nI len) (nI cd) F S Q post := by
  have hmle : m ≤ 1048576 := by
    rcases hm with ⟨h1, h2⟩ | ⟨n, s, h1, h2, h3, h4, h5, h6⟩ <;> omega
  unfold P_X10_tries
  simp only [nI_clamp (show i < 2 ^ 31 by omega), nI_clamp (show a < 2 ^ 31 by omega), nI_clamp (show b < 2 ^ 31 by omega)]
  refine ⟨vi _ ha, fun q => hO ?_, fun q => ⟨vi _ hb, fun q2 => hO ?_, fun q2 => ⟨vi _ ha, vi _ hb, fun v6 e6 => ⟨vi _ ha, vi _ hb, fun v7 e7 => ⟨vi _ hi, ?_⟩⟩⟩⟩⟩
  · have := hA.z q; omega
  · have := hB.z q2; omega
  · rcases hA with ⟨h1, h2⟩ | ⟨n1, s1, a1, a2, a3, a4, a5, a6⟩
    · exact absurd h2 q
    rcases hB with ⟨h1, h2⟩ | ⟨n2, s2, b1, b2, b3, b4, b5, b6⟩
    · exact absurd h2 q2
    rw [a5, b5, nI_add] at e6
    rw [a6, b6, nI_add, nI_add] at e7
    obtain ⟨n, s, c1, c2, c3, c4⟩ : ∃ n s, Ka + Kb + len = 256 * n + s ∧ 1 ≤ n ∧ n ≤ w * h ∧ s + w + h ≤ 2 * (w * h) := by
      rcases hn (by omega) with g | g
      · omega
      · exact g
    have wh1 : w * h ≤ 8 * h := Nat.mul_le_mul_right h hw8
    have wh2 : w * h ≤ w * 8 := Nat.mul_le_mul_left w hh8
    have wh3 := le64 hw8 hh8
    generalize w * h = wh at *
    have n6 : n1 + n2 = n := by omega
    have s7 : s1 + s2 + len = s := by omega
    rw [n6] at e6
    rw [s7] at e7
    have J : Ka + Kb + len < m → J_X10_tries_95 (nI i) (nI cd) post v6 v7 F S Q := fun g => by
      unfold J_X10_tries_95
      rw [nI_clamp (by omega)]
      refine ⟨vi _ hi, fun F' f1 => ⟨vi _ hi, fun S' f2 => ⟨vi _ hi, fun Q' f3 => hT F' S' Q' g (fun j hj => ?_) ?_ ?_⟩⟩⟩
      · rw [f1, f2, f3, upd_ne hj, upd_ne hj, upd_ne hj]; exact ⟨rfl, rfl, rfl⟩
      · rw [f1, f2, upd_eq, upd_eq]; exact Or.inr ⟨n, s, by omega, by omega, by omega, by omega, e6, e7⟩
      · rw [f3, upd_eq]
    rcases hm with ⟨h1, h2⟩ | ⟨n0, s0, h1, h2, h3, h4, h5, h6⟩
    · rw [h2]
      exact ⟨fun _ => J (by omega), fun g => absurd (show nI 0 ≤ (0 : Int32) by decide) g⟩
    · have g0 : ¬ nI n0 ≤ (0 : Int32) := by rw [L0, nI_leI (by omega) (by decide)]; omega
      rw [h5, h6, e6, e7, nI_ltI (show n0 < 2 ^ 31 by omega) (show n < 2 ^ 31 by omega), nI_ltI (show s < 2 ^ 31 by omega) (show s0 < 2 ^ 31 by omega), nI_eq (show n < 2 ^ 31 by omega) (show n0 < 2 ^ 31 by omega)]
      rw [e6, e7] at J
      refine ⟨fun g => absurd g g0, fun g => ⟨vi _ hi, fun g2 => hO (by omega), fun g2 => ⟨vi _ hi, fun g3 => ⟨vi _ hi, fun g4 => J (by omega), fun g4 => hO (by omega)⟩, fun g3 => J (by omega)⟩⟩⟩
/-- what the rows hold of the part at i, m being the least up to here -/
def TS (F0 S0 Q0 : Nat → Int32) (i : Nat) (ug lg : Nat → Nat) (U V m : Nat) (F S Q : Nat → Int32) : Prop := (∀ j, j ≠ i → F j = F0 j ∧ S j = S0 j ∧ Q j = Q0 j) ∧ FS m (F i) (S i) ∧ (m < 1048576 → ∃ c, Q i = nI c ∧ fC ug lg U V m c)
def Sub (W H w h : Nat) (C : Nat → Nat → Nat → Nat → Nat) (F S : Nat → Int32) : Prop := ∀ x y w' h', 1 ≤ w' → 1 ≤ h' → x + w' ≤ W → y + h' ≤ H → w' ≤ w → h' ≤ h → (w' < w ∨ h' < h) → FS (C x y w' h') (F (pM x y w' h')) (S (pM x y w' h'))
theorem TS.sub {F0 S0 Q0 F S Q : Nat → Int32} {W H x y w h U V m : Nat} {ug lg : Nat → Nat} {C : Nat → Nat → Nat → Nat → Nat} (hT : TS F0 S0 Q0 (pM x y w h) ug lg U V m F S Q) (hS : Sub W H w h C F0 S0) (h1 : 1 ≤ w) (h2 : 1 ≤ h) (hx : x + w ≤ W) (hy : y + h ≤ H) (hW : W ≤ 8) (hH : H ≤ 8) : Sub W H w h C F S := by
  intro x' y' w' h' a1 a2 a3 a4 a5 a6 a7
  have hne : pM x' y' w' h' ≠ pM x y w h := fun e => by
    obtain ⟨-, -, q1, q2⟩ := pM_ne a1 a2 (by omega) (by omega) h1 h2 (by omega) (by omega) e
    omega
  obtain ⟨e1, e2, -⟩ := hT.1 _ hne
  rw [e1, e2]
  exact hS x' y' w' h' a1 a2 a3 a4 a5 a6 a7
theorem v_set125 {wt mo : Nat → Nat} {lim W H x y w h : Nat} {C : Nat → Nat → Nat → Nat → Nat} {A F0 S0 Q0 : Nat → Int32} {post : (Nat → Int32) → (Nat → Int32) → (Nat → Int32) → Prop} (hC : Cst wt mo lim C) (hm : ∀ k, k < 64 → A (100 + k) = nI (mo k) ∧ mo k ≤ 9) (h1 : 1 ≤ w) (h2 : 1 ≤ h) (hx : x + w ≤ W) (hy : y + h ≤ H) (hW : W ≤ 8) (hH : H ≤ 8) (hS : Sub W H w h C F0 S0)
    (hp : ∀ F S Q : Nat → Int32, TS F0 S0 Q0 (pM x y w h) (uc mo C x y w h) (lc mo C x y w h) (w - 1) (h - 1) (mn (mn 1048576 (uc mo C x y w h) (w - 1)) (lc mo C x y w h) (h - 1)) F S Q → post F S Q) : ∀ n k F S Q, h - k < n → k + 1 ≤ h → TS F0 S0 Q0 (pM x y w h) (uc mo C x y w h) (lc mo C x y w h) (w - 1) k (mn (mn 1048576 (uc mo C x y w h) (w - 1)) (lc mo C x y w h) k) F S Q → V_X10_settles_125 (nI x) (nI y) (nI w) (nI h) (nI (pM x y w h)) A post n (nI (k + 1)) F S Q := by
  intro n
  induction n with
  | zero => intro k F S Q h; omega
  | succ n ih =>
    intro k F S Q g1 g2 hT
    rw [V_X10_settles_125_s, nI_leI (by omega) (by omega)]
    refine ⟨fun q => ?_, fun q => s_mayL hm (by omega) (by omega) (bsp (fun z v e => ?_) (fun z => ?_))⟩
    · rw [show h - 1 = k by omega] at hp
      exact hp F S Q hT
    · rw [e, nI_1]
      refine ih (k + 1) F S Q (by omega) (by omega) ?_
      have e1 : lc mo C x y w h k = 1048576 := by unfold lc; rw [pif_f z]
      have hb := mn_b (mn 1048576 (uc mo C x y w h) (w - 1)) (lc mo C x y w h) k
      have hb2 := mn_b 1048576 (uc mo C x y w h) (w - 1)
      rw [mn, if_neg (by omega)]
      exact ⟨hT.1, hT.2.1, fun g => by obtain ⟨c, c1, c2⟩ := hT.2.2 g; exact ⟨c, c1, fC_lO c2⟩⟩
    · rw [nI_add, pk_sub (by omega)]
      refine s_partM h1 (by omega) (s_partM h1 (by omega) ?_)
      have hsub := hT.sub hS h1 h2 hx hy hW hH
      have f1 := hsub x y w (k + 1) h1 (by omega) (by omega) (by omega) (by omega) (by omega) (by omega)
      have f2 := hsub x (y + (k + 1)) w (h - (k + 1)) h1 (by omega) (by omega) (by omega) (by omega) (by omega) (by omega)
      have e1 : lc mo C x y w h k = C x y w (k + 1) + C x (y + (k + 1)) w (h - (k + 1)) + w := by unfold lc; rw [pif_t z]
      have e8 : (8 : Int32) + nI (k + 1) = nI (9 + k) := by rw [L8, nI_add]; congr 1; omega
      rw [e8]
      refine s_tries (w := h) (h := w) (pM_lt h1 h2 (by omega) (by omega)) (pM_lt h1 (by omega) (by omega) (by omega)) (pM_lt h1 (by omega) (by omega) (by omega)) (by omega) hT.2.1 f1 f2 (fun g => ?_) (by omega) (by omega) (fun F' S' Q' g o fs fq v e => ?_) (fun g v e => ?_)
      · have := nf_add (nf_sym (Cst_nf hC _ x y w (k + 1) h1 (by omega) (Nat.le_refl _))) (nf_sym (Cst_nf hC _ x (y + (k + 1)) w (h - (k + 1)) h1 (by omega) (Nat.le_refl _))) g
        rwa [show k + 1 + (h - (k + 1)) = h by omega] at this
      · rw [e, nI_1]
        refine ih (k + 1) F' S' Q' (by omega) (by omega) ?_
        rw [← e1] at g fs
        rw [mn, if_pos g]
        refine ⟨fun j hj => ?_, fs, fun _ => ⟨9 + k, fq, fC_lN (fun i hi => Nat.le_trans (mn_b _ _ k) (mn_g _ _ _ i hi)) (fun i hi => mn_g _ _ _ i hi) g⟩⟩
        obtain ⟨a, b, c⟩ := o j hj
        rw [a, b, c]; exact hT.1 j hj
      · rw [e, nI_1]
        refine ih (k + 1) F S Q (by omega) (by omega) ?_
        rw [← e1] at g
        rw [mn, if_neg g]
        exact ⟨hT.1, hT.2.1, fun g => by obtain ⟨c, c1, c2⟩ := hT.2.2 g; exact ⟨c, c1, fC_lO c2⟩⟩
theorem v_set64 {wt mo : Nat → Nat} {lim W H x y w h : Nat} {C : Nat → Nat → Nat → Nat → Nat} {A F0 S0 Q0 : Nat → Int32} {post : (Nat → Int32) → (Nat → Int32) → (Nat → Int32) → Prop} (hC : Cst wt mo lim C) (hm : ∀ k, k < 64 → A (100 + k) = nI (mo k) ∧ mo k ≤ 9) (h1 : 1 ≤ w) (h2 : 1 ≤ h) (hx : x + w ≤ W) (hy : y + h ≤ H) (hW : W ≤ 8) (hH : H ≤ 8) (hS : Sub W H w h C F0 S0)
    (hp : ∀ F S Q : Nat → Int32, TS F0 S0 Q0 (pM x y w h) (uc mo C x y w h) (lc mo C x y w h) (w - 1) (h - 1) (mn (mn 1048576 (uc mo C x y w h) (w - 1)) (lc mo C x y w h) (h - 1)) F S Q → post F S Q) : ∀ n k F S Q, w - k < n → k + 1 ≤ w → TS F0 S0 Q0 (pM x y w h) (uc mo C x y w h) (lc mo C x y w h) k 0 (mn 1048576 (uc mo C x y w h) k) F S Q → V_X10_settles_64 (nI x) (nI y) (nI w) (nI h) (nI (pM x y w h)) A post n (nI (k + 1)) F S Q := by
  intro n
  induction n with
  | zero => intro k F S Q h; omega
  | succ n ih =>
    intro k F S Q g1 g2 hT
    rw [V_X10_settles_64_s, nI_leI (by omega) (by omega)]
    refine ⟨fun q => ?_, fun q => s_mayU hm (by omega) (by omega) (bsp (fun z v e => ?_) (fun z => ?_))⟩
    · refine ⟨h + 1, v_set125 hC hm h1 h2 hx hy hW hH hS hp (h + 1) 0 F S Q (by omega) (by omega) ?_⟩
      rw [show w - 1 = k by omega]
      exact hT
    · rw [e, nI_1]
      refine ih (k + 1) F S Q (by omega) (by omega) ?_
      have e1 : uc mo C x y w h k = 1048576 := by unfold uc; rw [pif_f z]
      have hb2 := mn_b 1048576 (uc mo C x y w h) k
      rw [mn, if_neg (by omega)]
      exact ⟨hT.1, hT.2.1, fun g => by obtain ⟨c, c1, c2⟩ := hT.2.2 g; exact ⟨c, c1, fC_uO c2⟩⟩
    · rw [nI_add, pk_sub (by omega)]
      refine s_partM (by omega) h2 (s_partM (by omega) h2 ?_)
      have hsub := hT.sub hS h1 h2 hx hy hW hH
      have f1 := hsub x y (k + 1) h (by omega) h2 (by omega) (by omega) (by omega) (by omega) (by omega)
      have f2 := hsub (x + (k + 1)) y (w - (k + 1)) h (by omega) h2 (by omega) (by omega) (by omega) (by omega) (by omega)
      have e1 : uc mo C x y w h k = C x y (k + 1) h + C (x + (k + 1)) y (w - (k + 1)) h + h := by unfold uc; rw [pif_t z]
      refine s_tries (w := w) (h := h) (pM_lt h1 h2 (by omega) (by omega)) (pM_lt (by omega) h2 (by omega) (by omega)) (pM_lt (by omega) h2 (by omega) (by omega)) (by omega) hT.2.1 f1 f2 (fun g => ?_) (by omega) (by omega) (fun F' S' Q' g o fs fq v e => ?_) (fun g v e => ?_)
      · have := nf_add (Cst_nf hC _ x y (k + 1) h (by omega) h2 (Nat.le_refl _)) (Cst_nf hC _ (x + (k + 1)) y (w - (k + 1)) h (by omega) h2 (Nat.le_refl _)) g
        rwa [show k + 1 + (w - (k + 1)) = w by omega] at this
      · rw [e, nI_1]
        refine ih (k + 1) F' S' Q' (by omega) (by omega) ?_
        rw [← e1] at g fs
        rw [mn, if_pos g]
        refine ⟨fun j hj => ?_, fs, fun _ => ⟨k + 1, fq, fC_uN (fun i hi => mn_g _ _ _ i hi) g⟩⟩
        obtain ⟨a, b, c⟩ := o j hj
        rw [a, b, c]; exact hT.1 j hj
      · rw [e, nI_1]
        refine ih (k + 1) F S Q (by omega) (by omega) ?_
        rw [← e1] at g
        rw [mn, if_neg g]
        exact ⟨hT.1, hT.2.1, fun g => by obtain ⟨c, c1, c2⟩ := hT.2.2 g; exact ⟨c, c1, fC_uO c2⟩⟩
/-- a part is settled -/
def Sd (wt mo : Nat → Nat) (lim : Nat) (C : Nat → Nat → Nat → Nat → Nat) (x y w h : Nat) (F S Q : Nat → Int32) : Prop := FS (C x y w h) (F (pM x y w h)) (S (pM x y w h)) ∧ (C x y w h < 1048576 → ∃ c, Q (pM x y w h) = nI c ∧ isC wt mo lim C x y w h c)
theorem s_settles {wt mo : Nat → Nat} {lim W H x y w h : Nat} {C : Nat → Nat → Nat → Nat → Nat} {A F0 S0 Q0 : Nat → Int32} {post : (Nat → Int32) → (Nat → Int32) → (Nat → Int32) → Prop} (hC : Cst wt mo lim C) (hm : ∀ k, k < 64 → A (100 + k) = nI (mo k) ∧ mo k ≤ 9) (hwt : ∀ k, k < 64 → A (30 + k) = nI (wt k) ∧ wt k ≤ 50) (hl : A 2 = nI lim) (hlim : lim ≤ 3200) (h1 : 1 ≤ w) (h2 : 1 ≤ h) (hx : x + w ≤ W) (hy : y + h ≤ H) (hW : W ≤ 8) (hH : H ≤ 8) (hS : Sub W H w h C F0 S0)
    (hrs : recS wt x w y h < 2 ^ 31) (hp : ∀ F S Q : Nat → Int32, (∀ j, j ≠ pM x y w h → F j = F0 j ∧ S j = S0 j ∧ Q j = Q0 j) → Sd wt mo lim C x y w h F S Q → post F S Q) : P_X10_settles (nI x) (nI y) (nI w) (nI h) A F0 S0 Q0 post := by
  have hi := pM_lt h1 h2 (show x + w ≤ 8 by omega) (show y + h ≤ 8 by omega)
  refine s_partM h1 h2 ⟨vi _ hi, fun F1 e1 => ⟨vi _ hi, fun S1 e2 => ⟨vi _ hi, fun Q1 e3 => s_weightM (wt := wt) (by omega) (by omega) (fun k hk => (hwt k hk).1) ⟨vi 2 (by decide), ?_⟩⟩⟩⟩
  have hl' : A (2 : Int32).toNatClampNeg = nI lim := hl
  rw [hl', nI_ltI (by omega) hrs]
  rw [nI_clamp (by omega)] at e1 e2 e3 ⊢
  have hE := hC x y w h h1 h2
  have o1 : ∀ j, j ≠ pM x y w h → F1 j = F0 j ∧ S1 j = S0 j ∧ Q1 j = Q0 j := fun j hj => by
    rw [e1, e2, e3, upd_ne hj, upd_ne hj, upd_ne hj]; exact ⟨rfl, rfl, rfl⟩
  refine ⟨fun q => ⟨w + 1, v_set64 hC hm h1 h2 hx hy hW hH hS (fun F S Q hT => hp F S Q hT.1 ?_) (w + 1) 0 F1 S1 Q1 (by omega) (by omega) ⟨o1, Or.inl ⟨rfl, by rw [e1, upd_eq]; rfl⟩, fun g => absurd g (by show ¬ 1048576 < 1048576; omega)⟩⟩, fun q => ⟨vi _ hi, fun F2 e4 => hp F2 S1 Q1 (fun j hj => ?_) ?_⟩⟩
  · unfold cF at hE
    rw [if_neg (by omega)] at hE
    unfold Sd
    rw [hE]
    refine ⟨hT.2.1, fun g => ?_⟩
    obtain ⟨c, c1, c2⟩ := hT.2.2 g
    exact ⟨c, c1, Or.inr ⟨by omega, by rw [hE]; exact c2⟩⟩
  · rw [e4, upd_ne hj]; exact o1 j hj
  · unfold cF at hE
    rw [if_pos (by omega)] at hE
    unfold Sd
    rw [hE]
    refine ⟨Or.inr ⟨1, 0, by omega, by omega, by omega, by omega, by rw [e4, upd_eq]; rfl, by rw [e2, upd_eq]; rfl⟩, fun _ => ⟨0, by rw [e3, upd_eq]; rfl, Or.inl ⟨by omega, rfl⟩⟩⟩
