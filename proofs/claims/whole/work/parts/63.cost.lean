/-! the plan: what a part costs at the least, and where it is cut first -/
def br (mo : Nat → Nat) (p q : Nat) : Prop := 1 ≤ mo p ∧ mo p = mo q
def upOK (mo : Nat → Nat) (x y h k : Nat) : Prop := ∀ j, j < h → ¬ br mo (8 * (y + j) + (x + k)) (8 * (y + j) + (x + k + 1))
def lvOK (mo : Nat → Nat) (x y w k : Nat) : Prop := ∀ j, j < w → ¬ br mo (8 * (y + k) + (x + j)) (8 * (y + k + 1) + (x + j))
/-- the least of b and g 0 .. g (n - 1) -/
def mn (b : Nat) (g : Nat → Nat) : Nat → Nat
  | 0 => b
  | n + 1 => if g n < mn b g n then g n else mn b g n
theorem mn_b (b : Nat) (g : Nat → Nat) : ∀ n, mn b g n ≤ b := by
  intro n
  induction n with
  | zero => exact Nat.le_refl _
  | succ n ih => rw [mn]; split <;> omega
theorem mn_g (b : Nat) (g : Nat → Nat) : ∀ n j, j < n → mn b g n ≤ g j := by
  intro n
  induction n with
  | zero => intro j h; omega
  | succ n ih =>
    intro j h
    rw [mn]
    rcases Nat.lt_or_ge j n with q | q
    · have := ih j q; split <;> omega
    · rw [show j = n by omega]; split <;> omega
theorem mn_c (b : Nat) {g g' : Nat → Nat} : ∀ n, (∀ j, j < n → g' j = g j) → mn b g' n = mn b g n := by
  intro n
  induction n with
  | zero => intro _; rfl
  | succ n ih => intro h; rw [mn, mn, ih (fun j hj => h j (by omega)), h n (by omega)]
noncomputable def pif (c : Prop) (a b : Nat) : Nat := @ite _ c (Classical.propDecidable c) a b
theorem pif_t {c : Prop} {a b : Nat} (h : c) : pif c a b = a := @if_pos c (Classical.propDecidable c) h _ _ _
theorem pif_f {c : Prop} {a b : Nat} (h : ¬ c) : pif c a b = b := @if_neg c (Classical.propDecidable c) h _ _ _
noncomputable def uc (mo : Nat → Nat) (C : Nat → Nat → Nat → Nat → Nat) (x y w h k : Nat) : Nat := pif (upOK mo x y h k) (C x y (k + 1) h + C (x + (k + 1)) y (w - (k + 1)) h + h) 1048576
noncomputable def lc (mo : Nat → Nat) (C : Nat → Nat → Nat → Nat → Nat) (x y w h k : Nat) : Nat := pif (lvOK mo x y w k) (C x y w (k + 1) + C x (y + (k + 1)) w (h - (k + 1)) + w) 1048576
noncomputable def cF (wt mo : Nat → Nat) (lim : Nat) (C : Nat → Nat → Nat → Nat → Nat) (x y w h : Nat) : Nat := if recS wt x w y h ≤ lim then 256 else mn (mn 1048576 (uc mo C x y w h) (w - 1)) (lc mo C x y w h) (h - 1)
/-- C is what each part costs at the least -/
def Cst (wt mo : Nat → Nat) (lim : Nat) (C : Nat → Nat → Nat → Nat → Nat) : Prop := ∀ x y w h, 1 ≤ w → 1 ≤ h → C x y w h = cF wt mo lim C x y w h
theorem cF_c {wt mo : Nat → Nat} {lim : Nat} {C C' : Nat → Nat → Nat → Nat → Nat} {x y w h : Nat} (e : ∀ x' y' w' h', 1 ≤ w' → 1 ≤ h' → w' + h' < w + h → C' x' y' w' h' = C x' y' w' h') (hw : 1 ≤ w) (hh : 1 ≤ h) : cF wt mo lim C' x y w h = cF wt mo lim C x y w h := by
  unfold cF
  rw [mn_c (g' := uc mo C' x y w h) (g := uc mo C x y w h) 1048576 (w - 1) (fun j hj => ?_), mn_c (g' := lc mo C' x y w h) (g := lc mo C x y w h) _ (h - 1) (fun j hj => ?_)]
  · unfold lc
    rw [e _ _ _ _ (by omega) (by omega) (by omega), e _ _ _ _ (by omega) (by omega) (by omega)]
  · unfold uc
    rw [e _ _ _ _ (by omega) (by omega) (by omega), e _ _ _ _ (by omega) (by omega) (by omega)]
noncomputable def cst (wt mo : Nat → Nat) (lim : Nat) : Nat → Nat → Nat → Nat → Nat → Nat
  | 0 => fun _ _ _ _ => 0
  | s + 1 => fun x y w h => cF wt mo lim (cst wt mo lim s) x y w h
theorem cst_s (wt mo : Nat → Nat) (lim : Nat) : ∀ s x y w h, 1 ≤ w → 1 ≤ h → w + h ≤ s → cst wt mo lim s x y w h = cst wt mo lim (w + h) x y w h := by
  intro s
  induction s using Nat.strongRecOn with
  | _ s ih =>
    intro x y w h h1 h2 h3
    obtain ⟨s, rfl⟩ : ∃ j, s = j + 1 := ⟨s - 1, by omega⟩
    obtain ⟨t, ht⟩ : ∃ j, w + h = j + 1 := ⟨w + h - 1, by omega⟩
    rw [ht]
    show cF wt mo lim (cst wt mo lim s) x y w h = cF wt mo lim (cst wt mo lim t) x y w h
    refine cF_c (fun x' y' w' h' a b c => ?_) h1 h2
    rw [ih s (by omega) x' y' w' h' a b (by omega), ih t (by omega) x' y' w' h' a b (by omega)]
theorem Cst.ex (wt mo : Nat → Nat) (lim : Nat) : ∃ C, Cst wt mo lim C := by
  refine ⟨fun x y w h => cst wt mo lim (w + h) x y w h, fun x y w h h1 h2 => ?_⟩
  obtain ⟨t, ht⟩ : ∃ j, w + h = j + 1 := ⟨w + h - 1, by omega⟩
  show cst wt mo lim (w + h) x y w h = _
  rw [ht]
  show cF wt mo lim (cst wt mo lim t) x y w h = _
  refine cF_c (fun x' y' w' h' a b c => ?_) h1 h2
  exact cst_s wt mo lim t x' y' w' h' a b (by omega)
/-- a cost is none at all, or so many blocks and so much sawn -/
def nf (w h K : Nat) : Prop := K = 1048576 ∨ ∃ n s, K = 256 * n + s ∧ 1 ≤ n ∧ n ≤ w * h ∧ s + w + h ≤ 2 * (w * h)
theorem mn_p {P : Nat → Prop} {b : Nat} {g : Nat → Nat} (hb : P b) : ∀ n, (∀ j, j < n → g j < b → P (g j)) → P (mn b g n) := by
  intro n
  induction n with
  | zero => intro _; exact hb
  | succ n ih =>
    intro h
    rw [mn]
    split
    · next q => exact h n (by omega) (by have := mn_b b g n; omega)
    · exact ih (fun j hj => h j (by omega))
theorem nf_add {a b h K1 K2 : Nat} (h1 : nf a h K1) (h2 : nf b h K2) (hlt : K1 + K2 + h < 1048576) : nf (a + b) h (K1 + K2 + h) := by
  unfold nf at *
  rcases h1 with q | ⟨n1, s1, e1, a1, b1, c1⟩
  · omega
  rcases h2 with q | ⟨n2, s2, e2, a2, b2, c2⟩
  · omega
  refine Or.inr ⟨n1 + n2, s1 + s2 + h, by omega, by omega, ?_, ?_⟩
  · rw [Nat.add_mul]; omega
  · rw [Nat.add_mul]; omega
theorem nf_sym {w h K : Nat} (q : nf w h K) : nf h w K := by
  unfold nf at *
  rw [Nat.mul_comm h w]
  rcases q with q | ⟨n, s, a, b, c, d⟩
  · exact Or.inl q
  · exact Or.inr ⟨n, s, a, b, c, by omega⟩
theorem Cst_nf {wt mo : Nat → Nat} {lim : Nat} {C : Nat → Nat → Nat → Nat → Nat} (hC : Cst wt mo lim C) : ∀ s x y w h, 1 ≤ w → 1 ≤ h → w + h ≤ s → nf w h (C x y w h) := by
  intro s
  induction s with
  | zero => intro x y w h a b c; omega
  | succ s ih =>
    intro x y w h h1 h2 h3
    rw [hC x y w h h1 h2]
    unfold cF
    split
    · have e1 : w ≤ w * h := Nat.le_mul_of_pos_right w h2
      have e2 : h ≤ w * h := Nat.le_mul_of_pos_left h h1
      exact Or.inr ⟨1, 0, by omega, by omega, by omega, by omega⟩
    · refine mn_p (P := nf w h) (mn_p (P := nf w h) (Or.inl rfl) _ (fun j hj hlt => ?_)) _ (fun j hj hlt => ?_)
      · unfold uc at *
        by_cases q : upOK mo x y h j
        · rw [pif_t q] at *
          have := nf_add (ih x y (j + 1) h (by omega) h2 (by omega)) (ih (x + (j + 1)) y (w - (j + 1)) h (by omega) h2 (by omega)) hlt
          rwa [show j + 1 + (w - (j + 1)) = w by omega] at this
        · rw [pif_f q] at *; omega
      · have hb := mn_b 1048576 (uc mo C x y w h) (w - 1)
        unfold lc at *
        by_cases q : lvOK mo x y w j
        · rw [pif_t q] at *
          have := nf_add (nf_sym (ih x y w (j + 1) h1 (by omega) (by omega))) (nf_sym (ih x (y + (j + 1)) w (h - (j + 1)) h1 (by omega) (by omega))) (by omega)
          rw [show j + 1 + (h - (j + 1)) = h by omega] at this
          exact nf_sym this
        · rw [pif_f q] at *; omega
/-- the first of the candidates that costs m: upright ones, then level ones -/
def fC (ug lg : Nat → Nat) (U V m c : Nat) : Prop := (∃ j, j < U ∧ ug j = m ∧ (∀ i, i < j → ug i ≠ m) ∧ c = j + 1) ∨ (∃ j, j < V ∧ lg j = m ∧ (∀ i, i < U → ug i ≠ m) ∧ (∀ i, i < j → lg i ≠ m) ∧ c = 9 + j)
theorem fC_u {ug lg : Nat → Nat} {U V m c c' : Nat} (h : fC ug lg U V m c) (h' : fC ug lg U V m c') : c = c' := by
  rcases h with ⟨j, a1, a2, a3, a4⟩ | ⟨j, a1, a2, a3, a5, a4⟩ <;> rcases h' with ⟨i, b1, b2, b3, b4⟩ | ⟨i, b1, b2, b3, b5, b4⟩
  · rcases Nat.lt_trichotomy i j with q | q | q
    · exact absurd b2 (a3 i q)
    · omega
    · exact absurd a2 (b3 j q)
  · exact absurd a2 (b3 j a1)
  · exact absurd b2 (a3 i b1)
  · rcases Nat.lt_trichotomy i j with q | q | q
    · exact absurd b2 (a5 i q)
    · omega
    · exact absurd a2 (b5 j q)
theorem fC_uN {ug lg : Nat → Nat} {U m : Nat} (hm : ∀ i, i < U → m ≤ ug i) (h : ug U < m) : fC ug lg (U + 1) 0 (ug U) (U + 1) :=
  Or.inl ⟨U, by omega, rfl, fun i hi => by have := hm i hi; omega, rfl⟩
theorem fC_uO {ug lg : Nat → Nat} {U m c : Nat} (h : fC ug lg U 0 m c) : fC ug lg (U + 1) 0 m c := by
  rcases h with ⟨j, a1, a2⟩ | ⟨j, a1, a2⟩
  · exact Or.inl ⟨j, by omega, a2⟩
  · omega
theorem fC_lN {ug lg : Nat → Nat} {U V m : Nat} (hm : ∀ i, i < U → m ≤ ug i) (hl : ∀ i, i < V → m ≤ lg i) (h : lg V < m) : fC ug lg U (V + 1) (lg V) (9 + V) :=
  Or.inr ⟨V, by omega, rfl, fun i hi => by have := hm i hi; omega, fun i hi => by have := hl i hi; omega, rfl⟩
theorem fC_lO {ug lg : Nat → Nat} {U V m c : Nat} (h : fC ug lg U V m c) : fC ug lg U (V + 1) m c := by
  rcases h with ⟨j, a1, a2⟩ | ⟨j, a1, a2⟩
  · exact Or.inl ⟨j, a1, a2⟩
  · exact Or.inr ⟨j, by omega, a2⟩
theorem fC_ex (ug lg : Nat → Nat) : ∀ U, mn 1048576 ug U = 1048576 ∨ ∃ c, fC ug lg U 0 (mn 1048576 ug U) c := by
  intro U
  induction U with
  | zero => exact Or.inl rfl
  | succ U ih =>
    rw [mn]
    split
    · next q => exact Or.inr ⟨_, fC_uN (fun i hi => mn_g _ _ _ i hi) q⟩
    · rcases ih with q | ⟨c, q⟩
      · exact Or.inl q
      · exact Or.inr ⟨c, fC_uO q⟩
theorem fC_ex2 (ug lg : Nat → Nat) (U : Nat) : ∀ V, mn (mn 1048576 ug U) lg V = 1048576 ∨ ∃ c, fC ug lg U V (mn (mn 1048576 ug U) lg V) c := by
  intro V
  induction V with
  | zero => exact fC_ex ug lg U
  | succ V ih =>
    rw [mn]
    split
    · next q => exact Or.inr ⟨_, fC_lN (fun i hi => Nat.le_trans (mn_b _ lg V) (mn_g _ ug U i hi)) (fun i hi => mn_g _ _ _ i hi) q⟩
    · rcases ih with q | ⟨c, q⟩
      · exact Or.inl q
      · exact Or.inr ⟨c, fC_lO q⟩
/-- where a part is cut first: 0 not at all, k upright behind k columns, 8 + k level above k rows -/
def isC (wt mo : Nat → Nat) (lim : Nat) (C : Nat → Nat → Nat → Nat → Nat) (x y w h c : Nat) : Prop := (recS wt x w y h ≤ lim ∧ c = 0) ∨ (¬ recS wt x w y h ≤ lim ∧ fC (uc mo C x y w h) (lc mo C x y w h) (w - 1) (h - 1) (C x y w h) c)
theorem isC_u {wt mo : Nat → Nat} {lim : Nat} {C : Nat → Nat → Nat → Nat → Nat} {x y w h c c' : Nat} (h1 : isC wt mo lim C x y w h c) (h2 : isC wt mo lim C x y w h c') : c = c' := by
  rcases h1 with ⟨a, b⟩ | ⟨a, b⟩ <;> rcases h2 with ⟨a', b'⟩ | ⟨a', b'⟩
  · omega
  · exact absurd a a'
  · exact absurd a' a
  · exact fC_u b b'
noncomputable def cu (wt mo : Nat → Nat) (lim : Nat) (C : Nat → Nat → Nat → Nat → Nat) (x y w h : Nat) : Nat := Classical.epsilon (fun c => isC wt mo lim C x y w h c)
theorem cu_is {wt mo : Nat → Nat} {lim : Nat} {C : Nat → Nat → Nat → Nat → Nat} (hC : Cst wt mo lim C) {x y w h : Nat} (h1 : 1 ≤ w) (h2 : 1 ≤ h) (hlt : C x y w h < 1048576) : isC wt mo lim C x y w h (cu wt mo lim C x y w h) := by
  refine Classical.epsilon_spec (p := fun c => isC wt mo lim C x y w h c) ?_
  by_cases q : recS wt x w y h ≤ lim
  · exact ⟨0, Or.inl ⟨q, rfl⟩⟩
  · have e := hC x y w h h1 h2
    unfold cF at e
    rw [if_neg q] at e
    rcases fC_ex2 (uc mo C x y w h) (lc mo C x y w h) (w - 1) (h - 1) with g | ⟨c, g⟩
    · omega
    · exact ⟨c, Or.inr ⟨q, by rw [e]; exact g⟩⟩
theorem nf_mod {a b h K1 K2 : Nat} (h1 : nf a h K1) (h2 : nf b h K2) (hlt : K1 + K2 + h < 1048576) (hs : (a + b) * h ≤ 64) : (K1 + K2 + h) % 256 = K1 % 256 + K2 % 256 + h := by
  unfold nf at *
  rw [Nat.add_mul] at hs
  rcases h1 with q | ⟨n1, s1, e1, a1, b1, c1⟩
  · omega
  rcases h2 with q | ⟨n2, s2, e2, a2, b2, c2⟩
  · omega
  generalize a * h = p at *
  generalize b * h = q at *
  omega
theorem le64 {w h : Nat} (hw : w ≤ 8) (hh : h ≤ 8) : w * h ≤ 64 := Nat.mul_le_mul hw hh
/-- what a first cut leaves -/
theorem isC_up {wt mo : Nat → Nat} {lim : Nat} {C : Nat → Nat → Nat → Nat → Nat} (hC : Cst wt mo lim C) {x y w h k : Nat} (hh : 1 ≤ h) (hw8 : w ≤ 8) (hh8 : h ≤ 8) (hk : k + 1 < w) (hlt : C x y w h < 1048576) (e : uc mo C x y w h k = C x y w h) : C x y w h = C x y (k + 1) h + C (x + (k + 1)) y (w - (k + 1)) h + h ∧ C x y w h % 256 = C x y (k + 1) h % 256 + C (x + (k + 1)) y (w - (k + 1)) h % 256 + h := by
  unfold uc at e
  by_cases q : upOK mo x y h k
  · rw [pif_t q] at e
    have n1 := Cst_nf hC _ x y (k + 1) h (by omega) hh (Nat.le_refl _)
    have n2 := Cst_nf hC _ (x + (k + 1)) y (w - (k + 1)) h (by omega) hh (Nat.le_refl _)
    have := nf_mod n1 n2 (by omega) (by rw [show k + 1 + (w - (k + 1)) = w by omega]; exact le64 hw8 hh8)
    exact ⟨e.symm, by rw [← e]; exact this⟩
  · rw [pif_f q] at e; omega
theorem isC_lv {wt mo : Nat → Nat} {lim : Nat} {C : Nat → Nat → Nat → Nat → Nat} (hC : Cst wt mo lim C) {x y w h k : Nat} (hw : 1 ≤ w) (hw8 : w ≤ 8) (hh8 : h ≤ 8) (hk : k + 1 < h) (hlt : C x y w h < 1048576) (e : lc mo C x y w h k = C x y w h) : C x y w h = C x y w (k + 1) + C x (y + (k + 1)) w (h - (k + 1)) + w ∧ C x y w h % 256 = C x y w (k + 1) % 256 + C x (y + (k + 1)) w (h - (k + 1)) % 256 + w := by
  unfold lc at e
  by_cases q : lvOK mo x y w k
  · rw [pif_t q] at e
    have n1 := Cst_nf hC _ x y w (k + 1) hw (by omega) (Nat.le_refl _)
    have n2 := Cst_nf hC _ x (y + (k + 1)) w (h - (k + 1)) hw (by omega) (Nat.le_refl _)
    have := nf_mod (nf_sym n1) (nf_sym n2) (by omega) (by rw [show k + 1 + (h - (k + 1)) = h by omega]; exact le64 hh8 hw8)
    exact ⟨e.symm, by rw [← e]; exact this⟩
  · rw [pif_f q] at e; omega
theorem Cst_le {wt mo : Nat → Nat} {lim : Nat} {C : Nat → Nat → Nat → Nat → Nat} (hC : Cst wt mo lim C) {x y w h : Nat} (h1 : 1 ≤ w) (h2 : 1 ≤ h) : C x y w h ≤ 1048576 := by
  rw [hC x y w h h1 h2]
  unfold cF
  split
  · omega
  · exact Nat.le_trans (mn_b _ _ _) (mn_b _ _ _)
