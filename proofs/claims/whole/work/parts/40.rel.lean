def mkI (a0 a1 a2 a3 a4 a5 a6 a7 a8 a9 : Int32) : Nat → Int32 := fun j => match j with
  | 0 => a0 | 1 => a1 | 2 => a2 | 3 => a3 | 4 => a4 | 5 => a5 | 6 => a6 | 7 => a7 | 8 => a8 | _ => a9
def mkF (a0 a1 a2 a3 a4 a5 a6 a7 a8 a9 a10 a11 a12 a13 : Nat → Int32) : Nat → Nat → Int32 := fun j => match j with
  | 0 => a0 | 1 => a1 | 2 => a2 | 3 => a3 | 4 => a4 | 5 => a5 | 6 => a6 | 7 => a7 | 8 => a8 | 9 => a9 | 10 => a10 | 11 => a11 | 12 => a12 | _ => a13
/-- block a is right above block b -/
def abv (l lo c r : Nat → Nat) (a b : Nat) : Prop := lo a = lo b + r b ∧ l a < l b + c b ∧ l b < l a + c a
def inB (l lo c r : Nat → Nat) (b x y : Nat) : Prop := l b ≤ x ∧ x < l b + c b ∧ lo b ≤ y ∧ y < lo b + r b
/-- how many k < n have p -/
def ct (p : Nat → Bool) : Nat → Nat
  | 0 => 0
  | n + 1 => ct p n + (if p n then 1 else 0)
/-- the numbers: limit, saw, day, columns, rows -/
def RSc (i A : Nat → Int32) (lim sw dy w h : Nat) : Prop := (i 0 = nI lim ∧ A 2 = nI lim ∧ 1 ≤ lim ∧ lim ≤ 3200) ∧ (i 1 = nI sw ∧ A 3 = nI sw ∧ 1 ≤ sw ∧ sw ≤ 9) ∧ (i 2 = nI dy ∧ A 4 = nI dy ∧ dy ≤ 5000) ∧ (i 3 = nI w ∧ A 0 = nI w ∧ 1 ≤ w ∧ w ≤ 8) ∧ (i 4 = nI h ∧ A 1 = nI h ∧ 1 ≤ h ∧ h ≤ 8)
/-- the wall's cells -/
def RWl (f : Nat → Nat → Int32) (A : Nat → Int32) (wt mo : Nat → Nat) : Prop := ∀ k, k < 64 → (f 0 k = nI (wt k) ∧ A (30 + k) = nI (wt k) ∧ 1 ≤ wt k ∧ wt k ≤ 50) ∧ (f 1 k = nI (mo k) ∧ A (100 + k) = nI (mo k) ∧ mo k ≤ 9)
def RRv (f : Nat → Nat → Int32) (A : Nat → Int32) (hh : Nat → Nat) : Prop := ∀ k, k < 12 → f 8 k = nI (hh k) ∧ A (10 + k) = nI (hh k) ∧ hh k ≤ 9
/-- the blocks are a partition of the wall, bA says which has a cell -/
def Geo (w h B : Nat) (l lo c r bA : Nat → Nat) : Prop := (∀ b, b < B → 1 ≤ c b ∧ 1 ≤ r b ∧ l b + c b ≤ w ∧ lo b + r b ≤ h) ∧ (0 < B → ∀ x y, x < w → y < h → bA (8 * y + x) < B ∧ inB l lo c r (bA (8 * y + x)) x y) ∧ (∀ b x y, b < B → inB l lo c r b x y → bA (8 * y + x) = b)
def RPl (i : Nat → Int32) (f : Nat → Nat → Int32) (A : Nat → Int32) (w h B : Nat) (l lo c r tn bA : Nat → Nat) : Prop := (i 5 = nI B ∧ A 5 = nI B ∧ B ≤ 64 ∧ A 6 = i 6) ∧
  (∀ b, b < B → (f 2 b = nI (l b) ∧ A (170 + 8 * b) = nI (l b)) ∧ (f 3 b = nI (lo b) ∧ A (170 + 8 * b + 1) = nI (lo b)) ∧ (f 4 b = nI (c b) ∧ A (170 + 8 * b + 2) = nI (c b)) ∧ (f 5 b = nI (r b) ∧ A (170 + 8 * b + 3) = nI (r b)) ∧ (f 6 b = nI (tn b) ∧ A (170 + 8 * b + 6) = nI (tn b) ∧ tn b < 64)) ∧
  (0 < B → ∀ x y, x < w → y < h → f 7 (8 * y + x) = nI (bA (8 * y + x))) ∧ Geo w h B l lo c r bA
/-- which blocks are taken (f 9 is not -1), on which piles they lie; q: in which order they were taken -/
def RYd (i : Nat → Int32) (f : Nat → Nat → Int32) (A : Nat → Int32) (B T pn : Nat) (l lo c r q : Nat → Nat) : Prop := (i 7 = nI T ∧ i 8 = nI pn ∧ A 7 = nI pn ∧ T ≤ B ∧ pn ≤ T ∧ T = ct (fun b => decide (¬ f 9 b = -1)) B) ∧
  (∀ b, b < B → A (170 + 8 * b + 4) = f 9 b ∧ A (170 + 8 * b + 5) = f 10 b ∧ ((f 9 b = -1 ∧ f 10 b = -1) ∨ ∃ d p, d ≤ 5000 ∧ p < pn ∧ f 9 b = nI d ∧ f 10 b = nI p)) ∧
  (∀ k, k < T → q k < B ∧ A (760 + k) = nI (q k) ∧ ¬ f 9 (q k) = -1 ∧ f 11 (q k) = nI (ct (fun j => decide (f 10 (q j) = f 10 (q k))) k)) ∧
  (∀ k j, k < T → j < T → q k = q j → k = j) ∧ (∀ b, b < B → ¬ f 9 b = -1 → ∃ k, k < T ∧ q k = b) ∧
  (∀ p, p < pn → ∃ k, k < T ∧ f 12 p = nI (q k) ∧ f 10 (q k) = nI p ∧ ∀ j, k < j → j < T → ¬ f 10 (q j) = nI p) ∧
  (∀ a b, a < B → b < B → abv l lo c r a b → ¬ f 9 b = -1 → ¬ f 9 a = -1)
def ROd (i : Nat → Int32) (f : Nat → Nat → Int32) (A : Nat → Int32) (O : Nat) : Prop := i 9 = nI O ∧ A 8 = nI O ∧ O ≤ 64 ∧ ∀ k, k < O → A (690 + k) = f 13 k
/-- what the class holds of a site (i its numbers, f its rows) is what the reference holds of it (A) -/
def Rel (i : Nat → Int32) (f : Nat → Nat → Int32) (A : Nat → Int32) : Prop := ∃ (lim sw dy w h B T pn O : Nat) (wt mo hh l lo c r tn bA q : Nat → Nat), RSc i A lim sw dy w h ∧ RWl f A wt mo ∧ RRv f A hh ∧ RPl i f A w h B l lo c r tn bA ∧ RYd i f A B T pn l lo c r q ∧ ROd i f A O
theorem Rel.same {i : Nat → Int32} {f : Nat → Nat → Int32} {A : Nat → Int32} (h : Rel i f A) : Rel (mkI (i 0) (i 1) (i 2) (i 3) (i 4) (i 5) (i 6) (i 7) (i 8) (i 9)) (mkF (f 0) (f 1) (f 2) (f 3) (f 4) (f 5) (f 6) (f 7) (f 8) (f 9) (f 10) (f 11) (f 12) (f 13)) A := h
/-- the cells of a site -/
def siteW (cI : ClassId) (a : Nat → Nat) (i : Nat → Int32) (f : Nat → Nat → Int32) : va_W := [oc (a 0) 5 [.int (i 0), .int (i 1), .int (i 2), .ref (a 1), .ref (a 4), .ref (a 11), .ref (a 13), .ref (a 18)], oc (a 1) 6 [.int (i 3), .int (i 4), .ref (a 2), .ref (a 3)], ai cI (a 2) 64 (f 0), ai cI (a 3) 64 (f 1), oc (a 4) 2 [.int (i 5), .int (i 6), .ref (a 5), .ref (a 6), .ref (a 7), .ref (a 8), .ref (a 9), .ref (a 10)], ai cI (a 5) 64 (f 2), ai cI (a 6) 64 (f 3), ai cI (a 7) 64 (f 4), ai cI (a 8) 64 (f 5), ai cI (a 9) 64 (f 6), ai cI (a 10) 64 (f 7), oc (a 11) 3 [.ref (a 12)], ai cI (a 12) 12 (f 8), oc (a 13) 7 [.int (i 7), .int (i 8), .ref (a 14), .ref (a 15), .ref (a 16), .ref (a 17)], ai cI (a 14) 64 (f 9), ai cI (a 15) 64 (f 10), ai cI (a 16) 64 (f 11), ai cI (a 17) 64 (f 12), oc (a 18) 1 [.int (i 9), .ref (a 19)], ai cI (a 19) 64 (f 13)]
def tl (cI : ClassId) (e : Nat → Bool) (aa : Nat → Nat → Nat) (ii : Nat → Nat → Int32) (ff : Nat → Nat → Nat → Int32) (k : Nat) : va_W := if e k then siteW cI (aa k) (ii k) (ff k) else []
def TT (cI : ClassId) (e : Nat → Bool) (aa : Nat → Nat → Nat) (ii : Nat → Nat → Int32) (ff : Nat → Nat → Nat → Int32) : va_W := tl cI e aa ii ff 0 ++ (tl cI e aa ii ff 1 ++ tl cI e aa ii ff 2)
def TR (cI : ClassId) (e : Nat → Bool) (aa : Nat → Nat → Nat) (ii : Nat → Nat → Int32) (ff : Nat → Nat → Nat → Int32) (k : Nat) : va_W := match k with
  | 0 => tl cI e aa ii ff 1 ++ tl cI e aa ii ff 2
  | 1 => tl cI e aa ii ff 2 ++ tl cI e aa ii ff 0
  | _ => tl cI e aa ii ff 0 ++ tl cI e aa ii ff 1
theorem tl_ne {cI : ClassId} {e : Nat → Bool} {aa : Nat → Nat → Nat} {ii : Nat → Nat → Int32} {ff : Nat → Nat → Nat → Int32} {k j : Nat} (h : j ≠ k) (a : Nat → Nat) (i : Nat → Int32) (f : Nat → Nat → Int32) : tl cI (va_up e k true) (va_up aa k a) (va_up ii k i) (va_up ff k f) j = tl cI e aa ii ff j := by
  simp [tl, va_up, h]
theorem tl_eq {cI : ClassId} {e : Nat → Bool} {aa : Nat → Nat → Nat} {ii : Nat → Nat → Int32} {ff : Nat → Nat → Nat → Int32} {k : Nat} (a : Nat → Nat) (i : Nat → Int32) (f : Nat → Nat → Int32) : tl cI (va_up e k true) (va_up aa k a) (va_up ii k i) (va_up ff k f) k = siteW cI a i f := by
  simp [tl, va_up]
theorem TT_out {cI : ClassId} {e : Nat → Bool} {aa : Nat → Nat → Nat} {ii : Nat → Nat → Int32} {ff : Nat → Nat → Nat → Int32} {D : va_G} {A : Nat → Prop} {X : va_W} {H : Heap} (h : PD D A (X ++ TT cI e aa ii ff) H) {k : Nat} (hk : k < 3) : PD D A (X ++ (tl cI e aa ii ff k ++ TR cI e aa ii ff k)) H := by
  rcases (show k = 0 ∨ k = 1 ∨ k = 2 by omega) with rfl | rfl | rfl
  · exact h
  · have := h.swap
    rw [List.append_assoc] at this
    exact this
  · unfold TT at h
    rw [← List.append_assoc (tl cI e aa ii ff 0)] at h
    exact h.swap
theorem TT_in {cI : ClassId} {e : Nat → Bool} {aa : Nat → Nat → Nat} {ii : Nat → Nat → Int32} {ff : Nat → Nat → Nat → Int32} {D : va_G} {A : Nat → Prop} {X : va_W} {H : Heap} {k : Nat} (hk : k < 3) {a : Nat → Nat} {i : Nat → Int32} {f : Nat → Nat → Int32} (h : PD D A ((X ++ siteW cI a i f) ++ TR cI e aa ii ff k) H) : PD D A (X ++ TT cI (va_up e k true) (va_up aa k a) (va_up ii k i) (va_up ff k f)) H := by
  rw [List.append_assoc] at h
  unfold TT
  rcases (show k = 0 ∨ k = 1 ∨ k = 2 by omega) with rfl | rfl | rfl
  · rw [tl_eq, tl_ne (by decide), tl_ne (by decide)]
    exact h
  · rw [tl_eq, tl_ne (by decide), tl_ne (by decide)]
    have h2 : PD D A (X ++ (siteW cI a i f ++ (tl cI e aa ii ff 2 ++ tl cI e aa ii ff 0))) H := h
    rw [← List.append_assoc (siteW cI a i f)] at h2
    exact h2.swap
  · rw [tl_eq, tl_ne (by decide), tl_ne (by decide)]
    have h2 := h.swap
    rw [← List.append_assoc (tl cI e aa ii ff 0)]
    exact h2
theorem Rel.view {i : Nat → Int32} {f : Nat → Nat → Int32} {A A' : Nat → Int32} (h : Rel i f A) (ha : ∀ j, j < 830 → A' j = A j) : Rel i f A' := by
  obtain ⟨lim, sw, dy, w, h', B, T, pn, O, wt, mo, hh, l, lo, c, r, tn, bA, q, h1, h2, h3, h4, h5, h6⟩ := h
  have hB : B ≤ 64 := h4.1.2.2.1
  have hT : T ≤ B := h5.1.2.2.2.1
  refine ⟨lim, sw, dy, w, h', B, T, pn, O, wt, mo, hh, l, lo, c, r, tn, bA, q, ?_, ?_, ?_, ?_, ?_, ?_⟩
  · unfold RSc at *
    rw [ha 2 (by omega), ha 3 (by omega), ha 4 (by omega), ha 0 (by omega), ha 1 (by omega)]
    exact h1
  · intro k hk
    rw [ha (30 + k) (by omega), ha (100 + k) (by omega)]
    exact h2 k hk
  · intro k hk
    rw [ha (10 + k) (by omega)]
    exact h3 k hk
  · refine ⟨?_, fun b hb => ?_, h4.2.2⟩
    · rw [ha 5 (by omega), ha 6 (by omega)]; exact h4.1
    · rw [ha (170 + 8 * b) (by omega), ha (170 + 8 * b + 1) (by omega), ha (170 + 8 * b + 2) (by omega), ha (170 + 8 * b + 3) (by omega), ha (170 + 8 * b + 6) (by omega)]
      exact h4.2.1 b hb
  · refine ⟨?_, fun b hb => ?_, fun k hk => ?_, h5.2.2.2⟩
    · rw [ha 7 (by omega)]; exact h5.1
    · rw [ha (170 + 8 * b + 4) (by omega), ha (170 + 8 * b + 5) (by omega)]
      exact h5.2.1 b hb
    · rw [ha (760 + k) (by omega)]
      exact h5.2.2.1 k hk
  · refine ⟨h6.1, ?_, h6.2.2.1, fun k hk => ?_⟩
    · rw [ha 8 (by omega)]; exact h6.2.1
    · have := h6.2.2.1
      rw [ha (690 + k) (by omega)]
      exact h6.2.2.2 k hk
