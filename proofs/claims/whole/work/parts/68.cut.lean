/-! cutting up: parts done and parts to do; a part is (x, y, w, h) -/
def inb (p : Nat × Nat × Nat × Nat) (x y : Nat) : Prop := p.1 ≤ x ∧ x < p.1 + p.2.2.1 ∧ p.2.1 ≤ y ∧ y < p.2.1 + p.2.2.2
def bnd (W H : Nat) (p : Nat × Nat × Nat × Nat) : Prop := 1 ≤ p.2.2.1 ∧ 1 ≤ p.2.2.2 ∧ p.1 + p.2.2.1 ≤ W ∧ p.2.1 + p.2.2.2 ≤ H
def dj (a b : Nat × Nat × Nat × Nat) : Prop := ∀ x y, ¬ (inb a x y ∧ inb b x y)
/-- the parts make up the wall -/
def Pt (W H : Nat) (L : List (Nat × Nat × Nat × Nat)) : Prop := (∀ p, p ∈ L → bnd W H p) ∧ L.Pairwise dj ∧ ∀ x y, x < W → y < H → ∃ p, p ∈ L ∧ inb p x y
theorem Pt.cut {W H : Nat} {D P : List (Nat × Nat × Nat × Nat)} {p p1 p2 : Nat × Nat × Nat × Nat} (h : Pt W H (D ++ p :: P)) (hi : ∀ x y, inb p x y ↔ inb p1 x y ∨ inb p2 x y) (hd : dj p1 p2) (b1 : bnd W H p1) (b2 : bnd W H p2) : Pt W H (D ++ p1 :: p2 :: P) := by
  obtain ⟨h1, h2, h3⟩ := h
  have d1 : ∀ q, dj p q → dj p1 q ∧ dj p2 q := fun q g => ⟨fun x y z => g x y ⟨(hi x y).mpr (Or.inl z.1), z.2⟩, fun x y z => g x y ⟨(hi x y).mpr (Or.inr z.1), z.2⟩⟩
  have d2 : ∀ q, dj q p → dj q p1 ∧ dj q p2 := fun q g => ⟨fun x y z => g x y ⟨z.1, (hi x y).mpr (Or.inl z.2)⟩, fun x y z => g x y ⟨z.1, (hi x y).mpr (Or.inr z.2)⟩⟩
  refine ⟨fun q hq => ?_, ?_, fun x y hx hy => ?_⟩
  · rcases List.mem_append.mp hq with g | g
    · exact h1 q (List.mem_append.mpr (Or.inl g))
    · rcases List.mem_cons.mp g with g | g
      · rw [g]; exact b1
      · rcases List.mem_cons.mp g with g | g
        · rw [g]; exact b2
        · exact h1 q (List.mem_append.mpr (Or.inr (List.mem_cons.mpr (Or.inr g))))
  · rw [List.pairwise_append, List.pairwise_cons] at h2
    obtain ⟨a1, ⟨a2, a3⟩, a4⟩ := h2
    rw [List.pairwise_append, List.pairwise_cons, List.pairwise_cons]
    refine ⟨a1, ⟨fun q hq => ?_, fun q hq => (d1 q (a2 q hq)).2, a3⟩, fun a ha q hq => ?_⟩
    · rcases List.mem_cons.mp hq with g | g
      · rw [g]; exact hd
      · exact (d1 q (a2 q g)).1
    · have ap := d2 a (a4 a ha p (List.mem_cons.mpr (Or.inl rfl)))
      rcases List.mem_cons.mp hq with g | g
      · rw [g]; exact ap.1
      · rcases List.mem_cons.mp g with g | g
        · rw [g]; exact ap.2
        · exact a4 a ha q (List.mem_cons.mpr (Or.inr g))
  · obtain ⟨q, hq, g⟩ := h3 x y hx hy
    rcases List.mem_append.mp hq with m | m
    · exact ⟨q, List.mem_append.mpr (Or.inl m), g⟩
    · rcases List.mem_cons.mp m with m | m
      · rw [m] at g
        rcases (hi x y).mp g with z | z
        · exact ⟨p1, List.mem_append.mpr (Or.inr (List.mem_cons.mpr (Or.inl rfl))), z⟩
        · exact ⟨p2, List.mem_append.mpr (Or.inr (List.mem_cons.mpr (Or.inr (List.mem_cons.mpr (Or.inl rfl))))), z⟩
      · exact ⟨q, List.mem_append.mpr (Or.inr (List.mem_cons.mpr (Or.inr (List.mem_cons.mpr (Or.inr m))))), g⟩
def ar : List (Nat × Nat × Nat × Nat) → Nat
  | [] => 0
  | p :: P => p.2.2.1 * p.2.2.2 + ar P
def mu : List (Nat × Nat × Nat × Nat) → Nat
  | [] => 0
  | p :: P => (2 * (p.2.2.1 * p.2.2.2) - 1) + mu P
def sws (C : Nat → Nat → Nat → Nat → Nat) : List (Nat × Nat × Nat × Nat) → Nat
  | [] => 0
  | p :: P => C p.1 p.2.1 p.2.2.1 p.2.2.2 % 256 + sws C P
theorem ar_app (D P : List (Nat × Nat × Nat × Nat)) : ar (D ++ P) = ar D + ar P := by
  induction D with
  | nil => simp [ar]
  | cons p D ih => simp only [List.cons_append, ar, ih]; omega
theorem ar_len {W H : Nat} : ∀ L : List (Nat × Nat × Nat × Nat), (∀ p, p ∈ L → bnd W H p) → L.length ≤ ar L := by
  intro L
  induction L with
  | nil => intro _; exact Nat.le_refl _
  | cons p P ih =>
    intro h
    have := ih (fun q hq => h q (List.mem_cons.mpr (Or.inr hq)))
    obtain ⟨a, b, _⟩ := h p (List.mem_cons.mpr (Or.inl rfl))
    have := Nat.mul_le_mul a b
    rw [List.length_cons, ar]; omega
/-- a state of the cutting -/
def GS (C : Nat → Nat → Nat → Nat → Nat) (W H : Nat) (D P : List (Nat × Nat × Nat × Nat)) (s : Nat) : Prop := Pt W H (D ++ P) ∧ ar (D ++ P) = W * H ∧ (∀ p, p ∈ P → C p.1 p.2.1 p.2.2.1 p.2.2.2 < 1048576) ∧ s + sws C P = C 0 0 W H % 256
theorem GS.leaf {C : Nat → Nat → Nat → Nat → Nat} {W H s : Nat} {D P : List (Nat × Nat × Nat × Nat)} {p : Nat × Nat × Nat × Nat} (h : GS C W H D (p :: P) s) (e : C p.1 p.2.1 p.2.2.1 p.2.2.2 = 256) : GS C W H (D ++ [p]) P s := by
  have el : D ++ [p] ++ P = D ++ p :: P := by rw [List.append_assoc]; rfl
  unfold GS at *
  rw [el]
  obtain ⟨h1, h2, h3, h4⟩ := h
  refine ⟨h1, h2, fun q hq => h3 q (List.mem_cons.mpr (Or.inr hq)), ?_⟩
  rw [sws, e] at h4
  omega
theorem GS.up {wt mo : Nat → Nat} {lim : Nat} {C : Nat → Nat → Nat → Nat → Nat} {W H s x y w h k : Nat} {D P : List (Nat × Nat × Nat × Nat)} (hC : Cst wt mo lim C) (hW : W ≤ 8) (hH : H ≤ 8) (G : GS C W H D ((x, y, w, h) :: P) s) (hk : k + 1 < w) (e : uc mo C x y w h k = C x y w h) : GS C W H D ((x, y, k + 1, h) :: (x + (k + 1), y, w - (k + 1), h) :: P) (s + h) ∧ mu ((x, y, k + 1, h) :: (x + (k + 1), y, w - (k + 1), h) :: P) < mu ((x, y, w, h) :: P) := by
  obtain ⟨h1, h2, h3, h4⟩ := G
  obtain ⟨b1, b2, b3, b4⟩ := h1.1 (x, y, w, h) (List.mem_append.mpr (Or.inr (List.mem_cons.mpr (Or.inl rfl))))
  have hlt := h3 _ (List.mem_cons.mpr (Or.inl rfl))
  simp only at b1 b2 b3 b4 hlt
  obtain ⟨c1, c2⟩ := isC_up hC b2 (by omega) (by omega) hk hlt e
  have ew : w * h = (k + 1) * h + (w - (k + 1)) * h := by rw [← Nat.add_mul]; congr 1; omega
  have m1 := Nat.mul_le_mul (show 1 ≤ k + 1 by omega) b2
  have m2 := Nat.mul_le_mul (show 1 ≤ w - (k + 1) by omega) b2
  refine ⟨⟨h1.cut (fun x' y' => ?_) (fun x' y' => ?_) ⟨by simp only; omega, by simp only; omega, by simp only; omega, by simp only; omega⟩ ⟨by simp only; omega, by simp only; omega, by simp only; omega, by simp only; omega⟩, ?_, fun q hq => ?_, ?_⟩, ?_⟩
  · simp only [inb]; omega
  · simp only [inb]; omega
  · rw [ar_app] at h2 ⊢
    simp only [ar] at h2 ⊢
    omega
  · rcases List.mem_cons.mp hq with g | g
    · rw [g]; simp only; omega
    · rcases List.mem_cons.mp g with g | g
      · rw [g]; simp only; omega
      · exact h3 q (List.mem_cons.mpr (Or.inr g))
  · simp only [sws] at h4 ⊢
    omega
  · simp only [mu]
    omega
theorem GS.lv {wt mo : Nat → Nat} {lim : Nat} {C : Nat → Nat → Nat → Nat → Nat} {W H s x y w h k : Nat} {D P : List (Nat × Nat × Nat × Nat)} (hC : Cst wt mo lim C) (hW : W ≤ 8) (hH : H ≤ 8) (G : GS C W H D ((x, y, w, h) :: P) s) (hk : k + 1 < h) (e : lc mo C x y w h k = C x y w h) : GS C W H D ((x, y, w, k + 1) :: (x, y + (k + 1), w, h - (k + 1)) :: P) (s + w) ∧ mu ((x, y, w, k + 1) :: (x, y + (k + 1), w, h - (k + 1)) :: P) < mu ((x, y, w, h) :: P) := by
  obtain ⟨h1, h2, h3, h4⟩ := G
  obtain ⟨b1, b2, b3, b4⟩ := h1.1 (x, y, w, h) (List.mem_append.mpr (Or.inr (List.mem_cons.mpr (Or.inl rfl))))
  have hlt := h3 _ (List.mem_cons.mpr (Or.inl rfl))
  simp only at b1 b2 b3 b4 hlt
  obtain ⟨c1, c2⟩ := isC_lv hC b1 (by omega) (by omega) hk hlt e
  have ew : w * h = w * (k + 1) + w * (h - (k + 1)) := by rw [← Nat.mul_add]; congr 1; omega
  have m1 := Nat.mul_le_mul b1 (show 1 ≤ k + 1 by omega)
  have m2 := Nat.mul_le_mul b1 (show 1 ≤ h - (k + 1) by omega)
  refine ⟨⟨h1.cut (fun x' y' => ?_) (fun x' y' => ?_) ⟨by simp only; omega, by simp only; omega, by simp only; omega, by simp only; omega⟩ ⟨by simp only; omega, by simp only; omega, by simp only; omega, by simp only; omega⟩, ?_, fun q hq => ?_, ?_⟩, ?_⟩
  · simp only [inb]; omega
  · simp only [inb]; omega
  · rw [ar_app] at h2 ⊢
    simp only [ar] at h2 ⊢
    omega
  · rcases List.mem_cons.mp hq with g | g
    · rw [g]; simp only; omega
    · rcases List.mem_cons.mp g with g | g
      · rw [g]; simp only; omega
      · exact h3 q (List.mem_cons.mpr (Or.inr g))
  · simp only [sws] at h4 ⊢
    omega
  · simp only [mu]
    omega
theorem GS.len {C : Nat → Nat → Nat → Nat → Nat} {W H s : Nat} {D P : List (Nat × Nat × Nat × Nat)} (hW : W ≤ 8) (hH : H ≤ 8) (G : GS C W H D P s) : D.length + P.length ≤ 64 := by
  have := ar_len _ G.1.1
  have := G.2.1
  have := le64 hW hH
  rw [List.length_append] at *
  omega
/-- what becomes of the parts to do -/
def fin (cut : Nat → Nat → Nat → Nat → Nat) : Nat → List (Nat × Nat × Nat × Nat) → List (Nat × Nat × Nat × Nat) → List (Nat × Nat × Nat × Nat)
  | 0, D, _ => D
  | _ + 1, D, [] => D
  | n + 1, D, (x, y, w, h) :: P => if cut x y w h = 0 then fin cut n (D ++ [(x, y, w, h)]) P else if cut x y w h < 9 then fin cut n D ((x, y, cut x y w h, h) :: (x + cut x y w h, y, w - cut x y w h, h) :: P) else fin cut n D ((x, y, w, cut x y w h - 8) :: (x, y + (cut x y w h - 8), w, h - (cut x y w h - 8)) :: P)
theorem fin_nil (cut : Nat → Nat → Nat → Nat → Nat) (n : Nat) (D : List (Nat × Nat × Nat × Nat)) : fin cut n D [] = D := by cases n <;> rfl
theorem lk {D P : List (Nat × Nat × Nat × Nat)} {p p1 p2 q : Nat × Nat × Nat × Nat} {j : Nat} (h : (D ++ p1 :: p2 :: P)[j]? = some q) : (j < D.length ∧ (D ++ p :: P)[j]? = some q) ∨ (j = D.length ∧ q = p1) ∨ (j = D.length + 1 ∧ q = p2) ∨ (D.length + 2 ≤ j ∧ j < D.length + 2 + P.length ∧ (D ++ p :: P)[j - 1]? = some q) := by
  rcases Nat.lt_or_ge j D.length with g | g
  · rw [List.getElem?_append_left g] at h
    exact Or.inl ⟨g, by rw [List.getElem?_append_left g]; exact h⟩
  · rw [List.getElem?_append_right g] at h
    obtain ⟨i, rfl⟩ : ∃ i, j = D.length + i := ⟨j - D.length, by omega⟩
    rw [show D.length + i - D.length = i by omega] at h
    match i, h with
    | 0, h => exact Or.inr (Or.inl ⟨rfl, by simpa using h.symm⟩)
    | 1, h => exact Or.inr (Or.inr (Or.inl ⟨rfl, by simpa using h.symm⟩))
    | i + 2, h =>
      have h' : P[i]? = some q := h
      have hl := (List.getElem?_eq_some_iff.mp h').1
      refine Or.inr (Or.inr (Or.inr ⟨by omega, by omega, ?_⟩))
      rw [List.getElem?_append_right (by omega), show D.length + (i + 2) - 1 - D.length = i + 1 by omega]
      exact h'
theorem lk0 {D P : List (Nat × Nat × Nat × Nat)} {p : Nat × Nat × Nat × Nat} : (D ++ p :: P)[D.length]? = some p := by
  rw [List.getElem?_append_right (Nat.le_refl _), Nat.sub_self]; rfl
/-- the class's rows hold these parts -/
def RC (F2 F3 F4 F5 : Nat → Int32) (L : List (Nat × Nat × Nat × Nat)) : Prop := ∀ j p, L[j]? = some p → F2 j = nI p.1 ∧ F3 j = nI p.2.1 ∧ F4 j = nI p.2.2.1 ∧ F5 j = nI p.2.2.2
theorem s_moveUp {F : Nat → Int32} {b n : Nat} {post : (Nat → Int32) → Prop} (hb : b < n) (hn : n < 64) (hp : ∀ G : Nat → Int32, (∀ j, j ≤ b → G j = F j) → (∀ j, b < j → j ≤ n → G j = F (j - 1)) → post G) : P_X2_moveUp 64 (nI b) (nI n) F post := by
  unfold P_X2_moveUp
  rw [nI_1, pk_sub (by omega), nI_clamp (by omega), nI_clamp (by omega), nI_clamp (by omega)]
  refine ⟨⟨⟨dwnS _ (by omega), dwnS _ (by omega), dwnS _ (by omega)⟩, by omega, by omega⟩, fun G e => hp G (fun j hj => ?_) (fun j h1 h2 => ?_)⟩
  · rw [e, pk_cpy_out (by omega)]
  · rw [e, pk_cpy_in (by omega) (by omega)]
    congr 1; omega
theorem s_makeTwo {F2 F3 F4 F5 : Nat → Int32} {b n : Nat} {post : Int32 → (Nat → Int32) → (Nat → Int32) → (Nat → Int32) → (Nat → Int32) → Prop} (hb : b < n) (hn : n < 64) (hp : ∀ G2 G3 G4 G5 : Nat → Int32, (∀ j, j ≤ b → G2 j = F2 j ∧ G3 j = F3 j ∧ G4 j = F4 j ∧ G5 j = F5 j) → (∀ j, b < j → j ≤ n → G2 j = F2 (j - 1) ∧ G3 j = F3 (j - 1) ∧ G4 j = F4 (j - 1) ∧ G5 j = F5 (j - 1)) → post (nI (n + 1)) G2 G3 G4 G5) : P_X2_makeTwo (nI b) (nI n) F2 F3 F4 F5 post := by
  refine s_moveUp hb hn (fun G2 a2 b2 => s_moveUp hb hn (fun G3 a3 b3 => s_moveUp hb hn (fun G4 a4 b4 => s_moveUp hb hn (fun G5 a5 b5 v e => ?_))))
  rw [e, nI_1]
  exact hp G2 G3 G4 G5 (fun j h => ⟨a2 j h, a3 j h, a4 j h, a5 j h⟩) (fun j h h' => ⟨b2 j h h', b3 j h h', b4 j h h', b5 j h h'⟩)
theorem s_cutUp {F2 F3 F4 F5 : Nat → Int32} {D P : List (Nat × Nat × Nat × Nat)} {x y w h k n s : Nat} {post : Int32 → Int32 → (Nat → Int32) → (Nat → Int32) → (Nat → Int32) → (Nat → Int32) → Prop} (hx : x + w ≤ 8) (hk : k + 1 < w) (en : n = D.length + 1 + P.length) (hn : n < 64) (hR : RC F2 F3 F4 F5 (D ++ (x, y, w, h) :: P)) (hp : ∀ G2 G3 G4 G5 : Nat → Int32, RC G2 G3 G4 G5 (D ++ (x, y, k + 1, h) :: (x + (k + 1), y, w - (k + 1), h) :: P) → post (nI (n + 1)) (nI (s + h)) G2 G3 G4 G5) : P_X2_cutUpright (nI D.length) (nI (x + k)) (nI n) (nI s) F2 F3 F4 F5 post := by
  obtain ⟨p1, p2, p3, p4⟩ := hR _ _ lk0
  simp only at p1 p2 p3 p4
  refine s_makeTwo (by omega) (by omega) (fun G2 G3 G4 G5 a b => ?_)
  obtain ⟨a2, a3, a4, a5⟩ := a D.length (Nat.le_refl _)
  obtain ⟨b2, b3, b4, b5⟩ := b (D.length + 1) (by omega) (by omega)
  rw [Nat.add_sub_cancel] at b2 b3 b4 b5
  rw [nI_1, nI_1, nI_clamp (by omega), nI_clamp (by omega), a2, a5, p1, p4, pk_sub (by omega), nI_add]
  refine ⟨vi _ (by omega), vi _ (by omega), fun H4 e4 => ⟨vi _ (by omega), fun H2 e2 => ⟨vi _ (by omega), vi _ (by omega), vi _ (by omega), fun H4' e4' => ⟨vi _ (by omega), fun v ev => ?_⟩⟩⟩⟩
  rw [e4, upd_ne (show D.length + 1 ≠ D.length by omega), upd_eq, b4, p3, pk_sub (by omega)] at e4'
  rw [ev]
  refine hp H2 G3 H4' G5 (fun j q hq => ?_)
  rcases lk (p := (x, y, w, h)) hq with ⟨g, g2⟩ | ⟨g, g2⟩ | ⟨g, g2⟩ | ⟨g, g3, g2⟩
  · obtain ⟨r1, r2, r3, r4⟩ := hR _ _ g2
    obtain ⟨t2, t3, t4, t5⟩ := a j (by omega)
    rw [e2, e4', upd_ne (by omega), upd_ne (by omega), upd_ne (by omega), t2, t3, t4, t5]
    exact ⟨r1, r2, r3, r4⟩
  · rw [g, g2, e2, e4', upd_ne (by omega), upd_ne (by omega), upd_eq, a2, a3, a5]
    exact ⟨p1, p2, by congr 1; simp only; omega, p4⟩
  · rw [g, g2, e2, e4', upd_eq, upd_eq, b3, b5]
    exact ⟨by congr 1, p2, by congr 1; simp only; omega, p4⟩
  · obtain ⟨r1, r2, r3, r4⟩ := hR _ _ g2
    obtain ⟨t2, t3, t4, t5⟩ := b j (by omega) (by omega)
    rw [e2, e4', upd_ne (by omega), upd_ne (by omega), upd_ne (by omega), t2, t3, t4, t5]
    exact ⟨r1, r2, r3, r4⟩
theorem s_cutLv {F2 F3 F4 F5 : Nat → Int32} {D P : List (Nat × Nat × Nat × Nat)} {x y w h k n s : Nat} {post : Int32 → Int32 → (Nat → Int32) → (Nat → Int32) → (Nat → Int32) → (Nat → Int32) → Prop} (hx : y + h ≤ 8) (hk : k + 1 < h) (en : n = D.length + 1 + P.length) (hn : n < 64) (hR : RC F2 F3 F4 F5 (D ++ (x, y, w, h) :: P)) (hp : ∀ G2 G3 G4 G5 : Nat → Int32, RC G2 G3 G4 G5 (D ++ (x, y, w, k + 1) :: (x, y + (k + 1), w, h - (k + 1)) :: P) → post (nI (n + 1)) (nI (s + w)) G2 G3 G4 G5) : P_X2_cutLevel (nI D.length) (nI (y + k)) (nI n) (nI s) F2 F3 F4 F5 post := by
  obtain ⟨p1, p2, p3, p4⟩ := hR _ _ lk0
  simp only at p1 p2 p3 p4
  refine s_makeTwo (by omega) (by omega) (fun G2 G3 G4 G5 a b => ?_)
  obtain ⟨a2, a3, a4, a5⟩ := a D.length (Nat.le_refl _)
  obtain ⟨b2, b3, b4, b5⟩ := b (D.length + 1) (by omega) (by omega)
  rw [Nat.add_sub_cancel] at b2 b3 b4 b5
  rw [nI_1, nI_1, nI_clamp (by omega), nI_clamp (by omega), a3, a4, p2, p3, pk_sub (by omega), nI_add]
  refine ⟨vi _ (by omega), vi _ (by omega), fun H4 e4 => ⟨vi _ (by omega), fun H2 e2 => ⟨vi _ (by omega), vi _ (by omega), vi _ (by omega), fun H4' e4' => ⟨vi _ (by omega), fun v ev => ?_⟩⟩⟩⟩
  rw [e4, upd_ne (show D.length + 1 ≠ D.length by omega), upd_eq, b5, p4, pk_sub (by omega)] at e4'
  rw [ev]
  refine hp G2 H2 G4 H4' (fun j q hq => ?_)
  rcases lk (p := (x, y, w, h)) hq with ⟨g, g2⟩ | ⟨g, g2⟩ | ⟨g, g2⟩ | ⟨g, g3, g2⟩
  · obtain ⟨r1, r2, r3, r4⟩ := hR _ _ g2
    obtain ⟨t2, t3, t4, t5⟩ := a j (by omega)
    rw [e2, e4', upd_ne (by omega), upd_ne (by omega), upd_ne (by omega), t2, t3, t4, t5]
    exact ⟨r1, r2, r3, r4⟩
  · rw [g, g2, e2, e4', upd_ne (by omega), upd_ne (by omega), upd_eq, a2, a3, a4]
    exact ⟨p1, p2, p3, by congr 1; simp only; omega⟩
  · rw [g, g2, e2, e4', upd_eq, upd_eq, b2, b4]
    exact ⟨p1, by congr 1, p3, by congr 1; simp only; omega⟩
  · obtain ⟨r1, r2, r3, r4⟩ := hR _ _ g2
    obtain ⟨t2, t3, t4, t5⟩ := b j (by omega) (by omega)
    rw [e2, e4', upd_ne (by omega), upd_ne (by omega), upd_ne (by omega), t2, t3, t4, t5]
    exact ⟨r1, r2, r3, r4⟩
