/-! the class: it cuts up -/
theorem AllC.sc {C : Nat → Nat → Nat → Nat → Nat} {W H x y w h : Nat} {F : Nat → Int32} (hA : AllC C W H F) (h1 : 1 ≤ w) (h2 : 1 ≤ h) (hx : x + w ≤ W) (hy : y + h ≤ H) : SC C F x y w h := by
  refine ⟨fun k hk => ⟨?_, ?_⟩, fun k hk => ⟨?_, ?_⟩⟩
  · have := hA x (x + k) y (y + h - 1) (by omega) (by omega) (by omega) (by omega)
    rwa [show x + k + 1 - x = k + 1 by omega, show y + h - 1 + 1 - y = h by omega] at this
  · have := hA (x + (k + 1)) (x + w - 1) y (y + h - 1) (by omega) (by omega) (by omega) (by omega)
    rwa [show x + w - 1 + 1 - (x + (k + 1)) = w - (k + 1) by omega, show y + h - 1 + 1 - y = h by omega] at this
  · have := hA x (x + w - 1) y (y + k) (by omega) (by omega) (by omega) (by omega)
    rwa [show x + w - 1 + 1 - x = w by omega, show y + k + 1 - y = k + 1 by omega] at this
  · have := hA x (x + w - 1) (y + (k + 1)) (y + h - 1) (by omega) (by omega) (by omega) (by omega)
    rwa [show x + w - 1 + 1 - x = w by omega, show y + h - 1 + 1 - (y + (k + 1)) = h - (k + 1) by omega] at this
theorem Cst_ge {wt mo : Nat → Nat} {lim : Nat} {C : Nat → Nat → Nat → Nat → Nat} (hC : Cst wt mo lim C) {x y w h : Nat} (h1 : 1 ≤ w) (h2 : 1 ≤ h) : 256 ≤ C x y w h := by
  rcases Cst_nf hC _ x y w h h1 h2 (Nat.le_refl _) with g | ⟨n, s, a, b, _⟩ <;> omega
/-- a part costs one block if and only if it is one -/
theorem one_iff {wt mo : Nat → Nat} {lim : Nat} {C : Nat → Nat → Nat → Nat → Nat} (hC : Cst wt mo lim C) {x y w h : Nat} (h1 : 1 ≤ w) (h2 : 1 ≤ h) (hw8 : w ≤ 8) (hh8 : h ≤ 8) (hlt : C x y w h < 1048576) : C x y w h = 256 ↔ recS wt x w y h ≤ lim := by
  constructor
  · intro e
    rcases cu_is hC h1 h2 hlt with g | ⟨g, g2⟩
    · exact g.1
    · rcases g2 with ⟨j, a1, a2, a3, a4⟩ | ⟨j, a1, a2, a3, a5, a4⟩
      · have := (isC_up hC h2 hw8 hh8 (by omega) hlt a2).1
        have := Cst_ge hC (x := x) (y := y) (w := j + 1) (h := h) (by omega) h2
        have := Cst_ge hC (x := x + (j + 1)) (y := y) (w := w - (j + 1)) (h := h) (by omega) h2
        omega
      · have := (isC_lv hC h1 hw8 hh8 (by omega) hlt a2).1
        have := Cst_ge hC (x := x) (y := y) (w := w) (h := j + 1) h1 (by omega)
        have := Cst_ge hC (x := x) (y := y + (j + 1)) (w := w) (h := h - (j + 1)) h1 (by omega)
        omega
  · intro g
    rw [hC x y w h h1 h2]
    unfold cF
    rw [if_pos g]
theorem v_cf123 {wt mo : Nat → Nat} {lim W H x y w h n s : Nat} {C : Nat → Nat → Nat → Nat → Nat} {D P : List (Nat × Nat × Nat × Nat)} {F U F2 F3 F4 F5 : Nat → Int32} {post : Int32 → Int32 → Int32 → (Nat → Int32) → (Nat → Int32) → (Nat → Int32) → (Nat → Int32) → Prop} (hC : Cst wt mo lim C) (hW : W ≤ 8) (hH : H ≤ 8) (h1 : 1 ≤ w) (h2 : 1 ≤ h) (hx : x + w ≤ W) (hy : y + h ≤ H) (hU : LB mo W H H 0 U) (hF : SC C F x y w h) (hlt : C x y w h < 1048576) (en : n = D.length + 1 + P.length) (hn : n < 64) (hR : RC F2 F3 F4 F5 (D ++ (x, y, w, h) :: P)) (hu : ∀ i, i + 1 < w → uc mo C x y w h i ≠ C x y w h) (hno : ¬ ∀ i, i + 1 < h → lc mo C x y w h i ≠ C x y w h)
    (hp : ∀ k, k + 1 < h → lc mo C x y w h k = C x y w h → (∀ i, i < k → lc mo C x y w h i ≠ C x y w h) → ∀ G2 G3 G4 G5 : Nat → Int32, RC G2 G3 G4 G5 (D ++ (x, y, w, k + 1) :: (x, y + (k + 1), w, h - (k + 1)) :: P) → post 1 (nI (n + 1)) (nI (s + w)) G2 G3 G4 G5) : ∀ m k, h - k < m → k + 1 ≤ h → (∀ i, i < k → lc mo C x y w h i ≠ C x y w h) → V_X4_cutsFirst_123 (nI D.length) (nI x) (nI (x + w - 1)) (nI y) (nI (y + h - 1)) (nI (C x y w h)) F U (nI n) (nI s) F2 F3 F4 F5 post m (nI (y + k)) := by
  intro m
  induction m with
  | zero => intro k h; omega
  | succ m ih =>
    intro k g1 g2 g3
    rw [V_X4_cutsFirst_123_s, nI_leI (by omega) (by omega)]
    refine ⟨fun q => absurd (fun i hi => g3 i (by omega)) hno, fun q => s_lvC hC hW hH h1 h2 hx hy (by omega) hU hF ?_⟩
    rw [nI_eq (lc_le hC h1 (by omega) (by omega)) (by omega)]
    refine ⟨fun z => s_cutLv (by omega) (by omega) en hn hR (fun G2 G3 G4 G5 r => hp k (by omega) z g3 G2 G3 G4 G5 r), fun z v e => ?_⟩
    rw [e, nI_1, Nat.add_assoc]
    refine ih (k + 1) (by omega) (by omega) (fun i hi => ?_)
    rcases Nat.lt_or_ge i k with g | g
    · exact g3 i g
    · rw [show i = k by omega]; exact z
theorem v_cf79 {wt mo : Nat → Nat} {lim W H x y w h n s : Nat} {C : Nat → Nat → Nat → Nat → Nat} {D P : List (Nat × Nat × Nat × Nat)} {F U L F2 F3 F4 F5 : Nat → Int32} {post : Int32 → Int32 → Int32 → (Nat → Int32) → (Nat → Int32) → (Nat → Int32) → (Nat → Int32) → Prop} (hC : Cst wt mo lim C) (hW : W ≤ 8) (hH : H ≤ 8) (h1 : 1 ≤ w) (h2 : 1 ≤ h) (hx : x + w ≤ W) (hy : y + h ≤ H) (hU : UB mo W H 0 U) (hL : LB mo W H H 0 L) (hF : SC C F x y w h) (hlt : C x y w h < 1048576) (en : n = D.length + 1 + P.length) (hn : n < 64) (hR : RC F2 F3 F4 F5 (D ++ (x, y, w, h) :: P)) (hno : ∃ c, fC (uc mo C x y w h) (lc mo C x y w h) (w - 1) (h - 1) (C x y w h) c)
    (hpu : ∀ k, k + 1 < w → uc mo C x y w h k = C x y w h → fC (uc mo C x y w h) (lc mo C x y w h) (w - 1) (h - 1) (C x y w h) (k + 1) → ∀ G2 G3 G4 G5 : Nat → Int32, RC G2 G3 G4 G5 (D ++ (x, y, k + 1, h) :: (x + (k + 1), y, w - (k + 1), h) :: P) → post 1 (nI (n + 1)) (nI (s + h)) G2 G3 G4 G5)
    (hpl : ∀ k, k + 1 < h → lc mo C x y w h k = C x y w h → fC (uc mo C x y w h) (lc mo C x y w h) (w - 1) (h - 1) (C x y w h) (9 + k) → ∀ G2 G3 G4 G5 : Nat → Int32, RC G2 G3 G4 G5 (D ++ (x, y, w, k + 1) :: (x, y + (k + 1), w, h - (k + 1)) :: P) → post 1 (nI (n + 1)) (nI (s + w)) G2 G3 G4 G5) : ∀ m k, w - k < m → k + 1 ≤ w → (∀ i, i < k → uc mo C x y w h i ≠ C x y w h) → V_X4_cutsFirst_79 (nI D.length) (nI x) (nI (x + w - 1)) (nI y) (nI (y + h - 1)) (nI (C x y w h)) F U L (nI n) (nI s) F2 F3 F4 F5 post m (nI (x + k)) := by
  intro m
  induction m with
  | zero => intro k h; omega
  | succ m ih =>
    intro k g1 g2 g3
    rw [V_X4_cutsFirst_79_s, nI_leI (by omega) (by omega)]
    refine ⟨fun q => ?_, fun q => s_upC hC hW hH h1 h2 hx hy (by omega) hU hF ?_⟩
    · have hu : ∀ i, i + 1 < w → uc mo C x y w h i ≠ C x y w h := fun i hi => g3 i (by omega)
      refine ⟨h + 1, v_cf123 hC hW hH h1 h2 hx hy hL hF hlt en hn hR hu (fun z => ?_) (fun j a b c G2 G3 G4 G5 r => hpl j a b (Or.inr ⟨j, by omega, b, fun i hi => hu i (by omega), c, rfl⟩) G2 G3 G4 G5 r) (h + 1) 0 (by omega) (by omega) (fun i hi => by omega)⟩
      obtain ⟨c, ⟨j, a1, a2, a3⟩ | ⟨j, a1, a2, a3⟩⟩ := hno
      · exact hu j (by omega) a2
      · exact z j (by omega) a2
    · rw [nI_eq (uc_le hC h2 (by omega) (by omega)) (by omega)]
      refine ⟨fun z => s_cutUp (by omega) (by omega) en hn hR (fun G2 G3 G4 G5 r => hpu k (by omega) z (Or.inl ⟨k, by omega, z, g3, rfl⟩) G2 G3 G4 G5 r), fun z v e => ?_⟩
      rw [e, nI_1, Nat.add_assoc]
      refine ih (k + 1) (by omega) (by omega) (fun i hi => ?_)
      rcases Nat.lt_or_ge i k with g | g
      · exact g3 i g
      · rw [show i = k by omega]; exact z
theorem s_cutsFirst {wt mo : Nat → Nat} {lim W H x y w h n s : Nat} {C : Nat → Nat → Nat → Nat → Nat} {D P : List (Nat × Nat × Nat × Nat)} {F U L F2 F3 F4 F5 : Nat → Int32} {post : Int32 → Int32 → Int32 → (Nat → Int32) → (Nat → Int32) → (Nat → Int32) → (Nat → Int32) → Prop} (hC : Cst wt mo lim C) (hW : W ≤ 8) (hH : H ≤ 8) (hU : UB mo W H 0 U) (hL : LB mo W H H 0 L) (hA : AllC C W H F) (G : GS C W H D ((x, y, w, h) :: P) s) (en : n = D.length + 1 + P.length) (hR : RC F2 F3 F4 F5 (D ++ (x, y, w, h) :: P))
    (hp0 : C x y w h = 256 → isC wt mo lim C x y w h 0 → post 0 (nI n) (nI s) F2 F3 F4 F5)
    (hpu : ∀ k, k + 1 < w → uc mo C x y w h k = C x y w h → isC wt mo lim C x y w h (k + 1) → ∀ G2 G3 G4 G5 : Nat → Int32, RC G2 G3 G4 G5 (D ++ (x, y, k + 1, h) :: (x + (k + 1), y, w - (k + 1), h) :: P) → post 1 (nI (n + 1)) (nI (s + h)) G2 G3 G4 G5)
    (hpl : ∀ k, k + 1 < h → lc mo C x y w h k = C x y w h → isC wt mo lim C x y w h (9 + k) → ∀ G2 G3 G4 G5 : Nat → Int32, RC G2 G3 G4 G5 (D ++ (x, y, w, k + 1) :: (x, y + (k + 1), w, h - (k + 1)) :: P) → post 1 (nI (n + 1)) (nI (s + w)) G2 G3 G4 G5) : P_X4_cutsFirst (nI D.length) F U L (nI n) (nI s) F2 F3 F4 F5 post := by
  obtain ⟨b1, b2, b3, b4⟩ := G.1.1 (x, y, w, h) (List.mem_append.mpr (Or.inr (List.mem_cons.mpr (Or.inl rfl))))
  have hlt := G.2.2.1 _ (List.mem_cons.mpr (Or.inl rfl))
  simp only at b1 b2 b3 b4 hlt
  obtain ⟨p1, p2, p3, p4⟩ := hR _ _ lk0
  simp only at p1 p2 p3 p4
  have hlen := G.len hW hH
  rw [List.length_cons] at hlen
  have hone := one_iff hC b1 b2 (by omega) (by omega) hlt
  unfold P_X4_cutsFirst
  rw [nI_clamp (by omega), p1, p2, p3, p4]
  refine ⟨vi _ (by omega), fun v3 e3 => ⟨vi _ (by omega), fun v4 e4 => ⟨vi _ (by omega), fun v5 e5 => ⟨vi _ (by omega), fun v6 e6 => ?_⟩⟩⟩⟩
  rw [e3, nI_add, L1, pk_sub (by omega)] at e4
  rw [e5, nI_add, L1, pk_sub (by omega)] at e6
  rw [e3, e4, e5, e6]
  refine s_partC (by omega) (by omega) ?_
  have i := pC_lt (l := x) (r := x + w - 1) (lo := y) (hi := y + h - 1) (by omega) (by omega) (by omega) (by omega)
  have eA := hA x (x + w - 1) y (y + h - 1) (by omega) (by omega) (by omega) (by omega)
  rw [show x + w - 1 + 1 - x = w by omega, show y + h - 1 + 1 - y = h by omega] at eA
  rw [nI_clamp (by omega), eA]
  refine ⟨vi _ i, fun v7 e7 => ?_⟩
  rw [e7, L256, nI_eq (by omega) (by decide), L64, nI_ltI (by omega) (by decide)]
  refine ⟨fun q => hp0 q (Or.inl ⟨hone.mp q, rfl⟩), fun q => ?_⟩
  have hnl : ¬ recS wt x w y h ≤ lim := fun z => q (hone.mpr z)
  have hno : ∃ c, fC (uc mo C x y w h) (lc mo C x y w h) (w - 1) (h - 1) (C x y w h) c := by
    rcases cu_is hC b1 b2 hlt with g | g
    · exact absurd g.1 hnl
    · exact ⟨_, g.2⟩
  have hn : n < 64 := by
    obtain ⟨c, ⟨j, a1, a2, a3⟩ | ⟨j, a1, a2, a3⟩⟩ := hno
    · have := (GS.up hC hW hH G (by omega) a2).1.len hW hH
      rw [List.length_cons, List.length_cons] at this
      omega
    · have := (GS.lv hC hW hH G (by omega) a2).1.len hW hH
      rw [List.length_cons, List.length_cons] at this
      omega
  refine ⟨fun _ => ⟨w + 1, v_cf79 hC hW hH b1 b2 b3 b4 hU hL (hA.sc b1 b2 b3 b4) hlt en hn hR hno (fun k a b c => hpu k a b (Or.inr ⟨hnl, c⟩)) (fun k a b c => hpl k a b (Or.inr ⟨hnl, c⟩)) (w + 1) 0 (by omega) (by omega) (fun i hi => by omega)⟩, fun z => absurd hn z⟩
/-- the loop -/
theorem v_cutUp {wt mo : Nat → Nat} {lim W H : Nat} {C : Nat → Nat → Nat → Nat → Nat} {F U L F6 F7 : Nat → Int32} {post : Int32 → Int32 → (Nat → Int32) → (Nat → Int32) → (Nat → Int32) → (Nat → Int32) → (Nat → Int32) → (Nat → Int32) → Prop} {Z : List (Nat × Nat × Nat × Nat)} (hC : Cst wt mo lim C) (hW : W ≤ 8) (hH : H ≤ 8) (hU : UB mo W H 0 U) (hL : LB mo W H H 0 L) (hA : AllC C W H F)
    (hp : ∀ F2 F3 F4 F5 : Nat → Int32, RC F2 F3 F4 F5 Z → Pt W H Z → Z.length ≤ 64 → P_X2_numberCells (nI Z.length) F2 F3 F4 F5 F7 (fun b => P_X2_findTurns (nI W) (nI H) F2 F3 F6 b (fun t => post (nI Z.length) (nI (C 0 0 W H % 256)) F2 F3 F4 F5 t b))) : ∀ n m t D P s F2 F3 F4 F5, mu P < n → mu P ≤ m → t + mu P ≤ 127 → GS C W H D P s → RC F2 F3 F4 F5 (D ++ P) → fin (cu wt mo lim C) m D P = Z → V_X4_cutUp_17 F U L (nI W) (nI H) F6 F7 post n (nI D.length) (nI t) (nI (D.length + P.length)) (nI s) F2 F3 F4 F5 := by
  intro n
  induction n with
  | zero => intro m t D P s F2 F3 F4 F5 h; omega
  | succ n ih =>
    intro m t D P s F2 F3 F4 F5 g1 g2 g3 G hR hfin
    have hlen := G.len hW hH
    rw [V_X4_cutUp_17_s, L128, nI_leI (by decide) (by omega), nI_leI (by omega) (by omega)]
    refine ⟨fun q => by omega, fun _ => ?_⟩
    match P, g1, g2, g3, G, hR, hfin, hlen with
    | [], g1, g2, g3, G, hR, hfin, hlen =>
      refine ⟨fun _ => ?_, fun q => absurd (by simp) q⟩
      rw [fin_nil] at hfin
      subst hfin
      have es := G.2.2.2
      rw [sws, Nat.add_zero] at es
      rw [List.append_nil] at hR
      have hPt := G.1
      rw [List.append_nil] at hPt
      have := hp F2 F3 F4 F5 hR hPt (by simpa using hlen)
      rw [← es] at this
      exact this
    | (x, y, w, h) :: P, g1, g2, g3, G, hR, hfin, hlen =>
      obtain ⟨b1, b2, b3, b4⟩ := G.1.1 (x, y, w, h) (List.mem_append.mpr (Or.inr (List.mem_cons.mpr (Or.inl rfl))))
      have hlt := G.2.2.1 _ (List.mem_cons.mpr (Or.inl rfl))
      simp only at b1 b2 b3 b4 hlt
      have hm1 := Nat.mul_le_mul b1 b2
      obtain ⟨m, rfl⟩ : ∃ j, m = j + 1 := ⟨m - 1, by simp only [mu] at g2; omega⟩
      have hcu := cu_is hC b1 b2 hlt
      rw [fin] at hfin
      rw [List.length_cons] at hlen ⊢
      refine ⟨fun q => by omega, fun _ => s_cutsFirst (n := D.length + (P.length + 1)) hC hW hH hU hL hA G (by omega) hR (fun e ec => ⟨fun _ v3 e3 v4 e4 => ?_, fun q => absurd rfl q⟩) (fun k a b c G2 G3 G4 G5 r => ⟨fun q => absurd q (by decide), fun _ v4 e4 => ?_⟩) (fun k a b c G2 G3 G4 G5 r => ⟨fun q => absurd q (by decide), fun _ v4 e4 => ?_⟩)⟩
      · rw [e3, e4, nI_1, nI_1]
        rw [if_pos (isC_u hcu ec)] at hfin
        have := ih m (t + 1) (D ++ [(x, y, w, h)]) P s F2 F3 F4 F5 (by simp only [mu] at g1; omega) (by simp only [mu] at g2; omega) (by simp only [mu] at g3; omega) (G.leaf e) (by rw [List.append_assoc]; exact hR) hfin
        rw [List.length_append, List.length_singleton] at this
        rw [show D.length + (P.length + 1) = D.length + 1 + P.length by omega]
        exact this
      · rw [e4, nI_1]
        have hc := isC_u hcu c
        rw [hc, if_neg (by omega), if_pos (by omega)] at hfin
        obtain ⟨G', hmu⟩ := GS.up hC hW hH G a b
        have := ih m (t + 1) D _ (s + h) G2 G3 G4 G5 (by omega) (by omega) (by omega) G' r hfin
        rw [List.length_cons, List.length_cons] at this
        exact this
      · rw [e4, nI_1]
        have hc := isC_u hcu c
        rw [hc, if_neg (by omega), if_neg (by omega), show 9 + k - 8 = k + 1 by omega] at hfin
        obtain ⟨G', hmu⟩ := GS.lv hC hW hH G a b
        have := ih m (t + 1) D _ (s + w) G2 G3 G4 G5 (by omega) (by omega) (by omega) G' r hfin
        rw [List.length_cons, List.length_cons] at this
        exact this
