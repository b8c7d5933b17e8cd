/-! the reference: it cuts up, and counts the turns -/
theorem pk_sa {p c d : Nat} (g : c ≤ p + d) : nI p - nI c + nI d = nI (p + d - c) := by
  rw [Int32.sub_eq_add_neg, Int32.add_assoc, Int32.add_comm (-nI c) (nI d), ← Int32.add_assoc, ← Int32.sub_eq_add_neg, nI_add, pk_sub g]
def TD (T : Nat → Int32) (i : Nat) (p : Nat × Nat × Nat × Nat) : Prop := T (4 * i) = nI p.1 ∧ T (4 * i + 1) = nI p.2.1 ∧ T (4 * i + 2) = nI p.2.2.1 ∧ T (4 * i + 3) = nI p.2.2.2
def RT (T : Nat → Int32) (P : List (Nat × Nat × Nat × Nat)) : Prop := ∀ j p, P[j]? = some p → TD T (P.length - 1 - j) p
theorem s_puts {T : Nat → Int32} {i a b c d : Nat} {post : Int32 → (Nat → Int32) → Prop} (hi : i < 64) (hp : ∀ T' : Nat → Int32, TD T' i (a, b, c, d) → (∀ k, k < 4 * i → T' k = T k) → post (nI (i + 1)) T') : P_X10_puts (nI i) (nI a) (nI b) (nI c) (nI d) T post := by
  unfold P_X10_puts
  rw [L4, pk_mul, L1, L2, L3, nI_add, nI_add, nI_add, nI_add, nI_clamp (by omega), nI_clamp (by omega), nI_clamp (by omega), nI_clamp (by omega)]
  refine ⟨vi _ (by omega), fun T1 e1 => ⟨vi _ (by omega), fun T2 e2 => ⟨vi _ (by omega), fun T3 e3 => ⟨vi _ (by omega), fun T4 e4 => hp T4 ⟨?_, ?_, ?_, ?_⟩ (fun k hk => ?_)⟩⟩⟩⟩
  · rw [e4, upd_ne (by omega), e3, upd_ne (by omega), e2, upd_ne (by omega), e1, upd_eq]
  · rw [e4, upd_ne (by omega), e3, upd_ne (by omega), e2, upd_eq]
  · rw [e4, upd_ne (by omega), e3, upd_eq]
  · rw [e4, upd_eq]
  · rw [e4, upd_ne (by omega), e3, upd_ne (by omega), e2, upd_ne (by omega), e1, upd_ne (by omega)]
theorem RT.push {T T1 T2 : Nat → Int32} {P : List (Nat × Nat × Nat × Nat)} {p p1 p2 : Nat × Nat × Nat × Nat} (h : RT T (p :: P)) (a1 : TD T1 P.length p2) (a2 : ∀ k, k < 4 * P.length → T1 k = T k) (b1 : TD T2 (P.length + 1) p1) (b2 : ∀ k, k < 4 * (P.length + 1) → T2 k = T1 k) : RT T2 (p1 :: p2 :: P) := by
  intro j q hq
  match j, hq with
  | 0, hq =>
    have e : p1 = q := Option.some.inj hq
    rw [← e]
    exact b1
  | 1, hq =>
    have e : p2 = q := Option.some.inj hq
    rw [← e]
    show TD T2 P.length p2
    unfold TD at *
    rw [b2 _ (by omega), b2 _ (by omega), b2 _ (by omega), b2 _ (by omega)]
    exact a1
  | j + 2, hq =>
    have hq' : P[j]? = some q := hq
    have hl := (List.getElem?_eq_some_iff.mp hq').1
    have := h (j + 1) q hq'
    simp only [List.length_cons] at this ⊢
    rw [show P.length + 1 - 1 - (j + 1) = P.length + 1 + 1 - 1 - (j + 2) by omega] at this
    unfold TD at *
    rw [b2 _ (by omega), b2 _ (by omega), b2 _ (by omega), b2 _ (by omega), a2 _ (by omega), a2 _ (by omega), a2 _ (by omega), a2 _ (by omega)]
    exact this
theorem RT.pop {T : Nat → Int32} {P : List (Nat × Nat × Nat × Nat)} {p : Nat × Nat × Nat × Nat} (h : RT T (p :: P)) : RT T P := by
  intro j q hq
  have hl := (List.getElem?_eq_some_iff.mp hq).1
  have := h (j + 1) q hq
  rw [List.length_cons, show P.length + 1 - 1 - (j + 1) = P.length - 1 - j by omega] at this
  exact this
/-- the reference's blocks -/
def RM (A0 A : Nat → Int32) (D : List (Nat × Nat × Nat × Nat)) : Prop := A 5 = nI D.length ∧ (∀ j, j ≠ 5 → j < 170 ∨ 682 ≤ j → A j = A0 j) ∧ ∀ j p, D[j]? = some p → A (170 + 8 * j) = nI p.1 ∧ A (170 + 8 * j + 1) = nI p.2.1 ∧ A (170 + 8 * j + 2) = nI p.2.2.1 ∧ A (170 + 8 * j + 3) = nI p.2.2.2 ∧ A (170 + 8 * j + 4) = -1 ∧ A (170 + 8 * j + 5) = -1
theorem s_isBlock {A0 A : Nat → Int32} {D : List (Nat × Nat × Nat × Nat)} {a b c d : Nat} {post : (Nat → Int32) → Prop} (h : RM A0 A D) (hD : D.length < 64) (hp : ∀ A' : Nat → Int32, RM A0 A' (D ++ [(a, b, c, d)]) → post A') : P_X10_isBlock (nI a) (nI b) (nI c) (nI d) A post := by
  obtain ⟨h1, h2, h3⟩ := h
  have h1' : A (5 : Int32).toNatClampNeg = nI D.length := h1
  have c5 : (5 : Int32).toNatClampNeg = 5 := by decide
  unfold P_X10_isBlock
  rw [h1']
  refine ⟨vi 5 (by decide), fun v ev => ?_⟩
  rw [L170, L8, pk_mul, nI_add] at ev
  rw [ev, L1, L2, L3, L4, L5, nI_add, nI_add, nI_add, nI_add, nI_add, nI_clamp (by omega), nI_clamp (by omega), nI_clamp (by omega), nI_clamp (by omega), nI_clamp (by omega), nI_clamp (by omega), nI_clamp (show 5 < 2 ^ 31 by omega)]
  refine ⟨vi _ (by omega), fun A1 e1 => ⟨vi _ (by omega), fun A2 e2 => ⟨vi _ (by omega), fun A3 e3 => ⟨vi _ (by omega), fun A4 e4 => ⟨vi _ (by omega), fun A5 e5 => ⟨vi _ (by omega), fun A6 e6 => ⟨vi _ (by omega), vi _ (by omega), fun A7 e7 => hp A7 ⟨?_, fun j hj hj2 => ?_, fun j p hj => ?_⟩⟩⟩⟩⟩⟩⟩⟩
  · rw [e7, upd_eq, e6, upd_ne (by omega), e5, upd_ne (by omega), e4, upd_ne (by omega), e3, upd_ne (by omega), e2, upd_ne (by omega), e1, upd_ne (by omega), h1, nI_add, List.length_append]; rfl
  · rw [e7, upd_ne hj, e6, upd_ne (by omega), e5, upd_ne (by omega), e4, upd_ne (by omega), e3, upd_ne (by omega), e2, upd_ne (by omega), e1, upd_ne (by omega)]
    exact h2 j hj hj2
  · rcases Nat.lt_or_ge j D.length with g | g
    · rw [List.getElem?_append_left g] at hj
      have := h3 j p hj
      rw [e7, e6, e5, e4, e3, e2, e1]
      simp (disch := omega) only [upd_ne]
      exact this
    · rw [List.getElem?_append_right g] at hj
      have hl := (List.getElem?_eq_some_iff.mp hj).1
      rw [List.length_singleton] at hl
      have ej : j = D.length := by omega
      rw [ej, Nat.sub_self] at hj
      have ep : (a, b, c, d) = p := Option.some.inj hj
      rw [← ep, ej, e7, e6, e5, e4, e3, e2, e1]
      simp (disch := omega) only [upd_ne, upd_eq]
      exact ⟨trivial, trivial, trivial, trivial, rfl, rfl⟩
theorem v_153 {wt mo : Nat → Nat} {lim W H : Nat} {C : Nat → Nat → Nat → Nat → Nat} {A0 F S Q : Nat → Int32} {Z : List (Nat × Nat × Nat × Nat)} {post : Int32 → (Nat → Int32) → (Nat → Int32) → (Nat → Int32) → (Nat → Int32) → (Nat → Int32) → Prop} (hC : Cst wt mo lim C) (hW : W ≤ 8) (hH : H ≤ 8) (hS : AllS wt mo lim C W H F S Q)
    (hp : ∀ A T : Nat → Int32, RM A0 A Z → ∃ k : Nat, V_X10_plan_329 F S Q T post k (nI 0) A) : ∀ n m D P s A T, mu P < n → mu P ≤ m → GS C W H D P s → RM A0 A D → RT T P → fin (cu wt mo lim C) m D P = Z → V_X10_plan_153 F S Q post n (nI P.length) A T := by
  intro n
  induction n with
  | zero => intro m D P s A T h; omega
  | succ n ih =>
    intro m D P s A T g1 g2 G hR hT hfin
    have hlen := G.len hW hH
    rw [V_X10_plan_153_s, L0, nI_leI (by omega) (by omega)]
    match P, g1, g2, G, hT, hfin, hlen with
    | [], g1, g2, G, hT, hfin, hlen =>
      rw [fin_nil] at hfin
      subst hfin
      exact ⟨fun _ => hp A T hR, fun q => absurd (by simp) q⟩
    | (x, y, w, h) :: P, g1, g2, G, hT, hfin, hlen =>
      obtain ⟨b1, b2, b3, b4⟩ := G.1.1 (x, y, w, h) (List.mem_append.mpr (Or.inr (List.mem_cons.mpr (Or.inl rfl))))
      have hlt := G.2.2.1 _ (List.mem_cons.mpr (Or.inl rfl))
      simp only at b1 b2 b3 b4 hlt
      have hm1 := Nat.mul_le_mul b1 b2
      obtain ⟨m, rfl⟩ : ∃ j, m = j + 1 := ⟨m - 1, by simp only [mu] at g2; omega⟩
      have hcu := cu_is hC b1 b2 hlt
      rw [fin] at hfin
      rw [List.length_cons] at hlen ⊢
      obtain ⟨t1, t2, t3, t4⟩ := hT 0 (x, y, w, h) rfl
      rw [List.length_cons, show P.length + 1 - 1 - 0 = P.length by omega] at t1 t2 t3 t4
      simp only at t1 t2 t3 t4
      refine ⟨fun q => by omega, fun _ v2 e2 => ?_⟩
      rw [dwn] at e2
      rw [e2, L4, pk_mul, L1, L2, L3, nI_add, nI_add, nI_add, nI_clamp (by omega), nI_clamp (by omega), nI_clamp (by omega), nI_clamp (by omega), t1, t2, t3, t4]
      refine ⟨vi _ (by omega), fun v3 e3 => ⟨vi _ (by omega), fun v4 e4 => ⟨vi _ (by omega), fun v5 e5 => ⟨vi _ (by omega), fun v6 e6 => ?_⟩⟩⟩⟩
      rw [e3, e4, e5, e6]
      refine s_partM b1 b2 ?_
      have i := pM_lt b1 b2 (show x + w ≤ 8 by omega) (show y + h ≤ 8 by omega)
      obtain ⟨c, c1, c2⟩ := (hS x y w h b1 b2 b3 b4).2 hlt
      have hc := isC_u hcu c2
      rw [hc] at hfin
      rw [nI_clamp (by omega), c1]
      refine ⟨vi _ i, fun v7 e7 => ?_⟩
      rw [e7]
      rcases c2 with ⟨g, g'⟩ | ⟨g, ⟨k, a1, a2, a3, a4⟩ | ⟨k, a1, a2, a3, a5, a4⟩⟩
      · rw [g', if_pos rfl] at hfin
        rw [g']
        refine ⟨fun _ => s_isBlock hR (by omega) (fun A' hR' => ?_), fun q => absurd rfl q⟩
        exact ih m _ P s A' T (by simp only [mu] at g1; omega) (by simp only [mu] at g2; omega) (G.leaf ((one_iff hC b1 b2 (by omega) (by omega) hlt).mpr g)) hR' hT.pop hfin
      · rw [a4, if_neg (by omega), if_pos (by omega)] at hfin
        obtain ⟨G', hmu⟩ := GS.up hC hW hH G (by omega) a2
        have hl' := G'.len hW hH
        rw [List.length_cons, List.length_cons] at hl'
        rw [a4, nI_eq (by omega) (by omega), L8, nI_leI (by omega) (by omega)]
        refine ⟨fun q => by omega, fun _ => ⟨fun q => by omega, fun _ => ?_⟩⟩
        rw [nI_add, pk_sub (by omega)]
        refine s_puts (by omega) (fun T1 u1 u2 => s_puts (by omega) (fun T2 w1 w2 => ?_))
        have := ih m D _ (s + h) A T2 (by omega) (by omega) G' hR (hT.push u1 u2 w1 w2) hfin
        rw [List.length_cons, List.length_cons] at this
        exact this
      · rw [a4, if_neg (by omega), if_neg (by omega), show 9 + k - 8 = k + 1 by omega] at hfin
        obtain ⟨G', hmu⟩ := GS.lv hC hW hH G (by omega) a2
        have hl' := G'.len hW hH
        rw [List.length_cons, List.length_cons] at hl'
        rw [a4, nI_eq (by omega) (by omega), L8, nI_leI (by omega) (by omega)]
        refine ⟨fun q => by omega, fun _ => ⟨fun _ => ?_, fun q => by omega⟩⟩
        rw [nI_add, pk_sub (by omega), pk_sa (by omega), pk_sub (by omega), show y + (9 + k) - 8 = y + (k + 1) by omega, show h + 8 - (9 + k) = h - (k + 1) by omega, show 9 + k - 8 = k + 1 by omega]
        refine s_puts (by omega) (fun T1 u1 u2 => s_puts (by omega) (fun T2 w1 w2 => ?_))
        have := ih m D _ (s + w) A T2 (by omega) (by omega) G' hR (hT.push u1 u2 w1 w2) hfin
        rw [List.length_cons, List.length_cons] at this
        exact this
theorem v_turnOf {A : Nat → Int32} {B b : Nat} {l lo : Nat → Nat} {post : Int32 → Prop} (hB : B ≤ 64) (hb : b < B) (e5 : A 5 = nI B) (hA : ∀ a, a < B → A (170 + 8 * a + 0) = nI (l a) ∧ A (170 + 8 * a + 1) = nI (lo a) ∧ l a ≤ 8 ∧ lo a ≤ 8) (hp : post (nI (nx B l lo (lo b) (l b)))) : ∀ n a, B - a < n → a ≤ B → V_X10_turnOf_4 (nI b) A post n (nI (ct (fun a => decide (a < B ∧ (lo a < lo b ∨ (lo a = lo b ∧ l a < l b)))) a)) (nI a) := by
  intro n
  induction n with
  | zero => intro j h; omega
  | succ n ih =>
    intro a h1 h2
    have e5' : A (5 : Int32).toNatClampNeg = nI B := e5
    rw [V_X10_turnOf_4_s, e5', nI_leI (by omega) (by omega)]
    refine ⟨vi 5 (by decide), fun q => by rw [show a = B by omega]; exact hp, fun q => ?_⟩
    obtain ⟨a0, a1, a2, a3⟩ := hA a (by omega)
    obtain ⟨b0, c1, b2, b3⟩ := hA b hb
    have hs := ih (a + 1) (by omega) (by omega)
    rw [ct] at hs
    refine s_of (j := 1) (by omega) (by decide) (s_of (j := 1) (by omega) (by decide) ?_)
    rw [a1, c1, nI_ltI (by omega) (by omega)]
    refine ⟨fun z v2 e2 v3 e3 => ?_, fun z => s_of (j := 1) (by omega) (by decide) (s_of (j := 1) (by omega) (by decide) ?_)⟩
    · rw [if_pos (decide_eq_true (by omega))] at hs
      rw [e2, e3, nI_1, nI_1]; exact hs
    · rw [a1, c1, nI_eq (by omega) (by omega)]
      refine ⟨fun z2 => s_of (j := 0) (by omega) (by decide) (s_of (j := 0) (by omega) (by decide) ?_), fun z2 v2 e2 v3 e3 => ?_⟩
      · rw [a0, b0, nI_leI (by omega) (by omega)]
        refine ⟨fun z3 v2 e2 v3 e3 => ?_, fun z3 v2 e2 v3 e3 => ?_⟩
        · rw [if_neg (by rw [decide_eq_true_iff]; omega), ← nI_add] at hs
          rw [e2, e3, nI_1]; exact hs
        · rw [if_pos (decide_eq_true (by omega))] at hs
          rw [e2, e3, nI_1, nI_1]; exact hs
      · rw [if_neg (by rw [decide_eq_true_iff]; omega), ← nI_add] at hs
        rw [e2, e3, nI_1]; exact hs
theorem v_329 {A0 F S Q T : Nat → Int32} {B : Nat} {l lo : Nat → Nat} {post : Int32 → (Nat → Int32) → (Nat → Int32) → (Nat → Int32) → (Nat → Int32) → (Nat → Int32) → Prop} (hB : B ≤ 64) (e5 : A0 5 = nI B) (hA : ∀ a, a < B → A0 (170 + 8 * a + 0) = nI (l a) ∧ A0 (170 + 8 * a + 1) = nI (lo a) ∧ l a ≤ 8 ∧ lo a ≤ 8) (hp : ∀ A : Nat → Int32, (∀ b, b < B → A (170 + 8 * b + 6) = nI (nx B l lo (lo b) (l b))) → (∀ j, (∀ b, b < B → j ≠ 170 + 8 * b + 6) → A j = A0 j) → post (nI B) A F S Q T) : ∀ n b A, B - b < n → b ≤ B → (∀ b', b' < b → A (170 + 8 * b' + 6) = nI (nx B l lo (lo b') (l b'))) → (∀ j, (∀ b, b < B → j ≠ 170 + 8 * b + 6) → A j = A0 j) → V_X10_plan_329 F S Q T post n (nI b) A := by
  intro n
  induction n with
  | zero => intro j A h; omega
  | succ n ih =>
    intro b A h1 h2 h3 h4
    have e5' : A (5 : Int32).toNatClampNeg = nI B := (h4 5 (fun b _ => by omega)).trans e5
    rw [V_X10_plan_329_s, e5', nI_leI (by omega) (by omega)]
    refine ⟨vi 5 (by decide), fun q => ⟨vi 5 (by decide), hp A (fun b' hb' => h3 b' (by omega)) h4⟩, fun q => ⟨B + 1, ?_⟩⟩
    refine v_turnOf (l := l) (lo := lo) hB (by omega) e5' (fun a ha => ?_) ?_ (B + 1) 0 (by omega) (by omega)
    · rw [h4 _ (fun b _ => by omega), h4 _ (fun b _ => by omega)]
      exact hA a ha
    · have e1 : (170 + (8 * nI b)) + 6 = nI (170 + 8 * b + 6) := ix170 b 6
      rw [e1, nI_clamp (by omega)]
      refine ⟨vi _ (by omega), fun A' eA v ev => ?_⟩
      rw [ev, nI_1]
      refine ih (b + 1) A' (by omega) (by omega) (fun b' hb' => ?_) (fun j hj => ?_)
      · by_cases hbb : b' = b
        · rw [hbb, eA, upd_eq]
        · rw [eA, upd_ne (by omega)]; exact h3 b' (by omega)
      · rw [eA, upd_ne (hj b (by omega))]; exact h4 j hj
