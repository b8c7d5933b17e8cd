theorem s_copy {n : Nat} {f g : Nat → Int32} {post : (Nat → Int32) → Prop} (hn : n < 2 ^ 31) (h : ∀ g' : Nat → Int32, (∀ k, k < n → g' k = f k) → post g') : P_X9_copyRow n n f g post := by
  intro m em
  have e : m = nI n := by rw [em]; split <;> rfl
  have e0 : (0 : Int32).toNatClampNeg = 0 := by decide
  rw [e, nI_clamp hn, e0]
  refine ⟨⟨⟨by decide, by decide, nI_pos hn⟩, by omega, by omega⟩, fun g' eg => h g' (fun k hk => ?_)⟩
  rw [eg, pk_cpy_in (by omega) (by omega)]
  congr 1
  omega
theorem s_become {t0 t1 t2 t3 t4 t5 t6 t7 t8 t9 t10 t11 t12 t13 : Nat → Int32} {i : Nat → Int32} {f : Nat → Nat → Int32} {post : Int32 → Int32 → Int32 → Int32 → Int32 → (Nat → Int32) → (Nat → Int32) → Int32 → Int32 → (Nat → Int32) → (Nat → Int32) → (Nat → Int32) → (Nat → Int32) → (Nat → Int32) → (Nat → Int32) → (Nat → Int32) → Int32 → Int32 → (Nat → Int32) → (Nat → Int32) → (Nat → Int32) → (Nat → Int32) → Int32 → (Nat → Int32) → Prop} (h : ∀ g0 g1 g2 g3 g4 g5 g6 g7 g8 g9 g10 g11 g12 g13 : Nat → Int32, (∀ k, k < 64 → g0 k = f 0 k) → (∀ k, k < 64 → g1 k = f 1 k) → (∀ k, k < 64 → g2 k = f 2 k) → (∀ k, k < 64 → g3 k = f 3 k) → (∀ k, k < 64 → g4 k = f 4 k) → (∀ k, k < 64 → g5 k = f 5 k) → (∀ k, k < 64 → g6 k = f 6 k) → (∀ k, k < 64 → g7 k = f 7 k) → (∀ k, k < 12 → g8 k = f 8 k) → (∀ k, k < 64 → g9 k = f 9 k) → (∀ k, k < 64 → g10 k = f 10 k) → (∀ k, k < 64 → g11 k = f 11 k) → (∀ k, k < 64 → g12 k = f 12 k) → (∀ k, k < 64 → g13 k = f 13 k) → post (i 0) (i 1) (i 2) (i 3) (i 4) g0 g1 (i 5) (i 6) g2 g3 g4 g5 g6 g7 g8 (i 7) (i 8) g9 g10 g11 g12 (i 9) g13) : P_X5_become t0 t1 t2 t3 t4 t5 t6 t7 t8 t9 t10 t11 t12 t13 (i 0) (i 1) (i 2) (i 3) (i 4) (f 0) (f 1) (i 5) (i 6) (f 2) (f 3) (f 4) (f 5) (f 6) (f 7) (f 8) (i 7) (i 8) (f 9) (f 10) (f 11) (f 12) (i 9) (f 13) post :=
  s_copy (by decide) (fun g0 e0 => s_copy (by decide) (fun g1 e1 => s_copy (by decide) (fun g2 e2 => s_copy (by decide) (fun g3 e3 => s_copy (by decide) (fun g4 e4 => s_copy (by decide) (fun g5 e5 => s_copy (by decide) (fun g6 e6 => s_copy (by decide) (fun g7 e7 => s_copy (by decide) (fun g8 e8 => s_copy (by decide) (fun g9 e9 => s_copy (by decide) (fun g10 e10 => s_copy (by decide) (fun g11 e11 => s_copy (by decide) (fun g12 e12 => s_copy (by decide) (fun g13 e13 => h _ _ _ _ _ _ _ _ _ _ _ _ _ _ e0 e1 e2 e3 e4 e5 e6 e7 e8 e9 e10 e11 e12 e13))))))))))))))
theorem Rel.rows {i : Nat → Int32} {f f' : Nat → Nat → Int32} {A : Nat → Int32} (h : Rel i f A) (hf : ∀ j, j < 14 → j ≠ 8 → ∀ k, k < 64 → f' j k = f j k) (h8 : ∀ k, k < 12 → f' 8 k = f 8 k) : Rel i f' A := by
  obtain ⟨lim, sw, dy, w, h', B, T, pn, O, wt, mo, hh, l, lo, c, r, tn, bA, q, h1, h2, h3, h4, h5, h6⟩ := h
  have hB : B ≤ 64 := h4.1.2.2.1
  have hw : w ≤ 8 := h1.2.2.2.1.2.2.2
  have hh' : h' ≤ 8 := h1.2.2.2.2.2.2.2
  have hT : T ≤ B := h5.1.2.2.2.1
  have hp : pn ≤ T := h5.1.2.2.2.2.1
  have f9 : ∀ b, b < B → f' 9 b = f 9 b := fun b hb => hf 9 (by decide) (by decide) b (by omega)
  have f10 : ∀ b, b < B → f' 10 b = f 10 b := fun b hb => hf 10 (by decide) (by decide) b (by omega)
  refine ⟨lim, sw, dy, w, h', B, T, pn, O, wt, mo, hh, l, lo, c, r, tn, bA, q, h1, fun k hk => ?_, fun k hk => ?_, ?_, ?_, ?_⟩
  · rw [hf 0 (by decide) (by decide) k hk, hf 1 (by decide) (by decide) k hk]; exact h2 k hk
  · rw [h8 k hk]; exact h3 k hk
  · refine ⟨h4.1, fun b hb => ?_, fun q x y hx hy => ?_, h4.2.2.2⟩
    · rw [hf 2 (by decide) (by decide) b (by omega), hf 3 (by decide) (by decide) b (by omega), hf 4 (by decide) (by decide) b (by omega), hf 5 (by decide) (by decide) b (by omega), hf 6 (by decide) (by decide) b (by omega)]
      exact h4.2.1 b hb
    · rw [hf 7 (by decide) (by decide) _ (by omega)]; exact h4.2.2.1 q x y hx hy
  · obtain ⟨y1, y2, y3, y4, y5, y6, y7⟩ := h5
    refine ⟨⟨y1.1, y1.2.1, y1.2.2.1, y1.2.2.2.1, y1.2.2.2.2.1, ?_⟩, fun b hb => ?_, fun k hk => ?_, y4, fun b hb hb2 => ?_, fun p hp' => ?_, fun a b ha hb hab => ?_⟩
    · rw [y1.2.2.2.2.2]
      exact ct_cong (fun k hk => by rw [f9 k hk])
    · rw [f9 b hb, f10 b hb]; exact y2 b hb
    · obtain ⟨z1, z2, z3, z4⟩ := y3 k hk
      refine ⟨z1, z2, by rw [f9 _ z1]; exact z3, ?_⟩
      rw [hf 11 (by decide) (by decide) _ (by omega), z4]
      congr 1
      exact ct_cong (fun j hj => by rw [f10 _ z1, f10 _ (y3 j (by omega)).1])
    · rw [f9 b hb] at hb2; exact y5 b hb hb2
    · obtain ⟨k, z1, z2, z3, z4⟩ := y6 p hp'
      refine ⟨k, z1, by rw [hf 12 (by decide) (by decide) p (by omega)]; exact z2, by rw [f10 _ (y3 k z1).1]; exact z3, fun j j1 j2 => ?_⟩
      rw [f10 _ (y3 j j2).1]; exact z4 j j1 j2
    · rw [f9 a ha, f9 b hb]; exact y7 a b ha hb hab
  · refine ⟨h6.1, h6.2.1, h6.2.2.1, fun k hk => ?_⟩
    have := h6.2.2.1
    rw [hf 13 (by decide) (by decide) k (by omega)]; exact h6.2.2.2 k hk
theorem v_image {k : Nat} {all has : Nat → Int32} {post : Int32 → (Nat → Int32) → (Nat → Int32) → Prop} (hk : k < 3) (h : ∀ d : Nat → Int32, (∀ j, j < 830 → d (830 * (k + 1) + j) = all j) → (∀ j, j < 830 * (k + 1) ∨ 830 * (k + 2) ≤ j → d j = all j) → post 1 d has) : ∀ n v d, 830 - v < n → v ≤ 830 → (∀ j, j < v → d (830 * (k + 1) + j) = all j) → (∀ j, j < 830 * (k + 1) ∨ 830 * (k + 1) + v ≤ j → d j = all j) → V_X10_image_20 (nI k) has post n (nI v) d := by
  intro n
  induction n with
  | zero => intro v d h; omega
  | succ n ih =>
    intro v d h1 h2 h3 h4
    have e1 : (830 * (nI k + 1)) + nI v = nI (830 * (k + 1) + v) := by rw [nI_1, L830, pk_mul, nI_add]
    rw [V_X10_image_20_s, e1, L830, nI_leI (by decide) (by omega), nI_clamp (by omega), nI_clamp (by omega)]
    refine ⟨fun q => h d (fun j hj => h3 j (by omega)) (fun j hj => h4 j (by omega)), fun q => ⟨vi _ (by omega), vi _ (by omega), fun d' e v' ev => ?_⟩⟩
    rw [ev, nI_1]
    refine ih (v + 1) d' (by omega) (by omega) (fun j hj => ?_) (fun j hj => ?_)
    · rw [e]
      by_cases hjv : j = v
      · rw [hjv, upd_eq]; exact h4 v (by omega)
      · rw [upd_ne (by omega)]; exact h3 j (by omega)
    · rw [e, upd_ne (by omega)]; exact h4 j (by omega)
theorem v_again {k : Nat} {all : Nat → Int32} {post : Int32 → (Nat → Int32) → Prop} (hk : k < 3) (h : ∀ d : Nat → Int32, (∀ j, j < 830 → d j = all (830 * (k + 1) + j)) → (∀ j, 830 ≤ j → d j = all j) → post 1 d) : ∀ n v d, 830 - v < n → v ≤ 830 → (∀ j, j < v → d j = all (830 * (k + 1) + j)) → (∀ j, v ≤ j → d j = all j) → V_X10_again_22 (nI k) post n (nI v) d := by
  intro n
  induction n with
  | zero => intro v d h; omega
  | succ n ih =>
    intro v d h1 h2 h3 h4
    have e1 : (830 * (nI k + 1)) + nI v = nI (830 * (k + 1) + v) := by rw [nI_1, L830, pk_mul, nI_add]
    rw [V_X10_again_22_s, e1, L830, nI_leI (by decide) (by omega), nI_clamp (by omega), nI_clamp (by omega)]
    refine ⟨fun q => h d (fun j hj => h3 j (by omega)) (fun j hj => h4 j (by omega)), fun q => ⟨vi _ (by omega), vi _ (by omega), fun d' e v' ev => ?_⟩⟩
    rw [ev, nI_1]
    refine ih (v + 1) d' (by omega) (by omega) (fun j hj => ?_) (fun j hj => ?_)
    · rw [e]
      by_cases hjv : j = v
      · rw [hjv, upd_eq]; exact h4 _ (by omega)
      · rw [upd_ne (by omega)]; exact h3 j (by omega)
    · rw [e, upd_ne (by omega)]; exact h4 j (by omega)
theorem in02 {k : Nat} (hk : k < 3) : (0 : Int32) ≤ nI k ∧ nI k ≤ 2 := ⟨nI_pos' (by omega), nI_le (b := 2) (by omega) (by decide)⟩
theorem core_19_bad (i : Nat → Int32) (f : Nat → Nat → Int32) (sl : Int32) (cost wtt ubr lbr prs : Nat → Int32) (g : Nat → Option Nat) (all has mfew msawn mcut mtodo mpress mgone : Nat → Int32) (y1 : Int32) (NX : (Nat → Int32) → (Nat → Int32) → Prop) (hy : ¬ (0 ≤ y1 ∧ y1 ≤ 2)) (hN : ∀ (d0 : Nat → Int32) (d1 : Nat → Int32), d0 = all → d1 = has → NX d0 d1) : P_X9_image_bad y1 (fun r => P_X10_image y1 all has (fun r' d0 d1 => r = r' ∧ NX d0 d1)) := by
  unfold P_X9_image_bad P_X10_image
  exact s_within (bsp (fun _ => s_isIn (bsp (fun _ => ⟨rfl, hN _ _ rfl rfl⟩) (fun q => absurd q hy))) (fun q => absurd q hy))
theorem core_20_bad (i : Nat → Int32) (f : Nat → Nat → Int32) (sl : Int32) (cost wtt ubr lbr prs : Nat → Int32) (g : Nat → Option Nat) (all has mfew msawn mcut mtodo mpress mgone : Nat → Int32) (y1 : Int32) (NX : (Nat → Int32) → Prop) (hy : ¬ (0 ≤ y1 ∧ y1 ≤ 2)) (hN : ∀ (d0 : Nat → Int32), d0 = all → NX d0) : P_X9_again_bad y1 (fun r => P_X10_again y1 all has (fun r' d0 => r = r' ∧ NX d0)) := by
  unfold P_X9_again_bad P_X10_again
  exact s_within (bsp (fun _ => s_isIn (bsp (fun _ => ⟨rfl, hN _ rfl⟩) (fun q => absurd q hy))) (fun q => absurd q hy))
theorem core_20_none (i : Nat → Int32) (f : Nat → Nat → Int32) (sl : Int32) (cost wtt ubr lbr prs : Nat → Int32) (g : Nat → Option Nat) (all has mfew msawn mcut mtodo mpress mgone : Nat → Int32) (y1 : Int32) (NX : (Nat → Int32) → Prop) (k : Nat) (hk : k < 3) (hy : y1 = nI k) (hh : has k = 0) (hN : ∀ (d0 : Nat → Int32), d0 = all → NX d0) : P_X9_again_none y1 (fun r => P_X10_again y1 all has (fun r' d0 => r = r' ∧ NX d0)) := by
  subst hy
  unfold P_X9_again_none P_X10_again
  rw [nI_clamp (by omega)]
  exact s_within (bsp (fun q => absurd (in02 hk) q) (fun _ => ⟨vi _ (by omega), s_isIn (bsp (fun q => absurd (in02 hk) q) (fun _ => ⟨vi _ (by omega), fun _ => ⟨rfl, hN _ rfl⟩, fun q => absurd hh q⟩))⟩))
theorem core_20_old (i : Nat → Int32) (f : Nat → Nat → Int32) (sl : Int32) (cost wtt ubr lbr prs : Nat → Int32) (g : Nat → Option Nat) (all has mfew msawn mcut mtodo mpress mgone : Nat → Int32) (zi : Nat → Int32) (zf : Nat → Nat → Int32) (y1 : Int32) (NX : Int32 → Int32 → Int32 → Int32 → Int32 → (Nat → Int32) → (Nat → Int32) → Int32 → Int32 → (Nat → Int32) → (Nat → Int32) → (Nat → Int32) → (Nat → Int32) → (Nat → Int32) → (Nat → Int32) → (Nat → Int32) → Int32 → Int32 → (Nat → Int32) → (Nat → Int32) → (Nat → Int32) → (Nat → Int32) → Int32 → (Nat → Int32) → (Nat → Int32) → Prop) (k : Nat) (hk : k < 3) (hy : y1 = nI k) (hh : has k = 1) (h : Rel zi zf (fun j => all (830 * (k + 1) + j))) (hN : ∀ (c0 : Int32) (c1 : Int32) (c2 : Int32) (c3 : Int32) (c4 : Int32) (c5 : Nat → Int32) (c6 : Nat → Int32) (c7 : Int32) (c8 : Int32) (c9 : Nat → Int32) (c10 : Nat → Int32) (c11 : Nat → Int32) (c12 : Nat → Int32) (c13 : Nat → Int32) (c14 : Nat → Int32) (c15 : Nat → Int32) (c16 : Int32) (c17 : Int32) (c18 : Nat → Int32) (c19 : Nat → Int32) (c20 : Nat → Int32) (c21 : Nat → Int32) (c22 : Int32) (c23 : Nat → Int32) (d0 : Nat → Int32), Rel (mkI c0 c1 c2 c3 c4 c7 c8 c16 c17 c22) (mkF c5 c6 c9 c10 c11 c12 c13 c14 c15 c18 c19 c20 c21 c23) d0 → (∀ j, 830 ≤ j → d0 j = all j) → NX c0 c1 c2 c3 c4 c5 c6 c7 c8 c9 c10 c11 c12 c13 c14 c15 c16 c17 c18 c19 c20 c21 c22 c23 d0) : P_X9_again_old y1 (f 0) (f 1) (f 2) (f 3) (f 4) (f 5) (f 6) (f 7) (f 8) (f 9) (f 10) (f 11) (f 12) (f 13) (zi 0) (zi 1) (zi 2) (zi 3) (zi 4) (zf 0) (zf 1) (zi 5) (zi 6) (zf 2) (zf 3) (zf 4) (zf 5) (zf 6) (zf 7) (zf 8) (zi 7) (zi 8) (zf 9) (zf 10) (zf 11) (zf 12) (zi 9) (zf 13) (fun r c0 c1 c2 c3 c4 c5 c6 c7 c8 c9 c10 c11 c12 c13 c14 c15 c16 c17 c18 c19 c20 c21 c22 c23 => P_X10_again y1 all has (fun r' d0 => r = r' ∧ NX c0 c1 c2 c3 c4 c5 c6 c7 c8 c9 c10 c11 c12 c13 c14 c15 c16 c17 c18 c19 c20 c21 c22 c23 d0)) := by
  subst hy
  unfold P_X9_again_old P_X10_again
  rw [nI_clamp (by omega)]
  refine s_within (bsp (fun q => absurd (in02 hk) q) (fun _ => ⟨vi _ (by omega), vi _ (by omega), ?_⟩))
  refine s_become (i := zi) (f := zf) (fun g0 g1 g2 g3 g4 g5 g6 g7 g8 g9 g10 g11 g12 g13 e0 e1 e2 e3 e4 e5 e6 e7 e8 e9 e10 e11 e12 e13 => s_isIn (bsp (fun q => absurd (in02 hk) q) (fun _ => ⟨vi _ (by omega), fun q => absurd (hh.symm.trans q) (by decide), fun _ => ⟨831, v_again hk (fun d d1 d2 => ⟨rfl, hN _ _ _ _ _ _ _ _ _ _ _ _ _ _ _ _ _ _ _ _ _ _ _ _ _ ?_ d2⟩) 831 0 _ (by omega) (by omega) (fun j hj => by omega) (fun _ _ => rfl)⟩⟩)))
  refine Rel.rows (f := zf) (i := zi) (Rel.view h d1) (fun j hj hj8 k hk => ?_) e8
  rcases (show j = 0 ∨ j = 1 ∨ j = 2 ∨ j = 3 ∨ j = 4 ∨ j = 5 ∨ j = 6 ∨ j = 7 ∨ j = 9 ∨ j = 10 ∨ j = 11 ∨ j = 12 ∨ j = 13 by omega) with rfl | rfl | rfl | rfl | rfl | rfl | rfl | rfl | rfl | rfl | rfl | rfl | rfl
  · exact e0 k hk
  · exact e1 k hk
  · exact e2 k hk
  · exact e3 k hk
  · exact e4 k hk
  · exact e5 k hk
  · exact e6 k hk
  · exact e7 k hk
  · exact e9 k hk
  · exact e10 k hk
  · exact e11 k hk
  · exact e12 k hk
  · exact e13 k hk
theorem core_19_old (i : Nat → Int32) (f : Nat → Nat → Int32) (sl : Int32) (cost wtt ubr lbr prs : Nat → Int32) (g : Nat → Option Nat) (all has mfew msawn mcut mtodo mpress mgone : Nat → Int32) (zi : Nat → Int32) (zf : Nat → Nat → Int32) (y1 : Int32) (NX : Int32 → Int32 → Int32 → Int32 → Int32 → (Nat → Int32) → (Nat → Int32) → Int32 → Int32 → (Nat → Int32) → (Nat → Int32) → (Nat → Int32) → (Nat → Int32) → (Nat → Int32) → (Nat → Int32) → (Nat → Int32) → Int32 → Int32 → (Nat → Int32) → (Nat → Int32) → (Nat → Int32) → (Nat → Int32) → Int32 → (Nat → Int32) → (Nat → Int32) → (Nat → Int32) → Prop) (h : Rel i f all) (k : Nat) (hk : k < 3) (hy : y1 = nI k) (hN : ∀ (c0 : Int32) (c1 : Int32) (c2 : Int32) (c3 : Int32) (c4 : Int32) (c5 : Nat → Int32) (c6 : Nat → Int32) (c7 : Int32) (c8 : Int32) (c9 : Nat → Int32) (c10 : Nat → Int32) (c11 : Nat → Int32) (c12 : Nat → Int32) (c13 : Nat → Int32) (c14 : Nat → Int32) (c15 : Nat → Int32) (c16 : Int32) (c17 : Int32) (c18 : Nat → Int32) (c19 : Nat → Int32) (c20 : Nat → Int32) (c21 : Nat → Int32) (c22 : Int32) (c23 : Nat → Int32) (d0 : Nat → Int32) (d1 : Nat → Int32), Rel (mkI c0 c1 c2 c3 c4 c7 c8 c16 c17 c22) (mkF c5 c6 c9 c10 c11 c12 c13 c14 c15 c18 c19 c20 c21 c23) (fun j => d0 (830 * (k + 1) + j)) → (∀ j, j < 830 * (k + 1) ∨ 830 * (k + 2) ≤ j → d0 j = all j) → d1 = upd has k 1 → NX c0 c1 c2 c3 c4 c5 c6 c7 c8 c9 c10 c11 c12 c13 c14 c15 c16 c17 c18 c19 c20 c21 c22 c23 d0 d1) : P_X9_image_old y1 (i 0) (i 1) (i 2) (i 3) (i 4) (f 0) (f 1) (i 5) (i 6) (f 2) (f 3) (f 4) (f 5) (f 6) (f 7) (f 8) (i 7) (i 8) (f 9) (f 10) (f 11) (f 12) (i 9) (f 13) (zf 0) (zf 1) (zf 2) (zf 3) (zf 4) (zf 5) (zf 6) (zf 7) (zf 8) (zf 9) (zf 10) (zf 11) (zf 12) (zf 13) (fun r c0 c1 c2 c3 c4 c5 c6 c7 c8 c9 c10 c11 c12 c13 c14 c15 c16 c17 c18 c19 c20 c21 c22 c23 => P_X10_image y1 all has (fun r' d0 d1 => r = r' ∧ NX c0 c1 c2 c3 c4 c5 c6 c7 c8 c9 c10 c11 c12 c13 c14 c15 c16 c17 c18 c19 c20 c21 c22 c23 d0 d1)) := by
  subst hy
  unfold P_X9_image_old P_X10_image
  rw [nI_clamp (by omega)]
  refine s_within (bsp (fun q => absurd (in02 hk) q) (fun _ => ⟨vi _ (by omega), vi _ (by omega), ?_⟩))
  refine s_become (i := i) (f := f) (fun g0 g1 g2 g3 g4 g5 g6 g7 g8 g9 g10 g11 g12 g13 e0 e1 e2 e3 e4 e5 e6 e7 e8 e9 e10 e11 e12 e13 => s_isIn (bsp (fun q => absurd (in02 hk) q) (fun _ => ⟨vi _ (by omega), fun d1' z1 => ⟨831, v_image hk (fun d d1 d2 => ⟨rfl, hN _ _ _ _ _ _ _ _ _ _ _ _ _ _ _ _ _ _ _ _ _ _ _ _ _ _ ?_ d2 z1⟩) 831 0 _ (by omega) (by omega) (fun j hj => by omega) (fun _ _ => rfl)⟩⟩)))
  refine Rel.rows (f := f) (i := i) (Rel.view h d1) (fun j hj hj8 k hk => ?_) e8
  rcases (show j = 0 ∨ j = 1 ∨ j = 2 ∨ j = 3 ∨ j = 4 ∨ j = 5 ∨ j = 6 ∨ j = 7 ∨ j = 9 ∨ j = 10 ∨ j = 11 ∨ j = 12 ∨ j = 13 by omega) with rfl | rfl | rfl | rfl | rfl | rfl | rfl | rfl | rfl | rfl | rfl | rfl | rfl
  · exact e0 k hk
  · exact e1 k hk
  · exact e2 k hk
  · exact e3 k hk
  · exact e4 k hk
  · exact e5 k hk
  · exact e6 k hk
  · exact e7 k hk
  · exact e9 k hk
  · exact e10 k hk
  · exact e11 k hk
  · exact e12 k hk
  · exact e13 k hk
theorem core_19_new (i : Nat → Int32) (f : Nat → Nat → Int32) (sl : Int32) (cost wtt ubr lbr prs : Nat → Int32) (g : Nat → Option Nat) (all has mfew msawn mcut mtodo mpress mgone : Nat → Int32) (y1 : Int32) (NX : Nat → Nat → Nat → Nat → Nat → Nat → Nat → Nat → Nat → Nat → Nat → Nat → Nat → Nat → Nat → Nat → Nat → Nat → Nat → Nat → (Nat → Option Nat) → Int32 → Int32 → Int32 → Int32 → Int32 → (Nat → Int32) → (Nat → Int32) → Int32 → Int32 → (Nat → Int32) → (Nat → Int32) → (Nat → Int32) → (Nat → Int32) → (Nat → Int32) → (Nat → Int32) → (Nat → Int32) → Int32 → Int32 → (Nat → Int32) → (Nat → Int32) → (Nat → Int32) → (Nat → Int32) → Int32 → (Nat → Int32) → (Nat → Int32) → (Nat → Int32) → Prop) (h : Rel i f all) (k : Nat) (hk : k < 3) (hy : y1 = nI k) (hN : ∀ (c0 : Nat) (c1 : Nat) (c2 : Nat) (c3 : Nat) (c4 : Nat) (c5 : Nat) (c6 : Nat) (c7 : Nat) (c8 : Nat) (c9 : Nat) (c10 : Nat) (c11 : Nat) (c12 : Nat) (c13 : Nat) (c14 : Nat) (c15 : Nat) (c16 : Nat) (c17 : Nat) (c18 : Nat) (c19 : Nat) (c20 : Nat → Option Nat) (c21 : Int32) (c22 : Int32) (c23 : Int32) (c24 : Int32) (c25 : Int32) (c26 : Nat → Int32) (c27 : Nat → Int32) (c28 : Int32) (c29 : Int32) (c30 : Nat → Int32) (c31 : Nat → Int32) (c32 : Nat → Int32) (c33 : Nat → Int32) (c34 : Nat → Int32) (c35 : Nat → Int32) (c36 : Nat → Int32) (c37 : Int32) (c38 : Int32) (c39 : Nat → Int32) (c40 : Nat → Int32) (c41 : Nat → Int32) (c42 : Nat → Int32) (c43 : Int32) (c44 : Nat → Int32) (d0 : Nat → Int32) (d1 : Nat → Int32), Rel (mkI c21 c22 c23 c24 c25 c28 c29 c37 c38 c43) (mkF c26 c27 c30 c31 c32 c33 c34 c35 c36 c39 c40 c41 c42 c44) (fun j => d0 (830 * (k + 1) + j)) → (∀ j, j < 830 * (k + 1) ∨ 830 * (k + 2) ≤ j → d0 j = all j) → d1 = upd has k 1 → c20 = va_up g k (some c0) → NX c0 c1 c2 c3 c4 c5 c6 c7 c8 c9 c10 c11 c12 c13 c14 c15 c16 c17 c18 c19 c20 c21 c22 c23 c24 c25 c26 c27 c28 c29 c30 c31 c32 c33 c34 c35 c36 c37 c38 c39 c40 c41 c42 c43 c44 d0 d1) : P_X9_image_new y1 (i 0) (i 1) (i 2) (i 3) (i 4) (f 0) (f 1) (i 5) (i 6) (f 2) (f 3) (f 4) (f 5) (f 6) (f 7) (f 8) (i 7) (i 8) (f 9) (f 10) (f 11) (f 12) (i 9) (f 13) g (fun r c0 c1 c2 c3 c4 c5 c6 c7 c8 c9 c10 c11 c12 c13 c14 c15 c16 c17 c18 c19 c20 c21 c22 c23 c24 c25 c26 c27 c28 c29 c30 c31 c32 c33 c34 c35 c36 c37 c38 c39 c40 c41 c42 c43 c44 => P_X10_image y1 all has (fun r' d0 d1 => r = r' ∧ NX c0 c1 c2 c3 c4 c5 c6 c7 c8 c9 c10 c11 c12 c13 c14 c15 c16 c17 c18 c19 c20 c21 c22 c23 c24 c25 c26 c27 c28 c29 c30 c31 c32 c33 c34 c35 c36 c37 c38 c39 c40 c41 c42 c43 c44 d0 d1)) := by
  subst hy
  unfold P_X9_image_new P_X10_image
  rw [nI_clamp (by omega)]
  refine s_within (bsp (fun q => absurd (in02 hk) q) (fun _ => ⟨vi _ (by omega), ?_⟩))
  intro p0 p1 p2 p3
  refine s_fill (by decide) (fun _ _ => s_fill (by decide) (fun _ _ => ?_))
  intro p4 p5 p6 p7 p8 p9 p10 p11 p12 p13 p14 p15 p16 p17
  refine s_fill (by decide) (fun _ _ => s_fill (by decide) (fun _ _ => ?_))
  intro p18 p19
  refine ⟨vi _ (by omega), fun gg eg => ⟨vi _ (by omega), ?_⟩⟩
  refine s_become (i := i) (f := f) (fun g0 g1 g2 g3 g4 g5 g6 g7 g8 g9 g10 g11 g12 g13 e0 e1 e2 e3 e4 e5 e6 e7 e8 e9 e10 e11 e12 e13 => s_isIn (bsp (fun q => absurd (in02 hk) q) (fun _ => ⟨vi _ (by omega), fun d1' z1 => ⟨831, v_image hk (fun d d1 d2 => ⟨rfl, hN _ _ _ _ _ _ _ _ _ _ _ _ _ _ _ _ _ _ _ _ _ _ _ _ _ _ _ _ _ _ _ _ _ _ _ _ _ _ _ _ _ _ _ _ _ _ _ ?_ d2 z1 eg⟩) 831 0 _ (by omega) (by omega) (fun j hj => by omega) (fun _ _ => rfl)⟩⟩)))
  refine Rel.rows (f := f) (i := i) (Rel.view h d1) (fun j hj hj8 k hk => ?_) e8
  rcases (show j = 0 ∨ j = 1 ∨ j = 2 ∨ j = 3 ∨ j = 4 ∨ j = 5 ∨ j = 6 ∨ j = 7 ∨ j = 9 ∨ j = 10 ∨ j = 11 ∨ j = 12 ∨ j = 13 by omega) with rfl | rfl | rfl | rfl | rfl | rfl | rfl | rfl | rfl | rfl | rfl | rfl | rfl
  · exact e0 k hk
  · exact e1 k hk
  · exact e2 k hk
  · exact e3 k hk
  · exact e4 k hk
  · exact e5 k hk
  · exact e6 k hk
  · exact e7 k hk
  · exact e9 k hk
  · exact e10 k hk
  · exact e11 k hk
  · exact e12 k hk
  · exact e13 k hk
