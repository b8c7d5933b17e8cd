/-- which pile: of those whose uppermost has a later turn the one with the least -/
def selP (tt : Nat → Nat) (own : Nat) : Nat → Option Nat
  | 0 => none
  | p + 1 => if own < tt p ∧ (∀ x, selP tt own p = some x → tt p < tt x) then some p else selP tt own p
theorem selP_lt (tt : Nat → Nat) (own : Nat) : ∀ p x, selP tt own p = some x → x < p ∧ own < tt x := by
  intro p
  induction p with
  | zero => intro x h; cases h
  | succ p ih =>
    intro x h
    rw [selP] at h
    split at h
    · cases h; rename_i g; exact ⟨by omega, g.1⟩
    · have := ih x h; exact ⟨by omega, this.2⟩
def selV (d : Nat) (o : Option Nat) : Nat := o.getD d
theorem selP_s (tt : Nat → Nat) (own p : Nat) : (own < tt p → (∀ x, selP tt own p = some x → tt p < tt x) → selP tt own (p + 1) = some p) ∧ (¬ own < tt p → selP tt own (p + 1) = selP tt own p) ∧ (∀ x, selP tt own p = some x → ¬ tt p < tt x → selP tt own (p + 1) = selP tt own p) := by
  refine ⟨fun h1 h2 => ?_, fun h1 => ?_, fun x h1 h2 => ?_⟩
  · rw [selP, if_pos ⟨h1, h2⟩]
  · rw [selP, if_neg (fun g => h1 g.1)]
  · rw [selP, if_neg (fun g => h2 (g.2 x h1))]
theorem v_pileFor {F12 F6 : Nat → Int32} {pn b : Nat} {u tn : Nat → Nat} {post : Int32 → Prop} (hpn : pn ≤ 64) (hb : b < 64) (hu : ∀ p, p < pn → F12 p = nI (u p) ∧ u p < 64 ∧ F6 (u p) = nI (tn (u p)) ∧ tn (u p) < 64) (hF : F6 b = nI (tn b)) (hT : tn b < 64) (h : post (nI ((selP (fun p => tn (u p)) (tn b) pn).getD pn))) : ∀ k p, pn - p < k → p ≤ pn → V_X8_pileFor_12 64 (nI b) (nI pn) F12 F6 post k (nI ((selP (fun p => tn (u p)) (tn b) p).getD pn)) (nI (((selP (fun p => tn (u p)) (tn b) p).map (fun p => tn (u p))).getD 64)) (nI p) := by
  intro k
  induction k with
  | zero => intro p h; omega
  | succ k ih =>
    intro p h1 h2
    rw [V_X8_pileFor_12_s, nI_leI (by omega) (by omega)]
    refine ⟨fun q => by rw [show p = pn by omega]; exact h, fun q => ?_⟩
    obtain ⟨a1, a2, a3, a4⟩ := hu p (by omega)
    rw [nI_clamp (n := p) (by omega), a1, nI_clamp (n := u p) (by omega), a3, nI_clamp (n := b) (by omega), hF]
    obtain ⟨s1, s2, s3⟩ := selP_s (fun p => tn (u p)) (tn b) p
    have hi := ih (p + 1) (by omega) (by omega)
    refine ⟨vi _ (by omega), vi _ (by omega), fun v6 e6 => ⟨vi _ (by omega), ?_⟩⟩
    rw [e6, nI_leI (by omega) (by omega)]
    refine ⟨fun z v5 e5 => ?_, fun z => ?_⟩
    · rw [s2 (by omega)] at hi
      rw [e5, nI_1]; exact hi
    · cases hs : selP (fun p => tn (u p)) (tn b) p with
      | none =>
        rw [s1 (by omega) (fun x hx => by rw [hs] at hx; cases hx)] at hi
        show (nI 64 ≤ _ → _) ∧ _
        rw [nI_leI (by omega) (by omega)]
        exact ⟨fun z2 => by omega, fun z2 v5 e5 => by rw [e5, nI_1]; exact hi⟩
      | some x =>
        have hx := selP_lt _ _ _ _ hs
        obtain ⟨b1, b2, b3, b4⟩ := hu x (by omega)
        rw [show ((some x).map (fun p => tn (u p))).getD 64 = tn (u x) from rfl, nI_leI (by omega) (by omega)]
        refine ⟨fun z2 v5 e5 => ?_, fun z2 v5 e5 => ?_⟩
        · rw [s3 x hs (by omega), hs] at hi
          rw [e5, nI_1]; exact hi
        · rw [s1 (by omega) (fun y hy => by rw [hs] at hy; cases hy; show tn (u p) < tn (u x); omega)] at hi
          rw [e5, nI_1]; exact hi
theorem v_uppM {f : Nat → Nat → Int32} {A : Nat → Int32} {B T p kp : Nat} {q : Nat → Nat} {post : Int32 → Prop} (hB : B ≤ 64) (hT : T ≤ B) (hTk : ∀ P : Int32 → Prop, P (nI T) → P_X10_taken A P) (hq : Tk f A B T q) (hk : kp < T) (h1 : f 10 (q kp) = nI p) (h2 : ∀ j, kp < j → j < T → ¬ f 10 (q j) = nI p) (h : post (nI (q kp))) : ∀ k i v, T - i < k → i ≤ T → (kp < i → v = nI (q kp)) → V_X10_uppermost_4 (nI p) A post k v (nI i) := by
  intro k
  induction k with
  | zero => intro i v h; omega
  | succ k ih =>
    intro i v g1 g2 g3
    rw [V_X10_uppermost_4_s]
    refine hTk _ ?_
    rw [nI_leI (by omega) (by omega)]
    refine ⟨fun z => by rw [g3 (by omega)]; exact h, fun z => ?_⟩
    obtain ⟨z1, z2, z3, z4⟩ := hq i (by omega)
    have e1 : (760 + nI i) = nI (760 + i) := by rw [L760, nI_add]
    rw [e1, nI_clamp (by omega), z2]
    refine ⟨vi _ (by omega), s_of (j := 5) (by omega) (by decide) ?_⟩
    rw [z3]
    refine ⟨fun y => ⟨vi _ (by omega), fun v2 e2 v3 e3 => ?_⟩, fun y v3 e3 => ?_⟩
    · rw [e2, e3, nI_1]
      refine ih (i + 1) _ (by omega) (by omega) (fun hlt => ?_)
      rcases Nat.lt_or_ge kp i with w | w
      · exact absurd y (h2 i w (by omega))
      · rw [show kp = i by omega]
    · rw [e3, nI_1]
      refine ih (i + 1) _ (by omega) (by omega) (fun hlt => ?_)
      rcases Nat.lt_or_ge kp i with w | w
      · exact g3 w
      · exact absurd (by rw [show i = kp by omega]; exact h1) y
/-- the model's choice of a pile, as far as it has come -/
def selI (o : Option Nat) : Int32 := match o with
  | none => -1
  | some x => nI x
theorem v_takeM {A : Nat → Int32} {pn b : Nat} {u tn : Nat → Nat} {post : Int32 → (Nat → Int32) → Prop} (hpn : pn ≤ 64) (hb : b < 64) (e7 : A 7 = nI pn) (hup : ∀ p, p < pn → ∀ P : Int32 → Prop, P (nI (u p)) → P_X10_uppermost (nI p) A P) (hu : ∀ p, p < pn → u p < 64 ∧ A (170 + 8 * u p + 6) = nI (tn (u p)) ∧ tn (u p) < 64) (hF : A (170 + 8 * b + 6) = nI (tn b)) (hT : tn b < 64) (h : ((0 ≤ selI (selP (fun p => tn (u p)) (tn b) pn) → J_X10_take_174 (nI b) post (selI (selP (fun p => tn (u p)) (tn b) pn)) A) ∧ (¬ 0 ≤ selI (selP (fun p => tn (u p)) (tn b) pn) → ∀ d, d = upd A 7 (nI (pn + 1)) → J_X10_take_174 (nI b) post (nI pn) d))) : ∀ k p, pn - p < k → p ≤ pn → V_X10_take_84 (nI b) A post k (selI (selP (fun p => tn (u p)) (tn b) p)) (nI p) := by
  intro k
  induction k with
  | zero => intro p h; omega
  | succ k ih =>
    intro p h1 h2
    have e7' : A (7 : Int32).toNatClampNeg = nI pn := e7
    rw [V_X10_take_84_s, e7', nI_leI (by omega) (by omega)]
    refine ⟨vi 7 (by decide), fun q => ?_, fun q => ?_⟩
    · rw [show p = pn by omega]
      exact ⟨h.1, fun z => ⟨vi 7 (by decide), fun v3 e3 => ⟨vi 7 (by decide), vi 7 (by decide), fun d ed => by rw [e3]; exact h.2 z d (by rw [ed, nI_1]; rfl)⟩⟩⟩
    · obtain ⟨a2, a3, a4⟩ := hu p (by omega)
      obtain ⟨s1, s2, s3⟩ := selP_s (fun p => tn (u p)) (tn b) p
      have hi := ih (p + 1) (by omega) (by omega)
      refine hup p (by omega) _ (s_of (j := 6) a2 (by decide) (s_of (j := 6) hb (by decide) ?_))
      rw [a3, hF, nI_leI (by omega) (by omega)]
      refine ⟨fun z v4 e4 => ?_, fun z => ?_⟩
      · rw [s2 (by omega)] at hi
        rw [e4, nI_1]; exact hi
      · cases hs : selP (fun p => tn (u p)) (tn b) p with
        | none =>
          rw [s1 (by omega) (fun x hx => by rw [hs] at hx; cases hx)] at hi
          exact ⟨fun _ v4 e4 => by rw [e4, nI_1]; exact hi, fun z2 => absurd (by show (-1 : Int32) < 0; decide) z2⟩
        | some x =>
          have hx := selP_lt _ _ _ _ hs
          obtain ⟨b2, b3, b4⟩ := hu x (by omega)
          refine ⟨fun z2 => absurd z2 (nI_pos (show x < 2 ^ 31 by omega)), fun _ => hup x (by omega) _ (s_of (j := 6) b2 (by decide) ?_)⟩
          rw [b3, nI_leI (by omega) (by omega)]
          refine ⟨fun z2 v4 e4 => ?_, fun z2 v4 e4 => ?_⟩
          · rw [s3 x hs (by omega), hs] at hi
            rw [e4, nI_1]; exact hi
          · rw [s1 (by omega) (fun y hy => by rw [hs] at hy; cases hy; show tn (u p) < tn (u x); omega)] at hi
            rw [e4, nI_1]; exact hi
theorem ct_set {p p' : Nat → Bool} {b : Nat} (h0 : p b = false) (h1 : p' b = true) (h : ∀ k, k ≠ b → p' k = p k) : ∀ n, ct p' n = ct p n + (if b < n then 1 else 0) := by
  intro n
  induction n with
  | zero => rfl
  | succ n ih =>
    rw [ct, ct, ih]
    by_cases hn : n = b
    · subst hn
      rw [h0, h1, if_neg (Nat.lt_irrefl _), if_pos (Nat.lt_succ_self _)]
      simp
    · rw [h n hn]
      by_cases hb : b < n
      · rw [if_pos hb, if_pos (show b < n + 1 by omega)]; omega
      · rw [if_neg hb, if_neg (show ¬ b < n + 1 by omega)]; omega
theorem ct_lt {p : Nat → Bool} {b n : Nat} (hb : b < n) (h : p b = false) : ct p n < n := by
  have h1 := ct_set (p := p) (p' := fun k => if k = b then true else p k) h (by simp) (fun k hk => by simp [hk]) n
  have h2 := ct_le (fun k => if k = b then true else p k) n
  rw [if_pos hb] at h1
  omega
theorem ct_last {p : Nat → Bool} {k : Nat} (h : p k = true) : ∀ n, k < n → (∀ j, k < j → j < n → p j = false) → ct p n = ct p k + 1 := by
  intro n
  induction n with
  | zero => intro h; omega
  | succ n ih =>
    intro h1 h2
    rw [ct]
    by_cases hn : n = k
    · subst hn; rw [h]; simp
    · rw [ih (by omega) (fun j j1 j2 => h2 j j1 (by omega)), h2 n (by omega) (by omega)]; simp
theorem ct_none {p : Nat → Bool} : ∀ n, (∀ j, j < n → p j = false) → ct p n = 0 := by
  intro n
  induction n with
  | zero => intro _; rfl
  | succ n ih => intro h; rw [ct, ih (fun j hj => h j (by omega)), h n (by omega)]; simp
/-- the yard behind a block that is taken -/
theorem RYd.take {i i' : Nat → Int32} {f f' : Nat → Nat → Int32} {A A' : Nat → Int32} {B T pn P d b : Nat} {l lo c r q : Nat → Nat} (H : RYd i f A B T pn l lo c r q) (hB : B ≤ 64) (hb : b < B) (hfree : freeP f B l lo c r b) (hP : P ≤ pn) (hd : d ≤ 5000) (i7 : i' 7 = nI (T + 1)) (i8 : i' 8 = nI (if P = pn then pn + 1 else pn)) (f9 : f' 9 = upd (f 9) b (nI d)) (f10 : f' 10 = upd (f 10) b (nI P)) (f11 : f' 11 = upd (f 11) b (nI (ct (fun j => decide (f 10 (q j) = nI P)) T))) (f12 : f' 12 = upd (f 12) P (nI b))
    (a7 : A' 7 = nI (if P = pn then pn + 1 else pn)) (a4 : ∀ b', b' < B → b' ≠ b → A' (170 + 8 * b' + 4) = A (170 + 8 * b' + 4) ∧ A' (170 + 8 * b' + 5) = A (170 + 8 * b' + 5)) (a4b : A' (170 + 8 * b + 4) = nI d ∧ A' (170 + 8 * b + 5) = nI P) (aq : ∀ k, k < T → A' (760 + k) = A (760 + k)) (aqT : A' (760 + T) = nI b) : RYd i' f' A' B (T + 1) (if P = pn then pn + 1 else pn) l lo c r (va_up q T b) := by
  obtain ⟨⟨t1, t2, t3, t4, t5, t6⟩, y2, y3, y4, y5, y6, y7⟩ := H
  have hpn : pn ≤ (if P = pn then pn + 1 else pn) := by split <;> omega
  have hPn : P < (if P = pn then pn + 1 else pn) := by split <;> omega
  have hpT : (if P = pn then pn + 1 else pn) ≤ T + 1 := by split <;> omega
  have hct : ct (fun b' => decide (¬ f' 9 b' = -1)) B = T + 1 := by
    rw [ct_set (p := fun b' => decide (¬ f 9 b' = -1)) (b := b) (by simp [hfree.1]) (by rw [f9, upd_eq]; exact decide_eq_true (show ¬ nI d = -1 from ne_mOne (by omega))) (fun k hk => by rw [f9, upd_ne hk]), if_pos hb, ← t6]
  have hqb : ∀ k, k < T → q k ≠ b := fun k hk e => (y3 k hk).2.2.1 (by rw [e]; exact hfree.1)
  have hqT : va_up q T b T = b := vaup_eq
  have hqk : ∀ k, k < T → va_up q T b k = q k := fun k hk => vaup_ne (by omega)
  have g9 : ∀ x, x ≠ b → f' 9 x = f 9 x := fun x hx => by rw [f9, upd_ne hx]
  have g9b : f' 9 b = nI d := by rw [f9, upd_eq]
  have g10 : ∀ x, x ≠ b → f' 10 x = f 10 x := fun x hx => by rw [f10, upd_ne hx]
  have g10b : f' 10 b = nI P := by rw [f10, upd_eq]
  refine ⟨⟨i7, i8, a7, ?_, hpT, hct.symm⟩, fun b' hb' => ?_, fun k hk => ?_, fun k j hk hj e => ?_, fun b' hb' ht => ?_, fun p hp => ?_, fun a b' ha hb' hab ht => ?_⟩
  · have := ct_le (fun b' => decide (¬ f' 9 b' = -1)) B
    omega
  · by_cases hbb : b' = b
    · rw [hbb, g9b, g10b, a4b.1, a4b.2]
      exact ⟨rfl, rfl, Or.inr ⟨d, P, hd, hPn, rfl, rfl⟩⟩
    · rw [g9 b' hbb, g10 b' hbb, (a4 b' hb' hbb).1, (a4 b' hb' hbb).2]
      obtain ⟨z1, z2, z3⟩ := y2 b' hb'
      refine ⟨z1, z2, z3.imp id (fun ⟨d', p, d1, d2, d3, d4⟩ => ⟨d', p, d1, by omega, d3, d4⟩)⟩
  · rcases Nat.lt_or_ge k T with g | g
    · obtain ⟨z1, z2, z3, z4⟩ := y3 k g
      rw [hqk k g, aq k g, g9 _ (hqb k g)]
      refine ⟨z1, z2, z3, ?_⟩
      rw [f11, upd_ne (hqb k g), z4]
      congr 1
      exact ct_cong (fun j hj => by rw [hqk j (by omega), g10 _ (hqb j (by omega)), g10 _ (hqb k g)])
    · rw [show k = T by omega, hqT]
      refine ⟨hb, aqT, by rw [g9b]; exact ne_mOne (by omega), ?_⟩
      rw [f11, upd_eq, g10b]
      congr 1
      exact ct_cong (fun j hj => by rw [hqk j hj, g10 _ (hqb j hj)])
  · rcases Nat.lt_or_ge k T with g | g <;> rcases Nat.lt_or_ge j T with g2 | g2
    · rw [hqk k g, hqk j g2] at e; exact y4 k j g g2 e
    · rw [hqk k g, show j = T by omega, hqT] at e; exact absurd e (hqb k g)
    · rw [hqk j g2, show k = T by omega, hqT] at e; exact absurd e.symm (hqb j g2)
    · omega
  · by_cases hbb : b' = b
    · exact ⟨T, by omega, by rw [hqT, hbb]⟩
    · rw [g9 b' hbb] at ht
      obtain ⟨k, k1, k2⟩ := y5 b' hb' ht
      exact ⟨k, by omega, by rw [hqk k k1]; exact k2⟩
  · by_cases hpP : p = P
    · subst hpP
      exact ⟨T, by omega, by rw [f12, upd_eq, hqT], by rw [hqT]; exact g10b, fun j j1 j2 => by omega⟩
    · have hp' : p < pn := by
        split at hp <;> omega
      obtain ⟨k, k1, k2, k3, k4⟩ := y6 p hp'
      refine ⟨k, by omega, by rw [f12, upd_ne hpP, hqk k k1]; exact k2, by rw [hqk k k1, g10 _ (hqb k k1)]; exact k3, fun j j1 j2 => ?_⟩
      rcases Nat.lt_or_ge j T with g | g
      · rw [hqk j g, g10 _ (hqb j g)]; exact k4 j j1 g
      · rw [show j = T by omega, hqT, g10b]
        exact fun e => hpP ((nI_eq (by omega) (by omega)).mp e).symm
  · by_cases haa : a = b
    · rw [haa, g9b]; exact ne_mOne (by omega)
    · rw [g9 a haa]
      by_cases hbb : b' = b
      · rw [hbb] at hab; exact hfree.2 a ha hab
      · rw [g9 b' hbb] at ht; exact y7 a b' ha hb' hab ht
theorem s_covers {F : Nat → Int32} {hh : Nat → Nat} {lo d : Nat} {post : Int32 → Prop} (hlo : lo < 64) (hd : d ≤ 5000) (hF : ∀ k, k < 12 → F k = nI (hh k) ∧ hh k ≤ 9) (h : post (bI (lo < hh (min (d / 30) 11)))) : P_X3_covers (nI lo) (nI d) F post := by
  intro m em
  have e : m = nI (min (d / 30) 11) := by
    rw [em, L30, L11, pk_div (by omega) (by decide) (by decide)]
    by_cases hq : 11 < d / 30
    · rw [if_pos ((nI_ltI (by decide) (by omega)).mpr hq), Nat.min_eq_right (by omega)]
    · rw [if_neg (fun g => hq ((nI_ltI (by decide) (by omega)).mp g)), Nat.min_eq_left (by omega)]
  obtain ⟨f1, f2⟩ := hF (min (d / 30) 11) (by omega)
  rw [e, nI_clamp (by omega), f1, nI_leI (by omega) (by omega)]
  refine ⟨vi _ (by omega), fun q => ?_, fun q => ?_⟩
  · rwa [bI_f (by omega)] at h
  · rwa [bI_t (by omega)] at h
theorem core_11 (i : Nat → Int32) (f : Nat → Nat → Int32) (sl : Int32) (cost wtt ubr lbr prs : Nat → Int32) (g : Nat → Option Nat) (all has mfew msawn mcut mtodo mpress mgone : Nat → Int32) (y1 : Int32) (NX : Int32 → Int32 → Int32 → (Nat → Int32) → (Nat → Int32) → (Nat → Int32) → (Nat → Int32) → (Nat → Int32) → Prop) (h : Rel i f all) (hN : ∀ (c0 : Int32) (c1 : Int32) (c2 : Int32) (c3 : Nat → Int32) (c4 : Nat → Int32) (c5 : Nat → Int32) (c6 : Nat → Int32) (d0 : Nat → Int32), Rel (mkI (i 0) (i 1) c0 (i 3) (i 4) (i 5) (i 6) c1 c2 (i 9)) (mkF (f 0) (f 1) (f 2) (f 3) (f 4) (f 5) (f 6) (f 7) (f 8) c3 c4 c5 c6 (f 13)) d0 → (∀ j, 830 ≤ j → d0 j = all j) → NX c0 c1 c2 c3 c4 c5 c6 d0) : P_X9_take y1 (i 2) (i 4) (i 5) (f 2) (f 3) (f 4) (f 5) (f 6) (f 7) (f 8) (i 7) (i 8) (f 9) (f 10) (f 11) (f 12) (fun r c0 c1 c2 c3 c4 c5 c6 => P_X10_take y1 all (fun r' d0 => r = r' ∧ NX c0 c1 c2 c3 c4 c5 c6 d0)) := by
  have same := hN _ _ _ _ _ _ _ _ h.same (fun _ _ => rfl)
  obtain ⟨lim, sw, dy, w, h', B, T, pn, O, wt, mo, hh, l, lo, c, r, tn, bA, q, h1, h2, h3, h4, h5, h6⟩ := h
  obtain ⟨-, -, ⟨d1, d2, d3⟩, ⟨w1, w2, w3, w4⟩, ⟨v1, v2, v3, v4⟩⟩ := id h1
  obtain ⟨b1, b2, b3, b4⟩ := id h4.1
  obtain ⟨t1, t2, t3, t4, t5, t6⟩ := id h5.1
  have hG := h4.2.2.2
  have hM : ∀ a, a < B → BlM all l lo c r a := fun a ha => h4.blM (by omega) (by omega) ha
  have hD : ∀ a, a < B → all (170 + 8 * a + 4) = f 9 a ∧ Dy (f 9 a) := fun a ha => ⟨(h5.2.1 a ha).1, h5.dy ha⟩
  have hTk : ∀ P : Int32 → Prop, P (nI T) → P_X10_taken all P := fun P hP => s_takenM b3 b2 hD (by rw [← t6]; exact hP)
  have a4 : all (4 : Int32).toNatClampNeg = nI dy := d2
  rw [d1, t1, t2] at same
  unfold P_X9_take
  rw [d1, v1, b1, t1, t2]
  refine s_hasP (bsp (fun hc => s_isThere b2 (bsp (fun _ => ⟨rfl, same⟩) (fun q => absurd q hc))) (fun hc => ?_))
  obtain ⟨b, hb, rfl⟩ := idx (by omega) hc
  have hb64 : b < 64 := by omega
  have hC := h4.blC (by omega) (by omega) hb
  obtain ⟨c1, c2, c3, c4, c5, c6⟩ := id hC
  obtain ⟨m1, m2, m3, m4, m5, m6⟩ := id (hM b hb)
  have gb := hG.1 b hb
  refine s_freeC hG w4 v4 b3 hb hC (h4.2.2.1 (by omega)) (bsp (fun hf => s_isThere b2 (bsp (fun q => absurd hc q) (fun _ => s_freeM b3 hb b2 hM hD (bsp (fun _ => ⟨rfl, same⟩) (fun q => absurd q hf))))) (fun hf => ?_))
  rw [nI_clamp (by omega), c2]
  -- what the reference asks behind it
  have stM : ∀ P : Int32 → (Nat → Int32) → Prop, (dy = 5000 → P (-1) all) → (¬ dy = 5000 → lo b < hh (min (dy / 30) 11) → P (-1) all) → (¬ dy = 5000 → ¬ lo b < hh (min (dy / 30) 11) → ∃ k, V_X10_take_84 (nI b) all P k (-1) 0) → P_X10_take (nI b) all P := fun P p1 p2 p3 => by
    have mid : ∀ mth, mth = min (dy / 30) 11 → ¬ dy = 5000 → J_X10_take_58 (nI b) P (nI mth) all := fun mth em hdy => by
      unfold J_X10_take_58
      obtain ⟨-, f1, f2⟩ := h3 (min (dy / 30) 11) (by omega)
      rw [em, L10, nI_add, nI_clamp (by omega), f1]
      refine ⟨vi _ (by omega), s_of (j := 1) hb64 (by decide) ?_⟩
      rw [m2, nI_leI (by omega) (by omega)]
      exact ⟨fun z => p3 hdy (by omega), fun z => p2 hdy (by omega)⟩
    unfold P_X10_take
    refine s_isThere b2 (bsp (fun q => absurd hc q) (fun _ => s_freeM b3 hb b2 hM hD (bsp (fun q => absurd hf q) (fun _ => ⟨vi 4 (by decide), ?_⟩))))
    rw [a4, L5000, nI_eq (by omega) (by decide), L30, pk_div (by omega) (by decide) (by decide), L11, nI_leI (by omega) (by decide)]
    exact ⟨p1, fun hdy => ⟨vi 4 (by decide), fun z => ⟨vi 4 (by decide), mid _ (by omega) hdy⟩, fun z => mid 11 (by omega) hdy⟩⟩
  refine ⟨vi _ hb64, s_covers (hh := hh) (by omega) d3 (fun k hk => ⟨(h3 k hk).1, (h3 k hk).2.2⟩) (bsp (fun hcv => ?_) (fun hcv => stM _ (fun _ => ⟨rfl, same⟩) (fun _ _ => ⟨rfl, same⟩) (fun _ z => absurd hcv z)))⟩
  rw [L5000, nI_ltI (by omega) (by decide)]
  refine ⟨fun hdy => ?_, fun hdy => stM _ (fun _ => ⟨rfl, same⟩) (fun _ _ => ⟨rfl, same⟩) (fun z => absurd (by omega) z)⟩
  -- the piles' uppermost
  obtain ⟨u, hu⟩ : ∃ u : Nat → Nat, ∀ p, p < pn → u p < T ∧ f 12 p = nI (q (u p)) ∧ f 10 (q (u p)) = nI p ∧ ∀ j, u p < j → j < T → ¬ f 10 (q j) = nI p := by
    refine ⟨fun p => if hp : p < pn then Classical.choose (h5.2.2.2.2.2.1 p hp) else 0, fun p hp => ?_⟩
    simp only [dif_pos hp]
    exact Classical.choose_spec (h5.2.2.2.2.2.1 p hp)
  have tk := h5.tk
  have tn6 : ∀ a, a < B → f 6 a = nI (tn a) ∧ all (170 + 8 * a + 6) = nI (tn a) ∧ tn a < 64 := fun a ha => (h4.2.1 a ha).2.2.2.2
  obtain ⟨n1, n2, n3⟩ := tn6 b hb
  have hq64 : ∀ p, p < pn → q (u p) < B := fun p hp => (tk (u p) (hu p hp).1).1
  refine ⟨pn + 1, v_pileFor (u := fun p => q (u p)) (tn := tn) (by omega) hb64 (fun p hp => ⟨(hu p hp).2.1, Nat.lt_of_lt_of_le (hq64 p hp) b3, (tn6 _ (hq64 p hp)).1, (tn6 _ (hq64 p hp)).2.2⟩) n1 n3 ?_ (pn + 1) 0 (by omega) (by omega)⟩
  -- the reference's choice
  have hup : ∀ p, p < pn → ∀ P : Int32 → Prop, P (nI (q (u p))) → P_X10_uppermost (nI p) all P := fun p hp P hP => ⟨T + 1, v_uppM b3 t4 hTk tk (hu p hp).1 (hu p hp).2.2.1 (hu p hp).2.2.2 hP (T + 1) 0 _ (by omega) (by omega) (fun z => by omega)⟩
  have stT : ∀ P : Int32 → (Nat → Int32) → Prop, ((0 ≤ selI (selP (fun p => tn (q (u p))) (tn b) pn) → J_X10_take_174 (nI b) P (selI (selP (fun p => tn (q (u p))) (tn b) pn)) all) ∧ (¬ 0 ≤ selI (selP (fun p => tn (q (u p))) (tn b) pn) → ∀ d, d = upd all 7 (nI (pn + 1)) → J_X10_take_174 (nI b) P (nI pn) d)) → P_X10_take (nI b) all P := fun P hP => stM P (fun z => absurd z (by omega)) (fun _ z => absurd z hcv) (fun _ _ => ⟨pn + 1, v_takeM (u := fun p => q (u p)) (tn := tn) (by omega) hb64 t3 hup (fun p hp => ⟨Nat.lt_of_lt_of_le (hq64 p hp) b3, (tn6 _ (hq64 p hp)).2.1, (tn6 _ (hq64 p hp)).2.2⟩) n2 n3 hP (pn + 1) 0 (by omega) (by omega)⟩)
  have ix4 : (170 + (8 * nI b)) + 4 = nI (170 + 8 * b + 4) := ix170 b 4
  have ix5 : (170 + (8 * nI b)) + 5 = nI (170 + 8 * b + 5) := ix170 b 5
  -- the end of both, for a pile P
  have fin : ∀ (P : Nat) (d0 : Nat → Int32), P ≤ pn → d0 7 = nI (if P = pn then pn + 1 else pn) → (∀ j, j ≠ 7 → d0 j = all j) → ∀ (g9 g10 g11 g12 : Nat → Int32), g9 = upd (f 9) b (nI dy) → g10 = upd (f 10) b (nI P) → g11 = upd (f 11) b (nI (ct (fun j => decide (f 10 (q j) = nI P)) T)) → g12 = upd (f 12) P (nI b) → J_X10_take_174 (nI b) (fun r' d => nI P = r' ∧ NX (nI (dy + 1)) (nI (T + 1)) (nI (if P = pn then pn + 1 else pn)) g9 g10 g11 g12 d) (nI P) d0 := fun P d0 hP e7 ha g9 g10 g11 g12 e9 e10 e11 e12 => by
    unfold J_X10_take_174
    refine s_takenM (f := f) b3 ((ha 5 (by omega)).trans b2) (fun a ha' => ⟨(ha _ (by omega)).trans (hD a ha').1, (hD a ha').2⟩) ?_
    rw [← t6, L760, nI_add, nI_clamp (by omega), ix4, ix5, nI_clamp (by omega), nI_clamp (by omega)]
    refine ⟨vi _ (by omega), fun z1 y1 => ⟨vi 4 (by decide), vi _ (by omega), fun z2 y2 => ⟨vi _ (by omega), fun z3 y3 => ⟨vi 4 (by decide), vi 4 (by decide), fun z4 y4 => ⟨rfl, ?_⟩⟩⟩⟩⟩
    have four : (4 : Int32).toNatClampNeg = 4 := by decide
    rw [four] at y2 y4
    have q1 : ∀ j, j ≠ 760 + T → z1 j = d0 j := fun j hj => by rw [y1, upd_ne hj]
    have q2 : ∀ j, j ≠ 170 + 8 * b + 4 → z2 j = z1 j := fun j hj => by rw [y2, upd_ne hj]
    have q3 : ∀ j, j ≠ 170 + 8 * b + 5 → z3 j = z2 j := fun j hj => by rw [y3, upd_ne hj]
    have q4 : ∀ j, j ≠ 4 → z4 j = z3 j := fun j hj => by rw [y4, upd_ne hj]
    have e4 : z3 4 = nI dy := by rw [q3 4 (by omega), q2 4 (by omega), q1 4 (by omega), ha 4 (by omega)]; exact d2
    have qa : ∀ j, j ≠ 4 → j ≠ 7 → j ≠ 760 + T → j ≠ 170 + 8 * b + 4 → j ≠ 170 + 8 * b + 5 → z4 j = all j := fun j k1 k2 k3 k4 k5 => by rw [q4 j k1, q3 j k5, q2 j k4, q1 j k3, ha j k2]
    have e44 : z4 4 = nI (dy + 1) := by rw [y4, upd_eq, e4, nI_1]
    refine hN _ _ _ _ _ _ _ _ ⟨lim, sw, dy + 1, w, h', B, T + 1, (if P = pn then pn + 1 else pn), O, wt, mo, hh, l, lo, c, r, tn, bA, va_up q T b, ?_, h2.view (fun j _ _ => qa j (by omega) (by omega) (by omega) (by omega) (by omega)), h3.view (fun j _ _ => qa j (by omega) (by omega) (by omega) (by omega) (by omega)), RPl.view (i := i) (f := f) h4 (qa 5 (by omega) (by omega) (by omega) (by omega) (by omega)) (qa 6 (by omega) (by omega) (by omega) (by omega) (by omega)) (fun b' j _ _ _ _ => qa _ (by omega) (by omega) (by omega) (by omega) (by omega)), ?_, ROd.view (i := i) (f := f) h6 (qa 8 (by omega) (by omega) (by omega) (by omega) (by omega)) (fun k hk => by have := h6.2.2.1; exact qa _ (by omega) (by omega) (by omega) (by omega) (by omega))⟩ (fun j hj => qa j (by omega) (by omega) (by omega) (by omega) (by omega))
    · unfold RSc at *
      rw [e44, qa 2 (by omega) (by omega) (by omega) (by omega) (by omega), qa 3 (by omega) (by omega) (by omega) (by omega) (by omega), qa 0 (by omega) (by omega) (by omega) (by omega) (by omega), qa 1 (by omega) (by omega) (by omega) (by omega) (by omega)]
      exact ⟨h1.1, h1.2.1, ⟨rfl, rfl, by omega⟩, h1.2.2.2⟩
    · refine RYd.take (f := f) (i := i) (P := P) (d := dy) (b := b) h5 b3 hb hf hP d3 rfl rfl e9 e10 e11 e12 ?_ (fun b' hb' hne => ⟨qa _ (by omega) (by omega) (by omega) (by omega) (by omega), qa _ (by omega) (by omega) (by omega) (by omega) (by omega)⟩) ⟨?_, ?_⟩ (fun k hk => qa _ (by omega) (by omega) (by omega) (by omega) (by omega)) ?_
      · rw [q4 7 (by omega), q3 7 (by omega), q2 7 (by omega), q1 7 (by omega)]; exact e7
      · rw [q4 _ (by omega), q3 _ (by omega), y2, upd_eq, q1 4 (by omega), ha 4 (by omega)]; exact d2
      · rw [q4 _ (by omega), y3, upd_eq]
      · rw [q4 _ (by omega), q3 _ (by omega), q2 _ (by omega), y1, upd_eq]
  have f10q : ∀ j, j < T → ∃ p, p < pn ∧ f 10 (q j) = nI p := fun j hj => by
    obtain ⟨z1, z2, z3, z4⟩ := h5.2.2.1 j hj
    rcases (h5.2.1 _ z1).2.2 with g | ⟨d, p, k1, k2, k3, k4⟩
    · exact absurd g.1 z3
    · exact ⟨p, k2, k4⟩
  have hTB : T < B := by rw [t6]; exact ct_lt hb (by simp [hf.1])
  unfold J_X8_lay_57
  rw [nI_clamp (by omega)]
  cases hs : selP (fun p => tn (q (u p))) (tn b) pn with
  | none =>
    have hct : ct (fun j => decide (f 10 (q j) = nI pn)) T = 0 := ct_none T (fun j hj => by
      obtain ⟨p, hp, e⟩ := f10q j hj
      rw [e]
      simpa using fun g => absurd ((nI_eq (by omega) (by omega)).mp g) (by omega))
    show (nI pn = nI pn → _) ∧ (¬ nI pn = nI pn → _)
    refine ⟨fun _ => ⟨vi _ hb64, fun g11 e11 v8 e8 => ⟨vi pn (by omega), fun g12 e12 => ⟨vi _ hb64, fun g10 e10 => ⟨vi _ hb64, fun g9 e9 v4 e4 v5 e5 => ?_⟩⟩⟩⟩, fun z => absurd rfl z⟩
    rw [show (nI ((none : Option Nat).getD pn)).toNatClampNeg = pn from nI_clamp (n := pn) (by omega)] at e12
    rw [e5, e4, e8, nI_1, nI_1, nI_1]
    refine stT _ ⟨fun z => absurd z (by rw [hs]; show ¬ (0 : Int32) ≤ -1; decide), fun _ d ed => ?_⟩
    have := fin pn d (Nat.le_refl _) (by rw [ed, upd_eq, if_pos rfl]) (fun j hj => by rw [ed, upd_ne hj]) g9 g10 g11 g12 e9 e10 (by rw [hct]; exact e11) e12
    rw [if_pos rfl] at this
    exact this
  | some x =>
    have hx := (selP_lt _ _ _ _ hs).1
    have hxu := hu x hx
    rw [show (some x).getD pn = x from rfl]
    have hct : ct (fun j => decide (f 10 (q j) = nI x)) T = ct (fun j => decide (f 10 (q j) = nI x)) (u x) + 1 := ct_last (by simpa using hxu.2.2.1) T hxu.1 (fun j j1 j2 => by simpa using hxu.2.2.2 j j1 j2)
    rw [nI_eq (by omega) (by omega)]
    refine ⟨fun z => by omega, fun _ => ?_⟩
    rw [nI_clamp (n := x) (by omega), hxu.2.1, nI_clamp (n := q (u x)) (by have := hq64 x hx; omega)]
    refine ⟨vi _ (by omega), vi _ (by have := hq64 x hx; omega), vi _ hb64, fun g11 e11 => ⟨vi _ (by omega), fun g12 e12 => ⟨vi _ hb64, fun g10 e10 => ⟨vi _ hb64, fun g9 e9 v4 e4 v5 e5 => ?_⟩⟩⟩⟩
    rw [e5, e4, nI_1, nI_1]
    refine stT _ ⟨fun _ => ?_, fun z => absurd (by rw [hs]; exact nI_pos' (show x < 2 ^ 31 by omega)) z⟩
    rw [hs]
    have e11' : g11 = upd (f 11) b (nI (ct (fun j => decide (f 10 (q j) = nI x)) T)) := by
      rw [e11, (tk (u x) hxu.1).2.2.2, nI_1, hct, hxu.2.2.1]
    have := fin x all (by omega) (by rw [if_neg (by omega)]; exact t3) (fun j hj => rfl) g9 g10 g11 g12 e9 e10 e11' e12
    rw [if_neg (by omega)] at this
    exact this
