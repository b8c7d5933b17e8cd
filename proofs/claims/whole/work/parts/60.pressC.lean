/-! the class's press -/
theorem v_fp63 {w h B y : Nat} {l lo c r hh bA : Nat → Nat} {F7 : Nat → Int32} {K : Int32 → (Nat → Int32) → Prop} (G : Geo w h B l lo c r bA) (hB : 0 < B) (hB64 : B ≤ 64) (hw : w ≤ 8) (hh8 : h ≤ 8) (hy : 1 ≤ y) (hyh : y < h) (h7 : ∀ x y, x < w → y < h → F7 (8 * y + x) = nI (bA (8 * y + x))) (hK : ∀ F : Nat → Int32, PRy w h B l lo c r hh bA y w (fun b => (F b).toInt) → K (nI (y + 1)) F) : ∀ k x F, w - x < k → x ≤ w → PRy w h B l lo c r hh bA y x (fun b => (F b).toInt) → V_X0_findPress_63 (nI y) (nI w) F7 K k (nI x) F := by
  intro k
  induction k with
  | zero => intro x F h; omega
  | succ k ih =>
    intro x F g1 g2 g3
    rw [V_X0_findPress_63_s, nI_leI (by omega) (by omega)]
    refine ⟨fun q v ev => by rw [ev, nI_1]; rw [show x = w by omega] at g3; exact hK F g3, fun q => s_place ?_⟩
    have e1 : nI y * 8 + nI x = nI (8 * y + x) := by rw [L8, pk_mul, nI_add, Nat.mul_comm]
    have e2 : (nI y - 1) * 8 + nI x = nI (8 * (y - 1) + x) := by rw [L1, pk_sub hy, L8, pk_mul, nI_add, Nat.mul_comm]
    have a1 := (G.2.1 hB x y (by omega) hyh).1
    have a2 := (G.2.1 hB x (y - 1) (by omega) (by omega)).1
    rw [e1, nI_clamp (by omega), h7 x y (by omega) hyh]
    refine ⟨vi _ (by omega), fun v5 e5 => s_place ?_⟩
    rw [e2, nI_clamp (by omega), h7 x (y - 1) (by omega) (by omega)]
    refine ⟨vi _ (by omega), fun v6 e6 => ?_⟩
    rw [e5, e6, nI_eq (by omega) (by omega)]
    refine ⟨fun z v4 e4 => ?_, fun z => ?_⟩
    · rw [e4, nI_1]
      exact ih (x + 1) F (by omega) (by omega) (g3.step G hB (by omega) hyh hy (Or.inl ⟨z, fun _ _ => rfl⟩))
    · rw [nI_clamp (by omega), nI_clamp (by omega)]
      refine ⟨vi _ (by omega), vi _ (by omega), fun m em => ⟨vi _ (by omega), fun F' eF v4 e4 => ?_⟩⟩
      rw [e4, nI_1]
      refine ih (x + 1) F' (by omega) (by omega) (g3.step G hB (by omega) hyh hy (Or.inr ⟨z, ?_, fun b hb hbu => ?_⟩))
      · have hv := (g3.1 _ a2).1
        have hu := (g3.1 _ a1).1
        have gl := G.1 _ a2
        have hv1 : -(lo (bA (8 * (y - 1) + x)) : Int) ≤ (F (bA (8 * (y - 1) + x))).toInt := hv.1
        have s1 := sub1 (x := F (bA (8 * (y - 1) + x))) (by omega)
        show (F' _).toInt = _
        rw [eF, upd_eq, em]
        by_cases hlt : F (bA (8 * (y - 1) + x)) - 1 < F (bA (8 * y + x))
        · rw [if_pos hlt, s1]
          have := i32_lt.mp hlt
          rw [s1] at this
          show _ = min ((F _).toInt - 1) (F _).toInt
          omega
        · rw [if_neg hlt]
          have := i32_le.mp (i32_nlt.mp hlt)
          rw [s1] at this
          show _ = min ((F _).toInt - 1) (F _).toInt
          omega
      · show (F' b).toInt = (F b).toInt
        rw [eF, upd_ne hbu]
theorem v_fp49 {w h B : Nat} {l lo c r hh bA : Nat → Nat} {F7 : Nat → Int32} {post : (Nat → Int32) → Prop} (G : Geo w h B l lo c r bA) (hB : 0 < B) (hB64 : B ≤ 64) (hw : w ≤ 8) (hh8 : h ≤ 8) (h7 : ∀ x y, x < w → y < h → F7 (8 * y + x) = nI (bA (8 * y + x))) (hp : ∀ F : Nat → Int32, PR B l lo c r hh (fun b => (F b).toInt) → post F) : ∀ k y F, h - y < k → 1 ≤ y → y ≤ h → PRy w h B l lo c r hh bA y 0 (fun b => (F b).toInt) → V_X0_findPress_49 (nI w) (nI h) F7 post k (nI y) F := by
  intro k
  induction k with
  | zero => intro y F h; omega
  | succ k ih =>
    intro y F g1 g2 g3 g4
    rw [V_X0_findPress_49_s, nI_leI (by omega) (by omega)]
    refine ⟨fun q => hp F (fun b hb => ?_), fun q => ⟨w + 1, v_fp63 G hB hB64 hw hh8 g2 (by omega) h7 (fun F' hF' => ih (y + 1) F' (by omega) (by omega) (by omega) (hF'.next G g2)) (w + 1) 0 F (by omega) (by omega) g4⟩⟩
    obtain ⟨h1, h2, h3⟩ := g4.1 b hb
    have gb := G.1 b hb
    exact ⟨h1, h2 (by omega), h3.imp id (fun z => z.2)⟩
theorem v_fp7 {w h B : Nat} {l lo c r hh bA : Nat → Nat} {f : Nat → Nat → Int32} {A : Nat → Int32} {post : (Nat → Int32) → Prop} (G : Geo w h B l lo c r bA) (hB : 0 < B) (hB64 : B ≤ 64) (hw : w ≤ 8) (hh8 : h ≤ 8) (hh1 : 1 ≤ h) (h3 : RRv f A hh) (hlo : ∀ b, b < B → f 3 b = nI (lo b)) (h7 : ∀ x y, x < w → y < h → f 7 (8 * y + x) = nI (bA (8 * y + x))) (hp : ∀ F : Nat → Int32, PR B l lo c r hh (fun b => (F b).toInt) → post F) : ∀ k b F, B - b < k → b ≤ B → (∀ b', b' < b → (F b').toInt = duZ hh (lo b')) → V_X0_findPress_7 (nI w) (nI h) (nI B) (f 3) (f 7) (f 8) post k (nI b) F := by
  intro k
  induction k with
  | zero => intro b F h; omega
  | succ k ih =>
    intro b F g1 g2 g3
    rw [V_X0_findPress_7_s, nI_leI (by omega) (by omega)]
    refine ⟨fun q => ⟨h + 1, v_fp49 G hB hB64 hw hh8 h7 hp (h + 1) 1 F (by omega) (by omega) (by omega) ⟨fun b' hb' => ?_, fun x' hx' => by omega⟩⟩, fun q => ?_⟩
    · have e : (F b').toInt = duZ hh (lo b') := g3 b' (by omega)
      have hb := duZ_b hh (lo b')
      refine ⟨⟨?_, ?_⟩, fun q a ha hab => ?_, Or.inl e⟩
      · show _ ≤ (F b').toInt; omega
      · show (F b').toInt ≤ _; omega
      · have := hab.1
        have ra := (G.1 a ha).2.1
        omega
    · have gb := G.1 b (by omega)
      refine s_dueC (lo := lo b) (by omega) (by omega) (hlo b (by omega)) h3 ?_
      have nx : ∀ r : Int32, r.toInt = duZ hh (lo b) → ∀ F' : Nat → Int32, F' = upd F b r → ∀ v : Int32, v = nI b + 1 → V_X0_findPress_7 (nI w) (nI h) (nI B) (f 3) (f 7) (f 8) post k v F' := fun r er F' eF v ev => by
        rw [ev, nI_1]
        refine ih (b + 1) F' (by omega) (by omega) (fun b' hb' => ?_)
        rw [eF]
        by_cases e : b' = b
        · rw [e, upd_eq]; exact er
        · rw [upd_ne e]; exact g3 b' (by omega)
      rw [nI_clamp (by omega)]
      refine ⟨fun z => ⟨vi _ (by omega), fun F' eF v ev => nx 100000 ?_ F' eF v ev⟩, fun z => ⟨vi _ (by omega), fun F' eF v ev => nx _ ?_ F' eF v ev⟩⟩
      · unfold duZ; rw [if_pos z]; decide
      · unfold duZ; rw [if_neg z]
theorem s_findPress {w h B : Nat} {l lo c r hh bA : Nat → Nat} {f : Nat → Nat → Int32} {A F0 : Nat → Int32} {post : (Nat → Int32) → Prop} (G : Geo w h B l lo c r bA) (hB : 0 < B) (hB64 : B ≤ 64) (hw : w ≤ 8) (hh8 : h ≤ 8) (hh1 : 1 ≤ h) (h3 : RRv f A hh) (hlo : ∀ b, b < B → f 3 b = nI (lo b)) (h7 : ∀ x y, x < w → y < h → f 7 (8 * y + x) = nI (bA (8 * y + x))) (hp : ∀ F : Nat → Int32, PR B l lo c r hh (fun b => (F b).toInt) → post F) : P_X0_findPress F0 (nI w) (nI h) (nI B) (f 3) (f 7) (f 8) post := ⟨B + 1, v_fp7 G hB hB64 hw hh8 hh1 h3 hlo h7 hp (B + 1) 0 F0 (by omega) (by omega) (fun b' hb' => by omega)⟩
/-- what the class looks at: the press, or one more than any press for what is gone -/
def keyZ (g : Nat → Int) (gone : Nat → Bool) (b : Nat) : Int := if gone b then 100001 else g b
theorem v_pass {B : Nat} {F9 : Nat → Int32} {g : Nat → Int} {post : (Nat → Int32) → Prop} (hB64 : B ≤ 64) (hp : ∀ F : Nat → Int32, (∀ b, b < B → (F b).toInt = keyZ g (fun b => decide (¬ F9 b = -1)) b) → post F) : ∀ k b F, B - b < k → b ≤ B → (∀ b', b' < B → (F b').toInt = if b' < b then keyZ g (fun b => decide (¬ F9 b = -1)) b' else g b') → V_X0_passOverTaken_2 (nI B) F9 post k (nI b) F := by
  intro k
  induction k with
  | zero => intro b F h; omega
  | succ k ih =>
    intro b F g1 g2 g3
    rw [V_X0_passOverTaken_2_s, nI_leI (by omega) (by omega)]
    refine ⟨fun q => hp F (fun b' hb' => by rw [g3 b' hb', if_pos (by omega)]), fun q => s_isTaken (by omega) (bsp (fun z v ev => ?_) (fun z => ?_))⟩
    · rw [ev, nI_1]
      refine ih (b + 1) F (by omega) (by omega) (fun b' hb' => ?_)
      rw [g3 b' hb']
      by_cases e : b' = b
      · rw [e, if_neg (Nat.lt_irrefl b), if_pos (Nat.lt_succ_self b)]
        unfold keyZ
        rw [if_neg (by simpa using z)]
      · by_cases e2 : b' < b
        · rw [if_pos e2, if_pos (show b' < b + 1 by omega)]
        · rw [if_neg e2, if_neg (show ¬ b' < b + 1 by omega)]
    · rw [nI_clamp (by omega)]
      refine ⟨vi _ (by omega), fun F' eF v ev => ?_⟩
      rw [ev, nI_1]
      refine ih (b + 1) F' (by omega) (by omega) (fun b' hb' => ?_)
      rw [eF]
      by_cases e : b' = b
      · rw [e, upd_eq, if_pos (Nat.lt_succ_self b)]
        unfold keyZ
        rw [if_pos (by simpa using z)]
        decide
      · rw [upd_ne e, g3 b' hb']
        by_cases e2 : b' < b
        · rw [if_pos e2, if_pos (show b' < b + 1 by omega)]
        · rw [if_neg e2, if_neg (show ¬ b' < b + 1 by omega)]
theorem s_pass {B : Nat} {F0 F9 : Nat → Int32} {post : (Nat → Int32) → Prop} (hB64 : B ≤ 64) (hp : ∀ F : Nat → Int32, (∀ b, b < B → (F b).toInt = keyZ (fun b => (F0 b).toInt) (fun b => decide (¬ F9 b = -1)) b) → post F) : P_X0_passOverTaken F0 (nI B) F9 post := ⟨B + 1, v_pass hB64 hp (B + 1) 0 F0 (by omega) (by omega) (fun b' hb' => rfl)⟩
/-- the first of those with the least key -/
def am (key : Nat → Int) : Nat → Nat
  | 0 => 0
  | n + 1 => if key n < key (am key n) then n else am key n
theorem am_spec (key : Nat → Int) : ∀ n, 0 < n → am key n < n ∧ (∀ b, b < n → key (am key n) ≤ key b) ∧ (∀ b, b < am key n → key (am key n) < key b) := by
  intro n
  induction n with
  | zero => intro h; omega
  | succ n ih =>
    intro _
    rcases Nat.eq_zero_or_pos n with q | q
    · subst q
      have e : am key 1 = 0 := by simp [am]
      rw [e]
      exact ⟨by omega, fun b hb => by rw [show b = 0 by omega]; omega, fun b hb => by omega⟩
    · obtain ⟨h1, h2, h3⟩ := ih q
      rw [am]
      by_cases hlt : key n < key (am key n)
      · rw [if_pos hlt]
        refine ⟨by omega, fun b hb => ?_, fun b hb => by have := h2 b hb; omega⟩
        rcases Nat.lt_or_ge b n with g | g
        · have := h2 b g; omega
        · rw [show b = n by omega]; omega
      · rw [if_neg hlt]
        refine ⟨by omega, fun b hb => ?_, h3⟩
        rcases Nat.lt_or_ge b n with g | g
        · exact h2 b g
        · rw [show b = n by omega]; omega
theorem v_most {B : Nat} {F : Nat → Int32} {key : Nat → Int} {post : Int32 → Prop} (hB : B ≤ 64) (hF : ∀ b, b < B → (F b).toInt = key b) (hp : post (nI (am key B))) : ∀ k b, B - b < k → 1 ≤ b → b ≤ B → V_X0_mostPressing_4 (nI B) F post k (nI (am key b)) (nI b) := by
  intro k
  induction k with
  | zero => intro b h; omega
  | succ k ih =>
    intro b g1 g2 g3
    have hs := am_spec key b (by omega)
    rw [V_X0_mostPressing_4_s, nI_leI (by omega) (by omega)]
    refine ⟨fun q => by rw [show b = B by omega]; exact hp, fun q => ?_⟩
    rw [nI_clamp (by omega), nI_clamp (by omega)]
    have hi := ih (b + 1) (by omega) (by omega) (by omega)
    rw [am] at hi
    refine ⟨vi _ (by omega), vi _ (by omega), fun z v ev => ?_, fun z v ev => ?_⟩
    · rw [i32_le, hF _ (by omega), hF b (by omega)] at z
      rw [if_neg (by omega)] at hi
      rw [ev, nI_1]; exact hi
    · rw [i32_le, hF _ (by omega), hF b (by omega)] at z
      rw [if_pos (by omega)] at hi
      rw [ev, nI_1]; exact hi
theorem s_most {B : Nat} {F : Nat → Int32} {key : Nat → Int} {post : Int32 → Prop} (hB0 : 0 < B) (hB : B ≤ 64) (hF : ∀ b, b < B → (F b).toInt = key b) (hp : post (nI (am key B))) : P_X0_mostPressing (nI B) F post := ⟨B + 1, by
  have := v_most hB hF hp (B + 1) 1 (by omega) (by omega) (by omega)
  rw [show am key 1 = 0 by simp [am]] at this
  exact this⟩
/-- who is gone behind k places of the order, and who is next -/
def gs (g : Nat → Int) (t0 : Nat → Bool) (B : Nat) : Nat → Nat → Bool
  | 0 => t0
  | k + 1 => va_up (gs g t0 B k) (am (keyZ g (gs g t0 B k)) B) true
def ordN (g : Nat → Int) (t0 : Nat → Bool) (B k : Nat) : Nat := am (keyZ g (gs g t0 B k)) B
/-- whether a block that is taken on a day is late -/
def lateP (hh lo : Nat → Nat) (b d : Nat) : Prop := ¬ dueI hh (lo b) = -1 ∧ dueI hh (lo b) ≤ nI d
noncomputable def ltN (g : Nat → Int) (t0 : Nat → Bool) (B : Nat) (hh lo : Nat → Nat) (dy : Nat) : Nat → Nat
  | 0 => 0
  | k + 1 => ltN g t0 B hh lo dy k + @ite _ (lateP hh lo (ordN g t0 B k) (dy + k)) (Classical.propDecidable _) 1 0
theorem s_inTime {f : Nat → Nat → Int32} {A : Nat → Int32} {hh lo : Nat → Nat} {b d : Nat} {post : Int32 → Prop} (hb : b < 64) (hlo : lo b < 64) (hf : f 3 b = nI (lo b)) (h3 : RRv f A hh) (h : post (bI (¬ lateP hh lo b d))) : P_X5_isInTime (nI b) (nI d) (f 3) (f 8) post := by
  refine s_dueC (lo := lo b) hb hlo hf h3 ⟨fun z => ?_, fun z => ⟨fun z2 => ?_, fun z2 => ?_⟩⟩
  · rwa [bI_t (fun g => g.1 z)] at h
  · rwa [bI_f (fun g => g ⟨z, z2⟩)] at h
  · rwa [bI_t (fun g => z2 g.2)] at h
theorem v_arr {f : Nat → Nat → Int32} {A : Nat → Int32} {B S dy : Nat} {g : Nat → Int} {t0 : Nat → Bool} {hh lo : Nat → Nat} {post : Int32 → (Nat → Int32) → Int32 → (Nat → Int32) → Prop} (hB0 : 0 < B) (hB : B ≤ 64) (hS : S ≤ B) (hdy : dy ≤ 5000) (hlo : ∀ b, b < B → f 3 b = nI (lo b) ∧ lo b < 64) (h3 : RRv f A hh) (hp : ∀ F O : Nat → Int32, (∀ k, k < S → O k = nI (ordN g t0 B k)) → post (nI (ltN g t0 B hh lo dy S)) F (nI S) O) : ∀ n k F O, S - k < n → k ≤ S → (∀ b, b < B → (F b).toInt = keyZ g (gs g t0 B k) b) → (∀ j, j < k → O j = nI (ordN g t0 B j)) → V_X0_arrange_38 (nI S) (nI dy) (nI B) (f 3) (f 8) post n (nI (ltN g t0 B hh lo dy k)) (nI k) F (nI k) O := by
  intro n
  induction n with
  | zero => intro k F O h; omega
  | succ n ih =>
    intro k F O g1 g2 g3 g4
    rw [V_X0_arrange_38_s, nI_leI (by omega) (by omega)]
    refine ⟨fun q => by rw [show k = S by omega] at g4 ⊢; exact hp F O g4, fun q => s_most (key := keyZ g (gs g t0 B k)) hB0 hB g3 ?_⟩
    have ha := (am_spec (keyZ g (gs g t0 B k)) B hB0).1
    have hl := hlo _ ha
    unfold P_X1_add
    rw [L64, nI_leI (by decide) (by omega)]
    refine ⟨fun z => by omega, fun _ => ⟨vi _ (by omega), fun O' eO v8 e8 => ?_⟩⟩
    rw [nI_clamp (by omega)] at eO
    rw [e8, nI_1 k, nI_clamp (by omega)]
    refine ⟨vi _ (by omega), fun F' eF => ?_⟩
    have hF' : ∀ b, b < B → (F' b).toInt = keyZ g (gs g t0 B (k + 1)) b := fun b hb => by
      show (F' b).toInt = if gs g t0 B (k + 1) b then 100001 else g b
      rw [eF, gs]
      by_cases e : b = am (keyZ g (gs g t0 B k)) B
      · rw [e, upd_eq, vaup_eq, if_pos rfl]; decide
      · rw [upd_ne e, vaup_ne e]; exact g3 b hb
    have hO' : ∀ j, j < k + 1 → O' j = nI (ordN g t0 B j) := fun j hj => by
      rw [eO]
      by_cases e : j = k
      · rw [e, upd_eq]; rfl
      · rw [upd_ne e]; exact g4 j (by omega)
    have hi := ih (k + 1) F' O' (by omega) (by omega) hF' hO'
    rw [ltN, show ordN g t0 B k = am (keyZ g (gs g t0 B k)) B from rfl] at hi
    rw [nI_add]
    refine s_inTime (hlo := hl.2) (by omega) hl.1 h3 (bsp (fun z v2 e2 v4 e4 => ?_) (fun z v4 e4 => ?_))
    · rw [@if_pos _ (Classical.propDecidable _) (Classical.not_not.mp z)] at hi
      rw [e2, e4, nI_1]; exact hi
    · rw [@if_neg _ (Classical.propDecidable _) z] at hi
      rw [e4]; exact hi
