/-! the reference's press: it comes to the class's -/
def msZ (g : Nat → Int) : Nat → Nat
  | 0 => 0
  | n + 1 => msZ g n + (g n + 100).toNat
theorem msZ_cong {g g' : Nat → Int} : ∀ {n : Nat}, (∀ b, b < n → g' b = g b) → msZ g' n = msZ g n := by
  intro n
  induction n with
  | zero => intro _; rfl
  | succ n ih => intro h; rw [msZ, msZ, ih (fun b hb => h b (by omega)), h n (by omega)]
theorem msZ_lt {g g' : Nat → Int} {a : Nat} : ∀ {n : Nat}, a < n → (∀ b, b < n → b ≠ a → g' b = g b) → g' a < g a → -100 < g a → msZ g' n < msZ g n := by
  intro n
  induction n with
  | zero => intro h; omega
  | succ n ih =>
    intro h1 h2 h3 h4
    rw [msZ, msZ]
    by_cases e : a = n
    · subst e
      rw [msZ_cong (fun b hb => h2 b (by omega) (by omega))]
      omega
    · have := ih (by omega) (fun b hb hne => h2 b (by omega) hne) h3 h4
      rw [h2 n (by omega) (fun q => e q.symm)]
      omega
/-- the reference's rows, between the class's press and the due; of what stands -/
def PM (B : Nat) (lo hh : Nat → Nat) (f9 : Nat → Int32) (g : Nat → Int) (F : Nat → Int32) : Prop := ∀ b, b < B → (-8 ≤ (F b).toInt ∧ (F b).toInt ≤ 100000) ∧ (f9 b = -1 → g b ≤ (F b).toInt ∧ (F b).toInt ≤ duZ hh (lo b))
/-- a pass: nothing has changed, and all that was looked at is well; or the sum has come down -/
def PSx (B : Nat) (l lo c r : Nat → Nat) (f9 : Nat → Int32) (F0 : Nat → Int32) (proc : Nat → Nat → Prop) (v : Int32) (F : Nat → Int32) : Prop := (v = 0 ∧ (∀ b, b < B → F b = F0 b) ∧ ∀ a b, a < B → b < B → proc a b → f9 a = -1 → f9 b = -1 → abv l lo c r a b → (F0 a).toInt ≤ (F0 b).toInt - 1) ∨ (v = 1 ∧ msZ (fun b => (F b).toInt) B < msZ (fun b => (F0 b).toInt) B)
theorem v_pm64 {B a : Nat} {l lo c r hh : Nat → Nat} {f : Nat → Nat → Int32} {A F0 : Nat → Int32} {g : Nat → Int} {K : Int32 → Int32 → (Nat → Int32) → Prop} (hB : B ≤ 64) (ha : a < B) (hr : ∀ b, b < B → lo b ≤ 7) (e5 : A 5 = nI B) (hM : ∀ a, a < B → BlM A l lo c r a) (h4 : ∀ a, a < B → A (170 + 8 * a + 4) = f 9 a ∧ Dy (f 9 a)) (hg : PR B l lo c r hh g)
    (hK : ∀ v F, PM B lo hh (f 9) g F → PSx B l lo c r (f 9) F0 (fun a' b' => a' < a ∨ (a' = a ∧ b' < B)) v F → K v (nI (a + 1)) F) : ∀ k b v F, B - b < k → b ≤ B → PM B lo hh (f 9) g F → PSx B l lo c r (f 9) F0 (fun a' b' => a' < a ∨ (a' = a ∧ b' < b)) v F → V_X10_presses_64 (nI a) A K k v (nI b) F := by
  intro k
  induction k with
  | zero => intro b v F h; omega
  | succ k ih =>
    intro b v F g1 g2 g3 g4
    have e5' : A (5 : Int32).toNatClampNeg = nI B := e5
    rw [V_X10_presses_64_s, e5', nI_leI (by omega) (by omega)]
    refine ⟨vi 5 (by decide), fun q v2 e2 => ?_, fun q => ?_⟩
    · rw [e2, nI_1]
      rw [show b = B by omega] at g4
      exact hK v F g3 g4
    · -- nothing to do at this pair
      have nx : ((f 9 a = -1 → f 9 b = -1 → abv l lo c r a b → (F a).toInt ≤ (F b).toInt - 1)) → ∀ v3 : Int32, v3 = nI b + 1 → V_X10_presses_64 (nI a) A K k v v3 F := fun z v3 e3 => by
        rw [e3, nI_1]
        refine ih (b + 1) v F (by omega) (by omega) g3 ?_
        rcases g4 with ⟨p1, p2, p3⟩ | p
        · refine Or.inl ⟨p1, p2, fun a' b' ha' hb' hp s1 s2 hab => ?_⟩
          rcases hp with hp | ⟨hp, hp2⟩
          · exact p3 a' b' ha' hb' (Or.inl hp) s1 s2 hab
          · rcases Nat.lt_or_ge b' b with w | w
            · exact p3 a' b' ha' hb' (Or.inr ⟨hp, w⟩) s1 s2 hab
            · have eb : b' = b := by omega
              subst hp; subst eb
              have := z s1 s2 hab
              rw [p2 a' ha', p2 b' hb'] at this
              exact this
        · exact Or.inr p
      refine s_stands (by omega) (h4 a ha).1 (h4 a ha).2 (bsp (fun z => nx (fun s1 => absurd s1 z)) (fun s1 => ?_))
      refine s_stands (by omega) (h4 b (by omega)).1 (h4 b (by omega)).2 (bsp (fun z => nx (fun _ s2 => absurd s2 z)) (fun s2 => ?_))
      refine s_abvM (by omega) (by omega) (hM a ha) (hM b (by omega)) (bsp (fun z => nx (fun _ _ hab => absurd hab z)) (fun hab => ?_))
      rw [nI_clamp (by omega), nI_clamp (by omega)]
      have hFa := g3 a ha
      have hFb := g3 b (by omega)
      have sb := sub1 (x := F b) (by have := hFb.1.1; omega)
      refine ⟨vi _ (by omega), vi _ (by omega), fun z => ⟨vi _ (by omega), vi _ (by omega), fun F' eF v3 e3 => ?_⟩, fun z => nx (fun _ _ _ => ?_)⟩
      · rw [i32_lt, sb] at z
        rw [e3, nI_1]
        have pa := (hg a ha).2.1 b (by omega) hab
        have pb := (hg a ha).1
        have lb := hr a ha
        have fa : (F' a).toInt = (F b).toInt - 1 := by rw [eF, upd_eq, sb]
        have fo : ∀ x, x ≠ a → F' x = F x := fun x hx => by rw [eF, upd_ne hx]
        refine ih (b + 1) 1 F' (by omega) (by omega) (fun x hx => ?_) (Or.inr ⟨rfl, ?_⟩)
        · by_cases e : x = a
          · rw [e, fa]
            have h9b := (hFb.2 s2).1
            have h9a := (hFa.2 s1).2
            exact ⟨⟨by omega, by omega⟩, fun _ => ⟨by omega, by omega⟩⟩
          · rw [fo x e]; exact g3 x hx
        · have hlt : msZ (fun b => (F' b).toInt) B < msZ (fun b => (F b).toInt) B := msZ_lt ha (fun x hx hne => by show (F' x).toInt = (F x).toInt; rw [fo x hne]) (by show (F' a).toInt < (F a).toInt; omega) (by show -100 < (F a).toInt; have := hFa.1.1; omega)
          rcases g4 with ⟨p1, p2, p3⟩ | p
          · have e : msZ (fun b => (F b).toInt) B = msZ (fun b => (F0 b).toInt) B := msZ_cong (fun x hx => by show (F x).toInt = (F0 x).toInt; rw [p2 x hx])
            omega
          · have := p.2; omega
      · rw [i32_nlt, i32_le, sb] at z
        exact z
theorem v_pm52 {B : Nat} {l lo c r hh : Nat → Nat} {f : Nat → Nat → Int32} {A F0 : Nat → Int32} {g : Nat → Int} {K : Int32 → (Nat → Int32) → Prop} (hB : B ≤ 64) (hr : ∀ b, b < B → lo b ≤ 7) (e5 : A 5 = nI B) (hM : ∀ a, a < B → BlM A l lo c r a) (h4 : ∀ a, a < B → A (170 + 8 * a + 4) = f 9 a ∧ Dy (f 9 a)) (hg : PR B l lo c r hh g)
    (hK : ∀ v F, PM B lo hh (f 9) g F → PSx B l lo c r (f 9) F0 (fun a' b' => a' < B) v F → K v F) : ∀ k a v F, B - a < k → a ≤ B → PM B lo hh (f 9) g F → PSx B l lo c r (f 9) F0 (fun a' b' => a' < a) v F → V_X10_presses_52 A K k v (nI a) F := by
  intro k
  induction k with
  | zero => intro b v F h; omega
  | succ k ih =>
    intro a v F g1 g2 g3 g4
    have e5' : A (5 : Int32).toNatClampNeg = nI B := e5
    rw [V_X10_presses_52_s, e5', nI_leI (by omega) (by omega)]
    refine ⟨vi 5 (by decide), fun q => ?_, fun q => ⟨B + 1, v_pm64 (F0 := F0) hB (by omega) hr e5 hM h4 hg (fun v' F' k1 k2 => ih (a + 1) v' F' (by omega) (by omega) k1 (k2.imp (fun ⟨p1, p2, p3⟩ => ⟨p1, p2, fun a' b' ha' hb' hp => p3 a' b' ha' hb' (by omega)⟩) id)) (B + 1) 0 v F (by omega) (by omega) g3 (g4.imp (fun ⟨p1, p2, p3⟩ => ⟨p1, p2, fun a' b' ha' hb' hp => p3 a' b' ha' hb' (by omega)⟩) id)⟩⟩
    rw [show a = B by omega] at g4
    exact hK v F g3 g4
theorem v_pm44 {B : Nat} {l lo c r hh : Nat → Nat} {f : Nat → Nat → Int32} {A : Nat → Int32} {g : Nat → Int} {post : (Nat → Int32) → Prop} (hB : B ≤ 64) (hr : ∀ b, b < B → lo b ≤ 7) (e5 : A 5 = nI B) (hM : ∀ a, a < B → BlM A l lo c r a) (h4 : ∀ a, a < B → A (170 + 8 * a + 4) = f 9 a ∧ Dy (f 9 a)) (hg : PR B l lo c r hh g)
    (hp : ∀ F, PM B lo hh (f 9) g F → (∀ a b, a < B → b < B → f 9 a = -1 → f 9 b = -1 → abv l lo c r a b → (F a).toInt ≤ (F b).toInt - 1) → post F) : ∀ k v F, (v = 0 ∧ 0 < k ∨ v = 1 ∧ msZ (fun b => (F b).toInt) B + 1 < k) → PM B lo hh (f 9) g F → (v = 0 → ∀ a b, a < B → b < B → f 9 a = -1 → f 9 b = -1 → abv l lo c r a b → (F a).toInt ≤ (F b).toInt - 1) → V_X10_presses_44 A post k v F := by
  intro k
  induction k with
  | zero => intro v F h; omega
  | succ k ih =>
    intro v F g1 g2 g3
    rw [V_X10_presses_44_s]
    refine ⟨fun q => hp F g2 (g3 q), fun q => ⟨B + 1, v_pm52 (F0 := F) hB hr e5 hM h4 hg (fun v' F' k1 k2 => ?_) (B + 1) 0 0 F (by omega) (by omega) g2 (Or.inl ⟨rfl, fun _ _ => rfl, fun a' b' _ _ hp => by omega⟩)⟩⟩
    have hm : msZ (fun b => (F b).toInt) B < k := by
      rcases g1 with ⟨p, _⟩ | ⟨_, p⟩
      · exact absurd p q
      · omega
    rcases k2 with ⟨p1, p2, p3⟩ | ⟨p1, p2⟩
    · exact ih v' F' (Or.inl ⟨p1, by omega⟩) k1 (fun _ a b ha hb s1 s2 hab => by rw [p2 a ha, p2 b hb]; exact p3 a b ha hb ha s1 s2 hab)
    · exact ih v' F' (Or.inr ⟨p1, by omega⟩) k1 (fun z => by rw [p1] at z; exact absurd z (by decide))
theorem v_pm2 {B : Nat} {l lo c r hh : Nat → Nat} {f : Nat → Nat → Int32} {A : Nat → Int32} {g : Nat → Int} {post : (Nat → Int32) → Prop} (hB : B ≤ 64) (hr : ∀ b, b < B → lo b ≤ 7) (e5 : A 5 = nI B) (hM : ∀ a, a < B → BlM A l lo c r a) (h4 : ∀ a, a < B → A (170 + 8 * a + 4) = f 9 a ∧ Dy (f 9 a)) (h3 : RRv f A hh) (hg : PR B l lo c r hh g)
    (hp : ∀ F, PM B lo hh (f 9) g F → (∀ a b, a < B → b < B → f 9 a = -1 → f 9 b = -1 → abv l lo c r a b → (F a).toInt ≤ (F b).toInt - 1) → post F) : ∀ k b F, B - b < k → b ≤ B → (∀ b', b' < b → (F b').toInt = duZ hh (lo b')) → V_X10_presses_2 A post k (nI b) F := by
  intro k
  induction k with
  | zero => intro b F h; omega
  | succ k ih =>
    intro b F g1 g2 g3
    have e5' : A (5 : Int32).toNatClampNeg = nI B := e5
    rw [V_X10_presses_2_s, e5', nI_leI (by omega) (by omega)]
    refine ⟨vi 5 (by decide), fun q => ⟨msZ (fun b => (F b).toInt) B + 2, v_pm44 hB hr e5 hM h4 hg hp _ 1 F (Or.inr ⟨rfl, by omega⟩) (fun b' hb' => ?_) (fun z => absurd z (by decide))⟩, fun q => ?_⟩
    · have e := g3 b' (by omega)
      have := duZ_b hh (lo b')
      have := (hg b' hb').1
      exact ⟨by omega, fun _ => by omega⟩
    · have hlo := hr b (by omega)
      have nx : ∀ r : Int32, r.toInt = duZ hh (lo b) → ∀ F' : Nat → Int32, F' = upd F b r → ∀ v : Int32, v = nI b + 1 → V_X10_presses_2 A post k v F' := fun r er F' eF v ev => by
        rw [ev, nI_1]
        refine ih (b + 1) F' (by omega) (by omega) (fun b' hb' => ?_)
        rw [eF]
        by_cases e : b' = b
        · rw [e, upd_eq]; exact er
        · rw [upd_ne e]; exact g3 b' (by omega)
      have m2 := (hM b (by omega)).2.1
      refine s_dueM (lo := lo b) (by omega) (by omega) m2 h3 ?_
      rw [nI_clamp (by omega)]
      have hd : 0 ≤ dueI hh (lo b) ↔ ¬ dueI hh (lo b) = -1 := by
        rcases dueI_cases hh (lo b) with h | ⟨d, hd, h⟩
        · rw [h]; decide
        · rw [h]; exact ⟨fun _ => ne_mOne (by omega), fun _ => nI_pos' (by omega)⟩
      rw [hd]
      refine ⟨fun z => s_dueM (lo := lo b) (by omega) (by omega) m2 h3 ⟨vi _ (by omega), fun F' eF v ev => nx _ ?_ F' eF v ev⟩, fun z => ⟨vi _ (by omega), fun F' eF v ev => nx 100000 ?_ F' eF v ev⟩⟩
      · unfold duZ; rw [if_neg z]
      · unfold duZ; rw [if_pos (Classical.not_not.mp z)]; decide
/-- of what stands, the reference's press is the class's -/
theorem PM.eq {B : Nat} {l lo c r hh : Nat → Nat} {f9 F : Nat → Int32} {g : Nat → Int} (hg : PR B l lo c r hh g) (hU : ∀ a b, a < B → b < B → abv l lo c r a b → f9 a = -1 → f9 b = -1) (hr : ∀ b, b < B → 1 ≤ r b) (hm : PM B lo hh f9 g F) (hc : ∀ a b, a < B → b < B → f9 a = -1 → f9 b = -1 → abv l lo c r a b → (F a).toInt ≤ (F b).toInt - 1) : ∀ n a, a < B → lo a < n → f9 a = -1 → (F a).toInt = g a := by
  intro n
  induction n with
  | zero => intro a _ h; omega
  | succ n ih =>
    intro a ha hn hs
    have h1 := (hm a ha).2 hs
    rcases (hg a ha).2.2 with e | ⟨b, hb, hab, e⟩
    · omega
    · have sb := hU a b ha hb hab hs
      have rb := hr b hb
      have := hab.1
      have i1 := ih b hb (by omega) sb
      have := hc a b ha hb hs sb hab
      omega
