theorem va_D.left {A : Nat → Prop} {w1 w2 : va_W} (h : va_D A (w1 ++ w2)) : va_D A w1 := by
  refine ⟨fun i j p q hi hj e => h.1 i j p q ?_ ?_ e, fun k q hk => h.2 k q ?_⟩
  · rw [List.getElem?_append_left (List.getElem?_eq_some_iff.mp hi).1]; exact hi
  · rw [List.getElem?_append_left (List.getElem?_eq_some_iff.mp hj).1]; exact hj
  · rw [List.getElem?_append_left (List.getElem?_eq_some_iff.mp hk).1]; exact hk
theorem getElem?_appR {α : Type} {w1 w2 : List α} {k : Nat} {q : α} (h : w2[k]? = some q) : (w1 ++ w2)[w1.length + k]? = some q := by
  rw [List.getElem?_append_right (by omega)]
  rw [show w1.length + k - w1.length = k by omega]
  exact h
theorem getElem?_appL {α : Type} {w1 w2 : List α} {k : Nat} {q : α} (h : w1[k]? = some q) : (w1 ++ w2)[k]? = some q := by
  rw [List.getElem?_append_left (List.getElem?_eq_some_iff.mp h).1]; exact h
theorem va_D.right {A : Nat → Prop} {w1 w2 : va_W} (h : va_D A (w1 ++ w2)) : va_D A w2 := by
  refine ⟨fun i j p q hi hj e => ?_, fun k q hk => h.2 (w1.length + k) q (getElem?_appR hk)⟩
  have := h.1 (w1.length + i) (w1.length + j) p q (getElem?_appR hi) (getElem?_appR hj) e
  omega
theorem va_D.apart {A : Nat → Prop} {w1 w2 : va_W} (h : va_D A (w1 ++ w2)) {i j : Nat} {p q : Nat × va_E} (hi : w1[i]? = some p) (hj : w2[j]? = some q) : p.1 ≠ q.1 := fun e => by
  have := h.1 i (w1.length + j) p q (getElem?_appL hi) (getElem?_appR hj) e
  have := (List.getElem?_eq_some_iff.mp hi).1
  omega
theorem PD.left {D : va_G} {A : Nat → Prop} {w1 w2 : va_W} {H : Heap} (h : PD D A (w1 ++ w2) H) : PD D A w1 H := ⟨fun k q hk => h.1 k q (getElem?_appL hk), h.2.left⟩
theorem PD.right {D : va_G} {A : Nat → Prop} {w1 w2 : va_W} {H : Heap} (h : PD D A (w1 ++ w2) H) : PD D A w2 H := ⟨fun k q hk => h.1 _ q (getElem?_appR hk), h.2.right⟩
theorem map_get {α : Type} {ws ws' : List α} {is : List Nat} (hs : is.map (fun i => ws[i]?) = ws'.map some) {k : Nat} {q : α} (hk : ws'[k]? = some q) : ∃ i, is[k]? = some i ∧ ws[i]? = some q := by
  have h1 : (is.map (fun i => ws[i]?))[k]? = some (some q) := by rw [hs, List.getElem?_map, hk]; rfl
  rw [List.getElem?_map] at h1
  cases hi : is[k]? with
  | none => rw [hi] at h1; cases h1
  | some i => rw [hi] at h1; exact ⟨i, rfl, Option.some.inj h1⟩
theorem PD.subT {D : va_G} {A : Nat → Prop} {ws ws' pl : va_W} {H : Heap} (h : PD D A (ws ++ pl) H) (is : List Nat) (hn : va_nd is = true) (hs : is.map (fun i => ws[i]?) = ws'.map some) : PD D A (ws' ++ pl) H :=
  ⟨(h.left.sub is hn hs).1.app h.right.1, (h.left.sub is hn hs).2.app h.right.2 (fun i j p q hi hj => by
    obtain ⟨k, _, hk⟩ := map_get hs hi
    exact h.2.apart hk hj)⟩
/-- two parts of a world, the other way round -/
theorem PD.swap {D : va_G} {A : Nat → Prop} {w1 w2 w3 : va_W} {H : Heap} (h : PD D A (w1 ++ (w2 ++ w3)) H) : PD D A (w1 ++ (w3 ++ w2)) H := by
  have hr := h.right
  have h2 : PD D A (w3 ++ w2) H := ⟨hr.right.1.app hr.left.1, hr.right.2.app hr.left.2 (fun i j p q hi hj e => hr.2.apart hj hi e.symm)⟩
  refine ⟨h.left.1.app h2.1, h.left.2.app h2.2 (fun i j p q hi hj => ?_)⟩
  rcases List.mem_append.mp (List.mem_of_getElem? hj) with g | g
  · obtain ⟨k, hk⟩ := List.getElem?_of_mem g
    exact h.2.apart hi (getElem?_appR hk)
  · obtain ⟨k, hk⟩ := List.getElem?_of_mem g
    exact h.2.apart hi (getElem?_appL hk)
section LAWB
variable {p : Program} {l : Launch} {e : Env} {R : Room} {s : State} {m : MethodId} {args : Array Value} {below : List Frame} {meth : Method} {c : Code} {H : Heap} {locs : List Loc} {cells slots : Nat} {Q : State → Prop} {cc : ByteArray} {pc : Nat} {ls : Array Slot} {rest : List Value} {D : va_G} {cI cB cS : ClassId} {A : Nat → Prop} {ws pl : va_W} {a : Nat} {own : String}
variable {S : Type} {posti : Int32 → S → Prop} {w1 : S → va_W} {wc : va_W} {y : MethodName} {cy : ByteArray} {maxL n index nL : Nat} {ret : Option FieldType} {rm : Room} {As : List Value} {b : Nat}
theorem sld (hx : p.tables.exec = Jvm.exec) (hb : c.code = cc) {L : Nat} {xs : Nat → Int32} (hX : va_X b L xs s s.heap) (hbl : b < s.heap.size) (hbA : ¬ A b) (hS : va_S A s.heap H locs) {i y : Int32} (hin : vp_in i L) (hv : xs i.toNatClampNeg = y) (hdg : decode cc pc = .ok (.iaload, 1))
    (kk : W p l e R s m args below meth c H locs cells slots Q (F0 m (pc + 1) ls (.int y :: rest))) : W p l e R s m args below meth c H locs cells slots Q (F0 m pc ls (.int i :: .ref b :: rest)) := va_sld hx hb hX hbl hbA hS hin hdg (by rw [hv]; exact kk)
theorem KVt (FX : CallFix p m c cc nL s args tblG own) (hM : Ci l y cy maxL ret rm D cI cB cS (.ref b :: As) wc posti w1) (ok : okM y cy maxL ret n) (him : Cond.instanceMethod y ∈ tblG) (hse : Cond.selects y.cls y y ∈ tblG) (hli : Cond.methodLink own index y ∈ tblG) (hdg : decode cc pc = .ok (.invokevirtual index, 3)) (hK : KK D cI cB cS s) (hP : PD D A (ws ++ pl) H) (hS : va_S A s.heap H locs) (hA : ∀ q, s.heap.size ≤ q → A q) (isC isR : List Nat) (q0 : Nat) {ci : Nat} {fs : List Value} (he : ws[q0]? = some (b, .inr (ci, fs)))
    (hC : isC.map (fun i => ws[i]?) = wc.map some) (hR : isR.map (fun i => ws[i]?) = (isR.filterMap (fun i => ws[i]?)).map some) (hn : va_nd isC = true ∧ va_nd isR = true ∧ ∀ i ∈ isR, i ∉ isC) (hci : (vwCl[ci]?).map (fun q => q.1) = some y.cls) (hL : As.length = n) (hsz : ls.size = nL) (hW : (rest.map fun v => v.category).sum ≤ 8) (hRm : rm.frames + 1 ≤ R.frames ∧ 8 + (maxL + 11) + rm.locals ≤ R.locals) (hf : cells + rm.cells ≤ R.cells ∧ slots + rm.slots ≤ R.slots)
    (kk : ∀ (r : Int32) (u : S) (H1 : Heap) (locs1 : List Loc), posti r u → PD D A ((isR.filterMap (fun i => ws[i]?) ++ w1 u) ++ pl) H1 → va_S A s.heap H1 locs1 → W p l e R s m args below meth c H1 locs1 (cells + rm.cells) (slots + rm.slots) Q (F0 m (pc + 3) ls (.int r :: rest))) : W p l e R s m args below meth c H locs cells slots Q (F0 m pc ls (As.reverse ++ .ref b :: rest)) := by
  obtain ⟨q, hq, hqe⟩ : ∃ q, vwCl[ci]? = some q ∧ q.1 = y.cls := by
    cases h : vwCl[ci]? with
    | none => rw [h] at hci; cases hci
    | some q => rw [h] at hci; exact ⟨q, rfl, Option.some.inj hci⟩
  have hPl := hP.left
  have hFc := va_free (wc := wc) hPl.2 hS hA isC hC
  refine va_calli (va_runV FX (hM H.size) ⟨cwB FX.2.2.2.2 ok hli hRm, FX.2.2.2.2 _ him, FX.2.2.2.2 _ hse⟩ ⟨Pw.blind, hqe ▸ va_recv hK.1 hPl.1 hq he, Pw.at' hK hPl isC hn.1 hC⟩ rfl hL hsz rfl (lv_room hW) hdg hf) hS (fun q _ h => hFc q h) hFc (fun r u t H1 locs1 ht hvm hw hB hz hk hS1 => ?_)
  obtain ⟨hP1, hD1⟩ := hB
  rw [ht] at hP1
  obtain ⟨hP2, hD2⟩ := va_joinQ hP.1 hP.2 isC isR hC hR hn.2.1 hn.2.2 hk hFc hP1 hD1
  exact kk r u H1 locs1 hw ⟨hP2, hD2⟩ hS1
end LAWB
/-- what a law's walk has all along -/
def LX (p : Program) (s : State) (m : MethodId) (c : Code) (b L : Nat) (xs : Nat → Int32) (args : Array Value) : Prop := p.tables.exec = Jvm.exec ∧ c.code = code ∧ c.maxLocals = 4 ∧ s.vm.findClass "TempleRaisedLaw" = some m.cls ∧ (∀ w ∈ tblG, w.before args s = true) ∧ va_X b L xs s s.heap ∧ b < s.heap.size
abbrev AL (s : State) : Nat → Prop := fun q : Nat => s.heap.size ≤ q
