abbrev oc (a ci : Nat) (fs : List Value) : Nat × va_E := (a, .inr (ci, fs))
abbrev ai (cA : ClassId) (a n : Nat) (f : Nat → Int32) : Nat × va_E := (a, .inl (cA, n, .inl f))
abbrev aq (cA : ClassId) (a n : Nat) (f : Nat → Option Nat) : Nat × va_E := (a, .inl (cA, n, .inr (.inr (.inr (.inr f)))))
abbrev tys3 (cI cB cS : ClassId) : List (ClassId × FieldType) := [(cI, .int), (cB, .boolean), (cS, .object "TempleRaised$Site")]
/-- what the tables say all along: the classes, the array classes, the nest's links -/
def KK (D : va_G) (cI cB cS : ClassId) (U : State) : Prop := va_K D vwCl (tys3 cI cB cS) U ∧ (∀ q ∈ nestL, va_Nw (.methodLinkNest q.1 q.2.1 q.2.2.1 q.2.2.2) U) ∧ va_AO "TempleRaised$Site" U
theorem KK.warm {D : va_G} {cI cB cS : ClassId} {s U : State} (hW : s.WarmedH U.vm) (h : KK D cI cB cS s) : KK D cI cB cS U := ⟨va_K.moved hW.alike h.1, fun q hq => va_Nw.warmM hW (h.2.1 q hq), va_AO.moved hW.alike h.2.2⟩
theorem KK.same {D : va_G} {cI cB cS : ClassId} {s U : State} (hv : s.vm = U.vm) (h : KK D cI cB cS s) : KK D cI cB cS U := ⟨va_K.moved (hv ▸ Vm.Alike.refl s.vm) h.1, fun q hq => va_Nw.same rfl hv (h.2.1 q hq), va_AO.moved (hv ▸ Vm.Alike.refl s.vm) h.2.2⟩
/-- the world: the cells ws, apart, in A -/
def PD (D : va_G) (A : Nat → Prop) (ws : va_W) (H : Heap) : Prop := va_P D vwCl ws H ∧ va_D A ws
def Pw (D : va_G) (cI cB cS : ClassId) (av : List Value) (ws : va_W) (sz : Nat) : Array Value → State → Prop := va_Pc av (fun U => U.heap.size = sz ∧ PD D (fun _ => True) ws U.heap ∧ KK D cI cB cS U)
abbrev Bw {S : Type} (D : va_G) (A : Nat → Prop) (w1 : S → va_W) : S → State → Prop := fun u t => PD D A (w1 u) t.heap
/-- the contract of a method that answers an int, or a boolean as one -/
def Ci (l : Launch) (y : MethodName) (cc : ByteArray) (maxL : Nat) (ret : Option FieldType) (rm : Room) (D : va_G) (cI cB cS : ClassId) (av : List Value) (ws : va_W) {S : Type} (post : Int32 → S → Prop) (w1 : S → va_W) : Prop :=
  ∀ sz : Nat, Met l y (Cond.code y cc maxL ret :: tblG) rm (Pw D cI cB cS av ws sz) (va_Qi post (Bw D (va_A ws sz) w1) (va_A ws sz)) rm.cells rm.slots (va_A ws sz)
def Cv (l : Launch) (y : MethodName) (cc : ByteArray) (maxL : Nat) (ret : Option FieldType) (rm : Room) (D : va_G) (cI cB cS : ClassId) (av : List Value) (ws : va_W) {S : Type} (post : S → Prop) (w1 : S → va_W) : Prop :=
  ∀ sz : Nat, Met l y (Cond.code y cc maxL ret :: tblG) rm (Pw D cI cB cS av ws sz) (va_Qv post (Bw D (va_A ws sz) w1) (va_A ws sz)) rm.cells rm.slots (va_A ws sz)
theorem gd {w : Cond} (h : w ∈ tblG) : w ∈ tblG ∧ ((w.onTables && w.keeps) = true ∨ ∃ ty, w = .arrayClass ty) := ⟨h, good_of_word (List.mem_filter.mp h).2⟩
theorem gdc {y : MethodName} {cc : ByteArray} {maxL n : Nat} {ret : Option FieldType} (h : okM y cc maxL ret n) : GoodIn tblG (Cond.code y cc maxL ret :: tblG) := fun _ hw => (List.mem_cons.mp hw).elim (fun e => e ▸ gd h.1) gd
theorem Pw.blind {D : va_G} {cI cB cS : ClassId} {av : List Value} {ws : va_W} {sz : Nat} : FrameBlind (Pw D cI cB cS av ws sz) := fun a U g mk q => by
  obtain ⟨q0, q1, q2, q3⟩ := q
  exact ⟨q0, q1, q2, KK.same (s := U) rfl q3⟩
theorem filterMap_of_map {α β : Type} {f : α → Option β} : ∀ {l : List α} {r : List β}, l.map f = r.map some → l.filterMap f = r
  | [], [], _ => rfl
  | [], _ :: _, h => by simp at h
  | _ :: _, [], h => by simp at h
  | a :: l, b :: r, h => by
    simp only [List.map_cons, List.cons.injEq] at h
    rw [List.filterMap_cons, h.1, filterMap_of_map h.2]
theorem PD.sub {D : va_G} {A : Nat → Prop} {ws ws' : va_W} {H : Heap} (h : PD D A ws H) (is : List Nat) (hn : va_nd is = true) (hs : is.map (fun i => ws[i]?) = ws'.map some) : PD D A ws' H := ⟨h.1.sub is (filterMap_of_map hs), h.2.sub is hn hs⟩
theorem PD.app {D : va_G} {A B : Nat → Prop} {ws : va_W} {H : Heap} (h : PD D A ws H) : PD D (fun _ => True) ws H := ⟨h.1, h.2.weaken (fun _ _ _ _ => trivial)⟩
section BASE
variable {p : Program} {l : Launch} {e : Env} {R : Room} {s : State} {m : MethodId} {args : Array Value} {below : List Frame} {meth : Method} {c : Code} {H : Heap} {locs : List Loc} {cells slots : Nat} {Q : State → Prop} {cc : ByteArray} {pc : Nat} {ls : Array Slot} {rest : List Value} {D : va_G} {cI cB cS : ClassId} {A : Nat → Prop} {ws : va_W} {a : Nat} {own : String}
theorem Ri {S : Type} {post : Int32 → S → Prop} {w1 : S → va_W} {v : Int32} {u : S} (hx : p.tables.exec = Jvm.exec) (hb : c.code = cc) (hr : meth.sig.returnType = some .int) (hk : meth.locks = false) (hS : va_S A s.heap H locs) (hdg : decode cc pc = .ok (.ireturn, 1)) (hP : PD D A (w1 u) H) (hv : post v u) :
    W p l e R s m args below meth c H locs cells slots (MQ below (va_Qi post (Bw D A w1) A) args s cells slots A) (F0 m pc ls [.int v]) :=
  W.iret hx hb hr (fun t ht _ => ⟨⟨v, u, rfl, hv, by show PD D A (w1 u) t.heap; rw [ht]; exact hP⟩, hS.F ht⟩) hS.2.2 hdg hk
theorem Rz {S : Type} {post : Int32 → S → Prop} {w1 : S → va_W} {v : Int32} {u : S} (hx : p.tables.exec = Jvm.exec) (hb : c.code = cc) (hr : meth.sig.returnType = some .boolean) (hk : meth.locks = false) (hS : va_S A s.heap H locs) (hdg : decode cc pc = .ok (.ireturn, 1)) (hP : PD D A (w1 u) H) (hn : v = 0 ∨ v = 1) (hv : post v u) :
    W p l e R s m args below meth c H locs cells slots (MQ below (va_Qi post (Bw D A w1) A) args s cells slots A) (F0 m pc ls [.int v]) :=
  W.zret hx hb hr (by rcases hn with rfl | rfl <;> decide) (fun t ht _ => ⟨⟨v, u, rfl, hv, by show PD D A (w1 u) t.heap; rw [ht]; exact hP⟩, hS.F ht⟩) hS.2.2 hdg hk
theorem Rv {S : Type} {post : S → Prop} {w1 : S → va_W} {u : S} (hx : p.tables.exec = Jvm.exec) (hb : c.code = cc) (hr : meth.sig.returnType = none) (hk : meth.locks = false) (hS : va_S A s.heap H locs) (hdg : decode cc pc = .ok (.return_, 1)) (hP : PD D A (w1 u) H) (hv : post u) :
    W p l e R s m args below meth c H locs cells slots (MQ below (va_Qv post (Bw D A w1) A) args s cells slots A) (F0 m pc ls []) :=
  W.vret hx hb hr (fun t ht _ => ⟨⟨u, rfl, hv, by show PD D A (w1 u) t.heap; rw [ht]; exact hP⟩, hS.F ht⟩) hS.2.2 hdg hk
end BASE
theorem Ci.of {l : Launch} {y : MethodName} {cc : ByteArray} {maxL n : Nat} {rm : Room} {D : va_G} {cI cB cS : ClassId} {av : List Value} {ws : va_W} {S : Type} {post : Int32 → S → Prop} {w1 : S → va_W} (ok : okM y cc maxL (some .int) n) (hn : (lg_sl av).length ≤ maxL)
    (body : ∀ (p : Program) (e : Env) (s : State) (m : MethodId) (args : Array Value) (below : List Frame) (meth : Method) (c : Code) (A : Nat → Prop) (Q : State → Prop), p.tables.exec = Jvm.exec → c.code = cc → c.maxLocals = maxL → s.vm.findClass y.cls = some m.cls → (∀ w ∈ tblG, w.before args s = true) → meth.name = y.name → KK D cI cB cS s → PD D A ws s.heap → (∀ q, s.heap.size ≤ q → A q) → va_S A s.heap s.heap [] →
      (∀ (H : Heap) (locs : List Loc) (ls : Array Slot) (pc : Nat) (v : Int32) (u : S), va_S A s.heap H locs → decode cc pc = .ok (.ireturn, 1) → PD D A (w1 u) H → post v u → W p l e rm s m args below meth c H locs rm.cells rm.slots Q (F0 m pc ls [.int v])) → ∀ ls : Array Slot, lv_has ls maxL (lv_args 0 av) → W p l e rm s m args below meth c s.heap [] 0 0 Q (F0 m 0 ls [])) : Ci l y cc maxL (some .int) rm D cI cB cS av ws post w1 := by
  intro sz
  refine Met.ofW (cc := cc) (maxL := maxL) (ret := (some .int)) ok.2.2.2 rfl ?_
  intro p e s m args below meth c s₁ B hml hv
  obtain ⟨rfl, hsz, hP, hK⟩ := hv
  subst hsz
  have hl := lv_entry av (n := maxL) hn
  rw [lg_entry_eq]
  exact body p e s m _ below meth c (va_A ws s.heap.size) _ B.exec B.bytes hml (findClass_of_methodNamed B.named) (fun w h => atoms_spec (ws := Cond.code y cc maxL (some .int) :: tblG) B.pre w (List.mem_cons_of_mem _ h)) (name_of_methodNamed B.named B.method).1 hK ⟨hP.1, hP.2.self (sz := s.heap.size)⟩ (fun q h => Or.inr h) va_S.rf (fun H locs ls pc v u h1 h2 h3 h4 => Ri B.exec B.bytes B.returns B.notSynchronized h1 h2 h3 h4) _ hl
theorem Cz.of {l : Launch} {y : MethodName} {cc : ByteArray} {maxL n : Nat} {rm : Room} {D : va_G} {cI cB cS : ClassId} {av : List Value} {ws : va_W} {S : Type} {post : Int32 → S → Prop} {w1 : S → va_W} (ok : okM y cc maxL (some .boolean) n) (hn : (lg_sl av).length ≤ maxL)
    (body : ∀ (p : Program) (e : Env) (s : State) (m : MethodId) (args : Array Value) (below : List Frame) (meth : Method) (c : Code) (A : Nat → Prop) (Q : State → Prop), p.tables.exec = Jvm.exec → c.code = cc → c.maxLocals = maxL → s.vm.findClass y.cls = some m.cls → (∀ w ∈ tblG, w.before args s = true) → meth.name = y.name → KK D cI cB cS s → PD D A ws s.heap → (∀ q, s.heap.size ≤ q → A q) → va_S A s.heap s.heap [] →
      (∀ (H : Heap) (locs : List Loc) (ls : Array Slot) (pc : Nat) (v : Int32) (u : S), va_S A s.heap H locs → decode cc pc = .ok (.ireturn, 1) → PD D A (w1 u) H → (v = 0 ∨ v = 1) → post v u → W p l e rm s m args below meth c H locs rm.cells rm.slots Q (F0 m pc ls [.int v])) → ∀ ls : Array Slot, lv_has ls maxL (lv_args 0 av) → W p l e rm s m args below meth c s.heap [] 0 0 Q (F0 m 0 ls [])) : Ci l y cc maxL (some .boolean) rm D cI cB cS av ws post w1 := by
  intro sz
  refine Met.ofW (cc := cc) (maxL := maxL) (ret := (some .boolean)) ok.2.2.2 rfl ?_
  intro p e s m args below meth c s₁ B hml hv
  obtain ⟨rfl, hsz, hP, hK⟩ := hv
  subst hsz
  have hl := lv_entry av (n := maxL) hn
  rw [lg_entry_eq]
  exact body p e s m _ below meth c (va_A ws s.heap.size) _ B.exec B.bytes hml (findClass_of_methodNamed B.named) (fun w h => atoms_spec (ws := Cond.code y cc maxL (some .boolean) :: tblG) B.pre w (List.mem_cons_of_mem _ h)) (name_of_methodNamed B.named B.method).1 hK ⟨hP.1, hP.2.self (sz := s.heap.size)⟩ (fun q h => Or.inr h) va_S.rf (fun H locs ls pc v u h1 h2 h3 h4 h5 => Rz B.exec B.bytes B.returns B.notSynchronized h1 h2 h3 h4 h5) _ hl
theorem Cv.of {l : Launch} {y : MethodName} {cc : ByteArray} {maxL n : Nat} {rm : Room} {D : va_G} {cI cB cS : ClassId} {av : List Value} {ws : va_W} {S : Type} {post : S → Prop} {w1 : S → va_W} (ok : okM y cc maxL none n) (hn : (lg_sl av).length ≤ maxL)
    (body : ∀ (p : Program) (e : Env) (s : State) (m : MethodId) (args : Array Value) (below : List Frame) (meth : Method) (c : Code) (A : Nat → Prop) (Q : State → Prop), p.tables.exec = Jvm.exec → c.code = cc → c.maxLocals = maxL → s.vm.findClass y.cls = some m.cls → (∀ w ∈ tblG, w.before args s = true) → meth.name = y.name → KK D cI cB cS s → PD D A ws s.heap → (∀ q, s.heap.size ≤ q → A q) → va_S A s.heap s.heap [] →
      (∀ (H : Heap) (locs : List Loc) (ls : Array Slot) (pc : Nat) (u : S), va_S A s.heap H locs → decode cc pc = .ok (.return_, 1) → PD D A (w1 u) H → post u → W p l e rm s m args below meth c H locs rm.cells rm.slots Q (F0 m pc ls [])) → ∀ ls : Array Slot, lv_has ls maxL (lv_args 0 av) → W p l e rm s m args below meth c s.heap [] 0 0 Q (F0 m 0 ls [])) : Cv l y cc maxL none rm D cI cB cS av ws post w1 := by
  intro sz
  refine Met.ofW (cc := cc) (maxL := maxL) (ret := none) ok.2.2.2 rfl ?_
  intro p e s m args below meth c s₁ B hml hv
  obtain ⟨rfl, hsz, hP, hK⟩ := hv
  subst hsz
  have hl := lv_entry av (n := maxL) hn
  rw [lg_entry_eq]
  exact body p e s m _ below meth c (va_A ws s.heap.size) _ B.exec B.bytes hml (findClass_of_methodNamed B.named) (fun w h => atoms_spec (ws := Cond.code y cc maxL none :: tblG) B.pre w (List.mem_cons_of_mem _ h)) (name_of_methodNamed B.named B.method).1 hK ⟨hP.1, hP.2.self (sz := s.heap.size)⟩ (fun q h => Or.inr h) va_S.rf (fun H locs ls pc u h1 h2 h3 h4 => Rv B.exec B.bytes B.returns B.notSynchronized h1 h2 h3 h4) _ hl
section BASE2
variable {p : Program} {l : Launch} {e : Env} {R : Room} {s : State} {m : MethodId} {args : Array Value} {below : List Frame} {meth : Method} {c : Code} {H : Heap} {locs : List Loc} {cells slots : Nat} {Q : State → Prop} {cc : ByteArray} {pc : Nat} {ls : Array Slot} {rest : List Value} {D : va_G} {cI cB cS : ClassId} {A : Nat → Prop} {ws : va_W} {a : Nat} {own : String}
theorem ild (hx : p.tables.exec = Jvm.exec) (hb : c.code = cc) (hK : KK D cI cB cS s) (hP : PD D A ws H) (q0 : Nat) {n : Nat} {f : Nat → Int32} (ha : ws[q0]? = some (a, .inl (cI, n, .inl f))) {i : Int32} (hdg : decode cc pc = .ok (.iaload, 1)) (hin : vp_in i n)
    (kk : W p l e R s m args below meth c H locs cells slots Q (F0 m (pc + 1) ls (.int (f i.toNatClampNeg) :: rest))) : W p l e R s m args below meth c H locs cells slots Q (F0 m pc ls (.int i :: .ref a :: rest)) := va_iald hx hb hK.1 hP.1 q0 0 ha rfl hin hdg kk
theorem zld (hx : p.tables.exec = Jvm.exec) (hb : c.code = cc) (hK : KK D cI cB cS s) (hP : PD D A ws H) (q0 : Nat) {n : Nat} {f : Nat → Int32} (ha : ws[q0]? = some (a, .inl (cB, n, .inl f))) {i : Int32} (hdg : decode cc pc = .ok (.baload, 1)) (hin : vp_in i n)
    (kk : W p l e R s m args below meth c H locs cells slots Q (F0 m (pc + 1) ls (.int (f i.toNatClampNeg) :: rest))) : W p l e R s m args below meth c H locs cells slots Q (F0 m pc ls (.int i :: .ref a :: rest)) := va_zald hx hb hK.1 hP.1 q0 1 ha rfl hin hdg kk
theorem ist (hx : p.tables.exec = Jvm.exec) (hb : c.code = cc) (hK : KK D cI cB cS s) (hP : PD D A ws H) (hS : va_S A s.heap H locs) (q0 : Nat) {n : Nat} {f : Nat → Int32} (ha : ws[q0]? = some (a, .inl (cI, n, .inl f))) {i x : Int32} (hdg : decode cc pc = .ok (.iastore, 1)) (hin : vp_in i n)
    (kk : ∀ (g : Nat → Int32), g = upd f i.toNatClampNeg x → ∀ (H1 : Heap) (locs1 : List Loc), PD D A (ws.set q0 (a, .inl (cI, n, .inl g))) H1 → va_S A s.heap H1 locs1 → W p l e R s m args below meth c H1 locs1 cells slots Q (F0 m (pc + 1) ls rest)) : W p l e R s m args below meth c H locs cells slots Q (F0 m pc ls (.int x :: .int i :: .ref a :: rest)) :=
  va_iast hx hb hK.1 hP.1 hP.2 hS q0 0 ha rfl hin hdg (fun H1 locs1 h1 h2 h3 => kk _ rfl H1 locs1 ⟨h1, h2⟩ h3)
theorem zst (hx : p.tables.exec = Jvm.exec) (hb : c.code = cc) (hK : KK D cI cB cS s) (hP : PD D A ws H) (hS : va_S A s.heap H locs) (q0 : Nat) {n : Nat} {f : Nat → Int32} (ha : ws[q0]? = some (a, .inl (cB, n, .inl f))) {i x : Int32} (hdg : decode cc pc = .ok (.bastore, 1)) (hin : vp_in i n) (hz : x = 0 ∨ x = 1)
    (kk : ∀ (g : Nat → Int32), g = upd f i.toNatClampNeg x → ∀ (H1 : Heap) (locs1 : List Loc), PD D A (ws.set q0 (a, .inl (cB, n, .inl g))) H1 → va_S A s.heap H1 locs1 → W p l e R s m args below meth c H1 locs1 cells slots Q (F0 m (pc + 1) ls rest)) : W p l e R s m args below meth c H locs cells slots Q (F0 m pc ls (.int x :: .int i :: .ref a :: rest)) :=
  va_zast hx hb hK.1 hP.1 hP.2 hS q0 1 ha rfl hin hdg (fun H1 locs1 h1 h2 h3 => kk _ (by rcases hz with rfl | rfl <;> rfl) H1 locs1 ⟨h1, h2⟩ h3)
theorem ald (hx : p.tables.exec = Jvm.exec) (hb : c.code = cc) (hK : KK D cI cB cS s) (hP : PD D A ws H) (q0 : Nat) {n : Nat} {f : Nat → Option Nat} (ha : ws[q0]? = some (a, .inl (cS, n, .inr (.inr (.inr (.inr f)))))) {i : Int32} {v : Nat} (hdg : decode cc pc = .ok (.aaload, 1)) (hin : vp_in i n) (hf : f i.toNatClampNeg = some v)
    (kk : W p l e R s m args below meth c H locs cells slots Q (F0 m (pc + 1) ls (.ref v :: rest))) : W p l e R s m args below meth c H locs cells slots Q (F0 m pc ls (.int i :: .ref a :: rest)) := va_aldq hx hb hK.1 hP.1 q0 2 ha rfl hin hdg (by rw [hf]; exact kk)
theorem aldN (hx : p.tables.exec = Jvm.exec) (hb : c.code = cc) (hK : KK D cI cB cS s) (hP : PD D A ws H) (q0 : Nat) {n : Nat} {f : Nat → Option Nat} (ha : ws[q0]? = some (a, .inl (cS, n, .inr (.inr (.inr (.inr f)))))) {i : Int32} (hdg : decode cc pc = .ok (.aaload, 1)) (hin : vp_in i n) (hf : f i.toNatClampNeg = none)
    (kk : W p l e R s m args below meth c H locs cells slots Q (F0 m (pc + 1) ls (.null :: rest))) : W p l e R s m args below meth c H locs cells slots Q (F0 m pc ls (.int i :: .ref a :: rest)) := va_aldq hx hb hK.1 hP.1 q0 2 ha rfl hin hdg (by rw [hf]; exact kk)
theorem ast (hx : p.tables.exec = Jvm.exec) (hb : c.code = cc) (hK : KK D cI cB cS s) (hP : PD D A ws H) (hS : va_S A s.heap H locs) (q0 qk : Nat) {n : Nat} {f : Nat → Option Nat} (ha : ws[q0]? = some (a, .inl (cS, n, .inr (.inr (.inr (.inr f)))))) {v : Nat} {vs : List Value} (hv : ws[qk]? = some (v, .inr (5, vs))) {i : Int32} (hdg : decode cc pc = .ok (.aastore, 1)) (hin : vp_in i n)
    (kk : ∀ (g : Nat → Option Nat), g = va_up f i.toNatClampNeg (some v) → ∀ (H1 : Heap) (locs1 : List Loc), PD D A (ws.set q0 (a, .inl (cS, n, .inr (.inr (.inr (.inr g)))))) H1 → va_S A s.heap H1 locs1 → W p l e R s m args below meth c H1 locs1 cells slots Q (F0 m (pc + 1) ls rest)) : W p l e R s m args below meth c H locs cells slots Q (F0 m pc ls (.ref v :: .int i :: .ref a :: rest)) :=
  va_astq hx hb hK.1 hP.1 hP.2 hS q0 2 qk 5 (r := (RX5, TX5, 8)) ha rfl hv rfl hin hdg (fun H1 locs1 h1 h2 h3 => kk _ rfl H1 locs1 ⟨h1, h2⟩ h3)
theorem iln (hx : p.tables.exec = Jvm.exec) (hb : c.code = cc) (hK : KK D cI cB cS s) (hP : PD D A ws H) (q0 : Nat) {n : Nat} {f : Nat → Int32} (ha : ws[q0]? = some (a, .inl (cI, n, .inl f))) (hdg : decode cc pc = .ok (.arraylength, 1))
    (kk : W p l e R s m args below meth c H locs cells slots Q (F0 m (pc + 1) ls (.int (nI n) :: rest))) : W p l e R s m args below meth c H locs cells slots Q (F0 m pc ls (.ref a :: rest)) := va_alen hx hb hK.1 hP.1 q0 0 ha (ty := .int) rfl rfl hdg kk
theorem cpi (hx : p.tables.exec = Jvm.exec) (hb : c.code = cc) (hml : c.maxLocals = ls.size) (ht : ∀ w ∈ tblG, w.before args s = true) (hown : s.vm.findClass own = some m.cls) (hK : KK D cI cB cS s) (hP : PD D A ws H) (hS : va_S A s.heap H locs) (q0 q1 : Nat) {index : Nat} (hli : Cond.methodLink own index arraycopyName ∈ tblG) {a0 n0 n1 : Nat} {f g : Nat → Int32} (ha0 : ws[q0]? = some (a0, .inl (cI, n0, .inl f))) (ha1 : ws[q1]? = some (a, .inl (cI, n1, .inl g)))
    {sp dp n : Int32} (hfr : 1 ≤ R.frames) (hlo : (rest.map fun v => v.category).sum + (nativeFrameWords "java/lang/System" "arraycopy" 5 + 11) ≤ R.locals) (hdg : decode cc pc = .ok (.invokestatic index, 3)) (hin : (¬ sp < 0 ∧ ¬ dp < 0 ∧ ¬ n < 0) ∧ sp.toNatClampNeg + n.toNatClampNeg ≤ n0 ∧ dp.toNatClampNeg + n.toNatClampNeg ≤ n1)
    (kk : ∀ (h : Nat → Int32), h = va_cpy f g sp.toNatClampNeg dp.toNatClampNeg n.toNatClampNeg → ∀ (H1 : Heap) (locs1 : List Loc), PD D A (ws.set q1 (a, .inl (cI, n1, .inl h))) H1 → va_S A s.heap H1 locs1 → W p l e R s m args below meth c H1 locs1 cells slots Q (F0 m (pc + 3) ls rest)) : W p l e R s m args below meth c H locs cells slots Q (F0 m pc ls (.int n :: .int dp :: .ref a :: .int sp :: .ref a0 :: rest)) :=
  va_copyi hx hb hml hown (ht _ hli) (ht _ ia_arraycopy) (ht _ is_arraycopy) (ht _ in_J10) hK.1 hP.1 hP.2 hS q0 q1 0 0 ha0 ha1 rfl rfl rfl hin.1.1 hin.1.2.1 hin.1.2.2 hin.2.1 hin.2.2 (fun _ _ => rfl) hfr hlo hdg (fun H1 locs1 h1 h2 h3 => kk _ rfl H1 locs1 ⟨h1, h2⟩ h3)
theorem mmin (hx : p.tables.exec = Jvm.exec) (hb : c.code = cc) (hml : c.maxLocals = ls.size) (ht : ∀ w ∈ tblG, w.before args s = true) (hown : s.vm.findClass own = some m.cls) {index : Nat} (hli : Cond.methodLink own index Lib.Math.min.name ∈ tblG) (hfr : 1 ≤ R.frames) (hlo : (rest.map fun v => v.category).sum + 13 ≤ R.locals) (hc : cells ≤ R.cells ∧ slots ≤ R.slots) {x y : Int32} (hdg : decode cc pc = .ok (.invokestatic index, 3))
    (kk : W p l e R s m args below meth c H locs cells slots Q (F0 m (pc + 3) ls (.int (if y < x then y else x) :: rest))) : W p l e R s m args below meth c H locs cells slots Q (F0 m pc ls (.int y :: .int x :: rest)) := va_mmin hx hb hml hown (ht _ hli) (ht _ is_min) (ht _ in_J9) (ht _ ic_min) hfr hlo hc.1 hc.2 hdg kk
theorem mmax (hx : p.tables.exec = Jvm.exec) (hb : c.code = cc) (hml : c.maxLocals = ls.size) (ht : ∀ w ∈ tblG, w.before args s = true) (hown : s.vm.findClass own = some m.cls) {index : Nat} (hli : Cond.methodLink own index Lib.Math.max.name ∈ tblG) (hfr : 1 ≤ R.frames) (hlo : (rest.map fun v => v.category).sum + 13 ≤ R.locals) (hc : cells ≤ R.cells ∧ slots ≤ R.slots) {x y : Int32} (hdg : decode cc pc = .ok (.invokestatic index, 3))
    (kk : W p l e R s m args below meth c H locs cells slots Q (F0 m (pc + 3) ls (.int (if x < y then y else x) :: rest))) : W p l e R s m args below meth c H locs cells slots Q (F0 m pc ls (.int y :: .int x :: rest)) := va_mmax hx hb hml hown (ht _ hli) (ht _ is_max) (ht _ in_J9) (ht _ ic_max) hfr hlo hc.1 hc.2 hdg kk
theorem mabs (hx : p.tables.exec = Jvm.exec) (hb : c.code = cc) (hml : c.maxLocals = ls.size) (ht : ∀ w ∈ tblG, w.before args s = true) (hown : s.vm.findClass own = some m.cls) {index : Nat} (hli : Cond.methodLink own index Lib.Math.abs.name ∈ tblG) (hfr : 1 ≤ R.frames) (hlo : (rest.map fun v => v.category).sum + 13 ≤ R.locals) (hc : cells ≤ R.cells ∧ slots ≤ R.slots) {x : Int32} (hdg : decode cc pc = .ok (.invokestatic index, 3))
    (kk : W p l e R s m args below meth c H locs cells slots Q (F0 m (pc + 3) ls (.int (if 0 ≤ x then x else 0 - x) :: rest))) : W p l e R s m args below meth c H locs cells slots Q (F0 m pc ls (.int x :: rest)) := va_mabs hx hb hml hown (ht _ hli) (ht _ is_abs) (ht _ in_J9) (ht _ ic_abs) hfr hlo hc.1 hc.2 hdg kk
/-- behind a call: the rest unchanged beside what the callee gives back -/
theorem Kji {S : Type} {post : Int32 → S → Prop} {w1 : S → va_W} {wc : va_W} {mc ms : Nat} {st0 : List Value} {av : Array Value} (hr : va_Run p l e R s m args below meth c H locs cells slots mc ms (F0 m pc ls st0) rest (va_Qi post (Bw D (va_A wc H.size) w1) (va_A wc H.size) av) (va_A wc H.size)) (hP : PD D A ws H) (hS : va_S A s.heap H locs) (hA : ∀ q, s.heap.size ≤ q → A q) (isC isR : List Nat) (hC : isC.map (fun i => ws[i]?) = wc.map some) (hR : isR.map (fun i => ws[i]?) = (isR.filterMap (fun i => ws[i]?)).map some) (hn : va_nd isR = true) (hdis : ∀ i ∈ isR, i ∉ isC)
    (kk : ∀ (r : Int32) (u : S) (H1 : Heap) (locs1 : List Loc), post r u → PD D A (isR.filterMap (fun i => ws[i]?) ++ w1 u) H1 → va_S A s.heap H1 locs1 → W p l e R s m args below meth c H1 locs1 (cells + mc) (slots + ms) Q (F0 m (pc + 3) ls (.int r :: rest))) : W p l e R s m args below meth c H locs cells slots Q (F0 m pc ls st0) := by
  have hFc := va_free (wc := wc) hP.2 hS hA isC hC
  refine va_calli hr hS (fun q _ h => hFc q h) hFc (fun r u t H1 locs1 ht hvm hw hB hz hk hS1 => ?_)
  obtain ⟨hP1, hD1⟩ := hB
  rw [ht] at hP1
  obtain ⟨hP2, hD2⟩ := va_join hP.1 hP.2 isC isR hC hR hn hdis hk hFc hP1 hD1
  exact kk r u H1 locs1 hw ⟨hP2, hD2⟩ hS1
theorem Kjv {S : Type} {post : S → Prop} {w1 : S → va_W} {wc : va_W} {mc ms : Nat} {st0 : List Value} {av : Array Value} (hr : va_Run p l e R s m args below meth c H locs cells slots mc ms (F0 m pc ls st0) rest (va_Qv post (Bw D (va_A wc H.size) w1) (va_A wc H.size) av) (va_A wc H.size)) (hP : PD D A ws H) (hS : va_S A s.heap H locs) (hA : ∀ q, s.heap.size ≤ q → A q) (isC isR : List Nat) (hC : isC.map (fun i => ws[i]?) = wc.map some) (hR : isR.map (fun i => ws[i]?) = (isR.filterMap (fun i => ws[i]?)).map some) (hn : va_nd isR = true) (hdis : ∀ i ∈ isR, i ∉ isC)
    (kk : ∀ (u : S) (H1 : Heap) (locs1 : List Loc), post u → PD D A (isR.filterMap (fun i => ws[i]?) ++ w1 u) H1 → va_S A s.heap H1 locs1 → W p l e R s m args below meth c H1 locs1 (cells + mc) (slots + ms) Q (F0 m (pc + 3) ls rest)) : W p l e R s m args below meth c H locs cells slots Q (F0 m pc ls st0) := by
  have hFc := va_free (wc := wc) hP.2 hS hA isC hC
  refine va_callv hr hS (fun q _ h => hFc q h) hFc (fun u t H1 locs1 ht hvm hw hB hz hk hS1 => ?_)
  obtain ⟨hP1, hD1⟩ := hB
  rw [ht] at hP1
  obtain ⟨hP2, hD2⟩ := va_join hP.1 hP.2 isC isR hC hR hn hdis hk hFc hP1 hD1
  exact kk u H1 locs1 hw ⟨hP2, hD2⟩ hS1
theorem Pw.at' {av : List Value} {wc : va_W} (hK : KK D cI cB cS s) (hP : PD D A ws H) (isC : List Nat) (hnC : va_nd isC = true) (hC : isC.map (fun i => ws[i]?) = wc.map some) : ∀ U : State, U.heap = H → s.WarmedH U.vm → Pw D cI cB cS av wc H.size av.toArray U := fun U hU hW => ⟨rfl, by rw [hU], by rw [hU]; exact (hP.sub isC hnC hC).app (B := A), hK.warm hW⟩
variable {S : Type} {posti : Int32 → S → Prop} {postv : S → Prop} {w1 : S → va_W} {wc : va_W} {y : MethodName} {cy : ByteArray} {maxL n index nL : Nat} {ret : Option FieldType} {rm : Room} {As : List Value} {b : Nat} {host : String}
theorem cwB (ht : ∀ w ∈ tblG, w.before args s = true) (ok : okM y cy maxL ret n) (hli : Cond.methodLink own index y ∈ tblG) (hR : rm.frames + 1 ≤ R.frames ∧ 8 + (maxL + 11) + rm.locals ≤ R.locals) : CallB R s args own index y cy maxL ret (Cond.code y cy maxL ret :: tblG) rm rm.cells rm.slots n :=
  callB_of n ht (gdc ok) rfl rfl rfl (ht _ ok.2.1) (ht _ hli) ok.2.2.1 hR
theorem KVi (FX : CallFix p m c cc nL s args tblG own) (hM : Ci l y cy maxL ret rm D cI cB cS (.ref b :: As) wc posti w1) (ok : okM y cy maxL ret n) (him : Cond.instanceMethod y ∈ tblG) (hse : Cond.selects y.cls y y ∈ tblG) (hli : Cond.methodLink own index y ∈ tblG) (hdg : decode cc pc = .ok (.invokevirtual index, 3)) (hK : KK D cI cB cS s) (hP : PD D A ws H) (hS : va_S A s.heap H locs) (hA : ∀ q, s.heap.size ≤ q → A q) (isC isR : List Nat) (q0 : Nat) {ci : Nat} {fs : List Value} (he : ws[q0]? = some (b, .inr (ci, fs)))
    (hC : isC.map (fun i => ws[i]?) = wc.map some) (hR : isR.map (fun i => ws[i]?) = (isR.filterMap (fun i => ws[i]?)).map some) (hn : va_nd isC = true ∧ va_nd isR = true ∧ ∀ i ∈ isR, i ∉ isC) (hci : (vwCl[ci]?).map (fun q => q.1) = some y.cls) (hL : As.length = n) (hsz : ls.size = nL) (hW : (rest.map fun v => v.category).sum ≤ 8) (hRm : rm.frames + 1 ≤ R.frames ∧ 8 + (maxL + 11) + rm.locals ≤ R.locals) (hf : cells + rm.cells ≤ R.cells ∧ slots + rm.slots ≤ R.slots)
    (kk : ∀ (r : Int32) (u : S) (H1 : Heap) (locs1 : List Loc), posti r u → PD D A (isR.filterMap (fun i => ws[i]?) ++ w1 u) H1 → va_S A s.heap H1 locs1 → W p l e R s m args below meth c H1 locs1 (cells + rm.cells) (slots + rm.slots) Q (F0 m (pc + 3) ls (.int r :: rest))) : W p l e R s m args below meth c H locs cells slots Q (F0 m pc ls (As.reverse ++ .ref b :: rest)) := by
  obtain ⟨q, hq, hqe⟩ : ∃ q, vwCl[ci]? = some q ∧ q.1 = y.cls := by
    cases h : vwCl[ci]? with
    | none => rw [h] at hci; cases hci
    | some q => rw [h] at hci; exact ⟨q, rfl, Option.some.inj hci⟩
  exact Kji (va_runV FX (hM H.size) ⟨cwB FX.2.2.2.2 ok hli hRm, FX.2.2.2.2 _ him, FX.2.2.2.2 _ hse⟩ ⟨Pw.blind, hqe ▸ va_recv hK.1 hP.1 hq he, Pw.at' hK hP isC hn.1 hC⟩ rfl hL hsz rfl (lv_room hW) hdg hf) hP hS hA isC isR hC hR hn.2.1 hn.2.2 kk
theorem KVv (FX : CallFix p m c cc nL s args tblG own) (hM : Cv l y cy maxL ret rm D cI cB cS (.ref b :: As) wc postv w1) (ok : okM y cy maxL ret n) (him : Cond.instanceMethod y ∈ tblG) (hse : Cond.selects y.cls y y ∈ tblG) (hli : Cond.methodLink own index y ∈ tblG) (hdg : decode cc pc = .ok (.invokevirtual index, 3)) (hK : KK D cI cB cS s) (hP : PD D A ws H) (hS : va_S A s.heap H locs) (hA : ∀ q, s.heap.size ≤ q → A q) (isC isR : List Nat) (q0 : Nat) {ci : Nat} {fs : List Value} (he : ws[q0]? = some (b, .inr (ci, fs)))
    (hC : isC.map (fun i => ws[i]?) = wc.map some) (hR : isR.map (fun i => ws[i]?) = (isR.filterMap (fun i => ws[i]?)).map some) (hn : va_nd isC = true ∧ va_nd isR = true ∧ ∀ i ∈ isR, i ∉ isC) (hci : (vwCl[ci]?).map (fun q => q.1) = some y.cls) (hL : As.length = n) (hsz : ls.size = nL) (hW : (rest.map fun v => v.category).sum ≤ 8) (hRm : rm.frames + 1 ≤ R.frames ∧ 8 + (maxL + 11) + rm.locals ≤ R.locals) (hf : cells + rm.cells ≤ R.cells ∧ slots + rm.slots ≤ R.slots)
    (kk : ∀ (u : S) (H1 : Heap) (locs1 : List Loc), postv u → PD D A (isR.filterMap (fun i => ws[i]?) ++ w1 u) H1 → va_S A s.heap H1 locs1 → W p l e R s m args below meth c H1 locs1 (cells + rm.cells) (slots + rm.slots) Q (F0 m (pc + 3) ls rest)) : W p l e R s m args below meth c H locs cells slots Q (F0 m pc ls (As.reverse ++ .ref b :: rest)) := by
  obtain ⟨q, hq, hqe⟩ : ∃ q, vwCl[ci]? = some q ∧ q.1 = y.cls := by
    cases h : vwCl[ci]? with
    | none => rw [h] at hci; cases hci
    | some q => rw [h] at hci; exact ⟨q, rfl, Option.some.inj hci⟩
  exact Kjv (va_runV FX (hM H.size) ⟨cwB FX.2.2.2.2 ok hli hRm, FX.2.2.2.2 _ him, FX.2.2.2.2 _ hse⟩ ⟨Pw.blind, hqe ▸ va_recv hK.1 hP.1 hq he, Pw.at' hK hP isC hn.1 hC⟩ rfl hL hsz rfl (lv_room hW) hdg hf) hP hS hA isC isR hC hR hn.2.1 hn.2.2 kk
theorem KSi (FX : CallFix p m c cc nL s args tblG own) (hM : Ci l y cy maxL ret rm D cI cB cS As wc posti w1) (ok : okM y cy maxL ret n) (his : Cond.static y ∈ tblG) (hli : Cond.methodLink own index y ∈ tblG) (hdg : decode cc pc = .ok (.invokestatic index, 3)) (hK : KK D cI cB cS s) (hP : PD D A ws H) (hS : va_S A s.heap H locs) (hA : ∀ q, s.heap.size ≤ q → A q) (isC isR : List Nat)
    (hC : isC.map (fun i => ws[i]?) = wc.map some) (hR : isR.map (fun i => ws[i]?) = (isR.filterMap (fun i => ws[i]?)).map some) (hn : va_nd isC = true ∧ va_nd isR = true ∧ ∀ i ∈ isR, i ∉ isC) (hL : As.length = n) (hsz : ls.size = nL) (hW : (rest.map fun v => v.category).sum ≤ 8) (hRm : rm.frames + 1 ≤ R.frames ∧ 8 + (maxL + 11) + rm.locals ≤ R.locals) (hf : cells + rm.cells ≤ R.cells ∧ slots + rm.slots ≤ R.slots)
    (kk : ∀ (r : Int32) (u : S) (H1 : Heap) (locs1 : List Loc), posti r u → PD D A (isR.filterMap (fun i => ws[i]?) ++ w1 u) H1 → va_S A s.heap H1 locs1 → W p l e R s m args below meth c H1 locs1 (cells + rm.cells) (slots + rm.slots) Q (F0 m (pc + 3) ls (.int r :: rest))) : W p l e R s m args below meth c H locs cells slots Q (F0 m pc ls (As.reverse ++ rest)) :=
  Kji (va_runS FX (hM H.size) ⟨cwB FX.2.2.2.2 ok hli hRm, FX.2.2.2.2 _ his⟩ ⟨Pw.blind, Pw.at' hK hP isC hn.1 hC⟩ rfl hL hsz rfl (lv_room hW) hdg hf) hP hS hA isC isR hC hR hn.2.1 hn.2.2 kk
theorem KSv (FX : CallFix p m c cc nL s args tblG own) (hM : Cv l y cy maxL ret rm D cI cB cS As wc postv w1) (ok : okM y cy maxL ret n) (his : Cond.static y ∈ tblG) (hli : Cond.methodLink own index y ∈ tblG) (hdg : decode cc pc = .ok (.invokestatic index, 3)) (hK : KK D cI cB cS s) (hP : PD D A ws H) (hS : va_S A s.heap H locs) (hA : ∀ q, s.heap.size ≤ q → A q) (isC isR : List Nat)
    (hC : isC.map (fun i => ws[i]?) = wc.map some) (hR : isR.map (fun i => ws[i]?) = (isR.filterMap (fun i => ws[i]?)).map some) (hn : va_nd isC = true ∧ va_nd isR = true ∧ ∀ i ∈ isR, i ∉ isC) (hL : As.length = n) (hsz : ls.size = nL) (hW : (rest.map fun v => v.category).sum ≤ 8) (hRm : rm.frames + 1 ≤ R.frames ∧ 8 + (maxL + 11) + rm.locals ≤ R.locals) (hf : cells + rm.cells ≤ R.cells ∧ slots + rm.slots ≤ R.slots)
    (kk : ∀ (u : S) (H1 : Heap) (locs1 : List Loc), postv u → PD D A (isR.filterMap (fun i => ws[i]?) ++ w1 u) H1 → va_S A s.heap H1 locs1 → W p l e R s m args below meth c H1 locs1 (cells + rm.cells) (slots + rm.slots) Q (F0 m (pc + 3) ls rest)) : W p l e R s m args below meth c H locs cells slots Q (F0 m pc ls (As.reverse ++ rest)) :=
  Kjv (va_runS FX (hM H.size) ⟨cwB FX.2.2.2.2 ok hli hRm, FX.2.2.2.2 _ his⟩ ⟨Pw.blind, Pw.at' hK hP isC hn.1 hC⟩ rfl hL hsz rfl (lv_room hW) hdg hf) hP hS hA isC isR hC hR hn.2.1 hn.2.2 kk
theorem cwN (ht : ∀ w ∈ tblG, w.before args s = true) (hK : KK D cI cB cS s) (ok : okM y cy maxL ret n) (hq : (own, index, y, host) ∈ nestL) (hR : rm.frames + 1 ≤ R.frames ∧ 8 + (maxL + 11) + rm.locals ≤ R.locals) : va_CN R s args own index y host cy maxL ret (Cond.code y cy maxL ret :: tblG) rm rm.cells rm.slots n :=
  va_cnB n ht (gdc ok) rfl rfl rfl (hK.2.1 _ hq) (ht _ ok.2.1) ok.2.2.1 hR
theorem KNi (FX : CallFix p m c cc nL s args tblG own) (hM : Ci l y cy maxL ret rm D cI cB cS As wc posti w1) (ok : okM y cy maxL ret n) (his : Cond.static y ∈ tblG) (hq : (own, index, y, host) ∈ nestL) (hdg : decode cc pc = .ok (.invokestatic index, 3)) (hK : KK D cI cB cS s) (hP : PD D A ws H) (hS : va_S A s.heap H locs) (hA : ∀ q, s.heap.size ≤ q → A q) (isC isR : List Nat)
    (hC : isC.map (fun i => ws[i]?) = wc.map some) (hR : isR.map (fun i => ws[i]?) = (isR.filterMap (fun i => ws[i]?)).map some) (hn : va_nd isC = true ∧ va_nd isR = true ∧ ∀ i ∈ isR, i ∉ isC) (hL : As.length = n) (hsz : ls.size = nL) (hW : (rest.map fun v => v.category).sum ≤ 8) (hRm : rm.frames + 1 ≤ R.frames ∧ 8 + (maxL + 11) + rm.locals ≤ R.locals) (hf : cells + rm.cells ≤ R.cells ∧ slots + rm.slots ≤ R.slots)
    (kk : ∀ (r : Int32) (u : S) (H1 : Heap) (locs1 : List Loc), posti r u → PD D A (isR.filterMap (fun i => ws[i]?) ++ w1 u) H1 → va_S A s.heap H1 locs1 → W p l e R s m args below meth c H1 locs1 (cells + rm.cells) (slots + rm.slots) Q (F0 m (pc + 3) ls (.int r :: rest))) : W p l e R s m args below meth c H locs cells slots Q (F0 m pc ls (As.reverse ++ rest)) :=
  Kji (va_runSN FX (hM H.size) ⟨cwN FX.2.2.2.2 hK ok hq hRm, FX.2.2.2.2 _ his, trivial⟩ ⟨Pw.blind, Pw.at' hK hP isC hn.1 hC⟩ rfl hL hsz rfl (lv_room hW) hdg hf) hP hS hA isC isR hC hR hn.2.1 hn.2.2 kk
theorem KNv (FX : CallFix p m c cc nL s args tblG own) (hM : Cv l y cy maxL ret rm D cI cB cS As wc postv w1) (ok : okM y cy maxL ret n) (his : Cond.static y ∈ tblG) (hq : (own, index, y, host) ∈ nestL) (hdg : decode cc pc = .ok (.invokestatic index, 3)) (hK : KK D cI cB cS s) (hP : PD D A ws H) (hS : va_S A s.heap H locs) (hA : ∀ q, s.heap.size ≤ q → A q) (isC isR : List Nat)
    (hC : isC.map (fun i => ws[i]?) = wc.map some) (hR : isR.map (fun i => ws[i]?) = (isR.filterMap (fun i => ws[i]?)).map some) (hn : va_nd isC = true ∧ va_nd isR = true ∧ ∀ i ∈ isR, i ∉ isC) (hL : As.length = n) (hsz : ls.size = nL) (hW : (rest.map fun v => v.category).sum ≤ 8) (hRm : rm.frames + 1 ≤ R.frames ∧ 8 + (maxL + 11) + rm.locals ≤ R.locals) (hf : cells + rm.cells ≤ R.cells ∧ slots + rm.slots ≤ R.slots)
    (kk : ∀ (u : S) (H1 : Heap) (locs1 : List Loc), postv u → PD D A (isR.filterMap (fun i => ws[i]?) ++ w1 u) H1 → va_S A s.heap H1 locs1 → W p l e R s m args below meth c H1 locs1 (cells + rm.cells) (slots + rm.slots) Q (F0 m (pc + 3) ls rest)) : W p l e R s m args below meth c H locs cells slots Q (F0 m pc ls (As.reverse ++ rest)) :=
  Kjv (va_runSN FX (hM H.size) ⟨cwN FX.2.2.2.2 hK ok hq hRm, FX.2.2.2.2 _ his, trivial⟩ ⟨Pw.blind, Pw.at' hK hP isC hn.1 hC⟩ rfl hL hsz rfl (lv_room hW) hdg hf) hP hS hA isC isR hC hR hn.2.1 hn.2.2 kk
theorem KIv (FX : CallFix p m c cc nL s args tblG own) (hM : Cv l y cy maxL none rm D cI cB cS (.ref b :: As) wc postv w1) (ok : okM y cy maxL none n) (him : Cond.instanceMethod y ∈ tblG) (hy : y.name = "<init>") (hli : Cond.methodLink own index y ∈ tblG) (hdg : decode cc pc = .ok (.invokespecial index, 3)) (hK : KK D cI cB cS s) (hP : PD D A ws H) (hS : va_S A s.heap H locs) (hA : ∀ q, s.heap.size ≤ q → A q) (isC isR : List Nat)
    (hC : isC.map (fun i => ws[i]?) = wc.map some) (hR : isR.map (fun i => ws[i]?) = (isR.filterMap (fun i => ws[i]?)).map some) (hn : va_nd isC = true ∧ va_nd isR = true ∧ ∀ i ∈ isR, i ∉ isC) (hL : As.length = n) (hsz : ls.size = nL) (hW : (rest.map fun v => v.category).sum ≤ 8) (hRm : rm.frames + 1 ≤ R.frames ∧ 8 + (maxL + 11) + rm.locals ≤ R.locals) (hf : cells + rm.cells ≤ R.cells ∧ slots + rm.slots ≤ R.slots)
    (kk : ∀ (u : S) (H1 : Heap) (locs1 : List Loc), postv u → PD D A (isR.filterMap (fun i => ws[i]?) ++ w1 u) H1 → va_S A s.heap H1 locs1 → W p l e R s m args below meth c H1 locs1 (cells + rm.cells) (slots + rm.slots) Q (F0 m (pc + 3) ls rest)) : W p l e R s m args below meth c H locs cells slots Q (F0 m pc ls (As.reverse ++ .ref b :: rest)) :=
  Kjv (va_runI FX (hM H.size) ⟨cwB FX.2.2.2.2 ok hli hRm, hy, FX.2.2.2.2 _ him⟩ ⟨Pw.blind, Pw.at' hK hP isC hn.1 hC⟩ rfl hL hsz rfl (lv_room hW) hdg hf) hP hS hA isC isR hC hR hn.2.1 hn.2.2 kk
theorem KMv (FX : CallFix p m c cc nL s args tblG own) (hM : Cv l y cy maxL none rm D cI cB cS (.ref b :: As) wc postv w1) (ok : okM y cy maxL none n) (him : Cond.instanceMethod y ∈ tblG) (hy : y.name = "<init>") (hq : (own, index, y, host) ∈ nestL) (hdg : decode cc pc = .ok (.invokespecial index, 3)) (hK : KK D cI cB cS s) (hP : PD D A ws H) (hS : va_S A s.heap H locs) (hA : ∀ q, s.heap.size ≤ q → A q) (isC isR : List Nat)
    (hC : isC.map (fun i => ws[i]?) = wc.map some) (hR : isR.map (fun i => ws[i]?) = (isR.filterMap (fun i => ws[i]?)).map some) (hn : va_nd isC = true ∧ va_nd isR = true ∧ ∀ i ∈ isR, i ∉ isC) (hL : As.length = n) (hsz : ls.size = nL) (hW : (rest.map fun v => v.category).sum ≤ 8) (hRm : rm.frames + 1 ≤ R.frames ∧ 8 + (maxL + 11) + rm.locals ≤ R.locals) (hf : cells + rm.cells ≤ R.cells ∧ slots + rm.slots ≤ R.slots)
    (kk : ∀ (u : S) (H1 : Heap) (locs1 : List Loc), postv u → PD D A (isR.filterMap (fun i => ws[i]?) ++ w1 u) H1 → va_S A s.heap H1 locs1 → W p l e R s m args below meth c H1 locs1 (cells + rm.cells) (slots + rm.slots) Q (F0 m (pc + 3) ls rest)) : W p l e R s m args below meth c H locs cells slots Q (F0 m pc ls (As.reverse ++ .ref b :: rest)) :=
  Kjv (va_runIN FX (hM H.size) ⟨cwN FX.2.2.2.2 hK ok hq hRm, hy, FX.2.2.2.2 _ him⟩ ⟨Pw.blind, Pw.at' hK hP isC hn.1 hC⟩ rfl hL hsz rfl (lv_room hW) hdg hf) hP hS hA isC isR hC hR hn.2.1 hn.2.2 kk
theorem KK.int {cA : ClassId} {tys : List (ClassId × FieldType)} (hK : KK D cI cB cS s) (h : va_K D vwCl (tys ++ [(cA, .int)]) s) : cA = cI := by
  have h1 := (h.2 tys.length (cA, .int) (by simp)).2
  have h2 := (hK.1.2 0 (cI, .int) rfl).2
  exact Option.some.inj (h1.symm.trans h2)
theorem KK.bool {cA : ClassId} {tys : List (ClassId × FieldType)} (hK : KK D cI cB cS s) (h : va_K D vwCl (tys ++ [(cA, .boolean)]) s) : cA = cB := by
  have h1 := (h.2 tys.length (cA, .boolean) (by simp)).2
  have h2 := (hK.1.2 1 (cB, .boolean) rfl).2
  exact Option.some.inj (h1.symm.trans h2)
theorem KK.site {cA : ClassId} {tys : List (ClassId × FieldType)} (hK : KK D cI cB cS s) (h : va_K D vwCl (tys ++ [(cA, .object "TempleRaised$Site")]) s) : cA = cS := by
  obtain ⟨_, _, _, _, _, h1⟩ := (h.2 tys.length (cA, .object "TempleRaised$Site") (by simp)).2
  obtain ⟨_, _, _, _, _, h2⟩ := (hK.1.2 2 (cS, .object "TempleRaised$Site") rfl).2
  exact Option.some.inj (h1.symm.trans h2)
theorem nai (hx : p.tables.exec = Jvm.exec) (hb : c.code = cc) (ht : ∀ w ∈ tblG, w.before args s = true) (hK : KK D cI cB cS s) (hP : PD D A ws H) (hS : va_S A s.heap H locs) (hA : ∀ q, s.heap.size ≤ q → A q) {n : Int32} (N : Nat) (hN : n.toNatClampNeg = N) (hn : ¬ n < 0) (hb4 : N * 4 ≤ 536870912) (hcells : cells + 1 ≤ R.cells) (hslots : slots + N ≤ R.slots) (hdg : decode cc pc = .ok (.newarray .int, 2))
    (kk : ∀ (q : Nat) (H1 : Heap), PD D A (ws ++ [ai cI q N (fun _ => 0)]) H1 → va_S A s.heap H1 locs → W p l e R s m args below meth c H1 locs (cells + 1) (slots + N) Q (F0 m (pc + 2) ls (.ref q :: rest))) : W p l e R s m args below meth c H locs cells slots Q (F0 m pc ls (.int n :: rest)) :=
  va_newa (atype := .int) (a0 := (N, .inl (fun _ => 0))) hx hb (ht _ ac_int) rfl hK.1 hP.1 hP.2 hS hA (fun _ => rfl) hn hN hb4 hcells hslots hdg (fun q cA H1 k1 h1 h2 h3 => by
    have e := hK.int k1
    subst e
    exact kk q H1 ⟨h1, h2⟩ h3)
theorem nab (hx : p.tables.exec = Jvm.exec) (hb : c.code = cc) (ht : ∀ w ∈ tblG, w.before args s = true) (hK : KK D cI cB cS s) (hP : PD D A ws H) (hS : va_S A s.heap H locs) (hA : ∀ q, s.heap.size ≤ q → A q) {n : Int32} (N : Nat) (hN : n.toNatClampNeg = N) (hn : ¬ n < 0) (hb4 : N * 1 ≤ 536870912) (hcells : cells + 1 ≤ R.cells) (hslots : slots + N ≤ R.slots) (hdg : decode cc pc = .ok (.newarray .boolean, 2))
    (kk : ∀ (q : Nat) (H1 : Heap), PD D A (ws ++ [ai cB q N (fun _ => 0)]) H1 → va_S A s.heap H1 locs → W p l e R s m args below meth c H1 locs (cells + 1) (slots + N) Q (F0 m (pc + 2) ls (.ref q :: rest))) : W p l e R s m args below meth c H locs cells slots Q (F0 m pc ls (.int n :: rest)) :=
  va_newa (atype := .boolean) (a0 := (N, .inl (fun _ => 0))) hx hb (ht _ ac_boolean) rfl hK.1 hP.1 hP.2 hS hA (fun _ => rfl) hn hN hb4 hcells hslots hdg (fun q cA H1 k1 h1 h2 h3 => by
    have e := hK.bool k1
    subst e
    exact kk q H1 ⟨h1, h2⟩ h3)
theorem nas (hx : p.tables.exec = Jvm.exec) (hb : c.code = cc) (ht : ∀ w ∈ tblG, w.before args s = true) (hown : s.vm.findClass own = some m.cls) (hK : KK D cI cB cS s) (hP : PD D A ws H) (hS : va_S A s.heap H locs) (hA : ∀ q, s.heap.size ≤ q → A q) {index : Nat} (hcl : Cond.classLink own index "TempleRaised$Site" ∈ tblG) {n : Int32} (N : Nat) (hN : n.toNatClampNeg = N) (hn : ¬ n < 0) (hb4 : N * 4 ≤ 536870912) (hcells : cells + 1 ≤ R.cells) (hslots : slots + N ≤ R.slots) (hdg : decode cc pc = .ok (.anewarray index, 3))
    (kk : ∀ (q : Nat) (H1 : Heap), PD D A (ws ++ [aq cS q N (fun _ => none)]) H1 → va_S A s.heap H1 locs → W p l e R s m args below meth c H1 locs (cells + 1) (slots + N) Q (F0 m (pc + 3) ls (.ref q :: rest))) : W p l e R s m args below meth c H locs cells slots Q (F0 m pc ls (.int n :: rest)) :=
  va_newq hx hb hown (ht _ hcl) hK.2.2 hK.1 hP.1 hP.2 hS hA hn hN hb4 hcells hslots hdg (fun q cA H1 k1 h1 h2 h3 => by
    have e := hK.site k1
    subst e
    exact kk q H1 ⟨h1, h2⟩ h3)
theorem oin (hx : p.tables.exec = Jvm.exec) (hb : c.code = cc) (ht : ∀ w ∈ tblG, w.before args s = true) (hown : s.vm.findClass own = some m.cls) (hml : c.maxLocals = ls.size) {idx : Nat} (hli : Cond.methodLink own idx objectInit ∈ tblG) (hfr : 1 ≤ R.frames) (hlo : 2 * (F0 m pc ls (.ref a :: rest)).monitorRoom + (rest.map fun v => v.category).sum + 12 ≤ R.locals) (hdg : decode cc pc = .ok (.invokespecial idx, 3))
    (kk : W p l e R s m args below meth c H locs cells slots Q (F0 m (pc + 3) ls rest)) : W p l e R s m args below meth c H locs cells slots Q (F0 m pc ls (.ref a :: rest)) :=
  W.objInit hx hb hown (ht _ hli) (ht _ im_objectInit) (ht _ ic_objectInit) rfl hml.symm rfl hdg hfr hlo (W.eq (g2 := F0 m (pc + 3) ls rest) rfl kk)
end BASE2
theorem sw_out (x : Int32) (n : Nat) (hn : n < 2 ^ 31) (h : ∀ k, k ≤ n → ¬ x = nI k) : x.toInt < 0 ∨ (n : Int) < x.toInt := by
  by_cases h0 : x < 0
  · exact Or.inl (by simpa [Int32.lt_iff_toInt_lt] using h0)
  · obtain ⟨j, hj, ej⟩ := nI_of h0
    by_cases hjn : j ≤ n
    · exact absurd ej (h j hjn)
    · right
      rw [ej, nI_toInt hj]
      omega
