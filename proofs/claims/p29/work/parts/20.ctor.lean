/-! constructors: worlds as lists -/
def CxL (p : Program) (s : State) (m : MethodId) (args : Array Value) (meth : Method) (c : Code) (cc : ByteArray) (nL : Nat) (ret : Option FieldType) (own : String) (D : va_G) (cy : ClassId × ClassId) (A : Nat → Prop) : Prop :=
  p.tables.exec = Jvm.exec ∧ c.code = cc ∧ c.maxLocals = nL ∧ s.vm.findClass own = some m.cls ∧ (∀ w ∈ lw_g, w.before args s = true) ∧ va_K D vwCl [(cy.1, .int), (cy.2, .long)] s ∧ (∀ q, s.heap.size ≤ q → A q) ∧ meth.sig.returnType = ret ∧ meth.locks = false ∧ NW s
def WL (p : Program) (l : Launch) (e : Env) (R : Room) (s : State) (m : MethodId) (args : Array Value) (below : List Frame) (meth : Method) (c : Code) (cells slots : Nat) (Q : State → Prop) (nL : Nat) (D : va_G) (A : Nat → Prop) (ws : va_W) (pc : Nat) (lv : List (Nat × Value)) (st : List Value) : Prop :=
  ∀ (H : Heap) (locs : List Loc) (ls : Array Slot), va_P D vwCl ws H → va_D A ws → va_S A s.heap H locs → lv_has ls nL lv → W p l e R s m args below meth c H locs cells slots Q (F0 m pc ls st)
section WLS
variable {p : Program} {l : Launch} {e : Env} {R : Room} {s : State} {m : MethodId} {args : Array Value} {below : List Frame} {meth : Method} {c : Code} {cells slots : Nat} {Q : State → Prop} {cc : ByteArray} {nL : Nat} {ret : Option FieldType} {own : String} {D : va_G} {cy : ClassId × ClassId} {A : Nat → Prop}
variable {ws : va_W} {pc : Nat} {lv : List (Nat × Value)} {st : List Value}
theorem wl_iconst (cx : CxL p s m args meth c cc nL ret own D cy A) {n : Int} (hdg : decode cc pc = .ok (.iconst n, 1)) (v : Int32) (hv : Int32.ofInt n = v) (k : WL p l e R s m args below meth c cells slots Q nL D A (ws) (pc + 1) lv (.int v :: st)) : WL p l e R s m args below meth c cells slots Q nL D A (ws) pc lv st := fun H locs ls hP hD hS hl => lv_iconst cx.1 cx.2.1 hdg hv (k H locs ls hP hD hS hl)
theorem wl_bipush (cx : CxL p s m args meth c cc nL ret own D cy A) {n : Int} (hdg : decode cc pc = .ok (.bipush n, 2)) (v : Int32) (hv : (Int8.ofInt n).toInt32 = v) (k : WL p l e R s m args below meth c cells slots Q nL D A (ws) (pc + 2) lv (.int v :: st)) : WL p l e R s m args below meth c cells slots Q nL D A (ws) pc lv st := fun H locs ls hP hD hS hl => lv_bipush cx.1 cx.2.1 hdg hv (k H locs ls hP hD hS hl)
theorem wl_sipush (cx : CxL p s m args meth c cc nL ret own D cy A) {n : Int} (hdg : decode cc pc = .ok (.sipush n, 3)) (v : Int32) (hv : (Int16.ofInt n).toInt32 = v) (k : WL p l e R s m args below meth c cells slots Q nL D A (ws) (pc + 3) lv (.int v :: st)) : WL p l e R s m args below meth c cells slots Q nL D A (ws) pc lv st := fun H locs ls hP hD hS hl => lv_sipush cx.1 cx.2.1 hdg hv (k H locs ls hP hD hS hl)
theorem wl_aload_n (cx : CxL p s m args meth c cc nL ret own D cy A) {k0 : Fin 4} {i x : Nat} (hdg : decode cc pc = .ok (.aload_n k0, 1)) (hi : (k0 : Nat) = i) (hv : lvg lv i = some (.ref x)) (k : WL p l e R s m args below meth c cells slots Q nL D A (ws) (pc + 1) lv (.ref x :: st)) : WL p l e R s m args below meth c cells slots Q nL D A (ws) pc lv st := fun H locs ls hP hD hS hl => lv_aload_n cx.1 cx.2.1 hdg hi (lvg_at hl hv) (k H locs ls hP hD hS hl)
theorem wl_dup (cx : CxL p s m args meth c cc nL ret own D cy A) {v : Value} (hdg : decode cc pc = .ok (.dup, 1)) (hv : v.category = 1) (k : WL p l e R s m args below meth c cells slots Q nL D A (ws) (pc + 1) lv (v :: v :: st)) : WL p l e R s m args below meth c cells slots Q nL D A (ws) pc lv (v :: st) := fun H locs ls hP hD hS hl => lv_dup cx.1 cx.2.1 hdg hv (k H locs ls hP hD hS hl)
theorem wl_oinit (cx : CxL p s m args meth c cc nL ret own D cy A) {idx a : Nat} (hdg : decode cc pc = .ok (.invokespecial idx, 3)) (h1 : Cond.methodLink own idx Lib.objectInit ∈ lw_g) (h2 : Cond.instanceMethod Lib.objectInit ∈ lw_g) (h3 : Cond.code Lib.objectInit ⟨#[0xb1]⟩ 1 none ∈ lw_g) (hR : 1 ≤ R.frames ∧ (st.map fun v => v.category).sum + 12 ≤ R.locals) (k : WL p l e R s m args below meth c cells slots Q nL D A (ws) (pc + 3) lv st) : WL p l e R s m args below meth c cells slots Q nL D A (ws) pc lv (.ref a :: st) := fun H locs ls hP hD hS hl => W.objInit cx.1 cx.2.1 cx.2.2.2.1 (cx.2.2.2.2.1 _ h1) (cx.2.2.2.2.1 _ h2) (cx.2.2.2.2.1 _ h3) rfl (by rw [cx.2.2.1]; exact hl.1) rfl hdg hR.1 (by show 2 * 0 + _ + 12 ≤ _; have := hR.2; omega) (W.eq (g2 := F0 m (pc + 3) ls st) rfl (k H locs ls hP hD hS hl))
theorem wl_newI (cx : CxL p s m args meth c cc nL ret own D cy A) {n : Int32} (hdg : decode cc pc = .ok (.newarray .int, 2)) (N c2 s2 : Nat) (harr : Cond.arrayClass .int ∈ lw_g) (hn : ¬ n < 0) (hN : n.toNatClampNeg = N) (hb : N * componentBytes .int ≤ 536870912) (hc : cells + 1 = c2 ∧ slots + N = s2) (hr : c2 ≤ R.cells ∧ s2 ≤ R.slots) (k : ∀ q : Nat, WL p l e R s m args below meth c c2 s2 Q nL D A (ws ++ [(q, .inl (cy.1, N, .inl (fun _ => 0)))]) (pc + 2) lv (.ref q :: st)) : WL p l e R s m args below meth c cells slots Q nL D A (ws) pc lv (.int n :: st) := fun H locs ls hP hD hS hl => by
  obtain ⟨rfl, rfl⟩ := hc
  refine va_newa (atype := .int) (a0 := (N, .inl (fun _ => 0))) cx.1 cx.2.1 (cx.2.2.2.2.1 _ harr) rfl cx.2.2.2.2.2.1 hP hD hS cx.2.2.2.2.2.2.1 (fun _ => rfl) hn hN hb hr.1 hr.2 hdg (fun q cA H1 hK1 hP1 hD1 hS1 => ?_)
  have e1 : s.vm.findClass ("[" ++ (FieldType.toString .int)) = some cA := (hK1.2 2 _ rfl).2
  have e2 : s.vm.findClass ("[" ++ (FieldType.toString .int)) = some cy.1 := (cx.2.2.2.2.2.1.2 0 _ rfl).2
  have e3 : cA = cy.1 := Option.some.inj (e1.symm.trans e2)
  subst e3
  exact k q H1 locs ls hP1 hD1 hS1 hl
theorem wl_newJ (cx : CxL p s m args meth c cc nL ret own D cy A) {n : Int32} (hdg : decode cc pc = .ok (.newarray .long, 2)) (N c2 s2 : Nat) (harr : Cond.arrayClass .long ∈ lw_g) (hn : ¬ n < 0) (hN : n.toNatClampNeg = N) (hb : N * componentBytes .long ≤ 536870912) (hc : cells + 1 = c2 ∧ slots + N = s2) (hr : c2 ≤ R.cells ∧ s2 ≤ R.slots) (k : ∀ q : Nat, WL p l e R s m args below meth c c2 s2 Q nL D A (ws ++ [(q, .inl (cy.2, N, .inr (.inl (fun _ => 0))))]) (pc + 2) lv (.ref q :: st)) : WL p l e R s m args below meth c cells slots Q nL D A (ws) pc lv (.int n :: st) := fun H locs ls hP hD hS hl => by
  obtain ⟨rfl, rfl⟩ := hc
  refine va_newa (atype := .long) (a0 := (N, .inr (.inl (fun _ => 0)))) cx.1 cx.2.1 (cx.2.2.2.2.1 _ harr) rfl cx.2.2.2.2.2.1 hP hD hS cx.2.2.2.2.2.2.1 (fun _ => rfl) hn hN hb hr.1 hr.2 hdg (fun q cA H1 hK1 hP1 hD1 hS1 => ?_)
  have e1 : s.vm.findClass ("[" ++ (FieldType.toString .long)) = some cA := (hK1.2 2 _ rfl).2
  have e2 : s.vm.findClass ("[" ++ (FieldType.toString .long)) = some cy.2 := (cx.2.2.2.2.2.1.2 1 _ rfl).2
  have e3 : cA = cy.2 := Option.some.inj (e1.symm.trans e2)
  subst e3
  exact k q H1 locs ls hP1 hD1 hS1 hl
theorem wl_new (cx : CxL p s m args meth c cc nL ret own D cy A) {C : String} {T : u_T} {N ci index : Nat} (hdg : decode cc pc = .ok (.new index, 3)) (c2 s2 : Nat) (fs : List Value) (ty : Nat → FieldType) (hty : ∀ k, k < N → parseFieldDescriptor (T k).2.2.1 = some (ty k)) (hin : ∀ w ∈ u_ws C T N, w ∈ lw_g) (hcl : Cond.classLink own index C ∈ lw_g) (hinst : Cond.instantiable C N ∈ lw_g) (hini : Cond.initialized C ∈ lw_g) (hcc : vwCl[ci]? = some (C, T, N)) (hfs : ∀ j, j < N → defaultValue (ty j) = vp_V fs j) (hc : cells + 1 = c2 ∧ slots + N = s2) (hr : c2 ≤ R.cells ∧ s2 ≤ R.slots) (k : ∀ q : Nat, WL p l e R s m args below meth c c2 s2 Q nL D A (ws ++ [(q, .inr (ci, fs))]) (pc + 3) lv (.ref q :: st)) : WL p l e R s m args below meth c cells slots Q nL D A (ws) pc lv st := fun H locs ls hP hD hS hl => by
  obtain ⟨rfl, rfl⟩ := hc
  exact va_new cx.1 cx.2.1 cx.2.2.2.2.1 hin ty hty cx.2.2.2.1 (cx.2.2.2.2.1 _ hcl) (cx.2.2.2.2.1 _ hinst) (cx.2.2.2.2.1 _ hini) cx.2.2.2.2.2.1 hP hD hS cx.2.2.2.2.2.2.1 hcc hfs hr.1 hr.2 hdg (fun q H1 hP1 hD1 hS1 => k q H1 locs ls hP1 hD1 hS1 hl)
theorem at_len {α : Type} (pre : List α) (x : α) (tl : List α) : (pre ++ x :: tl)[pre.length]? = some x := by rw [List.getElem?_append_right (Nat.le_refl _), Nat.sub_self]; rfl
theorem set_len {α : Type} (pre : List α) (x y : α) (tl : List α) : (pre ++ x :: tl).set pre.length y = pre ++ y :: tl := by
  rw [List.set_append_right _ _ (Nat.le_refl _), Nat.sub_self]; rfl
theorem wl_putF (cx : CxL p s m args meth c cc nL ret own D cy A) {pre tl : va_W} {h0 ci index k N : Nat} {C : String} {T : u_T} {fs : List Value} {v : Value} {ty : FieldType} (hdg : decode cc pc = .ok (.putfield index, 3)) (fs2 : List Value) (ty0 : Nat → FieldType) (hc : vwCl[ci]? = some (C, T, N)) (hin : ∀ w ∈ u_ws C T N, w ∈ lw_g) (hty : ∀ k, k < N → parseFieldDescriptor (T k).2.2.1 = some (ty0 k)) (hnm : ∀ a, a < N → ∀ b, b < N → a ≠ b → (T a).2.1 ≠ (T b).2.1) (hkN : k < N) (hl : Cond.fieldLink own index (T k).1 (T k).2.1 (T k).2.2.1 ∈ lw_g) (hfin : (T k).2.2.2 = true) (hnam : meth.name = "<init>") (hdecl : (T k).1 = own) (hd : parseFieldDescriptor (T k).2.2.1 = some ty) (hn : narrow ty v = v) (hfit : fits ty v = true) (hlen : k < fs.length) (hf2 : fs.set k v = fs2) (kk : WL p l e R s m args below meth c cells slots Q nL D A (pre ++ (h0, .inr (ci, fs2)) :: tl) (pc + 3) lv st) : WL p l e R s m args below meth c cells slots Q nL D A (pre ++ (h0, .inr (ci, fs)) :: tl) pc lv (v :: .ref h0 :: st) := fun H locs ls hP hD hS hl2 => by
  subst hf2
  refine va_putF cx.1 cx.2.1 cx.2.2.2.2.1 hin ty0 hty hnm cx.2.2.2.1 cx.2.2.2.2.2.1 hP hD hS pre.length (at_len _ _ _) hc k hkN (cx.2.2.2.2.1 _ hl) (fun _ h => h) hfin hnam hdecl hd hn hfit hlen hdg (fun H1 locs1 hP1 hD1 hS1 => ?_)
  rw [set_len] at hP1 hD1
  exact kk H1 locs1 ls hP1 hD1 hS1 hl2
theorem wl_put (cx : CxL p s m args meth c cc nL ret own D cy A) {pre tl : va_W} {h0 ci index k N : Nat} {C : String} {T : u_T} {fs : List Value} {v : Value} {ty : FieldType} (hdg : decode cc pc = .ok (.putfield index, 3)) (fs2 : List Value) (ty0 : Nat → FieldType) (hc : vwCl[ci]? = some (C, T, N)) (hin : ∀ w ∈ u_ws C T N, w ∈ lw_g) (hty : ∀ k, k < N → parseFieldDescriptor (T k).2.2.1 = some (ty0 k)) (hnm : ∀ a, a < N → ∀ b, b < N → a ≠ b → (T a).2.1 ≠ (T b).2.1) (hkN : k < N) (hl : Cond.fieldLink own index (T k).1 (T k).2.1 (T k).2.2.1 ∈ lw_g) (hfin : (T k).2.2.2 = false) (hd : parseFieldDescriptor (T k).2.2.1 = some ty) (hn : narrow ty v = v) (hfit : fits ty v = true) (hlen : k < fs.length) (hf2 : fs.set k v = fs2) (kk : WL p l e R s m args below meth c cells slots Q nL D A (pre ++ (h0, .inr (ci, fs2)) :: tl) (pc + 3) lv st) : WL p l e R s m args below meth c cells slots Q nL D A (pre ++ (h0, .inr (ci, fs)) :: tl) pc lv (v :: .ref h0 :: st) := fun H locs ls hP hD hS hl2 => by
  subst hf2
  refine va_put cx.1 cx.2.1 cx.2.2.2.2.1 hin ty0 hty hnm cx.2.2.2.1 cx.2.2.2.2.2.1 hP hD hS pre.length (at_len _ _ _) hc k hkN (cx.2.2.2.2.1 _ hl) (fun _ h => h) hfin hd hn hfit hlen hdg (fun H1 locs1 hP1 hD1 hS1 => ?_)
  rw [set_len] at hP1 hD1
  exact kk H1 locs1 ls hP1 hD1 hS1 hl2
end WLS
def PcC (D : va_G) (cy : ClassId × ClassId) (ws : va_W) (av : List Value) (sz : Nat) : Array Value → State → Prop := va_Pc av (fun U => U.heap.size = sz ∧ va_P D vwCl ws U.heap ∧ va_K D vwCl [(cy.1, .int), (cy.2, .long)] U ∧ NW U ∧ va_D (fun _ => True) ws)
theorem PcC_blind {D : va_G} {cy : ClassId × ClassId} {ws : va_W} {av : List Value} {sz : Nat} : FrameBlind (PcC D cy ws av sz) := fun a U gf mk q => ⟨q.1, q.2.1, q.2.2.1, va_K.moved (u := U) (U := U.calling gf mk a) (Vm.Alike.refl U.vm) q.2.2.2.1, NW.same (s := U) (U := U.calling gf mk a) rfl q.2.2.2.2.1, q.2.2.2.2.2⟩
def BC (D : va_G) (A : Nat → Prop) (blk : (Nat → Nat) → va_W) : (Nat → Nat) → State → Prop := fun q t => va_P D vwCl (blk q) t.heap ∧ va_D A (blk q)
def QcC (D : va_G) (ws : va_W) (sz h0 : Nat) (blk : (Nat → Nat) → va_W) : Array Value → State → Outcome → State → Prop := va_Qv (fun q : Nat → Nat => q 0 = h0) (BC D (va_A ws sz) blk) (va_A ws sz)
def MC (l : Launch) (y : MethodName) (code : ByteArray) (nL : Nat) (rm : Room) (D : va_G) (cy : ClassId × ClassId) (ws : va_W) (h0 sz : Nat) (blk : (Nat → Nat) → va_W) (mc ms : Nat) : Prop := Met l y (wsM y code nL none) rm (PcC D cy ws [.ref h0] sz) (QcC D ws sz h0 blk) mc ms (va_A ws sz)
theorem startC {l : Launch} {y : MethodName} {code : ByteArray} {nL : Nat} {rm : Room} {D : va_G} {cy : ClassId × ClassId} {ws : va_W} {h0 sz : Nat} {blk : (Nat → Nat) → va_W} {mc ms : Nat} (hy : plainName y.cls = true) (hav : 1 ≤ nL) (hnm : y.name = "<init>")
    (body : ∀ (p : Program) (e : Env) (s : State) (m : MethodId) (args : Array Value) (below : List Frame) (meth : Method) (c : Code), s.heap.size = sz → meth.name = "<init>" → CxL p s m args meth c code nL none y.cls D cy (va_A ws sz) → WL p l e rm s m args below meth c 0 0 (MQ below (QcC D ws sz h0 blk) args s mc ms (va_A ws sz)) nL D (va_A ws sz) ws 0 [(0, .ref h0)] []) : MC l y code nL rm D cy ws h0 sz blk mc ms := by
  refine Met.ofW (cc := code) (maxL := nL) (ret := none) hy rfl ?_
  intro p e s m args below meth c s₁ B hml hv
  obtain ⟨rfl, hsz, hP, hK, hN, hD⟩ := hv
  have hts := atoms_spec (ws := wsM y code nL none) B.pre
  have cx : CxL p s m [Value.ref h0].toArray meth c code nL none y.cls D cy (va_A ws sz) := ⟨B.exec, B.bytes, hml, findClass_of_methodNamed B.named, fun w h => hts w (List.mem_cons_of_mem _ h), hK, fun q h => Or.inr (by omega), B.returns, B.notSynchronized, hN⟩
  have hin : meth.name = "<init>" := (name_of_methodNamed B.named B.method).1.trans hnm
  have hl := lv_entry [Value.ref h0] (n := nL) hav
  rw [lg_entry_eq]
  generalize (lg_sl [Value.ref h0] ++ List.replicate (nL - (lg_sl [Value.ref h0]).length) Slot.unset).toArray = ls at hl ⊢
  exact body p e s m _ below meth c hsz hin cx s.heap [] ls hP (hsz ▸ hD.self) va_S.rf hl
/-- the callee's cells at the end of the world -/
theorem join_app {A0 : Nat → Prop} {D : va_G} {wr wc w1 : va_W} {H H1 : Heap} (hP : va_P D vwCl (wr ++ wc) H) (hD : va_D A0 (wr ++ wc))
    (hk : ∀ q : Nat, q < H.size → ¬ va_A wc H.size q → H1[q]? = H[q]?) (hF : ∀ q, va_A wc H.size q → A0 q) (hP1 : va_P D vwCl w1 H1) (hD1 : va_D (va_A wc H.size) w1) : va_P D vwCl (wr ++ w1) H1 ∧ va_D A0 (wr ++ w1) := by
  have apart : ∀ (k : Nat) (q : Nat × va_E), wr[k]? = some q → q.1 < H.size ∧ ¬ va_A wc H.size q.1 := by
    intro k q hq
    have hkl : k < wr.length := (List.getElem?_eq_some_iff.mp hq).1
    have h2 : (wr ++ wc)[k]? = some q := by rw [List.getElem?_append_left hkl]; exact hq
    have hl := (hP k q h2).lt
    refine ⟨hl, fun h => ?_⟩
    rcases h with ⟨k2, e, h⟩ | h
    · have h4 : (wr ++ wc)[wr.length + k2]? = some (q.1, e) := by rw [List.getElem?_append_right (by omega), show wr.length + k2 - wr.length = k2 by omega]; exact h
      have hij := hD.1 k (wr.length + k2) q (q.1, e) h2 h4 rfl
      omega
    · omega
  have hDr : va_D A0 wr := ⟨fun i j p q hi hj h => hD.1 i j p q (by rw [List.getElem?_append_left (List.getElem?_eq_some_iff.mp hi).1]; exact hi) (by rw [List.getElem?_append_left (List.getElem?_eq_some_iff.mp hj).1]; exact hj) h, fun k q hq => hD.2 k q (by rw [List.getElem?_append_left (List.getElem?_eq_some_iff.mp hq).1]; exact hq)⟩
  refine ⟨va_P.app (fun k q hq => ?_) hP1, va_D.app hDr (hD1.weaken (fun k q _ h => hF q.1 h)) (fun i j x y hx hy hxy => ?_)⟩
  · obtain ⟨g1, g2⟩ := apart k q hq
    have hkl : k < wr.length := (List.getElem?_eq_some_iff.mp hq).1
    exact (hP k q (by rw [List.getElem?_append_left hkl]; exact hq)).kept (hk q.1 g1 g2)
  · exact (apart i x hx).2 (by rw [hxy]; exact hD1.2 j y hy)
def IL (own : String) (idx : Nat) (y : MethodName) (code : ByteArray) (nLy : Nat) : Prop := (Cond.methodLink own idx y ∈ lw_g ∧ Cond.instanceMethod y ∈ lw_g ∧ Cond.initialized y.cls ∈ lw_g ∧ Cond.code y code nLy none ∈ lw_g) ∧ y.cls ≠ "java/lang/invoke/MethodHandle" ∧ y.cls ≠ "java/lang/invoke/VarHandle" ∧ (parseMethodDescriptor y.desc).map (fun d => d.parameters.length) = some 0
def INL (own host : String) (idx : Nat) (y : MethodName) (code : ByteArray) (nLy : Nat) : Prop := (Cond.methodLinkNest own idx y host ∈ lw_tbl ∧ Cond.instanceMethod y ∈ lw_g ∧ Cond.initialized y.cls ∈ lw_g ∧ Cond.code y code nLy none ∈ lw_g) ∧ y.cls ≠ "java/lang/invoke/MethodHandle" ∧ y.cls ≠ "java/lang/invoke/VarHandle" ∧ (parseMethodDescriptor y.desc).map (fun d => d.parameters.length) = some 0
section WLC
variable {p : Program} {l : Launch} {e : Env} {R : Room} {s : State} {m : MethodId} {args : Array Value} {below : List Frame} {meth : Method} {c : Code} {cells slots : Nat} {Q : State → Prop} {cc : ByteArray} {nL : Nat} {ret : Option FieldType} {own : String} {D : va_G} {cy : ClassId × ClassId} {A : Nat → Prop}
variable {pc : Nat} {lv : List (Nat × Value)} {st : List Value}
theorem wl_callI (cx : CxL p s m args meth c cc nL ret own D cy A) {y : MethodName} {code : ByteArray} {nLy idx h0 mc ms : Nat} {rm : Room} {wr wc : va_W} {blk : (Nat → Nat) → va_W} (hdg : decode cc pc = .ok (.invokespecial idx, 3)) (c2 s2 : Nat) (hM : ∀ sz, MC l y code nLy rm D cy wc h0 sz blk mc ms) (vl : IL own idx y code nLy) (hnm : y.name = "<init>") (hR : rm.frames + 1 ≤ R.frames ∧ 8 + (nLy + 11) + rm.locals ≤ R.locals) (h00 : rm.cells = mc ∧ rm.slots = ms) (hc : cells + mc = c2 ∧ slots + ms = s2) (hcs : c2 ≤ R.cells ∧ s2 ≤ R.slots) (hst : (st.map fun v => v.category).sum ≤ 8) (k : ∀ q : Nat → Nat, q 0 = h0 → WL p l e R s m args below meth c c2 s2 Q nL D A (wr ++ blk q) (pc + 3) lv st) : WL p l e R s m args below meth c cells slots Q nL D A (wr ++ wc) pc lv (.ref h0 :: st) := fun H locs ls hP hD hS hl => by
  obtain ⟨⟨v1, v2, v3, v4⟩, v6, v7, v8⟩ := vl
  obtain ⟨rfl, rfl⟩ := hc
  have ht := cx.2.2.2.2.1
  have hPc : va_P D vwCl wc H := fun i q hq => hP (wr.length + i) q (by rw [List.getElem?_append_right (by omega), show wr.length + i - wr.length = i by omega]; exact hq)
  have hDc : va_D (fun _ => True) wc := ⟨fun i j p q hi hj h => by
    have := hD.1 (wr.length + i) (wr.length + j) p q (by rw [List.getElem?_append_right (by omega), show wr.length + i - wr.length = i by omega]; exact hi) (by rw [List.getElem?_append_right (by omega), show wr.length + j - wr.length = j by omega]; exact hj) h
    omega, fun _ _ _ => trivial⟩
  have hF : ∀ q, va_A wc H.size q → A q := fun q h => by
    rcases h with ⟨i, e2, h⟩ | h
    · exact hD.2 (wr.length + i) (q, e2) (by rw [List.getElem?_append_right (by omega), show wr.length + i - wr.length = i by omega]; exact h)
    · exact cx.2.2.2.2.2.2.1 q (Nat.le_trans hS.1 h)
  refine va_callv (va_runI ⟨cx.1, cx.2.1, cx.2.2.1, cx.2.2.2.1, ht⟩ (hM H.size) (cwI 0 ht (goodIn_ws v4) rfl h00.1 h00.2 (ht _ v3) (ht _ v1) (ht _ v2) hnm ⟨v6, v7, v8⟩ hR) ⟨PcC_blind, fun U hU hW => ⟨rfl, by rw [hU], by rw [hU]; exact hPc, va_K.moved hW.alike cx.2.2.2.2.2.1, NW.warm hW cx.2.2.2.2.2.2.2.2.2, hDc⟩⟩ rfl (As := []) (rest := st) rfl hl.1 rfl (lv_room hst) hdg hcs) hS (fun q _ h => hF q h) hF (fun u t H1 locs1 ht2 hvm hp hb hz hk hS1 => ?_)
  have hb1 : va_P D vwCl (blk u) H1 := by rw [← ht2]; exact hb.1
  obtain ⟨j1, j2⟩ := join_app hP hD hk hF hb1 hb.2
  exact k u hp H1 locs1 ls j1 j2 hS1 hl
theorem wl_callN (cx : CxL p s m args meth c cc nL ret own D cy A) {y : MethodName} {code : ByteArray} {nLy idx h0 mc ms : Nat} {rm : Room} {wr wc : va_W} {blk : (Nat → Nat) → va_W} {host : String} (hdg : decode cc pc = .ok (.invokespecial idx, 3)) (c2 s2 : Nat) (hM : ∀ sz, MC l y code nLy rm D cy wc h0 sz blk mc ms) (vl : INL own host idx y code nLy) (hnm : y.name = "<init>") (hR : rm.frames + 1 ≤ R.frames ∧ 8 + (nLy + 11) + rm.locals ≤ R.locals) (h00 : rm.cells = mc ∧ rm.slots = ms) (hc : cells + mc = c2 ∧ slots + ms = s2) (hcs : c2 ≤ R.cells ∧ s2 ≤ R.slots) (hst : (st.map fun v => v.category).sum ≤ 8) (k : ∀ q : Nat → Nat, q 0 = h0 → WL p l e R s m args below meth c c2 s2 Q nL D A (wr ++ blk q) (pc + 3) lv st) : WL p l e R s m args below meth c cells slots Q nL D A (wr ++ wc) pc lv (.ref h0 :: st) := fun H locs ls hP hD hS hl => by
  obtain ⟨⟨v1, v2, v3, v4⟩, v6, v7, v8⟩ := vl
  obtain ⟨rfl, rfl⟩ := hc
  have ht := cx.2.2.2.2.1
  have hPc : va_P D vwCl wc H := fun i q hq => hP (wr.length + i) q (by rw [List.getElem?_append_right (by omega), show wr.length + i - wr.length = i by omega]; exact hq)
  have hDc : va_D (fun _ => True) wc := ⟨fun i j p q hi hj h => by
    have := hD.1 (wr.length + i) (wr.length + j) p q (by rw [List.getElem?_append_right (by omega), show wr.length + i - wr.length = i by omega]; exact hi) (by rw [List.getElem?_append_right (by omega), show wr.length + j - wr.length = j by omega]; exact hj) h
    omega, fun _ _ _ => trivial⟩
  have hF : ∀ q, va_A wc H.size q → A q := fun q h => by
    rcases h with ⟨i, e2, h⟩ | h
    · exact hD.2 (wr.length + i) (q, e2) (by rw [List.getElem?_append_right (by omega), show wr.length + i - wr.length = i by omega]; exact h)
    · exact cx.2.2.2.2.2.2.1 q (Nat.le_trans hS.1 h)
  refine va_callv (va_runIN ⟨cx.1, cx.2.1, cx.2.2.1, cx.2.2.2.1, ht⟩ (hM H.size) ⟨va_cnB 0 ht (goodIn_ws v4) rfl h00.1 h00.2 (cx.2.2.2.2.2.2.2.2.2 _ v1 rfl) (ht _ v3) ⟨v6, v7, v8⟩ hR, hnm, ht _ v2⟩ ⟨PcC_blind, fun U hU hW => ⟨rfl, by rw [hU], by rw [hU]; exact hPc, va_K.moved hW.alike cx.2.2.2.2.2.1, NW.warm hW cx.2.2.2.2.2.2.2.2.2, hDc⟩⟩ rfl (As := []) (rest := st) rfl hl.1 rfl (lv_room hst) hdg hcs) hS (fun q _ h => hF q h) hF (fun u t H1 locs1 ht2 hvm hp hb hz hk hS1 => ?_)
  have hb1 : va_P D vwCl (blk u) H1 := by rw [← ht2]; exact hb.1
  obtain ⟨j1, j2⟩ := join_app hP hD hk hF hb1 hb.2
  exact k u hp H1 locs1 ls j1 j2 hS1 hl
end WLC
theorem wl_vret {p : Program} {l : Launch} {e : Env} {R : Room} {s : State} {m : MethodId} {args : Array Value} {below : List Frame} {meth : Method} {c : Code} {cc : ByteArray} {nL : Nat} {own : String} {D : va_G} {cy : ClassId × ClassId} {ws0 ws : va_W} {sz h0 cells slots : Nat} {blk : (Nat → Nat) → va_W} {pc : Nat} {lv : List (Nat × Value)} (cx : CxL p s m args meth c cc nL none own D cy (va_A ws0 sz)) (hdg : decode cc pc = .ok (.return_, 1)) (q : Nat → Nat) (hq : q 0 = h0) (hws : ws = blk q) : WL p l e R s m args below meth c cells slots (MQ below (QcC D ws0 sz h0 blk) args s cells slots (va_A ws0 sz)) nL D (va_A ws0 sz) ws pc lv [] := fun H locs ls hP hD hS hl => by
  subst hws
  exact W.vret cx.1 cx.2.1 cx.2.2.2.2.2.2.2.1 (fun t ht hW => ⟨⟨q, rfl, hq, by show va_P _ _ _ t.heap; rw [ht]; exact hP, hD⟩, hS.F ht⟩) hS.2.2 hdg cx.2.2.2.2.2.2.2.2.1
theorem wl_wa {p : Program} {l : Launch} {e : Env} {R : Room} {s : State} {m : MethodId} {args : Array Value} {below : List Frame} {meth : Method} {c : Code} {cells slots : Nat} {Q : State → Prop} {cc : ByteArray} {nL : Nat} {ret : Option FieldType} {own : String} {g : Gl} {A : Nat → Prop} {ws : va_W} {S : St} {pc : Nat} {lv : List (Nat × Value)} {st : List Value} (cx : CxL p s m args meth c cc nL ret own g.1 g.2.1 A) (hnp : npl g = 103 ∨ npl g = 129) (hws : ws = pool g S) (k : Cx p s m args meth c cc nL ret own g A → WA p l e R s m args below meth c cells slots Q nL g A S pc lv st) : WL p l e R s m args below meth c cells slots Q nL g.1 A ws pc lv st := fun H locs ls hP hD hS hl => by
  subst hws
  have hg : GOK g := ⟨hnp, fun i j hi hj h => hD.1 i j _ _ (pool_get hi) (pool_get hj) h⟩
  exact k ⟨cx.1, cx.2.1, cx.2.2.1, cx.2.2.2.1, cx.2.2.2.2.1, cx.2.2.2.2.2.1, hg, fun i hi => hD.2 i _ (pool_get hi), cx.2.2.2.2.2.2.2.1, cx.2.2.2.2.2.2.2.2.1, cx.2.2.2.2.2.2.2.2.2⟩ H locs ls hP hS hl
