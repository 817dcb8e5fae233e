/-! contracts over the whole pool; start and calls -/
theorem lw_good : ∀ w ∈ lw_g, goodWord w = true := fun _ h => (List.mem_filter.mp h).2
def PcW (g : Gl) (S : St) (av : List Value) : Array Value → State → Prop := va_Pc av (fun U => va_P g.1 vwCl (pool g S) U.heap ∧ va_K g.1 vwCl (tysW g) U ∧ NW U)
theorem PcW_blind {g : Gl} {S : St} {av : List Value} : FrameBlind (PcW g S av) := fun a U gf mk q => ⟨q.1, q.2.1, va_K.moved (u := U) (U := U.calling gf mk a) (Vm.Alike.refl U.vm) q.2.2.1, NW.same (s := U) (U := U.calling gf mk a) rfl q.2.2.2⟩
def BW (g : Gl) (S : St) : Unit → State → Prop := fun _ t => va_P g.1 vwCl (pool g S) t.heap
def BWr (g : Gl) (r : Nat × St) : Unit → Nat → State → Prop := fun _ a t => a = ad g r.1 ∧ va_P g.1 vwCl (pool g r.2) t.heap
def QWi (g : Gl) (r : Int32 × St) : Array Value → State → Outcome → State → Prop := va_Qi (fun v (_ : Unit) => v = r.1) (BW g r.2) (Ap g)
def QWl (g : Gl) (r : Int64 × St) : Array Value → State → Outcome → State → Prop := va_Ql (fun v (_ : Unit) => v = r.1) (BW g r.2) (Ap g)
def QWv (g : Gl) (r : Unit × St) : Array Value → State → Outcome → State → Prop := va_Qv (fun _ : Unit => True) (BW g r.2) (Ap g)
def QWr (g : Gl) (r : Nat × St) : Array Value → State → Outcome → State → Prop := va_Qr (fun _ : Unit => True) (BWr g r) (Ap g)
def wsM (y : MethodName) (code : ByteArray) (nL : Nat) (ret : Option FieldType) : List Cond := .code y code nL ret :: lw_g
def MW (l : Launch) (y : MethodName) (code : ByteArray) (nL : Nat) (ret : Option FieldType) (rm : Room) (g : Gl) (S : St) (av : List Value) (Qc : Array Value → State → Outcome → State → Prop) : Prop := Met l y (wsM y code nL ret) rm (PcW g S av) Qc 0 0 (Ap g)
theorem startW {l : Launch} {y : MethodName} {code : ByteArray} {nL : Nat} {ret : Option FieldType} {rm : Room} {g : Gl} {S : St} {av : List Value} {Qc : Array Value → State → Outcome → State → Prop} (lv : List (Nat × Value)) (hy : plainName y.cls = true) (hav : (lg_sl av).length ≤ nL) (hlv : lv_args 0 av = lv) (hg : GOK g)
    (body : ∀ (p : Program) (e : Env) (s : State) (m : MethodId) (args : Array Value) (below : List Frame) (meth : Method) (c : Code), Cx p s m args meth c code nL ret y.cls g (Ap g) → WA p l e rm s m args below meth c 0 0 (MQ below Qc args s 0 0 (Ap g)) nL g (Ap g) S 0 lv []) : MW l y code nL ret rm g S av Qc := by
  refine Met.ofW (cc := code) (maxL := nL) (ret := ret) hy rfl ?_
  intro p e s m args below meth c s₁ B hml hv
  obtain ⟨rfl, hP, hK, hN⟩ := hv
  have hts := atoms_spec (ws := wsM y code nL ret) B.pre
  have cx : Cx p s m av.toArray meth c code nL ret y.cls g (Ap g) := ⟨B.exec, B.bytes, hml, findClass_of_methodNamed B.named, fun w h => hts w (List.mem_cons_of_mem _ h), hK, hg, fun i hi => ⟨i, hi, rfl⟩, B.returns, B.notSynchronized, hN⟩
  have hl := lv_entry av (n := nL) hav
  rw [lg_entry_eq]
  generalize (lg_sl av ++ List.replicate (nL - (lg_sl av).length) Slot.unset).toArray = ls at hl ⊢
  rw [hlv] at hl
  exact body p e s m _ below meth c cx s.heap [] ls hP va_S.rf hl
def VL (own : String) (idx : Nat) (y : MethodName) (code : ByteArray) (nLy : Nat) (rety : Option FieldType) (n : Nat) : Prop := (Cond.methodLink own idx y ∈ lw_g ∧ Cond.instanceMethod y ∈ lw_g ∧ Cond.selects y.cls y y ∈ lw_g ∧ Cond.initialized y.cls ∈ lw_g ∧ Cond.code y code nLy rety ∈ lw_g) ∧ y.cls ≠ "java/lang/invoke/MethodHandle" ∧ y.cls ≠ "java/lang/invoke/VarHandle" ∧ (parseMethodDescriptor y.desc).map (fun d => d.parameters.length) = some n
def SL (own : String) (idx : Nat) (y : MethodName) (code : ByteArray) (nLy : Nat) (rety : Option FieldType) (n : Nat) : Prop := (Cond.methodLink own idx y ∈ lw_g ∧ Cond.static y ∈ lw_g ∧ Cond.initialized y.cls ∈ lw_g ∧ Cond.code y code nLy rety ∈ lw_g) ∧ y.cls ≠ "java/lang/invoke/MethodHandle" ∧ y.cls ≠ "java/lang/invoke/VarHandle" ∧ (parseMethodDescriptor y.desc).map (fun d => d.parameters.length) = some n
def NL (own host : String) (idx : Nat) (y : MethodName) (code : ByteArray) (nLy : Nat) (rety : Option FieldType) (n : Nat) : Prop := (Cond.methodLinkNest own idx y host ∈ lw_tbl ∧ Cond.static y ∈ lw_g ∧ Cond.initialized y.cls ∈ lw_g ∧ Cond.code y code nLy rety ∈ lw_g) ∧ y.cls ≠ "java/lang/invoke/MethodHandle" ∧ y.cls ≠ "java/lang/invoke/VarHandle" ∧ (parseMethodDescriptor y.desc).map (fun d => d.parameters.length) = some n
theorem goodIn_ws {y : MethodName} {code : ByteArray} {nLy : Nat} {rety : Option FieldType} (h : Cond.code y code nLy rety ∈ lw_g) : GoodIn lw_g (wsM y code nLy rety) := fun w hw => by
  rcases List.mem_cons.mp hw with rfl | hw
  · exact ⟨h, good_of_word (lw_good _ h)⟩
  · exact ⟨hw, good_of_word (lw_good _ hw)⟩
theorem goodIn_l (ws1 : List Cond) {ws : List Cond} (h1 : ∀ w ∈ ws1, w ∈ lw_g) (h : GoodIn lw_g ws) : GoodIn lw_g (ws1 ++ ws) := fun w hw => by
  rcases List.mem_append.mp hw with hw | hw
  · exact ⟨h1 w hw, good_of_word (lw_good _ (h1 w hw))⟩
  · exact h w hw
section WAC
variable {p : Program} {l : Launch} {e : Env} {R : Room} {s : State} {m : MethodId} {args : Array Value} {below : List Frame} {meth : Method} {c : Code} {cells slots : Nat} {Q : State → Prop} {cc : ByteArray} {nL : Nat} {ret : Option FieldType} {own : String} {g : Gl} {A : Nat → Prop}
variable {S : St} {pc : Nat} {lv : List (Nat × Value)} {st : List Value}
theorem run_V (cx : Cx p s m args meth c cc nL ret own g A) {y : MethodName} {code : ByteArray} {nLy n idx b ci : Nat} {rety : Option FieldType} {rm : Room} {as : List Value} {Qc : Array Value → State → Outcome → State → Prop} {q : vw_C} (hM : MW l y code nLy rety rm g S (.ref (ad g b) :: as) Qc) (vl : VL own idx y code nLy rety n) (hk : kd g b = ci) (h99 : ci < 99) (hc : vwCl[ci]? = some q) (hq : q.1 = y.cls) (hcell : ∃ fs, cell g S b = .inr (ci, fs)) (hR : rm.frames + 1 ≤ R.frames ∧ 8 + (nLy + 11) + rm.locals ≤ R.locals) (h00 : rm.cells = 0 ∧ rm.slots = 0) (hcs : cells ≤ R.cells ∧ slots ≤ R.slots) (hlen : as.length = n) (hst : (st.map fun v => v.category).sum ≤ 8) (hdg : decode cc pc = .ok (.invokevirtual idx, 3)) {stk : List Value} (hstk : stk = as.reverse ++ .ref (ad g b) :: st)
    {H : Heap} {locs : List Loc} {ls : Array Slot} (hP : va_P g.1 vwCl (pool g S) H) (hl : lv_has ls nL lv) : va_Run p l e R s m args below meth c H locs cells slots 0 0 (F0 m pc ls stk) st (Qc (Value.ref (ad g b) :: as).toArray) (Ap g) := by
  obtain ⟨⟨v1, v2, v3, v4, v5⟩, v6, v7, v8⟩ := vl
  obtain ⟨b1, b2⟩ := kd_lt hk h99
  obtain ⟨fs, hcell⟩ := hcell
  have cw : CallW R s args own y.cls idx y code nLy rety (wsM y code nLy rety) rm 0 0 n := cwV n cx.2.2.2.2.1 (goodIn_l [.methodLink own idx y, .instanceMethod y, .selects y.cls y y, .initialized y.cls] (fun w hw => by
    rcases List.mem_cons.mp hw with rfl | hw
    · exact v1
    rcases List.mem_cons.mp hw with rfl | hw
    · exact v2
    rcases List.mem_cons.mp hw with rfl | hw
    · exact v3
    rcases List.mem_cons.mp hw with rfl | hw
    · exact v4
    exact absurd hw List.not_mem_nil) (goodIn_ws v5)) rfl h00.1 h00.2 ⟨rfl, v6, v7, v8⟩ hR
  have hrecv := va_recv cx.2.2.2.2.2.1 hP hc ((pool_get b1).trans (congrArg (fun z => some (ad g b, z)) hcell))
  rw [hq] at hrecv
  exact va_runV ⟨cx.1, cx.2.1, cx.2.2.1, cx.2.2.2.1, cx.2.2.2.2.1⟩ hM cw ⟨PcW_blind, hrecv, fun U hU hW => ⟨rfl, by rw [hU]; exact hP, va_K.moved hW.alike cx.2.2.2.2.2.1, NW.warm hW cx.2.2.2.2.2.2.2.2.2.2⟩⟩ rfl hlen hl.1 hstk (lv_room hst) hdg hcs
theorem run_S (cx : Cx p s m args meth c cc nL ret own g A) {y : MethodName} {code : ByteArray} {nLy n idx : Nat} {rety : Option FieldType} {rm : Room} {as : List Value} {Qc : Array Value → State → Outcome → State → Prop} (hM : MW l y code nLy rety rm g S as Qc) (vl : SL own idx y code nLy rety n) (hR : rm.frames + 1 ≤ R.frames ∧ 8 + (nLy + 11) + rm.locals ≤ R.locals) (h00 : rm.cells = 0 ∧ rm.slots = 0) (hcs : cells ≤ R.cells ∧ slots ≤ R.slots) (hlen : as.length = n) (hst : (st.map fun v => v.category).sum ≤ 8) (hdg : decode cc pc = .ok (.invokestatic idx, 3)) {stk : List Value} (hstk : stk = as.reverse ++ st)
    {H : Heap} {locs : List Loc} {ls : Array Slot} (hP : va_P g.1 vwCl (pool g S) H) (hl : lv_has ls nL lv) : va_Run p l e R s m args below meth c H locs cells slots 0 0 (F0 m pc ls stk) st (Qc as.toArray) (Ap g) := by
  obtain ⟨⟨v1, v2, v3, v4⟩, v6, v7, v8⟩ := vl
  have ht := cx.2.2.2.2.1
  exact va_runS ⟨cx.1, cx.2.1, cx.2.2.1, cx.2.2.2.1, ht⟩ hM ⟨callB_of n ht (goodIn_ws v4) rfl h00.1 h00.2 (ht _ v3) (ht _ v1) ⟨v6, v7, v8⟩ hR, ht _ v2⟩ ⟨PcW_blind, fun U hU hW => ⟨rfl, by rw [hU]; exact hP, va_K.moved hW.alike cx.2.2.2.2.2.1, NW.warm hW cx.2.2.2.2.2.2.2.2.2.2⟩⟩ rfl hlen hl.1 hstk (lv_room hst) hdg hcs
theorem run_N (cx : Cx p s m args meth c cc nL ret own g A) {host : String} {y : MethodName} {code : ByteArray} {nLy n idx : Nat} {rety : Option FieldType} {rm : Room} {as : List Value} {Qc : Array Value → State → Outcome → State → Prop} (hM : MW l y code nLy rety rm g S as Qc) (vl : NL own host idx y code nLy rety n) (hR : rm.frames + 1 ≤ R.frames ∧ 8 + (nLy + 11) + rm.locals ≤ R.locals) (h00 : rm.cells = 0 ∧ rm.slots = 0) (hcs : cells ≤ R.cells ∧ slots ≤ R.slots) (hlen : as.length = n) (hst : (st.map fun v => v.category).sum ≤ 8) (hdg : decode cc pc = .ok (.invokestatic idx, 3)) {stk : List Value} (hstk : stk = as.reverse ++ st)
    {H : Heap} {locs : List Loc} {ls : Array Slot} (hP : va_P g.1 vwCl (pool g S) H) (hl : lv_has ls nL lv) : va_Run p l e R s m args below meth c H locs cells slots 0 0 (F0 m pc ls stk) st (Qc as.toArray) (Ap g) := by
  obtain ⟨⟨v1, v2, v3, v4⟩, v6, v7, v8⟩ := vl
  have ht := cx.2.2.2.2.1
  exact va_runSN ⟨cx.1, cx.2.1, cx.2.2.1, cx.2.2.2.1, ht⟩ hM ⟨va_cnB n ht (goodIn_ws v4) rfl h00.1 h00.2 (cx.2.2.2.2.2.2.2.2.2.2 _ v1 rfl) (ht _ v3) ⟨v6, v7, v8⟩ hR, ht _ v2, trivial⟩ ⟨PcW_blind, fun U hU hW => ⟨rfl, by rw [hU]; exact hP, va_K.moved hW.alike cx.2.2.2.2.2.1, NW.warm hW cx.2.2.2.2.2.2.2.2.2.2⟩⟩ rfl hlen hl.1 hstk (lv_room hst) hdg hcs
theorem wa_callVi (cx : Cx p s m args meth c cc nL ret own g A) {y : MethodName} {code : ByteArray} {nLy n idx b ci : Nat} {rety : Option FieldType} {rm : Room} {as : List Value} {v0 : Int32} {S2 : St} {q : vw_C} (hM : MW l y code nLy rety rm g S (.ref (ad g b) :: as) (QWi g (v0, S2))) (vl : VL own idx y code nLy rety n) (hk : kd g b = ci) (h99 : ci < 99) (hc : vwCl[ci]? = some q) (hq : q.1 = y.cls) (hcell : ∃ fs, cell g S b = .inr (ci, fs)) (hR : rm.frames + 1 ≤ R.frames ∧ 8 + (nLy + 11) + rm.locals ≤ R.locals) (h00 : rm.cells = 0 ∧ rm.slots = 0) (hcs : cells ≤ R.cells ∧ slots ≤ R.slots) (hlen : as.length = n) (hst : (st.map fun v => v.category).sum ≤ 8) (hdg : decode cc pc = .ok (.invokevirtual idx, 3)) {stk : List Value} (hstk : stk = as.reverse ++ .ref (ad g b) :: st) (k : WA p l e R s m args below meth c cells slots Q nL g A S2 (pc + 3) lv (.int v0 :: st)) : WA p l e R s m args below meth c cells slots Q nL g A S pc lv stk := fun H locs ls hP hS hl => by
  have hfr : ∀ q, Ap g q → A q := fun q h => by obtain ⟨i, hi, rfl⟩ := h; exact cx.2.2.2.2.2.2.2.1 i hi
  refine va_calli (run_V cx hM vl hk h99 hc hq hcell hR h00 hcs hlen hst hdg hstk hP hl) hS (fun q _ h => hfr q h) hfr (fun v u t H1 locs1 ht hvm hp hb hz hk hS1 => ?_)
  have hp : v = v0 := hp
  subst hp
  exact k H1 locs1 ls (by rw [← ht]; exact hb) hS1 hl
theorem wa_callSi (cx : Cx p s m args meth c cc nL ret own g A) {y : MethodName} {code : ByteArray} {nLy n idx : Nat} {rety : Option FieldType} {rm : Room} {as : List Value} {v0 : Int32} {S2 : St} (hM : MW l y code nLy rety rm g S as (QWi g (v0, S2))) (vl : SL own idx y code nLy rety n) (hR : rm.frames + 1 ≤ R.frames ∧ 8 + (nLy + 11) + rm.locals ≤ R.locals) (h00 : rm.cells = 0 ∧ rm.slots = 0) (hcs : cells ≤ R.cells ∧ slots ≤ R.slots) (hlen : as.length = n) (hst : (st.map fun v => v.category).sum ≤ 8) (hdg : decode cc pc = .ok (.invokestatic idx, 3)) {stk : List Value} (hstk : stk = as.reverse ++ st) (k : WA p l e R s m args below meth c cells slots Q nL g A S2 (pc + 3) lv (.int v0 :: st)) : WA p l e R s m args below meth c cells slots Q nL g A S pc lv stk := fun H locs ls hP hS hl => by
  have hfr : ∀ q, Ap g q → A q := fun q h => by obtain ⟨i, hi, rfl⟩ := h; exact cx.2.2.2.2.2.2.2.1 i hi
  refine va_calli (run_S cx hM vl hR h00 hcs hlen hst hdg hstk hP hl) hS (fun q _ h => hfr q h) hfr (fun v u t H1 locs1 ht hvm hp hb hz hk hS1 => ?_)
  have hp : v = v0 := hp
  subst hp
  exact k H1 locs1 ls (by rw [← ht]; exact hb) hS1 hl
theorem wa_callNi (cx : Cx p s m args meth c cc nL ret own g A) {y : MethodName} {code : ByteArray} {nLy n idx : Nat} {rety : Option FieldType} {rm : Room} {as : List Value} {v0 : Int32} {S2 : St} {host : String} (hM : MW l y code nLy rety rm g S as (QWi g (v0, S2))) (vl : NL own host idx y code nLy rety n) (hR : rm.frames + 1 ≤ R.frames ∧ 8 + (nLy + 11) + rm.locals ≤ R.locals) (h00 : rm.cells = 0 ∧ rm.slots = 0) (hcs : cells ≤ R.cells ∧ slots ≤ R.slots) (hlen : as.length = n) (hst : (st.map fun v => v.category).sum ≤ 8) (hdg : decode cc pc = .ok (.invokestatic idx, 3)) {stk : List Value} (hstk : stk = as.reverse ++ st) (k : WA p l e R s m args below meth c cells slots Q nL g A S2 (pc + 3) lv (.int v0 :: st)) : WA p l e R s m args below meth c cells slots Q nL g A S pc lv stk := fun H locs ls hP hS hl => by
  have hfr : ∀ q, Ap g q → A q := fun q h => by obtain ⟨i, hi, rfl⟩ := h; exact cx.2.2.2.2.2.2.2.1 i hi
  refine va_calli (run_N cx hM vl hR h00 hcs hlen hst hdg hstk hP hl) hS (fun q _ h => hfr q h) hfr (fun v u t H1 locs1 ht hvm hp hb hz hk hS1 => ?_)
  have hp : v = v0 := hp
  subst hp
  exact k H1 locs1 ls (by rw [← ht]; exact hb) hS1 hl
theorem wa_callVl (cx : Cx p s m args meth c cc nL ret own g A) {y : MethodName} {code : ByteArray} {nLy n idx b ci : Nat} {rety : Option FieldType} {rm : Room} {as : List Value} {v0 : Int64} {S2 : St} {q : vw_C} (hM : MW l y code nLy rety rm g S (.ref (ad g b) :: as) (QWl g (v0, S2))) (vl : VL own idx y code nLy rety n) (hk : kd g b = ci) (h99 : ci < 99) (hc : vwCl[ci]? = some q) (hq : q.1 = y.cls) (hcell : ∃ fs, cell g S b = .inr (ci, fs)) (hR : rm.frames + 1 ≤ R.frames ∧ 8 + (nLy + 11) + rm.locals ≤ R.locals) (h00 : rm.cells = 0 ∧ rm.slots = 0) (hcs : cells ≤ R.cells ∧ slots ≤ R.slots) (hlen : as.length = n) (hst : (st.map fun v => v.category).sum ≤ 8) (hdg : decode cc pc = .ok (.invokevirtual idx, 3)) {stk : List Value} (hstk : stk = as.reverse ++ .ref (ad g b) :: st) (k : WA p l e R s m args below meth c cells slots Q nL g A S2 (pc + 3) lv (.long v0 :: st)) : WA p l e R s m args below meth c cells slots Q nL g A S pc lv stk := fun H locs ls hP hS hl => by
  have hfr : ∀ q, Ap g q → A q := fun q h => by obtain ⟨i, hi, rfl⟩ := h; exact cx.2.2.2.2.2.2.2.1 i hi
  refine va_calll (run_V cx hM vl hk h99 hc hq hcell hR h00 hcs hlen hst hdg hstk hP hl) hS (fun q _ h => hfr q h) hfr (fun v u t H1 locs1 ht hvm hp hb hz hk hS1 => ?_)
  have hp : v = v0 := hp
  subst hp
  exact k H1 locs1 ls (by rw [← ht]; exact hb) hS1 hl
theorem wa_callSl (cx : Cx p s m args meth c cc nL ret own g A) {y : MethodName} {code : ByteArray} {nLy n idx : Nat} {rety : Option FieldType} {rm : Room} {as : List Value} {v0 : Int64} {S2 : St} (hM : MW l y code nLy rety rm g S as (QWl g (v0, S2))) (vl : SL own idx y code nLy rety n) (hR : rm.frames + 1 ≤ R.frames ∧ 8 + (nLy + 11) + rm.locals ≤ R.locals) (h00 : rm.cells = 0 ∧ rm.slots = 0) (hcs : cells ≤ R.cells ∧ slots ≤ R.slots) (hlen : as.length = n) (hst : (st.map fun v => v.category).sum ≤ 8) (hdg : decode cc pc = .ok (.invokestatic idx, 3)) {stk : List Value} (hstk : stk = as.reverse ++ st) (k : WA p l e R s m args below meth c cells slots Q nL g A S2 (pc + 3) lv (.long v0 :: st)) : WA p l e R s m args below meth c cells slots Q nL g A S pc lv stk := fun H locs ls hP hS hl => by
  have hfr : ∀ q, Ap g q → A q := fun q h => by obtain ⟨i, hi, rfl⟩ := h; exact cx.2.2.2.2.2.2.2.1 i hi
  refine va_calll (run_S cx hM vl hR h00 hcs hlen hst hdg hstk hP hl) hS (fun q _ h => hfr q h) hfr (fun v u t H1 locs1 ht hvm hp hb hz hk hS1 => ?_)
  have hp : v = v0 := hp
  subst hp
  exact k H1 locs1 ls (by rw [← ht]; exact hb) hS1 hl
theorem wa_callNl (cx : Cx p s m args meth c cc nL ret own g A) {y : MethodName} {code : ByteArray} {nLy n idx : Nat} {rety : Option FieldType} {rm : Room} {as : List Value} {v0 : Int64} {S2 : St} {host : String} (hM : MW l y code nLy rety rm g S as (QWl g (v0, S2))) (vl : NL own host idx y code nLy rety n) (hR : rm.frames + 1 ≤ R.frames ∧ 8 + (nLy + 11) + rm.locals ≤ R.locals) (h00 : rm.cells = 0 ∧ rm.slots = 0) (hcs : cells ≤ R.cells ∧ slots ≤ R.slots) (hlen : as.length = n) (hst : (st.map fun v => v.category).sum ≤ 8) (hdg : decode cc pc = .ok (.invokestatic idx, 3)) {stk : List Value} (hstk : stk = as.reverse ++ st) (k : WA p l e R s m args below meth c cells slots Q nL g A S2 (pc + 3) lv (.long v0 :: st)) : WA p l e R s m args below meth c cells slots Q nL g A S pc lv stk := fun H locs ls hP hS hl => by
  have hfr : ∀ q, Ap g q → A q := fun q h => by obtain ⟨i, hi, rfl⟩ := h; exact cx.2.2.2.2.2.2.2.1 i hi
  refine va_calll (run_N cx hM vl hR h00 hcs hlen hst hdg hstk hP hl) hS (fun q _ h => hfr q h) hfr (fun v u t H1 locs1 ht hvm hp hb hz hk hS1 => ?_)
  have hp : v = v0 := hp
  subst hp
  exact k H1 locs1 ls (by rw [← ht]; exact hb) hS1 hl
theorem wa_callVv (cx : Cx p s m args meth c cc nL ret own g A) {y : MethodName} {code : ByteArray} {nLy n idx b ci : Nat} {rety : Option FieldType} {rm : Room} {as : List Value} {v0 : Unit} {S2 : St} {q : vw_C} (hM : MW l y code nLy rety rm g S (.ref (ad g b) :: as) (QWv g (v0, S2))) (vl : VL own idx y code nLy rety n) (hk : kd g b = ci) (h99 : ci < 99) (hc : vwCl[ci]? = some q) (hq : q.1 = y.cls) (hcell : ∃ fs, cell g S b = .inr (ci, fs)) (hR : rm.frames + 1 ≤ R.frames ∧ 8 + (nLy + 11) + rm.locals ≤ R.locals) (h00 : rm.cells = 0 ∧ rm.slots = 0) (hcs : cells ≤ R.cells ∧ slots ≤ R.slots) (hlen : as.length = n) (hst : (st.map fun v => v.category).sum ≤ 8) (hdg : decode cc pc = .ok (.invokevirtual idx, 3)) {stk : List Value} (hstk : stk = as.reverse ++ .ref (ad g b) :: st) (k : WA p l e R s m args below meth c cells slots Q nL g A S2 (pc + 3) lv (st)) : WA p l e R s m args below meth c cells slots Q nL g A S pc lv stk := fun H locs ls hP hS hl => by
  have hfr : ∀ q, Ap g q → A q := fun q h => by obtain ⟨i, hi, rfl⟩ := h; exact cx.2.2.2.2.2.2.2.1 i hi
  refine va_callv (run_V cx hM vl hk h99 hc hq hcell hR h00 hcs hlen hst hdg hstk hP hl) hS (fun q _ h => hfr q h) hfr (fun u t H1 locs1 ht hvm hp hb hz hk hS1 => ?_)
  skip
  exact k H1 locs1 ls (by rw [← ht]; exact hb) hS1 hl
theorem wa_callSv (cx : Cx p s m args meth c cc nL ret own g A) {y : MethodName} {code : ByteArray} {nLy n idx : Nat} {rety : Option FieldType} {rm : Room} {as : List Value} {v0 : Unit} {S2 : St} (hM : MW l y code nLy rety rm g S as (QWv g (v0, S2))) (vl : SL own idx y code nLy rety n) (hR : rm.frames + 1 ≤ R.frames ∧ 8 + (nLy + 11) + rm.locals ≤ R.locals) (h00 : rm.cells = 0 ∧ rm.slots = 0) (hcs : cells ≤ R.cells ∧ slots ≤ R.slots) (hlen : as.length = n) (hst : (st.map fun v => v.category).sum ≤ 8) (hdg : decode cc pc = .ok (.invokestatic idx, 3)) {stk : List Value} (hstk : stk = as.reverse ++ st) (k : WA p l e R s m args below meth c cells slots Q nL g A S2 (pc + 3) lv (st)) : WA p l e R s m args below meth c cells slots Q nL g A S pc lv stk := fun H locs ls hP hS hl => by
  have hfr : ∀ q, Ap g q → A q := fun q h => by obtain ⟨i, hi, rfl⟩ := h; exact cx.2.2.2.2.2.2.2.1 i hi
  refine va_callv (run_S cx hM vl hR h00 hcs hlen hst hdg hstk hP hl) hS (fun q _ h => hfr q h) hfr (fun u t H1 locs1 ht hvm hp hb hz hk hS1 => ?_)
  skip
  exact k H1 locs1 ls (by rw [← ht]; exact hb) hS1 hl
theorem wa_callNv (cx : Cx p s m args meth c cc nL ret own g A) {y : MethodName} {code : ByteArray} {nLy n idx : Nat} {rety : Option FieldType} {rm : Room} {as : List Value} {v0 : Unit} {S2 : St} {host : String} (hM : MW l y code nLy rety rm g S as (QWv g (v0, S2))) (vl : NL own host idx y code nLy rety n) (hR : rm.frames + 1 ≤ R.frames ∧ 8 + (nLy + 11) + rm.locals ≤ R.locals) (h00 : rm.cells = 0 ∧ rm.slots = 0) (hcs : cells ≤ R.cells ∧ slots ≤ R.slots) (hlen : as.length = n) (hst : (st.map fun v => v.category).sum ≤ 8) (hdg : decode cc pc = .ok (.invokestatic idx, 3)) {stk : List Value} (hstk : stk = as.reverse ++ st) (k : WA p l e R s m args below meth c cells slots Q nL g A S2 (pc + 3) lv (st)) : WA p l e R s m args below meth c cells slots Q nL g A S pc lv stk := fun H locs ls hP hS hl => by
  have hfr : ∀ q, Ap g q → A q := fun q h => by obtain ⟨i, hi, rfl⟩ := h; exact cx.2.2.2.2.2.2.2.1 i hi
  refine va_callv (run_N cx hM vl hR h00 hcs hlen hst hdg hstk hP hl) hS (fun q _ h => hfr q h) hfr (fun u t H1 locs1 ht hvm hp hb hz hk hS1 => ?_)
  skip
  exact k H1 locs1 ls (by rw [← ht]; exact hb) hS1 hl
theorem wa_callVr (cx : Cx p s m args meth c cc nL ret own g A) {y : MethodName} {code : ByteArray} {nLy n idx b ci : Nat} {rety : Option FieldType} {rm : Room} {as : List Value} {v0 : Nat} {S2 : St} {q : vw_C} (hM : MW l y code nLy rety rm g S (.ref (ad g b) :: as) (QWr g (v0, S2))) (vl : VL own idx y code nLy rety n) (hk : kd g b = ci) (h99 : ci < 99) (hc : vwCl[ci]? = some q) (hq : q.1 = y.cls) (hcell : ∃ fs, cell g S b = .inr (ci, fs)) (hR : rm.frames + 1 ≤ R.frames ∧ 8 + (nLy + 11) + rm.locals ≤ R.locals) (h00 : rm.cells = 0 ∧ rm.slots = 0) (hcs : cells ≤ R.cells ∧ slots ≤ R.slots) (hlen : as.length = n) (hst : (st.map fun v => v.category).sum ≤ 8) (hdg : decode cc pc = .ok (.invokevirtual idx, 3)) {stk : List Value} (hstk : stk = as.reverse ++ .ref (ad g b) :: st) (k : WA p l e R s m args below meth c cells slots Q nL g A S2 (pc + 3) lv (.ref (ad g v0) :: st)) : WA p l e R s m args below meth c cells slots Q nL g A S pc lv stk := fun H locs ls hP hS hl => by
  have hfr : ∀ q, Ap g q → A q := fun q h => by obtain ⟨i, hi, rfl⟩ := h; exact cx.2.2.2.2.2.2.2.1 i hi
  refine va_callr (run_V cx hM vl hk h99 hc hq hcell hR h00 hcs hlen hst hdg hstk hP hl) hS (fun q _ h => hfr q h) hfr (fun u ra t H1 locs1 ht hvm hp hb hz hk hS1 => ?_)
  skip
  have hra : ra = ad g v0 := hb.1
  subst hra
  exact k H1 locs1 ls (by rw [← ht]; exact hb.2) hS1 hl
theorem wa_callSr (cx : Cx p s m args meth c cc nL ret own g A) {y : MethodName} {code : ByteArray} {nLy n idx : Nat} {rety : Option FieldType} {rm : Room} {as : List Value} {v0 : Nat} {S2 : St} (hM : MW l y code nLy rety rm g S as (QWr g (v0, S2))) (vl : SL own idx y code nLy rety n) (hR : rm.frames + 1 ≤ R.frames ∧ 8 + (nLy + 11) + rm.locals ≤ R.locals) (h00 : rm.cells = 0 ∧ rm.slots = 0) (hcs : cells ≤ R.cells ∧ slots ≤ R.slots) (hlen : as.length = n) (hst : (st.map fun v => v.category).sum ≤ 8) (hdg : decode cc pc = .ok (.invokestatic idx, 3)) {stk : List Value} (hstk : stk = as.reverse ++ st) (k : WA p l e R s m args below meth c cells slots Q nL g A S2 (pc + 3) lv (.ref (ad g v0) :: st)) : WA p l e R s m args below meth c cells slots Q nL g A S pc lv stk := fun H locs ls hP hS hl => by
  have hfr : ∀ q, Ap g q → A q := fun q h => by obtain ⟨i, hi, rfl⟩ := h; exact cx.2.2.2.2.2.2.2.1 i hi
  refine va_callr (run_S cx hM vl hR h00 hcs hlen hst hdg hstk hP hl) hS (fun q _ h => hfr q h) hfr (fun u ra t H1 locs1 ht hvm hp hb hz hk hS1 => ?_)
  skip
  have hra : ra = ad g v0 := hb.1
  subst hra
  exact k H1 locs1 ls (by rw [← ht]; exact hb.2) hS1 hl
theorem wa_callNr (cx : Cx p s m args meth c cc nL ret own g A) {y : MethodName} {code : ByteArray} {nLy n idx : Nat} {rety : Option FieldType} {rm : Room} {as : List Value} {v0 : Nat} {S2 : St} {host : String} (hM : MW l y code nLy rety rm g S as (QWr g (v0, S2))) (vl : NL own host idx y code nLy rety n) (hR : rm.frames + 1 ≤ R.frames ∧ 8 + (nLy + 11) + rm.locals ≤ R.locals) (h00 : rm.cells = 0 ∧ rm.slots = 0) (hcs : cells ≤ R.cells ∧ slots ≤ R.slots) (hlen : as.length = n) (hst : (st.map fun v => v.category).sum ≤ 8) (hdg : decode cc pc = .ok (.invokestatic idx, 3)) {stk : List Value} (hstk : stk = as.reverse ++ st) (k : WA p l e R s m args below meth c cells slots Q nL g A S2 (pc + 3) lv (.ref (ad g v0) :: st)) : WA p l e R s m args below meth c cells slots Q nL g A S pc lv stk := fun H locs ls hP hS hl => by
  have hfr : ∀ q, Ap g q → A q := fun q h => by obtain ⟨i, hi, rfl⟩ := h; exact cx.2.2.2.2.2.2.2.1 i hi
  refine va_callr (run_N cx hM vl hR h00 hcs hlen hst hdg hstk hP hl) hS (fun q _ h => hfr q h) hfr (fun u ra t H1 locs1 ht hvm hp hb hz hk hS1 => ?_)
  skip
  have hra : ra = ad g v0 := hb.1
  subst hra
  exact k H1 locs1 ls (by rw [← ht]; exact hb.2) hS1 hl
end WAC
section WAE
variable {p : Program} {l : Launch} {e : Env} {R : Room} {s : State} {m : MethodId} {args : Array Value} {below : List Frame} {meth : Method} {c : Code} {cc : ByteArray} {nL : Nat} {ret : Option FieldType} {own : String} {g : Gl}
variable {S : St} {pc : Nat} {lv : List (Nat × Value)}
theorem wa_iret (cx : Cx p s m args meth c cc nL (some .int) own g (Ap g)) {x : Int32} {r : Int32 × St} (h : some (x, S) = some r) (hdg : decode cc pc = .ok (.ireturn, 1)) : WA p l e R s m args below meth c 0 0 (MQ below (QWi g r) args s 0 0 (Ap g)) nL g (Ap g) S pc lv [.int x] := fun H locs ls hP hS hl => by
  cases h
  exact W.iret cx.1 cx.2.1 cx.2.2.2.2.2.2.2.2.1 (fun t ht hW => ⟨⟨x, (), rfl, rfl, by show va_P _ _ _ t.heap; rw [ht]; exact hP⟩, hS.F ht⟩) hS.2.2 hdg cx.2.2.2.2.2.2.2.2.2.1
theorem wa_zret (cx : Cx p s m args meth c cc nL (some .boolean) own g (Ap g)) {x : Int32} {r : Int32 × St} (hx : x = 0 ∨ x = 1) (h : some (x, S) = some r) (hdg : decode cc pc = .ok (.ireturn, 1)) : WA p l e R s m args below meth c 0 0 (MQ below (QWi g r) args s 0 0 (Ap g)) nL g (Ap g) S pc lv [.int x] := fun H locs ls hP hS hl => by
  cases h
  exact W.zret cx.1 cx.2.1 cx.2.2.2.2.2.2.2.2.1 (by rcases hx with rfl | rfl <;> decide) (fun t ht hW => ⟨⟨x, (), rfl, rfl, by show va_P _ _ _ t.heap; rw [ht]; exact hP⟩, hS.F ht⟩) hS.2.2 hdg cx.2.2.2.2.2.2.2.2.2.1
theorem wa_lret (cx : Cx p s m args meth c cc nL (some .long) own g (Ap g)) {x : Int64} {r : Int64 × St} (h : some (x, S) = some r) (hdg : decode cc pc = .ok (.lreturn, 1)) : WA p l e R s m args below meth c 0 0 (MQ below (QWl g r) args s 0 0 (Ap g)) nL g (Ap g) S pc lv [.long x] := fun H locs ls hP hS hl => by
  cases h
  exact W.lret cx.1 cx.2.1 cx.2.2.2.2.2.2.2.2.1 (fun t ht hW => ⟨⟨x, (), rfl, rfl, by show va_P _ _ _ t.heap; rw [ht]; exact hP⟩, hS.F ht⟩) hS.2.2 hdg cx.2.2.2.2.2.2.2.2.2.1
theorem wa_vret (cx : Cx p s m args meth c cc nL none own g (Ap g)) {r : Unit × St} (h : some ((), S) = some r) (hdg : decode cc pc = .ok (.return_, 1)) : WA p l e R s m args below meth c 0 0 (MQ below (QWv g r) args s 0 0 (Ap g)) nL g (Ap g) S pc lv [] := fun H locs ls hP hS hl => by
  cases h
  exact W.vret cx.1 cx.2.1 cx.2.2.2.2.2.2.2.2.1 (fun t ht hW => ⟨⟨(), rfl, trivial, by show va_P _ _ _ t.heap; rw [ht]; exact hP⟩, hS.F ht⟩) hS.2.2 hdg cx.2.2.2.2.2.2.2.2.2.1
theorem wa_aret {C : String} (cx : Cx p s m args meth c cc nL (some (.object C)) own g (Ap g)) {x : Nat} {r : Nat × St} (h : some (x, S) = some r) (hdg : decode cc pc = .ok (.areturn, 1)) : WA p l e R s m args below meth c 0 0 (MQ below (QWr g r) args s 0 0 (Ap g)) nL g (Ap g) S pc lv [.ref (ad g x)] := fun H locs ls hP hS hl => by
  cases h
  exact W.aret cx.1 cx.2.1 cx.2.2.2.2.2.2.2.2.1 (Or.inl ⟨_, rfl⟩) (Or.inr ⟨_, rfl⟩) (fun t ht hW => ⟨⟨(), _, rfl, trivial, rfl, by show va_P _ _ _ t.heap; rw [ht]; exact hP⟩, hS.F ht⟩) hS.2.2 hdg cx.2.2.2.2.2.2.2.2.2.1
end WAE
