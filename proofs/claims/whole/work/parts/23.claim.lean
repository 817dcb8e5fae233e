/-! THE CLAIM OUT OF ONE WALK OF THE LAW'S BODY. Your part is whole_start (and what it stands on); all else here is the same for every law, but numbers. -/
def R_law : String := "EnoughGiveLaw"
def lw_P (b : Addr) (xs : List Int32) (args : Array Value) (s : State) : Prop := args = #[.ref b] ∧ s.IntsAt b xs ∧ xs.length ≤ 2048 ∧ (Jvm.Cond.and given_1 narrow_1).before args s = true
def lw_Q (_ : Array Value) (s : State) (o : Outcome) (t : State) : Prop := o = .returned (some (.int 1)) ∧ Framed s o t [] 129 12358
def lw_Z (below : List Frame) (a : Array Value) (s : State) : State → Prop := fun t => ∃ o, t.status = .running ∧ Ended t below o ∧ lw_Q a s o t
/-- the law's own end, with 1 on the stack, nothing written that was there before, its room as the claim has it -/
theorem lw_ret {p : Program} {l : Launch} {e : Env} {s : State} {m : MethodId} {below : List Frame} {meth : Method} {c : Code} {b : Nat} (hx : p.tables.exec = Jvm.exec) (hb : c.code = code) (hr : meth.sig.returnType = ret) (hlocks : meth.locks = false) {pc : Nat} {H : Heap} {ls : Array Slot} (hdg : decode code pc = .ok (.ireturn, 1)) : W p l e room_1 s m #[Value.ref b] below meth c H [] 129 12358 (lw_Z below #[Value.ref b] s) (F0 m pc ls [.int 1]) := by
  intro T hT X
  obtain ⟨fs, hret, hrun, hended, hW, hframe⟩ := X.leave (v := some (.int 1)) (hlocks := hlocks) (fun h => by rw [hr] at h; cases h)
  have hmeth' : T.vm.method? m = some meth := X.method'
  refine ⟨T.setFrames fs, ?_, .returned (some (.int 1)), hrun, hended, rfl, ⟨_, rfl⟩, hW, hframe⟩
  jvm_step X.here [X.here.top, hx, hb, hdg, hmeth', hr, ret, narrow_b1]
  (try refine ⟨rfl, ?_⟩); (try refine ⟨rfl, ?_⟩)
  first | (intro acts; rw [hret _ acts rfl rfl rfl]) | rw [hret _ _ rfl rfl rfl]
  exact Steps.refl _
/-- what holds at the law's entry: the machine, the code, the tables' words (any of lw_tbl by 'hts w (by decide +kernel)'), the script of L ints xs at the cell b, what the Statement gives of the start (any of its parts by flat_of_before) -/
def lw_At (p : Program) (s : State) (m : MethodId) (meth : Method) (c : Code) (b L : Nat) (xs : Nat → Int32) : Prop :=
  p.tables.exec = Jvm.exec ∧ c.code = code ∧ meth.sig.returnType = ret ∧ c.maxLocals = 4 ∧ s.vm.findClass R_law = some m.cls ∧ (∀ w ∈ lw_tbl, w.before #[Value.ref b] s = true) ∧ va_X b L xs s s.heap ∧ b < s.heap.size ∧ meth.locks = false ∧ (Jvm.Cond.and given_1 narrow_1).before #[Value.ref b] s = true

section LWA
variable {p : Program} {l : Launch} {e : Env} {R : Room} {s : State} {m : MethodId} {args : Array Value} {below : List Frame} {meth : Method} {c : Code} {cells slots : Nat} {Q : State → Prop} {cc : ByteArray} {nL : Nat} {rt : Option FieldType} {own : String} {g : Gl} {A : Nat → Prop} {S : St} {pc : Nat} {lv : List (Nat × Value)} {st : List Value}
theorem wa_sld (cx : Cx p s m args meth c cc nL rt own g A) {b Ln : Nat} {xs : Nat → Int32} (hX : va_X b Ln xs s s.heap) (hbl : b < s.heap.size) (hbA : ¬ A b) {i : Int32} (hdg : decode cc pc = .ok (.iaload, 1)) (hin : vp_in i Ln) (k : WA p l e R s m args below meth c cells slots Q nL g A S (pc + 1) lv (.int (xs i.toNatClampNeg) :: st)) : WA p l e R s m args below meth c cells slots Q nL g A S pc lv (.int i :: .ref b :: st) := fun H locs ls hP hS hl => va_sld cx.1 cx.2.1 hX hbl hbA hS hin hdg (k H locs ls hP hS hl)
theorem wa_slen (cx : Cx p s m args meth c cc nL rt own g A) {b Ln : Nat} {xs : Nat → Int32} (hX : va_X b Ln xs s s.heap) (hbl : b < s.heap.size) (hbA : ¬ A b) (hdg : decode cc pc = .ok (.arraylength, 1)) (k : WA p l e R s m args below meth c cells slots Q nL g A S (pc + 1) lv (.int (nI Ln) :: st)) : WA p l e R s m args below meth c cells slots Q nL g A S pc lv (.ref b :: st) := fun H locs ls hP hS hl => va_slen cx.1 cx.2.1 hX hbl hbA hS hdg (k H locs ls hP hS hl)
theorem wa_lret1 {b : Nat} (cx : Cx p s m #[Value.ref b] meth c code 4 ret RL g A) (hA : A = fun q => s.heap.size ≤ q) (hdg : decode code pc = .ok (.ireturn, 1)) : WA p l e room_1 s m #[Value.ref b] below meth c 129 12358 (lw_Z below #[Value.ref b] s) 4 g A S pc lv [.int 1] := fun H locs ls hP hS hl => va_forget (fun q hq => by have := hS.2.2 q hq; rw [hA] at this; exact this) (lw_ret cx.1 cx.2.1 cx.2.2.2.2.2.2.2.2.1 cx.2.2.2.2.2.2.2.2.2.1 hdg)
end LWA
section LWL
variable {p : Program} {l : Launch} {e : Env} {R : Room} {s : State} {m : MethodId} {args : Array Value} {below : List Frame} {meth : Method} {c : Code} {cells slots : Nat} {Q : State → Prop} {cc : ByteArray} {nL : Nat} {rt : Option FieldType} {own : String} {D : va_G} {cy : ClassId × ClassId} {A : Nat → Prop} {ws : va_W} {pc : Nat} {lv : List (Nat × Value)} {st : List Value}
theorem wl_astore_n (cx : CxL p s m args meth c cc nL rt own D cy A) {k0 : Fin 4} {i x : Nat} {lv1 : List (Nat × Value)} (hdg : decode cc pc = .ok (.astore_n k0, 1)) (lv2 : List (Nat × Value)) (hi : (k0 : Nat) = i) (hn : i < nL) (hf : (i, Value.ref x) :: lv.filter (fun q => !(q.1 == i) && !(q.1 + 1 == i && q.2.category == 2)) = lv1) (hsub : lvsub lv1 lv2) (k : WL p l e R s m args below meth c cells slots Q nL D A ws (pc + 1) lv2 st) : WL p l e R s m args below meth c cells slots Q nL D A ws pc lv (.ref x :: st) := fun H locs ls hP hD hS hl => lv_astore_n cx.1 cx.2.1 hdg hi hl hn hf (fun ls2 hl2 => k H locs ls2 hP hD hS (lvsub_has hl2 hsub))
theorem wl_istore_n (cx : CxL p s m args meth c cc nL rt own D cy A) {k0 : Fin 4} {i : Nat} {x : Int32} {lv1 : List (Nat × Value)} (hdg : decode cc pc = .ok (.istore_n k0, 1)) (lv2 : List (Nat × Value)) (hi : (k0 : Nat) = i) (hn : i < nL) (hf : (i, Value.int x) :: lv.filter (fun q => !(q.1 == i) && !(q.1 + 1 == i && q.2.category == 2)) = lv1) (hsub : lvsub lv1 lv2) (k : WL p l e R s m args below meth c cells slots Q nL D A ws (pc + 1) lv2 st) : WL p l e R s m args below meth c cells slots Q nL D A ws pc lv (.int x :: st) := fun H locs ls hP hD hS hl => lv_istore_n cx.1 cx.2.1 hdg hi hl hn hf (fun ls2 hl2 => k H locs ls2 hP hD hS (lvsub_has hl2 hsub))
end LWL
