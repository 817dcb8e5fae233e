/-! abstract world: a pool of np cells by index; S.1 ints, S.2.1 longs, S.2.2 references (as indices), by cell and slot -/
abbrev Gl : Type := va_G × (ClassId × ClassId) × (Nat → Nat) × Nat
abbrev St : Type := (Nat → Nat → Int32) × (Nat → Nat → Int64) × (Nat → Nat → Nat)
def ad (g : Gl) (i : Nat) : Nat := g.2.2.1 i
def npl (g : Gl) : Nat := g.2.2.2
def tysW (g : Gl) : List (ClassId × FieldType) := [(g.2.1.1, .int), (g.2.1.2, .long)]
def kdL : List Nat := [9, 7, 11, 3, 11, 2, 6, 11, 11, 11, 11, 11, 11, 11, 11, 2, 6, 11, 11, 11, 11, 11, 11, 11, 11, 0, 11, 11, 11, 11, 11, 11, 11, 11, 11, 11, 0, 11, 11, 11, 11, 11, 11, 11, 11, 11, 11, 1, 2, 6, 11, 11, 11, 11, 11, 11, 11, 11, 0, 11, 11, 11, 11, 11, 11, 11, 11, 11, 11, 11, 11, 11, 11, 8, 12, 12, 11, 12, 11, 8, 12, 12, 11, 12, 11, 4, 0, 11, 11, 11, 11, 11, 11, 11, 11, 11, 11, 11, 12, 11, 5, 11, 11, 10, 11, 11, 11, 11, 11, 11, 11, 11, 11, 11, 11, 11, 11, 11, 11, 11, 11, 11, 11, 11, 11, 11, 12, 12, 12]
def lnL : List Nat := [0, 0, 300, 0, 5, 0, 0, 6, 6, 6, 6, 18, 18, 8, 8, 0, 0, 6, 6, 6, 6, 18, 18, 8, 8, 0, 8, 8, 8, 8, 8, 8, 8, 24, 24, 8, 0, 8, 8, 8, 8, 8, 8, 8, 24, 24, 8, 0, 0, 0, 6, 6, 6, 6, 18, 18, 8, 8, 0, 8, 8, 8, 8, 8, 8, 8, 24, 24, 8, 8, 9, 9, 9, 0, 8, 8, 8, 9, 9, 0, 8, 8, 8, 9, 9, 0, 0, 8, 8, 8, 8, 8, 8, 8, 24, 24, 8, 8, 549, 8, 0, 16, 2, 0, 300, 20, 2, 12, 12, 12, 12, 12, 12, 12, 36, 36, 8, 8, 3, 24, 5, 8, 8, 8, 8, 8, 8100, 900, 900]
def kdT (i : Nat) : Nat := kdL.getD i 99
def lnT (i : Nat) : Nat := lnL.getD i 0
def kd (g : Gl) (i : Nat) : Nat := if i < npl g then kdT i else 99
/-- an object or row that is there from the class's own constructor on -/
def kdE (i : Nat) : Nat := if i < 103 then kdT i else 99
def up2 {α : Type} (f : Nat → Nat → α) (c k : Nat) (v : α) : Nat → Nat → α := fun a => if a = c then (fun b => if b = k then v else f c b) else f a
theorem up2_at {α : Type} (f : Nat → Nat → α) (c k : Nat) (v : α) : up2 f c k v c = fun b => if b = k then v else f c b := if_pos rfl
theorem up2_ne {α : Type} (f : Nat → Nat → α) {c a : Nat} (k : Nat) (v : α) (h : a ≠ c) : up2 f c k v a = f a := if_neg h
/-- the whole of one row anew -/
def up1 {α : Type} (f : Nat → Nat → α) (c : Nat) (r : Nat → α) : Nat → Nat → α := fun a => if a = c then r else f a
theorem up1_at {α : Type} (f : Nat → Nat → α) (c : Nat) (r : Nat → α) : up1 f c r c = r := if_pos rfl
theorem up1_ne {α : Type} (f : Nat → Nat → α) {c a : Nat} (r : Nat → α) (h : a ≠ c) : up1 f c r a = f a := if_neg h
def pI (S : St) (c k : Nat) (v : Int32) : St := (up2 S.1 c k v, S.2.1, S.2.2)
def pJ (S : St) (c k : Nat) (v : Int64) : St := (S.1, up2 S.2.1 c k v, S.2.2)
def pR (S : St) (c k : Nat) (v : Nat) : St := (S.1, S.2.1, up2 S.2.2 c k v)
def pRow (S : St) (c : Nat) (r : Nat → Int32) : St := (up1 S.1 c r, S.2.1, S.2.2)
def fs0 (g : Gl) (i : Nat) (fI : Nat → Int32) (fJ : Nat → Int64) (fR : Nat → Nat) : List Value := [.int (fI 0), .ref (ad g (i + 1)), .ref (ad g (i + 2)), .ref (ad g (i + 3)), .ref (ad g (i + 4)), .ref (ad g (i + 5)), .ref (ad g (i + 6)), .ref (ad g (i + 7)), .ref (ad g (i + 8)), .ref (ad g (i + 9)), .ref (ad g (i + 10))]
def fs1 (g : Gl) (i : Nat) (fI : Nat → Int32) (fJ : Nat → Int64) (fR : Nat → Nat) : List Value := [.ref (ad g (fR 0)), .ref (ad g (fR 1)), .int (fI 2), .int (fI 3), .int (fI 4), .int (fI 5), .int (fI 6), .ref (ad g (i + 22)), .ref (ad g (i + 23)), .ref (ad g (i + 24)), .ref (ad g (i + 25))]
def fs2 (g : Gl) (i : Nat) (fI : Nat → Int32) (fJ : Nat → Int64) (fR : Nat → Nat) : List Value := [.int (fI 0), .int (fI 1), .int (fI 2), .int (fI 3), .int (fI 4), .int (fI 5), .int (fI 6), .int (fI 7), .int (fI 8), .int (fI 9), .ref (ad g (i + 1))]
def fs3 (g : Gl) (i : Nat) (fI : Nat → Int32) (fJ : Nat → Int64) (fR : Nat → Nat) : List Value := [.ref (ad g (i + 1)), .int (fI 1)]
def fs4 (g : Gl) (i : Nat) (fI : Nat → Int32) (fJ : Nat → Int64) (fR : Nat → Nat) : List Value := [.ref (ad g (fR 0)), .int (fI 1), .int (fI 2), .int (fI 3), .ref (ad g (i + 12)), .ref (ad g (i + 13))]
def fs5 (g : Gl) (i : Nat) (fI : Nat → Int32) (fJ : Nat → Int64) (fR : Nat → Nat) : List Value := [.int (fI 0), .ref (ad g (i + 1)), .ref (ad g (i + 2))]
def fs6 (g : Gl) (i : Nat) (fI : Nat → Int32) (fJ : Nat → Int64) (fR : Nat → Nat) : List Value := [.int (fI 0), .int (fI 1), .ref (ad g (i + 1)), .ref (ad g (i + 2)), .ref (ad g (i + 3)), .ref (ad g (i + 4)), .ref (ad g (i + 5)), .ref (ad g (i + 6)), .ref (ad g (i + 7)), .ref (ad g (i + 8))]
def fs7 (g : Gl) (i : Nat) (fI : Nat → Int32) (fJ : Nat → Int64) (fR : Nat → Nat) : List Value := [.ref (ad g (i + 1)), .int (fI 1)]
def fs8 (g : Gl) (i : Nat) (fI : Nat → Int32) (fJ : Nat → Int64) (fR : Nat → Nat) : List Value := [.long (fJ 0), .long (fJ 1), .long (fJ 2), .long (fJ 3), .long (fJ 4), .ref (ad g (i + 1)), .ref (ad g (i + 2)), .ref (ad g (i + 3)), .ref (ad g (i + 4)), .ref (ad g (i + 5))]
def fs9 (g : Gl) (i : Nat) (fI : Nat → Int32) (fJ : Nat → Int64) (fR : Nat → Nat) : List Value := [.ref (ad g (i + 1)), .ref (ad g (i + 3)), .ref (ad g (fR 2)), .ref (ad g (fR 3)), .ref (ad g (i + 25)), .ref (ad g (i + 36)), .ref (ad g (i + 47)), .ref (ad g (i + 73)), .ref (ad g (i + 79)), .ref (ad g (i + 85)), .ref (ad g (i + 99)), .int (fI 11), .ref (ad g (i + 100)), .int (fI 13), .int (fI 14), .int (fI 15), .int (fI 16), .long (fJ 17), .long (fJ 18)]
def cellOf (g : Gl) (k i : Nat) (fI : Nat → Int32) (fJ : Nat → Int64) (fR : Nat → Nat) : va_E :=
  if k = 0 then .inr (0, fs0 g i fI fJ fR) else
  if k = 1 then .inr (1, fs1 g i fI fJ fR) else
  if k = 2 then .inr (2, fs2 g i fI fJ fR) else
  if k = 3 then .inr (3, fs3 g i fI fJ fR) else
  if k = 4 then .inr (4, fs4 g i fI fJ fR) else
  if k = 5 then .inr (5, fs5 g i fI fJ fR) else
  if k = 6 then .inr (6, fs6 g i fI fJ fR) else
  if k = 7 then .inr (7, fs7 g i fI fJ fR) else
  if k = 8 then .inr (8, fs8 g i fI fJ fR) else
  if k = 9 then .inr (9, fs9 g i fI fJ fR) else
  if k = 11 then .inl (g.2.1.1, lnT i, .inl fI) else .inl (g.2.1.2, lnT i, .inr (.inl fJ))
def cell (g : Gl) (S : St) (i : Nat) : va_E := cellOf g (kdT i) i (S.1 i) (S.2.1 i) (S.2.2 i)
def pool (g : Gl) (S : St) : va_W := (List.range (npl g)).map (fun i => (ad g i, cell g S i))
def GOK (g : Gl) : Prop := (npl g = 103 ∨ npl g = 129) ∧ ∀ i j, i < npl g → j < npl g → ad g i = ad g j → i = j
def Ap (g : Gl) : Nat → Prop := fun q => ∃ i, i < npl g ∧ ad g i = q
theorem kd_lt {g : Gl} {i k : Nat} (h : kd g i = k) (hk : k < 99) : i < npl g ∧ kdT i = k := by
  unfold kd at h
  by_cases hi : i < npl g
  · rw [if_pos hi] at h; exact ⟨hi, h⟩
  · rw [if_neg hi] at h; omega
theorem kd_of {g : Gl} (hg : GOK g) {i k : Nat} (h : kdE i = k) (hk : k < 99) : kd g i = k := by
  unfold kdE at h
  by_cases hi : i < 103
  · rw [if_pos hi] at h
    have : i < npl g := by rcases hg.1 with e | e <;> omega
    unfold kd; rw [if_pos this]; exact h
  · rw [if_neg hi] at h; omega
theorem pool_get {g : Gl} {S : St} {i : Nat} (h : i < npl g) : (pool g S)[i]? = some (ad g i, cell g S i) := by
  unfold pool
  rw [List.getElem?_map, List.getElem?_range h]; rfl
theorem pool_len (g : Gl) (S : St) : (pool g S).length = npl g := by unfold pool; rw [List.length_map, List.length_range]
theorem pool_some {g : Gl} {S : St} {k : Nat} {q : Nat × va_E} (h : (pool g S)[k]? = some q) : k < npl g ∧ q = (ad g k, cell g S k) := by
  have hk : k < npl g := by
    rcases Nat.lt_or_ge k (npl g) with h1 | h1
    · exact h1
    · rw [List.getElem?_eq_none (by rw [pool_len]; exact h1)] at h; cases h
  rw [pool_get hk] at h
  exact ⟨hk, (Option.some.inj h).symm⟩
theorem pool_D {g : Gl} {S : St} {A : Nat → Prop} (hg : GOK g) (hA : ∀ i, i < npl g → A (ad g i)) : va_D A (pool g S) := by
  refine ⟨fun i j p q hi hj h => ?_, fun k q hk => ?_⟩
  · obtain ⟨h1, rfl⟩ := pool_some hi
    obtain ⟨h2, rfl⟩ := pool_some hj
    exact hg.2 i j h1 h2 h
  · obtain ⟨h1, rfl⟩ := pool_some hk
    exact hA k h1
theorem pool_set {g : Gl} {S S' : St} {i : Nat} {e : va_E} (h : i < npl g) (he : e = cell g S' i) (ho : ∀ j, j ≠ i → cell g S' j = cell g S j) : (pool g S).set i (ad g i, e) = pool g S' := by
  apply List.ext_getElem?
  intro j
  by_cases hj : j < npl g
  · by_cases hji : j = i
    · subst hji
      rw [List.getElem?_set_self (by rw [pool_len]; exact h), pool_get h, he]
    · rw [List.getElem?_set_ne (fun e => hji e.symm), pool_get hj, pool_get hj, ho j hji]
  · rw [List.getElem?_eq_none (by rw [List.length_set, pool_len]; omega), List.getElem?_eq_none (by rw [pool_len]; omega)]
theorem cell_pI {g : Gl} {S : St} {c k : Nat} {v : Int32} : ∀ j, j ≠ c → cell g (pI S c k v) j = cell g S j := fun j h => by
  unfold cell pI; dsimp only; rw [up2_ne _ _ _ h]
theorem cell_pJ {g : Gl} {S : St} {c k : Nat} {v : Int64} : ∀ j, j ≠ c → cell g (pJ S c k v) j = cell g S j := fun j h => by
  unfold cell pJ; dsimp only; rw [up2_ne _ _ _ h]
theorem cell_pR {g : Gl} {S : St} {c k : Nat} {v : Nat} : ∀ j, j ≠ c → cell g (pR S c k v) j = cell g S j := fun j h => by
  unfold cell pR; dsimp only; rw [up2_ne _ _ _ h]
theorem cell_pRow {g : Gl} {S : St} {c : Nat} {r : Nat → Int32} : ∀ j, j ≠ c → cell g (pRow S c r) j = cell g S j := fun j h => by
  unfold cell pRow; dsimp only; rw [up1_ne _ _ h]
theorem cell_eqI {g : Gl} {S : St} {i : Nat} (h : kdT i = 11) : cell g S i = .inl (g.2.1.1, lnT i, .inl (S.1 i)) := by unfold cell; rw [h]; rfl
theorem cell_eqJ {g : Gl} {S : St} {i : Nat} (h : kdT i = 12) : cell g S i = .inl (g.2.1.2, lnT i, .inr (.inl (S.2.1 i))) := by unfold cell; rw [h]; rfl
/-! checks that the functional text makes -/
def ob {α : Type} (i : Int32) (n : Nat) (k : Option α) : Option α := if i < 0 ∨ n ≤ i.toNatClampNeg then none else k
theorem ob_some {α : Type} {i : Int32} {n : Nat} {k : Option α} {r : α} (h : ob i n k = some r) : vp_in i n ∧ k = some r := by
  unfold ob at h
  by_cases hc : i < 0 ∨ n ≤ i.toNatClampNeg
  · rw [if_pos hc] at h; cases h
  · rw [if_neg hc] at h; exact ⟨hc, h⟩
theorem ob_in {α : Type} {i : Int32} {n : Nat} {k : Option α} (h : vp_in i n) : ob i n k = k := if_neg h
def ck {α : Type} (p : Prop) [Decidable p] (k : Option α) : Option α := if p then k else none
theorem ck_some {α : Type} {p : Prop} [Decidable p] {k : Option α} {r : α} (h : ck p k = some r) : p ∧ k = some r := by
  unfold ck at h
  by_cases hc : p
  · rw [if_pos hc] at h; exact ⟨hc, h⟩
  · rw [if_neg hc] at h; cases h
def bd {α β : Type} (o : Option (α × St)) (k : α → St → Option β) : Option β := match o with
  | none => none
  | some q => k q.1 q.2
theorem bd_some {α β : Type} {o : Option (α × St)} {k : α → St → Option β} {r : β} (h : bd o k = some r) : ∃ v S, o = some (v, S) ∧ k v S = some r := by
  cases o with
  | none => cases h
  | some q => exact ⟨q.1, q.2, rfl, h⟩
def sq {α β : Type} (a : α) (k : α → β) : β := k a
theorem sq_eq {α β : Type} {a : α} {k : α → Option β} {r : β} (h : sq a k = some r) : k a = some r := h
def imax (x y : Int32) : Int32 := if x < y then y else x
def imin (x y : Int32) : Int32 := if y < x then y else x
def FU : Nat := 10000
def lvg : List (Nat × Value) → Nat → Option Value
  | [], _ => none
  | q :: t, i => if q.1 = i then some q.2 else lvg t i
theorem lvg_mem : ∀ {lv : List (Nat × Value)} {i : Nat} {v : Value}, lvg lv i = some v → (i, v) ∈ lv
  | [], _, _, h => by cases h
  | q :: t, i, v, h => by
    unfold lvg at h
    by_cases hq : q.1 = i
    · rw [if_pos hq] at h
      have : q = (i, v) := by rw [← hq, ← Option.some.inj h]
      rw [this]; exact List.mem_cons_self
    · rw [if_neg hq] at h; exact List.mem_cons_of_mem _ (lvg_mem h)
theorem lvg_at {ls : Array Slot} {nL : Nat} {lv : List (Nat × Value)} {i : Nat} {v : Value} (hl : lv_has ls nL lv) (h : lvg lv i = some v) : ls[i]? = some (.val v) := hl.2.2 (i, v) (lvg_mem h)
/-- the list lv' says nothing that lv doesn't -/
def lvsub (lv : List (Nat × Value)) : List (Nat × Value) → Prop
  | [] => True
  | q :: t => lvg lv q.1 = some q.2 ∧ lvsub lv t
theorem lvsub_has {ls : Array Slot} {nL : Nat} {lv : List (Nat × Value)} (hl : lv_has ls nL lv) : ∀ {lv' : List (Nat × Value)}, lvsub lv lv' → lv_has ls nL lv'
  | [], _ => ⟨hl.1, hl.2.1, fun _ h => absurd h List.not_mem_nil⟩
  | q :: t, h => ⟨hl.1, hl.2.1, fun r hr => by
      rcases List.mem_cons.mp hr with rfl | hr
      · exact lvg_at hl h.1
      · exact (lvsub_has hl h.2).2.2 r hr⟩
/-- the tables' words that a call keeps, and those of nest mates, which it keeps in their own way -/
def lw_g : List Cond := lw_tbl.filter goodWord
theorem lwm (i : Nat) {w : Cond} (h : lw_tbl[i]? = some w) (hg : goodWord w = true) : w ∈ lw_g := List.mem_filter.mpr ⟨List.mem_of_getElem? h, hg⟩
def isNest : Cond → Bool
  | .methodLinkNest .. => true
  | _ => false
def NW (s : State) : Prop := ∀ w ∈ lw_tbl, isNest w = true → va_Nw w s
theorem NW.warm {s U : State} (hW : s.WarmedH U.vm) (h : NW s) : NW U := fun w hw hn => by
  cases w <;> first | (exact va_Nw.warmM hW (h _ hw hn)) | (cases hn)
theorem NW.same {s U : State} (hv : s.vm = U.vm) (h : NW s) : NW U := fun w hw hn => by
  cases w <;> first | (exact va_Nw.same rfl hv (h _ hw hn)) | (cases hn)
def Cx (p : Program) (s : State) (m : MethodId) (args : Array Value) (meth : Method) (c : Code) (cc : ByteArray) (nL : Nat) (ret : Option FieldType) (own : String) (g : Gl) (A : Nat → Prop) : Prop :=
  p.tables.exec = Jvm.exec ∧ c.code = cc ∧ c.maxLocals = nL ∧ s.vm.findClass own = some m.cls ∧ (∀ w ∈ lw_g, w.before args s = true) ∧ va_K g.1 vwCl (tysW g) s ∧ GOK g ∧ (∀ i, i < npl g → A (ad g i)) ∧ meth.sig.returnType = ret ∧ meth.locks = false ∧ NW s
section WAR
variable {p : Program} {l : Launch} {e : Env} {R : Room} {s : State} {m : MethodId} {args : Array Value} {below : List Frame} {meth : Method} {c : Code} {cells slots : Nat} {Q : State → Prop} {cc : ByteArray} {nL : Nat} {ret : Option FieldType} {own : String} {g : Gl} {A : Nat → Prop}
def WA (p : Program) (l : Launch) (e : Env) (R : Room) (s : State) (m : MethodId) (args : Array Value) (below : List Frame) (meth : Method) (c : Code) (cells slots : Nat) (Q : State → Prop) (nL : Nat) (g : Gl) (A : Nat → Prop) (S : St) (pc : Nat) (lv : List (Nat × Value)) (st : List Value) : Prop :=
  ∀ (H : Heap) (locs : List Loc) (ls : Array Slot), va_P g.1 vwCl (pool g S) H → va_S A s.heap H locs → lv_has ls nL lv → W p l e R s m args below meth c H locs cells slots Q (F0 m pc ls st)
variable {S : St} {pc : Nat} {lv : List (Nat × Value)} {st : List Value}
theorem wa_sub {lv' : List (Nat × Value)} (h : lvsub lv lv') (k : WA p l e R s m args below meth c cells slots Q nL g A S pc lv' st) : WA p l e R s m args below meth c cells slots Q nL g A S pc lv st := fun H locs ls hP hS hl => k H locs ls hP hS (lvsub_has hl h)
theorem wa_iconst (cx : Cx p s m args meth c cc nL ret own g A) {n : Int} (hdg : decode cc pc = .ok (.iconst n, 1)) (v : Int32) (hv : Int32.ofInt n = v) (k : WA p l e R s m args below meth c cells slots Q nL g A S (pc + 1) lv (.int v :: st)) : WA p l e R s m args below meth c cells slots Q nL g A S pc lv st := fun H locs ls hP hS hl => lv_iconst cx.1 cx.2.1 hdg hv (k H locs ls hP hS hl)
theorem wa_bipush (cx : Cx p s m args meth c cc nL ret own g A) {n : Int} (hdg : decode cc pc = .ok (.bipush n, 2)) (v : Int32) (hv : (Int8.ofInt n).toInt32 = v) (k : WA p l e R s m args below meth c cells slots Q nL g A S (pc + 2) lv (.int v :: st)) : WA p l e R s m args below meth c cells slots Q nL g A S pc lv st := fun H locs ls hP hS hl => lv_bipush cx.1 cx.2.1 hdg hv (k H locs ls hP hS hl)
theorem wa_sipush (cx : Cx p s m args meth c cc nL ret own g A) {n : Int} (hdg : decode cc pc = .ok (.sipush n, 3)) (v : Int32) (hv : (Int16.ofInt n).toInt32 = v) (k : WA p l e R s m args below meth c cells slots Q nL g A S (pc + 3) lv (.int v :: st)) : WA p l e R s m args below meth c cells slots Q nL g A S pc lv st := fun H locs ls hP hS hl => lv_sipush cx.1 cx.2.1 hdg hv (k H locs ls hP hS hl)
theorem wa_lconst (cx : Cx p s m args meth c cc nL ret own g A) {n : Fin 2} (hdg : decode cc pc = .ok (.lconst n, 1)) (v : Int64) (hv : Int64.ofNat (n : Nat) = v) (k : WA p l e R s m args below meth c cells slots Q nL g A S (pc + 1) lv (.long v :: st)) : WA p l e R s m args below meth c cells slots Q nL g A S pc lv st := fun H locs ls hP hS hl => lv_lconst cx.1 cx.2.1 hdg hv (k H locs ls hP hS hl)
theorem wa_ldc2 (cx : Cx p s m args meth c cc nL ret own g A) {index : Nat} (hdg : decode cc pc = .ok (.ldc2_w index, 3)) (v : Int64) (hc : Cond.constantLong own index v ∈ lw_g) (k : WA p l e R s m args below meth c cells slots Q nL g A S (pc + 3) lv (.long v :: st)) : WA p l e R s m args below meth c cells slots Q nL g A S pc lv st := fun H locs ls hP hS hl => lv_ldc2 cx.1 cx.2.1 cx.2.2.2.1 (cx.2.2.2.2.1 _ hc) hdg (k H locs ls hP hS hl)
theorem wa_ldc (cx : Cx p s m args meth c cc nL ret own g A) {index : Nat} (hdg : decode cc pc = .ok (.ldc index, 2)) (v : Int32) (hc : Cond.constant own index v ∈ lw_g) (k : WA p l e R s m args below meth c cells slots Q nL g A S (pc + 2) lv (.int v :: st)) : WA p l e R s m args below meth c cells slots Q nL g A S pc lv st := fun H locs ls hP hS hl => lv_ldc cx.1 cx.2.1 cx.2.2.2.1 (cx.2.2.2.2.1 _ hc) hdg (k H locs ls hP hS hl)
theorem wa_ishr (cx : Cx p s m args meth c cc nL ret own g A) {x y : Int32} (hdg : decode cc pc = .ok (.ishr, 1)) (k : WA p l e R s m args below meth c cells slots Q nL g A S (pc + 1) lv (.int (x >>> (y &&& 31)) :: st)) : WA p l e R s m args below meth c cells slots Q nL g A S pc lv (.int y :: .int x :: st) := fun H locs ls hP hS hl => lv_ishr cx.1 cx.2.1 hdg (k H locs ls hP hS hl)
theorem wa_iload_n (cx : Cx p s m args meth c cc nL ret own g A) {k0 : Fin 4} {i : Nat} {x : Int32} (hdg : decode cc pc = .ok (.iload_n k0, 1)) (hi : (k0 : Nat) = i) (hv : lvg lv i = some (.int x)) (k : WA p l e R s m args below meth c cells slots Q nL g A S (pc + 1) lv (.int x :: st)) : WA p l e R s m args below meth c cells slots Q nL g A S pc lv st := fun H locs ls hP hS hl => lv_iload_n cx.1 cx.2.1 hdg hi (lvg_at hl hv) (k H locs ls hP hS hl)
theorem wa_iload (cx : Cx p s m args meth c cc nL ret own g A) {i : Nat} {x : Int32} (hdg : decode cc pc = .ok (.iload i, 2)) (hv : lvg lv i = some (.int x)) (k : WA p l e R s m args below meth c cells slots Q nL g A S (pc + 2) lv (.int x :: st)) : WA p l e R s m args below meth c cells slots Q nL g A S pc lv st := fun H locs ls hP hS hl => lv_iload cx.1 cx.2.1 hdg (lvg_at hl hv) (k H locs ls hP hS hl)
theorem wa_istore_n (cx : Cx p s m args meth c cc nL ret own g A) {k0 : Fin 4} {i : Nat} {x : Int32} {lv1 : List (Nat × Value)} (hdg : decode cc pc = .ok (.istore_n k0, 1)) (lv2 : List (Nat × Value)) (hi : (k0 : Nat) = i) (hn : i < nL) (hf : (i, Value.int x) :: lv.filter (fun q => !(q.1 == i) && !(q.1 + 1 == i && q.2.category == 2)) = lv1) (hsub : lvsub lv1 lv2) (k : WA p l e R s m args below meth c cells slots Q nL g A S (pc + 1) lv2 st) : WA p l e R s m args below meth c cells slots Q nL g A S pc lv (.int x :: st) := fun H locs ls hP hS hl => lv_istore_n cx.1 cx.2.1 hdg hi hl hn hf (fun ls2 hl2 => k H locs ls2 hP hS (lvsub_has hl2 hsub))
theorem wa_istore (cx : Cx p s m args meth c cc nL ret own g A) {i : Nat} {x : Int32} {lv1 : List (Nat × Value)} (hdg : decode cc pc = .ok (.istore i, 2)) (lv2 : List (Nat × Value)) (hn : i < nL) (hf : (i, Value.int x) :: lv.filter (fun q => !(q.1 == i) && !(q.1 + 1 == i && q.2.category == 2)) = lv1) (hsub : lvsub lv1 lv2) (k : WA p l e R s m args below meth c cells slots Q nL g A S (pc + 2) lv2 st) : WA p l e R s m args below meth c cells slots Q nL g A S pc lv (.int x :: st) := fun H locs ls hP hS hl => lv_istore cx.1 cx.2.1 hdg hl hn hf (fun ls2 hl2 => k H locs ls2 hP hS (lvsub_has hl2 hsub))
theorem wa_lload_n (cx : Cx p s m args meth c cc nL ret own g A) {k0 : Fin 4} {i : Nat} {x : Int64} (hdg : decode cc pc = .ok (.lload_n k0, 1)) (hi : (k0 : Nat) = i) (hv : lvg lv i = some (.long x)) (k : WA p l e R s m args below meth c cells slots Q nL g A S (pc + 1) lv (.long x :: st)) : WA p l e R s m args below meth c cells slots Q nL g A S pc lv st := fun H locs ls hP hS hl => lv_lload_n cx.1 cx.2.1 hdg hi (lvg_at hl hv) (k H locs ls hP hS hl)
theorem wa_lload (cx : Cx p s m args meth c cc nL ret own g A) {i : Nat} {x : Int64} (hdg : decode cc pc = .ok (.lload i, 2)) (hv : lvg lv i = some (.long x)) (k : WA p l e R s m args below meth c cells slots Q nL g A S (pc + 2) lv (.long x :: st)) : WA p l e R s m args below meth c cells slots Q nL g A S pc lv st := fun H locs ls hP hS hl => lv_lload cx.1 cx.2.1 hdg (lvg_at hl hv) (k H locs ls hP hS hl)
theorem wa_lstore_n (cx : Cx p s m args meth c cc nL ret own g A) {k0 : Fin 4} {i : Nat} {x : Int64} {lv1 : List (Nat × Value)} (hdg : decode cc pc = .ok (.lstore_n k0, 1)) (lv2 : List (Nat × Value)) (hi : (k0 : Nat) = i) (hn : i + 1 < nL) (hf : (i, Value.long x) :: lv.filter (fun q => !(q.1 == i) && (!(q.1 == i + 1) && !(q.1 + 1 == i && q.2.category == 2))) = lv1) (hsub : lvsub lv1 lv2) (k : WA p l e R s m args below meth c cells slots Q nL g A S (pc + 1) lv2 st) : WA p l e R s m args below meth c cells slots Q nL g A S pc lv (.long x :: st) := fun H locs ls hP hS hl => lv_lstore_n cx.1 cx.2.1 hdg hi hl hn hf (fun ls2 hl2 => k H locs ls2 hP hS (lvsub_has hl2 hsub))
theorem wa_lstore (cx : Cx p s m args meth c cc nL ret own g A) {i : Nat} {x : Int64} {lv1 : List (Nat × Value)} (hdg : decode cc pc = .ok (.lstore i, 2)) (lv2 : List (Nat × Value)) (hn : i + 1 < nL) (hf : (i, Value.long x) :: lv.filter (fun q => !(q.1 == i) && (!(q.1 == i + 1) && !(q.1 + 1 == i && q.2.category == 2))) = lv1) (hsub : lvsub lv1 lv2) (k : WA p l e R s m args below meth c cells slots Q nL g A S (pc + 2) lv2 st) : WA p l e R s m args below meth c cells slots Q nL g A S pc lv (.long x :: st) := fun H locs ls hP hS hl => lv_lstore cx.1 cx.2.1 hdg hl hn hf (fun ls2 hl2 => k H locs ls2 hP hS (lvsub_has hl2 hsub))
theorem wa_aload_n (cx : Cx p s m args meth c cc nL ret own g A) {k0 : Fin 4} {i : Nat} {x : Nat} (hdg : decode cc pc = .ok (.aload_n k0, 1)) (hi : (k0 : Nat) = i) (hv : lvg lv i = some (.ref x)) (k : WA p l e R s m args below meth c cells slots Q nL g A S (pc + 1) lv (.ref x :: st)) : WA p l e R s m args below meth c cells slots Q nL g A S pc lv st := fun H locs ls hP hS hl => lv_aload_n cx.1 cx.2.1 hdg hi (lvg_at hl hv) (k H locs ls hP hS hl)
theorem wa_aload (cx : Cx p s m args meth c cc nL ret own g A) {i : Nat} {x : Nat} (hdg : decode cc pc = .ok (.aload i, 2)) (hv : lvg lv i = some (.ref x)) (k : WA p l e R s m args below meth c cells slots Q nL g A S (pc + 2) lv (.ref x :: st)) : WA p l e R s m args below meth c cells slots Q nL g A S pc lv st := fun H locs ls hP hS hl => lv_aload cx.1 cx.2.1 hdg (lvg_at hl hv) (k H locs ls hP hS hl)
theorem wa_astore_n (cx : Cx p s m args meth c cc nL ret own g A) {k0 : Fin 4} {i : Nat} {x : Nat} {lv1 : List (Nat × Value)} (hdg : decode cc pc = .ok (.astore_n k0, 1)) (lv2 : List (Nat × Value)) (hi : (k0 : Nat) = i) (hn : i < nL) (hf : (i, Value.ref x) :: lv.filter (fun q => !(q.1 == i) && !(q.1 + 1 == i && q.2.category == 2)) = lv1) (hsub : lvsub lv1 lv2) (k : WA p l e R s m args below meth c cells slots Q nL g A S (pc + 1) lv2 st) : WA p l e R s m args below meth c cells slots Q nL g A S pc lv (.ref x :: st) := fun H locs ls hP hS hl => lv_astore_n cx.1 cx.2.1 hdg hi hl hn hf (fun ls2 hl2 => k H locs ls2 hP hS (lvsub_has hl2 hsub))
theorem wa_astore (cx : Cx p s m args meth c cc nL ret own g A) {i : Nat} {x : Nat} {lv1 : List (Nat × Value)} (hdg : decode cc pc = .ok (.astore i, 2)) (lv2 : List (Nat × Value)) (hn : i < nL) (hf : (i, Value.ref x) :: lv.filter (fun q => !(q.1 == i) && !(q.1 + 1 == i && q.2.category == 2)) = lv1) (hsub : lvsub lv1 lv2) (k : WA p l e R s m args below meth c cells slots Q nL g A S (pc + 2) lv2 st) : WA p l e R s m args below meth c cells slots Q nL g A S pc lv (.ref x :: st) := fun H locs ls hP hS hl => lv_astore cx.1 cx.2.1 hdg hl hn hf (fun ls2 hl2 => k H locs ls2 hP hS (lvsub_has hl2 hsub))
theorem lvg_ix : ∀ {lv : List (Nat × Value)} {i : Nat} {v : Value}, lvg lv i = some v → ∃ k : Nat, lv[k]? = some (i, v) := fun h => List.getElem?_of_mem (lvg_mem h)
theorem wa_iinc (cx : Cx p s m args meth c cc nL ret own g A) {i : Nat} {n : Int} {x : Int32} {lv1 : List (Nat × Value)} (hdg : decode cc pc = .ok (.iinc i n, 3)) (v : Int32) (lv2 : List (Nat × Value)) (hv : x + Int32.ofInt n = v) (hx : lvg lv i = some (.int x)) (hn : i < nL) (hf : (i, Value.int v) :: lv.filter (fun q => !(q.1 == i) && !(q.1 + 1 == i && q.2.category == 2)) = lv1) (hsub : lvsub lv1 lv2) (k : WA p l e R s m args below meth c cells slots Q nL g A S (pc + 3) lv2 st) : WA p l e R s m args below meth c cells slots Q nL g A S pc lv st := fun H locs ls hP hS hl => by
  obtain ⟨j, hj⟩ := lvg_ix hx
  exact lv_iinc cx.1 cx.2.1 hdg hl hj hv hn hf (fun ls2 hl2 => k H locs ls2 hP hS (lvsub_has hl2 hsub))
theorem wa_iadd (cx : Cx p s m args meth c cc nL ret own g A) {x y : Int32} (hdg : decode cc pc = .ok (.iadd, 1)) (k : WA p l e R s m args below meth c cells slots Q nL g A S (pc + 1) lv (.int (x + y) :: st)) : WA p l e R s m args below meth c cells slots Q nL g A S pc lv (.int y :: .int x :: st) := fun H locs ls hP hS hl => lv_iadd cx.1 cx.2.1 hdg (k H locs ls hP hS hl)
theorem wa_isub (cx : Cx p s m args meth c cc nL ret own g A) {x y : Int32} (hdg : decode cc pc = .ok (.isub, 1)) (k : WA p l e R s m args below meth c cells slots Q nL g A S (pc + 1) lv (.int (x - y) :: st)) : WA p l e R s m args below meth c cells slots Q nL g A S pc lv (.int y :: .int x :: st) := fun H locs ls hP hS hl => lv_isub cx.1 cx.2.1 hdg (k H locs ls hP hS hl)
theorem wa_imul (cx : Cx p s m args meth c cc nL ret own g A) {x y : Int32} (hdg : decode cc pc = .ok (.imul, 1)) (k : WA p l e R s m args below meth c cells slots Q nL g A S (pc + 1) lv (.int (x * y) :: st)) : WA p l e R s m args below meth c cells slots Q nL g A S pc lv (.int y :: .int x :: st) := fun H locs ls hP hS hl => lv_imul cx.1 cx.2.1 hdg (k H locs ls hP hS hl)
theorem wa_iand (cx : Cx p s m args meth c cc nL ret own g A) {x y : Int32} (hdg : decode cc pc = .ok (.iand, 1)) (k : WA p l e R s m args below meth c cells slots Q nL g A S (pc + 1) lv (.int (x &&& y) :: st)) : WA p l e R s m args below meth c cells slots Q nL g A S pc lv (.int y :: .int x :: st) := fun H locs ls hP hS hl => lv_iand cx.1 cx.2.1 hdg (k H locs ls hP hS hl)
theorem wa_idiv (cx : Cx p s m args meth c cc nL ret own g A) {x y : Int32} (hdg : decode cc pc = .ok (.idiv, 1)) (hne : ¬ y = 0) (k : WA p l e R s m args below meth c cells slots Q nL g A S (pc + 1) lv (.int (x / y) :: st)) : WA p l e R s m args below meth c cells slots Q nL g A S pc lv (.int y :: .int x :: st) := fun H locs ls hP hS hl => lv_idiv cx.1 cx.2.1 hdg hne (k H locs ls hP hS hl)
theorem wa_irem (cx : Cx p s m args meth c cc nL ret own g A) {x y : Int32} (hdg : decode cc pc = .ok (.irem, 1)) (hne : ¬ y = 0) (k : WA p l e R s m args below meth c cells slots Q nL g A S (pc + 1) lv (.int (x - x / y * y) :: st)) : WA p l e R s m args below meth c cells slots Q nL g A S pc lv (.int y :: .int x :: st) := fun H locs ls hP hS hl => lv_irem cx.1 cx.2.1 hdg hne (k H locs ls hP hS hl)
theorem wa_ladd (cx : Cx p s m args meth c cc nL ret own g A) {x y : Int64} (hdg : decode cc pc = .ok (.ladd, 1)) (k : WA p l e R s m args below meth c cells slots Q nL g A S (pc + 1) lv (.long (x + y) :: st)) : WA p l e R s m args below meth c cells slots Q nL g A S pc lv (.long y :: .long x :: st) := fun H locs ls hP hS hl => lv_ladd cx.1 cx.2.1 hdg (k H locs ls hP hS hl)
theorem wa_lsub (cx : Cx p s m args meth c cc nL ret own g A) {x y : Int64} (hdg : decode cc pc = .ok (.lsub, 1)) (k : WA p l e R s m args below meth c cells slots Q nL g A S (pc + 1) lv (.long (x - y) :: st)) : WA p l e R s m args below meth c cells slots Q nL g A S pc lv (.long y :: .long x :: st) := fun H locs ls hP hS hl => lv_lsub cx.1 cx.2.1 hdg (k H locs ls hP hS hl)
theorem wa_lmul (cx : Cx p s m args meth c cc nL ret own g A) {x y : Int64} (hdg : decode cc pc = .ok (.lmul, 1)) (k : WA p l e R s m args below meth c cells slots Q nL g A S (pc + 1) lv (.long (x * y) :: st)) : WA p l e R s m args below meth c cells slots Q nL g A S pc lv (.long y :: .long x :: st) := fun H locs ls hP hS hl => lv_lmul cx.1 cx.2.1 hdg (k H locs ls hP hS hl)
theorem wa_land (cx : Cx p s m args meth c cc nL ret own g A) {x y : Int64} (hdg : decode cc pc = .ok (.land, 1)) (k : WA p l e R s m args below meth c cells slots Q nL g A S (pc + 1) lv (.long (x &&& y) :: st)) : WA p l e R s m args below meth c cells slots Q nL g A S pc lv (.long y :: .long x :: st) := fun H locs ls hP hS hl => lv_land cx.1 cx.2.1 hdg (k H locs ls hP hS hl)
theorem wa_lor (cx : Cx p s m args meth c cc nL ret own g A) {x y : Int64} (hdg : decode cc pc = .ok (.lor, 1)) (k : WA p l e R s m args below meth c cells slots Q nL g A S (pc + 1) lv (.long (x ||| y) :: st)) : WA p l e R s m args below meth c cells slots Q nL g A S pc lv (.long y :: .long x :: st) := fun H locs ls hP hS hl => lv_lor cx.1 cx.2.1 hdg (k H locs ls hP hS hl)
theorem wa_ldiv (cx : Cx p s m args meth c cc nL ret own g A) {x y : Int64} (hdg : decode cc pc = .ok (.ldiv, 1)) (hne : ¬ y = 0) (k : WA p l e R s m args below meth c cells slots Q nL g A S (pc + 1) lv (.long (x / y) :: st)) : WA p l e R s m args below meth c cells slots Q nL g A S pc lv (.long y :: .long x :: st) := fun H locs ls hP hS hl => lv_ldiv cx.1 cx.2.1 hdg hne (k H locs ls hP hS hl)
theorem wa_lrem (cx : Cx p s m args meth c cc nL ret own g A) {x y : Int64} (hdg : decode cc pc = .ok (.lrem, 1)) (hne : ¬ y = 0) (k : WA p l e R s m args below meth c cells slots Q nL g A S (pc + 1) lv (.long (x - x / y * y) :: st)) : WA p l e R s m args below meth c cells slots Q nL g A S pc lv (.long y :: .long x :: st) := fun H locs ls hP hS hl => lv_lrem cx.1 cx.2.1 hdg hne (k H locs ls hP hS hl)
theorem wa_lshl (cx : Cx p s m args meth c cc nL ret own g A) {x : Int64} {y : Int32} (hdg : decode cc pc = .ok (.lshl, 1)) (k : WA p l e R s m args below meth c cells slots Q nL g A S (pc + 1) lv (.long (x <<< (y.toInt64 &&& 63)) :: st)) : WA p l e R s m args below meth c cells slots Q nL g A S pc lv (.int y :: .long x :: st) := fun H locs ls hP hS hl => lv_lshl cx.1 cx.2.1 hdg rfl (k H locs ls hP hS hl)
theorem wa_lshr (cx : Cx p s m args meth c cc nL ret own g A) {x : Int64} {y : Int32} (hdg : decode cc pc = .ok (.lshr, 1)) (k : WA p l e R s m args below meth c cells slots Q nL g A S (pc + 1) lv (.long (x >>> (y.toInt64 &&& 63)) :: st)) : WA p l e R s m args below meth c cells slots Q nL g A S pc lv (.int y :: .long x :: st) := fun H locs ls hP hS hl => lv_lshr cx.1 cx.2.1 hdg rfl (k H locs ls hP hS hl)
theorem wa_lushr (cx : Cx p s m args meth c cc nL ret own g A) {x : Int64} {y : Int32} (hdg : decode cc pc = .ok (.lushr, 1)) (k : WA p l e R s m args below meth c cells slots Q nL g A S (pc + 1) lv (.long ((x.toUInt64 >>> (y.toInt64.toUInt64 &&& Int64.toUInt64 63)).toInt64) :: st)) : WA p l e R s m args below meth c cells slots Q nL g A S pc lv (.int y :: .long x :: st) := fun H locs ls hP hS hl => lv_lushr cx.1 cx.2.1 hdg rfl (k H locs ls hP hS hl)
theorem wa_i2l (cx : Cx p s m args meth c cc nL ret own g A) {x : Int32} (hdg : decode cc pc = .ok (.i2l, 1)) (k : WA p l e R s m args below meth c cells slots Q nL g A S (pc + 1) lv (.long x.toInt64 :: st)) : WA p l e R s m args below meth c cells slots Q nL g A S pc lv (.int x :: st) := fun H locs ls hP hS hl => lv_i2l cx.1 cx.2.1 hdg rfl (k H locs ls hP hS hl)
theorem wa_l2i (cx : Cx p s m args meth c cc nL ret own g A) {x : Int64} (hdg : decode cc pc = .ok (.l2i, 1)) (k : WA p l e R s m args below meth c cells slots Q nL g A S (pc + 1) lv (.int x.toInt32 :: st)) : WA p l e R s m args below meth c cells slots Q nL g A S pc lv (.long x :: st) := fun H locs ls hP hS hl => lv_l2i cx.1 cx.2.1 hdg rfl (k H locs ls hP hS hl)
theorem wa_dup (cx : Cx p s m args meth c cc nL ret own g A) {v : Value} (hdg : decode cc pc = .ok (.dup, 1)) (hv : v.category = 1) (k : WA p l e R s m args below meth c cells slots Q nL g A S (pc + 1) lv (v :: v :: st)) : WA p l e R s m args below meth c cells slots Q nL g A S pc lv (v :: st) := fun H locs ls hP hS hl => lv_dup cx.1 cx.2.1 hdg hv (k H locs ls hP hS hl)
theorem wa_dup2 (cx : Cx p s m args meth c cc nL ret own g A) {v u : Value} (hdg : decode cc pc = .ok (.dup2, 1)) (hv : v.category = 1) (hu : u.category = 1) (k : WA p l e R s m args below meth c cells slots Q nL g A S (pc + 1) lv (v :: u :: v :: u :: st)) : WA p l e R s m args below meth c cells slots Q nL g A S pc lv (v :: u :: st) := fun H locs ls hP hS hl => lv_dup2_11 cx.1 cx.2.1 hdg hv hu (k H locs ls hP hS hl)
theorem wa_dup2l (cx : Cx p s m args meth c cc nL ret own g A) {v : Value} (hdg : decode cc pc = .ok (.dup2, 1)) (hv : v.category = 2) (k : WA p l e R s m args below meth c cells slots Q nL g A S (pc + 1) lv (v :: v :: st)) : WA p l e R s m args below meth c cells slots Q nL g A S pc lv (v :: st) := fun H locs ls hP hS hl => lv_dup2_2 cx.1 cx.2.1 hdg hv (k H locs ls hP hS hl)
theorem wa_pop (cx : Cx p s m args meth c cc nL ret own g A) {v : Value} (hdg : decode cc pc = .ok (.pop, 1)) (hv : v.category = 1) (k : WA p l e R s m args below meth c cells slots Q nL g A S (pc + 1) lv st) : WA p l e R s m args below meth c cells slots Q nL g A S pc lv (v :: st) := fun H locs ls hP hS hl => lv_pop cx.1 cx.2.1 hdg hv (k H locs ls hP hS hl)
theorem wa_goto (cx : Cx p s m args meth c cc nL ret own g A) {off : Int} (hdg : decode cc pc = .ok (.goto off, 3)) (tgt : Nat) (ht : (pc : Int) + off = (tgt : Int)) (k : WA p l e R s m args below meth c cells slots Q nL g A S tgt lv st) : WA p l e R s m args below meth c cells slots Q nL g A S pc lv st := fun H locs ls hP hS hl => lv_goto cx.1 cx.2.1 hdg ht (k H locs ls hP hS hl)
theorem wa_icmp_eq (cx : Cx p s m args meth c cc nL ret own g A) {x y : Int32} {off : Int} (hdg : decode cc pc = .ok (.if_icmp .eq off, 3)) (tgt : Nat) (ht : (pc : Int) + off = (tgt : Int)) (kt : x = y → WA p l e R s m args below meth c cells slots Q nL g A S tgt lv st) (kf : ¬ x = y → WA p l e R s m args below meth c cells slots Q nL g A S (pc + 3) lv st) : WA p l e R s m args below meth c cells slots Q nL g A S pc lv (.int y :: .int x :: st) := fun H locs ls hP hS hl => lv_icmp_eq cx.1 cx.2.1 hdg ht (fun h => kt h H locs ls hP hS hl) (fun h => kf h H locs ls hP hS hl)
theorem wa_if_eq (cx : Cx p s m args meth c cc nL ret own g A) {x : Int32} {off : Int} (hdg : decode cc pc = .ok (.ifCond .eq off, 3)) (tgt : Nat) (ht : (pc : Int) + off = (tgt : Int)) (kt : x = 0 → WA p l e R s m args below meth c cells slots Q nL g A S tgt lv st) (kf : ¬ x = 0 → WA p l e R s m args below meth c cells slots Q nL g A S (pc + 3) lv st) : WA p l e R s m args below meth c cells slots Q nL g A S pc lv (.int x :: st) := fun H locs ls hP hS hl => lv_if_eq cx.1 cx.2.1 hdg ht (fun h => kt h H locs ls hP hS hl) (fun h => kf h H locs ls hP hS hl)
theorem wa_lcmp_eq (cx : Cx p s m args meth c cc nL ret own g A) {x y : Int64} {off : Int} (hdg : decode cc pc = .ok (.lcmp, 1)) (hdg2 : decode cc (pc + 1) = .ok (.ifCond .eq off, 3)) (tgt : Nat) (ht : ((pc + 1 : Nat) : Int) + off = (tgt : Int)) (kt : x = y → WA p l e R s m args below meth c cells slots Q nL g A S tgt lv st) (kf : ¬ x = y → WA p l e R s m args below meth c cells slots Q nL g A S (pc + 1 + 3) lv st) : WA p l e R s m args below meth c cells slots Q nL g A S pc lv (.long y :: .long x :: st) := fun H locs ls hP hS hl => W.lcmp cx.1 cx.2.1 hdg (lv_if_eq cx.1 cx.2.1 hdg2 ht (fun h => kt ((lg_cmp_eq x y).mp h) H locs ls hP hS hl) (fun h => kf (fun e => h ((lg_cmp_eq x y).mpr e)) H locs ls hP hS hl))
theorem wa_icmp_ne (cx : Cx p s m args meth c cc nL ret own g A) {x y : Int32} {off : Int} (hdg : decode cc pc = .ok (.if_icmp .ne off, 3)) (tgt : Nat) (ht : (pc : Int) + off = (tgt : Int)) (kt : ¬ x = y → WA p l e R s m args below meth c cells slots Q nL g A S tgt lv st) (kf : x = y → WA p l e R s m args below meth c cells slots Q nL g A S (pc + 3) lv st) : WA p l e R s m args below meth c cells slots Q nL g A S pc lv (.int y :: .int x :: st) := fun H locs ls hP hS hl => lv_icmp_ne cx.1 cx.2.1 hdg ht (fun h => kt h H locs ls hP hS hl) (fun h => kf h H locs ls hP hS hl)
theorem wa_if_ne (cx : Cx p s m args meth c cc nL ret own g A) {x : Int32} {off : Int} (hdg : decode cc pc = .ok (.ifCond .ne off, 3)) (tgt : Nat) (ht : (pc : Int) + off = (tgt : Int)) (kt : ¬ x = 0 → WA p l e R s m args below meth c cells slots Q nL g A S tgt lv st) (kf : x = 0 → WA p l e R s m args below meth c cells slots Q nL g A S (pc + 3) lv st) : WA p l e R s m args below meth c cells slots Q nL g A S pc lv (.int x :: st) := fun H locs ls hP hS hl => lv_if_ne cx.1 cx.2.1 hdg ht (fun h => kt h H locs ls hP hS hl) (fun h => kf h H locs ls hP hS hl)
theorem wa_lcmp_ne (cx : Cx p s m args meth c cc nL ret own g A) {x y : Int64} {off : Int} (hdg : decode cc pc = .ok (.lcmp, 1)) (hdg2 : decode cc (pc + 1) = .ok (.ifCond .ne off, 3)) (tgt : Nat) (ht : ((pc + 1 : Nat) : Int) + off = (tgt : Int)) (kt : ¬ x = y → WA p l e R s m args below meth c cells slots Q nL g A S tgt lv st) (kf : x = y → WA p l e R s m args below meth c cells slots Q nL g A S (pc + 1 + 3) lv st) : WA p l e R s m args below meth c cells slots Q nL g A S pc lv (.long y :: .long x :: st) := fun H locs ls hP hS hl => W.lcmp cx.1 cx.2.1 hdg (lv_if_ne cx.1 cx.2.1 hdg2 ht (fun h => kt (fun e => h ((lg_cmp_eq x y).mpr e)) H locs ls hP hS hl) (fun h => kf ((lg_cmp_eq x y).mp h) H locs ls hP hS hl))
theorem wa_icmp_lt (cx : Cx p s m args meth c cc nL ret own g A) {x y : Int32} {off : Int} (hdg : decode cc pc = .ok (.if_icmp .lt off, 3)) (tgt : Nat) (ht : (pc : Int) + off = (tgt : Int)) (kt : x < y → WA p l e R s m args below meth c cells slots Q nL g A S tgt lv st) (kf : ¬ x < y → WA p l e R s m args below meth c cells slots Q nL g A S (pc + 3) lv st) : WA p l e R s m args below meth c cells slots Q nL g A S pc lv (.int y :: .int x :: st) := fun H locs ls hP hS hl => lv_icmp_lt cx.1 cx.2.1 hdg ht (fun h => kt h H locs ls hP hS hl) (fun h => kf h H locs ls hP hS hl)
theorem wa_if_lt (cx : Cx p s m args meth c cc nL ret own g A) {x : Int32} {off : Int} (hdg : decode cc pc = .ok (.ifCond .lt off, 3)) (tgt : Nat) (ht : (pc : Int) + off = (tgt : Int)) (kt : x < 0 → WA p l e R s m args below meth c cells slots Q nL g A S tgt lv st) (kf : ¬ x < 0 → WA p l e R s m args below meth c cells slots Q nL g A S (pc + 3) lv st) : WA p l e R s m args below meth c cells slots Q nL g A S pc lv (.int x :: st) := fun H locs ls hP hS hl => lv_if_lt cx.1 cx.2.1 hdg ht (fun h => kt h H locs ls hP hS hl) (fun h => kf h H locs ls hP hS hl)
theorem wa_lcmp_lt (cx : Cx p s m args meth c cc nL ret own g A) {x y : Int64} {off : Int} (hdg : decode cc pc = .ok (.lcmp, 1)) (hdg2 : decode cc (pc + 1) = .ok (.ifCond .lt off, 3)) (tgt : Nat) (ht : ((pc + 1 : Nat) : Int) + off = (tgt : Int)) (kt : x < y → WA p l e R s m args below meth c cells slots Q nL g A S tgt lv st) (kf : ¬ x < y → WA p l e R s m args below meth c cells slots Q nL g A S (pc + 1 + 3) lv st) : WA p l e R s m args below meth c cells slots Q nL g A S pc lv (.long y :: .long x :: st) := fun H locs ls hP hS hl => W.lcmp cx.1 cx.2.1 hdg (lv_if_lt cx.1 cx.2.1 hdg2 ht (fun h => kt ((lg_cmp_lt x y).mp h) H locs ls hP hS hl) (fun h => kf (fun e => h ((lg_cmp_lt x y).mpr e)) H locs ls hP hS hl))
theorem wa_icmp_ge (cx : Cx p s m args meth c cc nL ret own g A) {x y : Int32} {off : Int} (hdg : decode cc pc = .ok (.if_icmp .ge off, 3)) (tgt : Nat) (ht : (pc : Int) + off = (tgt : Int)) (kt : y ≤ x → WA p l e R s m args below meth c cells slots Q nL g A S tgt lv st) (kf : ¬ y ≤ x → WA p l e R s m args below meth c cells slots Q nL g A S (pc + 3) lv st) : WA p l e R s m args below meth c cells slots Q nL g A S pc lv (.int y :: .int x :: st) := fun H locs ls hP hS hl => lv_icmp_ge cx.1 cx.2.1 hdg ht (fun h => kt h H locs ls hP hS hl) (fun h => kf h H locs ls hP hS hl)
theorem wa_if_ge (cx : Cx p s m args meth c cc nL ret own g A) {x : Int32} {off : Int} (hdg : decode cc pc = .ok (.ifCond .ge off, 3)) (tgt : Nat) (ht : (pc : Int) + off = (tgt : Int)) (kt : 0 ≤ x → WA p l e R s m args below meth c cells slots Q nL g A S tgt lv st) (kf : ¬ 0 ≤ x → WA p l e R s m args below meth c cells slots Q nL g A S (pc + 3) lv st) : WA p l e R s m args below meth c cells slots Q nL g A S pc lv (.int x :: st) := fun H locs ls hP hS hl => lv_if_ge cx.1 cx.2.1 hdg ht (fun h => kt h H locs ls hP hS hl) (fun h => kf h H locs ls hP hS hl)
theorem wa_lcmp_ge (cx : Cx p s m args meth c cc nL ret own g A) {x y : Int64} {off : Int} (hdg : decode cc pc = .ok (.lcmp, 1)) (hdg2 : decode cc (pc + 1) = .ok (.ifCond .ge off, 3)) (tgt : Nat) (ht : ((pc + 1 : Nat) : Int) + off = (tgt : Int)) (kt : y ≤ x → WA p l e R s m args below meth c cells slots Q nL g A S tgt lv st) (kf : ¬ y ≤ x → WA p l e R s m args below meth c cells slots Q nL g A S (pc + 1 + 3) lv st) : WA p l e R s m args below meth c cells slots Q nL g A S pc lv (.long y :: .long x :: st) := fun H locs ls hP hS hl => W.lcmp cx.1 cx.2.1 hdg (lv_if_ge cx.1 cx.2.1 hdg2 ht (fun h => kt ((lg_cmp_ge x y).mp h) H locs ls hP hS hl) (fun h => kf (fun e => h ((lg_cmp_ge x y).mpr e)) H locs ls hP hS hl))
theorem wa_icmp_gt (cx : Cx p s m args meth c cc nL ret own g A) {x y : Int32} {off : Int} (hdg : decode cc pc = .ok (.if_icmp .gt off, 3)) (tgt : Nat) (ht : (pc : Int) + off = (tgt : Int)) (kt : y < x → WA p l e R s m args below meth c cells slots Q nL g A S tgt lv st) (kf : ¬ y < x → WA p l e R s m args below meth c cells slots Q nL g A S (pc + 3) lv st) : WA p l e R s m args below meth c cells slots Q nL g A S pc lv (.int y :: .int x :: st) := fun H locs ls hP hS hl => lv_icmp_gt cx.1 cx.2.1 hdg ht (fun h => kt h H locs ls hP hS hl) (fun h => kf h H locs ls hP hS hl)
theorem wa_if_gt (cx : Cx p s m args meth c cc nL ret own g A) {x : Int32} {off : Int} (hdg : decode cc pc = .ok (.ifCond .gt off, 3)) (tgt : Nat) (ht : (pc : Int) + off = (tgt : Int)) (kt : 0 < x → WA p l e R s m args below meth c cells slots Q nL g A S tgt lv st) (kf : ¬ 0 < x → WA p l e R s m args below meth c cells slots Q nL g A S (pc + 3) lv st) : WA p l e R s m args below meth c cells slots Q nL g A S pc lv (.int x :: st) := fun H locs ls hP hS hl => lv_if_gt cx.1 cx.2.1 hdg ht (fun h => kt h H locs ls hP hS hl) (fun h => kf h H locs ls hP hS hl)
theorem wa_lcmp_gt (cx : Cx p s m args meth c cc nL ret own g A) {x y : Int64} {off : Int} (hdg : decode cc pc = .ok (.lcmp, 1)) (hdg2 : decode cc (pc + 1) = .ok (.ifCond .gt off, 3)) (tgt : Nat) (ht : ((pc + 1 : Nat) : Int) + off = (tgt : Int)) (kt : y < x → WA p l e R s m args below meth c cells slots Q nL g A S tgt lv st) (kf : ¬ y < x → WA p l e R s m args below meth c cells slots Q nL g A S (pc + 1 + 3) lv st) : WA p l e R s m args below meth c cells slots Q nL g A S pc lv (.long y :: .long x :: st) := fun H locs ls hP hS hl => W.lcmp cx.1 cx.2.1 hdg (lv_if_gt cx.1 cx.2.1 hdg2 ht (fun h => kt ((lg_cmp_gt x y).mp h) H locs ls hP hS hl) (fun h => kf (fun e => h ((lg_cmp_gt x y).mpr e)) H locs ls hP hS hl))
theorem wa_icmp_le (cx : Cx p s m args meth c cc nL ret own g A) {x y : Int32} {off : Int} (hdg : decode cc pc = .ok (.if_icmp .le off, 3)) (tgt : Nat) (ht : (pc : Int) + off = (tgt : Int)) (kt : x ≤ y → WA p l e R s m args below meth c cells slots Q nL g A S tgt lv st) (kf : ¬ x ≤ y → WA p l e R s m args below meth c cells slots Q nL g A S (pc + 3) lv st) : WA p l e R s m args below meth c cells slots Q nL g A S pc lv (.int y :: .int x :: st) := fun H locs ls hP hS hl => lv_icmp_le cx.1 cx.2.1 hdg ht (fun h => kt h H locs ls hP hS hl) (fun h => kf h H locs ls hP hS hl)
theorem wa_if_le (cx : Cx p s m args meth c cc nL ret own g A) {x : Int32} {off : Int} (hdg : decode cc pc = .ok (.ifCond .le off, 3)) (tgt : Nat) (ht : (pc : Int) + off = (tgt : Int)) (kt : x ≤ 0 → WA p l e R s m args below meth c cells slots Q nL g A S tgt lv st) (kf : ¬ x ≤ 0 → WA p l e R s m args below meth c cells slots Q nL g A S (pc + 3) lv st) : WA p l e R s m args below meth c cells slots Q nL g A S pc lv (.int x :: st) := fun H locs ls hP hS hl => lv_if_le cx.1 cx.2.1 hdg ht (fun h => kt h H locs ls hP hS hl) (fun h => kf h H locs ls hP hS hl)
theorem wa_lcmp_le (cx : Cx p s m args meth c cc nL ret own g A) {x y : Int64} {off : Int} (hdg : decode cc pc = .ok (.lcmp, 1)) (hdg2 : decode cc (pc + 1) = .ok (.ifCond .le off, 3)) (tgt : Nat) (ht : ((pc + 1 : Nat) : Int) + off = (tgt : Int)) (kt : x ≤ y → WA p l e R s m args below meth c cells slots Q nL g A S tgt lv st) (kf : ¬ x ≤ y → WA p l e R s m args below meth c cells slots Q nL g A S (pc + 1 + 3) lv st) : WA p l e R s m args below meth c cells slots Q nL g A S pc lv (.long y :: .long x :: st) := fun H locs ls hP hS hl => W.lcmp cx.1 cx.2.1 hdg (lv_if_le cx.1 cx.2.1 hdg2 ht (fun h => kt ((lg_cmp_le x y).mp h) H locs ls hP hS hl) (fun h => kf (fun e => h ((lg_cmp_le x y).mpr e)) H locs ls hP hS hl))
theorem wa_tabIn (cx : Cx p s m args meth c cc nL ret own g A) {dflt lo hi : Int} {offs : Array Int} {len : Nat} {x : Int32} {off : Int} (hdg : decode cc pc = .ok (.tableswitch dflt lo hi offs, len)) (tgt : Nat) (h1 : ¬ x.toInt < lo) (h2 : ¬ hi < x.toInt) (ho : offs[(x.toInt - lo).toNat]? = some off) (ht : (pc : Int) + off = (tgt : Int)) (k : WA p l e R s m args below meth c cells slots Q nL g A S tgt lv st) : WA p l e R s m args below meth c cells slots Q nL g A S pc lv (.int x :: st) := fun H locs ls hP hS hl => lv_tableIn cx.1 cx.2.1 hdg h1 h2 ho ht (k H locs ls hP hS hl)
theorem wa_tabOut (cx : Cx p s m args meth c cc nL ret own g A) {dflt lo hi : Int} {offs : Array Int} {len : Nat} {x : Int32} (hdg : decode cc pc = .ok (.tableswitch dflt lo hi offs, len)) (tgt : Nat) (h : x.toInt < lo ∨ hi < x.toInt) (ht : (pc : Int) + dflt = (tgt : Int)) (k : WA p l e R s m args below meth c cells slots Q nL g A S tgt lv st) : WA p l e R s m args below meth c cells slots Q nL g A S pc lv (.int x :: st) := fun H locs ls hP hS hl => lv_tableOut cx.1 cx.2.1 hdg h ht (k H locs ls hP hS hl)
theorem wa_lookup (cx : Cx p s m args meth c cc nL ret own g A) {dflt : Int} {ps : Array (Int × Int)} {len : Nat} {x : Int32} {off : Int} (hdg : decode cc pc = .ok (.lookupswitch dflt ps, len)) (tgt : Nat) (hp : (ps.toList.zip (ps.toList.drop 1)).all (fun (a, next) => a.1 < next.1) = true) (ho : Op.lookupswitch.offset ps.toList dflt x.toInt = off) (ht : (pc : Int) + off = (tgt : Int)) (k : WA p l e R s m args below meth c cells slots Q nL g A S tgt lv st) : WA p l e R s m args below meth c cells slots Q nL g A S pc lv (.int x :: st) := fun H locs ls hP hS hl => lv_lookup cx.1 cx.2.1 hdg hp ho ht (k H locs ls hP hS hl)
theorem ne_toInt {x y : Int32} (h : ¬ x = y) : ¬ x.toInt = y.toInt := fun e => h (Int32.toInt_inj.mp e)
theorem wa_iald (cx : Cx p s m args meth c cc nL ret own g A) {a n : Nat} {i : Int32} (hdg : decode cc pc = .ok (.iaload, 1)) (hk : kd g a = 11 ∧ lnT a = n) (hin : vp_in i n) (k : WA p l e R s m args below meth c cells slots Q nL g A S (pc + 1) lv (.int (S.1 a i.toNatClampNeg) :: st)) : WA p l e R s m args below meth c cells slots Q nL g A S pc lv (.int i :: .ref (ad g a) :: st) := fun H locs ls hP hS hl => by
  obtain ⟨h1, h2⟩ := kd_lt hk.1 (by decide)
  exact va_iald cx.1 cx.2.1 cx.2.2.2.2.2.1 hP a 0 ((pool_get h1).trans (congrArg (fun z => some (ad g a, z)) (cell_eqI h2))) rfl (by rw [hk.2]; exact hin) hdg (k H locs ls hP hS hl)
theorem wa_lald (cx : Cx p s m args meth c cc nL ret own g A) {a n : Nat} {i : Int32} (hdg : decode cc pc = .ok (.laload, 1)) (hk : kd g a = 12 ∧ lnT a = n) (hin : vp_in i n) (k : WA p l e R s m args below meth c cells slots Q nL g A S (pc + 1) lv (.long (S.2.1 a i.toNatClampNeg) :: st)) : WA p l e R s m args below meth c cells slots Q nL g A S pc lv (.int i :: .ref (ad g a) :: st) := fun H locs ls hP hS hl => by
  obtain ⟨h1, h2⟩ := kd_lt hk.1 (by decide)
  exact va_lald cx.1 cx.2.1 cx.2.2.2.2.2.1 hP a 1 ((pool_get h1).trans (congrArg (fun z => some (ad g a, z)) (cell_eqJ h2))) rfl (by rw [hk.2]; exact hin) hdg (k H locs ls hP hS hl)
theorem wa_iast (cx : Cx p s m args meth c cc nL ret own g A) {a n : Nat} {i : Int32} {x : Int32} (hdg : decode cc pc = .ok (.iastore, 1)) (hk : kd g a = 11 ∧ lnT a = n) (hin : vp_in i n) (k : WA p l e R s m args below meth c cells slots Q nL g A (pI S a i.toNatClampNeg x) (pc + 1) lv st) : WA p l e R s m args below meth c cells slots Q nL g A S pc lv (.int x :: .int i :: .ref (ad g a) :: st) := fun H locs ls hP hS hl => by
  obtain ⟨h1, h2⟩ := kd_lt hk.1 (by decide)
  refine va_iast cx.1 cx.2.1 cx.2.2.2.2.2.1 hP (pool_D cx.2.2.2.2.2.2.1 cx.2.2.2.2.2.2.2.1) hS a 0 ((pool_get h1).trans (congrArg (fun z => some (ad g a, z)) (cell_eqI h2))) rfl (by rw [hk.2]; exact hin) hdg (fun H1 locs1 hP1 _ hS1 => k H1 locs1 ls ?_ hS1 hl)
  refine Eq.mp (congrArg (fun z => va_P g.1 vwCl z H1) (pool_set h1 ?_ cell_pI)) hP1
  rw [cell_eqI h2]; unfold pI; dsimp only; rw [up2_at]; rfl
theorem wa_last (cx : Cx p s m args meth c cc nL ret own g A) {a n : Nat} {i : Int32} {x : Int64} (hdg : decode cc pc = .ok (.lastore, 1)) (hk : kd g a = 12 ∧ lnT a = n) (hin : vp_in i n) (k : WA p l e R s m args below meth c cells slots Q nL g A (pJ S a i.toNatClampNeg x) (pc + 1) lv st) : WA p l e R s m args below meth c cells slots Q nL g A S pc lv (.long x :: .int i :: .ref (ad g a) :: st) := fun H locs ls hP hS hl => by
  obtain ⟨h1, h2⟩ := kd_lt hk.1 (by decide)
  refine va_last cx.1 cx.2.1 cx.2.2.2.2.2.1 hP (pool_D cx.2.2.2.2.2.2.1 cx.2.2.2.2.2.2.2.1) hS a 1 ((pool_get h1).trans (congrArg (fun z => some (ad g a, z)) (cell_eqJ h2))) rfl (by rw [hk.2]; exact hin) hdg (fun H1 locs1 hP1 _ hS1 => k H1 locs1 ls ?_ hS1 hl)
  refine Eq.mp (congrArg (fun z => va_P g.1 vwCl z H1) (pool_set h1 ?_ cell_pJ)) hP1
  rw [cell_eqJ h2]; unfold pJ; dsimp only; rw [up2_at]; rfl
theorem wa_alen (cx : Cx p s m args meth c cc nL ret own g A) {a : Nat} (hdg : decode cc pc = .ok (.arraylength, 1)) (v : Int32) (hk : (kd g a = 11 ∨ kd g a = 12) ∧ nI (lnT a) = v) (k : WA p l e R s m args below meth c cells slots Q nL g A S (pc + 1) lv (.int v :: st)) : WA p l e R s m args below meth c cells slots Q nL g A S pc lv (.ref (ad g a) :: st) := fun H locs ls hP hS hl => by
  rcases hk.1 with hk1 | hk1
  · obtain ⟨h1, h2⟩ := kd_lt hk1 (by decide)
    exact va_alen cx.1 cx.2.1 cx.2.2.2.2.2.1 hP a 0 ((pool_get h1).trans (congrArg (fun z => some (ad g a, z)) (cell_eqI h2))) rfl hk.2 hdg (k H locs ls hP hS hl)
  · obtain ⟨h1, h2⟩ := kd_lt hk1 (by decide)
    exact va_alen cx.1 cx.2.1 cx.2.2.2.2.2.1 hP a 1 ((pool_get h1).trans (congrArg (fun z => some (ad g a, z)) (cell_eqJ h2))) rfl hk.2 hdg (k H locs ls hP hS hl)
def allne (x : Int) : List Int → Prop
  | [] => True
  | k :: t => ¬ x = k ∧ allne x t
theorem allne_mem {x : Int} : ∀ {l : List Int}, allne x l → ∀ k ∈ l, ¬ x = k
  | [], _, _, h => absurd h List.not_mem_nil
  | _ :: _, h, _, hk => by
    rcases List.mem_cons.mp hk with rfl | hk
    · exact h.1
    · exact allne_mem h.2 _ hk
theorem wa_tabDef (cx : Cx p s m args meth c cc nL ret own g A) {dflt lo hi : Int} {offs : Array Int} {len : Nat} {x : Int32} (hdg : decode cc pc = .ok (.tableswitch dflt lo hi offs, len)) (tgt : Nat) (ks : List Int) (hsz : hi - lo < (offs.size : Int)) (hall : (List.range offs.size).all (fun j => decide (offs[j]? = some dflt) || ks.contains (lo + (j : Int))) = true) (hne : allne x.toInt ks) (ht : (pc : Int) + dflt = (tgt : Int)) (k : WA p l e R s m args below meth c cells slots Q nL g A S tgt lv st) : WA p l e R s m args below meth c cells slots Q nL g A S pc lv (.int x :: st) := by
  by_cases h1 : x.toInt < lo
  · exact wa_tabOut cx hdg tgt (Or.inl h1) ht k
  by_cases h2 : hi < x.toInt
  · exact wa_tabOut cx hdg tgt (Or.inr h2) ht k
  have hj : (x.toInt - lo).toNat < offs.size := by omega
  have hq := List.all_eq_true.mp hall _ (List.mem_range.mpr hj)
  rcases (Bool.or_eq_true _ _).mp hq with hq | hq
  · exact wa_tabIn cx hdg tgt h1 h2 (of_decide_eq_true hq) ht k
  · have hm : lo + ((x.toInt - lo).toNat : Int) ∈ ks := List.contains_iff_mem.mp hq
    have he : lo + ((x.toInt - lo).toNat : Int) = x.toInt := by omega
    rw [he] at hm
    exact absurd rfl (allne_mem hne _ hm)
theorem wa_mmax (cx : Cx p s m args meth c cc nL ret own g A) {index : Nat} {x y : Int32} (hdg : decode cc pc = .ok (.invokestatic index, 3)) (h1 : Cond.methodLink own index Lib.Math.max.name ∈ lw_g) (h2 : Cond.static Lib.Math.max.name ∈ lw_g) (h3 : Cond.initialized "java/lang/Math" ∈ lw_g) (h4 : Cond.code Lib.Math.max.name Lib.Math.max.code 2 (some .int) ∈ lw_g) (hR : 1 ≤ R.frames ∧ (st.map fun v => v.category).sum + 13 ≤ R.locals) (hc : cells ≤ R.cells ∧ slots ≤ R.slots) (k : WA p l e R s m args below meth c cells slots Q nL g A S (pc + 3) lv (.int (imax x y) :: st)) : WA p l e R s m args below meth c cells slots Q nL g A S pc lv (.int y :: .int x :: st) := fun H locs ls hP hS hl => va_mmax cx.1 cx.2.1 (by rw [cx.2.2.1]; exact hl.1.symm) cx.2.2.2.1 (cx.2.2.2.2.1 _ h1) (cx.2.2.2.2.1 _ h2) (cx.2.2.2.2.1 _ h3) (cx.2.2.2.2.1 _ h4) hR.1 hR.2 hc.1 hc.2 hdg (k H locs ls hP hS hl)
theorem wa_mmin (cx : Cx p s m args meth c cc nL ret own g A) {index : Nat} {x y : Int32} (hdg : decode cc pc = .ok (.invokestatic index, 3)) (h1 : Cond.methodLink own index Lib.Math.min.name ∈ lw_g) (h2 : Cond.static Lib.Math.min.name ∈ lw_g) (h3 : Cond.initialized "java/lang/Math" ∈ lw_g) (h4 : Cond.code Lib.Math.min.name Lib.Math.min.code 2 (some .int) ∈ lw_g) (hR : 1 ≤ R.frames ∧ (st.map fun v => v.category).sum + 13 ≤ R.locals) (hc : cells ≤ R.cells ∧ slots ≤ R.slots) (k : WA p l e R s m args below meth c cells slots Q nL g A S (pc + 3) lv (.int (imin x y) :: st)) : WA p l e R s m args below meth c cells slots Q nL g A S pc lv (.int y :: .int x :: st) := fun H locs ls hP hS hl => va_mmin cx.1 cx.2.1 (by rw [cx.2.2.1]; exact hl.1.symm) cx.2.2.2.1 (cx.2.2.2.2.1 _ h1) (cx.2.2.2.2.1 _ h2) (cx.2.2.2.2.1 _ h3) (cx.2.2.2.2.1 _ h4) hR.1 hR.2 hc.1 hc.2 hdg (k H locs ls hP hS hl)
theorem wa_acopy (cx : Cx p s m args meth c cc nL ret own g A) {index a b na nb : Nat} {sp dp n : Int32} (hdg : decode cc pc = .ok (.invokestatic index, 3)) (h1 : Cond.methodLink own index arraycopyName ∈ lw_g) (h2 : Cond.native arraycopyName ∈ lw_g) (h3 : Cond.static arraycopyName ∈ lw_g) (h4 : Cond.initialized "java/lang/System" ∈ lw_g) (hka : kd g a = 11 ∧ lnT a = na) (hkb : kd g b = 11 ∧ lnT b = nb) (hok : ¬ sp < 0 ∧ ¬ dp < 0 ∧ ¬ n < 0 ∧ sp.toNatClampNeg + n.toNatClampNeg ≤ na ∧ dp.toNatClampNeg + n.toNatClampNeg ≤ nb) (hR : 1 ≤ R.frames ∧ (st.map fun v => v.category).sum + (nativeFrameWords "java/lang/System" "arraycopy" 5 + 11) ≤ R.locals) (k : WA p l e R s m args below meth c cells slots Q nL g A (pRow S b (va_cpy (S.1 a) (S.1 b) sp.toNatClampNeg dp.toNatClampNeg n.toNatClampNeg)) (pc + 3) lv st) : WA p l e R s m args below meth c cells slots Q nL g A S pc lv (.int n :: .int dp :: .ref (ad g b) :: .int sp :: .ref (ad g a) :: st) := fun H locs ls hP hS hl => by
  obtain ⟨a1, a2⟩ := kd_lt hka.1 (by decide)
  obtain ⟨b1, b2⟩ := kd_lt hkb.1 (by decide)
  refine va_copyi cx.1 cx.2.1 (by rw [cx.2.2.1]; exact hl.1.symm) cx.2.2.2.1 (cx.2.2.2.2.1 _ h1) (cx.2.2.2.2.1 _ h2) (cx.2.2.2.2.1 _ h3) (cx.2.2.2.2.1 _ h4) cx.2.2.2.2.2.1 hP (pool_D cx.2.2.2.2.2.2.1 cx.2.2.2.2.2.2.2.1) hS a b 0 0 ((pool_get a1).trans (congrArg (fun z => some (ad g a, z)) (cell_eqI a2))) ((pool_get b1).trans (congrArg (fun z => some (ad g b, z)) (cell_eqI b2))) rfl rfl rfl hok.1 hok.2.1 hok.2.2.1 (by rw [hka.2]; exact hok.2.2.2.1) (by rw [hkb.2]; exact hok.2.2.2.2) (fun _ _ => rfl) hR.1 hR.2 hdg (fun H1 locs1 hP1 _ hS1 => k H1 locs1 ls ?_ hS1 hl)
  refine Eq.mp (congrArg (fun z => va_P g.1 vwCl z H1) (pool_set b1 ?_ cell_pRow)) hP1
  rw [cell_eqI b2]; unfold pRow; dsimp only; rw [up1_at]
theorem wa_get (cx : Cx p s m args meth c cc nL ret own g A) {i ci index k N : Nat} {C : String} {T : u_T} {fs : List Value} {v : Value} (hk : kd g i = ci) (h99 : ci < 99) (hcell : cell g S i = .inr (ci, fs)) (hc : vwCl[ci]? = some (C, T, N)) (hin : ∀ w ∈ u_ws C T N, w ∈ lw_g) (hkN : k < N) (hl : Cond.fieldLink own index (T k).1 (T k).2.1 (T k).2.2.1 ∈ lw_g) (hv : fs[k]? = some v) (hdg : decode cc pc = .ok (.getfield index, 3)) (kk : WA p l e R s m args below meth c cells slots Q nL g A S (pc + 3) lv (v :: st)) : WA p l e R s m args below meth c cells slots Q nL g A S pc lv (.ref (ad g i) :: st) := fun H locs ls hP hS hl2 => by
  obtain ⟨h1, h2⟩ := kd_lt hk h99
  exact va_get cx.1 cx.2.1 cx.2.2.2.2.1 hin cx.2.2.2.1 cx.2.2.2.2.2.1 hP i ((pool_get h1).trans (congrArg (fun z => some (ad g i, z)) hcell)) hc k hkN (cx.2.2.2.2.1 _ hl) (fun _ h => h) hv hdg (kk H locs ls hP hS hl2)
theorem wa_put (cx : Cx p s m args meth c cc nL ret own g A) {S2 : St} {i ci index k N : Nat} {C : String} {T : u_T} {fs : List Value} {v : Value} {ty : FieldType} (ty0 : Nat → FieldType) (hk : kd g i = ci) (h99 : ci < 99) (hcell : cell g S i = .inr (ci, fs)) (hcell2 : cell g S2 i = .inr (ci, fs.set k v)) (ho : ∀ j, j ≠ i → cell g S2 j = cell g S j) (hc : vwCl[ci]? = some (C, T, N)) (hin : ∀ w ∈ u_ws C T N, w ∈ lw_g) (hty : ∀ k, k < N → parseFieldDescriptor (T k).2.2.1 = some (ty0 k)) (hnm : ∀ a, a < N → ∀ b, b < N → a ≠ b → (T a).2.1 ≠ (T b).2.1) (hkN : k < N) (hl : Cond.fieldLink own index (T k).1 (T k).2.1 (T k).2.2.1 ∈ lw_g) (hfin : (T k).2.2.2 = false) (hd : parseFieldDescriptor (T k).2.2.1 = some ty) (hn : narrow ty v = v) (hfit : fits ty v = true) (hlen : k < fs.length) (hdg : decode cc pc = .ok (.putfield index, 3)) (kk : WA p l e R s m args below meth c cells slots Q nL g A S2 (pc + 3) lv st) : WA p l e R s m args below meth c cells slots Q nL g A S pc lv (v :: .ref (ad g i) :: st) := fun H locs ls hP hS hl2 => by
  obtain ⟨h1, h2⟩ := kd_lt hk h99
  refine va_put cx.1 cx.2.1 cx.2.2.2.2.1 hin ty0 hty hnm cx.2.2.2.1 cx.2.2.2.2.2.1 hP (pool_D cx.2.2.2.2.2.2.1 cx.2.2.2.2.2.2.2.1) hS i ((pool_get h1).trans (congrArg (fun z => some (ad g i, z)) hcell)) hc k hkN (cx.2.2.2.2.1 _ hl) (fun _ h => h) hfin hd hn hfit hlen hdg (fun H1 locs1 hP1 _ hS1 => kk H1 locs1 ls ?_ hS1 hl2)
  exact Eq.mp (congrArg (fun z => va_P g.1 vwCl z H1) (pool_set h1 hcell2.symm ho)) hP1
end WAR
theorem cell_eq0 {g : Gl} {S : St} {i : Nat} (h : kdT i = 0) : cell g S i = .inr (0, fs0 g i (S.1 i) (S.2.1 i) (S.2.2 i)) := by unfold cell; rw [h]; rfl
theorem cell_eq1 {g : Gl} {S : St} {i : Nat} (h : kdT i = 1) : cell g S i = .inr (1, fs1 g i (S.1 i) (S.2.1 i) (S.2.2 i)) := by unfold cell; rw [h]; rfl
theorem cell_eq2 {g : Gl} {S : St} {i : Nat} (h : kdT i = 2) : cell g S i = .inr (2, fs2 g i (S.1 i) (S.2.1 i) (S.2.2 i)) := by unfold cell; rw [h]; rfl
theorem cell_eq3 {g : Gl} {S : St} {i : Nat} (h : kdT i = 3) : cell g S i = .inr (3, fs3 g i (S.1 i) (S.2.1 i) (S.2.2 i)) := by unfold cell; rw [h]; rfl
theorem cell_eq4 {g : Gl} {S : St} {i : Nat} (h : kdT i = 4) : cell g S i = .inr (4, fs4 g i (S.1 i) (S.2.1 i) (S.2.2 i)) := by unfold cell; rw [h]; rfl
theorem cell_eq5 {g : Gl} {S : St} {i : Nat} (h : kdT i = 5) : cell g S i = .inr (5, fs5 g i (S.1 i) (S.2.1 i) (S.2.2 i)) := by unfold cell; rw [h]; rfl
theorem cell_eq6 {g : Gl} {S : St} {i : Nat} (h : kdT i = 6) : cell g S i = .inr (6, fs6 g i (S.1 i) (S.2.1 i) (S.2.2 i)) := by unfold cell; rw [h]; rfl
theorem cell_eq7 {g : Gl} {S : St} {i : Nat} (h : kdT i = 7) : cell g S i = .inr (7, fs7 g i (S.1 i) (S.2.1 i) (S.2.2 i)) := by unfold cell; rw [h]; rfl
theorem cell_eq8 {g : Gl} {S : St} {i : Nat} (h : kdT i = 8) : cell g S i = .inr (8, fs8 g i (S.1 i) (S.2.1 i) (S.2.2 i)) := by unfold cell; rw [h]; rfl
theorem cell_eq9 {g : Gl} {S : St} {i : Nat} (h : kdT i = 9) : cell g S i = .inr (9, fs9 g i (S.1 i) (S.2.1 i) (S.2.2 i)) := by unfold cell; rw [h]; rfl
