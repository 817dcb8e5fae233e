/-! rows over worlds that are lists -/
section WLX
variable {p : Program} {l : Launch} {e : Env} {R : Room} {s : State} {m : MethodId} {args : Array Value} {below : List Frame} {meth : Method} {c : Code} {cells slots : Nat} {Q : State → Prop} {cc : ByteArray} {nL : Nat} {ret : Option FieldType} {own : String} {D : va_G} {cy : ClassId × ClassId} {A : Nat → Prop}
variable {ws : va_W} {pc : Nat} {lv : List (Nat × Value)} {st : List Value}
theorem wl_sub {lv' : List (Nat × Value)} (h : lvsub lv lv') (k : WL p l e R s m args below meth c cells slots Q nL D A ws pc lv' st) : WL p l e R s m args below meth c cells slots Q nL D A ws pc lv st := fun H locs ls hP hD hS hl => k H locs ls hP hD hS (lvsub_has hl h)
theorem wl_lconst (cx : CxL p s m args meth c cc nL ret own D cy A) {n : Fin 2} (hdg : decode cc pc = .ok (.lconst n, 1)) (v : Int64) (hv : Int64.ofNat (n : Nat) = v) (k : WL p l e R s m args below meth c cells slots Q nL D A ws (pc + 1) lv (.long v :: st)) : WL p l e R s m args below meth c cells slots Q nL D A ws pc lv st := fun H locs ls hP hD hS hl => lv_lconst cx.1 cx.2.1 hdg hv (k H locs ls hP hD hS hl)
theorem wl_ldc2 (cx : CxL p s m args meth c cc nL ret own D cy A) {index : Nat} (hdg : decode cc pc = .ok (.ldc2_w index, 3)) (v : Int64) (hc : Cond.constantLong own index v ∈ lw_g) (k : WL p l e R s m args below meth c cells slots Q nL D A ws (pc + 3) lv (.long v :: st)) : WL p l e R s m args below meth c cells slots Q nL D A ws pc lv st := fun H locs ls hP hD hS hl => lv_ldc2 cx.1 cx.2.1 cx.2.2.2.1 (cx.2.2.2.2.1 _ hc) hdg (k H locs ls hP hD hS hl)
theorem wl_ldc (cx : CxL p s m args meth c cc nL ret own D cy A) {index : Nat} (hdg : decode cc pc = .ok (.ldc index, 2)) (v : Int32) (hc : Cond.constant own index v ∈ lw_g) (k : WL p l e R s m args below meth c cells slots Q nL D A ws (pc + 2) lv (.int v :: st)) : WL p l e R s m args below meth c cells slots Q nL D A ws pc lv st := fun H locs ls hP hD hS hl => lv_ldc cx.1 cx.2.1 cx.2.2.2.1 (cx.2.2.2.2.1 _ hc) hdg (k H locs ls hP hD hS hl)
theorem wl_ishr (cx : CxL p s m args meth c cc nL ret own D cy A) {x y : Int32} (hdg : decode cc pc = .ok (.ishr, 1)) (k : WL p l e R s m args below meth c cells slots Q nL D A ws (pc + 1) lv (.int (x >>> (y &&& 31)) :: st)) : WL p l e R s m args below meth c cells slots Q nL D A ws pc lv (.int y :: .int x :: st) := fun H locs ls hP hD hS hl => lv_ishr cx.1 cx.2.1 hdg (k H locs ls hP hD hS hl)
theorem wl_iload_n (cx : CxL p s m args meth c cc nL ret own D cy A) {k0 : Fin 4} {i : Nat} {x : Int32} (hdg : decode cc pc = .ok (.iload_n k0, 1)) (hi : (k0 : Nat) = i) (hv : lvg lv i = some (.int x)) (k : WL p l e R s m args below meth c cells slots Q nL D A ws (pc + 1) lv (.int x :: st)) : WL p l e R s m args below meth c cells slots Q nL D A ws pc lv st := fun H locs ls hP hD hS hl => lv_iload_n cx.1 cx.2.1 hdg hi (lvg_at hl hv) (k H locs ls hP hD hS hl)
theorem wl_iload (cx : CxL p s m args meth c cc nL ret own D cy A) {i : Nat} {x : Int32} (hdg : decode cc pc = .ok (.iload i, 2)) (hv : lvg lv i = some (.int x)) (k : WL p l e R s m args below meth c cells slots Q nL D A ws (pc + 2) lv (.int x :: st)) : WL p l e R s m args below meth c cells slots Q nL D A ws pc lv st := fun H locs ls hP hD hS hl => lv_iload cx.1 cx.2.1 hdg (lvg_at hl hv) (k H locs ls hP hD hS hl)
theorem wl_istore_n (cx : CxL p s m args meth c cc nL ret own D cy A) {k0 : Fin 4} {i : Nat} {x : Int32} {lv1 : List (Nat × Value)} (hdg : decode cc pc = .ok (.istore_n k0, 1)) (lv2 : List (Nat × Value)) (hi : (k0 : Nat) = i) (hn : i < nL) (hf : (i, Value.int x) :: lv.filter (fun q => !(q.1 == i) && !(q.1 + 1 == i && q.2.category == 2)) = lv1) (hsub : lvsub lv1 lv2) (k : WL p l e R s m args below meth c cells slots Q nL D A ws (pc + 1) lv2 st) : WL p l e R s m args below meth c cells slots Q nL D A ws pc lv (.int x :: st) := fun H locs ls hP hD hS hl => lv_istore_n cx.1 cx.2.1 hdg hi hl hn hf (fun ls2 hl2 => k H locs ls2 hP hD hS (lvsub_has hl2 hsub))
theorem wl_istore (cx : CxL p s m args meth c cc nL ret own D cy A) {i : Nat} {x : Int32} {lv1 : List (Nat × Value)} (hdg : decode cc pc = .ok (.istore i, 2)) (lv2 : List (Nat × Value)) (hn : i < nL) (hf : (i, Value.int x) :: lv.filter (fun q => !(q.1 == i) && !(q.1 + 1 == i && q.2.category == 2)) = lv1) (hsub : lvsub lv1 lv2) (k : WL p l e R s m args below meth c cells slots Q nL D A ws (pc + 2) lv2 st) : WL p l e R s m args below meth c cells slots Q nL D A ws pc lv (.int x :: st) := fun H locs ls hP hD hS hl => lv_istore cx.1 cx.2.1 hdg hl hn hf (fun ls2 hl2 => k H locs ls2 hP hD hS (lvsub_has hl2 hsub))
theorem wl_aload (cx : CxL p s m args meth c cc nL ret own D cy A) {i : Nat} {x : Nat} (hdg : decode cc pc = .ok (.aload i, 2)) (hv : lvg lv i = some (.ref x)) (k : WL p l e R s m args below meth c cells slots Q nL D A ws (pc + 2) lv (.ref x :: st)) : WL p l e R s m args below meth c cells slots Q nL D A ws pc lv st := fun H locs ls hP hD hS hl => lv_aload cx.1 cx.2.1 hdg (lvg_at hl hv) (k H locs ls hP hD hS hl)
theorem wl_astore_n (cx : CxL p s m args meth c cc nL ret own D cy A) {k0 : Fin 4} {i : Nat} {x : Nat} {lv1 : List (Nat × Value)} (hdg : decode cc pc = .ok (.astore_n k0, 1)) (lv2 : List (Nat × Value)) (hi : (k0 : Nat) = i) (hn : i < nL) (hf : (i, Value.ref x) :: lv.filter (fun q => !(q.1 == i) && !(q.1 + 1 == i && q.2.category == 2)) = lv1) (hsub : lvsub lv1 lv2) (k : WL p l e R s m args below meth c cells slots Q nL D A ws (pc + 1) lv2 st) : WL p l e R s m args below meth c cells slots Q nL D A ws pc lv (.ref x :: st) := fun H locs ls hP hD hS hl => lv_astore_n cx.1 cx.2.1 hdg hi hl hn hf (fun ls2 hl2 => k H locs ls2 hP hD hS (lvsub_has hl2 hsub))
theorem wl_astore (cx : CxL p s m args meth c cc nL ret own D cy A) {i : Nat} {x : Nat} {lv1 : List (Nat × Value)} (hdg : decode cc pc = .ok (.astore i, 2)) (lv2 : List (Nat × Value)) (hn : i < nL) (hf : (i, Value.ref x) :: lv.filter (fun q => !(q.1 == i) && !(q.1 + 1 == i && q.2.category == 2)) = lv1) (hsub : lvsub lv1 lv2) (k : WL p l e R s m args below meth c cells slots Q nL D A ws (pc + 2) lv2 st) : WL p l e R s m args below meth c cells slots Q nL D A ws pc lv (.ref x :: st) := fun H locs ls hP hD hS hl => lv_astore cx.1 cx.2.1 hdg hl hn hf (fun ls2 hl2 => k H locs ls2 hP hD hS (lvsub_has hl2 hsub))
theorem wl_iinc (cx : CxL p s m args meth c cc nL ret own D cy A) {i : Nat} {n : Int} {x : Int32} {lv1 : List (Nat × Value)} (hdg : decode cc pc = .ok (.iinc i n, 3)) (v : Int32) (lv2 : List (Nat × Value)) (hv : x + Int32.ofInt n = v) (hx : lvg lv i = some (.int x)) (hn : i < nL) (hf : (i, Value.int v) :: lv.filter (fun q => !(q.1 == i) && !(q.1 + 1 == i && q.2.category == 2)) = lv1) (hsub : lvsub lv1 lv2) (k : WL p l e R s m args below meth c cells slots Q nL D A ws (pc + 3) lv2 st) : WL p l e R s m args below meth c cells slots Q nL D A ws pc lv st := fun H locs ls hP hD hS hl => by
  obtain ⟨j, hj⟩ := lvg_ix hx
  exact lv_iinc cx.1 cx.2.1 hdg hl hj hv hn hf (fun ls2 hl2 => k H locs ls2 hP hD hS (lvsub_has hl2 hsub))
theorem wl_iadd (cx : CxL p s m args meth c cc nL ret own D cy A) {x y : Int32} (hdg : decode cc pc = .ok (.iadd, 1)) (k : WL p l e R s m args below meth c cells slots Q nL D A ws (pc + 1) lv (.int (x + y) :: st)) : WL p l e R s m args below meth c cells slots Q nL D A ws pc lv (.int y :: .int x :: st) := fun H locs ls hP hD hS hl => lv_iadd cx.1 cx.2.1 hdg (k H locs ls hP hD hS hl)
theorem wl_isub (cx : CxL p s m args meth c cc nL ret own D cy A) {x y : Int32} (hdg : decode cc pc = .ok (.isub, 1)) (k : WL p l e R s m args below meth c cells slots Q nL D A ws (pc + 1) lv (.int (x - y) :: st)) : WL p l e R s m args below meth c cells slots Q nL D A ws pc lv (.int y :: .int x :: st) := fun H locs ls hP hD hS hl => lv_isub cx.1 cx.2.1 hdg (k H locs ls hP hD hS hl)
theorem wl_imul (cx : CxL p s m args meth c cc nL ret own D cy A) {x y : Int32} (hdg : decode cc pc = .ok (.imul, 1)) (k : WL p l e R s m args below meth c cells slots Q nL D A ws (pc + 1) lv (.int (x * y) :: st)) : WL p l e R s m args below meth c cells slots Q nL D A ws pc lv (.int y :: .int x :: st) := fun H locs ls hP hD hS hl => lv_imul cx.1 cx.2.1 hdg (k H locs ls hP hD hS hl)
theorem wl_iand (cx : CxL p s m args meth c cc nL ret own D cy A) {x y : Int32} (hdg : decode cc pc = .ok (.iand, 1)) (k : WL p l e R s m args below meth c cells slots Q nL D A ws (pc + 1) lv (.int (x &&& y) :: st)) : WL p l e R s m args below meth c cells slots Q nL D A ws pc lv (.int y :: .int x :: st) := fun H locs ls hP hD hS hl => lv_iand cx.1 cx.2.1 hdg (k H locs ls hP hD hS hl)
theorem wl_dup2 (cx : CxL p s m args meth c cc nL ret own D cy A) {v u : Value} (hdg : decode cc pc = .ok (.dup2, 1)) (hv : v.category = 1) (hu : u.category = 1) (k : WL p l e R s m args below meth c cells slots Q nL D A ws (pc + 1) lv (v :: u :: v :: u :: st)) : WL p l e R s m args below meth c cells slots Q nL D A ws pc lv (v :: u :: st) := fun H locs ls hP hD hS hl => lv_dup2_11 cx.1 cx.2.1 hdg hv hu (k H locs ls hP hD hS hl)
theorem wl_goto (cx : CxL p s m args meth c cc nL ret own D cy A) {off : Int} (hdg : decode cc pc = .ok (.goto off, 3)) (tgt : Nat) (ht : (pc : Int) + off = (tgt : Int)) (k : WL p l e R s m args below meth c cells slots Q nL D A ws tgt lv st) : WL p l e R s m args below meth c cells slots Q nL D A ws pc lv st := fun H locs ls hP hD hS hl => lv_goto cx.1 cx.2.1 hdg ht (k H locs ls hP hD hS hl)
theorem wl_icmp_eq (cx : CxL p s m args meth c cc nL ret own D cy A) {x y : Int32} {off : Int} (hdg : decode cc pc = .ok (.if_icmp .eq off, 3)) (tgt : Nat) (ht : (pc : Int) + off = (tgt : Int)) (kt : x = y → WL p l e R s m args below meth c cells slots Q nL D A ws tgt lv st) (kf : ¬ x = y → WL p l e R s m args below meth c cells slots Q nL D A ws (pc + 3) lv st) : WL p l e R s m args below meth c cells slots Q nL D A ws pc lv (.int y :: .int x :: st) := fun H locs ls hP hD hS hl => lv_icmp_eq cx.1 cx.2.1 hdg ht (fun h => kt h H locs ls hP hD hS hl) (fun h => kf h H locs ls hP hD hS hl)
theorem wl_if_eq (cx : CxL p s m args meth c cc nL ret own D cy A) {x : Int32} {off : Int} (hdg : decode cc pc = .ok (.ifCond .eq off, 3)) (tgt : Nat) (ht : (pc : Int) + off = (tgt : Int)) (kt : x = 0 → WL p l e R s m args below meth c cells slots Q nL D A ws tgt lv st) (kf : ¬ x = 0 → WL p l e R s m args below meth c cells slots Q nL D A ws (pc + 3) lv st) : WL p l e R s m args below meth c cells slots Q nL D A ws pc lv (.int x :: st) := fun H locs ls hP hD hS hl => lv_if_eq cx.1 cx.2.1 hdg ht (fun h => kt h H locs ls hP hD hS hl) (fun h => kf h H locs ls hP hD hS hl)
theorem wl_lcmp_eq (cx : CxL p s m args meth c cc nL ret own D cy A) {x y : Int64} {off : Int} (hdg : decode cc pc = .ok (.lcmp, 1)) (hdg2 : decode cc (pc + 1) = .ok (.ifCond .eq off, 3)) (tgt : Nat) (ht : ((pc + 1 : Nat) : Int) + off = (tgt : Int)) (kt : x = y → WL p l e R s m args below meth c cells slots Q nL D A ws tgt lv st) (kf : ¬ x = y → WL p l e R s m args below meth c cells slots Q nL D A ws (pc + 1 + 3) lv st) : WL p l e R s m args below meth c cells slots Q nL D A ws pc lv (.long y :: .long x :: st) := fun H locs ls hP hD hS hl => W.lcmp cx.1 cx.2.1 hdg (lv_if_eq cx.1 cx.2.1 hdg2 ht (fun h => kt ((lg_cmp_eq x y).mp h) H locs ls hP hD hS hl) (fun h => kf (fun e => h ((lg_cmp_eq x y).mpr e)) H locs ls hP hD hS hl))
theorem wl_icmp_ne (cx : CxL p s m args meth c cc nL ret own D cy A) {x y : Int32} {off : Int} (hdg : decode cc pc = .ok (.if_icmp .ne off, 3)) (tgt : Nat) (ht : (pc : Int) + off = (tgt : Int)) (kt : ¬ x = y → WL p l e R s m args below meth c cells slots Q nL D A ws tgt lv st) (kf : x = y → WL p l e R s m args below meth c cells slots Q nL D A ws (pc + 3) lv st) : WL p l e R s m args below meth c cells slots Q nL D A ws pc lv (.int y :: .int x :: st) := fun H locs ls hP hD hS hl => lv_icmp_ne cx.1 cx.2.1 hdg ht (fun h => kt h H locs ls hP hD hS hl) (fun h => kf h H locs ls hP hD hS hl)
theorem wl_if_ne (cx : CxL p s m args meth c cc nL ret own D cy A) {x : Int32} {off : Int} (hdg : decode cc pc = .ok (.ifCond .ne off, 3)) (tgt : Nat) (ht : (pc : Int) + off = (tgt : Int)) (kt : ¬ x = 0 → WL p l e R s m args below meth c cells slots Q nL D A ws tgt lv st) (kf : x = 0 → WL p l e R s m args below meth c cells slots Q nL D A ws (pc + 3) lv st) : WL p l e R s m args below meth c cells slots Q nL D A ws pc lv (.int x :: st) := fun H locs ls hP hD hS hl => lv_if_ne cx.1 cx.2.1 hdg ht (fun h => kt h H locs ls hP hD hS hl) (fun h => kf h H locs ls hP hD hS hl)
theorem wl_lcmp_ne (cx : CxL p s m args meth c cc nL ret own D cy A) {x y : Int64} {off : Int} (hdg : decode cc pc = .ok (.lcmp, 1)) (hdg2 : decode cc (pc + 1) = .ok (.ifCond .ne off, 3)) (tgt : Nat) (ht : ((pc + 1 : Nat) : Int) + off = (tgt : Int)) (kt : ¬ x = y → WL p l e R s m args below meth c cells slots Q nL D A ws tgt lv st) (kf : x = y → WL p l e R s m args below meth c cells slots Q nL D A ws (pc + 1 + 3) lv st) : WL p l e R s m args below meth c cells slots Q nL D A ws pc lv (.long y :: .long x :: st) := fun H locs ls hP hD hS hl => W.lcmp cx.1 cx.2.1 hdg (lv_if_ne cx.1 cx.2.1 hdg2 ht (fun h => kt (fun e => h ((lg_cmp_eq x y).mpr e)) H locs ls hP hD hS hl) (fun h => kf ((lg_cmp_eq x y).mp h) H locs ls hP hD hS hl))
theorem wl_if_lt (cx : CxL p s m args meth c cc nL ret own D cy A) {x : Int32} {off : Int} (hdg : decode cc pc = .ok (.ifCond .lt off, 3)) (tgt : Nat) (ht : (pc : Int) + off = (tgt : Int)) (kt : x < 0 → WL p l e R s m args below meth c cells slots Q nL D A ws tgt lv st) (kf : ¬ x < 0 → WL p l e R s m args below meth c cells slots Q nL D A ws (pc + 3) lv st) : WL p l e R s m args below meth c cells slots Q nL D A ws pc lv (.int x :: st) := fun H locs ls hP hD hS hl => lv_if_lt cx.1 cx.2.1 hdg ht (fun h => kt h H locs ls hP hD hS hl) (fun h => kf h H locs ls hP hD hS hl)
theorem wl_icmp_ge (cx : CxL p s m args meth c cc nL ret own D cy A) {x y : Int32} {off : Int} (hdg : decode cc pc = .ok (.if_icmp .ge off, 3)) (tgt : Nat) (ht : (pc : Int) + off = (tgt : Int)) (kt : y ≤ x → WL p l e R s m args below meth c cells slots Q nL D A ws tgt lv st) (kf : ¬ y ≤ x → WL p l e R s m args below meth c cells slots Q nL D A ws (pc + 3) lv st) : WL p l e R s m args below meth c cells slots Q nL D A ws pc lv (.int y :: .int x :: st) := fun H locs ls hP hD hS hl => lv_icmp_ge cx.1 cx.2.1 hdg ht (fun h => kt h H locs ls hP hD hS hl) (fun h => kf h H locs ls hP hD hS hl)
theorem wl_if_ge (cx : CxL p s m args meth c cc nL ret own D cy A) {x : Int32} {off : Int} (hdg : decode cc pc = .ok (.ifCond .ge off, 3)) (tgt : Nat) (ht : (pc : Int) + off = (tgt : Int)) (kt : 0 ≤ x → WL p l e R s m args below meth c cells slots Q nL D A ws tgt lv st) (kf : ¬ 0 ≤ x → WL p l e R s m args below meth c cells slots Q nL D A ws (pc + 3) lv st) : WL p l e R s m args below meth c cells slots Q nL D A ws pc lv (.int x :: st) := fun H locs ls hP hD hS hl => lv_if_ge cx.1 cx.2.1 hdg ht (fun h => kt h H locs ls hP hD hS hl) (fun h => kf h H locs ls hP hD hS hl)
theorem wl_lcmp_ge (cx : CxL p s m args meth c cc nL ret own D cy A) {x y : Int64} {off : Int} (hdg : decode cc pc = .ok (.lcmp, 1)) (hdg2 : decode cc (pc + 1) = .ok (.ifCond .ge off, 3)) (tgt : Nat) (ht : ((pc + 1 : Nat) : Int) + off = (tgt : Int)) (kt : y ≤ x → WL p l e R s m args below meth c cells slots Q nL D A ws tgt lv st) (kf : ¬ y ≤ x → WL p l e R s m args below meth c cells slots Q nL D A ws (pc + 1 + 3) lv st) : WL p l e R s m args below meth c cells slots Q nL D A ws pc lv (.long y :: .long x :: st) := fun H locs ls hP hD hS hl => W.lcmp cx.1 cx.2.1 hdg (lv_if_ge cx.1 cx.2.1 hdg2 ht (fun h => kt ((lg_cmp_ge x y).mp h) H locs ls hP hD hS hl) (fun h => kf (fun e => h ((lg_cmp_ge x y).mpr e)) H locs ls hP hD hS hl))
theorem wl_icmp_gt (cx : CxL p s m args meth c cc nL ret own D cy A) {x y : Int32} {off : Int} (hdg : decode cc pc = .ok (.if_icmp .gt off, 3)) (tgt : Nat) (ht : (pc : Int) + off = (tgt : Int)) (kt : y < x → WL p l e R s m args below meth c cells slots Q nL D A ws tgt lv st) (kf : ¬ y < x → WL p l e R s m args below meth c cells slots Q nL D A ws (pc + 3) lv st) : WL p l e R s m args below meth c cells slots Q nL D A ws pc lv (.int y :: .int x :: st) := fun H locs ls hP hD hS hl => lv_icmp_gt cx.1 cx.2.1 hdg ht (fun h => kt h H locs ls hP hD hS hl) (fun h => kf h H locs ls hP hD hS hl)
def fset (f : Nat → Int32) (k : Nat) (v : Int32) : Nat → Int32 := fun b => if b = k then v else f b
theorem wl_sld (cx : CxL p s m args meth c cc nL ret own D cy A) {b Ln : Nat} {xs : Nat → Int32} (hX : va_X b Ln xs s s.heap) (hbl : b < s.heap.size) (hbA : ¬ A b) {i : Int32} (hdg : decode cc pc = .ok (.iaload, 1)) (hin : vp_in i Ln) (k : WL p l e R s m args below meth c cells slots Q nL D A ws (pc + 1) lv (.int (xs i.toNatClampNeg) :: st)) : WL p l e R s m args below meth c cells slots Q nL D A ws pc lv (.int i :: .ref b :: st) := fun H locs ls hP hD hS hl => va_sld cx.1 cx.2.1 hX hbl hbA hS hin hdg (k H locs ls hP hD hS hl)
theorem wl_slen (cx : CxL p s m args meth c cc nL ret own D cy A) {b Ln : Nat} {xs : Nat → Int32} (hX : va_X b Ln xs s s.heap) (hbl : b < s.heap.size) (hbA : ¬ A b) (hdg : decode cc pc = .ok (.arraylength, 1)) (k : WL p l e R s m args below meth c cells slots Q nL D A ws (pc + 1) lv (.int (nI Ln) :: st)) : WL p l e R s m args below meth c cells slots Q nL D A ws pc lv (.ref b :: st) := fun H locs ls hP hD hS hl => va_slen cx.1 cx.2.1 hX hbl hbA hS hdg (k H locs ls hP hD hS hl)
theorem wl_iald (cx : CxL p s m args meth c cc nL ret own D cy A) {h n : Nat} {f : Nat → Int32} {i : Int32} (hdg : decode cc pc = .ok (.iaload, 1)) (a : Nat) (hw : ws[a]? = some (h, .inl (cy.1, n, .inl f))) (hin : vp_in i n) (k : WL p l e R s m args below meth c cells slots Q nL D A ws (pc + 1) lv (.int (f i.toNatClampNeg) :: st)) : WL p l e R s m args below meth c cells slots Q nL D A ws pc lv (.int i :: .ref h :: st) := fun H locs ls hP hD hS hl => va_iald cx.1 cx.2.1 cx.2.2.2.2.2.1 hP a 0 hw rfl hin hdg (k H locs ls hP hD hS hl)
theorem wl_iast (cx : CxL p s m args meth c cc nL ret own D cy A) {h n : Nat} {f : Nat → Int32} {i x : Int32} (ws2 : va_W) (hdg : decode cc pc = .ok (.iastore, 1)) (a : Nat) (hw : ws[a]? = some (h, .inl (cy.1, n, .inl f))) (hin : vp_in i n) (hset : ws.set a (h, .inl (cy.1, n, .inl (fset f i.toNatClampNeg x))) = ws2) (k : WL p l e R s m args below meth c cells slots Q nL D A ws2 (pc + 1) lv st) : WL p l e R s m args below meth c cells slots Q nL D A ws pc lv (.int x :: .int i :: .ref h :: st) := fun H locs ls hP hD hS hl => by
  subst hset
  exact va_iast cx.1 cx.2.1 cx.2.2.2.2.2.1 hP hD hS a 0 hw rfl hin hdg (fun H1 locs1 hP1 hD1 hS1 => k H1 locs1 ls hP1 hD1 hS1 hl)
theorem wl_swap {a b d : va_W} (k : WL p l e R s m args below meth c cells slots Q nL D A ((a ++ d) ++ b) pc lv st) : WL p l e R s m args below meth c cells slots Q nL D A ((a ++ b) ++ d) pc lv st := fun H locs ls hP hD hS hl => k H locs ls hP.swap hD.swap hS hl
theorem wl_rot {a b d : va_W} (k : WL p l e R s m args below meth c cells slots Q nL D A ((b ++ a) ++ d) pc lv st) : WL p l e R s m args below meth c cells slots Q nL D A ((a ++ b) ++ d) pc lv st := by
  refine wl_re (ws2 := (([] ++ a) ++ (b ++ d) : va_W)) (by rw [List.append_assoc, List.nil_append]) ?_
  refine wl_swap ?_
  rw [List.nil_append]
  exact wl_swap k
end WLX
theorem at_app {α : Type} (wr wc : List α) (i : Nat) : (wr ++ wc)[wr.length + i]? = wc[i]? := by
  rw [List.getElem?_append_right (by omega), show wr.length + i - wr.length = i by omega]
theorem gok_of {A : Nat → Prop} {g : Gl} {wr : va_W} {S : St} (hn : npl g = 103) (hD : va_D A (wr ++ pool g S)) : GOK g := ⟨Or.inl hn, fun i j hi hj h => by
  have := hD.1 (wr.length + i) (wr.length + j) _ _ ((at_app wr _ i).trans (pool_get hi)) ((at_app wr _ j).trans (pool_get hj)) h
  omega⟩
theorem join_pool {A0 : Nat → Prop} {g : Gl} {wr : va_W} {S S2 : St} {H H1 : Heap} (hn : npl g = 103) (hP : va_P g.1 vwCl (wr ++ pool g S) H) (hD : va_D A0 (wr ++ pool g S)) (hk : ∀ q : Nat, q < H.size → ¬ Ap g q → H1[q]? = H[q]?) (hP1 : va_P g.1 vwCl (pool g S2) H1) : va_P g.1 vwCl (wr ++ pool g S2) H1 ∧ va_D A0 (wr ++ pool g S2) := by
  have hg := gok_of hn hD
  have apart : ∀ (k : Nat) (q : Nat × va_E), wr[k]? = some q → q.1 < H.size ∧ ¬ Ap g q.1 := by
    intro k q hq
    have hkl : k < wr.length := (List.getElem?_eq_some_iff.mp hq).1
    have h2 : (wr ++ pool g S)[k]? = some q := by rw [List.getElem?_append_left hkl]; exact hq
    refine ⟨(hP k q h2).lt, fun h => ?_⟩
    obtain ⟨i, hi, he⟩ := h
    have := hD.1 (wr.length + i) k _ q ((at_app wr _ i).trans (pool_get hi)) h2 he
    omega
  have hDr : va_D A0 wr := ⟨fun i j p q hi hj h => hD.1 i j p q (by rw [List.getElem?_append_left (List.getElem?_eq_some_iff.mp hi).1]; exact hi) (by rw [List.getElem?_append_left (List.getElem?_eq_some_iff.mp hj).1]; exact hj) h, fun k q hq => hD.2 k q (by rw [List.getElem?_append_left (List.getElem?_eq_some_iff.mp hq).1]; exact hq)⟩
  refine ⟨va_P.app (fun k q hq => ?_) hP1, va_D.app hDr (pool_D hg (fun i hi => hD.2 (wr.length + i) _ ((at_app wr _ i).trans (pool_get hi)))) (fun i j x y hx hy hxy => ?_)⟩
  · obtain ⟨g1, g2⟩ := apart k q hq
    have hkl : k < wr.length := (List.getElem?_eq_some_iff.mp hq).1
    exact (hP k q (by rw [List.getElem?_append_left hkl]; exact hq)).kept (hk q.1 g1 g2)
  · obtain ⟨h1, rfl⟩ := pool_some hy
    exact (apart i x hx).2 ⟨j, h1, hxy.symm⟩
section WLG
variable {p : Program} {l : Launch} {e : Env} {R : Room} {s : State} {m : MethodId} {args : Array Value} {below : List Frame} {meth : Method} {c : Code} {cells slots : Nat} {Q : State → Prop} {cc : ByteArray} {nL : Nat} {ret : Option FieldType} {own : String} {g : Gl} {A : Nat → Prop}
variable {wr : va_W} {pc : Nat} {lv : List (Nat × Value)} {st : List Value}
theorem wl_callVi (cx : CxL p s m args meth c cc nL ret own g.1 g.2.1 A) {y : MethodName} {code : ByteArray} {nLy n idx b ci : Nat} {rety : Option FieldType} {rm : Room} {as : List Value} {v0 : Int32} {S S2 : St} {q : vw_C} (hn : npl g = 103) (hM : GOK g → MW l y code nLy rety rm g S (.ref (ad g b) :: as) (QWi g (v0, S2))) (vl : VL own idx y code nLy rety n) (hk : kd g b = ci) (h99 : ci < 99) (hc : vwCl[ci]? = some q) (hq : q.1 = y.cls) (hcell : ∃ fs, cell g S b = .inr (ci, fs)) (hR : rm.frames + 1 ≤ R.frames ∧ 8 + (nLy + 11) + rm.locals ≤ R.locals) (h00 : rm.cells = 0 ∧ rm.slots = 0) (hcs : cells ≤ R.cells ∧ slots ≤ R.slots) (hlen : as.length = n) (hst : (st.map fun v => v.category).sum ≤ 8) (hdg : decode cc pc = .ok (.invokevirtual idx, 3)) {stk : List Value} (hstk : stk = as.reverse ++ .ref (ad g b) :: st) (k : WL p l e R s m args below meth c cells slots Q nL g.1 A (wr ++ pool g S2) (pc + 3) lv (.int v0 :: st)) : WL p l e R s m args below meth c cells slots Q nL g.1 A (wr ++ pool g S) pc lv stk := fun H locs ls hP hD hS hl => by
  have hg := gok_of hn hD
  have hPc : va_P g.1 vwCl (pool g S) H := fun i q hq => hP (wr.length + i) q ((at_app wr _ i).trans hq)
  have hF : ∀ q, Ap g q → A q := fun q h => by
    obtain ⟨i, hi, rfl⟩ := h
    exact hD.2 (wr.length + i) _ ((at_app wr _ i).trans (pool_get hi))
  obtain ⟨⟨v1, v2, v3, v4, v5⟩, v6, v7, v8⟩ := vl
  obtain ⟨b1, b2⟩ := kd_lt hk h99
  obtain ⟨fs, hcell⟩ := hcell
  have cw : CallW R s args own y.cls idx y code nLy rety (wsM y code nLy rety) rm 0 0 n := cwV n cx.2.2.2.2.1 (goodIn_l [.methodLink own idx y, .instanceMethod y, .selects y.cls y y, .initialized y.cls] (fun w hw => by
    rcases List.mem_cons.mp hw with rfl | hw
    · exact v1
    rcases List.mem_cons.mp hw with rfl | hw
    · exact v2
    rcases List.mem_cons.mp hw with rfl | hw
    · exact v3
    rcases List.mem_cons.mp hw with rfl | hw
    · exact v4
    exact absurd hw List.not_mem_nil) (goodIn_ws v5)) rfl h00.1 h00.2 ⟨rfl, v6, v7, v8⟩ hR
  have hrecv := va_recv cx.2.2.2.2.2.1 hPc hc ((pool_get b1).trans (congrArg (fun z => some (ad g b, z)) hcell))
  rw [hq] at hrecv
  have run := va_runV ⟨cx.1, cx.2.1, cx.2.2.1, cx.2.2.2.1, cx.2.2.2.2.1⟩ (l := l) (p := p) (e := e) (below := below) (meth := meth) (locs := locs) (hM hg) cw ⟨PcW_blind, hrecv, fun U hU hW => ⟨rfl, by rw [hU]; exact hPc, va_K.moved hW.alike cx.2.2.2.2.2.1, NW.warm hW cx.2.2.2.2.2.2.2.2.2⟩⟩ (g := F0 m pc ls stk) rfl hlen hl.1 hstk (lv_room hst) hdg hcs
  refine va_calli run hS (fun q _ h => hF q h) hF (fun v u t H1 locs1 ht2 hvm hp hb hz hk2 hS1 => ?_)
  have hp : v = v0 := hp
  subst hp
  have hb1 : va_P g.1 vwCl (pool g S2) H1 := by rw [← ht2]; exact hb
  obtain ⟨j1, j2⟩ := join_pool hn hP hD hk2 hb1
  exact k H1 locs1 ls j1 j2 hS1 hl
theorem wl_callSi (cx : CxL p s m args meth c cc nL ret own g.1 g.2.1 A) {y : MethodName} {code : ByteArray} {nLy n idx : Nat} {rety : Option FieldType} {rm : Room} {as : List Value} {v0 : Int32} {S S2 : St} (hn : npl g = 103) (hM : GOK g → MW l y code nLy rety rm g S as (QWi g (v0, S2))) (vl : SL own idx y code nLy rety n) (hR : rm.frames + 1 ≤ R.frames ∧ 8 + (nLy + 11) + rm.locals ≤ R.locals) (h00 : rm.cells = 0 ∧ rm.slots = 0) (hcs : cells ≤ R.cells ∧ slots ≤ R.slots) (hlen : as.length = n) (hst : (st.map fun v => v.category).sum ≤ 8) (hdg : decode cc pc = .ok (.invokestatic idx, 3)) {stk : List Value} (hstk : stk = as.reverse ++ st) (k : WL p l e R s m args below meth c cells slots Q nL g.1 A (wr ++ pool g S2) (pc + 3) lv (.int v0 :: st)) : WL p l e R s m args below meth c cells slots Q nL g.1 A (wr ++ pool g S) pc lv stk := fun H locs ls hP hD hS hl => by
  have hg := gok_of hn hD
  have hPc : va_P g.1 vwCl (pool g S) H := fun i q hq => hP (wr.length + i) q ((at_app wr _ i).trans hq)
  have hF : ∀ q, Ap g q → A q := fun q h => by
    obtain ⟨i, hi, rfl⟩ := h
    exact hD.2 (wr.length + i) _ ((at_app wr _ i).trans (pool_get hi))
  obtain ⟨⟨v1, v2, v3, v4⟩, v6, v7, v8⟩ := vl
  have ht := cx.2.2.2.2.1
  have run := va_runS ⟨cx.1, cx.2.1, cx.2.2.1, cx.2.2.2.1, ht⟩ (l := l) (p := p) (e := e) (below := below) (meth := meth) (locs := locs) (hM hg) ⟨callB_of n ht (goodIn_ws v4) rfl h00.1 h00.2 (ht _ v3) (ht _ v1) ⟨v6, v7, v8⟩ hR, ht _ v2⟩ ⟨PcW_blind, fun U hU hW => ⟨rfl, by rw [hU]; exact hPc, va_K.moved hW.alike cx.2.2.2.2.2.1, NW.warm hW cx.2.2.2.2.2.2.2.2.2⟩⟩ (g := F0 m pc ls stk) rfl hlen hl.1 hstk (lv_room hst) hdg hcs
  refine va_calli run hS (fun q _ h => hF q h) hF (fun v u t H1 locs1 ht2 hvm hp hb hz hk2 hS1 => ?_)
  have hp : v = v0 := hp
  subst hp
  have hb1 : va_P g.1 vwCl (pool g S2) H1 := by rw [← ht2]; exact hb
  obtain ⟨j1, j2⟩ := join_pool hn hP hD hk2 hb1
  exact k H1 locs1 ls j1 j2 hS1 hl
theorem wl_callVl (cx : CxL p s m args meth c cc nL ret own g.1 g.2.1 A) {y : MethodName} {code : ByteArray} {nLy n idx b ci : Nat} {rety : Option FieldType} {rm : Room} {as : List Value} {v0 : Int64} {S S2 : St} {q : vw_C} (hn : npl g = 103) (hM : GOK g → MW l y code nLy rety rm g S (.ref (ad g b) :: as) (QWl g (v0, S2))) (vl : VL own idx y code nLy rety n) (hk : kd g b = ci) (h99 : ci < 99) (hc : vwCl[ci]? = some q) (hq : q.1 = y.cls) (hcell : ∃ fs, cell g S b = .inr (ci, fs)) (hR : rm.frames + 1 ≤ R.frames ∧ 8 + (nLy + 11) + rm.locals ≤ R.locals) (h00 : rm.cells = 0 ∧ rm.slots = 0) (hcs : cells ≤ R.cells ∧ slots ≤ R.slots) (hlen : as.length = n) (hst : (st.map fun v => v.category).sum ≤ 8) (hdg : decode cc pc = .ok (.invokevirtual idx, 3)) {stk : List Value} (hstk : stk = as.reverse ++ .ref (ad g b) :: st) (k : WL p l e R s m args below meth c cells slots Q nL g.1 A (wr ++ pool g S2) (pc + 3) lv (.long v0 :: st)) : WL p l e R s m args below meth c cells slots Q nL g.1 A (wr ++ pool g S) pc lv stk := fun H locs ls hP hD hS hl => by
  have hg := gok_of hn hD
  have hPc : va_P g.1 vwCl (pool g S) H := fun i q hq => hP (wr.length + i) q ((at_app wr _ i).trans hq)
  have hF : ∀ q, Ap g q → A q := fun q h => by
    obtain ⟨i, hi, rfl⟩ := h
    exact hD.2 (wr.length + i) _ ((at_app wr _ i).trans (pool_get hi))
  obtain ⟨⟨v1, v2, v3, v4, v5⟩, v6, v7, v8⟩ := vl
  obtain ⟨b1, b2⟩ := kd_lt hk h99
  obtain ⟨fs, hcell⟩ := hcell
  have cw : CallW R s args own y.cls idx y code nLy rety (wsM y code nLy rety) rm 0 0 n := cwV n cx.2.2.2.2.1 (goodIn_l [.methodLink own idx y, .instanceMethod y, .selects y.cls y y, .initialized y.cls] (fun w hw => by
    rcases List.mem_cons.mp hw with rfl | hw
    · exact v1
    rcases List.mem_cons.mp hw with rfl | hw
    · exact v2
    rcases List.mem_cons.mp hw with rfl | hw
    · exact v3
    rcases List.mem_cons.mp hw with rfl | hw
    · exact v4
    exact absurd hw List.not_mem_nil) (goodIn_ws v5)) rfl h00.1 h00.2 ⟨rfl, v6, v7, v8⟩ hR
  have hrecv := va_recv cx.2.2.2.2.2.1 hPc hc ((pool_get b1).trans (congrArg (fun z => some (ad g b, z)) hcell))
  rw [hq] at hrecv
  have run := va_runV ⟨cx.1, cx.2.1, cx.2.2.1, cx.2.2.2.1, cx.2.2.2.2.1⟩ (l := l) (p := p) (e := e) (below := below) (meth := meth) (locs := locs) (hM hg) cw ⟨PcW_blind, hrecv, fun U hU hW => ⟨rfl, by rw [hU]; exact hPc, va_K.moved hW.alike cx.2.2.2.2.2.1, NW.warm hW cx.2.2.2.2.2.2.2.2.2⟩⟩ (g := F0 m pc ls stk) rfl hlen hl.1 hstk (lv_room hst) hdg hcs
  refine va_calll run hS (fun q _ h => hF q h) hF (fun v u t H1 locs1 ht2 hvm hp hb hz hk2 hS1 => ?_)
  have hp : v = v0 := hp
  subst hp
  have hb1 : va_P g.1 vwCl (pool g S2) H1 := by rw [← ht2]; exact hb
  obtain ⟨j1, j2⟩ := join_pool hn hP hD hk2 hb1
  exact k H1 locs1 ls j1 j2 hS1 hl
theorem wl_callSl (cx : CxL p s m args meth c cc nL ret own g.1 g.2.1 A) {y : MethodName} {code : ByteArray} {nLy n idx : Nat} {rety : Option FieldType} {rm : Room} {as : List Value} {v0 : Int64} {S S2 : St} (hn : npl g = 103) (hM : GOK g → MW l y code nLy rety rm g S as (QWl g (v0, S2))) (vl : SL own idx y code nLy rety n) (hR : rm.frames + 1 ≤ R.frames ∧ 8 + (nLy + 11) + rm.locals ≤ R.locals) (h00 : rm.cells = 0 ∧ rm.slots = 0) (hcs : cells ≤ R.cells ∧ slots ≤ R.slots) (hlen : as.length = n) (hst : (st.map fun v => v.category).sum ≤ 8) (hdg : decode cc pc = .ok (.invokestatic idx, 3)) {stk : List Value} (hstk : stk = as.reverse ++ st) (k : WL p l e R s m args below meth c cells slots Q nL g.1 A (wr ++ pool g S2) (pc + 3) lv (.long v0 :: st)) : WL p l e R s m args below meth c cells slots Q nL g.1 A (wr ++ pool g S) pc lv stk := fun H locs ls hP hD hS hl => by
  have hg := gok_of hn hD
  have hPc : va_P g.1 vwCl (pool g S) H := fun i q hq => hP (wr.length + i) q ((at_app wr _ i).trans hq)
  have hF : ∀ q, Ap g q → A q := fun q h => by
    obtain ⟨i, hi, rfl⟩ := h
    exact hD.2 (wr.length + i) _ ((at_app wr _ i).trans (pool_get hi))
  obtain ⟨⟨v1, v2, v3, v4⟩, v6, v7, v8⟩ := vl
  have ht := cx.2.2.2.2.1
  have run := va_runS ⟨cx.1, cx.2.1, cx.2.2.1, cx.2.2.2.1, ht⟩ (l := l) (p := p) (e := e) (below := below) (meth := meth) (locs := locs) (hM hg) ⟨callB_of n ht (goodIn_ws v4) rfl h00.1 h00.2 (ht _ v3) (ht _ v1) ⟨v6, v7, v8⟩ hR, ht _ v2⟩ ⟨PcW_blind, fun U hU hW => ⟨rfl, by rw [hU]; exact hPc, va_K.moved hW.alike cx.2.2.2.2.2.1, NW.warm hW cx.2.2.2.2.2.2.2.2.2⟩⟩ (g := F0 m pc ls stk) rfl hlen hl.1 hstk (lv_room hst) hdg hcs
  refine va_calll run hS (fun q _ h => hF q h) hF (fun v u t H1 locs1 ht2 hvm hp hb hz hk2 hS1 => ?_)
  have hp : v = v0 := hp
  subst hp
  have hb1 : va_P g.1 vwCl (pool g S2) H1 := by rw [← ht2]; exact hb
  obtain ⟨j1, j2⟩ := join_pool hn hP hD hk2 hb1
  exact k H1 locs1 ls j1 j2 hS1 hl
end WLG
/-! a method over a world and the script -/
def PcGw (D : va_G) (cy : ClassId × ClassId) (ws : va_W) (av : List Value) (sz b Ln : Nat) (xs : Nat → Int32) : Array Value → State → Prop := va_Pc av (fun U => (U.heap.size = sz ∧ va_P D vwCl ws U.heap ∧ va_K D vwCl [(cy.1, .int), (cy.2, .long)] U ∧ NW U ∧ va_D (fun _ => True) ws) ∧ va_X b Ln xs U U.heap ∧ b < sz ∧ ¬ va_A ws sz b)
theorem PcGw_blind {D : va_G} {cy : ClassId × ClassId} {ws : va_W} {av : List Value} {sz b Ln : Nat} {xs : Nat → Int32} : FrameBlind (PcGw D cy ws av sz b Ln xs) := fun a U gf mk q => ⟨q.1, ⟨q.2.1.1, q.2.1.2.1, va_K.moved (u := U) (U := U.calling gf mk a) (Vm.Alike.refl U.vm) q.2.1.2.2.1, NW.same (s := U) (U := U.calling gf mk a) rfl q.2.1.2.2.2.1, q.2.1.2.2.2.2⟩, va_X.moved (u := U) (U := U.calling gf mk a) (Vm.Alike.refl U.vm) q.2.2.1, q.2.2.2⟩
def QcGw (D : va_G) (ws : va_W) (sz : Nat) (ws2 : va_W) (v0 : Int32) : Array Value → State → Outcome → State → Prop := va_Qi (fun v (_ : Unit) => v = v0) (fun _ t => va_P D vwCl ws2 t.heap ∧ va_D (va_A ws sz) ws2) (va_A ws sz)
def MGw (l : Launch) (y : MethodName) (code : ByteArray) (nL : Nat) (rety : Option FieldType) (rm : Room) (D : va_G) (cy : ClassId × ClassId) (ws : va_W) (b Ln : Nat) (xs : Nat → Int32) (av : List Value) (v0 : Int32) (ws2 : va_W) : Prop := ∀ sz, Met l y (wsM y code nL rety) rm (PcGw D cy ws av sz b Ln xs) (QcGw D ws sz ws2 v0) 0 0 (va_A ws sz)
theorem startGw {l : Launch} {y : MethodName} {code : ByteArray} {nL : Nat} {rety : Option FieldType} {rm : Room} {D : va_G} {cy : ClassId × ClassId} {ws ws2 : va_W} {b Ln : Nat} {xs : Nat → Int32} {av : List Value} {v0 : Int32} (lv : List (Nat × Value)) (hy : plainName y.cls = true) (hav : (lg_sl av).length ≤ nL) (hlv : lv_args 0 av = lv)
    (body : ∀ (sz : Nat) (p : Program) (e : Env) (s : State) (m : MethodId) (args : Array Value) (below : List Frame) (meth : Method) (c : Code), CxL p s m args meth c code nL rety y.cls D cy (va_A ws sz) → va_X b Ln xs s s.heap → b < s.heap.size → ¬ va_A ws sz b → WL p l e rm s m args below meth c 0 0 (MQ below (QcGw D ws sz ws2 v0) args s 0 0 (va_A ws sz)) nL D (va_A ws sz) ws 0 lv []) : MGw l y code nL rety rm D cy ws b Ln xs av v0 ws2 := by
  intro sz
  refine Met.ofW (cc := code) (maxL := nL) (ret := rety) hy rfl ?_
  intro p e s m args below meth c s₁ B hml hv
  obtain ⟨rfl, ⟨hsz, hP, hK, hN, hD⟩, hX, hbs, hbA⟩ := hv
  have hts := atoms_spec (ws := wsM y code nL rety) B.pre
  have cx : CxL p s m av.toArray meth c code nL rety y.cls D cy (va_A ws sz) := ⟨B.exec, B.bytes, hml, findClass_of_methodNamed B.named, fun w h => hts w (List.mem_cons_of_mem _ h), hK, fun q h => Or.inr (by omega), B.returns, B.notSynchronized, hN⟩
  have hl := lv_entry av (n := nL) hav
  rw [lg_entry_eq]
  generalize (lg_sl av ++ List.replicate (nL - (lg_sl av).length) Slot.unset).toArray = ls at hl ⊢
  rw [hlv] at hl
  exact body sz p e s m _ below meth c cx hX (by omega) hbA s.heap [] ls hP hD.self va_S.rf hl
section WLG2
variable {p : Program} {l : Launch} {e : Env} {R : Room} {s : State} {m : MethodId} {args : Array Value} {below : List Frame} {meth : Method} {c : Code} {cells slots : Nat} {Q : State → Prop} {cc : ByteArray} {nL : Nat} {ret : Option FieldType} {own : String} {D : va_G} {cy : ClassId × ClassId} {A : Nat → Prop}
variable {wr wc w2 : va_W} {pc : Nat} {lv : List (Nat × Value)} {st : List Value}
theorem wl_callG (cx : CxL p s m args meth c cc nL ret own D cy A) {y : MethodName} {code : ByteArray} {nLy n idx b Ln : Nat} {xs : Nat → Int32} {rety : Option FieldType} {rm : Room} {as : List Value} {v0 : Int32} (hX : va_X b Ln xs s s.heap) (hbl : b < s.heap.size) (hbA : ¬ A b) (hM : MGw l y code nLy rety rm D cy wc b Ln xs as v0 w2) (vl : SL own idx y code nLy rety n) (hR : rm.frames + 1 ≤ R.frames ∧ 8 + (nLy + 11) + rm.locals ≤ R.locals) (h00 : rm.cells = 0 ∧ rm.slots = 0) (hcs : cells ≤ R.cells ∧ slots ≤ R.slots) (hlen : as.length = n) (hst : (st.map fun v => v.category).sum ≤ 8) (hdg : decode cc pc = .ok (.invokestatic idx, 3)) {stk : List Value} (hstk : stk = as.reverse ++ st) (k : WL p l e R s m args below meth c cells slots Q nL D A (wr ++ w2) (pc + 3) lv (.int v0 :: st)) : WL p l e R s m args below meth c cells slots Q nL D A (wr ++ wc) pc lv stk := fun H locs ls hP hD hS hl => by
  obtain ⟨⟨v1, v2, v3, v4⟩, v6, v7, v8⟩ := vl
  have ht := cx.2.2.2.2.1
  have hPc : va_P D vwCl wc H := fun i q hq => hP (wr.length + i) q ((at_app wr _ i).trans hq)
  have hDc : va_D (fun _ => True) wc := ⟨fun i j p q hi hj h => by
    have := hD.1 (wr.length + i) (wr.length + j) p q ((at_app wr _ i).trans hi) ((at_app wr _ j).trans hj) h
    omega, fun _ _ _ => trivial⟩
  have hF : ∀ q, va_A wc H.size q → A q := fun q h => by
    rcases h with ⟨i, e2, h⟩ | h
    · exact hD.2 (wr.length + i) (q, e2) ((at_app wr _ i).trans h)
    · exact cx.2.2.2.2.2.2.1 q (Nat.le_trans hS.1 h)
  have hbH : b < H.size := Nat.lt_of_lt_of_le hbl hS.1
  have hXH : va_X b Ln xs s H := va_X.kept hX (hS.2.1 b hbl hbA)
  have run := va_runS ⟨cx.1, cx.2.1, cx.2.2.1, cx.2.2.2.1, ht⟩ (l := l) (p := p) (e := e) (below := below) (meth := meth) (locs := locs) (hM H.size) ⟨callB_of n ht (goodIn_ws v4) rfl h00.1 h00.2 (ht _ v3) (ht _ v1) ⟨v6, v7, v8⟩ hR, ht _ v2⟩ ⟨PcGw_blind, fun U hU hW => ⟨rfl, ⟨by rw [hU], by rw [hU]; exact hPc, va_K.moved hW.alike cx.2.2.2.2.2.1, NW.warm hW cx.2.2.2.2.2.2.2.2.2, hDc⟩, va_X.moved hW.alike (by rw [hU]; exact hXH), hbH, fun h => hbA (hF b h)⟩⟩ (g := F0 m pc ls stk) rfl hlen hl.1 hstk (lv_room hst) hdg hcs
  refine va_calli run hS (fun q _ h => hF q h) hF (fun v u t H1 locs1 ht2 hvm hp hb hz hk hS1 => ?_)
  have hp : v = v0 := hp
  subst hp
  have hb1 : va_P D vwCl w2 H1 := by rw [← ht2]; exact hb.1
  obtain ⟨j1, j2⟩ := join_app hP hD hk hF hb1 hb.2
  exact k H1 locs1 ls j1 j2 hS1 hl
end WLG2
section WLG3
variable {p : Program} {l : Launch} {e : Env} {R : Room} {s : State} {m : MethodId} {args : Array Value} {below : List Frame} {meth : Method} {c : Code} {cc : ByteArray} {nL : Nat} {own : String} {D : va_G} {cy : ClassId × ClassId}
variable {ws0 ws ws2 : va_W} {sz pc : Nat} {lv : List (Nat × Value)}
theorem wl_iretG (cx : CxL p s m args meth c cc nL (some .int) own D cy (va_A ws0 sz)) {x v0 : Int32} (hdg : decode cc pc = .ok (.ireturn, 1)) (hv : x = v0) (hws : ws = ws2) : WL p l e R s m args below meth c 0 0 (MQ below (QcGw D ws0 sz ws2 v0) args s 0 0 (va_A ws0 sz)) nL D (va_A ws0 sz) ws pc lv [.int x] := fun H locs ls hP hD hS hl => by
  subst hv
  subst hws
  exact W.iret cx.1 cx.2.1 cx.2.2.2.2.2.2.2.1 (fun t ht hW => ⟨⟨x, (), rfl, rfl, ⟨by rw [ht]; exact hP, hD⟩⟩, hS.F ht⟩) hS.2.2 hdg cx.2.2.2.2.2.2.2.2.1
theorem wl_zretG (cx : CxL p s m args meth c cc nL (some .boolean) own D cy (va_A ws0 sz)) {x v0 : Int32} (hx : x = 0 ∨ x = 1) (hdg : decode cc pc = .ok (.ireturn, 1)) (hv : x = v0) (hws : ws = ws2) : WL p l e R s m args below meth c 0 0 (MQ below (QcGw D ws0 sz ws2 v0) args s 0 0 (va_A ws0 sz)) nL D (va_A ws0 sz) ws pc lv [.int x] := fun H locs ls hP hD hS hl => by
  subst hv
  subst hws
  exact W.zret cx.1 cx.2.1 cx.2.2.2.2.2.2.2.1 (by rcases hx with rfl | rfl <;> decide) (fun t ht hW => ⟨⟨x, (), rfl, rfl, ⟨by rw [ht]; exact hP, hD⟩⟩, hS.F ht⟩) hS.2.2 hdg cx.2.2.2.2.2.2.2.2.1
end WLG3
